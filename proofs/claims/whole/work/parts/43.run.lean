set_option maxRecDepth 100000 in
set_option maxHeartbeats 4000000 in
theorem e_X11_count (Γ : GT) (a1 : Int32) (s : St)  : E RX11 cX11_count 2 (some .int) 7 WC Γ emIS 0 [(0, .ref (Γ.2.1 0)), (1, .int a1)] [] s (f_X11_count a1 s) := by
  unfold f_X11_count
  refine E_iload_n 1 dX11_count_0 rfl rfl ?_
  refine E_case 0 (fun hc0 => ?_) (fun hc0 => ?_)
  · refine E_tswIn (k := 0) 52 dX11_count_1 hc0 (by decide) (by decide) rfl (by decide) ?_
    refine E_aload_n 0 dX11_count_52 rfl rfl ?_
    refine E_getR 1 (j := 0) (ci := 11) (T := TX11) (C0 := RX11) (ref := "SameWrong") dX11_count_53 rfl (by decide) rfl inX11 (by decide) kw_316 rfl rfl rfl ?_
    refine E_getI (j := 2) (ci := 4) (T := TX4) (C0 := RX4) (ref := "SameWrong$Key") dX11_count_56 rfl (by decide) rfl inX4 (by decide) kw_41 rfl rfl ?_
    exact E_ireturn dX11_count_59 rfl rfl
  refine E_case 1 (fun hc1 => ?_) (fun hc1 => ?_)
  · refine E_tswIn (k := 1) 60 dX11_count_1 hc1 (by decide) (by decide) rfl (by decide) ?_
    refine E_aload_n 0 dX11_count_60 rfl rfl ?_
    refine E_getR 1 (j := 0) (ci := 11) (T := TX11) (C0 := RX11) (ref := "SameWrong") dX11_count_61 rfl (by decide) rfl inX11 (by decide) kw_316 rfl rfl rfl ?_
    refine E_getI (j := 4) (ci := 4) (T := TX4) (C0 := RX4) (ref := "SameWrong$Key") dX11_count_64 rfl (by decide) rfl inX4 (by decide) kw_48 rfl rfl ?_
    exact E_ireturn dX11_count_67 rfl rfl
  refine E_case 2 (fun hc2 => ?_) (fun hc2 => ?_)
  · refine E_tswIn (k := 2) 68 dX11_count_1 hc2 (by decide) (by decide) rfl (by decide) ?_
    refine E_aload_n 0 dX11_count_68 rfl rfl ?_
    refine E_getR 2 (j := 1) (ci := 11) (T := TX11) (C0 := RX11) (ref := "SameWrong") dX11_count_69 rfl (by decide) rfl inX11 (by decide) kw_317 rfl rfl rfl ?_
    refine E_getI (j := 0) (ci := 7) (T := TX7) (C0 := RX7) (ref := "SameWrong$Room") dX11_count_72 rfl (by decide) rfl inX7 (by decide) kw_76 rfl rfl ?_
    exact E_ireturn dX11_count_75 rfl rfl
  refine E_case 3 (fun hc3 => ?_) (fun hc3 => ?_)
  · refine E_tswIn (k := 3) 76 dX11_count_1 hc3 (by decide) (by decide) rfl (by decide) ?_
    refine E_aload_n 0 dX11_count_76 rfl rfl ?_
    refine E_getR 3 (j := 2) (ci := 11) (T := TX11) (C0 := RX11) (ref := "SameWrong") dX11_count_77 rfl (by decide) rfl inX11 (by decide) kw_318 rfl rfl rfl ?_
    refine E_getI (j := 0) (ci := 10) (T := TX10) (C0 := RX10) (ref := "SameWrong$Tellings") dX11_count_80 rfl (by decide) rfl inX10 (by decide) kw_95 rfl rfl ?_
    exact E_ireturn dX11_count_83 rfl rfl
  refine E_case 4 (fun hc4 => ?_) (fun hc4 => ?_)
  · refine E_tswIn (k := 4) 84 dX11_count_1 hc4 (by decide) (by decide) rfl (by decide) ?_
    refine E_aload_n 0 dX11_count_84 rfl rfl ?_
    refine E_callVI (T := TX11) (ci := 11) [] [] dX11_count_85 rfl kw_827 kw_829 kp_20 kw_1 ko_X11_answersGiven rfl hy_X11_answersGiven rfl (by decide) (Nat.le_of_ble_eq_true rfl) rfl (by decide) rfl (c_X11_answersGiven Γ s) (fun v1 => ?_)
    exact E_ireturn dX11_count_88 rfl rfl
  refine E_case 5 (fun hc5 => ?_) (fun hc5 => ?_)
  · refine E_tswIn (k := 5) 89 dX11_count_1 hc5 (by decide) (by decide) rfl (by decide) ?_
    refine E_aload_n 0 dX11_count_89 rfl rfl ?_
    refine E_getR 4 (j := 3) (ci := 11) (T := TX11) (C0 := RX11) (ref := "SameWrong") dX11_count_90 rfl (by decide) rfl inX11 (by decide) kw_319 rfl rfl rfl ?_
    refine E_callVI (T := TX5) (ci := 5) [] [] dX11_count_93 rfl kw_831 kw_832 kw_833 kw_6 ko_X5_together rfl hy_X5_together rfl (by decide) (Nat.le_of_ble_eq_true rfl) rfl (by decide) rfl (c_X5_together Γ s) (fun v2 => ?_)
    exact E_ireturn dX11_count_96 rfl rfl
  refine E_case 6 (fun hc6 => ?_) (fun hc6 => ?_)
  · refine E_tswIn (k := 6) 97 dX11_count_1 hc6 (by decide) (by decide) rfl (by decide) ?_
    refine E_aload_n 0 dX11_count_97 rfl rfl ?_
    refine E_getR 6 (j := 5) (ci := 11) (T := TX11) (C0 := RX11) (ref := "SameWrong") dX11_count_98 rfl (by decide) rfl inX11 (by decide) kw_321 rfl rfl rfl ?_
    refine E_callVIS (T := TX6) (ci := 6) [] [] dX11_count_101 rfl kw_835 kw_836 kw_837 kw_8 ko_X6_oddPairs rfl hy_X6_oddPairs rfl (by decide) (Nat.le_of_ble_eq_true rfl) rfl (by decide) rfl (c_X6_oddPairs Γ s) (fun p3 => ?_)
    exact E_ireturn dX11_count_104 rfl rfl
  refine E_case 7 (fun hc7 => ?_) (fun hc7 => ?_)
  · refine E_tswIn (k := 7) 105 dX11_count_1 hc7 (by decide) (by decide) rfl (by decide) ?_
    refine E_aload_n 0 dX11_count_105 rfl rfl ?_
    refine E_getR 5 (j := 4) (ci := 11) (T := TX11) (C0 := RX11) (ref := "SameWrong") dX11_count_106 rfl (by decide) rfl inX11 (by decide) kw_320 rfl rfl rfl ?_
    refine E_sipush (v := 1023) dX11_count_109 (by decide) ?_
    refine E_iconst (v := 0) dX11_count_112 (by decide) ?_
    refine E_callVI (T := TX8) (ci := 8) [.int 1023, .int 0] [] dX11_count_113 rfl kw_687 kw_651 kw_652 kw_7 ko_X8_countOf rfl hy_X8_countOf rfl (by decide) (Nat.le_of_ble_eq_true rfl) rfl (by decide) rfl (c_X8_countOf Γ 1023 0 s) (fun v4 => ?_)
    exact E_ireturn dX11_count_116 rfl rfl
  refine E_case 8 (fun hc8 => ?_) (fun hc8 => ?_)
  · refine E_tswIn (k := 8) 117 dX11_count_1 hc8 (by decide) (by decide) rfl (by decide) ?_
    refine E_aload_n 0 dX11_count_117 rfl rfl ?_
    refine E_getI (j := 11) (ci := 11) (T := TX11) (C0 := RX11) (ref := "SameWrong") dX11_count_118 rfl (by decide) rfl inX11 (by decide) kw_327 rfl rfl ?_
    exact E_ireturn dX11_count_121 rfl rfl
  refine E_tswOut (x0 := a1) (n := 9) 122 dX11_count_1 (by decide) (by decide) (fun k hk => match k, hk with | 0, _ => hc0 | 1, _ => hc1 | 2, _ => hc2 | 3, _ => hc3 | 4, _ => hc4 | 5, _ => hc5 | 6, _ => hc6 | 7, _ => hc7 | 8, _ => hc8 | z + 9, h => absurd h (by omega)) (by decide) ?_
  refine E_bipush (v := (-2)) dX11_count_122 (by decide) ?_
  exact E_ireturn dX11_count_124 rfl rfl
theorem c_X11_count (Γ : GT) (a1 : Int32) (s : St)  (x : (Int32 × St)) (h : f_X11_count a1 s = some x) (l : Launch) : MC l yX11_count cX11_count 2 (some .int) 7 WC Γ [.ref (Γ.2.1 0), .int a1] s (emIS x) := MC_of (by decide +kernel) (Nat.le_of_ble_eq_true rfl) (e_X11_count Γ a1 s ) h l
set_option maxRecDepth 100000 in
set_option maxHeartbeats 4000000 in
theorem e_X11_withPupil (Γ : GT) (a1 : Int64) (a3 : Int32) (s : St)  : E RX11 cX11_withPupil 7 (some .long) 6 WC Γ emLS 0 [(0, .ref (Γ.2.1 0)), (1, .long a1), (3, .int a3)] [] s (f_X11_withPupil a1 a3 s) := by
  unfold f_X11_withPupil
  refine E_lload_n 1 dX11_withPupil_0 rfl rfl ?_
  refine E_lstore [(4, .long a1), (0, .ref (Γ.2.1 0)), (1, .long a1), (3, .int a3)] dX11_withPupil_1 (by decide) rfl ?_
  refine E_iconst (v := 0) dX11_withPupil_3 (by decide) ?_
  refine E_istore [(6, .int 0), (4, .long a1), (0, .ref (Γ.2.1 0)), (1, .long a1), (3, .int a3)] dX11_withPupil_4 (by decide) rfl ?_
  refine E_jn 35 (fun (y : Int64 × St) => [(4, .long y.1), (0, .ref (Γ.2.1 0)), (3, .int a3)]) (fun (y : Int64 × St) => []) (fun (y : Int64 × St) => y.2) ?_ ?_
  · intro y2
    refine E_iconst (v := 0) dX11_withPupil_35 (by decide) ?_
    refine E_istore [(6, .int 0), (4, .long y2.1), (0, .ref (Γ.2.1 0)), (3, .int a3)] dX11_withPupil_36 (by decide) rfl ?_
    refine E_lp (F := L_X11_withPupil_38 a3 y2) (fun (x : Int32 × Int64) => [(6, .int x.1), (4, .long x.2), (0, .ref (Γ.2.1 0)), (3, .int a3)]) (fun (x : Int32 × Int64) => y2.2) ?_ NN (0, y2.1)
    intro r3 hr3 x4
    show E _ _ _ _ _ _ _ _ _ _ _ _ (L_X11_withPupil_38 a3 y2 r3 x4)
    unfold L_X11_withPupil_38
    refine E_iload 0 dX11_withPupil_38 rfl ?_
    refine E_iconst (v := 2) dX11_withPupil_40 (by decide) ?_
    refine E_icmpgt 67 dX11_withPupil_41 (by decide) ?_ ?_
    · refine E_lload 1 dX11_withPupil_67 rfl ?_
      exact E_lreturn dX11_withPupil_69 rfl rfl
    · refine E_ldc2 (v := 31) dX11_withPupil_44 kw_845 ?_
      refine E_lload 1 dX11_withPupil_47 rfl ?_
      refine E_lmul dX11_withPupil_49 ?_
      refine E_aload_n 2 dX11_withPupil_50 rfl rfl ?_
      refine E_iload_n 3 dX11_withPupil_51 rfl rfl ?_
      refine E_iload 0 dX11_withPupil_52 rfl ?_
      refine E_callVI (T := TX11) (ci := 11) [.int a3, .int x4.1] [.long (31 * x4.2)] dX11_withPupil_54 rfl kw_853 kw_684 kw_685 kw_1 ko_X11_rubbed rfl hy_X11_rubbed rfl (by decide) (Nat.le_of_ble_eq_true rfl) rfl (by decide) rfl (c_X11_rubbed Γ a3 x4.1 y2.2) (fun v5 => ?_)
      refine E_i2l dX11_withPupil_57 ?_
      refine E_ladd dX11_withPupil_58 ?_
      refine E_lstore [(4, .long ((31 * x4.2) + v5.toInt64)), (6, .int x4.1), (0, .ref (Γ.2.1 0)), (3, .int a3)] dX11_withPupil_59 (by decide) rfl ?_
      refine E_bl (fun v6 => [(4, .long v6), (6, .int x4.1), (0, .ref (Γ.2.1 0)), (3, .int a3)]) (fun v6 => ?_) ((31 * x4.2) + v5.toInt64)
      refine E_iinc 1 [(6, .int (x4.1 + 1)), (4, .long v6), (0, .ref (Γ.2.1 0)), (3, .int a3)] dX11_withPupil_61 rfl rfl (by decide) rfl ?_
      refine E_goto 38 dX11_withPupil_64 (by decide) ?_
      exact hr3 (x4.1 + 1, v6)
  · intro K1 hK1
    refine E_lvsub [0, 1, 2, 4] [(6, .int 0), (4, .long a1), (0, .ref (Γ.2.1 0)), (3, .int a3)] rfl ?_
    refine E_lp (F := L_X11_withPupil_6 a3 K1) (fun (x : Int32 × Int64 × St) => [(6, .int x.1), (4, .long x.2.1), (0, .ref (Γ.2.1 0)), (3, .int a3)]) (fun (x : Int32 × Int64 × St) => x.2.2) ?_ NN (0, a1, s)
    intro r7 hr7 x8
    show E _ _ _ _ _ _ _ _ _ _ _ _ (L_X11_withPupil_6 a3 K1 r7 x8)
    unfold L_X11_withPupil_6
    refine E_iload 0 dX11_withPupil_6 rfl ?_
    refine E_iconst (v := 3) dX11_withPupil_8 (by decide) ?_
    refine E_icmpgt 35 dX11_withPupil_9 (by decide) ?_ ?_
    · refine E_lvsub [1, 2, 3] [(4, .long x8.2.1), (0, .ref (Γ.2.1 0)), (3, .int a3)] rfl ?_
      exact hK1 (x8.2.1, x8.2.2)
    · refine E_ldc2 (v := 31) dX11_withPupil_12 kw_845 ?_
      refine E_lload 1 dX11_withPupil_15 rfl ?_
      refine E_lmul dX11_withPupil_17 ?_
      refine E_aload_n 2 dX11_withPupil_18 rfl rfl ?_
      refine E_iload_n 3 dX11_withPupil_19 rfl rfl ?_
      refine E_iload 0 dX11_withPupil_20 rfl ?_
      refine E_callVIS (T := TX11) (ci := 11) [.int a3, .int x8.1] [.long (31 * x8.2.1)] dX11_withPupil_22 rfl kw_852 kw_483 kw_484 kw_1 ko_X11_mark rfl hy_X11_mark rfl (by decide) (Nat.le_of_ble_eq_true rfl) rfl (by decide) rfl (c_X11_mark Γ a3 x8.1 x8.2.2) (fun p9 => ?_)
      refine E_i2l dX11_withPupil_25 ?_
      refine E_ladd dX11_withPupil_26 ?_
      refine E_lstore [(4, .long ((31 * x8.2.1) + p9.1.toInt64)), (6, .int x8.1), (0, .ref (Γ.2.1 0)), (3, .int a3)] dX11_withPupil_27 (by decide) rfl ?_
      refine E_bl (fun v10 => [(4, .long v10), (6, .int x8.1), (0, .ref (Γ.2.1 0)), (3, .int a3)]) (fun v10 => ?_) ((31 * x8.2.1) + p9.1.toInt64)
      refine E_iinc 1 [(6, .int (x8.1 + 1)), (4, .long v10), (0, .ref (Γ.2.1 0)), (3, .int a3)] dX11_withPupil_29 rfl rfl (by decide) rfl ?_
      refine E_goto 6 dX11_withPupil_32 (by decide) ?_
      exact hr7 (x8.1 + 1, v10, p9.2)
theorem c_X11_withPupil (Γ : GT) (a1 : Int64) (a3 : Int32) (s : St)  (x : (Int64 × St)) (h : f_X11_withPupil a1 a3 s = some x) (l : Launch) : MC l yX11_withPupil cX11_withPupil 7 (some .long) 6 WC Γ [.ref (Γ.2.1 0), .long a1, .int a3] s (emLS x) := MC_of (by decide +kernel) (Nat.le_of_ble_eq_true rfl) (e_X11_withPupil Γ a1 a3 s ) h l
set_option maxRecDepth 100000 in
set_option maxHeartbeats 4000000 in
theorem e_X11_withQuestion (Γ : GT) (a1 : Int64) (a3 : Int32) (s : St)  : E RX11 cX11_withQuestion 6 (some .long) 6 WC Γ emLS 0 [(0, .ref (Γ.2.1 0)), (1, .long a1), (3, .int a3)] [] s (f_X11_withQuestion a1 a3 s) := by
  unfold f_X11_withQuestion
  refine E_ldc2 (v := 31) dX11_withQuestion_0 kw_845 ?_
  refine E_lload_n 1 dX11_withQuestion_3 rfl rfl ?_
  refine E_lmul dX11_withQuestion_4 ?_
  refine E_aload_n 0 dX11_withQuestion_5 rfl rfl ?_
  refine E_iload_n 2 dX11_withQuestion_6 rfl rfl ?_
  refine E_callVI (T := TX11) (ci := 11) [.int a3] [.long (31 * a1)] dX11_withQuestion_7 rfl kw_862 kw_397 kw_398 kw_1 ko_X11_key rfl hy_X11_key rfl (by decide) (Nat.le_of_ble_eq_true rfl) rfl (by decide) rfl (c_X11_key Γ a3 s) (fun v1 => ?_)
  refine E_i2l dX11_withQuestion_10 ?_
  refine E_ladd dX11_withQuestion_11 ?_
  refine E_lstore [(4, .long ((31 * a1) + v1.toInt64)), (0, .ref (Γ.2.1 0)), (1, .long a1), (3, .int a3)] dX11_withQuestion_12 (by decide) rfl ?_
  refine E_bl (fun v2 => [(4, .long v2), (0, .ref (Γ.2.1 0)), (1, .long a1), (3, .int a3)]) (fun v2 => ?_) ((31 * a1) + v1.toInt64)
  refine E_ldc2 (v := 31) dX11_withQuestion_14 kw_845 ?_
  refine E_lload 0 dX11_withQuestion_17 rfl ?_
  refine E_lmul dX11_withQuestion_19 ?_
  refine E_aload_n 1 dX11_withQuestion_20 rfl rfl ?_
  refine E_iload_n 3 dX11_withQuestion_21 rfl rfl ?_
  refine E_callVI (T := TX11) (ci := 11) [.int a3] [.long (31 * v2)] dX11_withQuestion_22 rfl kw_863 kw_731 kw_732 kw_1 ko_X11_should rfl hy_X11_should rfl (by decide) (Nat.le_of_ble_eq_true rfl) rfl (by decide) rfl (c_X11_should Γ a3 s) (fun v3 => ?_)
  refine E_i2l dX11_withQuestion_25 ?_
  refine E_ladd dX11_withQuestion_26 ?_
  refine E_lstore [(4, .long ((31 * v2) + v3.toInt64)), (0, .ref (Γ.2.1 0)), (1, .long a1), (3, .int a3)] dX11_withQuestion_27 (by decide) rfl ?_
  refine E_bl (fun v4 => [(4, .long v4), (0, .ref (Γ.2.1 0)), (1, .long a1), (3, .int a3)]) (fun v4 => ?_) ((31 * v2) + v3.toInt64)
  refine E_ldc2 (v := 31) dX11_withQuestion_29 kw_845 ?_
  refine E_lload 0 dX11_withQuestion_32 rfl ?_
  refine E_lmul dX11_withQuestion_34 ?_
  refine E_aload_n 1 dX11_withQuestion_35 rfl rfl ?_
  refine E_iload_n 3 dX11_withQuestion_36 rfl rfl ?_
  refine E_iconst (v := 0) dX11_withQuestion_37 (by decide) ?_
  refine E_callVIS (T := TX11) (ci := 11) [.int a3, .int 0] [.long (31 * v4)] dX11_withQuestion_38 rfl kw_864 kw_745 kw_746 kw_1 ko_X11_without rfl hy_X11_without rfl (by decide) (Nat.le_of_ble_eq_true rfl) rfl (by decide) rfl (c_X11_without Γ a3 0 s) (fun p5 => ?_)
  refine E_i2l dX11_withQuestion_41 ?_
  refine E_ladd dX11_withQuestion_42 ?_
  refine E_lstore [(4, .long ((31 * v4) + p5.1.toInt64)), (0, .ref (Γ.2.1 0)), (1, .long a1), (3, .int a3)] dX11_withQuestion_43 (by decide) rfl ?_
  refine E_bl (fun v6 => [(4, .long v6), (0, .ref (Γ.2.1 0)), (1, .long a1), (3, .int a3)]) (fun v6 => ?_) ((31 * v4) + p5.1.toInt64)
  refine E_ldc2 (v := 31) dX11_withQuestion_45 kw_845 ?_
  refine E_lload 0 dX11_withQuestion_48 rfl ?_
  refine E_lmul dX11_withQuestion_50 ?_
  refine E_aload_n 1 dX11_withQuestion_51 rfl rfl ?_
  refine E_iload_n 3 dX11_withQuestion_52 rfl rfl ?_
  refine E_iconst (v := 1) dX11_withQuestion_53 (by decide) ?_
  refine E_callVIS (T := TX11) (ci := 11) [.int a3, .int 1] [.long (31 * v6)] dX11_withQuestion_54 rfl kw_864 kw_745 kw_746 kw_1 ko_X11_without rfl hy_X11_without rfl (by decide) (Nat.le_of_ble_eq_true rfl) rfl (by decide) rfl (c_X11_without Γ a3 1 p5.2) (fun p7 => ?_)
  refine E_i2l dX11_withQuestion_57 ?_
  refine E_ladd dX11_withQuestion_58 ?_
  refine E_lstore [(4, .long ((31 * v6) + p7.1.toInt64)), (0, .ref (Γ.2.1 0)), (1, .long a1), (3, .int a3)] dX11_withQuestion_59 (by decide) rfl ?_
  refine E_bl (fun v8 => [(4, .long v8), (0, .ref (Γ.2.1 0)), (1, .long a1), (3, .int a3)]) (fun v8 => ?_) ((31 * v6) + p7.1.toInt64)
  refine E_ldc2 (v := 31) dX11_withQuestion_61 kw_845 ?_
  refine E_lload 0 dX11_withQuestion_64 rfl ?_
  refine E_lmul dX11_withQuestion_66 ?_
  refine E_aload_n 1 dX11_withQuestion_67 rfl rfl ?_
  refine E_iload_n 3 dX11_withQuestion_68 rfl rfl ?_
  refine E_iconst (v := 0) dX11_withQuestion_69 (by decide) ?_
  refine E_callVLS (T := TX11) (ci := 11) [.int a3, .int 0] [.long (31 * v8)] dX11_withQuestion_70 rfl kw_865 kw_759 kw_760 kw_1 ko_X11_hard rfl hy_X11_hard rfl (by decide) (Nat.le_of_ble_eq_true rfl) rfl (by decide) rfl (c_X11_hard Γ a3 0 p7.2) (fun p9 => ?_)
  refine E_ladd dX11_withQuestion_73 ?_
  refine E_lstore [(4, .long ((31 * v8) + p9.1)), (0, .ref (Γ.2.1 0)), (1, .long a1), (3, .int a3)] dX11_withQuestion_74 (by decide) rfl ?_
  refine E_bl (fun v10 => [(4, .long v10), (0, .ref (Γ.2.1 0)), (1, .long a1), (3, .int a3)]) (fun v10 => ?_) ((31 * v8) + p9.1)
  refine E_ldc2 (v := 31) dX11_withQuestion_76 kw_845 ?_
  refine E_lload 0 dX11_withQuestion_79 rfl ?_
  refine E_lmul dX11_withQuestion_81 ?_
  refine E_aload_n 1 dX11_withQuestion_82 rfl rfl ?_
  refine E_iload_n 3 dX11_withQuestion_83 rfl rfl ?_
  refine E_iconst (v := 1) dX11_withQuestion_84 (by decide) ?_
  refine E_callVLS (T := TX11) (ci := 11) [.int a3, .int 1] [.long (31 * v10)] dX11_withQuestion_85 rfl kw_865 kw_759 kw_760 kw_1 ko_X11_hard rfl hy_X11_hard rfl (by decide) (Nat.le_of_ble_eq_true rfl) rfl (by decide) rfl (c_X11_hard Γ a3 1 p9.2) (fun p11 => ?_)
  refine E_ladd dX11_withQuestion_88 ?_
  refine E_lstore [(4, .long ((31 * v10) + p11.1)), (0, .ref (Γ.2.1 0)), (1, .long a1), (3, .int a3)] dX11_withQuestion_89 (by decide) rfl ?_
  refine E_bl (fun v12 => [(4, .long v12), (0, .ref (Γ.2.1 0)), (1, .long a1), (3, .int a3)]) (fun v12 => ?_) ((31 * v10) + p11.1)
  refine E_ldc2 (v := 31) dX11_withQuestion_91 kw_845 ?_
  refine E_lload 0 dX11_withQuestion_94 rfl ?_
  refine E_lmul dX11_withQuestion_96 ?_
  refine E_aload_n 1 dX11_withQuestion_97 rfl rfl ?_
  refine E_iload_n 3 dX11_withQuestion_98 rfl rfl ?_
  refine E_iconst (v := 0) dX11_withQuestion_99 (by decide) ?_
  refine E_callVLS (T := TX11) (ci := 11) [.int a3, .int 0] [.long (31 * v12)] dX11_withQuestion_100 rfl kw_866 kw_763 kw_764 kw_1 ko_X11_parts rfl hy_X11_parts rfl (by decide) (Nat.le_of_ble_eq_true rfl) rfl (by decide) rfl (c_X11_parts Γ a3 0 p11.2) (fun p13 => ?_)
  refine E_ladd dX11_withQuestion_103 ?_
  refine E_lstore [(4, .long ((31 * v12) + p13.1)), (0, .ref (Γ.2.1 0)), (1, .long a1), (3, .int a3)] dX11_withQuestion_104 (by decide) rfl ?_
  refine E_bl (fun v14 => [(4, .long v14), (0, .ref (Γ.2.1 0)), (1, .long a1), (3, .int a3)]) (fun v14 => ?_) ((31 * v12) + p13.1)
  refine E_ldc2 (v := 31) dX11_withQuestion_106 kw_845 ?_
  refine E_lload 0 dX11_withQuestion_109 rfl ?_
  refine E_lmul dX11_withQuestion_111 ?_
  refine E_aload_n 1 dX11_withQuestion_112 rfl rfl ?_
  refine E_iload_n 3 dX11_withQuestion_113 rfl rfl ?_
  refine E_iconst (v := 1) dX11_withQuestion_114 (by decide) ?_
  refine E_callVLS (T := TX11) (ci := 11) [.int a3, .int 1] [.long (31 * v14)] dX11_withQuestion_115 rfl kw_866 kw_763 kw_764 kw_1 ko_X11_parts rfl hy_X11_parts rfl (by decide) (Nat.le_of_ble_eq_true rfl) rfl (by decide) rfl (c_X11_parts Γ a3 1 p13.2) (fun p15 => ?_)
  refine E_ladd dX11_withQuestion_118 ?_
  exact E_lreturn dX11_withQuestion_119 rfl rfl
theorem c_X11_withQuestion (Γ : GT) (a1 : Int64) (a3 : Int32) (s : St)  (x : (Int64 × St)) (h : f_X11_withQuestion a1 a3 s = some x) (l : Launch) : MC l yX11_withQuestion cX11_withQuestion 6 (some .long) 6 WC Γ [.ref (Γ.2.1 0), .long a1, .int a3] s (emLS x) := MC_of (by decide +kernel) (Nat.le_of_ble_eq_true rfl) (e_X11_withQuestion Γ a1 a3 s ) h l
set_option maxRecDepth 100000 in
set_option maxHeartbeats 4000000 in
theorem e_X11_digest (Γ : GT)  (s : St)  : E RX11 cX11_digest 4 (some .long) 17 WC Γ emLS 0 [(0, .ref (Γ.2.1 0))] [] s (f_X11_digest  s) := by
  unfold f_X11_digest
  refine E_ldc2 (v := 17) dX11_digest_0 kw_844 ?_
  refine E_lstore_n [(1, .long 17), (0, .ref (Γ.2.1 0))] dX11_digest_3 rfl (by decide) rfl ?_
  refine E_iconst (v := 0) dX11_digest_4 (by decide) ?_
  refine E_istore_n [(3, .int 0), (1, .long 17), (0, .ref (Γ.2.1 0))] dX11_digest_5 rfl (by decide) rfl ?_
  refine E_jn 31 (fun (y : Int64 × St) => [(1, .long y.1), (0, .ref (Γ.2.1 0))]) (fun (y : Int64 × St) => []) (fun (y : Int64 × St) => y.2) ?_ ?_
  · intro y2
    refine E_ldc2 (v := 31) dX11_digest_31 kw_845 ?_
    refine E_lload_n 0 dX11_digest_34 rfl rfl ?_
    refine E_lmul dX11_digest_35 ?_
    refine E_aload_n 1 dX11_digest_36 rfl rfl ?_
    refine E_callVI (T := TX11) (ci := 11) [] [.long (31 * y2.1)] dX11_digest_37 rfl kw_847 kw_393 kw_394 kw_1 ko_X11_fault rfl hy_X11_fault rfl (by decide) (Nat.le_of_ble_eq_true rfl) rfl (by decide) rfl (c_X11_fault Γ y2.2) (fun v3 => ?_)
    refine E_i2l dX11_digest_40 ?_
    refine E_ladd dX11_digest_41 ?_
    refine E_lstore_n [(1, .long ((31 * y2.1) + v3.toInt64)), (0, .ref (Γ.2.1 0))] dX11_digest_42 rfl (by decide) rfl ?_
    refine E_bl (fun v4 => [(1, .long v4), (0, .ref (Γ.2.1 0))]) (fun v4 => ?_) ((31 * y2.1) + v3.toInt64)
    refine E_iconst (v := 0) dX11_digest_43 (by decide) ?_
    refine E_istore_n [(3, .int 0), (1, .long v4), (0, .ref (Γ.2.1 0))] dX11_digest_44 rfl (by decide) rfl ?_
    refine E_jn 69 (fun (y : Int64 × St) => [(1, .long y.1), (0, .ref (Γ.2.1 0))]) (fun (y : Int64 × St) => []) (fun (y : Int64 × St) => y.2) ?_ ?_
    · intro y6
      refine E_ldc2 (v := 31) dX11_digest_69 kw_845 ?_
      refine E_lload_n 0 dX11_digest_72 rfl rfl ?_
      refine E_lmul dX11_digest_73 ?_
      refine E_aload_n 1 dX11_digest_74 rfl rfl ?_
      refine E_iconst (v := 0) dX11_digest_75 (by decide) ?_
      refine E_callVIS (T := TX11) (ci := 11) [.int 0] [.long (31 * y6.1)] dX11_digest_76 rfl kw_854 kw_585 kw_586 kw_1 ko_X11_seats rfl hy_X11_seats rfl (by decide) (Nat.le_of_ble_eq_true rfl) rfl (by decide) rfl (c_X11_seats Γ 0 y6.2) (fun p7 => ?_)
      refine E_i2l dX11_digest_79 ?_
      refine E_ladd dX11_digest_80 ?_
      refine E_lstore_n [(1, .long ((31 * y6.1) + p7.1.toInt64)), (0, .ref (Γ.2.1 0))] dX11_digest_81 rfl (by decide) rfl ?_
      refine E_bl (fun v8 => [(1, .long v8), (0, .ref (Γ.2.1 0))]) (fun v8 => ?_) ((31 * y6.1) + p7.1.toInt64)
      refine E_ldc2 (v := 31) dX11_digest_82 kw_845 ?_
      refine E_lload_n 0 dX11_digest_85 rfl rfl ?_
      refine E_lmul dX11_digest_86 ?_
      refine E_aload_n 1 dX11_digest_87 rfl rfl ?_
      refine E_callVIS (T := TX11) (ci := 11) [] [.long (31 * v8)] dX11_digest_88 rfl kw_855 kw_613 kw_614 kw_1 ko_X11_sources rfl hy_X11_sources rfl (by decide) (Nat.le_of_ble_eq_true rfl) rfl (by decide) rfl (c_X11_sources Γ p7.2) (fun p9 => ?_)
      refine E_i2l dX11_digest_91 ?_
      refine E_ladd dX11_digest_92 ?_
      refine E_lstore_n [(1, .long ((31 * v8) + p9.1.toInt64)), (0, .ref (Γ.2.1 0))] dX11_digest_93 rfl (by decide) rfl ?_
      refine E_bl (fun v10 => [(1, .long v10), (0, .ref (Γ.2.1 0))]) (fun v10 => ?_) ((31 * v8) + p9.1.toInt64)
      refine E_ldc2 (v := 31) dX11_digest_94 kw_845 ?_
      refine E_lload_n 0 dX11_digest_97 rfl rfl ?_
      refine E_lmul dX11_digest_98 ?_
      refine E_aload_n 1 dX11_digest_99 rfl rfl ?_
      refine E_callVIS (T := TX11) (ci := 11) [] [.long (31 * v10)] dX11_digest_100 rfl kw_856 kw_667 kw_668 kw_1 ko_X11_chain rfl hy_X11_chain rfl (by decide) (Nat.le_of_ble_eq_true rfl) rfl (by decide) rfl (c_X11_chain Γ p9.2) (fun p11 => ?_)
      refine E_i2l dX11_digest_103 ?_
      refine E_ladd dX11_digest_104 ?_
      refine E_lstore_n [(1, .long ((31 * v10) + p11.1.toInt64)), (0, .ref (Γ.2.1 0))] dX11_digest_105 rfl (by decide) rfl ?_
      refine E_bl (fun v12 => [(1, .long v12), (0, .ref (Γ.2.1 0))]) (fun v12 => ?_) ((31 * v10) + p11.1.toInt64)
      refine E_ldc2 (v := 31) dX11_digest_106 kw_845 ?_
      refine E_lload_n 0 dX11_digest_109 rfl rfl ?_
      refine E_lmul dX11_digest_110 ?_
      refine E_aload_n 1 dX11_digest_111 rfl rfl ?_
      refine E_iconst (v := 1) dX11_digest_112 (by decide) ?_
      refine E_iconst (v := 0) dX11_digest_113 (by decide) ?_
      refine E_callVLS (T := TX11) (ci := 11) [.int 1, .int 0] [.long (31 * v12)] dX11_digest_114 rfl kw_857 kw_689 kw_690 kw_1 ko_X11_gains rfl hy_X11_gains rfl (by decide) (Nat.le_of_ble_eq_true rfl) rfl (by decide) rfl (c_X11_gains Γ 1 0 p11.2) (fun p13 => ?_)
      refine E_ladd dX11_digest_117 ?_
      refine E_lstore_n [(1, .long ((31 * v12) + p13.1)), (0, .ref (Γ.2.1 0))] dX11_digest_118 rfl (by decide) rfl ?_
      refine E_bl (fun v14 => [(1, .long v14), (0, .ref (Γ.2.1 0))]) (fun v14 => ?_) ((31 * v12) + p13.1)
      refine E_ldc2 (v := 31) dX11_digest_119 kw_845 ?_
      refine E_lload_n 0 dX11_digest_122 rfl rfl ?_
      refine E_lmul dX11_digest_123 ?_
      refine E_aload_n 1 dX11_digest_124 rfl rfl ?_
      refine E_iconst (v := 1) dX11_digest_125 (by decide) ?_
      refine E_iconst (v := 1) dX11_digest_126 (by decide) ?_
      refine E_callVLS (T := TX11) (ci := 11) [.int 1, .int 1] [.long (31 * v14)] dX11_digest_127 rfl kw_857 kw_689 kw_690 kw_1 ko_X11_gains rfl hy_X11_gains rfl (by decide) (Nat.le_of_ble_eq_true rfl) rfl (by decide) rfl (c_X11_gains Γ 1 1 p13.2) (fun p15 => ?_)
      refine E_ladd dX11_digest_130 ?_
      refine E_lstore_n [(1, .long ((31 * v14) + p15.1)), (0, .ref (Γ.2.1 0))] dX11_digest_131 rfl (by decide) rfl ?_
      refine E_bl (fun v16 => [(1, .long v16), (0, .ref (Γ.2.1 0))]) (fun v16 => ?_) ((31 * v14) + p15.1)
      refine E_iconst (v := 0) dX11_digest_132 (by decide) ?_
      refine E_istore_n [(3, .int 0), (1, .long v16), (0, .ref (Γ.2.1 0))] dX11_digest_133 rfl (by decide) rfl ?_
      refine E_jn 158 (fun (y : Int64 × St) => [(1, .long y.1), (0, .ref (Γ.2.1 0))]) (fun (y : Int64 × St) => []) (fun (y : Int64 × St) => y.2) ?_ ?_
      · intro y18
        refine E_ldc2 (v := 31) dX11_digest_158 kw_845 ?_
        refine E_lload_n 0 dX11_digest_161 rfl rfl ?_
        refine E_lmul dX11_digest_162 ?_
        refine E_aload_n 1 dX11_digest_163 rfl rfl ?_
        refine E_callVI (T := TX11) (ci := 11) [] [.long (31 * y18.1)] dX11_digest_164 rfl kw_867 kw_741 kw_742 kw_1 ko_X11_badly rfl hy_X11_badly rfl (by decide) (Nat.le_of_ble_eq_true rfl) rfl (by decide) rfl (c_X11_badly Γ y18.2) (fun v19 => ?_)
        refine E_i2l dX11_digest_167 ?_
        refine E_ladd dX11_digest_168 ?_
        exact E_lreturn dX11_digest_169 rfl rfl
      · intro K17 hK17
        refine E_lp (F := L_X11_digest_134 K17) (fun (x : Int32 × Int64 × St) => [(3, .int x.1), (1, .long x.2.1), (0, .ref (Γ.2.1 0))]) (fun (x : Int32 × Int64 × St) => x.2.2) ?_ NN (0, v16, p15.2)
        intro r20 hr20 x21
        show E _ _ _ _ _ _ _ _ _ _ _ _ (L_X11_digest_134 K17 r20 x21)
        unfold L_X11_digest_134
        refine E_iload_n 0 dX11_digest_134 rfl rfl ?_
        refine E_aload_n 2 dX11_digest_135 rfl rfl ?_
        refine E_getR 1 (j := 0) (ci := 11) (T := TX11) (C0 := RX11) (ref := "SameWrong") dX11_digest_136 rfl (by decide) rfl inX11 (by decide) kw_316 rfl rfl rfl ?_
        refine E_getI (j := 2) (ci := 4) (T := TX4) (C0 := RX4) (ref := "SameWrong$Key") dX11_digest_139 rfl (by decide) rfl inX4 (by decide) kw_41 rfl rfl ?_
        refine E_icmpge 158 dX11_digest_142 (by decide) ?_ ?_
        · refine E_lvsub [1, 2] [(1, .long x21.2.1), (0, .ref (Γ.2.1 0))] rfl ?_
          exact hK17 (x21.2.1, x21.2.2)
        · refine E_aload_n 2 dX11_digest_145 rfl rfl ?_
          refine E_lload_n 1 dX11_digest_146 rfl rfl ?_
          refine E_iload_n 0 dX11_digest_147 rfl rfl ?_
          refine E_callVLS (T := TX11) (ci := 11) [.long x21.2.1, .int x21.1] [] dX11_digest_148 rfl kw_858 kw_860 kp_22 kw_1 ko_X11_withQuestion rfl hy_X11_withQuestion rfl (by decide) (Nat.le_of_ble_eq_true rfl) rfl (by decide) rfl (c_X11_withQuestion Γ x21.2.1 x21.1 x21.2.2) (fun p22 => ?_)
          refine E_lstore_n [(1, .long p22.1), (3, .int x21.1), (0, .ref (Γ.2.1 0))] dX11_digest_151 rfl (by decide) rfl ?_
          refine E_iinc 1 [(3, .int (x21.1 + 1)), (1, .long p22.1), (0, .ref (Γ.2.1 0))] dX11_digest_152 rfl rfl (by decide) rfl ?_
          refine E_goto 134 dX11_digest_155 (by decide) ?_
          exact hr20 (x21.1 + 1, p22.1, p22.2)
    · intro K5 hK5
      refine E_lp (F := L_X11_digest_45 K5) (fun (x : Int32 × Int64 × St) => [(3, .int x.1), (1, .long x.2.1), (0, .ref (Γ.2.1 0))]) (fun (x : Int32 × Int64 × St) => x.2.2) ?_ NN (0, v4, y2.2)
      intro r23 hr23 x24
      show E _ _ _ _ _ _ _ _ _ _ _ _ (L_X11_digest_45 K5 r23 x24)
      unfold L_X11_digest_45
      refine E_iload_n 0 dX11_digest_45 rfl rfl ?_
      refine E_aload_n 2 dX11_digest_46 rfl rfl ?_
      refine E_getR 2 (j := 1) (ci := 11) (T := TX11) (C0 := RX11) (ref := "SameWrong") dX11_digest_47 rfl (by decide) rfl inX11 (by decide) kw_317 rfl rfl rfl ?_
      refine E_getI (j := 0) (ci := 7) (T := TX7) (C0 := RX7) (ref := "SameWrong$Room") dX11_digest_50 rfl (by decide) rfl inX7 (by decide) kw_76 rfl rfl ?_
      refine E_icmpge 69 dX11_digest_53 (by decide) ?_ ?_
      · refine E_lvsub [1, 2] [(1, .long x24.2.1), (0, .ref (Γ.2.1 0))] rfl ?_
        exact hK5 (x24.2.1, x24.2.2)
      · refine E_aload_n 2 dX11_digest_56 rfl rfl ?_
        refine E_lload_n 1 dX11_digest_57 rfl rfl ?_
        refine E_iload_n 0 dX11_digest_58 rfl rfl ?_
        refine E_callVLS (T := TX11) (ci := 11) [.long x24.2.1, .int x24.1] [] dX11_digest_59 rfl kw_848 kw_850 kp_21 kw_1 ko_X11_withPupil rfl hy_X11_withPupil rfl (by decide) (Nat.le_of_ble_eq_true rfl) rfl (by decide) rfl (c_X11_withPupil Γ x24.2.1 x24.1 x24.2.2) (fun p25 => ?_)
        refine E_lstore_n [(1, .long p25.1), (3, .int x24.1), (0, .ref (Γ.2.1 0))] dX11_digest_62 rfl (by decide) rfl ?_
        refine E_iinc 1 [(3, .int (x24.1 + 1)), (1, .long p25.1), (0, .ref (Γ.2.1 0))] dX11_digest_63 rfl rfl (by decide) rfl ?_
        refine E_goto 45 dX11_digest_66 (by decide) ?_
        exact hr23 (x24.1 + 1, p25.1, p25.2)
  · intro K1 hK1
    refine E_lp (F := L_X11_digest_6 K1) (fun (x : Int32 × Int64 × St) => [(3, .int x.1), (1, .long x.2.1), (0, .ref (Γ.2.1 0))]) (fun (x : Int32 × Int64 × St) => x.2.2) ?_ NN (0, 17, s)
    intro r26 hr26 x27
    show E _ _ _ _ _ _ _ _ _ _ _ _ (L_X11_digest_6 K1 r26 x27)
    unfold L_X11_digest_6
    refine E_iload_n 0 dX11_digest_6 rfl rfl ?_
    refine E_bipush (v := 7) dX11_digest_7 (by decide) ?_
    refine E_icmpgt 31 dX11_digest_9 (by decide) ?_ ?_
    · refine E_lvsub [1, 2] [(1, .long x27.2.1), (0, .ref (Γ.2.1 0))] rfl ?_
      exact hK1 (x27.2.1, x27.2.2)
    · refine E_ldc2 (v := 31) dX11_digest_12 kw_845 ?_
      refine E_lload_n 1 dX11_digest_15 rfl rfl ?_
      refine E_lmul dX11_digest_16 ?_
      refine E_aload_n 2 dX11_digest_17 rfl rfl ?_
      refine E_iload_n 0 dX11_digest_18 rfl rfl ?_
      refine E_callVIS (T := TX11) (ci := 11) [.int x27.1] [.long (31 * x27.2.1)] dX11_digest_19 rfl kw_846 kw_824 kw_825 kw_1 ko_X11_count rfl hy_X11_count rfl (by decide) (Nat.le_of_ble_eq_true rfl) rfl (by decide) rfl (c_X11_count Γ x27.1 x27.2.2) (fun p28 => ?_)
      refine E_i2l dX11_digest_22 ?_
      refine E_ladd dX11_digest_23 ?_
      refine E_lstore_n [(1, .long ((31 * x27.2.1) + p28.1.toInt64)), (3, .int x27.1), (0, .ref (Γ.2.1 0))] dX11_digest_24 rfl (by decide) rfl ?_
      refine E_bl (fun v29 => [(1, .long v29), (3, .int x27.1), (0, .ref (Γ.2.1 0))]) (fun v29 => ?_) ((31 * x27.2.1) + p28.1.toInt64)
      refine E_iinc 1 [(3, .int (x27.1 + 1)), (1, .long v29), (0, .ref (Γ.2.1 0))] dX11_digest_25 rfl rfl (by decide) rfl ?_
      refine E_goto 6 dX11_digest_28 (by decide) ?_
      exact hr26 (x27.1 + 1, v29, p28.2)
theorem c_X11_digest (Γ : GT)  (s : St)  (x : (Int64 × St)) (h : f_X11_digest  s = some x) (l : Launch) : MC l yX11_digest cX11_digest 4 (some .long) 17 WC Γ [.ref (Γ.2.1 0)] s (emLS x) := MC_of (by decide +kernel) (Nat.le_of_ble_eq_true rfl) (e_X11_digest Γ  s ) h l
set_option maxRecDepth 100000 in
set_option maxHeartbeats 4000000 in
theorem e_X12_in (Γ : GT) (a0 : Int32) (a1 : Int32) (a2 : Int32) (s : St)  : E RX12 cX12_in 3 (some .boolean) 1 WM Γ (emZ s) 0 [(0, .int a0), (1, .int a1), (2, .int a2)] [] s (f_X12_in a0 a1 a2 s) := by
  unfold f_X12_in
  refine E_iload_n 0 dX12_in_0 rfl rfl ?_
  refine E_iload_n 1 dX12_in_1 rfl rfl ?_
  refine E_icmplt 14 dX12_in_2 (by decide) ?_ ?_
  · refine E_iconst (v := 0) dX12_in_14 (by decide) ?_
    exact E_zreturn (b := false) dX12_in_15 rfl rfl
  · refine E_iload_n 0 dX12_in_5 rfl rfl ?_
    refine E_iload_n 2 dX12_in_6 rfl rfl ?_
    refine E_icmpgt 14 dX12_in_7 (by decide) ?_ ?_
    · refine E_iconst (v := 0) dX12_in_14 (by decide) ?_
      exact E_zreturn (b := false) dX12_in_15 rfl rfl
    · refine E_iconst (v := 1) dX12_in_10 (by decide) ?_
      refine E_goto 15 dX12_in_11 (by decide) ?_
      exact E_zreturn (b := true) dX12_in_15 rfl rfl
theorem c_X12_in (Γ : GT) (a0 : Int32) (a1 : Int32) (a2 : Int32) (s : St)  (x : Bool) (h : f_X12_in a0 a1 a2 s = some x) (l : Launch) : MC l yX12_in cX12_in 3 (some .boolean) 1 WM Γ [.int a0, .int a1, .int a2] s ((emZ s) x) := MC_of (by decide +kernel) (Nat.le_of_ble_eq_true rfl) (e_X12_in Γ a0 a1 a2 s ) h l
set_option maxRecDepth 100000 in
set_option maxHeartbeats 4000000 in
theorem e_X12_isIn (Γ : GT) (a0 : Int32) (a1 : Int32) (s : St)  : E RX12 cX12_isIn 2 (some .boolean) 1 WM Γ (emZ s) 0 [(0, .int a0), (1, .int a1)] [] s (f_X12_isIn a0 a1 s) := by
  unfold f_X12_isIn
  refine E_iload_n 0 dX12_isIn_0 rfl rfl ?_
  refine E_iload_n 1 dX12_isIn_1 rfl rfl ?_
  refine E_ishr dX12_isIn_2 ?_
  refine E_iconst (v := 1) dX12_isIn_3 (by decide) ?_
  refine E_iand dX12_isIn_4 ?_
  refine E_iconst (v := 1) dX12_isIn_5 (by decide) ?_
  refine E_icmpne 13 dX12_isIn_6 (by decide) ?_ ?_
  · refine E_iconst (v := 0) dX12_isIn_13 (by decide) ?_
    exact E_zreturn (b := false) dX12_isIn_14 rfl rfl
  · refine E_iconst (v := 1) dX12_isIn_9 (by decide) ?_
    refine E_goto 14 dX12_isIn_10 (by decide) ?_
    exact E_zreturn (b := true) dX12_isIn_14 rfl rfl
theorem c_X12_isIn (Γ : GT) (a0 : Int32) (a1 : Int32) (s : St)  (x : Bool) (h : f_X12_isIn a0 a1 s = some x) (l : Launch) : MC l yX12_isIn cX12_isIn 2 (some .boolean) 1 WM Γ [.int a0, .int a1] s ((emZ s) x) := MC_of (by decide +kernel) (Nat.le_of_ble_eq_true rfl) (e_X12_isIn Γ a0 a1 s ) h l
set_option maxRecDepth 100000 in
set_option maxHeartbeats 4000000 in
theorem e_X12_ones (Γ : GT) (a0 : Int32) (s : St)  : E RX12 cX12_ones 3 (some .int) 1 WM Γ (emI s) 0 [(0, .int a0)] [] s (f_X12_ones a0 s) := by
  unfold f_X12_ones
  refine E_iconst (v := 0) dX12_ones_0 (by decide) ?_
  refine E_istore_n [(1, .int 0), (0, .int a0)] dX12_ones_1 rfl (by decide) rfl ?_
  refine E_iconst (v := 0) dX12_ones_2 (by decide) ?_
  refine E_istore_n [(2, .int 0), (1, .int 0), (0, .int a0)] dX12_ones_3 rfl (by decide) rfl ?_
  refine E_lp (F := L_X12_ones_4 a0) (fun (x : Int32 × Int32) => [(2, .int x.1), (1, .int x.2), (0, .int a0)]) (fun (x : Int32 × Int32) => s) ?_ NN (0, 0)
  intro r1 hr1 x2
  show E _ _ _ _ _ _ _ _ _ _ _ _ (L_X12_ones_4 a0 r1 x2)
  unfold L_X12_ones_4
  refine E_iload_n 0 dX12_ones_4 rfl rfl ?_
  refine E_bipush (v := 12) dX12_ones_5 (by decide) ?_
  refine E_icmpge 24 dX12_ones_7 (by decide) ?_ ?_
  · refine E_iload_n 1 dX12_ones_24 rfl rfl ?_
    exact E_ireturn dX12_ones_25 rfl rfl
  · refine E_iload_n 1 dX12_ones_10 rfl rfl ?_
    refine E_iload_n 2 dX12_ones_11 rfl rfl ?_
    refine E_iload_n 0 dX12_ones_12 rfl rfl ?_
    refine E_ishr dX12_ones_13 ?_
    refine E_iconst (v := 1) dX12_ones_14 (by decide) ?_
    refine E_iand dX12_ones_15 ?_
    refine E_iadd dX12_ones_16 ?_
    refine E_istore_n [(1, .int (x2.2 + ((a0 >>> (x2.1 &&& 31)) &&& 1))), (2, .int x2.1), (0, .int a0)] dX12_ones_17 rfl (by decide) rfl ?_
    refine E_bv (fun v3 => [(1, .int v3), (2, .int x2.1), (0, .int a0)]) (fun v3 => ?_) (x2.2 + ((a0 >>> (x2.1 &&& 31)) &&& 1))
    refine E_iinc 1 [(2, .int (x2.1 + 1)), (1, .int v3), (0, .int a0)] dX12_ones_18 rfl rfl (by decide) rfl ?_
    refine E_goto 4 dX12_ones_21 (by decide) ?_
    exact hr1 (x2.1 + 1, v3)
theorem c_X12_ones (Γ : GT) (a0 : Int32) (s : St)  (x : Int32) (h : f_X12_ones a0 s = some x) (l : Launch) : MC l yX12_ones cX12_ones 3 (some .int) 1 WM Γ [.int a0] s ((emI s) x) := MC_of (by decide +kernel) (Nat.le_of_ble_eq_true rfl) (e_X12_ones Γ a0 s ) h l
set_option maxRecDepth 100000 in
set_option maxHeartbeats 4000000 in
theorem e_X12_no (Γ : GT) (a0 : Int32) (s : St)  : E RX12 cX12_no 1 (some .long) 1 WM Γ (emL s) 0 [(0, .int a0)] [] s (f_X12_no a0 s) := by
  unfold f_X12_no
  refine E_ldc2 (v := (-9223372036854775808)) dX12_no_0 kw_1128 ?_
  refine E_iload_n 0 dX12_no_3 rfl rfl ?_
  refine E_i2l dX12_no_4 ?_
  refine E_lsub dX12_no_5 ?_
  exact E_lreturn dX12_no_6 rfl rfl
theorem c_X12_no (Γ : GT) (a0 : Int32) (s : St)  (x : Int64) (h : f_X12_no a0 s = some x) (l : Launch) : MC l yX12_no cX12_no 1 (some .long) 1 WM Γ [.int a0] s ((emL s) x) := MC_of (by decide +kernel) (Nat.le_of_ble_eq_true rfl) (e_X12_no Γ a0 s ) h l
set_option maxRecDepth 100000 in
set_option maxHeartbeats 4000000 in
theorem e_X12_lowest (Γ : GT) (a0 : Int64) (a2 : Int64) (a4 : Int32) (s : St)  : E RX12 cX12_lowest 11 (some .long) 1 WM Γ (emL s) 0 [(0, .long a0), (2, .long a2), (4, .int a4)] [] s (f_X12_lowest a0 a2 a4 s) := by
  unfold f_X12_lowest
  refine E_lload_n 0 dX12_lowest_0 rfl rfl ?_
  refine E_lconst (v := 0) dX12_lowest_1 rfl ?_
  refine E_jn 12 (fun (y : Int64) => [(0, .long a0), (2, .long a2), (4, .int a4)]) (fun (y : Int64) => [.long y]) (fun (y : Int64) => s) ?_ ?_
  · intro y2
    refine E_lstore [(5, .long y2), (0, .long a0), (2, .long a2), (4, .int a4)] dX12_lowest_12 (by decide) rfl ?_
    refine E_lload_n 2 dX12_lowest_14 rfl rfl ?_
    refine E_lstore [(7, .long a2), (5, .long y2), (0, .long a0), (2, .long a2), (4, .int a4)] dX12_lowest_15 (by decide) rfl ?_
    refine E_jn 42 (fun (y : Int64) => [(5, .long y), (0, .long a0), (2, .long a2), (4, .int a4)]) (fun (y : Int64) => []) (fun (y : Int64) => s) ?_ ?_
    · intro y4
      refine E_iload 3 dX12_lowest_42 rfl ?_
      refine E_ifne 54 dX12_lowest_44 (by decide) ?_ ?_
      · refine E_lload_n 2 dX12_lowest_54 rfl rfl ?_
        refine E_lload 0 dX12_lowest_55 rfl ?_
        refine E_ldiv dX12_lowest_57 ?_
        exact E_lreturn dX12_lowest_58 rfl rfl
      · refine E_lload_n 1 dX12_lowest_47 rfl rfl ?_
        refine E_lload 0 dX12_lowest_48 rfl ?_
        refine E_ldiv dX12_lowest_50 ?_
        refine E_goto 58 dX12_lowest_51 (by decide) ?_
        exact E_lreturn dX12_lowest_58 rfl rfl
    · intro K3 hK3
      refine E_lp (F := L_X12_lowest_17 K3) (fun (x : Int64 × Int64) => [(7, .long x.1), (5, .long x.2), (0, .long a0), (2, .long a2), (4, .int a4)]) (fun (x : Int64 × Int64) => s) ?_ NN (a2, y2)
      intro r5 hr5 x6
      show E _ _ _ _ _ _ _ _ _ _ _ _ (L_X12_lowest_17 K3 r5 x6)
      unfold L_X12_lowest_17
      refine E_lload 0 dX12_lowest_17 rfl ?_
      refine E_lconst (v := 0) dX12_lowest_19 rfl ?_
      refine E_leq 42 dX12_lowest_20 dX12_lowest_21 (by decide) ?_ ?_
      · refine E_lvsub [1, 2, 3, 4] [(5, .long x6.2), (0, .long a0), (2, .long a2), (4, .int a4)] rfl ?_
        exact hK3 x6.2
      · refine E_lload 1 dX12_lowest_24 rfl ?_
        refine E_lload 0 dX12_lowest_26 rfl ?_
        refine E_lrem dX12_lowest_28 ?_
        refine E_lstore [(9, .long (x6.2 - x6.2 / x6.1 * x6.1)), (7, .long x6.1), (5, .long x6.2), (0, .long a0), (2, .long a2), (4, .int a4)] dX12_lowest_29 (by decide) rfl ?_
        refine E_bl (fun v7 => [(9, .long v7), (7, .long x6.1), (5, .long x6.2), (0, .long a0), (2, .long a2), (4, .int a4)]) (fun v7 => ?_) (x6.2 - x6.2 / x6.1 * x6.1)
        refine E_lload 1 dX12_lowest_31 rfl ?_
        refine E_lstore [(5, .long x6.1), (9, .long v7), (7, .long x6.1), (0, .long a0), (2, .long a2), (4, .int a4)] dX12_lowest_33 (by decide) rfl ?_
        refine E_lload 1 dX12_lowest_35 rfl ?_
        refine E_lstore [(7, .long v7), (5, .long x6.1), (9, .long v7), (0, .long a0), (2, .long a2), (4, .int a4)] dX12_lowest_37 (by decide) rfl ?_
        refine E_goto 17 dX12_lowest_39 (by decide) ?_
        refine E_lvsub [0, 1, 3, 4, 5] [(7, .long v7), (5, .long x6.1), (0, .long a0), (2, .long a2), (4, .int a4)] rfl ?_
        exact hr5 (v7, x6.1)
  · intro K1 hK1
    refine E_lge 11 dX12_lowest_2 dX12_lowest_3 (by decide) ?_ ?_
    · refine E_lload_n 0 dX12_lowest_11 rfl rfl ?_
      exact hK1 a0
    · refine E_lload_n 0 dX12_lowest_6 rfl rfl ?_
      refine E_lneg dX12_lowest_7 ?_
      refine E_goto 12 dX12_lowest_8 (by decide) ?_
      exact hK1 (0 - a0)
theorem c_X12_lowest (Γ : GT) (a0 : Int64) (a2 : Int64) (a4 : Int32) (s : St)  (x : Int64) (h : f_X12_lowest a0 a2 a4 s = some x) (l : Launch) : MC l yX12_lowest cX12_lowest 11 (some .long) 1 WM Γ [.long a0, .long a2, .int a4] s ((emL s) x) := MC_of (by decide +kernel) (Nat.le_of_ble_eq_true rfl) (e_X12_lowest Γ a0 a2 a4 s ) h l
set_option maxRecDepth 100000 in
set_option maxHeartbeats 4000000 in
theorem e_X12_choose (Γ : GT) (a0 : Int32) (a1 : Int32) (s : St)  : E RX12 cX12_choose 5 (some .long) 2 WM Γ (emL s) 0 [(0, .int a0), (1, .int a1)] [] s (f_X12_choose a0 a1 s) := by
  unfold f_X12_choose
  refine E_iload_n 1 dX12_choose_0 rfl rfl ?_
  refine E_iconst (v := 0) dX12_choose_1 (by decide) ?_
  refine E_iload_n 0 dX12_choose_2 rfl rfl ?_
  refine E_callSZ [.int a1, .int 0, .int a0] [] dX12_choose_3 rfl kw_970 kw_971 kw_13 ko_X12_in hy_X12_in rfl (by decide) (Nat.le_of_ble_eq_true rfl) (c_X12_in Γ a1 0 a0 s) (fun v1 => ?_)
  refine E_jn 14 (fun (y : Int64) => [(0, .int a0), (1, .int a1)]) (fun (y : Int64) => [.long y]) (fun (y : Int64) => s) ?_ ?_
  · intro y3
    refine E_lstore_n [(2, .long y3), (0, .int a0), (1, .int a1)] dX12_choose_14 rfl (by decide) rfl ?_
    refine E_iconst (v := 0) dX12_choose_15 (by decide) ?_
    refine E_istore [(4, .int 0), (2, .long y3), (0, .int a0), (1, .int a1)] dX12_choose_16 (by decide) rfl ?_
    refine E_lp (F := L_X12_choose_18 a0 a1) (fun (x : Int32 × Int64) => [(4, .int x.1), (2, .long x.2), (0, .int a0), (1, .int a1)]) (fun (x : Int32 × Int64) => s) ?_ NN (0, y3)
    intro r4 hr4 x5
    show E _ _ _ _ _ _ _ _ _ _ _ _ (L_X12_choose_18 a0 a1 r4 x5)
    unfold L_X12_choose_18
    refine E_iload 0 dX12_choose_18 rfl ?_
    refine E_iload_n 3 dX12_choose_20 rfl rfl ?_
    refine E_icmpge 50 dX12_choose_21 (by decide) ?_ ?_
    · refine E_lload_n 1 dX12_choose_50 rfl rfl ?_
      exact E_lreturn dX12_choose_51 rfl rfl
    · refine E_lload_n 1 dX12_choose_24 rfl rfl ?_
      refine E_lconst (v := 0) dX12_choose_25 rfl ?_
      refine E_lle 50 dX12_choose_26 dX12_choose_27 (by decide) ?_ ?_
      · refine E_lload_n 1 dX12_choose_50 rfl rfl ?_
        exact E_lreturn dX12_choose_51 rfl rfl
      · refine E_lload_n 1 dX12_choose_30 rfl rfl ?_
        refine E_iload_n 2 dX12_choose_31 rfl rfl ?_
        refine E_iload 0 dX12_choose_32 rfl ?_
        refine E_isub dX12_choose_34 ?_
        refine E_i2l dX12_choose_35 ?_
        refine E_lmul dX12_choose_36 ?_
        refine E_iload 0 dX12_choose_37 rfl ?_
        refine E_i2l dX12_choose_39 ?_
        refine E_lconst (v := 1) dX12_choose_40 rfl ?_
        refine E_ladd dX12_choose_41 ?_
        refine E_ldiv dX12_choose_42 ?_
        refine E_lstore_n [(2, .long ((x5.2 * ((a0 - x5.1).toInt64)) / (x5.1.toInt64 + 1))), (4, .int x5.1), (0, .int a0), (1, .int a1)] dX12_choose_43 rfl (by decide) rfl ?_
        refine E_bl (fun v6 => [(2, .long v6), (4, .int x5.1), (0, .int a0), (1, .int a1)]) (fun v6 => ?_) ((x5.2 * ((a0 - x5.1).toInt64)) / (x5.1.toInt64 + 1))
        refine E_iinc 1 [(4, .int (x5.1 + 1)), (2, .long v6), (0, .int a0), (1, .int a1)] dX12_choose_44 rfl rfl (by decide) rfl ?_
        refine E_goto 18 dX12_choose_47 (by decide) ?_
        exact hr4 (x5.1 + 1, v6)
  · intro K2 hK2
    refine E_ifeqb 13 dX12_choose_6 (by decide) ?_ ?_
    · refine E_lconst (v := 0) dX12_choose_13 rfl ?_
      exact hK2 0
    · refine E_lconst (v := 1) dX12_choose_9 rfl ?_
      refine E_goto 14 dX12_choose_10 (by decide) ?_
      exact hK2 1
theorem c_X12_choose (Γ : GT) (a0 : Int32) (a1 : Int32) (s : St)  (x : Int64) (h : f_X12_choose a0 a1 s = some x) (l : Launch) : MC l yX12_choose cX12_choose 5 (some .long) 2 WM Γ [.int a0, .int a1] s ((emL s) x) := MC_of (by decide +kernel) (Nat.le_of_ble_eq_true rfl) (e_X12_choose Γ a0 a1 s ) h l
set_option maxRecDepth 100000 in
set_option maxHeartbeats 4000000 in
theorem e_X12_isQuestion (Γ : GT) (a1 : Int32) (s : St)  : E RX12 cX12_isQuestion 2 (some .boolean) 2 WM Γ (emZ s) 0 [(0, .ref (Γ.2.1 0)), (1, .int a1)] [] s (f_X12_isQuestion a1 s) := by
  unfold f_X12_isQuestion
  refine E_iload_n 1 dX12_isQuestion_0 rfl rfl ?_
  refine E_iconst (v := 0) dX12_isQuestion_1 (by decide) ?_
  refine E_aload_n 0 dX12_isQuestion_2 rfl rfl ?_
  refine E_getI (j := 0) (ci := 12) (T := TX12) (C0 := RX12) (ref := "SameWrongModel") dX12_isQuestion_3 rfl (by decide) rfl inX12 (by decide) kw_874 rfl rfl ?_
  refine E_iconst (v := 1) dX12_isQuestion_6 (by decide) ?_
  refine E_isub dX12_isQuestion_7 ?_
  refine E_callSZ [.int a1, .int 0, .int ((s.1 0 0) - 1)] [] dX12_isQuestion_8 rfl kw_970 kw_971 kw_13 ko_X12_in hy_X12_in rfl (by decide) (Nat.le_of_ble_eq_true rfl) (c_X12_in Γ a1 0 ((s.1 0 0) - 1) s) (fun v1 => ?_)
  exact E_zreturn (b := v1) dX12_isQuestion_11 rfl rfl
theorem c_X12_isQuestion (Γ : GT) (a1 : Int32) (s : St)  (x : Bool) (h : f_X12_isQuestion a1 s = some x) (l : Launch) : MC l yX12_isQuestion cX12_isQuestion 2 (some .boolean) 2 WM Γ [.ref (Γ.2.1 0), .int a1] s ((emZ s) x) := MC_of (by decide +kernel) (Nat.le_of_ble_eq_true rfl) (e_X12_isQuestion Γ a1 s ) h l
set_option maxRecDepth 100000 in
set_option maxHeartbeats 4000000 in
theorem e_X12_questions (Γ : GT) (a1 : Int32) (s : St)  : E RX12 cX12_questions 3 (some .int) 2 WM Γ emIS 0 [(0, .ref (Γ.2.1 0)), (1, .int a1)] [] s (f_X12_questions a1 s) := by
  unfold f_X12_questions
  refine E_iload_n 1 dX12_questions_0 rfl rfl ?_
  refine E_iconst (v := 1) dX12_questions_1 (by decide) ?_
  refine E_bipush (v := 12) dX12_questions_2 (by decide) ?_
  refine E_callSZ [.int a1, .int 1, .int 12] [] dX12_questions_4 rfl kw_970 kw_971 kw_13 ko_X12_in hy_X12_in rfl (by decide) (Nat.le_of_ble_eq_true rfl) (c_X12_in Γ a1 1 12 s) (fun v1 => ?_)
  refine E_ifneb 13 dX12_questions_7 (by decide) ?_ ?_
  · refine E_aload_n 0 dX12_questions_13 rfl rfl ?_
    refine E_getI (j := 0) (ci := 12) (T := TX12) (C0 := RX12) (ref := "SameWrongModel") dX12_questions_14 rfl (by decide) rfl inX12 (by decide) kw_874 rfl rfl ?_
    refine E_istore_n [(2, .int (s.1 0 0)), (0, .ref (Γ.2.1 0)), (1, .int a1)] dX12_questions_17 rfl (by decide) rfl ?_
    refine E_bv (fun v2 => [(2, .int v2), (0, .ref (Γ.2.1 0)), (1, .int a1)]) (fun v2 => ?_) (s.1 0 0)
    refine E_aload_n 1 dX12_questions_18 rfl rfl ?_
    refine E_iload_n 2 dX12_questions_19 rfl rfl ?_
    refine E_putI (j := 0) (ci := 12) (T := TX12) (C0 := RX12) (ref := "SameWrongModel") dX12_questions_20 rfl (by decide) rfl inX12 (by decide) kw_874 rfl tyX12_ok nmX12 rfl rfl ?_
    refine E_bd (fun s3 => ?_)
    refine E_iload_n 0 dX12_questions_23 rfl rfl ?_
    exact E_ireturn dX12_questions_24 rfl rfl
  · refine E_bipush (v := (-2)) dX12_questions_10 (by decide) ?_
    exact E_ireturn dX12_questions_12 rfl rfl
theorem c_X12_questions (Γ : GT) (a1 : Int32) (s : St)  (x : (Int32 × St)) (h : f_X12_questions a1 s = some x) (l : Launch) : MC l yX12_questions cX12_questions 3 (some .int) 2 WM Γ [.ref (Γ.2.1 0), .int a1] s (emIS x) := MC_of (by decide +kernel) (Nat.le_of_ble_eq_true rfl) (e_X12_questions Γ a1 s ) h l
set_option maxRecDepth 100000 in
set_option maxHeartbeats 4000000 in
theorem e_X12_type (Γ : GT) (a1 : Int32) (s : St)  : E RX12 cX12_type 2 (some .int) 2 WM Γ emIS 0 [(0, .ref (Γ.2.1 0)), (1, .int a1)] [] s (f_X12_type a1 s) := by
  unfold f_X12_type
  refine E_iload_n 1 dX12_type_0 rfl rfl ?_
  refine E_iconst (v := 0) dX12_type_1 (by decide) ?_
  refine E_sipush (v := 255) dX12_type_2 (by decide) ?_
  refine E_callSZ [.int a1, .int 0, .int 255] [] dX12_type_5 rfl kw_970 kw_971 kw_13 ko_X12_in hy_X12_in rfl (by decide) (Nat.le_of_ble_eq_true rfl) (c_X12_in Γ a1 0 255 s) (fun v1 => ?_)
  refine E_ifneb 14 dX12_type_8 (by decide) ?_ ?_
  · refine E_aload_n 0 dX12_type_14 rfl rfl ?_
    refine E_getI (j := 1) (ci := 12) (T := TX12) (C0 := RX12) (ref := "SameWrongModel") dX12_type_15 rfl (by decide) rfl inX12 (by decide) kw_875 rfl rfl ?_
    refine E_bipush (v := 12) dX12_type_18 (by decide) ?_
    refine E_icmpne 26 dX12_type_20 (by decide) ?_ ?_
    · refine E_aload_n 0 dX12_type_26 rfl rfl ?_
      refine E_getR 1 (j := 2) (ci := 12) (T := TX12) (C0 := RX12) (ref := "SameWrongModel") dX12_type_27 rfl (by decide) rfl inX12 (by decide) kw_876 rfl rfl rfl ?_
      refine E_aload_n 0 dX12_type_30 rfl rfl ?_
      refine E_getI (j := 1) (ci := 12) (T := TX12) (C0 := RX12) (ref := "SameWrongModel") dX12_type_31 rfl (by decide) rfl inX12 (by decide) kw_875 rfl rfl ?_
      refine E_iload_n 1 dX12_type_34 rfl rfl ?_
      refine E_iastore dX12_type_35 rfl (by decide) ?_
      refine E_bd (fun s2 => ?_)
      refine E_aload_n 0 dX12_type_36 rfl rfl ?_
      refine E_dup dX12_type_37 rfl ?_
      refine E_getI (j := 1) (ci := 12) (T := TX12) (C0 := RX12) (ref := "SameWrongModel") dX12_type_38 rfl (by decide) rfl inX12 (by decide) kw_875 rfl rfl ?_
      refine E_iconst (v := 1) dX12_type_41 (by decide) ?_
      refine E_iadd dX12_type_42 ?_
      refine E_putI (j := 1) (ci := 12) (T := TX12) (C0 := RX12) (ref := "SameWrongModel") dX12_type_43 rfl (by decide) rfl inX12 (by decide) kw_875 rfl tyX12_ok nmX12 rfl rfl ?_
      refine E_bd (fun s3 => ?_)
      refine E_aload_n 0 dX12_type_46 rfl rfl ?_
      refine E_getI (j := 1) (ci := 12) (T := TX12) (C0 := RX12) (ref := "SameWrongModel") dX12_type_47 rfl (by decide) rfl inX12 (by decide) kw_875 rfl rfl ?_
      exact E_ireturn dX12_type_50 rfl rfl
    · refine E_bipush (v := (-4)) dX12_type_23 (by decide) ?_
      exact E_ireturn dX12_type_25 rfl rfl
  · refine E_bipush (v := (-2)) dX12_type_11 (by decide) ?_
    exact E_ireturn dX12_type_13 rfl rfl
theorem c_X12_type (Γ : GT) (a1 : Int32) (s : St)  (x : (Int32 × St)) (h : f_X12_type a1 s = some x) (l : Launch) : MC l yX12_type cX12_type 2 (some .int) 2 WM Γ [.ref (Γ.2.1 0), .int a1] s (emIS x) := MC_of (by decide +kernel) (Nat.le_of_ble_eq_true rfl) (e_X12_type Γ a1 s ) h l
set_option maxRecDepth 100000 in
set_option maxHeartbeats 4000000 in
theorem e_X12_wipe (Γ : GT)  (s : St)  : E RX12 cX12_wipe 2 (some .int) 1 WM Γ emIS 0 [(0, .ref (Γ.2.1 0))] [] s (f_X12_wipe  s) := by
  unfold f_X12_wipe
  refine E_aload_n 0 dX12_wipe_0 rfl rfl ?_
  refine E_getI (j := 1) (ci := 12) (T := TX12) (C0 := RX12) (ref := "SameWrongModel") dX12_wipe_1 rfl (by decide) rfl inX12 (by decide) kw_875 rfl rfl ?_
  refine E_istore_n [(1, .int (s.1 0 1)), (0, .ref (Γ.2.1 0))] dX12_wipe_4 rfl (by decide) rfl ?_
  refine E_bv (fun v1 => [(1, .int v1), (0, .ref (Γ.2.1 0))]) (fun v1 => ?_) (s.1 0 1)
  refine E_aload_n 1 dX12_wipe_5 rfl rfl ?_
  refine E_iconst (v := 0) dX12_wipe_6 (by decide) ?_
  refine E_putI (j := 1) (ci := 12) (T := TX12) (C0 := RX12) (ref := "SameWrongModel") dX12_wipe_7 rfl (by decide) rfl inX12 (by decide) kw_875 rfl tyX12_ok nmX12 rfl rfl ?_
  refine E_bd (fun s2 => ?_)
  refine E_iload_n 0 dX12_wipe_10 rfl rfl ?_
  exact E_ireturn dX12_wipe_11 rfl rfl
theorem c_X12_wipe (Γ : GT)  (s : St)  (x : (Int32 × St)) (h : f_X12_wipe  s = some x) (l : Launch) : MC l yX12_wipe cX12_wipe 2 (some .int) 1 WM Γ [.ref (Γ.2.1 0)] s (emIS x) := MC_of (by decide +kernel) (Nat.le_of_ble_eq_true rfl) (e_X12_wipe Γ  s ) h l
set_option maxRecDepth 100000 in
set_option maxHeartbeats 4000000 in
theorem e_X12_faultNow (Γ : GT)  (s : St)  : E RX12 cX12_faultNow 3 (some .int) 2 WM Γ emIS 0 [(0, .ref (Γ.2.1 0))] [] s (f_X12_faultNow  s) := by
  unfold f_X12_faultNow
  refine E_iconst (v := 0) dX12_faultNow_0 (by decide) ?_
  refine E_istore_n [(1, .int 0), (0, .ref (Γ.2.1 0))] dX12_faultNow_1 rfl (by decide) rfl ?_
  refine E_jn 21 (fun (y : St) => [(0, .ref (Γ.2.1 0))]) (fun (y : St) => []) (fun (y : St) => y) ?_ ?_
  · intro y2
    refine E_iconst (v := 0) dX12_faultNow_21 (by decide) ?_
    refine E_istore_n [(1, .int 0), (0, .ref (Γ.2.1 0))] dX12_faultNow_22 rfl (by decide) rfl ?_
    refine E_jn 84 (fun (y : Unit) => [(0, .ref (Γ.2.1 0))]) (fun (y : Unit) => []) (fun (y : Unit) => y2) ?_ ?_
    · intro y4
      refine E_aload_n 0 dX12_faultNow_84 rfl rfl ?_
      refine E_getI (j := 1) (ci := 12) (T := TX12) (C0 := RX12) (ref := "SameWrongModel") dX12_faultNow_85 rfl (by decide) rfl inX12 (by decide) kw_875 rfl rfl ?_
      refine E_aload_n 0 dX12_faultNow_88 rfl rfl ?_
      refine E_getI (j := 0) (ci := 12) (T := TX12) (C0 := RX12) (ref := "SameWrongModel") dX12_faultNow_89 rfl (by decide) rfl inX12 (by decide) kw_874 rfl rfl ?_
      refine E_icmple 102 dX12_faultNow_92 (by decide) ?_ ?_
      · refine E_iconst (v := (-1)) dX12_faultNow_102 (by decide) ?_
        exact E_ireturn dX12_faultNow_103 rfl rfl
      · refine E_aload_n 0 dX12_faultNow_95 rfl rfl ?_
        refine E_getI (j := 0) (ci := 12) (T := TX12) (C0 := RX12) (ref := "SameWrongModel") dX12_faultNow_96 rfl (by decide) rfl inX12 (by decide) kw_874 rfl rfl ?_
        refine E_goto 103 dX12_faultNow_99 (by decide) ?_
        exact E_ireturn dX12_faultNow_103 rfl rfl
    · intro K3 hK3
      refine E_lp (F := L_X12_faultNow_23 y2 K3) (fun (x : Int32) => [(1, .int x), (0, .ref (Γ.2.1 0))]) (fun (x : Int32) => y2) ?_ NN 0
      intro r5 hr5 x6
      show E _ _ _ _ _ _ _ _ _ _ _ _ (L_X12_faultNow_23 y2 K3 r5 x6)
      unfold L_X12_faultNow_23
      refine E_iload_n 0 dX12_faultNow_23 rfl rfl ?_
      refine E_aload_n 1 dX12_faultNow_24 rfl rfl ?_
      refine E_getI (j := 0) (ci := 12) (T := TX12) (C0 := RX12) (ref := "SameWrongModel") dX12_faultNow_25 rfl (by decide) rfl inX12 (by decide) kw_874 rfl rfl ?_
      refine E_icmpge 84 dX12_faultNow_28 (by decide) ?_ ?_
      · refine E_lvsub [1] [(0, .ref (Γ.2.1 0))] rfl ?_
        exact hK3 ()
      · refine E_iload_n 0 dX12_faultNow_31 rfl rfl ?_
        refine E_aload_n 1 dX12_faultNow_32 rfl rfl ?_
        refine E_getI (j := 1) (ci := 12) (T := TX12) (C0 := RX12) (ref := "SameWrongModel") dX12_faultNow_33 rfl (by decide) rfl inX12 (by decide) kw_875 rfl rfl ?_
        refine E_jn 71 (fun (y : Bool) => [(1, .int x6), (0, .ref (Γ.2.1 0))]) (fun (y : Bool) => [.int (bI y)]) (fun (y : Bool) => y2) ?_ ?_
        · intro y8
          refine E_istore_n [(2, .int (bI y8)), (1, .int x6), (0, .ref (Γ.2.1 0))] dX12_faultNow_71 rfl (by decide) rfl ?_
          refine E_iload_n 0 dX12_faultNow_72 rfl rfl ?_
          refine E_ifneb 78 dX12_faultNow_73 (by decide) ?_ ?_
          · refine E_iinc 1 [(1, .int (x6 + 1)), (2, .int (bI y8)), (0, .ref (Γ.2.1 0))] dX12_faultNow_78 rfl rfl (by decide) rfl ?_
            refine E_goto 23 dX12_faultNow_81 (by decide) ?_
            refine E_lvsub [0, 2] [(1, .int (x6 + 1)), (0, .ref (Γ.2.1 0))] rfl ?_
            exact hr5 (x6 + 1)
          · refine E_iload_n 1 dX12_faultNow_76 rfl rfl ?_
            exact E_ireturn dX12_faultNow_77 rfl rfl
        · intro K7 hK7
          refine E_icmpge 70 dX12_faultNow_36 (by decide) ?_ ?_
          · refine E_iconst (v := 0) dX12_faultNow_70 (by decide) ?_
            exact hK7 false
          · refine E_aload_n 1 dX12_faultNow_39 rfl rfl ?_
            refine E_getR 1 (j := 2) (ci := 12) (T := TX12) (C0 := RX12) (ref := "SameWrongModel") dX12_faultNow_40 rfl (by decide) rfl inX12 (by decide) kw_876 rfl rfl rfl ?_
            refine E_iload_n 0 dX12_faultNow_43 rfl rfl ?_
            refine E_iaload dX12_faultNow_44 rfl (by decide) ?_
            refine E_bipush (v := 63) dX12_faultNow_45 (by decide) ?_
            refine E_icmpeq 66 dX12_faultNow_47 (by decide) ?_ ?_
            · refine E_iconst (v := 1) dX12_faultNow_66 (by decide) ?_
              refine E_goto 71 dX12_faultNow_67 (by decide) ?_
              exact hK7 true
            · refine E_aload_n 1 dX12_faultNow_50 rfl rfl ?_
              refine E_getR 1 (j := 2) (ci := 12) (T := TX12) (C0 := RX12) (ref := "SameWrongModel") dX12_faultNow_51 rfl (by decide) rfl inX12 (by decide) kw_876 rfl rfl rfl ?_
              refine E_iload_n 0 dX12_faultNow_54 rfl rfl ?_
              refine E_iaload dX12_faultNow_55 rfl (by decide) ?_
              refine E_bipush (v := 49) dX12_faultNow_56 (by decide) ?_
              refine E_bipush (v := 53) dX12_faultNow_58 (by decide) ?_
              refine E_callSZ [.int (y2.1 1 x6.toNatClampNeg), .int 49, .int 53] [] dX12_faultNow_60 rfl kw_970 kw_971 kw_13 ko_X12_in hy_X12_in rfl (by decide) (Nat.le_of_ble_eq_true rfl) (c_X12_in Γ (y2.1 1 x6.toNatClampNeg) 49 53 y2) (fun v9 => ?_)
              refine E_ifeqb 70 dX12_faultNow_63 (by decide) ?_ ?_
              · refine E_iconst (v := 0) dX12_faultNow_70 (by decide) ?_
                exact hK7 false
              · refine E_iconst (v := 1) dX12_faultNow_66 (by decide) ?_
                refine E_goto 71 dX12_faultNow_67 (by decide) ?_
                exact hK7 true
  · intro K1 hK1
    refine E_lp (F := L_X12_faultNow_2 K1) (fun (x : Int32 × St) => [(1, .int x.1), (0, .ref (Γ.2.1 0))]) (fun (x : Int32 × St) => x.2) ?_ NN (0, s)
    intro r10 hr10 x11
    show E _ _ _ _ _ _ _ _ _ _ _ _ (L_X12_faultNow_2 K1 r10 x11)
    unfold L_X12_faultNow_2
    refine E_iload_n 0 dX12_faultNow_2 rfl rfl ?_
    refine E_bipush (v := 12) dX12_faultNow_3 (by decide) ?_
    refine E_icmpge 21 dX12_faultNow_5 (by decide) ?_ ?_
    · refine E_lvsub [1] [(0, .ref (Γ.2.1 0))] rfl ?_
      exact hK1 x11.2
    · refine E_aload_n 1 dX12_faultNow_8 rfl rfl ?_
      refine E_getR 2 (j := 3) (ci := 12) (T := TX12) (C0 := RX12) (ref := "SameWrongModel") dX12_faultNow_9 rfl (by decide) rfl inX12 (by decide) kw_877 rfl rfl rfl ?_
      refine E_iload_n 0 dX12_faultNow_12 rfl rfl ?_
      refine E_iconst (v := 0) dX12_faultNow_13 (by decide) ?_
      refine E_iastore dX12_faultNow_14 rfl (by decide) ?_
      refine E_bd (fun s12 => ?_)
      refine E_iinc 0 [(1, .int (x11.1 + 1)), (0, .ref (Γ.2.1 0))] dX12_faultNow_15 rfl rfl (by decide) rfl ?_
      refine E_goto 2 dX12_faultNow_18 (by decide) ?_
      exact hr10 (x11.1 + 1, s12)
theorem c_X12_faultNow (Γ : GT)  (s : St)  (x : (Int32 × St)) (h : f_X12_faultNow  s = some x) (l : Launch) : MC l yX12_faultNow cX12_faultNow 3 (some .int) 2 WM Γ [.ref (Γ.2.1 0)] s (emIS x) := MC_of (by decide +kernel) (Nat.le_of_ble_eq_true rfl) (e_X12_faultNow Γ  s ) h l
set_option maxRecDepth 100000 in
set_option maxHeartbeats 4000000 in
theorem e_X12_keyNow (Γ : GT)  (s : St)  : E RX12 cX12_keyNow 3 (some .int) 3 WM Γ emIS 0 [(0, .ref (Γ.2.1 0))] [] s (f_X12_keyNow  s) := by
  unfold f_X12_keyNow
  refine E_aload_n 0 dX12_keyNow_0 rfl rfl ?_
  refine E_callVIS (T := TX12) (ci := 12) [] [] dX12_keyNow_1 rfl kw_985 kw_987 kp_23 kw_13 ko_X12_faultNow rfl hy_X12_faultNow rfl (by decide) (Nat.le_of_ble_eq_true rfl) rfl (by decide) rfl (c_X12_faultNow Γ s) (fun p1 => ?_)
  refine E_istore_n [(1, .int p1.1), (0, .ref (Γ.2.1 0))] dX12_keyNow_4 rfl (by decide) rfl ?_
  refine E_iconst (v := 0) dX12_keyNow_5 (by decide) ?_
  refine E_istore_n [(2, .int 0), (1, .int p1.1), (0, .ref (Γ.2.1 0))] dX12_keyNow_6 rfl (by decide) rfl ?_
  refine E_lp (F := L_X12_keyNow_7 p1) (fun (x : Int32 × St) => [(2, .int x.1), (1, .int p1.1), (0, .ref (Γ.2.1 0))]) (fun (x : Int32 × St) => x.2) ?_ NN (0, p1.2)
  intro r2 hr2 x3
  show E _ _ _ _ _ _ _ _ _ _ _ _ (L_X12_keyNow_7 p1 r2 x3)
  unfold L_X12_keyNow_7
  refine E_iload_n 0 dX12_keyNow_7 rfl rfl ?_
  refine E_aload_n 2 dX12_keyNow_8 rfl rfl ?_
  refine E_getI (j := 0) (ci := 12) (T := TX12) (C0 := RX12) (ref := "SameWrongModel") dX12_keyNow_9 rfl (by decide) rfl inX12 (by decide) kw_874 rfl rfl ?_
  refine E_icmpge 56 dX12_keyNow_12 (by decide) ?_ ?_
  · refine E_iload_n 1 dX12_keyNow_56 rfl rfl ?_
    exact E_ireturn dX12_keyNow_57 rfl rfl
  · refine E_iload_n 1 dX12_keyNow_15 rfl rfl ?_
    refine E_iconst (v := (-1)) dX12_keyNow_16 (by decide) ?_
    refine E_icmpne 56 dX12_keyNow_17 (by decide) ?_ ?_
    · refine E_iload_n 1 dX12_keyNow_56 rfl rfl ?_
      exact E_ireturn dX12_keyNow_57 rfl rfl
    · refine E_aload_n 2 dX12_keyNow_20 rfl rfl ?_
      refine E_getR 2 (j := 3) (ci := 12) (T := TX12) (C0 := RX12) (ref := "SameWrongModel") dX12_keyNow_21 rfl (by decide) rfl inX12 (by decide) kw_877 rfl rfl rfl ?_
      refine E_iload_n 0 dX12_keyNow_24 rfl rfl ?_
      refine E_aload_n 2 dX12_keyNow_25 rfl rfl ?_
      refine E_getR 1 (j := 2) (ci := 12) (T := TX12) (C0 := RX12) (ref := "SameWrongModel") dX12_keyNow_26 rfl (by decide) rfl inX12 (by decide) kw_876 rfl rfl rfl ?_
      refine E_iload_n 0 dX12_keyNow_29 rfl rfl ?_
      refine E_iaload dX12_keyNow_30 rfl (by decide) ?_
      refine E_bipush (v := 63) dX12_keyNow_31 (by decide) ?_
      refine E_jn 49 (fun (y : Int32) => [(2, .int x3.1), (1, .int p1.1), (0, .ref (Γ.2.1 0))]) (fun (y : Int32) => [.int y, .int x3.1, .ref (Γ.2.1 2)]) (fun (y : Int32) => x3.2) ?_ ?_
      · intro y5
        refine E_iastore dX12_keyNow_49 rfl (by decide) ?_
        refine E_bd (fun s6 => ?_)
        refine E_iinc 0 [(2, .int (x3.1 + 1)), (1, .int p1.1), (0, .ref (Γ.2.1 0))] dX12_keyNow_50 rfl rfl (by decide) rfl ?_
        refine E_goto 7 dX12_keyNow_53 (by decide) ?_
        exact hr2 (x3.1 + 1, s6)
      · intro K4 hK4
        refine E_icmpne 40 dX12_keyNow_33 (by decide) ?_ ?_
        · refine E_aload_n 2 dX12_keyNow_40 rfl rfl ?_
          refine E_getR 1 (j := 2) (ci := 12) (T := TX12) (C0 := RX12) (ref := "SameWrongModel") dX12_keyNow_41 rfl (by decide) rfl inX12 (by decide) kw_876 rfl rfl rfl ?_
          refine E_iload_n 0 dX12_keyNow_44 rfl rfl ?_
          refine E_iaload dX12_keyNow_45 rfl (by decide) ?_
          refine E_bipush (v := 48) dX12_keyNow_46 (by decide) ?_
          refine E_isub dX12_keyNow_48 ?_
          exact hK4 ((x3.2.1 1 x3.1.toNatClampNeg) - 48)
        · refine E_iconst (v := 0) dX12_keyNow_36 (by decide) ?_
          refine E_goto 49 dX12_keyNow_37 (by decide) ?_
          exact hK4 0
theorem c_X12_keyNow (Γ : GT)  (s : St)  (x : (Int32 × St)) (h : f_X12_keyNow  s = some x) (l : Launch) : MC l yX12_keyNow cX12_keyNow 3 (some .int) 3 WM Γ [.ref (Γ.2.1 0)] s (emIS x) := MC_of (by decide +kernel) (Nat.le_of_ble_eq_true rfl) (e_X12_keyNow Γ  s ) h l
set_option maxRecDepth 100000 in
set_option maxHeartbeats 4000000 in
theorem e_X12_fault (Γ : GT)  (s : St)  : E RX12 cX12_fault 1 (some .int) 3 WM Γ emIS 0 [(0, .ref (Γ.2.1 0))] [] s (f_X12_fault  s) := by
  unfold f_X12_fault
  refine E_aload_n 0 dX12_fault_0 rfl rfl ?_
  refine E_callVIS (T := TX12) (ci := 12) [] [] dX12_fault_1 rfl kw_985 kw_987 kp_23 kw_13 ko_X12_faultNow rfl hy_X12_faultNow rfl (by decide) (Nat.le_of_ble_eq_true rfl) rfl (by decide) rfl (c_X12_faultNow Γ s) (fun p1 => ?_)
  exact E_ireturn dX12_fault_4 rfl rfl
theorem c_X12_fault (Γ : GT)  (s : St)  (x : (Int32 × St)) (h : f_X12_fault  s = some x) (l : Launch) : MC l yX12_fault cX12_fault 1 (some .int) 3 WM Γ [.ref (Γ.2.1 0)] s (emIS x) := MC_of (by decide +kernel) (Nat.le_of_ble_eq_true rfl) (e_X12_fault Γ  s ) h l
set_option maxRecDepth 100000 in
set_option maxHeartbeats 4000000 in
theorem e_X12_keyOf (Γ : GT) (a1 : Int32) (s : St)  : E RX12 cX12_keyOf 3 (some .int) 4 WM Γ emIS 0 [(0, .ref (Γ.2.1 0)), (1, .int a1)] [] s (f_X12_keyOf a1 s) := by
  unfold f_X12_keyOf
  refine E_aload_n 0 dX12_keyOf_0 rfl rfl ?_
  refine E_callVIS (T := TX12) (ci := 12) [] [] dX12_keyOf_1 rfl kw_1001 kw_1003 kp_26 kw_13 ko_X12_keyNow rfl hy_X12_keyNow rfl (by decide) (Nat.le_of_ble_eq_true rfl) rfl (by decide) rfl (c_X12_keyNow Γ s) (fun p1 => ?_)
  refine E_istore_n [(2, .int p1.1), (0, .ref (Γ.2.1 0)), (1, .int a1)] dX12_keyOf_4 rfl (by decide) rfl ?_
  refine E_aload_n 1 dX12_keyOf_5 rfl rfl ?_
  refine E_getR 2 (j := 3) (ci := 12) (T := TX12) (C0 := RX12) (ref := "SameWrongModel") dX12_keyOf_6 rfl (by decide) rfl inX12 (by decide) kw_877 rfl rfl rfl ?_
  refine E_iload_n 2 dX12_keyOf_9 rfl rfl ?_
  refine E_iaload dX12_keyOf_10 rfl (by decide) ?_
  exact E_ireturn dX12_keyOf_11 rfl rfl
theorem c_X12_keyOf (Γ : GT) (a1 : Int32) (s : St)  (x : (Int32 × St)) (h : f_X12_keyOf a1 s = some x) (l : Launch) : MC l yX12_keyOf cX12_keyOf 3 (some .int) 4 WM Γ [.ref (Γ.2.1 0), .int a1] s (emIS x) := MC_of (by decide +kernel) (Nat.le_of_ble_eq_true rfl) (e_X12_keyOf Γ a1 s ) h l
set_option maxRecDepth 100000 in
set_option maxHeartbeats 4000000 in
theorem e_X12_key (Γ : GT) (a1 : Int32) (s : St)  : E RX12 cX12_key 2 (some .int) 5 WM Γ emIS 0 [(0, .ref (Γ.2.1 0)), (1, .int a1)] [] s (f_X12_key a1 s) := by
  unfold f_X12_key
  refine E_aload_n 0 dX12_key_0 rfl rfl ?_
  refine E_iload_n 1 dX12_key_1 rfl rfl ?_
  refine E_callVZ (T := TX12) (ci := 12) [.int a1] [] dX12_key_2 rfl kw_993 kw_995 kp_24 kw_13 ko_X12_isQuestion rfl hy_X12_isQuestion rfl (by decide) (Nat.le_of_ble_eq_true rfl) rfl (by decide) rfl (c_X12_isQuestion Γ a1 s) (fun v1 => ?_)
  refine E_ifeqb 16 dX12_key_5 (by decide) ?_ ?_
  · refine E_bipush (v := (-2)) dX12_key_16 (by decide) ?_
    exact E_ireturn dX12_key_18 rfl rfl
  · refine E_aload_n 0 dX12_key_8 rfl rfl ?_
    refine E_iload_n 1 dX12_key_9 rfl rfl ?_
    refine E_callVIS (T := TX12) (ci := 12) [.int a1] [] dX12_key_10 rfl kw_997 kw_999 kp_25 kw_13 ko_X12_keyOf rfl hy_X12_keyOf rfl (by decide) (Nat.le_of_ble_eq_true rfl) rfl (by decide) rfl (c_X12_keyOf Γ a1 s) (fun p2 => ?_)
    refine E_goto 18 dX12_key_13 (by decide) ?_
    exact E_ireturn dX12_key_18 rfl rfl
theorem c_X12_key (Γ : GT) (a1 : Int32) (s : St)  (x : (Int32 × St)) (h : f_X12_key a1 s = some x) (l : Launch) : MC l yX12_key cX12_key 2 (some .int) 5 WM Γ [.ref (Γ.2.1 0), .int a1] s (emIS x) := MC_of (by decide +kernel) (Nat.le_of_ble_eq_true rfl) (e_X12_key Γ a1 s ) h l
set_option maxRecDepth 100000 in
set_option maxHeartbeats 4000000 in
theorem e_X12_set (Γ : GT) (a1 : Int32) (a2 : Int32) (s : St)  : E RX12 cX12_set 4 (some .int) 2 WM Γ emIS 0 [(0, .ref (Γ.2.1 0)), (1, .int a1), (2, .int a2)] [] s (f_X12_set a1 a2 s) := by
  unfold f_X12_set
  refine E_iload_n 1 dX12_set_0 rfl rfl ?_
  refine E_iconst (v := 0) dX12_set_1 (by decide) ?_
  refine E_iconst (v := 2) dX12_set_2 (by decide) ?_
  refine E_callSZ [.int a1, .int 0, .int 2] [] dX12_set_3 rfl kw_970 kw_971 kw_13 ko_X12_in hy_X12_in rfl (by decide) (Nat.le_of_ble_eq_true rfl) (c_X12_in Γ a1 0 2 s) (fun v1 => ?_)
  refine E_ifeqb 40 dX12_set_6 (by decide) ?_ ?_
  · refine E_bipush (v := (-5)) dX12_set_40 (by decide) ?_
    exact E_ireturn dX12_set_42 rfl rfl
  · refine E_iload_n 2 dX12_set_9 rfl rfl ?_
    refine E_iconst (v := 0) dX12_set_10 (by decide) ?_
    refine E_iload_n 1 dX12_set_11 rfl rfl ?_
    refine E_jn 34 (fun (y : Int32) => [(0, .ref (Γ.2.1 0)), (1, .int a1), (2, .int a2)]) (fun (y : Int32) => [.int y, .int 0, .int a2]) (fun (y : Int32) => s) ?_ ?_
    · intro y3
      refine E_callSZ [.int a2, .int 0, .int y3] [] dX12_set_34 rfl kw_970 kw_971 kw_13 ko_X12_in hy_X12_in rfl (by decide) (Nat.le_of_ble_eq_true rfl) (c_X12_in Γ a2 0 y3 s) (fun v4 => ?_)
      refine E_ifneb 43 dX12_set_37 (by decide) ?_ ?_
      · refine E_aload_n 0 dX12_set_43 rfl rfl ?_
        refine E_getR 3 (j := 4) (ci := 12) (T := TX12) (C0 := RX12) (ref := "SameWrongModel") dX12_set_44 rfl (by decide) rfl inX12 (by decide) kw_878 rfl rfl rfl ?_
        refine E_iload_n 1 dX12_set_47 rfl rfl ?_
        refine E_iaload dX12_set_48 rfl (by decide) ?_
        refine E_istore_n [(3, .int (s.1 3 a1.toNatClampNeg)), (0, .ref (Γ.2.1 0)), (1, .int a1), (2, .int a2)] dX12_set_49 rfl (by decide) rfl ?_
        refine E_bv (fun v5 => [(3, .int v5), (0, .ref (Γ.2.1 0)), (1, .int a1), (2, .int a2)]) (fun v5 => ?_) (s.1 3 a1.toNatClampNeg)
        refine E_aload_n 1 dX12_set_50 rfl rfl ?_
        refine E_getR 3 (j := 4) (ci := 12) (T := TX12) (C0 := RX12) (ref := "SameWrongModel") dX12_set_51 rfl (by decide) rfl inX12 (by decide) kw_878 rfl rfl rfl ?_
        refine E_iload_n 2 dX12_set_54 rfl rfl ?_
        refine E_iload_n 3 dX12_set_55 rfl rfl ?_
        refine E_iastore dX12_set_56 rfl (by decide) ?_
        refine E_bd (fun s6 => ?_)
        refine E_iload_n 0 dX12_set_57 rfl rfl ?_
        exact E_ireturn dX12_set_58 rfl rfl
      · refine E_bipush (v := (-5)) dX12_set_40 (by decide) ?_
        exact E_ireturn dX12_set_42 rfl rfl
    · intro K2 hK2
      refine E_ifne 21 dX12_set_12 (by decide) ?_ ?_
      · refine E_iload_n 1 dX12_set_21 rfl rfl ?_
        refine E_iconst (v := 1) dX12_set_22 (by decide) ?_
        refine E_icmpne 31 dX12_set_23 (by decide) ?_ ?_
        · refine E_sipush (v := 1000) dX12_set_31 (by decide) ?_
          exact hK2 1000
        · refine E_bipush (v := 100) dX12_set_26 (by decide) ?_
          refine E_goto 34 dX12_set_28 (by decide) ?_
          exact hK2 100
      · refine E_sipush (v := 999) dX12_set_15 (by decide) ?_
        refine E_goto 34 dX12_set_18 (by decide) ?_
        exact hK2 999
theorem c_X12_set (Γ : GT) (a1 : Int32) (a2 : Int32) (s : St)  (x : (Int32 × St)) (h : f_X12_set a1 a2 s = some x) (l : Launch) : MC l yX12_set cX12_set 4 (some .int) 2 WM Γ [.ref (Γ.2.1 0), .int a1, .int a2] s (emIS x) := MC_of (by decide +kernel) (Nat.le_of_ble_eq_true rfl) (e_X12_set Γ a1 a2 s ) h l
set_option maxRecDepth 100000 in
set_option maxHeartbeats 4000000 in
theorem e_X12_isPupil (Γ : GT) (a1 : Int32) (s : St)  : E RX12 cX12_isPupil 2 (some .boolean) 2 WM Γ (emZ s) 0 [(0, .ref (Γ.2.1 0)), (1, .int a1)] [] s (f_X12_isPupil a1 s) := by
  unfold f_X12_isPupil
  refine E_iload_n 1 dX12_isPupil_0 rfl rfl ?_
  refine E_iconst (v := 0) dX12_isPupil_1 (by decide) ?_
  refine E_aload_n 0 dX12_isPupil_2 rfl rfl ?_
  refine E_getI (j := 5) (ci := 12) (T := TX12) (C0 := RX12) (ref := "SameWrongModel") dX12_isPupil_3 rfl (by decide) rfl inX12 (by decide) kw_879 rfl rfl ?_
  refine E_iconst (v := 1) dX12_isPupil_6 (by decide) ?_
  refine E_isub dX12_isPupil_7 ?_
  refine E_callSZ [.int a1, .int 0, .int ((s.1 0 5) - 1)] [] dX12_isPupil_8 rfl kw_970 kw_971 kw_13 ko_X12_in hy_X12_in rfl (by decide) (Nat.le_of_ble_eq_true rfl) (c_X12_in Γ a1 0 ((s.1 0 5) - 1) s) (fun v1 => ?_)
  exact E_zreturn (b := v1) dX12_isPupil_11 rfl rfl
theorem c_X12_isPupil (Γ : GT) (a1 : Int32) (s : St)  (x : Bool) (h : f_X12_isPupil a1 s = some x) (l : Launch) : MC l yX12_isPupil cX12_isPupil 2 (some .boolean) 2 WM Γ [.ref (Γ.2.1 0), .int a1] s ((emZ s) x) := MC_of (by decide +kernel) (Nat.le_of_ble_eq_true rfl) (e_X12_isPupil Γ a1 s ) h l
set_option maxRecDepth 100000 in
set_option maxHeartbeats 4000000 in
theorem e_X12_pupil (Γ : GT) (a1 : Int32) (a2 : Int32) (s : St)  : E RX12 cX12_pupil 4 (some .int) 2 WM Γ emIS 0 [(0, .ref (Γ.2.1 0)), (1, .int a1), (2, .int a2)] [] s (f_X12_pupil a1 a2 s) := by
  unfold f_X12_pupil
  refine E_iload_n 1 dX12_pupil_0 rfl rfl ?_
  refine E_iconst (v := 0) dX12_pupil_1 (by decide) ?_
  refine E_iconst (v := 3) dX12_pupil_2 (by decide) ?_
  refine E_callSZ [.int a1, .int 0, .int 3] [] dX12_pupil_3 rfl kw_970 kw_971 kw_13 ko_X12_in hy_X12_in rfl (by decide) (Nat.le_of_ble_eq_true rfl) (c_X12_in Γ a1 0 3 s) (fun v1 => ?_)
  refine E_ifeqb 18 dX12_pupil_6 (by decide) ?_ ?_
  · refine E_bipush (v := (-2)) dX12_pupil_18 (by decide) ?_
    exact E_ireturn dX12_pupil_20 rfl rfl
  · refine E_iload_n 2 dX12_pupil_9 rfl rfl ?_
    refine E_iconst (v := 0) dX12_pupil_10 (by decide) ?_
    refine E_iconst (v := 4) dX12_pupil_11 (by decide) ?_
    refine E_callSZ [.int a2, .int 0, .int 4] [] dX12_pupil_12 rfl kw_970 kw_971 kw_13 ko_X12_in hy_X12_in rfl (by decide) (Nat.le_of_ble_eq_true rfl) (c_X12_in Γ a2 0 4 s) (fun v2 => ?_)
    refine E_ifneb 21 dX12_pupil_15 (by decide) ?_ ?_
    · refine E_iconst (v := 0) dX12_pupil_21 (by decide) ?_
      refine E_istore_n [(3, .int 0), (0, .ref (Γ.2.1 0)), (1, .int a1), (2, .int a2)] dX12_pupil_22 rfl (by decide) rfl ?_
      refine E_jn 60 (fun (y : Unit) => [(0, .ref (Γ.2.1 0)), (1, .int a1), (2, .int a2)]) (fun (y : Unit) => []) (fun (y : Unit) => s) ?_ ?_
      · intro y4
        refine E_aload_n 0 dX12_pupil_60 rfl rfl ?_
        refine E_getI (j := 5) (ci := 12) (T := TX12) (C0 := RX12) (ref := "SameWrongModel") dX12_pupil_61 rfl (by decide) rfl inX12 (by decide) kw_879 rfl rfl ?_
        refine E_bipush (v := 10) dX12_pupil_64 (by decide) ?_
        refine E_icmpne 72 dX12_pupil_66 (by decide) ?_ ?_
        · refine E_aload_n 0 dX12_pupil_72 rfl rfl ?_
          refine E_getR 4 (j := 6) (ci := 12) (T := TX12) (C0 := RX12) (ref := "SameWrongModel") dX12_pupil_73 rfl (by decide) rfl inX12 (by decide) kw_880 rfl rfl rfl ?_
          refine E_aload_n 0 dX12_pupil_76 rfl rfl ?_
          refine E_getI (j := 5) (ci := 12) (T := TX12) (C0 := RX12) (ref := "SameWrongModel") dX12_pupil_77 rfl (by decide) rfl inX12 (by decide) kw_879 rfl rfl ?_
          refine E_iload_n 1 dX12_pupil_80 rfl rfl ?_
          refine E_iastore dX12_pupil_81 rfl (by decide) ?_
          refine E_bd (fun s5 => ?_)
          refine E_aload_n 0 dX12_pupil_82 rfl rfl ?_
          refine E_getR 5 (j := 7) (ci := 12) (T := TX12) (C0 := RX12) (ref := "SameWrongModel") dX12_pupil_83 rfl (by decide) rfl inX12 (by decide) kw_881 rfl rfl rfl ?_
          refine E_aload_n 0 dX12_pupil_86 rfl rfl ?_
          refine E_getI (j := 5) (ci := 12) (T := TX12) (C0 := RX12) (ref := "SameWrongModel") dX12_pupil_87 rfl (by decide) rfl inX12 (by decide) kw_879 rfl rfl ?_
          refine E_iload_n 2 dX12_pupil_90 rfl rfl ?_
          refine E_iastore dX12_pupil_91 rfl (by decide) ?_
          refine E_bd (fun s6 => ?_)
          refine E_aload_n 0 dX12_pupil_92 rfl rfl ?_
          refine E_dup dX12_pupil_93 rfl ?_
          refine E_getI (j := 5) (ci := 12) (T := TX12) (C0 := RX12) (ref := "SameWrongModel") dX12_pupil_94 rfl (by decide) rfl inX12 (by decide) kw_879 rfl rfl ?_
          refine E_iconst (v := 1) dX12_pupil_97 (by decide) ?_
          refine E_iadd dX12_pupil_98 ?_
          refine E_putI (j := 5) (ci := 12) (T := TX12) (C0 := RX12) (ref := "SameWrongModel") dX12_pupil_99 rfl (by decide) rfl inX12 (by decide) kw_879 rfl tyX12_ok nmX12 rfl rfl ?_
          refine E_bd (fun s7 => ?_)
          refine E_aload_n 0 dX12_pupil_102 rfl rfl ?_
          refine E_getI (j := 5) (ci := 12) (T := TX12) (C0 := RX12) (ref := "SameWrongModel") dX12_pupil_103 rfl (by decide) rfl inX12 (by decide) kw_879 rfl rfl ?_
          refine E_iconst (v := 1) dX12_pupil_106 (by decide) ?_
          refine E_isub dX12_pupil_107 ?_
          exact E_ireturn dX12_pupil_108 rfl rfl
        · refine E_bipush (v := (-4)) dX12_pupil_69 (by decide) ?_
          exact E_ireturn dX12_pupil_71 rfl rfl
      · intro K3 hK3
        refine E_lp (F := L_X12_pupil_23 a1 a2 s K3) (fun (x : Int32) => [(3, .int x), (0, .ref (Γ.2.1 0)), (1, .int a1), (2, .int a2)]) (fun (x : Int32) => s) ?_ NN 0
        intro r8 hr8 x9
        show E _ _ _ _ _ _ _ _ _ _ _ _ (L_X12_pupil_23 a1 a2 s K3 r8 x9)
        unfold L_X12_pupil_23
        refine E_iload_n 0 dX12_pupil_23 rfl rfl ?_
        refine E_aload_n 1 dX12_pupil_24 rfl rfl ?_
        refine E_getI (j := 5) (ci := 12) (T := TX12) (C0 := RX12) (ref := "SameWrongModel") dX12_pupil_25 rfl (by decide) rfl inX12 (by decide) kw_879 rfl rfl ?_
        refine E_icmpge 60 dX12_pupil_28 (by decide) ?_ ?_
        · refine E_lvsub [1, 2, 3] [(0, .ref (Γ.2.1 0)), (1, .int a1), (2, .int a2)] rfl ?_
          exact hK3 ()
        · refine E_aload_n 1 dX12_pupil_31 rfl rfl ?_
          refine E_getR 4 (j := 6) (ci := 12) (T := TX12) (C0 := RX12) (ref := "SameWrongModel") dX12_pupil_32 rfl (by decide) rfl inX12 (by decide) kw_880 rfl rfl rfl ?_
          refine E_iload_n 0 dX12_pupil_35 rfl rfl ?_
          refine E_iaload dX12_pupil_36 rfl (by decide) ?_
          refine E_iload_n 2 dX12_pupil_37 rfl rfl ?_
          refine E_icmpne 54 dX12_pupil_38 (by decide) ?_ ?_
          · refine E_iinc 0 [(3, .int (x9 + 1)), (0, .ref (Γ.2.1 0)), (1, .int a1), (2, .int a2)] dX12_pupil_54 rfl rfl (by decide) rfl ?_
            refine E_goto 23 dX12_pupil_57 (by decide) ?_
            exact hr8 (x9 + 1)
          · refine E_aload_n 1 dX12_pupil_41 rfl rfl ?_
            refine E_getR 5 (j := 7) (ci := 12) (T := TX12) (C0 := RX12) (ref := "SameWrongModel") dX12_pupil_42 rfl (by decide) rfl inX12 (by decide) kw_881 rfl rfl rfl ?_
            refine E_iload_n 0 dX12_pupil_45 rfl rfl ?_
            refine E_iaload dX12_pupil_46 rfl (by decide) ?_
            refine E_iload_n 3 dX12_pupil_47 rfl rfl ?_
            refine E_icmpne 54 dX12_pupil_48 (by decide) ?_ ?_
            · refine E_iinc 0 [(3, .int (x9 + 1)), (0, .ref (Γ.2.1 0)), (1, .int a1), (2, .int a2)] dX12_pupil_54 rfl rfl (by decide) rfl ?_
              refine E_goto 23 dX12_pupil_57 (by decide) ?_
              exact hr8 (x9 + 1)
            · refine E_bipush (v := (-2)) dX12_pupil_51 (by decide) ?_
              exact E_ireturn dX12_pupil_53 rfl rfl
    · refine E_bipush (v := (-2)) dX12_pupil_18 (by decide) ?_
      exact E_ireturn dX12_pupil_20 rfl rfl
theorem c_X12_pupil (Γ : GT) (a1 : Int32) (a2 : Int32) (s : St)  (x : (Int32 × St)) (h : f_X12_pupil a1 a2 s = some x) (l : Launch) : MC l yX12_pupil cX12_pupil 4 (some .int) 2 WM Γ [.ref (Γ.2.1 0), .int a1, .int a2] s (emIS x) := MC_of (by decide +kernel) (Nat.le_of_ble_eq_true rfl) (e_X12_pupil Γ a1 a2 s ) h l
set_option maxRecDepth 100000 in
set_option maxHeartbeats 4000000 in
theorem e_X12_lastTime (Γ : GT)  (s : St)  : E RX12 cX12_lastTime 1 (some .int) 1 WM Γ (emI s) 0 [(0, .ref (Γ.2.1 0))] [] s (f_X12_lastTime  s) := by
  unfold f_X12_lastTime
  refine E_aload_n 0 dX12_lastTime_0 rfl rfl ?_
  refine E_getI (j := 8) (ci := 12) (T := TX12) (C0 := RX12) (ref := "SameWrongModel") dX12_lastTime_1 rfl (by decide) rfl inX12 (by decide) kw_882 rfl rfl ?_
  refine E_ifne 11 dX12_lastTime_4 (by decide) ?_ ?_
  · refine E_aload_n 0 dX12_lastTime_11 rfl rfl ?_
    refine E_getR 9 (j := 12) (ci := 12) (T := TX12) (C0 := RX12) (ref := "SameWrongModel") dX12_lastTime_12 rfl (by decide) rfl inX12 (by decide) kw_886 rfl rfl rfl ?_
    refine E_aload_n 0 dX12_lastTime_15 rfl rfl ?_
    refine E_getI (j := 8) (ci := 12) (T := TX12) (C0 := RX12) (ref := "SameWrongModel") dX12_lastTime_16 rfl (by decide) rfl inX12 (by decide) kw_882 rfl rfl ?_
    refine E_iconst (v := 1) dX12_lastTime_19 (by decide) ?_
    refine E_isub dX12_lastTime_20 ?_
    refine E_iaload dX12_lastTime_21 rfl (by decide) ?_
    exact E_ireturn dX12_lastTime_22 rfl rfl
  · refine E_iconst (v := 0) dX12_lastTime_7 (by decide) ?_
    refine E_goto 22 dX12_lastTime_8 (by decide) ?_
    exact E_ireturn dX12_lastTime_22 rfl rfl
theorem c_X12_lastTime (Γ : GT)  (s : St)  (x : Int32) (h : f_X12_lastTime  s = some x) (l : Launch) : MC l yX12_lastTime cX12_lastTime 1 (some .int) 1 WM Γ [.ref (Γ.2.1 0)] s ((emI s) x) := MC_of (by decide +kernel) (Nat.le_of_ble_eq_true rfl) (e_X12_lastTime Γ  s ) h l
set_option maxRecDepth 100000 in
set_option maxHeartbeats 4000000 in
theorem e_X12_more (Γ : GT) (a1 : Int32) (a2 : Int32) (a3 : Int32) (a4 : Int32) (s : St)  : E RX12 cX12_more 5 (some .int) 3 WM Γ emIS 0 [(0, .ref (Γ.2.1 0)), (1, .int a1), (2, .int a2), (3, .int a3), (4, .int a4)] [] s (f_X12_more a1 a2 a3 a4 s) := by
  unfold f_X12_more
  refine E_aload_n 0 dX12_more_0 rfl rfl ?_
  refine E_iload_n 1 dX12_more_1 rfl rfl ?_
  refine E_callVZ (T := TX12) (ci := 12) [.int a1] [] dX12_more_2 rfl kw_1021 kw_1023 kp_28 kw_13 ko_X12_isPupil rfl hy_X12_isPupil rfl (by decide) (Nat.le_of_ble_eq_true rfl) rfl (by decide) rfl (c_X12_isPupil Γ a1 s) (fun v1 => ?_)
  refine E_ifeqb 40 dX12_more_5 (by decide) ?_ ?_
  · refine E_bipush (v := (-2)) dX12_more_40 (by decide) ?_
    exact E_ireturn dX12_more_42 rfl rfl
  · refine E_aload_n 0 dX12_more_8 rfl rfl ?_
    refine E_iload_n 2 dX12_more_9 rfl rfl ?_
    refine E_callVZ (T := TX12) (ci := 12) [.int a2] [] dX12_more_10 rfl kw_993 kw_995 kp_24 kw_13 ko_X12_isQuestion rfl hy_X12_isQuestion rfl (by decide) (Nat.le_of_ble_eq_true rfl) rfl (by decide) rfl (c_X12_isQuestion Γ a2 s) (fun v2 => ?_)
    refine E_ifeqb 40 dX12_more_13 (by decide) ?_ ?_
    · refine E_bipush (v := (-2)) dX12_more_40 (by decide) ?_
      exact E_ireturn dX12_more_42 rfl rfl
    · refine E_iload_n 3 dX12_more_16 rfl rfl ?_
      refine E_iconst (v := 0) dX12_more_17 (by decide) ?_
      refine E_iconst (v := 5) dX12_more_18 (by decide) ?_
      refine E_callSZ [.int a3, .int 0, .int 5] [] dX12_more_19 rfl kw_970 kw_971 kw_13 ko_X12_in hy_X12_in rfl (by decide) (Nat.le_of_ble_eq_true rfl) (c_X12_in Γ a3 0 5 s) (fun v3 => ?_)
      refine E_ifeqb 40 dX12_more_22 (by decide) ?_ ?_
      · refine E_bipush (v := (-2)) dX12_more_40 (by decide) ?_
        exact E_ireturn dX12_more_42 rfl rfl
      · refine E_iload 4 dX12_more_25 rfl ?_
        refine E_aload_n 0 dX12_more_27 rfl rfl ?_
        refine E_callVI (T := TX12) (ci := 12) [] [.int a4] dX12_more_28 rfl kw_1025 kw_1027 kp_29 kw_13 ko_X12_lastTime rfl hy_X12_lastTime rfl (by decide) (Nat.le_of_ble_eq_true rfl) rfl (by decide) rfl (c_X12_lastTime Γ s) (fun v4 => ?_)
        refine E_sipush (v := 999) dX12_more_31 (by decide) ?_
        refine E_callSZ [.int a4, .int v4, .int 999] [] dX12_more_34 rfl kw_970 kw_971 kw_13 ko_X12_in hy_X12_in rfl (by decide) (Nat.le_of_ble_eq_true rfl) (c_X12_in Γ a4 v4 999 s) (fun v5 => ?_)
        refine E_ifneb 43 dX12_more_37 (by decide) ?_ ?_
        · refine E_aload_n 0 dX12_more_43 rfl rfl ?_
          refine E_getI (j := 8) (ci := 12) (T := TX12) (C0 := RX12) (ref := "SameWrongModel") dX12_more_44 rfl (by decide) rfl inX12 (by decide) kw_882 rfl rfl ?_
          refine E_sipush (v := 150) dX12_more_47 (by decide) ?_
          refine E_icmpne 56 dX12_more_50 (by decide) ?_ ?_
          · refine E_aload_n 0 dX12_more_56 rfl rfl ?_
            refine E_getR 6 (j := 9) (ci := 12) (T := TX12) (C0 := RX12) (ref := "SameWrongModel") dX12_more_57 rfl (by decide) rfl inX12 (by decide) kw_883 rfl rfl rfl ?_
            refine E_aload_n 0 dX12_more_60 rfl rfl ?_
            refine E_getI (j := 8) (ci := 12) (T := TX12) (C0 := RX12) (ref := "SameWrongModel") dX12_more_61 rfl (by decide) rfl inX12 (by decide) kw_882 rfl rfl ?_
            refine E_iload_n 1 dX12_more_64 rfl rfl ?_
            refine E_iastore dX12_more_65 rfl (by decide) ?_
            refine E_bd (fun s6 => ?_)
            refine E_aload_n 0 dX12_more_66 rfl rfl ?_
            refine E_getR 7 (j := 10) (ci := 12) (T := TX12) (C0 := RX12) (ref := "SameWrongModel") dX12_more_67 rfl (by decide) rfl inX12 (by decide) kw_884 rfl rfl rfl ?_
            refine E_aload_n 0 dX12_more_70 rfl rfl ?_
            refine E_getI (j := 8) (ci := 12) (T := TX12) (C0 := RX12) (ref := "SameWrongModel") dX12_more_71 rfl (by decide) rfl inX12 (by decide) kw_882 rfl rfl ?_
            refine E_iload_n 2 dX12_more_74 rfl rfl ?_
            refine E_iastore dX12_more_75 rfl (by decide) ?_
            refine E_bd (fun s7 => ?_)
            refine E_aload_n 0 dX12_more_76 rfl rfl ?_
            refine E_getR 8 (j := 11) (ci := 12) (T := TX12) (C0 := RX12) (ref := "SameWrongModel") dX12_more_77 rfl (by decide) rfl inX12 (by decide) kw_885 rfl rfl rfl ?_
            refine E_aload_n 0 dX12_more_80 rfl rfl ?_
            refine E_getI (j := 8) (ci := 12) (T := TX12) (C0 := RX12) (ref := "SameWrongModel") dX12_more_81 rfl (by decide) rfl inX12 (by decide) kw_882 rfl rfl ?_
            refine E_iload_n 3 dX12_more_84 rfl rfl ?_
            refine E_iastore dX12_more_85 rfl (by decide) ?_
            refine E_bd (fun s8 => ?_)
            refine E_aload_n 0 dX12_more_86 rfl rfl ?_
            refine E_getR 9 (j := 12) (ci := 12) (T := TX12) (C0 := RX12) (ref := "SameWrongModel") dX12_more_87 rfl (by decide) rfl inX12 (by decide) kw_886 rfl rfl rfl ?_
            refine E_aload_n 0 dX12_more_90 rfl rfl ?_
            refine E_getI (j := 8) (ci := 12) (T := TX12) (C0 := RX12) (ref := "SameWrongModel") dX12_more_91 rfl (by decide) rfl inX12 (by decide) kw_882 rfl rfl ?_
            refine E_iload 4 dX12_more_94 rfl ?_
            refine E_iastore dX12_more_96 rfl (by decide) ?_
            refine E_bd (fun s9 => ?_)
            refine E_aload_n 0 dX12_more_97 rfl rfl ?_
            refine E_dup dX12_more_98 rfl ?_
            refine E_getI (j := 8) (ci := 12) (T := TX12) (C0 := RX12) (ref := "SameWrongModel") dX12_more_99 rfl (by decide) rfl inX12 (by decide) kw_882 rfl rfl ?_
            refine E_iconst (v := 1) dX12_more_102 (by decide) ?_
            refine E_iadd dX12_more_103 ?_
            refine E_putI (j := 8) (ci := 12) (T := TX12) (C0 := RX12) (ref := "SameWrongModel") dX12_more_104 rfl (by decide) rfl inX12 (by decide) kw_882 rfl tyX12_ok nmX12 rfl rfl ?_
            refine E_bd (fun s10 => ?_)
            refine E_aload_n 0 dX12_more_107 rfl rfl ?_
            refine E_getI (j := 8) (ci := 12) (T := TX12) (C0 := RX12) (ref := "SameWrongModel") dX12_more_108 rfl (by decide) rfl inX12 (by decide) kw_882 rfl rfl ?_
            exact E_ireturn dX12_more_111 rfl rfl
          · refine E_bipush (v := (-4)) dX12_more_53 (by decide) ?_
            exact E_ireturn dX12_more_55 rfl rfl
        · refine E_bipush (v := (-2)) dX12_more_40 (by decide) ?_
          exact E_ireturn dX12_more_42 rfl rfl
theorem c_X12_more (Γ : GT) (a1 : Int32) (a2 : Int32) (a3 : Int32) (a4 : Int32) (s : St)  (x : (Int32 × St)) (h : f_X12_more a1 a2 a3 a4 s = some x) (l : Launch) : MC l yX12_more cX12_more 5 (some .int) 3 WM Γ [.ref (Γ.2.1 0), .int a1, .int a2, .int a3, .int a4] s (emIS x) := MC_of (by decide +kernel) (Nat.le_of_ble_eq_true rfl) (e_X12_more Γ a1 a2 a3 a4 s ) h l
set_option maxRecDepth 100000 in
set_option maxHeartbeats 4000000 in
theorem e_X12_answer (Γ : GT) (a1 : Int32) (a2 : Int32) (a3 : Int32) (a4 : Int32) (s : St)  : E RX12 cX12_answer 5 (some .int) 4 WM Γ emIS 0 [(0, .ref (Γ.2.1 0)), (1, .int a1), (2, .int a2), (3, .int a3), (4, .int a4)] [] s (f_X12_answer a1 a2 a3 a4 s) := by
  unfold f_X12_answer
  refine E_aload_n 0 dX12_answer_0 rfl rfl ?_
  refine E_iload_n 1 dX12_answer_1 rfl rfl ?_
  refine E_iload_n 2 dX12_answer_2 rfl rfl ?_
  refine E_iload_n 3 dX12_answer_3 rfl rfl ?_
  refine E_iload 4 dX12_answer_4 rfl ?_
  refine E_callVIS (T := TX12) (ci := 12) [.int a1, .int a2, .int a3, .int a4] [] dX12_answer_6 rfl kw_1017 kw_1019 kp_27 kw_13 ko_X12_more rfl hy_X12_more rfl (by decide) (Nat.le_of_ble_eq_true rfl) rfl (by decide) rfl (c_X12_more Γ a1 a2 a3 a4 s) (fun p1 => ?_)
  exact E_ireturn dX12_answer_9 rfl rfl
theorem c_X12_answer (Γ : GT) (a1 : Int32) (a2 : Int32) (a3 : Int32) (a4 : Int32) (s : St)  (x : (Int32 × St)) (h : f_X12_answer a1 a2 a3 a4 s = some x) (l : Launch) : MC l yX12_answer cX12_answer 5 (some .int) 4 WM Γ [.ref (Γ.2.1 0), .int a1, .int a2, .int a3, .int a4] s (emIS x) := MC_of (by decide +kernel) (Nat.le_of_ble_eq_true rfl) (e_X12_answer Γ a1 a2 a3 a4 s ) h l
set_option maxRecDepth 100000 in
set_option maxHeartbeats 4000000 in
theorem e_X12_isSheet (Γ : GT) (a0 : Int32) (s : St)  : E RX12 cX12_isSheet 1 (some .boolean) 2 WM Γ (emZ s) 0 [(0, .int a0)] [] s (f_X12_isSheet a0 s) := by
  unfold f_X12_isSheet
  refine E_iload_n 0 dX12_isSheet_0 rfl rfl ?_
  refine E_iconst (v := 0) dX12_isSheet_1 (by decide) ?_
  refine E_iconst (v := 3) dX12_isSheet_2 (by decide) ?_
  refine E_callSZ [.int a0, .int 0, .int 3] [] dX12_isSheet_3 rfl kw_970 kw_971 kw_13 ko_X12_in hy_X12_in rfl (by decide) (Nat.le_of_ble_eq_true rfl) (c_X12_in Γ a0 0 3 s) (fun v1 => ?_)
  exact E_zreturn (b := v1) dX12_isSheet_6 rfl rfl
theorem c_X12_isSheet (Γ : GT) (a0 : Int32) (s : St)  (x : Bool) (h : f_X12_isSheet a0 s = some x) (l : Launch) : MC l yX12_isSheet cX12_isSheet 1 (some .boolean) 2 WM Γ [.int a0] s ((emZ s) x) := MC_of (by decide +kernel) (Nat.le_of_ble_eq_true rfl) (e_X12_isSheet Γ a0 s ) h l
set_option maxRecDepth 100000 in
set_option maxHeartbeats 4000000 in
theorem e_X12_meets (Γ : GT) (a1 : Int32) (s : St)  : E RX12 cX12_meets 2 (some .int) 1 WM Γ emIS 0 [(0, .ref (Γ.2.1 0)), (1, .int a1)] [] s (f_X12_meets a1 s) := by
  unfold f_X12_meets
  refine E_aload_n 0 dX12_meets_0 rfl rfl ?_
  refine E_iload_n 1 dX12_meets_1 rfl rfl ?_
  refine E_putI (j := 29) (ci := 12) (T := TX12) (C0 := RX12) (ref := "SameWrongModel") dX12_meets_2 rfl (by decide) rfl inX12 (by decide) kw_903 rfl tyX12_ok nmX12 rfl rfl ?_
  refine E_bd (fun s1 => ?_)
  refine E_bipush (v := (-10)) dX12_meets_5 (by decide) ?_
  refine E_iload_n 1 dX12_meets_7 rfl rfl ?_
  refine E_isub dX12_meets_8 ?_
  exact E_ireturn dX12_meets_9 rfl rfl
theorem c_X12_meets (Γ : GT) (a1 : Int32) (s : St)  (x : (Int32 × St)) (h : f_X12_meets a1 s = some x) (l : Launch) : MC l yX12_meets cX12_meets 2 (some .int) 1 WM Γ [.ref (Γ.2.1 0), .int a1] s (emIS x) := MC_of (by decide +kernel) (Nat.le_of_ble_eq_true rfl) (e_X12_meets Γ a1 s ) h l
set_option maxRecDepth 100000 in
set_option maxHeartbeats 4000000 in
theorem e_X12_read (Γ : GT) (a1 : Int32) (a2 : Int32) (a3 : Int32) (s : St)  : E RX12 cX12_read 5 (some .int) 4 WM Γ emIS 0 [(0, .ref (Γ.2.1 0)), (1, .int a1), (2, .int a2), (3, .int a3)] [] s (f_X12_read a1 a2 a3 s) := by
  unfold f_X12_read
  refine E_iload_n 1 dX12_read_0 rfl rfl ?_
  refine E_callSZ [.int a1] [] dX12_read_1 rfl kw_1033 kw_1034 kw_13 ko_X12_isSheet hy_X12_isSheet rfl (by decide) (Nat.le_of_ble_eq_true rfl) (c_X12_isSheet Γ a1 s) (fun v1 => ?_)
  refine E_ifeqb 29 dX12_read_4 (by decide) ?_ ?_
  · refine E_bipush (v := (-2)) dX12_read_29 (by decide) ?_
    exact E_ireturn dX12_read_31 rfl rfl
  · refine E_aload_n 0 dX12_read_7 rfl rfl ?_
    refine E_iload_n 2 dX12_read_8 rfl rfl ?_
    refine E_callVZ (T := TX12) (ci := 12) [.int a2] [] dX12_read_9 rfl kw_1021 kw_1023 kp_28 kw_13 ko_X12_isPupil rfl hy_X12_isPupil rfl (by decide) (Nat.le_of_ble_eq_true rfl) rfl (by decide) rfl (c_X12_isPupil Γ a2 s) (fun v2 => ?_)
    refine E_ifeqb 29 dX12_read_12 (by decide) ?_ ?_
    · refine E_bipush (v := (-2)) dX12_read_29 (by decide) ?_
      exact E_ireturn dX12_read_31 rfl rfl
    · refine E_iload_n 3 dX12_read_15 rfl rfl ?_
      refine E_aload_n 0 dX12_read_16 rfl rfl ?_
      refine E_callVI (T := TX12) (ci := 12) [] [.int a3] dX12_read_17 rfl kw_1025 kw_1027 kp_29 kw_13 ko_X12_lastTime rfl hy_X12_lastTime rfl (by decide) (Nat.le_of_ble_eq_true rfl) rfl (by decide) rfl (c_X12_lastTime Γ s) (fun v3 => ?_)
      refine E_sipush (v := 999) dX12_read_20 (by decide) ?_
      refine E_callSZ [.int a3, .int v3, .int 999] [] dX12_read_23 rfl kw_970 kw_971 kw_13 ko_X12_in hy_X12_in rfl (by decide) (Nat.le_of_ble_eq_true rfl) (c_X12_in Γ a3 v3 999 s) (fun v4 => ?_)
      refine E_ifneb 32 dX12_read_26 (by decide) ?_ ?_
      · refine E_aload_n 0 dX12_read_32 rfl rfl ?_
        refine E_getR 19 (j := 24) (ci := 12) (T := TX12) (C0 := RX12) (ref := "SameWrongModel") dX12_read_33 rfl (by decide) rfl inX12 (by decide) kw_898 rfl rfl rfl ?_
        refine E_iload_n 1 dX12_read_36 rfl rfl ?_
        refine E_zaload dX12_read_37 rfl (by decide) ?_
        refine E_ifne 47 dX12_read_38 (by decide) ?_ ?_
        · refine E_iconst (v := 0) dX12_read_47 (by decide) ?_
          refine E_istore [(4, .int 0), (0, .ref (Γ.2.1 0)), (1, .int a1), (2, .int a2), (3, .int a3)] dX12_read_48 (by decide) rfl ?_
          refine E_lp (F := L_X12_read_50 a1 a2 a3) (fun (x : Int32 × St) => [(4, .int x.1), (0, .ref (Γ.2.1 0)), (1, .int a1), (2, .int a2), (3, .int a3)]) (fun (x : Int32 × St) => x.2) ?_ NN (0, s)
          intro r5 hr5 x6
          show E _ _ _ _ _ _ _ _ _ _ _ _ (L_X12_read_50 a1 a2 a3 r5 x6)
          unfold L_X12_read_50
          refine E_iload 0 dX12_read_50 rfl ?_
          refine E_aload_n 1 dX12_read_52 rfl rfl ?_
          refine E_getR 21 (j := 26) (ci := 12) (T := TX12) (C0 := RX12) (ref := "SameWrongModel") dX12_read_53 rfl (by decide) rfl inX12 (by decide) kw_900 rfl rfl rfl ?_
          refine E_iload_n 2 dX12_read_56 rfl rfl ?_
          refine E_iaload dX12_read_57 rfl (by decide) ?_
          refine E_icmpge 90 dX12_read_58 (by decide) ?_ ?_
          · refine E_iload 0 dX12_read_90 rfl ?_
            exact E_ireturn dX12_read_92 rfl rfl
          · refine E_aload_n 1 dX12_read_61 rfl rfl ?_
            refine E_iload_n 3 dX12_read_62 rfl rfl ?_
            refine E_iload 0 dX12_read_63 rfl ?_
            refine E_aload_n 1 dX12_read_65 rfl rfl ?_
            refine E_getR 22 (j := 27) (ci := 12) (T := TX12) (C0 := RX12) (ref := "SameWrongModel") dX12_read_66 rfl (by decide) rfl inX12 (by decide) kw_901 rfl rfl rfl ?_
            refine E_bipush (v := 48) dX12_read_69 (by decide) ?_
            refine E_iload_n 2 dX12_read_71 rfl rfl ?_
            refine E_imul dX12_read_72 ?_
            refine E_iload 0 dX12_read_73 rfl ?_
            refine E_iadd dX12_read_75 ?_
            refine E_iaload dX12_read_76 rfl (by decide) ?_
            refine E_iload_n 4 dX12_read_77 rfl rfl ?_
            refine E_callVIS (T := TX12) (ci := 12) [.int a2, .int x6.1, .int (x6.2.1 22 ((48 * a1) + x6.1).toNatClampNeg), .int a3] [] dX12_read_78 rfl kw_1017 kw_1019 kp_27 kw_13 ko_X12_more rfl hy_X12_more rfl (by decide) (Nat.le_of_ble_eq_true rfl) rfl (by decide) rfl (c_X12_more Γ a2 x6.1 (x6.2.1 22 ((48 * a1) + x6.1).toNatClampNeg) a3 x6.2) (fun p7 => ?_)
            refine E_ifle 90 dX12_read_81 (by decide) ?_ ?_
            · refine E_iload 0 dX12_read_90 rfl ?_
              exact E_ireturn dX12_read_92 rfl rfl
            · refine E_iinc 0 [(4, .int (x6.1 + 1)), (0, .ref (Γ.2.1 0)), (1, .int a1), (2, .int a2), (3, .int a3)] dX12_read_84 rfl rfl (by decide) rfl ?_
              refine E_goto 50 dX12_read_87 (by decide) ?_
              exact hr5 (x6.1 + 1, p7.2)
        · refine E_aload_n 0 dX12_read_41 rfl rfl ?_
          refine E_iconst (v := 1) dX12_read_42 (by decide) ?_
          refine E_callVIS (T := TX12) (ci := 12) [.int 1] [] dX12_read_43 rfl kw_1036 kw_1038 kp_30 kw_13 ko_X12_meets rfl hy_X12_meets rfl (by decide) (Nat.le_of_ble_eq_true rfl) rfl (by decide) rfl (c_X12_meets Γ 1 s) (fun p8 => ?_)
          exact E_ireturn dX12_read_46 rfl rfl
      · refine E_bipush (v := (-2)) dX12_read_29 (by decide) ?_
        exact E_ireturn dX12_read_31 rfl rfl
theorem c_X12_read (Γ : GT) (a1 : Int32) (a2 : Int32) (a3 : Int32) (s : St)  (x : (Int32 × St)) (h : f_X12_read a1 a2 a3 s = some x) (l : Launch) : MC l yX12_read cX12_read 5 (some .int) 4 WM Γ [.ref (Γ.2.1 0), .int a1, .int a2, .int a3] s (emIS x) := MC_of (by decide +kernel) (Nat.le_of_ble_eq_true rfl) (e_X12_read Γ a1 a2 a3 s ) h l
set_option maxRecDepth 100000 in
set_option maxHeartbeats 4000000 in
theorem e_X12_lays (Γ : GT)  (s : St)  : E RX12 cX12_lays 8 none 4 WM Γ emV 0 [(0, .ref (Γ.2.1 0))] [] s (f_X12_lays  s) := by
  unfold f_X12_lays
  refine E_aload_n 0 dX12_lays_0 rfl rfl ?_
  refine E_callVIS (T := TX12) (ci := 12) [] [] dX12_lays_1 rfl kw_1001 kw_1003 kp_26 kw_13 ko_X12_keyNow rfl hy_X12_keyNow rfl (by decide) (Nat.le_of_ble_eq_true rfl) rfl (by decide) rfl (c_X12_keyNow Γ s) (fun p1 => ?_)
  refine E_istore_n [(1, .int p1.1), (0, .ref (Γ.2.1 0))] dX12_lays_4 rfl (by decide) rfl ?_
  refine E_iconst (v := 0) dX12_lays_5 (by decide) ?_
  refine E_istore_n [(2, .int 0), (1, .int p1.1), (0, .ref (Γ.2.1 0))] dX12_lays_6 rfl (by decide) rfl ?_
  refine E_jn 26 (fun (y : St) => [(0, .ref (Γ.2.1 0))]) (fun (y : St) => []) (fun (y : St) => y) ?_ ?_
  · intro y3
    refine E_iconst (v := 0) dX12_lays_26 (by decide) ?_
    refine E_istore_n [(2, .int 0), (0, .ref (Γ.2.1 0))] dX12_lays_27 rfl (by decide) rfl ?_
    refine E_jn 61 (fun (y : St) => [(0, .ref (Γ.2.1 0))]) (fun (y : St) => []) (fun (y : St) => y) ?_ ?_
    · intro y5
      refine E_iconst (v := 0) dX12_lays_61 (by decide) ?_
      refine E_istore_n [(2, .int 0), (0, .ref (Γ.2.1 0))] dX12_lays_62 rfl (by decide) rfl ?_
      refine E_lp (F := L_X12_lays_63) (fun (x : Int32 × St) => [(2, .int x.1), (0, .ref (Γ.2.1 0))]) (fun (x : Int32 × St) => x.2) ?_ NN (0, y5)
      intro r6 hr6 x7
      show E _ _ _ _ _ _ _ _ _ _ _ _ (L_X12_lays_63 r6 x7)
      unfold L_X12_lays_63
      refine E_iload_n 0 dX12_lays_63 rfl rfl ?_
      refine E_aload_n 1 dX12_lays_64 rfl rfl ?_
      refine E_getI (j := 8) (ci := 12) (T := TX12) (C0 := RX12) (ref := "SameWrongModel") dX12_lays_65 rfl (by decide) rfl inX12 (by decide) kw_882 rfl rfl ?_
      refine E_icmpge 262 dX12_lays_68 (by decide) ?_ ?_
      · exact E_return dX12_lays_262 rfl rfl
      · refine E_aload_n 1 dX12_lays_71 rfl rfl ?_
        refine E_getR 9 (j := 12) (ci := 12) (T := TX12) (C0 := RX12) (ref := "SameWrongModel") dX12_lays_72 rfl (by decide) rfl inX12 (by decide) kw_886 rfl rfl rfl ?_
        refine E_iload_n 0 dX12_lays_75 rfl rfl ?_
        refine E_iaload dX12_lays_76 rfl (by decide) ?_
        refine E_aload_n 1 dX12_lays_77 rfl rfl ?_
        refine E_getR 3 (j := 4) (ci := 12) (T := TX12) (C0 := RX12) (ref := "SameWrongModel") dX12_lays_78 rfl (by decide) rfl inX12 (by decide) kw_878 rfl rfl rfl ?_
        refine E_iconst (v := 0) dX12_lays_81 (by decide) ?_
        refine E_iaload dX12_lays_82 rfl (by decide) ?_
        refine E_icmpgt 262 dX12_lays_83 (by decide) ?_ ?_
        · exact E_return dX12_lays_262 rfl rfl
        · refine E_aload_n 1 dX12_lays_86 rfl rfl ?_
          refine E_getR 6 (j := 9) (ci := 12) (T := TX12) (C0 := RX12) (ref := "SameWrongModel") dX12_lays_87 rfl (by decide) rfl inX12 (by decide) kw_883 rfl rfl rfl ?_
          refine E_iload_n 0 dX12_lays_90 rfl rfl ?_
          refine E_iaload dX12_lays_91 rfl (by decide) ?_
          refine E_istore_n [(3, .int (x7.2.1 6 x7.1.toNatClampNeg)), (2, .int x7.1), (0, .ref (Γ.2.1 0))] dX12_lays_92 rfl (by decide) rfl ?_
          refine E_bv (fun v8 => [(3, .int v8), (2, .int x7.1), (0, .ref (Γ.2.1 0))]) (fun v8 => ?_) (x7.2.1 6 x7.1.toNatClampNeg)
          refine E_aload_n 2 dX12_lays_93 rfl rfl ?_
          refine E_getR 7 (j := 10) (ci := 12) (T := TX12) (C0 := RX12) (ref := "SameWrongModel") dX12_lays_94 rfl (by decide) rfl inX12 (by decide) kw_884 rfl rfl rfl ?_
          refine E_iload_n 1 dX12_lays_97 rfl rfl ?_
          refine E_iaload dX12_lays_98 rfl (by decide) ?_
          refine E_istore [(4, .int (x7.2.1 7 x7.1.toNatClampNeg)), (3, .int v8), (2, .int x7.1), (0, .ref (Γ.2.1 0))] dX12_lays_99 (by decide) rfl ?_
          refine E_bv (fun v9 => [(4, .int v9), (3, .int v8), (2, .int x7.1), (0, .ref (Γ.2.1 0))]) (fun v9 => ?_) (x7.2.1 7 x7.1.toNatClampNeg)
          refine E_bipush (v := 12) dX12_lays_101 (by decide) ?_
          refine E_iload_n 1 dX12_lays_103 rfl rfl ?_
          refine E_imul dX12_lays_104 ?_
          refine E_iload 0 dX12_lays_105 rfl ?_
          refine E_iadd dX12_lays_107 ?_
          refine E_istore [(5, .int ((12 * v8) + v9)), (4, .int v9), (3, .int v8), (2, .int x7.1), (0, .ref (Γ.2.1 0))] dX12_lays_108 (by decide) rfl ?_
          refine E_bv (fun v10 => [(5, .int v10), (4, .int v9), (3, .int v8), (2, .int x7.1), (0, .ref (Γ.2.1 0))]) (fun v10 => ?_) ((12 * v8) + v9)
          refine E_aload_n 4 dX12_lays_110 rfl rfl ?_
          refine E_getR 10 (j := 13) (ci := 12) (T := TX12) (C0 := RX12) (ref := "SameWrongModel") dX12_lays_111 rfl (by decide) rfl inX12 (by decide) kw_887 rfl rfl rfl ?_
          refine E_iload 0 dX12_lays_114 rfl ?_
          refine E_iaload dX12_lays_116 rfl (by decide) ?_
          refine E_istore [(6, .int (x7.2.1 10 v10.toNatClampNeg)), (5, .int v10), (4, .int v9), (3, .int v8), (2, .int x7.1), (0, .ref (Γ.2.1 0))] dX12_lays_117 (by decide) rfl ?_
          refine E_bv (fun v11 => [(6, .int v11), (5, .int v10), (4, .int v9), (3, .int v8), (2, .int x7.1), (0, .ref (Γ.2.1 0))]) (fun v11 => ?_) (x7.2.1 10 v10.toNatClampNeg)
          refine E_aload_n 5 dX12_lays_119 rfl rfl ?_
          refine E_getR 8 (j := 11) (ci := 12) (T := TX12) (C0 := RX12) (ref := "SameWrongModel") dX12_lays_120 rfl (by decide) rfl inX12 (by decide) kw_885 rfl rfl rfl ?_
          refine E_iload_n 4 dX12_lays_123 rfl rfl ?_
          refine E_iaload dX12_lays_124 rfl (by decide) ?_
          refine E_istore [(7, .int (x7.2.1 8 x7.1.toNatClampNeg)), (6, .int v11), (5, .int v10), (4, .int v9), (3, .int v8), (2, .int x7.1), (0, .ref (Γ.2.1 0))] dX12_lays_125 (by decide) rfl ?_
          refine E_bv (fun v12 => [(7, .int v12), (6, .int v11), (5, .int v10), (4, .int v9), (3, .int v8), (2, .int x7.1), (0, .ref (Γ.2.1 0))]) (fun v12 => ?_) (x7.2.1 8 x7.1.toNatClampNeg)
          refine E_iload 1 dX12_lays_127 rfl ?_
          refine E_jn 247 (fun (y : St) => [(7, .int v12), (5, .int v10), (2, .int x7.1), (0, .ref (Γ.2.1 0))]) (fun (y : St) => []) (fun (y : St) => y) ?_ ?_
          · intro y14
            refine E_aload_n 3 dX12_lays_247 rfl rfl ?_
            refine E_getR 10 (j := 13) (ci := 12) (T := TX12) (C0 := RX12) (ref := "SameWrongModel") dX12_lays_248 rfl (by decide) rfl inX12 (by decide) kw_887 rfl rfl rfl ?_
            refine E_iload 1 dX12_lays_251 rfl ?_
            refine E_iload 0 dX12_lays_253 rfl ?_
            refine E_iastore dX12_lays_255 rfl (by decide) ?_
            refine E_bd (fun s15 => ?_)
            refine E_iinc 2 [(2, .int (x7.1 + 1)), (7, .int v12), (5, .int v10), (0, .ref (Γ.2.1 0))] dX12_lays_256 rfl rfl (by decide) rfl ?_
            refine E_goto 63 dX12_lays_259 (by decide) ?_
            refine E_lvsub [0, 3] [(2, .int (x7.1 + 1)), (0, .ref (Γ.2.1 0))] rfl ?_
            exact hr6 (x7.1 + 1, s15)
          · intro K13 hK13
            refine E_ifeq 247 dX12_lays_129 (by decide) ?_ ?_
            · refine E_lvsub [0, 2, 5, 6] [(7, .int v12), (5, .int v10), (2, .int x7.1), (0, .ref (Γ.2.1 0))] rfl ?_
              exact hK13 x7.2
            · refine E_iload 1 dX12_lays_132 rfl ?_
              refine E_iload 0 dX12_lays_134 rfl ?_
              refine E_icmpeq 247 dX12_lays_136 (by decide) ?_ ?_
              · refine E_lvsub [0, 2, 5, 6] [(7, .int v12), (5, .int v10), (2, .int x7.1), (0, .ref (Γ.2.1 0))] rfl ?_
                exact hK13 x7.2
              · refine E_iload 3 dX12_lays_139 rfl ?_
                refine E_aload_n 6 dX12_lays_141 rfl rfl ?_
                refine E_getI (j := 0) (ci := 12) (T := TX12) (C0 := RX12) (ref := "SameWrongModel") dX12_lays_142 rfl (by decide) rfl inX12 (by decide) kw_874 rfl rfl ?_
                refine E_icmpge 247 dX12_lays_145 (by decide) ?_ ?_
                · refine E_lvsub [0, 2, 5, 6] [(7, .int v12), (5, .int v10), (2, .int x7.1), (0, .ref (Γ.2.1 0))] rfl ?_
                  exact hK13 x7.2
                · refine E_aload_n 6 dX12_lays_148 rfl rfl ?_
                  refine E_getR 11 (j := 14) (ci := 12) (T := TX12) (C0 := RX12) (ref := "SameWrongModel") dX12_lays_149 rfl (by decide) rfl inX12 (by decide) kw_888 rfl rfl rfl ?_
                  refine E_iload_n 4 dX12_lays_152 rfl rfl ?_
                  refine E_dup2 dX12_lays_153 rfl rfl ?_
                  refine E_iaload dX12_lays_154 rfl (by decide) ?_
                  refine E_iconst (v := 1) dX12_lays_155 (by decide) ?_
                  refine E_iadd dX12_lays_156 ?_
                  refine E_iastore dX12_lays_157 rfl (by decide) ?_
                  refine E_bd (fun s16 => ?_)
                  refine E_aload_n 6 dX12_lays_158 rfl rfl ?_
                  refine E_getR 12 (j := 15) (ci := 12) (T := TX12) (C0 := RX12) (ref := "SameWrongModel") dX12_lays_159 rfl (by decide) rfl inX12 (by decide) kw_889 rfl rfl rfl ?_
                  refine E_iload_n 4 dX12_lays_162 rfl rfl ?_
                  refine E_dup2 dX12_lays_163 rfl rfl ?_
                  refine E_iaload dX12_lays_164 rfl (by decide) ?_
                  refine E_aload_n 6 dX12_lays_165 rfl rfl ?_
                  refine E_getR 2 (j := 3) (ci := 12) (T := TX12) (C0 := RX12) (ref := "SameWrongModel") dX12_lays_166 rfl (by decide) rfl inX12 (by decide) kw_877 rfl rfl rfl ?_
                  refine E_iload 3 dX12_lays_169 rfl ?_
                  refine E_iaload dX12_lays_171 rfl (by decide) ?_
                  refine E_jn 204 (fun (y : Bool) => [(7, .int v12), (6, .int v11), (5, .int v10), (4, .int v9), (3, .int v8), (2, .int x7.1), (0, .ref (Γ.2.1 0))]) (fun (y : Bool) => [.int (bI y), .int (s16.1 12 v8.toNatClampNeg), .int v8, .ref (Γ.2.1 12)]) (fun (y : Bool) => s16) ?_ ?_
                  · intro y18
                    refine E_iadd dX12_lays_204 ?_
                    refine E_iastore dX12_lays_205 rfl (by decide) ?_
                    refine E_bd (fun s19 => ?_)
                    refine E_aload_n 6 dX12_lays_206 rfl rfl ?_
                    refine E_getR 13 (j := 16) (ci := 12) (T := TX12) (C0 := RX12) (ref := "SameWrongModel") dX12_lays_207 rfl (by decide) rfl inX12 (by decide) kw_890 rfl rfl rfl ?_
                    refine E_iload_n 4 dX12_lays_210 rfl rfl ?_
                    refine E_dup2 dX12_lays_211 rfl rfl ?_
                    refine E_iaload dX12_lays_212 rfl (by decide) ?_
                    refine E_aload_n 6 dX12_lays_213 rfl rfl ?_
                    refine E_getR 2 (j := 3) (ci := 12) (T := TX12) (C0 := RX12) (ref := "SameWrongModel") dX12_lays_214 rfl (by decide) rfl inX12 (by decide) kw_877 rfl rfl rfl ?_
                    refine E_iload 3 dX12_lays_217 rfl ?_
                    refine E_iaload dX12_lays_219 rfl (by decide) ?_
                    refine E_jn 245 (fun (y : Bool) => [(7, .int v12), (5, .int v10), (2, .int x7.1), (0, .ref (Γ.2.1 0))]) (fun (y : Bool) => [.int (bI y), .int (s19.1 13 v8.toNatClampNeg), .int v8, .ref (Γ.2.1 13)]) (fun (y : Bool) => s19) ?_ ?_
                    · intro y21
                      refine E_iadd dX12_lays_245 ?_
                      refine E_iastore dX12_lays_246 rfl (by decide) ?_
                      refine E_bd (fun s22 => ?_)
                      exact hK13 s22
                    · intro K20 hK20
                      refine E_ifeq 244 dX12_lays_220 (by decide) ?_ ?_
                      · refine E_iconst (v := 0) dX12_lays_244 (by decide) ?_
                        refine E_lvsub [0, 2, 5, 6] [(7, .int v12), (5, .int v10), (2, .int x7.1), (0, .ref (Γ.2.1 0))] rfl ?_
                        exact hK20 false
                      · refine E_iload 1 dX12_lays_223 rfl ?_
                        refine E_aload_n 6 dX12_lays_225 rfl rfl ?_
                        refine E_getR 2 (j := 3) (ci := 12) (T := TX12) (C0 := RX12) (ref := "SameWrongModel") dX12_lays_226 rfl (by decide) rfl inX12 (by decide) kw_877 rfl rfl rfl ?_
                        refine E_iload 3 dX12_lays_229 rfl ?_
                        refine E_iaload dX12_lays_231 rfl (by decide) ?_
                        refine E_icmpne 244 dX12_lays_232 (by decide) ?_ ?_
                        · refine E_iconst (v := 0) dX12_lays_244 (by decide) ?_
                          refine E_lvsub [0, 2, 5, 6] [(7, .int v12), (5, .int v10), (2, .int x7.1), (0, .ref (Γ.2.1 0))] rfl ?_
                          exact hK20 false
                        · refine E_iload 0 dX12_lays_235 rfl ?_
                          refine E_ifeq 244 dX12_lays_237 (by decide) ?_ ?_
                          · refine E_iconst (v := 0) dX12_lays_244 (by decide) ?_
                            refine E_lvsub [0, 2, 5, 6] [(7, .int v12), (5, .int v10), (2, .int x7.1), (0, .ref (Γ.2.1 0))] rfl ?_
                            exact hK20 false
                          · refine E_iconst (v := 1) dX12_lays_240 (by decide) ?_
                            refine E_goto 245 dX12_lays_241 (by decide) ?_
                            refine E_lvsub [0, 2, 5, 6] [(7, .int v12), (5, .int v10), (2, .int x7.1), (0, .ref (Γ.2.1 0))] rfl ?_
                            exact hK20 true
                  · intro K17 hK17
                    refine E_ifeq 203 dX12_lays_172 (by decide) ?_ ?_
                    · refine E_iconst (v := 0) dX12_lays_203 (by decide) ?_
                      exact hK17 false
                    · refine E_iload 1 dX12_lays_175 rfl ?_
                      refine E_aload_n 6 dX12_lays_177 rfl rfl ?_
                      refine E_getR 2 (j := 3) (ci := 12) (T := TX12) (C0 := RX12) (ref := "SameWrongModel") dX12_lays_178 rfl (by decide) rfl inX12 (by decide) kw_877 rfl rfl rfl ?_
                      refine E_iload 3 dX12_lays_181 rfl ?_
                      refine E_iaload dX12_lays_183 rfl (by decide) ?_
                      refine E_icmpeq 203 dX12_lays_184 (by decide) ?_ ?_
                      · refine E_iconst (v := 0) dX12_lays_203 (by decide) ?_
                        exact hK17 false
                      · refine E_iload 0 dX12_lays_187 rfl ?_
                        refine E_aload_n 6 dX12_lays_189 rfl rfl ?_
                        refine E_getR 2 (j := 3) (ci := 12) (T := TX12) (C0 := RX12) (ref := "SameWrongModel") dX12_lays_190 rfl (by decide) rfl inX12 (by decide) kw_877 rfl rfl rfl ?_
                        refine E_iload 3 dX12_lays_193 rfl ?_
                        refine E_iaload dX12_lays_195 rfl (by decide) ?_
                        refine E_icmpne 203 dX12_lays_196 (by decide) ?_ ?_
                        · refine E_iconst (v := 0) dX12_lays_203 (by decide) ?_
                          exact hK17 false
                        · refine E_iconst (v := 1) dX12_lays_199 (by decide) ?_
                          refine E_goto 204 dX12_lays_200 (by decide) ?_
                          exact hK17 true
    · intro K4 hK4
      refine E_lp (F := L_X12_lays_28 K4) (fun (x : Int32 × St) => [(2, .int x.1), (0, .ref (Γ.2.1 0))]) (fun (x : Int32 × St) => x.2) ?_ NN (0, y3)
      intro r23 hr23 x24
      show E _ _ _ _ _ _ _ _ _ _ _ _ (L_X12_lays_28 K4 r23 x24)
      unfold L_X12_lays_28
      refine E_iload_n 0 dX12_lays_28 rfl rfl ?_
      refine E_bipush (v := 10) dX12_lays_29 (by decide) ?_
      refine E_icmpge 61 dX12_lays_31 (by decide) ?_ ?_
      · refine E_lvsub [1] [(0, .ref (Γ.2.1 0))] rfl ?_
        exact hK4 x24.2
      · refine E_aload_n 1 dX12_lays_34 rfl rfl ?_
        refine E_getR 11 (j := 14) (ci := 12) (T := TX12) (C0 := RX12) (ref := "SameWrongModel") dX12_lays_35 rfl (by decide) rfl inX12 (by decide) kw_888 rfl rfl rfl ?_
        refine E_iload_n 0 dX12_lays_38 rfl rfl ?_
        refine E_iconst (v := 0) dX12_lays_39 (by decide) ?_
        refine E_iastore dX12_lays_40 rfl (by decide) ?_
        refine E_bd (fun s25 => ?_)
        refine E_aload_n 1 dX12_lays_41 rfl rfl ?_
        refine E_getR 12 (j := 15) (ci := 12) (T := TX12) (C0 := RX12) (ref := "SameWrongModel") dX12_lays_42 rfl (by decide) rfl inX12 (by decide) kw_889 rfl rfl rfl ?_
        refine E_iload_n 0 dX12_lays_45 rfl rfl ?_
        refine E_iconst (v := 0) dX12_lays_46 (by decide) ?_
        refine E_iastore dX12_lays_47 rfl (by decide) ?_
        refine E_bd (fun s26 => ?_)
        refine E_aload_n 1 dX12_lays_48 rfl rfl ?_
        refine E_getR 13 (j := 16) (ci := 12) (T := TX12) (C0 := RX12) (ref := "SameWrongModel") dX12_lays_49 rfl (by decide) rfl inX12 (by decide) kw_890 rfl rfl rfl ?_
        refine E_iload_n 0 dX12_lays_52 rfl rfl ?_
        refine E_iconst (v := 0) dX12_lays_53 (by decide) ?_
        refine E_iastore dX12_lays_54 rfl (by decide) ?_
        refine E_bd (fun s27 => ?_)
        refine E_iinc 0 [(2, .int (x24.1 + 1)), (0, .ref (Γ.2.1 0))] dX12_lays_55 rfl rfl (by decide) rfl ?_
        refine E_goto 28 dX12_lays_58 (by decide) ?_
        exact hr23 (x24.1 + 1, s27)
  · intro K2 hK2
    refine E_lvsub [0, 2] [(2, .int 0), (0, .ref (Γ.2.1 0))] rfl ?_
    refine E_lp (F := L_X12_lays_7 K2) (fun (x : Int32 × St) => [(2, .int x.1), (0, .ref (Γ.2.1 0))]) (fun (x : Int32 × St) => x.2) ?_ NN (0, p1.2)
    intro r28 hr28 x29
    show E _ _ _ _ _ _ _ _ _ _ _ _ (L_X12_lays_7 K2 r28 x29)
    unfold L_X12_lays_7
    refine E_iload_n 0 dX12_lays_7 rfl rfl ?_
    refine E_bipush (v := 120) dX12_lays_8 (by decide) ?_
    refine E_icmpge 26 dX12_lays_10 (by decide) ?_ ?_
    · refine E_lvsub [1] [(0, .ref (Γ.2.1 0))] rfl ?_
      exact hK2 x29.2
    · refine E_aload_n 1 dX12_lays_13 rfl rfl ?_
      refine E_getR 10 (j := 13) (ci := 12) (T := TX12) (C0 := RX12) (ref := "SameWrongModel") dX12_lays_14 rfl (by decide) rfl inX12 (by decide) kw_887 rfl rfl rfl ?_
      refine E_iload_n 0 dX12_lays_17 rfl rfl ?_
      refine E_iconst (v := 0) dX12_lays_18 (by decide) ?_
      refine E_iastore dX12_lays_19 rfl (by decide) ?_
      refine E_bd (fun s30 => ?_)
      refine E_iinc 0 [(2, .int (x29.1 + 1)), (0, .ref (Γ.2.1 0))] dX12_lays_20 rfl rfl (by decide) rfl ?_
      refine E_goto 7 dX12_lays_23 (by decide) ?_
      exact hr28 (x29.1 + 1, s30)
theorem c_X12_lays (Γ : GT)  (s : St)  (x : St) (h : f_X12_lays  s = some x) (l : Launch) : MC l yX12_lays cX12_lays 8 none 4 WM Γ [.ref (Γ.2.1 0)] s (emV x) := MC_of (by decide +kernel) (Nat.le_of_ble_eq_true rfl) (e_X12_lays Γ  s ) h l
set_option maxRecDepth 100000 in
set_option maxHeartbeats 4000000 in
theorem e_X12_isRight (Γ : GT) (a1 : Int32) (a2 : Int32) (s : St)  : E RX12 cX12_isRight 3 (some .boolean) 1 WM Γ (emZ s) 0 [(0, .ref (Γ.2.1 0)), (1, .int a1), (2, .int a2)] [] s (f_X12_isRight a1 a2 s) := by
  unfold f_X12_isRight
  refine E_aload_n 0 dX12_isRight_0 rfl rfl ?_
  refine E_getR 2 (j := 3) (ci := 12) (T := TX12) (C0 := RX12) (ref := "SameWrongModel") dX12_isRight_1 rfl (by decide) rfl inX12 (by decide) kw_877 rfl rfl rfl ?_
  refine E_iload_n 2 dX12_isRight_4 rfl rfl ?_
  refine E_iaload dX12_isRight_5 rfl (by decide) ?_
  refine E_ifeq 33 dX12_isRight_6 (by decide) ?_ ?_
  · refine E_iconst (v := 0) dX12_isRight_33 (by decide) ?_
    exact E_zreturn (b := false) dX12_isRight_34 rfl rfl
  · refine E_aload_n 0 dX12_isRight_9 rfl rfl ?_
    refine E_getR 10 (j := 13) (ci := 12) (T := TX12) (C0 := RX12) (ref := "SameWrongModel") dX12_isRight_10 rfl (by decide) rfl inX12 (by decide) kw_887 rfl rfl rfl ?_
    refine E_bipush (v := 12) dX12_isRight_13 (by decide) ?_
    refine E_iload_n 1 dX12_isRight_15 rfl rfl ?_
    refine E_imul dX12_isRight_16 ?_
    refine E_iload_n 2 dX12_isRight_17 rfl rfl ?_
    refine E_iadd dX12_isRight_18 ?_
    refine E_iaload dX12_isRight_19 rfl (by decide) ?_
    refine E_aload_n 0 dX12_isRight_20 rfl rfl ?_
    refine E_getR 2 (j := 3) (ci := 12) (T := TX12) (C0 := RX12) (ref := "SameWrongModel") dX12_isRight_21 rfl (by decide) rfl inX12 (by decide) kw_877 rfl rfl rfl ?_
    refine E_iload_n 2 dX12_isRight_24 rfl rfl ?_
    refine E_iaload dX12_isRight_25 rfl (by decide) ?_
    refine E_icmpne 33 dX12_isRight_26 (by decide) ?_ ?_
    · refine E_iconst (v := 0) dX12_isRight_33 (by decide) ?_
      exact E_zreturn (b := false) dX12_isRight_34 rfl rfl
    · refine E_iconst (v := 1) dX12_isRight_29 (by decide) ?_
      refine E_goto 34 dX12_isRight_30 (by decide) ?_
      exact E_zreturn (b := true) dX12_isRight_34 rfl rfl
theorem c_X12_isRight (Γ : GT) (a1 : Int32) (a2 : Int32) (s : St)  (x : Bool) (h : f_X12_isRight a1 a2 s = some x) (l : Launch) : MC l yX12_isRight cX12_isRight 3 (some .boolean) 1 WM Γ [.ref (Γ.2.1 0), .int a1, .int a2] s ((emZ s) x) := MC_of (by decide +kernel) (Nat.le_of_ble_eq_true rfl) (e_X12_isRight Γ a1 a2 s ) h l
set_option maxRecDepth 100000 in
set_option maxHeartbeats 4000000 in
theorem e_X12_isWrong (Γ : GT) (a1 : Int32) (a2 : Int32) (s : St)  : E RX12 cX12_isWrong 3 (some .boolean) 1 WM Γ (emZ s) 0 [(0, .ref (Γ.2.1 0)), (1, .int a1), (2, .int a2)] [] s (f_X12_isWrong a1 a2 s) := by
  unfold f_X12_isWrong
  refine E_aload_n 0 dX12_isWrong_0 rfl rfl ?_
  refine E_getR 2 (j := 3) (ci := 12) (T := TX12) (C0 := RX12) (ref := "SameWrongModel") dX12_isWrong_1 rfl (by decide) rfl inX12 (by decide) kw_877 rfl rfl rfl ?_
  refine E_iload_n 2 dX12_isWrong_4 rfl rfl ?_
  refine E_iaload dX12_isWrong_5 rfl (by decide) ?_
  refine E_ifeq 47 dX12_isWrong_6 (by decide) ?_ ?_
  · refine E_iconst (v := 0) dX12_isWrong_47 (by decide) ?_
    exact E_zreturn (b := false) dX12_isWrong_48 rfl rfl
  · refine E_aload_n 0 dX12_isWrong_9 rfl rfl ?_
    refine E_getR 10 (j := 13) (ci := 12) (T := TX12) (C0 := RX12) (ref := "SameWrongModel") dX12_isWrong_10 rfl (by decide) rfl inX12 (by decide) kw_887 rfl rfl rfl ?_
    refine E_bipush (v := 12) dX12_isWrong_13 (by decide) ?_
    refine E_iload_n 1 dX12_isWrong_15 rfl rfl ?_
    refine E_imul dX12_isWrong_16 ?_
    refine E_iload_n 2 dX12_isWrong_17 rfl rfl ?_
    refine E_iadd dX12_isWrong_18 ?_
    refine E_iaload dX12_isWrong_19 rfl (by decide) ?_
    refine E_ifeq 47 dX12_isWrong_20 (by decide) ?_ ?_
    · refine E_iconst (v := 0) dX12_isWrong_47 (by decide) ?_
      exact E_zreturn (b := false) dX12_isWrong_48 rfl rfl
    · refine E_aload_n 0 dX12_isWrong_23 rfl rfl ?_
      refine E_getR 10 (j := 13) (ci := 12) (T := TX12) (C0 := RX12) (ref := "SameWrongModel") dX12_isWrong_24 rfl (by decide) rfl inX12 (by decide) kw_887 rfl rfl rfl ?_
      refine E_bipush (v := 12) dX12_isWrong_27 (by decide) ?_
      refine E_iload_n 1 dX12_isWrong_29 rfl rfl ?_
      refine E_imul dX12_isWrong_30 ?_
      refine E_iload_n 2 dX12_isWrong_31 rfl rfl ?_
      refine E_iadd dX12_isWrong_32 ?_
      refine E_iaload dX12_isWrong_33 rfl (by decide) ?_
      refine E_aload_n 0 dX12_isWrong_34 rfl rfl ?_
      refine E_getR 2 (j := 3) (ci := 12) (T := TX12) (C0 := RX12) (ref := "SameWrongModel") dX12_isWrong_35 rfl (by decide) rfl inX12 (by decide) kw_877 rfl rfl rfl ?_
      refine E_iload_n 2 dX12_isWrong_38 rfl rfl ?_
      refine E_iaload dX12_isWrong_39 rfl (by decide) ?_
      refine E_icmpeq 47 dX12_isWrong_40 (by decide) ?_ ?_
      · refine E_iconst (v := 0) dX12_isWrong_47 (by decide) ?_
        exact E_zreturn (b := false) dX12_isWrong_48 rfl rfl
      · refine E_iconst (v := 1) dX12_isWrong_43 (by decide) ?_
        refine E_goto 48 dX12_isWrong_44 (by decide) ?_
        exact E_zreturn (b := true) dX12_isWrong_48 rfl rfl
theorem c_X12_isWrong (Γ : GT) (a1 : Int32) (a2 : Int32) (s : St)  (x : Bool) (h : f_X12_isWrong a1 a2 s = some x) (l : Launch) : MC l yX12_isWrong cX12_isWrong 3 (some .boolean) 1 WM Γ [.ref (Γ.2.1 0), .int a1, .int a2] s ((emZ s) x) := MC_of (by decide +kernel) (Nat.le_of_ble_eq_true rfl) (e_X12_isWrong Γ a1 a2 s ) h l
set_option maxRecDepth 100000 in
set_option maxHeartbeats 4000000 in
theorem e_X12_said (Γ : GT) (a1 : Int32) (a2 : Int32) (s : St)  : E RX12 cX12_said 3 (some .int) 5 WM Γ emIS 0 [(0, .ref (Γ.2.1 0)), (1, .int a1), (2, .int a2)] [] s (f_X12_said a1 a2 s) := by
  unfold f_X12_said
  refine E_aload_n 0 dX12_said_0 rfl rfl ?_
  refine E_iload_n 1 dX12_said_1 rfl rfl ?_
  refine E_callVZ (T := TX12) (ci := 12) [.int a1] [] dX12_said_2 rfl kw_1021 kw_1023 kp_28 kw_13 ko_X12_isPupil rfl hy_X12_isPupil rfl (by decide) (Nat.le_of_ble_eq_true rfl) rfl (by decide) rfl (c_X12_isPupil Γ a1 s) (fun v1 => ?_)
  refine E_ifeqb 16 dX12_said_5 (by decide) ?_ ?_
  · refine E_bipush (v := (-2)) dX12_said_16 (by decide) ?_
    exact E_ireturn dX12_said_18 rfl rfl
  · refine E_aload_n 0 dX12_said_8 rfl rfl ?_
    refine E_iload_n 2 dX12_said_9 rfl rfl ?_
    refine E_callVZ (T := TX12) (ci := 12) [.int a2] [] dX12_said_10 rfl kw_993 kw_995 kp_24 kw_13 ko_X12_isQuestion rfl hy_X12_isQuestion rfl (by decide) (Nat.le_of_ble_eq_true rfl) rfl (by decide) rfl (c_X12_isQuestion Γ a2 s) (fun v2 => ?_)
    refine E_ifneb 19 dX12_said_13 (by decide) ?_ ?_
    · refine E_aload_n 0 dX12_said_19 rfl rfl ?_
      refine E_callVV (T := TX12) (ci := 12) [] [] dX12_said_20 rfl kw_1044 kw_1046 kp_31 kw_13 ko_X12_lays rfl hy_X12_lays rfl (by decide) (Nat.le_of_ble_eq_true rfl) rfl (by decide) rfl (c_X12_lays Γ s) (fun s3 => ?_)
      refine E_aload_n 0 dX12_said_23 rfl rfl ?_
      refine E_getR 10 (j := 13) (ci := 12) (T := TX12) (C0 := RX12) (ref := "SameWrongModel") dX12_said_24 rfl (by decide) rfl inX12 (by decide) kw_887 rfl rfl rfl ?_
      refine E_bipush (v := 12) dX12_said_27 (by decide) ?_
      refine E_iload_n 1 dX12_said_29 rfl rfl ?_
      refine E_imul dX12_said_30 ?_
      refine E_iload_n 2 dX12_said_31 rfl rfl ?_
      refine E_iadd dX12_said_32 ?_
      refine E_iaload dX12_said_33 rfl (by decide) ?_
      exact E_ireturn dX12_said_34 rfl rfl
    · refine E_bipush (v := (-2)) dX12_said_16 (by decide) ?_
      exact E_ireturn dX12_said_18 rfl rfl
theorem c_X12_said (Γ : GT) (a1 : Int32) (a2 : Int32) (s : St)  (x : (Int32 × St)) (h : f_X12_said a1 a2 s = some x) (l : Launch) : MC l yX12_said cX12_said 3 (some .int) 5 WM Γ [.ref (Γ.2.1 0), .int a1, .int a2] s (emIS x) := MC_of (by decide +kernel) (Nat.le_of_ble_eq_true rfl) (e_X12_said Γ a1 a2 s ) h l
set_option maxRecDepth 100000 in
set_option maxHeartbeats 4000000 in
theorem e_X12_areTwo (Γ : GT) (a1 : Int32) (a2 : Int32) (s : St)  : E RX12 cX12_areTwo 3 (some .boolean) 3 WM Γ (emZ s) 0 [(0, .ref (Γ.2.1 0)), (1, .int a1), (2, .int a2)] [] s (f_X12_areTwo a1 a2 s) := by
  unfold f_X12_areTwo
  refine E_aload_n 0 dX12_areTwo_0 rfl rfl ?_
  refine E_iload_n 1 dX12_areTwo_1 rfl rfl ?_
  refine E_callVZ (T := TX12) (ci := 12) [.int a1] [] dX12_areTwo_2 rfl kw_1021 kw_1023 kp_28 kw_13 ko_X12_isPupil rfl hy_X12_isPupil rfl (by decide) (Nat.le_of_ble_eq_true rfl) rfl (by decide) rfl (c_X12_isPupil Γ a1 s) (fun v1 => ?_)
  refine E_ifeqb 25 dX12_areTwo_5 (by decide) ?_ ?_
  · refine E_iconst (v := 0) dX12_areTwo_25 (by decide) ?_
    exact E_zreturn (b := false) dX12_areTwo_26 rfl rfl
  · refine E_aload_n 0 dX12_areTwo_8 rfl rfl ?_
    refine E_iload_n 2 dX12_areTwo_9 rfl rfl ?_
    refine E_callVZ (T := TX12) (ci := 12) [.int a2] [] dX12_areTwo_10 rfl kw_1021 kw_1023 kp_28 kw_13 ko_X12_isPupil rfl hy_X12_isPupil rfl (by decide) (Nat.le_of_ble_eq_true rfl) rfl (by decide) rfl (c_X12_isPupil Γ a2 s) (fun v2 => ?_)
    refine E_ifeqb 25 dX12_areTwo_13 (by decide) ?_ ?_
    · refine E_iconst (v := 0) dX12_areTwo_25 (by decide) ?_
      exact E_zreturn (b := false) dX12_areTwo_26 rfl rfl
    · refine E_iload_n 1 dX12_areTwo_16 rfl rfl ?_
      refine E_iload_n 2 dX12_areTwo_17 rfl rfl ?_
      refine E_icmpeq 25 dX12_areTwo_18 (by decide) ?_ ?_
      · refine E_iconst (v := 0) dX12_areTwo_25 (by decide) ?_
        exact E_zreturn (b := false) dX12_areTwo_26 rfl rfl
      · refine E_iconst (v := 1) dX12_areTwo_21 (by decide) ?_
        refine E_goto 26 dX12_areTwo_22 (by decide) ?_
        exact E_zreturn (b := true) dX12_areTwo_26 rfl rfl
theorem c_X12_areTwo (Γ : GT) (a1 : Int32) (a2 : Int32) (s : St)  (x : Bool) (h : f_X12_areTwo a1 a2 s = some x) (l : Launch) : MC l yX12_areTwo cX12_areTwo 3 (some .boolean) 3 WM Γ [.ref (Γ.2.1 0), .int a1, .int a2] s ((emZ s) x) := MC_of (by decide +kernel) (Nat.le_of_ble_eq_true rfl) (e_X12_areTwo Γ a1 a2 s ) h l
set_option maxRecDepth 100000 in
set_option maxHeartbeats 4000000 in
theorem e_X12_amount (Γ : GT) (a0 : Int32) (s : St)  : E RX12 cX12_amount 1 (some .int) 1 WM Γ (emI s) 0 [(0, .int a0)] [] s (f_X12_amount a0 s) := by
  unfold f_X12_amount
  refine E_iload_n 0 dX12_amount_0 rfl rfl ?_
  refine E_ifge 9 dX12_amount_1 (by decide) ?_ ?_
  · refine E_iload_n 0 dX12_amount_9 rfl rfl ?_
    exact E_ireturn dX12_amount_10 rfl rfl
  · refine E_iload_n 0 dX12_amount_4 rfl rfl ?_
    refine E_ineg dX12_amount_5 ?_
    refine E_goto 10 dX12_amount_6 (by decide) ?_
    exact E_ireturn dX12_amount_10 rfl rfl
theorem c_X12_amount (Γ : GT) (a0 : Int32) (s : St)  (x : Int32) (h : f_X12_amount a0 s = some x) (l : Launch) : MC l yX12_amount cX12_amount 1 (some .int) 1 WM Γ [.int a0] s ((emI s) x) := MC_of (by decide +kernel) (Nat.le_of_ble_eq_true rfl) (e_X12_amount Γ a0 s ) h l
set_option maxRecDepth 100000 in
set_option maxHeartbeats 4000000 in
theorem e_X12_areBeside (Γ : GT) (a1 : Int32) (a2 : Int32) (s : St)  : E RX12 cX12_areBeside 3 (some .boolean) 2 WM Γ (emZ s) 0 [(0, .ref (Γ.2.1 0)), (1, .int a1), (2, .int a2)] [] s (f_X12_areBeside a1 a2 s) := by
  unfold f_X12_areBeside
  refine E_aload_n 0 dX12_areBeside_0 rfl rfl ?_
  refine E_getR 4 (j := 6) (ci := 12) (T := TX12) (C0 := RX12) (ref := "SameWrongModel") dX12_areBeside_1 rfl (by decide) rfl inX12 (by decide) kw_880 rfl rfl rfl ?_
  refine E_iload_n 1 dX12_areBeside_4 rfl rfl ?_
  refine E_iaload dX12_areBeside_5 rfl (by decide) ?_
  refine E_aload_n 0 dX12_areBeside_6 rfl rfl ?_
  refine E_getR 4 (j := 6) (ci := 12) (T := TX12) (C0 := RX12) (ref := "SameWrongModel") dX12_areBeside_7 rfl (by decide) rfl inX12 (by decide) kw_880 rfl rfl rfl ?_
  refine E_iload_n 2 dX12_areBeside_10 rfl rfl ?_
  refine E_iaload dX12_areBeside_11 rfl (by decide) ?_
  refine E_isub dX12_areBeside_12 ?_
  refine E_callSI [.int ((s.1 4 a1.toNatClampNeg) - (s.1 4 a2.toNatClampNeg))] [] dX12_areBeside_13 rfl kw_1060 kw_1061 kw_13 ko_X12_amount hy_X12_amount rfl (by decide) (Nat.le_of_ble_eq_true rfl) (c_X12_amount Γ ((s.1 4 a1.toNatClampNeg) - (s.1 4 a2.toNatClampNeg)) s) (fun v1 => ?_)
  refine E_iconst (v := 2) dX12_areBeside_16 (by decide) ?_
  refine E_icmpge 44 dX12_areBeside_17 (by decide) ?_ ?_
  · refine E_iconst (v := 0) dX12_areBeside_44 (by decide) ?_
    exact E_zreturn (b := false) dX12_areBeside_45 rfl rfl
  · refine E_aload_n 0 dX12_areBeside_20 rfl rfl ?_
    refine E_getR 5 (j := 7) (ci := 12) (T := TX12) (C0 := RX12) (ref := "SameWrongModel") dX12_areBeside_21 rfl (by decide) rfl inX12 (by decide) kw_881 rfl rfl rfl ?_
    refine E_iload_n 1 dX12_areBeside_24 rfl rfl ?_
    refine E_iaload dX12_areBeside_25 rfl (by decide) ?_
    refine E_aload_n 0 dX12_areBeside_26 rfl rfl ?_
    refine E_getR 5 (j := 7) (ci := 12) (T := TX12) (C0 := RX12) (ref := "SameWrongModel") dX12_areBeside_27 rfl (by decide) rfl inX12 (by decide) kw_881 rfl rfl rfl ?_
    refine E_iload_n 2 dX12_areBeside_30 rfl rfl ?_
    refine E_iaload dX12_areBeside_31 rfl (by decide) ?_
    refine E_isub dX12_areBeside_32 ?_
    refine E_callSI [.int ((s.1 5 a1.toNatClampNeg) - (s.1 5 a2.toNatClampNeg))] [] dX12_areBeside_33 rfl kw_1060 kw_1061 kw_13 ko_X12_amount hy_X12_amount rfl (by decide) (Nat.le_of_ble_eq_true rfl) (c_X12_amount Γ ((s.1 5 a1.toNatClampNeg) - (s.1 5 a2.toNatClampNeg)) s) (fun v2 => ?_)
    refine E_iconst (v := 2) dX12_areBeside_36 (by decide) ?_
    refine E_icmpge 44 dX12_areBeside_37 (by decide) ?_ ?_
    · refine E_iconst (v := 0) dX12_areBeside_44 (by decide) ?_
      exact E_zreturn (b := false) dX12_areBeside_45 rfl rfl
    · refine E_iconst (v := 1) dX12_areBeside_40 (by decide) ?_
      refine E_goto 45 dX12_areBeside_41 (by decide) ?_
      exact E_zreturn (b := true) dX12_areBeside_45 rfl rfl
theorem c_X12_areBeside (Γ : GT) (a1 : Int32) (a2 : Int32) (s : St)  (x : Bool) (h : f_X12_areBeside a1 a2 s = some x) (l : Launch) : MC l yX12_areBeside cX12_areBeside 3 (some .boolean) 2 WM Γ [.ref (Γ.2.1 0), .int a1, .int a2] s ((emZ s) x) := MC_of (by decide +kernel) (Nat.le_of_ble_eq_true rfl) (e_X12_areBeside Γ a1 a2 s ) h l
