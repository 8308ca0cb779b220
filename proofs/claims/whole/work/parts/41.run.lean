set_option maxRecDepth 100000 in
set_option maxHeartbeats 4000000 in
theorem e_X2_longestChain (Γ : GT)  (s : St)  : E RX2 cX2_longestChain 4 (some .int) 3 WC Γ emIS 0 [(0, .ref (Γ.2.1 7))] [] s (f_X2_longestChain  s) := by
  unfold f_X2_longestChain
  refine E_aload_n 0 dX2_longestChain_0 rfl rfl ?_
  refine E_getR 26 (j := 6) (ci := 2) (T := TX2) (C0 := RX2) (ref := "SameWrong$Givers") dX2_longestChain_1 rfl (by decide) rfl inX2 (by decide) kw_232 rfl rfl rfl ?_
  refine E_iconst (v := 1) dX2_longestChain_4 (by decide) ?_
  refine E_callSV [.ref (Γ.2.1 26), .int 1] [] dX2_longestChain_5 rfl kw_620 kw_413 kw_15 ko_J7_fill_53178 hy_J7_fill_53178 rfl (by decide) (Nat.le_of_ble_eq_true rfl) (c_J7_fill_53178 Γ 26 10 1 s rfl (by decide)) (fun s1 => ?_)
  refine E_aload_n 0 dX2_longestChain_8 rfl rfl ?_
  refine E_getR 2 (j := 0) (ci := 2) (T := TX2) (C0 := RX2) (ref := "SameWrong$Givers") dX2_longestChain_9 rfl (by decide) rfl inX2 (by decide) kw_226 rfl rfl rfl ?_
  refine E_getI (j := 0) (ci := 7) (T := TX7) (C0 := RX7) (ref := "SameWrong$Room") dX2_longestChain_12 rfl (by decide) rfl inX7 (by decide) kw_73 rfl rfl ?_
  refine E_iconst (v := 1) dX2_longestChain_15 (by decide) ?_
  refine E_callSI [.int (s1.1 2 0), .int 1] [] dX2_longestChain_16 rfl kw_674 kw_373 kw_14 ko_J9_min_7cf53 hy_J9_min_7cf53 rfl (by decide) (Nat.le_of_ble_eq_true rfl) (c_J9_min_7cf53 Γ (s1.1 2 0) 1 s1) (fun v2 => ?_)
  refine E_istore_n [(1, .int v2), (0, .ref (Γ.2.1 7))] dX2_longestChain_19 rfl (by decide) rfl ?_
  refine E_iconst (v := 0) dX2_longestChain_20 (by decide) ?_
  refine E_istore_n [(2, .int 0), (1, .int v2), (0, .ref (Γ.2.1 7))] dX2_longestChain_21 rfl (by decide) rfl ?_
  refine E_lp (F := L_X2_longestChain_22) (fun (x : Int32 × Int32 × St) => [(2, .int x.1), (1, .int x.2.1), (0, .ref (Γ.2.1 7))]) (fun (x : Int32 × Int32 × St) => x.2.2) ?_ NN (0, v2, s1)
  intro r3 hr3 x4
  show E _ _ _ _ _ _ _ _ _ _ _ _ (L_X2_longestChain_22 r3 x4)
  unfold L_X2_longestChain_22
  refine E_iload_n 0 dX2_longestChain_22 rfl rfl ?_
  refine E_aload_n 2 dX2_longestChain_23 rfl rfl ?_
  refine E_getR 2 (j := 0) (ci := 2) (T := TX2) (C0 := RX2) (ref := "SameWrong$Givers") dX2_longestChain_24 rfl (by decide) rfl inX2 (by decide) kw_226 rfl rfl rfl ?_
  refine E_getI (j := 0) (ci := 7) (T := TX7) (C0 := RX7) (ref := "SameWrong$Room") dX2_longestChain_27 rfl (by decide) rfl inX7 (by decide) kw_73 rfl rfl ?_
  refine E_icmpge 68 dX2_longestChain_30 (by decide) ?_ ?_
  · refine E_iload_n 1 dX2_longestChain_68 rfl rfl ?_
    exact E_ireturn dX2_longestChain_69 rfl rfl
  · refine E_iconst (v := 0) dX2_longestChain_33 (by decide) ?_
    refine E_istore_n [(3, .int 0), (2, .int x4.1), (1, .int x4.2.1), (0, .ref (Γ.2.1 7))] dX2_longestChain_34 rfl (by decide) rfl ?_
    refine E_lp (F := L_X2_longestChain_35 r3 x4) (fun (x : Int32 × Int32 × St) => [(3, .int x.1), (2, .int x4.1), (1, .int x.2.1), (0, .ref (Γ.2.1 7))]) (fun (x : Int32 × Int32 × St) => x.2.2) ?_ NN (0, x4.2.1, x4.2.2)
    intro r5 hr5 x6
    show E _ _ _ _ _ _ _ _ _ _ _ _ (L_X2_longestChain_35 r3 x4 r5 x6)
    unfold L_X2_longestChain_35
    refine E_iload_n 0 dX2_longestChain_35 rfl rfl ?_
    refine E_aload_n 3 dX2_longestChain_36 rfl rfl ?_
    refine E_getR 2 (j := 0) (ci := 2) (T := TX2) (C0 := RX2) (ref := "SameWrong$Givers") dX2_longestChain_37 rfl (by decide) rfl inX2 (by decide) kw_226 rfl rfl rfl ?_
    refine E_getI (j := 0) (ci := 7) (T := TX7) (C0 := RX7) (ref := "SameWrong$Room") dX2_longestChain_40 rfl (by decide) rfl inX7 (by decide) kw_73 rfl rfl ?_
    refine E_icmpge 62 dX2_longestChain_43 (by decide) ?_ ?_
    · refine E_iinc 1 [(2, .int (x4.1 + 1)), (3, .int x6.1), (1, .int x6.2.1), (0, .ref (Γ.2.1 7))] dX2_longestChain_62 rfl rfl (by decide) rfl ?_
      refine E_goto 22 dX2_longestChain_65 (by decide) ?_
      refine E_lvsub [0, 2, 3] [(2, .int (x4.1 + 1)), (1, .int x6.2.1), (0, .ref (Γ.2.1 7))] rfl ?_
      exact hr3 (x4.1 + 1, x6.2.1, x6.2.2)
    · refine E_iload_n 2 dX2_longestChain_46 rfl rfl ?_
      refine E_aload_n 3 dX2_longestChain_47 rfl rfl ?_
      refine E_iload_n 0 dX2_longestChain_48 rfl rfl ?_
      refine E_callVIS (T := TX2) (ci := 2) [.int x6.1] [.int x6.2.1] dX2_longestChain_49 rfl kw_675 kw_677 kp_18 kw_9 ko_X2_lengthen rfl hy_X2_lengthen rfl (by decide) (Nat.le_of_ble_eq_true rfl) rfl (by decide) rfl (c_X2_lengthen Γ x6.1 x6.2.2) (fun p7 => ?_)
      refine E_callSI [.int x6.2.1, .int p7.1] [] dX2_longestChain_52 rfl kw_680 kw_681 kw_14 ko_J9_max_7cf53 hy_J9_max_7cf53 rfl (by decide) (Nat.le_of_ble_eq_true rfl) (c_J9_max_7cf53 Γ x6.2.1 p7.1 p7.2) (fun v8 => ?_)
      refine E_istore_n [(1, .int v8), (3, .int x6.1), (2, .int x4.1), (0, .ref (Γ.2.1 7))] dX2_longestChain_55 rfl (by decide) rfl ?_
      refine E_iinc 1 [(3, .int (x6.1 + 1)), (1, .int v8), (2, .int x4.1), (0, .ref (Γ.2.1 7))] dX2_longestChain_56 rfl rfl (by decide) rfl ?_
      refine E_goto 35 dX2_longestChain_59 (by decide) ?_
      refine E_lvsub [0, 2, 1, 3] [(3, .int (x6.1 + 1)), (2, .int x4.1), (1, .int v8), (0, .ref (Γ.2.1 7))] rfl ?_
      exact hr5 (x6.1 + 1, v8, p7.2)
theorem c_X2_longestChain (Γ : GT)  (s : St)  (x : (Int32 × St)) (h : f_X2_longestChain  s = some x) (l : Launch) : MC l yX2_longestChain cX2_longestChain 4 (some .int) 3 WC Γ [.ref (Γ.2.1 7)] s (emIS x) := MC_of (by decide +kernel) (Nat.le_of_ble_eq_true rfl) (e_X2_longestChain Γ  s ) h l
set_option maxRecDepth 100000 in
set_option maxHeartbeats 4000000 in
theorem e_X3_choosersOf (Γ : GT) (a1 : Int32) (a2 : Int32) (s : St)  : E RX3 cX3_choosersOf 5 (some .int) 1 WC Γ (emI s) 0 [(0, .ref (Γ.2.1 9)), (1, .int a1), (2, .int a2)] [] s (f_X3_choosersOf a1 a2 s) := by
  unfold f_X3_choosersOf
  refine E_iconst (v := 0) dX3_choosersOf_0 (by decide) ?_
  refine E_istore_n [(3, .int 0), (0, .ref (Γ.2.1 9)), (1, .int a1), (2, .int a2)] dX3_choosersOf_1 rfl (by decide) rfl ?_
  refine E_iconst (v := 0) dX3_choosersOf_2 (by decide) ?_
  refine E_istore [(4, .int 0), (3, .int 0), (0, .ref (Γ.2.1 9)), (1, .int a1), (2, .int a2)] dX3_choosersOf_3 (by decide) rfl ?_
  refine E_lp (F := L_X3_choosersOf_5 a1 a2 s) (fun (x : Int32 × Int32) => [(4, .int x.1), (3, .int x.2), (0, .ref (Γ.2.1 9)), (1, .int a1), (2, .int a2)]) (fun (x : Int32 × Int32) => s) ?_ NN (0, 0)
  intro r1 hr1 x2
  show E _ _ _ _ _ _ _ _ _ _ _ _ (L_X3_choosersOf_5 a1 a2 s r1 x2)
  unfold L_X3_choosersOf_5
  refine E_iload 0 dX3_choosersOf_5 rfl ?_
  refine E_aload_n 2 dX3_choosersOf_7 rfl rfl ?_
  refine E_getR 2 (j := 0) (ci := 3) (T := TX3) (C0 := RX3) (ref := "SameWrong$Items") dX3_choosersOf_8 rfl (by decide) rfl inX3 (by decide) kw_276 rfl rfl rfl ?_
  refine E_getI (j := 0) (ci := 7) (T := TX7) (C0 := RX7) (ref := "SameWrong$Room") dX3_choosersOf_11 rfl (by decide) rfl inX7 (by decide) kw_72 rfl rfl ?_
  refine E_icmpge 42 dX3_choosersOf_14 (by decide) ?_ ?_
  · refine E_iload_n 1 dX3_choosersOf_42 rfl rfl ?_
    exact E_ireturn dX3_choosersOf_43 rfl rfl
  · refine E_aload_n 2 dX3_choosersOf_17 rfl rfl ?_
    refine E_getR 3 (j := 1) (ci := 3) (T := TX3) (C0 := RX3) (ref := "SameWrong$Items") dX3_choosersOf_18 rfl (by decide) rfl inX3 (by decide) kw_277 rfl rfl rfl ?_
    refine E_getR 32 (j := 3) (ci := 10) (T := TX10) (C0 := RX10) (ref := "SameWrong$Tellings") dX3_choosersOf_21 rfl (by decide) rfl inX10 (by decide) kw_102 rfl rfl rfl ?_
    refine E_iload 0 dX3_choosersOf_24 rfl ?_
    refine E_aaload (t := 1) dX3_choosersOf_26 (by decide) rfl (by decide) ?_
    refine E_iload_n 3 dX3_choosersOf_27 rfl rfl ?_
    refine E_iaload dX3_choosersOf_28 (sh_cur _) (lt_cur _) ?_
    refine E_iload_n 4 dX3_choosersOf_29 rfl rfl ?_
    refine E_icmpne 36 dX3_choosersOf_30 (by decide) ?_ ?_
    · refine E_iinc 0 [(4, .int (x2.1 + 1)), (3, .int x2.2), (0, .ref (Γ.2.1 9)), (1, .int a1), (2, .int a2)] dX3_choosersOf_36 rfl rfl (by decide) rfl ?_
      refine E_goto 5 dX3_choosersOf_39 (by decide) ?_
      exact hr1 (x2.1 + 1, x2.2)
    · refine E_iinc 1 [(3, .int (x2.2 + 1)), (4, .int x2.1), (0, .ref (Γ.2.1 9)), (1, .int a1), (2, .int a2)] dX3_choosersOf_33 rfl rfl (by decide) rfl ?_
      refine E_iinc 1 [(4, .int (x2.1 + 1)), (3, .int (x2.2 + 1)), (0, .ref (Γ.2.1 9)), (1, .int a1), (2, .int a2)] dX3_choosersOf_36 rfl rfl (by decide) rfl ?_
      refine E_goto 5 dX3_choosersOf_39 (by decide) ?_
      exact hr1 (x2.1 + 1, x2.2 + 1)
theorem c_X3_choosersOf (Γ : GT) (a1 : Int32) (a2 : Int32) (s : St)  (x : Int32) (h : f_X3_choosersOf a1 a2 s = some x) (l : Launch) : MC l yX3_choosersOf cX3_choosersOf 5 (some .int) 1 WC Γ [.ref (Γ.2.1 9), .int a1, .int a2] s ((emI s) x) := MC_of (by decide +kernel) (Nat.le_of_ble_eq_true rfl) (e_X3_choosersOf Γ a1 a2 s ) h l
set_option maxRecDepth 100000 in
set_option maxHeartbeats 4000000 in
theorem e_X3_restsOf (Γ : GT) (a1 : Int32) (a2 : Int32) (s : St)  : E RX3 cX3_restsOf 5 (some .int) 3 WC Γ (emI s) 0 [(0, .ref (Γ.2.1 9)), (1, .int a1), (2, .int a2)] [] s (f_X3_restsOf a1 a2 s) := by
  unfold f_X3_restsOf
  refine E_iconst (v := 0) dX3_restsOf_0 (by decide) ?_
  refine E_istore_n [(3, .int 0), (0, .ref (Γ.2.1 9)), (1, .int a1), (2, .int a2)] dX3_restsOf_1 rfl (by decide) rfl ?_
  refine E_iconst (v := 0) dX3_restsOf_2 (by decide) ?_
  refine E_istore [(4, .int 0), (3, .int 0), (0, .ref (Γ.2.1 9)), (1, .int a1), (2, .int a2)] dX3_restsOf_3 (by decide) rfl ?_
  refine E_lp (F := L_X3_restsOf_5 a1 a2 s) (fun (x : Int32 × Int32) => [(4, .int x.1), (3, .int x.2), (0, .ref (Γ.2.1 9)), (1, .int a1), (2, .int a2)]) (fun (x : Int32 × Int32) => s) ?_ NN (0, 0)
  intro r1 hr1 x2
  show E _ _ _ _ _ _ _ _ _ _ _ _ (L_X3_restsOf_5 a1 a2 s r1 x2)
  unfold L_X3_restsOf_5
  refine E_iload 0 dX3_restsOf_5 rfl ?_
  refine E_aload_n 2 dX3_restsOf_7 rfl rfl ?_
  refine E_getR 2 (j := 0) (ci := 3) (T := TX3) (C0 := RX3) (ref := "SameWrong$Items") dX3_restsOf_8 rfl (by decide) rfl inX3 (by decide) kw_276 rfl rfl rfl ?_
  refine E_getI (j := 0) (ci := 7) (T := TX7) (C0 := RX7) (ref := "SameWrong$Room") dX3_restsOf_11 rfl (by decide) rfl inX7 (by decide) kw_72 rfl rfl ?_
  refine E_icmpge 52 dX3_restsOf_14 (by decide) ?_ ?_
  · refine E_iload_n 1 dX3_restsOf_52 rfl rfl ?_
    exact E_ireturn dX3_restsOf_53 rfl rfl
  · refine E_aload_n 2 dX3_restsOf_17 rfl rfl ?_
    refine E_getR 3 (j := 1) (ci := 3) (T := TX3) (C0 := RX3) (ref := "SameWrong$Items") dX3_restsOf_18 rfl (by decide) rfl inX3 (by decide) kw_277 rfl rfl rfl ?_
    refine E_getR 32 (j := 3) (ci := 10) (T := TX10) (C0 := RX10) (ref := "SameWrong$Tellings") dX3_restsOf_21 rfl (by decide) rfl inX10 (by decide) kw_102 rfl rfl rfl ?_
    refine E_iload 0 dX3_restsOf_24 rfl ?_
    refine E_aaload (t := 1) dX3_restsOf_26 (by decide) rfl (by decide) ?_
    refine E_iload_n 3 dX3_restsOf_27 rfl rfl ?_
    refine E_iaload dX3_restsOf_28 (sh_cur _) (lt_cur _) ?_
    refine E_iload_n 4 dX3_restsOf_29 rfl rfl ?_
    refine E_icmpne 46 dX3_restsOf_30 (by decide) ?_ ?_
    · refine E_iinc 0 [(4, .int (x2.1 + 1)), (3, .int x2.2), (0, .ref (Γ.2.1 9)), (1, .int a1), (2, .int a2)] dX3_restsOf_46 rfl rfl (by decide) rfl ?_
      refine E_goto 5 dX3_restsOf_49 (by decide) ?_
      exact hr1 (x2.1 + 1, x2.2)
    · refine E_iload_n 1 dX3_restsOf_33 rfl rfl ?_
      refine E_aload_n 2 dX3_restsOf_34 rfl rfl ?_
      refine E_getR 4 (j := 2) (ci := 3) (T := TX3) (C0 := RX3) (ref := "SameWrong$Items") dX3_restsOf_35 rfl (by decide) rfl inX3 (by decide) kw_278 rfl rfl rfl ?_
      refine E_iload 0 dX3_restsOf_38 rfl ?_
      refine E_iload_n 3 dX3_restsOf_40 rfl rfl ?_
      refine E_callVI (T := TX5) (ci := 5) [.int x2.1, .int a1] [.int x2.2] dX3_restsOf_41 rfl kw_729 kw_491 kw_492 kw_6 ko_X5_restOf rfl hy_X5_restOf rfl (by decide) (Nat.le_of_ble_eq_true rfl) rfl (by decide) rfl (c_X5_restOf Γ x2.1 a1 s) (fun v3 => ?_)
      refine E_iadd dX3_restsOf_44 ?_
      refine E_istore_n [(3, .int (x2.2 + v3)), (4, .int x2.1), (0, .ref (Γ.2.1 9)), (1, .int a1), (2, .int a2)] dX3_restsOf_45 rfl (by decide) rfl ?_
      refine E_bv (fun v4 => [(3, .int v4), (4, .int x2.1), (0, .ref (Γ.2.1 9)), (1, .int a1), (2, .int a2)]) (fun v4 => ?_) (x2.2 + v3)
      refine E_iinc 1 [(4, .int (x2.1 + 1)), (3, .int v4), (0, .ref (Γ.2.1 9)), (1, .int a1), (2, .int a2)] dX3_restsOf_46 rfl rfl (by decide) rfl ?_
      refine E_goto 5 dX3_restsOf_49 (by decide) ?_
      exact hr1 (x2.1 + 1, v4)
theorem c_X3_restsOf (Γ : GT) (a1 : Int32) (a2 : Int32) (s : St)  (x : Int32) (h : f_X3_restsOf a1 a2 s = some x) (l : Launch) : MC l yX3_restsOf cX3_restsOf 5 (some .int) 3 WC Γ [.ref (Γ.2.1 9), .int a1, .int a2] s ((emI s) x) := MC_of (by decide +kernel) (Nat.le_of_ble_eq_true rfl) (e_X3_restsOf Γ a1 a2 s ) h l
set_option maxRecDepth 100000 in
set_option maxHeartbeats 4000000 in
theorem e_X3_bestChoice (Γ : GT) (a1 : Int32) (s : St)  : E RX3 cX3_bestChoice 9 (some .int) 4 WC Γ (emI s) 0 [(0, .ref (Γ.2.1 9)), (1, .int a1)] [] s (f_X3_bestChoice a1 s) := by
  unfold f_X3_bestChoice
  refine E_iconst (v := (-1)) dX3_bestChoice_0 (by decide) ?_
  refine E_istore_n [(2, .int (-1)), (0, .ref (Γ.2.1 9)), (1, .int a1)] dX3_bestChoice_1 rfl (by decide) rfl ?_
  refine E_iconst (v := 0) dX3_bestChoice_2 (by decide) ?_
  refine E_istore_n [(3, .int 0), (2, .int (-1)), (0, .ref (Γ.2.1 9)), (1, .int a1)] dX3_bestChoice_3 rfl (by decide) rfl ?_
  refine E_iconst (v := 0) dX3_bestChoice_4 (by decide) ?_
  refine E_istore [(4, .int 0), (3, .int 0), (2, .int (-1)), (0, .ref (Γ.2.1 9)), (1, .int a1)] dX3_bestChoice_5 (by decide) rfl ?_
  refine E_iconst (v := 1) dX3_bestChoice_7 (by decide) ?_
  refine E_istore [(5, .int 1), (4, .int 0), (3, .int 0), (2, .int (-1)), (0, .ref (Γ.2.1 9)), (1, .int a1)] dX3_bestChoice_8 (by decide) rfl ?_
  refine E_lp (F := L_X3_bestChoice_10 a1 s) (fun (x : Int32 × Int32 × Int32 × Int32) => [(5, .int x.1), (4, .int x.2.1), (3, .int x.2.2.1), (2, .int x.2.2.2), (0, .ref (Γ.2.1 9)), (1, .int a1)]) (fun (x : Int32 × Int32 × Int32 × Int32) => s) ?_ NN (1, 0, 0, (-1))
  intro r1 hr1 x2
  show E _ _ _ _ _ _ _ _ _ _ _ _ (L_X3_bestChoice_10 a1 s r1 x2)
  unfold L_X3_bestChoice_10
  refine E_iload 0 dX3_bestChoice_10 rfl ?_
  refine E_iconst (v := 5) dX3_bestChoice_12 (by decide) ?_
  refine E_icmpgt 88 dX3_bestChoice_13 (by decide) ?_ ?_
  · refine E_iload_n 3 dX3_bestChoice_88 rfl rfl ?_
    exact E_ireturn dX3_bestChoice_89 rfl rfl
  · refine E_aload_n 4 dX3_bestChoice_16 rfl rfl ?_
    refine E_iload_n 5 dX3_bestChoice_17 rfl rfl ?_
    refine E_iload 0 dX3_bestChoice_18 rfl ?_
    refine E_callVI (T := TX3) (ci := 3) [.int a1, .int x2.1] [] dX3_bestChoice_20 rfl kw_738 kw_722 kw_723 kw_11 ko_X3_choosersOf rfl hy_X3_choosersOf rfl (by decide) (Nat.le_of_ble_eq_true rfl) rfl (by decide) rfl (c_X3_choosersOf Γ a1 x2.1 s) (fun v3 => ?_)
    refine E_istore [(6, .int v3), (5, .int x2.1), (4, .int x2.2.1), (3, .int x2.2.2.1), (2, .int x2.2.2.2), (0, .ref (Γ.2.1 9)), (1, .int a1)] dX3_bestChoice_23 (by decide) rfl ?_
    refine E_aload_n 5 dX3_bestChoice_25 rfl rfl ?_
    refine E_iload_n 6 dX3_bestChoice_26 rfl rfl ?_
    refine E_iload 1 dX3_bestChoice_27 rfl ?_
    refine E_callVI (T := TX3) (ci := 3) [.int a1, .int x2.1] [] dX3_bestChoice_29 rfl kw_739 kw_726 kw_727 kw_11 ko_X3_restsOf rfl hy_X3_restsOf rfl (by decide) (Nat.le_of_ble_eq_true rfl) rfl (by decide) rfl (c_X3_restsOf Γ a1 x2.1 s) (fun v4 => ?_)
    refine E_istore [(7, .int v4), (6, .int v3), (5, .int x2.1), (4, .int x2.2.1), (3, .int x2.2.2.1), (2, .int x2.2.2.2), (0, .ref (Γ.2.1 9)), (1, .int a1)] dX3_bestChoice_32 (by decide) rfl ?_
    refine E_iload 0 dX3_bestChoice_34 rfl ?_
    refine E_iload_n 4 dX3_bestChoice_36 rfl rfl ?_
    refine E_imul dX3_bestChoice_37 ?_
    refine E_iload 3 dX3_bestChoice_38 rfl ?_
    refine E_iload 1 dX3_bestChoice_40 rfl ?_
    refine E_imul dX3_bestChoice_42 ?_
    refine E_isub dX3_bestChoice_43 ?_
    refine E_istore [(8, .int ((v4 * x2.2.2.1) - (x2.2.1 * v3))), (7, .int v4), (6, .int v3), (5, .int x2.1), (4, .int x2.2.1), (3, .int x2.2.2.1), (2, .int x2.2.2.2), (0, .ref (Γ.2.1 9)), (1, .int a1)] dX3_bestChoice_44 (by decide) rfl ?_
    refine E_bv (fun v5 => [(8, .int v5), (7, .int v4), (6, .int v3), (5, .int x2.1), (4, .int x2.2.1), (3, .int x2.2.2.1), (2, .int x2.2.2.2), (0, .ref (Γ.2.1 9)), (1, .int a1)]) (fun v5 => ?_) ((v4 * x2.2.2.1) - (x2.2.1 * v3))
    refine E_iload 2 dX3_bestChoice_46 rfl ?_
    refine E_ifle 82 dX3_bestChoice_48 (by decide) ?_ ?_
    · refine E_iinc 3 [(5, .int (x2.1 + 1)), (8, .int v5), (7, .int v4), (6, .int v3), (4, .int x2.2.1), (3, .int x2.2.2.1), (2, .int x2.2.2.2), (0, .ref (Γ.2.1 9)), (1, .int a1)] dX3_bestChoice_82 rfl rfl (by decide) rfl ?_
      refine E_goto 10 dX3_bestChoice_85 (by decide) ?_
      refine E_lvsub [0, 4, 5, 6, 7, 8] [(5, .int (x2.1 + 1)), (4, .int x2.2.1), (3, .int x2.2.2.1), (2, .int x2.2.2.2), (0, .ref (Γ.2.1 9)), (1, .int a1)] rfl ?_
      exact hr1 (x2.1 + 1, x2.2.1, x2.2.2.1, x2.2.2.2)
    · refine E_iload_n 6 dX3_bestChoice_51 rfl rfl ?_
      refine E_iconst (v := (-1)) dX3_bestChoice_52 (by decide) ?_
      refine E_icmpeq 72 dX3_bestChoice_53 (by decide) ?_ ?_
      · refine E_iload 3 dX3_bestChoice_72 rfl ?_
        refine E_istore_n [(2, .int x2.1), (8, .int v5), (7, .int v4), (6, .int v3), (5, .int x2.1), (4, .int x2.2.1), (3, .int x2.2.2.1), (0, .ref (Γ.2.1 9)), (1, .int a1)] dX3_bestChoice_74 rfl (by decide) rfl ?_
        refine E_iload 3 dX3_bestChoice_75 rfl ?_
        refine E_istore_n [(3, .int v3), (2, .int x2.1), (8, .int v5), (7, .int v4), (6, .int v3), (5, .int x2.1), (4, .int x2.2.1), (0, .ref (Γ.2.1 9)), (1, .int a1)] dX3_bestChoice_77 rfl (by decide) rfl ?_
        refine E_iload 3 dX3_bestChoice_78 rfl ?_
        refine E_istore [(4, .int v4), (3, .int v3), (2, .int x2.1), (8, .int v5), (7, .int v4), (6, .int v3), (5, .int x2.1), (0, .ref (Γ.2.1 9)), (1, .int a1)] dX3_bestChoice_80 (by decide) rfl ?_
        refine E_iinc 6 [(5, .int (x2.1 + 1)), (4, .int v4), (3, .int v3), (2, .int x2.1), (8, .int v5), (7, .int v4), (6, .int v3), (0, .ref (Γ.2.1 9)), (1, .int a1)] dX3_bestChoice_82 rfl rfl (by decide) rfl ?_
        refine E_goto 10 dX3_bestChoice_85 (by decide) ?_
        refine E_lvsub [0, 1, 2, 3, 7, 8] [(5, .int (x2.1 + 1)), (4, .int v4), (3, .int v3), (2, .int x2.1), (0, .ref (Γ.2.1 9)), (1, .int a1)] rfl ?_
        exact hr1 (x2.1 + 1, v4, v3, x2.1)
      · refine E_iload 0 dX3_bestChoice_56 rfl ?_
        refine E_ifgt 72 dX3_bestChoice_58 (by decide) ?_ ?_
        · refine E_iload 3 dX3_bestChoice_72 rfl ?_
          refine E_istore_n [(2, .int x2.1), (8, .int v5), (7, .int v4), (6, .int v3), (5, .int x2.1), (4, .int x2.2.1), (3, .int x2.2.2.1), (0, .ref (Γ.2.1 9)), (1, .int a1)] dX3_bestChoice_74 rfl (by decide) rfl ?_
          refine E_iload 3 dX3_bestChoice_75 rfl ?_
          refine E_istore_n [(3, .int v3), (2, .int x2.1), (8, .int v5), (7, .int v4), (6, .int v3), (5, .int x2.1), (4, .int x2.2.1), (0, .ref (Γ.2.1 9)), (1, .int a1)] dX3_bestChoice_77 rfl (by decide) rfl ?_
          refine E_iload 3 dX3_bestChoice_78 rfl ?_
          refine E_istore [(4, .int v4), (3, .int v3), (2, .int x2.1), (8, .int v5), (7, .int v4), (6, .int v3), (5, .int x2.1), (0, .ref (Γ.2.1 9)), (1, .int a1)] dX3_bestChoice_80 (by decide) rfl ?_
          refine E_iinc 6 [(5, .int (x2.1 + 1)), (4, .int v4), (3, .int v3), (2, .int x2.1), (8, .int v5), (7, .int v4), (6, .int v3), (0, .ref (Γ.2.1 9)), (1, .int a1)] dX3_bestChoice_82 rfl rfl (by decide) rfl ?_
          refine E_goto 10 dX3_bestChoice_85 (by decide) ?_
          refine E_lvsub [0, 1, 2, 3, 7, 8] [(5, .int (x2.1 + 1)), (4, .int v4), (3, .int v3), (2, .int x2.1), (0, .ref (Γ.2.1 9)), (1, .int a1)] rfl ?_
          exact hr1 (x2.1 + 1, v4, v3, x2.1)
        · refine E_iload 0 dX3_bestChoice_61 rfl ?_
          refine E_ifne 82 dX3_bestChoice_63 (by decide) ?_ ?_
          · refine E_iinc 3 [(5, .int (x2.1 + 1)), (8, .int v5), (7, .int v4), (6, .int v3), (4, .int x2.2.1), (3, .int x2.2.2.1), (2, .int x2.2.2.2), (0, .ref (Γ.2.1 9)), (1, .int a1)] dX3_bestChoice_82 rfl rfl (by decide) rfl ?_
            refine E_goto 10 dX3_bestChoice_85 (by decide) ?_
            refine E_lvsub [0, 4, 5, 6, 7, 8] [(5, .int (x2.1 + 1)), (4, .int x2.2.1), (3, .int x2.2.2.1), (2, .int x2.2.2.2), (0, .ref (Γ.2.1 9)), (1, .int a1)] rfl ?_
            exact hr1 (x2.1 + 1, x2.2.1, x2.2.2.1, x2.2.2.2)
          · refine E_iload 2 dX3_bestChoice_66 rfl ?_
            refine E_iload_n 5 dX3_bestChoice_68 rfl rfl ?_
            refine E_icmple 82 dX3_bestChoice_69 (by decide) ?_ ?_
            · refine E_iinc 3 [(5, .int (x2.1 + 1)), (8, .int v5), (7, .int v4), (6, .int v3), (4, .int x2.2.1), (3, .int x2.2.2.1), (2, .int x2.2.2.2), (0, .ref (Γ.2.1 9)), (1, .int a1)] dX3_bestChoice_82 rfl rfl (by decide) rfl ?_
              refine E_goto 10 dX3_bestChoice_85 (by decide) ?_
              refine E_lvsub [0, 4, 5, 6, 7, 8] [(5, .int (x2.1 + 1)), (4, .int x2.2.1), (3, .int x2.2.2.1), (2, .int x2.2.2.2), (0, .ref (Γ.2.1 9)), (1, .int a1)] rfl ?_
              exact hr1 (x2.1 + 1, x2.2.1, x2.2.2.1, x2.2.2.2)
            · refine E_iload 3 dX3_bestChoice_72 rfl ?_
              refine E_istore_n [(2, .int x2.1), (8, .int v5), (7, .int v4), (6, .int v3), (5, .int x2.1), (4, .int x2.2.1), (3, .int x2.2.2.1), (0, .ref (Γ.2.1 9)), (1, .int a1)] dX3_bestChoice_74 rfl (by decide) rfl ?_
              refine E_iload 3 dX3_bestChoice_75 rfl ?_
              refine E_istore_n [(3, .int v3), (2, .int x2.1), (8, .int v5), (7, .int v4), (6, .int v3), (5, .int x2.1), (4, .int x2.2.1), (0, .ref (Γ.2.1 9)), (1, .int a1)] dX3_bestChoice_77 rfl (by decide) rfl ?_
              refine E_iload 3 dX3_bestChoice_78 rfl ?_
              refine E_istore [(4, .int v4), (3, .int v3), (2, .int x2.1), (8, .int v5), (7, .int v4), (6, .int v3), (5, .int x2.1), (0, .ref (Γ.2.1 9)), (1, .int a1)] dX3_bestChoice_80 (by decide) rfl ?_
              refine E_iinc 6 [(5, .int (x2.1 + 1)), (4, .int v4), (3, .int v3), (2, .int x2.1), (8, .int v5), (7, .int v4), (6, .int v3), (0, .ref (Γ.2.1 9)), (1, .int a1)] dX3_bestChoice_82 rfl rfl (by decide) rfl ?_
              refine E_goto 10 dX3_bestChoice_85 (by decide) ?_
              refine E_lvsub [0, 1, 2, 3, 7, 8] [(5, .int (x2.1 + 1)), (4, .int v4), (3, .int v3), (2, .int x2.1), (0, .ref (Γ.2.1 9)), (1, .int a1)] rfl ?_
              exact hr1 (x2.1 + 1, v4, v3, x2.1)
theorem c_X3_bestChoice (Γ : GT) (a1 : Int32) (s : St)  (x : Int32) (h : f_X3_bestChoice a1 s = some x) (l : Launch) : MC l yX3_bestChoice cX3_bestChoice 9 (some .int) 4 WC Γ [.ref (Γ.2.1 9), .int a1] s ((emI s) x) := MC_of (by decide +kernel) (Nat.le_of_ble_eq_true rfl) (e_X3_bestChoice Γ a1 s ) h l
set_option maxRecDepth 100000 in
set_option maxHeartbeats 4000000 in
theorem e_X3_orderByRest (Γ : GT) (a1 : Int32) (s : St)  : E RX3 cX3_orderByRest 4 none 3 WC Γ emV 0 [(0, .ref (Γ.2.1 9)), (1, .int a1)] [] s (f_X3_orderByRest a1 s) := by
  unfold f_X3_orderByRest
  refine E_iconst (v := 0) dX3_orderByRest_0 (by decide) ?_
  refine E_istore_n [(2, .int 0), (0, .ref (Γ.2.1 9)), (1, .int a1)] dX3_orderByRest_1 rfl (by decide) rfl ?_
  refine E_lp (F := L_X3_orderByRest_2 a1) (fun (x : Int32 × St) => [(2, .int x.1), (0, .ref (Γ.2.1 9)), (1, .int a1)]) (fun (x : Int32 × St) => x.2) ?_ NN (0, s)
  intro r1 hr1 x2
  show E _ _ _ _ _ _ _ _ _ _ _ _ (L_X3_orderByRest_2 a1 r1 x2)
  unfold L_X3_orderByRest_2
  refine E_iload_n 0 dX3_orderByRest_2 rfl rfl ?_
  refine E_aload_n 1 dX3_orderByRest_3 rfl rfl ?_
  refine E_getR 2 (j := 0) (ci := 3) (T := TX3) (C0 := RX3) (ref := "SameWrong$Items") dX3_orderByRest_4 rfl (by decide) rfl inX3 (by decide) kw_276 rfl rfl rfl ?_
  refine E_getI (j := 0) (ci := 7) (T := TX7) (C0 := RX7) (ref := "SameWrong$Room") dX3_orderByRest_7 rfl (by decide) rfl inX7 (by decide) kw_72 rfl rfl ?_
  refine E_icmpge 89 dX3_orderByRest_10 (by decide) ?_ ?_
  · exact E_return dX3_orderByRest_89 rfl rfl
  · refine E_aload_n 1 dX3_orderByRest_13 rfl rfl ?_
    refine E_getR 29 (j := 3) (ci := 3) (T := TX3) (C0 := RX3) (ref := "SameWrong$Items") dX3_orderByRest_14 rfl (by decide) rfl inX3 (by decide) kw_279 rfl rfl rfl ?_
    refine E_iload_n 0 dX3_orderByRest_17 rfl rfl ?_
    refine E_aload_n 1 dX3_orderByRest_18 rfl rfl ?_
    refine E_getR 4 (j := 2) (ci := 3) (T := TX3) (C0 := RX3) (ref := "SameWrong$Items") dX3_orderByRest_19 rfl (by decide) rfl inX3 (by decide) kw_278 rfl rfl rfl ?_
    refine E_iload_n 0 dX3_orderByRest_22 rfl rfl ?_
    refine E_iload_n 2 dX3_orderByRest_23 rfl rfl ?_
    refine E_callVI (T := TX5) (ci := 5) [.int x2.1, .int a1] [.int x2.1, .ref (Γ.2.1 29)] dX3_orderByRest_24 rfl kw_729 kw_491 kw_492 kw_6 ko_X5_restOf rfl hy_X5_restOf rfl (by decide) (Nat.le_of_ble_eq_true rfl) rfl (by decide) rfl (c_X5_restOf Γ x2.1 a1 x2.2) (fun v3 => ?_)
    refine E_iastore dX3_orderByRest_27 rfl (by decide) ?_
    refine E_bd (fun s4 => ?_)
    refine E_iload_n 0 dX3_orderByRest_28 rfl rfl ?_
    refine E_istore_n [(3, .int x2.1), (2, .int x2.1), (0, .ref (Γ.2.1 9)), (1, .int a1)] dX3_orderByRest_29 rfl (by decide) rfl ?_
    refine E_jn 76 (fun (y : Int32 × St) => [(3, .int y.1), (2, .int x2.1), (0, .ref (Γ.2.1 9)), (1, .int a1)]) (fun (y : Int32 × St) => []) (fun (y : Int32 × St) => y.2) ?_ ?_
    · intro y6
      refine E_aload_n 2 dX3_orderByRest_76 rfl rfl ?_
      refine E_getR 30 (j := 4) (ci := 3) (T := TX3) (C0 := RX3) (ref := "SameWrong$Items") dX3_orderByRest_77 rfl (by decide) rfl inX3 (by decide) kw_280 rfl rfl rfl ?_
      refine E_iload_n 0 dX3_orderByRest_80 rfl rfl ?_
      refine E_iload_n 1 dX3_orderByRest_81 rfl rfl ?_
      refine E_iastore dX3_orderByRest_82 rfl (by decide) ?_
      refine E_bd (fun s7 => ?_)
      refine E_iinc 1 [(2, .int (x2.1 + 1)), (3, .int y6.1), (0, .ref (Γ.2.1 9)), (1, .int a1)] dX3_orderByRest_83 rfl rfl (by decide) rfl ?_
      refine E_goto 2 dX3_orderByRest_86 (by decide) ?_
      refine E_lvsub [0, 2, 3] [(2, .int (x2.1 + 1)), (0, .ref (Γ.2.1 9)), (1, .int a1)] rfl ?_
      exact hr1 (x2.1 + 1, s7)
    · intro K5 hK5
      refine E_lp (F := L_X3_orderByRest_30 x2 K5) (fun (x : Int32 × St) => [(3, .int x.1), (2, .int x2.1), (0, .ref (Γ.2.1 9)), (1, .int a1)]) (fun (x : Int32 × St) => x.2) ?_ NN (x2.1, s4)
      intro r8 hr8 x9
      show E _ _ _ _ _ _ _ _ _ _ _ _ (L_X3_orderByRest_30 x2 K5 r8 x9)
      unfold L_X3_orderByRest_30
      refine E_iload_n 0 dX3_orderByRest_30 rfl rfl ?_
      refine E_ifle 76 dX3_orderByRest_31 (by decide) ?_ ?_
      · exact hK5 (x9.1, x9.2)
      · refine E_aload_n 2 dX3_orderByRest_34 rfl rfl ?_
        refine E_getR 29 (j := 3) (ci := 3) (T := TX3) (C0 := RX3) (ref := "SameWrong$Items") dX3_orderByRest_35 rfl (by decide) rfl inX3 (by decide) kw_279 rfl rfl rfl ?_
        refine E_aload_n 2 dX3_orderByRest_38 rfl rfl ?_
        refine E_getR 30 (j := 4) (ci := 3) (T := TX3) (C0 := RX3) (ref := "SameWrong$Items") dX3_orderByRest_39 rfl (by decide) rfl inX3 (by decide) kw_280 rfl rfl rfl ?_
        refine E_iload_n 0 dX3_orderByRest_42 rfl rfl ?_
        refine E_iconst (v := 1) dX3_orderByRest_43 (by decide) ?_
        refine E_isub dX3_orderByRest_44 ?_
        refine E_iaload dX3_orderByRest_45 rfl (by decide) ?_
        refine E_iaload dX3_orderByRest_46 rfl (by decide) ?_
        refine E_aload_n 2 dX3_orderByRest_47 rfl rfl ?_
        refine E_getR 29 (j := 3) (ci := 3) (T := TX3) (C0 := RX3) (ref := "SameWrong$Items") dX3_orderByRest_48 rfl (by decide) rfl inX3 (by decide) kw_279 rfl rfl rfl ?_
        refine E_iload_n 1 dX3_orderByRest_51 rfl rfl ?_
        refine E_iaload dX3_orderByRest_52 rfl (by decide) ?_
        refine E_icmpge 76 dX3_orderByRest_53 (by decide) ?_ ?_
        · exact hK5 (x9.1, x9.2)
        · refine E_aload_n 2 dX3_orderByRest_56 rfl rfl ?_
          refine E_getR 30 (j := 4) (ci := 3) (T := TX3) (C0 := RX3) (ref := "SameWrong$Items") dX3_orderByRest_57 rfl (by decide) rfl inX3 (by decide) kw_280 rfl rfl rfl ?_
          refine E_iload_n 0 dX3_orderByRest_60 rfl rfl ?_
          refine E_aload_n 2 dX3_orderByRest_61 rfl rfl ?_
          refine E_getR 30 (j := 4) (ci := 3) (T := TX3) (C0 := RX3) (ref := "SameWrong$Items") dX3_orderByRest_62 rfl (by decide) rfl inX3 (by decide) kw_280 rfl rfl rfl ?_
          refine E_iload_n 0 dX3_orderByRest_65 rfl rfl ?_
          refine E_iconst (v := 1) dX3_orderByRest_66 (by decide) ?_
          refine E_isub dX3_orderByRest_67 ?_
          refine E_iaload dX3_orderByRest_68 rfl (by decide) ?_
          refine E_iastore dX3_orderByRest_69 rfl (by decide) ?_
          refine E_bd (fun s10 => ?_)
          refine E_iinc 0 [(3, .int (x9.1 + (-1))), (2, .int x2.1), (0, .ref (Γ.2.1 9)), (1, .int a1)] dX3_orderByRest_70 rfl rfl (by decide) rfl ?_
          refine E_goto 30 dX3_orderByRest_73 (by decide) ?_
          exact hr8 (x9.1 + (-1), s10)
theorem c_X3_orderByRest (Γ : GT) (a1 : Int32) (s : St)  (x : St) (h : f_X3_orderByRest a1 s = some x) (l : Launch) : MC l yX3_orderByRest cX3_orderByRest 4 none 3 WC Γ [.ref (Γ.2.1 9), .int a1] s (emV x) := MC_of (by decide +kernel) (Nat.le_of_ble_eq_true rfl) (e_X3_orderByRest Γ a1 s ) h l
set_option maxRecDepth 100000 in
set_option maxHeartbeats 4000000 in
theorem e_X3_betterLessWorse (Γ : GT) (a1 : Int32) (s : St)  : E RX3 cX3_betterLessWorse 5 (some .int) 4 WC Γ emIS 0 [(0, .ref (Γ.2.1 9)), (1, .int a1)] [] s (f_X3_betterLessWorse a1 s) := by
  unfold f_X3_betterLessWorse
  refine E_aload_n 0 dX3_betterLessWorse_0 rfl rfl ?_
  refine E_iload_n 1 dX3_betterLessWorse_1 rfl rfl ?_
  refine E_callVV (T := TX3) (ci := 3) [.int a1] [] dX3_betterLessWorse_2 rfl kw_770 kw_772 kp_19 kw_11 ko_X3_orderByRest rfl hy_X3_orderByRest rfl (by decide) (Nat.le_of_ble_eq_true rfl) rfl (by decide) rfl (c_X3_orderByRest Γ a1 s) (fun s1 => ?_)
  refine E_aload_n 0 dX3_betterLessWorse_5 rfl rfl ?_
  refine E_getR 2 (j := 0) (ci := 3) (T := TX3) (C0 := RX3) (ref := "SameWrong$Items") dX3_betterLessWorse_6 rfl (by decide) rfl inX3 (by decide) kw_276 rfl rfl rfl ?_
  refine E_getI (j := 0) (ci := 7) (T := TX7) (C0 := RX7) (ref := "SameWrong$Room") dX3_betterLessWorse_9 rfl (by decide) rfl inX7 (by decide) kw_72 rfl rfl ?_
  refine E_iconst (v := 2) dX3_betterLessWorse_12 (by decide) ?_
  refine E_idiv dX3_betterLessWorse_13 ?_
  refine E_istore_n [(2, .int ((s1.1 2 0) / 2)), (0, .ref (Γ.2.1 9)), (1, .int a1)] dX3_betterLessWorse_14 rfl (by decide) rfl ?_
  refine E_bv (fun v2 => [(2, .int v2), (0, .ref (Γ.2.1 9)), (1, .int a1)]) (fun v2 => ?_) ((s1.1 2 0) / 2)
  refine E_iconst (v := 0) dX3_betterLessWorse_15 (by decide) ?_
  refine E_istore_n [(3, .int 0), (2, .int v2), (0, .ref (Γ.2.1 9)), (1, .int a1)] dX3_betterLessWorse_16 rfl (by decide) rfl ?_
  refine E_iconst (v := 0) dX3_betterLessWorse_17 (by decide) ?_
  refine E_istore [(4, .int 0), (3, .int 0), (2, .int v2), (0, .ref (Γ.2.1 9)), (1, .int a1)] dX3_betterLessWorse_18 (by decide) rfl ?_
  refine E_lp (F := L_X3_betterLessWorse_20 a1 s1 v2) (fun (x : Int32 × Int32) => [(4, .int x.1), (3, .int x.2), (2, .int v2), (0, .ref (Γ.2.1 9)), (1, .int a1)]) (fun (x : Int32 × Int32) => s1) ?_ NN (0, 0)
  intro r3 hr3 x4
  show E _ _ _ _ _ _ _ _ _ _ _ _ (L_X3_betterLessWorse_20 a1 s1 v2 r3 x4)
  unfold L_X3_betterLessWorse_20
  refine E_iload 0 dX3_betterLessWorse_20 rfl ?_
  refine E_iload_n 2 dX3_betterLessWorse_22 rfl rfl ?_
  refine E_icmpge 84 dX3_betterLessWorse_23 (by decide) ?_ ?_
  · refine E_iload_n 1 dX3_betterLessWorse_84 rfl rfl ?_
    exact E_ireturn dX3_betterLessWorse_85 rfl rfl
  · refine E_aload_n 3 dX3_betterLessWorse_26 rfl rfl ?_
    refine E_getR 4 (j := 2) (ci := 3) (T := TX3) (C0 := RX3) (ref := "SameWrong$Items") dX3_betterLessWorse_27 rfl (by decide) rfl inX3 (by decide) kw_278 rfl rfl rfl ?_
    refine E_aload_n 3 dX3_betterLessWorse_30 rfl rfl ?_
    refine E_getR 30 (j := 4) (ci := 3) (T := TX3) (C0 := RX3) (ref := "SameWrong$Items") dX3_betterLessWorse_31 rfl (by decide) rfl inX3 (by decide) kw_280 rfl rfl rfl ?_
    refine E_iload 0 dX3_betterLessWorse_34 rfl ?_
    refine E_iaload dX3_betterLessWorse_36 rfl (by decide) ?_
    refine E_iload_n 4 dX3_betterLessWorse_37 rfl rfl ?_
    refine E_callVZ (T := TX5) (ci := 5) [.int (s1.1 30 x4.1.toNatClampNeg), .int a1] [] dX3_betterLessWorse_38 rfl kw_774 kw_495 kw_496 kw_6 ko_X5_isRight rfl hy_X5_isRight rfl (by decide) (Nat.le_of_ble_eq_true rfl) rfl (by decide) rfl (c_X5_isRight Γ (s1.1 30 x4.1.toNatClampNeg) a1 s1) (fun v5 => ?_)
    refine E_jn 47 (fun (y : Int32) => [(4, .int x4.1), (3, .int y), (2, .int v2), (0, .ref (Γ.2.1 9)), (1, .int a1)]) (fun (y : Int32) => []) (fun (y : Int32) => s1) ?_ ?_
    · intro y7
      refine E_aload_n 3 dX3_betterLessWorse_47 rfl rfl ?_
      refine E_getR 4 (j := 2) (ci := 3) (T := TX3) (C0 := RX3) (ref := "SameWrong$Items") dX3_betterLessWorse_48 rfl (by decide) rfl inX3 (by decide) kw_278 rfl rfl rfl ?_
      refine E_aload_n 3 dX3_betterLessWorse_51 rfl rfl ?_
      refine E_getR 30 (j := 4) (ci := 3) (T := TX3) (C0 := RX3) (ref := "SameWrong$Items") dX3_betterLessWorse_52 rfl (by decide) rfl inX3 (by decide) kw_280 rfl rfl rfl ?_
      refine E_aload_n 3 dX3_betterLessWorse_55 rfl rfl ?_
      refine E_getR 2 (j := 0) (ci := 3) (T := TX3) (C0 := RX3) (ref := "SameWrong$Items") dX3_betterLessWorse_56 rfl (by decide) rfl inX3 (by decide) kw_276 rfl rfl rfl ?_
      refine E_getI (j := 0) (ci := 7) (T := TX7) (C0 := RX7) (ref := "SameWrong$Room") dX3_betterLessWorse_59 rfl (by decide) rfl inX7 (by decide) kw_72 rfl rfl ?_
      refine E_iconst (v := 1) dX3_betterLessWorse_62 (by decide) ?_
      refine E_isub dX3_betterLessWorse_63 ?_
      refine E_iload 0 dX3_betterLessWorse_64 rfl ?_
      refine E_isub dX3_betterLessWorse_66 ?_
      refine E_iaload dX3_betterLessWorse_67 rfl (by decide) ?_
      refine E_iload_n 4 dX3_betterLessWorse_68 rfl rfl ?_
      refine E_callVZ (T := TX5) (ci := 5) [.int (s1.1 30 (((s1.1 2 0) - 1) - x4.1).toNatClampNeg), .int a1] [] dX3_betterLessWorse_69 rfl kw_774 kw_495 kw_496 kw_6 ko_X5_isRight rfl hy_X5_isRight rfl (by decide) (Nat.le_of_ble_eq_true rfl) rfl (by decide) rfl (c_X5_isRight Γ (s1.1 30 (((s1.1 2 0) - 1) - x4.1).toNatClampNeg) a1 s1) (fun v8 => ?_)
      refine E_ifeqb 78 dX3_betterLessWorse_72 (by decide) ?_ ?_
      · refine E_iinc 0 [(4, .int (x4.1 + 1)), (3, .int y7), (2, .int v2), (0, .ref (Γ.2.1 9)), (1, .int a1)] dX3_betterLessWorse_78 rfl rfl (by decide) rfl ?_
        refine E_goto 20 dX3_betterLessWorse_81 (by decide) ?_
        exact hr3 (x4.1 + 1, y7)
      · refine E_iinc 1 [(3, .int (y7 + (-1))), (4, .int x4.1), (2, .int v2), (0, .ref (Γ.2.1 9)), (1, .int a1)] dX3_betterLessWorse_75 rfl rfl (by decide) rfl ?_
        refine E_iinc 1 [(4, .int (x4.1 + 1)), (3, .int (y7 + (-1))), (2, .int v2), (0, .ref (Γ.2.1 9)), (1, .int a1)] dX3_betterLessWorse_78 rfl rfl (by decide) rfl ?_
        refine E_goto 20 dX3_betterLessWorse_81 (by decide) ?_
        exact hr3 (x4.1 + 1, y7 + (-1))
    · intro K6 hK6
      refine E_ifeqb 47 dX3_betterLessWorse_41 (by decide) ?_ ?_
      · exact hK6 x4.2
      · refine E_iinc 1 [(3, .int (x4.2 + 1)), (4, .int x4.1), (2, .int v2), (0, .ref (Γ.2.1 9)), (1, .int a1)] dX3_betterLessWorse_44 rfl rfl (by decide) rfl ?_
        refine E_lvsub [1, 0, 2, 3, 4] [(4, .int x4.1), (3, .int (x4.2 + 1)), (2, .int v2), (0, .ref (Γ.2.1 9)), (1, .int a1)] rfl ?_
        exact hK6 (x4.2 + 1)
theorem c_X3_betterLessWorse (Γ : GT) (a1 : Int32) (s : St)  (x : (Int32 × St)) (h : f_X3_betterLessWorse a1 s = some x) (l : Launch) : MC l yX3_betterLessWorse cX3_betterLessWorse 5 (some .int) 4 WC Γ [.ref (Γ.2.1 9), .int a1] s (emIS x) := MC_of (by decide +kernel) (Nat.le_of_ble_eq_true rfl) (e_X3_betterLessWorse Γ a1 s ) h l
set_option maxRecDepth 100000 in
set_option maxHeartbeats 4000000 in
theorem e_X11_within (Γ : GT) (a0 : Int32) (a1 : Int32) (a2 : Int32) (s : St)  : E RX11 cX11_within 3 (some .boolean) 1 WC Γ (emZ s) 0 [(0, .int a0), (1, .int a1), (2, .int a2)] [] s (f_X11_within a0 a1 a2 s) := by
  unfold f_X11_within
  refine E_iload_n 0 dX11_within_0 rfl rfl ?_
  refine E_iload_n 1 dX11_within_1 rfl rfl ?_
  refine E_icmplt 14 dX11_within_2 (by decide) ?_ ?_
  · refine E_iconst (v := 0) dX11_within_14 (by decide) ?_
    exact E_zreturn (b := false) dX11_within_15 rfl rfl
  · refine E_iload_n 0 dX11_within_5 rfl rfl ?_
    refine E_iload_n 2 dX11_within_6 rfl rfl ?_
    refine E_icmpgt 14 dX11_within_7 (by decide) ?_ ?_
    · refine E_iconst (v := 0) dX11_within_14 (by decide) ?_
      exact E_zreturn (b := false) dX11_within_15 rfl rfl
    · refine E_iconst (v := 1) dX11_within_10 (by decide) ?_
      refine E_goto 15 dX11_within_11 (by decide) ?_
      exact E_zreturn (b := true) dX11_within_15 rfl rfl
theorem c_X11_within (Γ : GT) (a0 : Int32) (a1 : Int32) (a2 : Int32) (s : St)  (x : Bool) (h : f_X11_within a0 a1 a2 s = some x) (l : Launch) : MC l yX11_within cX11_within 3 (some .boolean) 1 WC Γ [.int a0, .int a1, .int a2] s ((emZ s) x) := MC_of (by decide +kernel) (Nat.le_of_ble_eq_true rfl) (e_X11_within Γ a0 a1 a2 s ) h l
set_option maxRecDepth 100000 in
set_option maxHeartbeats 4000000 in
theorem e_X4_firstFault (Γ : GT)  (s : St)  : E RX4 cX4_firstFault 3 (some .int) 2 WC Γ (emI s) 0 [(0, .ref (Γ.2.1 1))] [] s (f_X4_firstFault  s) := by
  unfold f_X4_firstFault
  refine E_aload_n 0 dX4_firstFault_0 rfl rfl ?_
  refine E_getI (j := 1) (ci := 4) (T := TX4) (C0 := RX4) (ref := "SameWrong$Key") dX4_firstFault_1 rfl (by decide) rfl inX4 (by decide) kw_37 rfl rfl ?_
  refine E_aload_n 0 dX4_firstFault_4 rfl rfl ?_
  refine E_getI (j := 2) (ci := 4) (T := TX4) (C0 := RX4) (ref := "SameWrong$Key") dX4_firstFault_5 rfl (by decide) rfl inX4 (by decide) kw_39 rfl rfl ?_
  refine E_callSI [.int (s.1 1 1), .int (s.1 1 2)] [] dX4_firstFault_8 rfl kw_372 kw_373 kw_14 ko_J9_min_7cf53 hy_J9_min_7cf53 rfl (by decide) (Nat.le_of_ble_eq_true rfl) (c_J9_min_7cf53 Γ (s.1 1 1) (s.1 1 2) s) (fun v1 => ?_)
  refine E_istore_n [(1, .int v1), (0, .ref (Γ.2.1 1))] dX4_firstFault_11 rfl (by decide) rfl ?_
  refine E_iconst (v := 0) dX4_firstFault_12 (by decide) ?_
  refine E_istore_n [(2, .int 0), (1, .int v1), (0, .ref (Γ.2.1 1))] dX4_firstFault_13 rfl (by decide) rfl ?_
  refine E_jn 54 (fun (y : Unit) => [(1, .int v1), (0, .ref (Γ.2.1 1))]) (fun (y : Unit) => []) (fun (y : Unit) => s) ?_ ?_
  · intro y3
    refine E_aload_n 1 dX4_firstFault_54 rfl rfl ?_
    refine E_getI (j := 1) (ci := 4) (T := TX4) (C0 := RX4) (ref := "SameWrong$Key") dX4_firstFault_55 rfl (by decide) rfl inX4 (by decide) kw_37 rfl rfl ?_
    refine E_aload_n 1 dX4_firstFault_58 rfl rfl ?_
    refine E_getI (j := 2) (ci := 4) (T := TX4) (C0 := RX4) (ref := "SameWrong$Key") dX4_firstFault_59 rfl (by decide) rfl inX4 (by decide) kw_39 rfl rfl ?_
    refine E_icmpne 69 dX4_firstFault_62 (by decide) ?_ ?_
    · refine E_iload_n 0 dX4_firstFault_69 rfl rfl ?_
      exact E_ireturn dX4_firstFault_70 rfl rfl
    · refine E_iconst (v := (-1)) dX4_firstFault_65 (by decide) ?_
      refine E_goto 70 dX4_firstFault_66 (by decide) ?_
      exact E_ireturn dX4_firstFault_70 rfl rfl
  · intro K2 hK2
    refine E_lp (F := L_X4_firstFault_14 s v1 K2) (fun (x : Int32) => [(2, .int x), (1, .int v1), (0, .ref (Γ.2.1 1))]) (fun (x : Int32) => s) ?_ NN 0
    intro r4 hr4 x5
    show E _ _ _ _ _ _ _ _ _ _ _ _ (L_X4_firstFault_14 s v1 K2 r4 x5)
    unfold L_X4_firstFault_14
    refine E_iload_n 0 dX4_firstFault_14 rfl rfl ?_
    refine E_iload_n 1 dX4_firstFault_15 rfl rfl ?_
    refine E_icmpge 54 dX4_firstFault_16 (by decide) ?_ ?_
    · refine E_lvsub [1, 2] [(1, .int v1), (0, .ref (Γ.2.1 1))] rfl ?_
      exact hK2 ()
    · refine E_aload_n 2 dX4_firstFault_19 rfl rfl ?_
      refine E_getR 12 (j := 5) (ci := 4) (T := TX4) (C0 := RX4) (ref := "SameWrong$Key") dX4_firstFault_20 rfl (by decide) rfl inX4 (by decide) kw_49 rfl rfl rfl ?_
      refine E_iload_n 0 dX4_firstFault_23 rfl rfl ?_
      refine E_iaload dX4_firstFault_24 rfl (by decide) ?_
      refine E_bipush (v := 63) dX4_firstFault_25 (by decide) ?_
      refine E_icmpeq 48 dX4_firstFault_27 (by decide) ?_ ?_
      · refine E_iinc 0 [(2, .int (x5 + 1)), (1, .int v1), (0, .ref (Γ.2.1 1))] dX4_firstFault_48 rfl rfl (by decide) rfl ?_
        refine E_goto 14 dX4_firstFault_51 (by decide) ?_
        exact hr4 (x5 + 1)
      · refine E_aload_n 2 dX4_firstFault_30 rfl rfl ?_
        refine E_getR 12 (j := 5) (ci := 4) (T := TX4) (C0 := RX4) (ref := "SameWrong$Key") dX4_firstFault_31 rfl (by decide) rfl inX4 (by decide) kw_49 rfl rfl rfl ?_
        refine E_iload_n 0 dX4_firstFault_34 rfl rfl ?_
        refine E_iaload dX4_firstFault_35 rfl (by decide) ?_
        refine E_bipush (v := 49) dX4_firstFault_36 (by decide) ?_
        refine E_bipush (v := 53) dX4_firstFault_38 (by decide) ?_
        refine E_callNZ (host := RX11) [.int (s.1 12 x5.toNatClampNeg), .int 49, .int 53] [] dX4_firstFault_40 rfl (fun _ h => h.1) kw_358 kw_1 ko_X11_within hy_X11_within rfl (by decide) (Nat.le_of_ble_eq_true rfl) (c_X11_within Γ (s.1 12 x5.toNatClampNeg) 49 53 s) (fun v6 => ?_)
        refine E_ifneb 48 dX4_firstFault_43 (by decide) ?_ ?_
        · refine E_iinc 0 [(2, .int (x5 + 1)), (1, .int v1), (0, .ref (Γ.2.1 1))] dX4_firstFault_48 rfl rfl (by decide) rfl ?_
          refine E_goto 14 dX4_firstFault_51 (by decide) ?_
          exact hr4 (x5 + 1)
        · refine E_iload_n 0 dX4_firstFault_46 rfl rfl ?_
          exact E_ireturn dX4_firstFault_47 rfl rfl
theorem c_X4_firstFault (Γ : GT)  (s : St)  (x : Int32) (h : f_X4_firstFault  s = some x) (l : Launch) : MC l yX4_firstFault cX4_firstFault 3 (some .int) 2 WC Γ [.ref (Γ.2.1 1)] s ((emI s) x) := MC_of (by decide +kernel) (Nat.le_of_ble_eq_true rfl) (e_X4_firstFault Γ  s ) h l
set_option maxRecDepth 100000 in
set_option maxHeartbeats 4000000 in
theorem e_X4_settle (Γ : GT)  (s : St)  : E RX4 cX4_settle 3 none 3 WC Γ emV 0 [(0, .ref (Γ.2.1 1))] [] s (f_X4_settle  s) := by
  unfold f_X4_settle
  refine E_aload_n 0 dX4_settle_0 rfl rfl ?_
  refine E_aload_n 0 dX4_settle_1 rfl rfl ?_
  refine E_callVI (T := TX4) (ci := 4) [] [.ref (Γ.2.1 1)] dX4_settle_2 rfl kw_368 kw_370 kp_1 kw_2 ko_X4_firstFault rfl hy_X4_firstFault rfl (by decide) (Nat.le_of_ble_eq_true rfl) rfl (by decide) rfl (c_X4_firstFault Γ s) (fun v1 => ?_)
  refine E_putI (j := 3) (ci := 4) (T := TX4) (C0 := RX4) (ref := "SameWrong$Key") dX4_settle_5 rfl (by decide) rfl inX4 (by decide) kw_44 rfl tyX4_ok nmX4 rfl rfl ?_
  refine E_bd (fun s2 => ?_)
  refine E_aload_n 0 dX4_settle_8 rfl rfl ?_
  refine E_iconst (v := 0) dX4_settle_9 (by decide) ?_
  refine E_putI (j := 4) (ci := 4) (T := TX4) (C0 := RX4) (ref := "SameWrong$Key") dX4_settle_10 rfl (by decide) rfl inX4 (by decide) kw_46 rfl tyX4_ok nmX4 rfl rfl ?_
  refine E_bd (fun s3 => ?_)
  refine E_iconst (v := 0) dX4_settle_13 (by decide) ?_
  refine E_istore_n [(1, .int 0), (0, .ref (Γ.2.1 1))] dX4_settle_14 rfl (by decide) rfl ?_
  refine E_lp (F := L_X4_settle_15) (fun (x : Int32 × St) => [(1, .int x.1), (0, .ref (Γ.2.1 1))]) (fun (x : Int32 × St) => x.2) ?_ NN (0, s3)
  intro r4 hr4 x5
  show E _ _ _ _ _ _ _ _ _ _ _ _ (L_X4_settle_15 r4 x5)
  unfold L_X4_settle_15
  refine E_iload_n 0 dX4_settle_15 rfl rfl ?_
  refine E_bipush (v := 12) dX4_settle_16 (by decide) ?_
  refine E_icmpge 97 dX4_settle_18 (by decide) ?_ ?_
  · exact E_return dX4_settle_97 rfl rfl
  · refine E_aload_n 1 dX4_settle_21 rfl rfl ?_
    refine E_getI (j := 3) (ci := 4) (T := TX4) (C0 := RX4) (ref := "SameWrong$Key") dX4_settle_22 rfl (by decide) rfl inX4 (by decide) kw_44 rfl rfl ?_
    refine E_iconst (v := (-1)) dX4_settle_25 (by decide) ?_
    refine E_jn 53 (fun (y : Bool) => [(1, .int x5.1), (0, .ref (Γ.2.1 1))]) (fun (y : Bool) => [.int (bI y)]) (fun (y : Bool) => x5.2) ?_ ?_
    · intro y7
      refine E_istore_n [(2, .int (bI y7)), (1, .int x5.1), (0, .ref (Γ.2.1 1))] dX4_settle_53 rfl (by decide) rfl ?_
      refine E_aload_n 2 dX4_settle_54 rfl rfl ?_
      refine E_getR 11 (j := 0) (ci := 4) (T := TX4) (C0 := RX4) (ref := "SameWrong$Key") dX4_settle_55 rfl (by decide) rfl inX4 (by decide) kw_32 rfl rfl rfl ?_
      refine E_iload_n 1 dX4_settle_58 rfl rfl ?_
      refine E_iload_n 0 dX4_settle_59 rfl rfl ?_
      refine E_jn 76 (fun (y : Int32) => [(2, .int (bI y7)), (1, .int x5.1), (0, .ref (Γ.2.1 1))]) (fun (y : Int32) => [.int y, .int x5.1, .ref (Γ.2.1 11)]) (fun (y : Int32) => x5.2) ?_ ?_
      · intro y9
        refine E_iastore dX4_settle_76 rfl (by decide) ?_
        refine E_bd (fun s10 => ?_)
        refine E_iload_n 0 dX4_settle_77 rfl rfl ?_
        refine E_ifneb 91 dX4_settle_78 (by decide) ?_ ?_
        · refine E_iinc 1 [(1, .int (x5.1 + 1)), (2, .int (bI y7)), (0, .ref (Γ.2.1 1))] dX4_settle_91 rfl rfl (by decide) rfl ?_
          refine E_goto 15 dX4_settle_94 (by decide) ?_
          refine E_lvsub [0, 2] [(1, .int (x5.1 + 1)), (0, .ref (Γ.2.1 1))] rfl ?_
          exact hr4 (x5.1 + 1, s10)
        · refine E_aload_n 2 dX4_settle_81 rfl rfl ?_
          refine E_dup dX4_settle_82 rfl ?_
          refine E_getI (j := 4) (ci := 4) (T := TX4) (C0 := RX4) (ref := "SameWrong$Key") dX4_settle_83 rfl (by decide) rfl inX4 (by decide) kw_46 rfl rfl ?_
          refine E_iconst (v := 1) dX4_settle_86 (by decide) ?_
          refine E_iadd dX4_settle_87 ?_
          refine E_putI (j := 4) (ci := 4) (T := TX4) (C0 := RX4) (ref := "SameWrong$Key") dX4_settle_88 rfl (by decide) rfl inX4 (by decide) kw_46 rfl tyX4_ok nmX4 rfl rfl ?_
          refine E_bd (fun s11 => ?_)
          refine E_iinc 1 [(1, .int (x5.1 + 1)), (2, .int (bI y7)), (0, .ref (Γ.2.1 1))] dX4_settle_91 rfl rfl (by decide) rfl ?_
          refine E_goto 15 dX4_settle_94 (by decide) ?_
          refine E_lvsub [0, 2] [(1, .int (x5.1 + 1)), (0, .ref (Γ.2.1 1))] rfl ?_
          exact hr4 (x5.1 + 1, s11)
      · intro K8 hK8
        refine E_ifeqb 67 dX4_settle_60 (by decide) ?_ ?_
        · refine E_aload_n 2 dX4_settle_67 rfl rfl ?_
          refine E_getR 12 (j := 5) (ci := 4) (T := TX4) (C0 := RX4) (ref := "SameWrong$Key") dX4_settle_68 rfl (by decide) rfl inX4 (by decide) kw_49 rfl rfl rfl ?_
          refine E_iload_n 1 dX4_settle_71 rfl rfl ?_
          refine E_iaload dX4_settle_72 rfl (by decide) ?_
          refine E_bipush (v := 48) dX4_settle_73 (by decide) ?_
          refine E_isub dX4_settle_75 ?_
          exact hK8 ((x5.2.1 12 x5.1.toNatClampNeg) - 48)
        · refine E_iconst (v := 0) dX4_settle_63 (by decide) ?_
          refine E_goto 76 dX4_settle_64 (by decide) ?_
          exact hK8 0
    · intro K6 hK6
      refine E_icmpne 48 dX4_settle_26 (by decide) ?_ ?_
      · refine E_iconst (v := 1) dX4_settle_48 (by decide) ?_
        refine E_goto 53 dX4_settle_49 (by decide) ?_
        exact hK6 true
      · refine E_iload_n 0 dX4_settle_29 rfl rfl ?_
        refine E_aload_n 1 dX4_settle_30 rfl rfl ?_
        refine E_getI (j := 2) (ci := 4) (T := TX4) (C0 := RX4) (ref := "SameWrong$Key") dX4_settle_31 rfl (by decide) rfl inX4 (by decide) kw_39 rfl rfl ?_
        refine E_icmpge 48 dX4_settle_34 (by decide) ?_ ?_
        · refine E_iconst (v := 1) dX4_settle_48 (by decide) ?_
          refine E_goto 53 dX4_settle_49 (by decide) ?_
          exact hK6 true
        · refine E_aload_n 1 dX4_settle_37 rfl rfl ?_
          refine E_getR 12 (j := 5) (ci := 4) (T := TX4) (C0 := RX4) (ref := "SameWrong$Key") dX4_settle_38 rfl (by decide) rfl inX4 (by decide) kw_49 rfl rfl rfl ?_
          refine E_iload_n 0 dX4_settle_41 rfl rfl ?_
          refine E_iaload dX4_settle_42 rfl (by decide) ?_
          refine E_bipush (v := 63) dX4_settle_43 (by decide) ?_
          refine E_icmpne 52 dX4_settle_45 (by decide) ?_ ?_
          · refine E_iconst (v := 0) dX4_settle_52 (by decide) ?_
            exact hK6 false
          · refine E_iconst (v := 1) dX4_settle_48 (by decide) ?_
            refine E_goto 53 dX4_settle_49 (by decide) ?_
            exact hK6 true
theorem c_X4_settle (Γ : GT)  (s : St)  (x : St) (h : f_X4_settle  s = some x) (l : Launch) : MC l yX4_settle cX4_settle 3 none 3 WC Γ [.ref (Γ.2.1 1)] s (emV x) := MC_of (by decide +kernel) (Nat.le_of_ble_eq_true rfl) (e_X4_settle Γ  s ) h l
set_option maxRecDepth 100000 in
set_option maxHeartbeats 4000000 in
theorem e_X4_ask (Γ : GT) (a1 : Int32) (s : St)  : E RX4 cX4_ask 2 none 4 WC Γ emV 0 [(0, .ref (Γ.2.1 1)), (1, .int a1)] [] s (f_X4_ask a1 s) := by
  unfold f_X4_ask
  refine E_aload_n 0 dX4_ask_0 rfl rfl ?_
  refine E_iload_n 1 dX4_ask_1 rfl rfl ?_
  refine E_putI (j := 2) (ci := 4) (T := TX4) (C0 := RX4) (ref := "SameWrong$Key") dX4_ask_2 rfl (by decide) rfl inX4 (by decide) kw_39 rfl tyX4_ok nmX4 rfl rfl ?_
  refine E_bd (fun s1 => ?_)
  refine E_aload_n 0 dX4_ask_5 rfl rfl ?_
  refine E_callVV (T := TX4) (ci := 4) [] [] dX4_ask_6 rfl kw_364 kw_366 kp_0 kw_2 ko_X4_settle rfl hy_X4_settle rfl (by decide) (Nat.le_of_ble_eq_true rfl) rfl (by decide) rfl (c_X4_settle Γ s1) (fun s2 => ?_)
  exact E_return dX4_ask_9 rfl rfl
theorem c_X4_ask (Γ : GT) (a1 : Int32) (s : St)  (x : St) (h : f_X4_ask a1 s = some x) (l : Launch) : MC l yX4_ask cX4_ask 2 none 4 WC Γ [.ref (Γ.2.1 1), .int a1] s (emV x) := MC_of (by decide +kernel) (Nat.le_of_ble_eq_true rfl) (e_X4_ask Γ a1 s ) h l
set_option maxRecDepth 100000 in
set_option maxHeartbeats 4000000 in
theorem e_X4_append (Γ : GT) (a1 : Int32) (s : St)  : E RX4 cX4_append 2 none 4 WC Γ emV 0 [(0, .ref (Γ.2.1 1)), (1, .int a1)] [] s (f_X4_append a1 s) := by
  unfold f_X4_append
  refine E_aload_n 0 dX4_append_0 rfl rfl ?_
  refine E_getI (j := 1) (ci := 4) (T := TX4) (C0 := RX4) (ref := "SameWrong$Key") dX4_append_1 rfl (by decide) rfl inX4 (by decide) kw_37 rfl rfl ?_
  refine E_bipush (v := 12) dX4_append_4 (by decide) ?_
  refine E_icmpge 33 dX4_append_6 (by decide) ?_ ?_
  · exact E_return dX4_append_33 rfl rfl
  · refine E_aload_n 0 dX4_append_9 rfl rfl ?_
    refine E_getR 12 (j := 5) (ci := 4) (T := TX4) (C0 := RX4) (ref := "SameWrong$Key") dX4_append_10 rfl (by decide) rfl inX4 (by decide) kw_49 rfl rfl rfl ?_
    refine E_aload_n 0 dX4_append_13 rfl rfl ?_
    refine E_getI (j := 1) (ci := 4) (T := TX4) (C0 := RX4) (ref := "SameWrong$Key") dX4_append_14 rfl (by decide) rfl inX4 (by decide) kw_37 rfl rfl ?_
    refine E_iload_n 1 dX4_append_17 rfl rfl ?_
    refine E_iastore dX4_append_18 rfl (by decide) ?_
    refine E_bd (fun s1 => ?_)
    refine E_aload_n 0 dX4_append_19 rfl rfl ?_
    refine E_dup dX4_append_20 rfl ?_
    refine E_getI (j := 1) (ci := 4) (T := TX4) (C0 := RX4) (ref := "SameWrong$Key") dX4_append_21 rfl (by decide) rfl inX4 (by decide) kw_37 rfl rfl ?_
    refine E_iconst (v := 1) dX4_append_24 (by decide) ?_
    refine E_iadd dX4_append_25 ?_
    refine E_putI (j := 1) (ci := 4) (T := TX4) (C0 := RX4) (ref := "SameWrong$Key") dX4_append_26 rfl (by decide) rfl inX4 (by decide) kw_37 rfl tyX4_ok nmX4 rfl rfl ?_
    refine E_bd (fun s2 => ?_)
    refine E_aload_n 0 dX4_append_29 rfl rfl ?_
    refine E_callVV (T := TX4) (ci := 4) [] [] dX4_append_30 rfl kw_364 kw_366 kp_0 kw_2 ko_X4_settle rfl hy_X4_settle rfl (by decide) (Nat.le_of_ble_eq_true rfl) rfl (by decide) rfl (c_X4_settle Γ s2) (fun s3 => ?_)
    exact E_return dX4_append_33 rfl rfl
theorem c_X4_append (Γ : GT) (a1 : Int32) (s : St)  (x : St) (h : f_X4_append a1 s = some x) (l : Launch) : MC l yX4_append cX4_append 2 none 4 WC Γ [.ref (Γ.2.1 1), .int a1] s (emV x) := MC_of (by decide +kernel) (Nat.le_of_ble_eq_true rfl) (e_X4_append Γ a1 s ) h l
set_option maxRecDepth 100000 in
set_option maxHeartbeats 4000000 in
theorem e_X4_empty (Γ : GT)  (s : St)  : E RX4 cX4_empty 1 none 4 WC Γ emV 0 [(0, .ref (Γ.2.1 1))] [] s (f_X4_empty  s) := by
  unfold f_X4_empty
  refine E_aload_n 0 dX4_empty_0 rfl rfl ?_
  refine E_iconst (v := 0) dX4_empty_1 (by decide) ?_
  refine E_putI (j := 1) (ci := 4) (T := TX4) (C0 := RX4) (ref := "SameWrong$Key") dX4_empty_2 rfl (by decide) rfl inX4 (by decide) kw_37 rfl tyX4_ok nmX4 rfl rfl ?_
  refine E_bd (fun s1 => ?_)
  refine E_aload_n 0 dX4_empty_5 rfl rfl ?_
  refine E_callVV (T := TX4) (ci := 4) [] [] dX4_empty_6 rfl kw_364 kw_366 kp_0 kw_2 ko_X4_settle rfl hy_X4_settle rfl (by decide) (Nat.le_of_ble_eq_true rfl) rfl (by decide) rfl (c_X4_settle Γ s1) (fun s2 => ?_)
  exact E_return dX4_empty_9 rfl rfl
theorem c_X4_empty (Γ : GT)  (s : St)  (x : St) (h : f_X4_empty  s = some x) (l : Launch) : MC l yX4_empty cX4_empty 1 none 4 WC Γ [.ref (Γ.2.1 1)] s (emV x) := MC_of (by decide +kernel) (Nat.le_of_ble_eq_true rfl) (e_X4_empty Γ  s ) h l
set_option maxRecDepth 100000 in
set_option maxHeartbeats 4000000 in
theorem e_X5_wrongsOf (Γ : GT) (a1 : Int32) (s : St)  : E RX5 cX5_wrongsOf 4 (some .int) 2 WC Γ (emI s) 0 [(0, .ref (Γ.2.1 4)), (1, .int a1)] [] s (f_X5_wrongsOf a1 s) := by
  unfold f_X5_wrongsOf
  refine E_iconst (v := 0) dX5_wrongsOf_0 (by decide) ?_
  refine E_istore_n [(2, .int 0), (0, .ref (Γ.2.1 4)), (1, .int a1)] dX5_wrongsOf_1 rfl (by decide) rfl ?_
  refine E_iconst (v := 0) dX5_wrongsOf_2 (by decide) ?_
  refine E_istore_n [(3, .int 0), (2, .int 0), (0, .ref (Γ.2.1 4)), (1, .int a1)] dX5_wrongsOf_3 rfl (by decide) rfl ?_
  refine E_lp (F := L_X5_wrongsOf_4 a1 s) (fun (x : Int32 × Int32) => [(3, .int x.1), (2, .int x.2), (0, .ref (Γ.2.1 4)), (1, .int a1)]) (fun (x : Int32 × Int32) => s) ?_ NN (0, 0)
  intro r1 hr1 x2
  show E _ _ _ _ _ _ _ _ _ _ _ _ (L_X5_wrongsOf_4 a1 s r1 x2)
  unfold L_X5_wrongsOf_4
  refine E_iload_n 0 dX5_wrongsOf_4 rfl rfl ?_
  refine E_aload_n 2 dX5_wrongsOf_5 rfl rfl ?_
  refine E_getR 1 (j := 1) (ci := 5) (T := TX5) (C0 := RX5) (ref := "SameWrong$Marks") dX5_wrongsOf_6 rfl (by decide) rfl inX5 (by decide) kw_159 rfl rfl rfl ?_
  refine E_getI (j := 2) (ci := 4) (T := TX4) (C0 := RX4) (ref := "SameWrong$Key") dX5_wrongsOf_9 rfl (by decide) rfl inX4 (by decide) kw_42 rfl rfl ?_
  refine E_icmpge 59 dX5_wrongsOf_12 (by decide) ?_ ?_
  · refine E_iload_n 1 dX5_wrongsOf_59 rfl rfl ?_
    exact E_ireturn dX5_wrongsOf_60 rfl rfl
  · refine E_aload_n 2 dX5_wrongsOf_15 rfl rfl ?_
    refine E_getR 1 (j := 1) (ci := 5) (T := TX5) (C0 := RX5) (ref := "SameWrong$Marks") dX5_wrongsOf_16 rfl (by decide) rfl inX5 (by decide) kw_159 rfl rfl rfl ?_
    refine E_getR 11 (j := 0) (ci := 4) (T := TX4) (C0 := RX4) (ref := "SameWrong$Key") dX5_wrongsOf_19 rfl (by decide) rfl inX4 (by decide) kw_33 rfl rfl rfl ?_
    refine E_iload_n 0 dX5_wrongsOf_22 rfl rfl ?_
    refine E_iaload dX5_wrongsOf_23 rfl (by decide) ?_
    refine E_ifeq 53 dX5_wrongsOf_24 (by decide) ?_ ?_
    · refine E_iinc 0 [(3, .int (x2.1 + 1)), (2, .int x2.2), (0, .ref (Γ.2.1 4)), (1, .int a1)] dX5_wrongsOf_53 rfl rfl (by decide) rfl ?_
      refine E_goto 4 dX5_wrongsOf_56 (by decide) ?_
      exact hr1 (x2.1 + 1, x2.2)
    · refine E_aload_n 2 dX5_wrongsOf_27 rfl rfl ?_
      refine E_getR 3 (j := 3) (ci := 5) (T := TX5) (C0 := RX5) (ref := "SameWrong$Marks") dX5_wrongsOf_28 rfl (by decide) rfl inX5 (by decide) kw_161 rfl rfl rfl ?_
      refine E_getR 32 (j := 3) (ci := 10) (T := TX10) (C0 := RX10) (ref := "SameWrong$Tellings") dX5_wrongsOf_31 rfl (by decide) rfl inX10 (by decide) kw_101 rfl rfl rfl ?_
      refine E_iload_n 3 dX5_wrongsOf_34 rfl rfl ?_
      refine E_aaload (t := 1) dX5_wrongsOf_35 (by decide) rfl (by decide) ?_
      refine E_iload_n 0 dX5_wrongsOf_36 rfl rfl ?_
      refine E_iaload dX5_wrongsOf_37 (sh_cur _) (lt_cur _) ?_
      refine E_ifeq 53 dX5_wrongsOf_38 (by decide) ?_ ?_
      · refine E_iinc 0 [(3, .int (x2.1 + 1)), (2, .int x2.2), (0, .ref (Γ.2.1 4)), (1, .int a1)] dX5_wrongsOf_53 rfl rfl (by decide) rfl ?_
        refine E_goto 4 dX5_wrongsOf_56 (by decide) ?_
        exact hr1 (x2.1 + 1, x2.2)
      · refine E_aload_n 2 dX5_wrongsOf_41 rfl rfl ?_
        refine E_iload_n 3 dX5_wrongsOf_42 rfl rfl ?_
        refine E_iload_n 0 dX5_wrongsOf_43 rfl rfl ?_
        refine E_callVZ (T := TX5) (ci := 5) [.int a1, .int x2.1] [] dX5_wrongsOf_44 rfl kw_494 kw_495 kw_496 kw_6 ko_X5_isRight rfl hy_X5_isRight rfl (by decide) (Nat.le_of_ble_eq_true rfl) rfl (by decide) rfl (c_X5_isRight Γ a1 x2.1 s) (fun v3 => ?_)
        refine E_ifneb 53 dX5_wrongsOf_47 (by decide) ?_ ?_
        · refine E_iinc 0 [(3, .int (x2.1 + 1)), (2, .int x2.2), (0, .ref (Γ.2.1 4)), (1, .int a1)] dX5_wrongsOf_53 rfl rfl (by decide) rfl ?_
          refine E_goto 4 dX5_wrongsOf_56 (by decide) ?_
          exact hr1 (x2.1 + 1, x2.2)
        · refine E_iinc 1 [(2, .int (x2.2 + 1)), (3, .int x2.1), (0, .ref (Γ.2.1 4)), (1, .int a1)] dX5_wrongsOf_50 rfl rfl (by decide) rfl ?_
          refine E_iinc 1 [(3, .int (x2.1 + 1)), (2, .int (x2.2 + 1)), (0, .ref (Γ.2.1 4)), (1, .int a1)] dX5_wrongsOf_53 rfl rfl (by decide) rfl ?_
          refine E_goto 4 dX5_wrongsOf_56 (by decide) ?_
          exact hr1 (x2.1 + 1, x2.2 + 1)
theorem c_X5_wrongsOf (Γ : GT) (a1 : Int32) (s : St)  (x : Int32) (h : f_X5_wrongsOf a1 s = some x) (l : Launch) : MC l yX5_wrongsOf cX5_wrongsOf 4 (some .int) 2 WC Γ [.ref (Γ.2.1 4), .int a1] s ((emI s) x) := MC_of (by decide +kernel) (Nat.le_of_ble_eq_true rfl) (e_X5_wrongsOf Γ a1 s ) h l
set_option maxRecDepth 100000 in
set_option maxHeartbeats 4000000 in
theorem e_X5_together (Γ : GT)  (s : St)  : E RX5 cX5_together 3 (some .int) 4 WC Γ (emI s) 0 [(0, .ref (Γ.2.1 4))] [] s (f_X5_together  s) := by
  unfold f_X5_together
  refine E_iconst (v := 0) dX5_together_0 (by decide) ?_
  refine E_istore_n [(1, .int 0), (0, .ref (Γ.2.1 4))] dX5_together_1 rfl (by decide) rfl ?_
  refine E_iconst (v := 0) dX5_together_2 (by decide) ?_
  refine E_istore_n [(2, .int 0), (1, .int 0), (0, .ref (Γ.2.1 4))] dX5_together_3 rfl (by decide) rfl ?_
  refine E_lp (F := L_X5_together_4 s) (fun (x : Int32 × Int32) => [(2, .int x.1), (1, .int x.2), (0, .ref (Γ.2.1 4))]) (fun (x : Int32 × Int32) => s) ?_ NN (0, 0)
  intro r1 hr1 x2
  show E _ _ _ _ _ _ _ _ _ _ _ _ (L_X5_together_4 s r1 x2)
  unfold L_X5_together_4
  refine E_iload_n 0 dX5_together_4 rfl rfl ?_
  refine E_aload_n 2 dX5_together_5 rfl rfl ?_
  refine E_getR 2 (j := 2) (ci := 5) (T := TX5) (C0 := RX5) (ref := "SameWrong$Marks") dX5_together_6 rfl (by decide) rfl inX5 (by decide) kw_160 rfl rfl rfl ?_
  refine E_getI (j := 0) (ci := 7) (T := TX7) (C0 := RX7) (ref := "SameWrong$Room") dX5_together_9 rfl (by decide) rfl inX7 (by decide) kw_75 rfl rfl ?_
  refine E_icmpge 29 dX5_together_12 (by decide) ?_ ?_
  · refine E_iload_n 1 dX5_together_29 rfl rfl ?_
    exact E_ireturn dX5_together_30 rfl rfl
  · refine E_iload_n 1 dX5_together_15 rfl rfl ?_
    refine E_aload_n 2 dX5_together_16 rfl rfl ?_
    refine E_iload_n 0 dX5_together_17 rfl rfl ?_
    refine E_callVI (T := TX5) (ci := 5) [.int x2.1] [.int x2.2] dX5_together_18 rfl kw_756 kw_487 kw_488 kw_6 ko_X5_markOf rfl hy_X5_markOf rfl (by decide) (Nat.le_of_ble_eq_true rfl) rfl (by decide) rfl (c_X5_markOf Γ x2.1 s) (fun v3 => ?_)
    refine E_iadd dX5_together_21 ?_
    refine E_istore_n [(1, .int (x2.2 + v3)), (2, .int x2.1), (0, .ref (Γ.2.1 4))] dX5_together_22 rfl (by decide) rfl ?_
    refine E_bv (fun v4 => [(1, .int v4), (2, .int x2.1), (0, .ref (Γ.2.1 4))]) (fun v4 => ?_) (x2.2 + v3)
    refine E_iinc 1 [(2, .int (x2.1 + 1)), (1, .int v4), (0, .ref (Γ.2.1 4))] dX5_together_23 rfl rfl (by decide) rfl ?_
    refine E_goto 4 dX5_together_26 (by decide) ?_
    exact hr1 (x2.1 + 1, v4)
theorem c_X5_together (Γ : GT)  (s : St)  (x : Int32) (h : f_X5_together  s = some x) (l : Launch) : MC l yX5_together cX5_together 3 (some .int) 4 WC Γ [.ref (Γ.2.1 4)] s ((emI s) x) := MC_of (by decide +kernel) (Nat.le_of_ble_eq_true rfl) (e_X5_together Γ  s ) h l
set_option maxRecDepth 100000 in
set_option maxHeartbeats 4000000 in
theorem e_X5_rightsTo (Γ : GT) (a1 : Int32) (a2 : Int32) (s : St)  : E RX5 cX5_rightsTo 5 (some .int) 2 WC Γ (emI s) 0 [(0, .ref (Γ.2.1 4)), (1, .int a1), (2, .int a2)] [] s (f_X5_rightsTo a1 a2 s) := by
  unfold f_X5_rightsTo
  refine E_iconst (v := 0) dX5_rightsTo_0 (by decide) ?_
  refine E_istore_n [(3, .int 0), (0, .ref (Γ.2.1 4)), (1, .int a1), (2, .int a2)] dX5_rightsTo_1 rfl (by decide) rfl ?_
  refine E_iconst (v := 0) dX5_rightsTo_2 (by decide) ?_
  refine E_istore [(4, .int 0), (3, .int 0), (0, .ref (Γ.2.1 4)), (1, .int a1), (2, .int a2)] dX5_rightsTo_3 (by decide) rfl ?_
  refine E_lp (F := L_X5_rightsTo_5 a1 a2 s) (fun (x : Int32 × Int32) => [(4, .int x.1), (3, .int x.2), (0, .ref (Γ.2.1 4)), (1, .int a1), (2, .int a2)]) (fun (x : Int32 × Int32) => s) ?_ NN (0, 0)
  intro r1 hr1 x2
  show E _ _ _ _ _ _ _ _ _ _ _ _ (L_X5_rightsTo_5 a1 a2 s r1 x2)
  unfold L_X5_rightsTo_5
  refine E_iload 0 dX5_rightsTo_5 rfl ?_
  refine E_aload_n 2 dX5_rightsTo_7 rfl rfl ?_
  refine E_getR 2 (j := 2) (ci := 5) (T := TX5) (C0 := RX5) (ref := "SameWrong$Marks") dX5_rightsTo_8 rfl (by decide) rfl inX5 (by decide) kw_160 rfl rfl rfl ?_
  refine E_getI (j := 0) (ci := 7) (T := TX7) (C0 := RX7) (ref := "SameWrong$Room") dX5_rightsTo_11 rfl (by decide) rfl inX7 (by decide) kw_75 rfl rfl ?_
  refine E_icmpge 45 dX5_rightsTo_14 (by decide) ?_ ?_
  · refine E_iload_n 1 dX5_rightsTo_45 rfl rfl ?_
    exact E_ireturn dX5_rightsTo_46 rfl rfl
  · refine E_iload_n 4 dX5_rightsTo_17 rfl rfl ?_
    refine E_iload 0 dX5_rightsTo_18 rfl ?_
    refine E_ishr dX5_rightsTo_20 ?_
    refine E_iconst (v := 1) dX5_rightsTo_21 (by decide) ?_
    refine E_iand dX5_rightsTo_22 ?_
    refine E_ifeq 39 dX5_rightsTo_23 (by decide) ?_ ?_
    · refine E_iinc 0 [(4, .int (x2.1 + 1)), (3, .int x2.2), (0, .ref (Γ.2.1 4)), (1, .int a1), (2, .int a2)] dX5_rightsTo_39 rfl rfl (by decide) rfl ?_
      refine E_goto 5 dX5_rightsTo_42 (by decide) ?_
      exact hr1 (x2.1 + 1, x2.2)
    · refine E_aload_n 2 dX5_rightsTo_26 rfl rfl ?_
      refine E_iload 0 dX5_rightsTo_27 rfl ?_
      refine E_iload_n 3 dX5_rightsTo_29 rfl rfl ?_
      refine E_callVZ (T := TX5) (ci := 5) [.int x2.1, .int a1] [] dX5_rightsTo_30 rfl kw_494 kw_495 kw_496 kw_6 ko_X5_isRight rfl hy_X5_isRight rfl (by decide) (Nat.le_of_ble_eq_true rfl) rfl (by decide) rfl (c_X5_isRight Γ x2.1 a1 s) (fun v3 => ?_)
      refine E_ifeqb 39 dX5_rightsTo_33 (by decide) ?_ ?_
      · refine E_iinc 0 [(4, .int (x2.1 + 1)), (3, .int x2.2), (0, .ref (Γ.2.1 4)), (1, .int a1), (2, .int a2)] dX5_rightsTo_39 rfl rfl (by decide) rfl ?_
        refine E_goto 5 dX5_rightsTo_42 (by decide) ?_
        exact hr1 (x2.1 + 1, x2.2)
      · refine E_iinc 1 [(3, .int (x2.2 + 1)), (4, .int x2.1), (0, .ref (Γ.2.1 4)), (1, .int a1), (2, .int a2)] dX5_rightsTo_36 rfl rfl (by decide) rfl ?_
        refine E_iinc 1 [(4, .int (x2.1 + 1)), (3, .int (x2.2 + 1)), (0, .ref (Γ.2.1 4)), (1, .int a1), (2, .int a2)] dX5_rightsTo_39 rfl rfl (by decide) rfl ?_
        refine E_goto 5 dX5_rightsTo_42 (by decide) ?_
        exact hr1 (x2.1 + 1, x2.2 + 1)
theorem c_X5_rightsTo (Γ : GT) (a1 : Int32) (a2 : Int32) (s : St)  (x : Int32) (h : f_X5_rightsTo a1 a2 s = some x) (l : Launch) : MC l yX5_rightsTo cX5_rightsTo 5 (some .int) 2 WC Γ [.ref (Γ.2.1 4), .int a1, .int a2] s ((emI s) x) := MC_of (by decide +kernel) (Nat.le_of_ble_eq_true rfl) (e_X5_rightsTo Γ a1 a2 s ) h l
set_option maxRecDepth 100000 in
set_option maxHeartbeats 4000000 in
theorem e_X5_fillRests (Γ : GT) (a1 : Nat) (n1 : Nat) (a2 : Int32) (s : St) (h1 : WC.2.1 a1 = .inr (0, n1)) (k1 : a1 < WC.1) : E RX5 cX5_fillRests 4 none 3 WC Γ emV 0 [(0, .ref (Γ.2.1 4)), (1, .ref (Γ.2.1 a1)), (2, .int a2)] [] s (f_X5_fillRests a1 n1 a2 s) := by
  unfold f_X5_fillRests
  refine E_iconst (v := 0) dX5_fillRests_0 (by decide) ?_
  refine E_istore_n [(3, .int 0), (0, .ref (Γ.2.1 4)), (1, .ref (Γ.2.1 a1)), (2, .int a2)] dX5_fillRests_1 rfl (by decide) rfl ?_
  refine E_lp (F := L_X5_fillRests_2 a1 n1 a2) (fun (x : Int32 × St) => [(3, .int x.1), (0, .ref (Γ.2.1 4)), (1, .ref (Γ.2.1 a1)), (2, .int a2)]) (fun (x : Int32 × St) => x.2) ?_ NN (0, s)
  intro r1 hr1 x2
  show E _ _ _ _ _ _ _ _ _ _ _ _ (L_X5_fillRests_2 a1 n1 a2 r1 x2)
  unfold L_X5_fillRests_2
  refine E_iload_n 0 dX5_fillRests_2 rfl rfl ?_
  refine E_aload_n 1 dX5_fillRests_3 rfl rfl ?_
  refine E_getR 2 (j := 2) (ci := 5) (T := TX5) (C0 := RX5) (ref := "SameWrong$Marks") dX5_fillRests_4 rfl (by decide) rfl inX5 (by decide) kw_160 rfl rfl rfl ?_
  refine E_getI (j := 0) (ci := 7) (T := TX7) (C0 := RX7) (ref := "SameWrong$Room") dX5_fillRests_7 rfl (by decide) rfl inX7 (by decide) kw_75 rfl rfl ?_
  refine E_icmpge 28 dX5_fillRests_10 (by decide) ?_ ?_
  · exact E_return dX5_fillRests_28 rfl rfl
  · refine E_aload_n 2 dX5_fillRests_13 rfl rfl ?_
    refine E_iload_n 0 dX5_fillRests_14 rfl rfl ?_
    refine E_aload_n 1 dX5_fillRests_15 rfl rfl ?_
    refine E_iload_n 0 dX5_fillRests_16 rfl rfl ?_
    refine E_iload_n 3 dX5_fillRests_17 rfl rfl ?_
    refine E_callVI (T := TX5) (ci := 5) [.int x2.1, .int a2] [.int x2.1, .ref (Γ.2.1 a1)] dX5_fillRests_18 rfl kw_490 kw_491 kw_492 kw_6 ko_X5_restOf rfl hy_X5_restOf rfl (by decide) (Nat.le_of_ble_eq_true rfl) rfl (by decide) rfl (c_X5_restOf Γ x2.1 a2 x2.2) (fun v3 => ?_)
    refine E_iastore dX5_fillRests_21 h1 k1 ?_
    refine E_bd (fun s4 => ?_)
    refine E_iinc 0 [(3, .int (x2.1 + 1)), (0, .ref (Γ.2.1 4)), (1, .ref (Γ.2.1 a1)), (2, .int a2)] dX5_fillRests_22 rfl rfl (by decide) rfl ?_
    refine E_goto 2 dX5_fillRests_25 (by decide) ?_
    exact hr1 (x2.1 + 1, s4)
theorem c_X5_fillRests (Γ : GT) (a1 : Nat) (n1 : Nat) (a2 : Int32) (s : St) (h1 : WC.2.1 a1 = .inr (0, n1)) (k1 : a1 < WC.1) (x : St) (h : f_X5_fillRests a1 n1 a2 s = some x) (l : Launch) : MC l yX5_fillRests cX5_fillRests 4 none 3 WC Γ [.ref (Γ.2.1 4), .ref (Γ.2.1 a1), .int a2] s (emV x) := MC_of (by decide +kernel) (Nat.le_of_ble_eq_true rfl) (e_X5_fillRests Γ a1 n1 a2 s h1 k1) h l
set_option maxRecDepth 100000 in
set_option maxHeartbeats 4000000 in
theorem e_X5_rankIn (Γ : GT) (a1 : Nat) (n1 : Nat) (a2 : Int32) (s : St) (h1 : WC.2.1 a1 = .inr (0, n1)) (k1 : a1 < WC.1) : E RX5 cX5_rankIn 5 (some .int) 1 WC Γ (emI s) 0 [(0, .ref (Γ.2.1 4)), (1, .ref (Γ.2.1 a1)), (2, .int a2)] [] s (f_X5_rankIn a1 n1 a2 s) := by
  unfold f_X5_rankIn
  refine E_iconst (v := 1) dX5_rankIn_0 (by decide) ?_
  refine E_istore_n [(3, .int 1), (0, .ref (Γ.2.1 4)), (1, .ref (Γ.2.1 a1)), (2, .int a2)] dX5_rankIn_1 rfl (by decide) rfl ?_
  refine E_iconst (v := 0) dX5_rankIn_2 (by decide) ?_
  refine E_istore [(4, .int 0), (3, .int 1), (0, .ref (Γ.2.1 4)), (1, .ref (Γ.2.1 a1)), (2, .int a2)] dX5_rankIn_3 (by decide) rfl ?_
  refine E_lp (F := L_X5_rankIn_5 a1 n1 a2 s) (fun (x : Int32 × Int32) => [(4, .int x.1), (3, .int x.2), (0, .ref (Γ.2.1 4)), (1, .ref (Γ.2.1 a1)), (2, .int a2)]) (fun (x : Int32 × Int32) => s) ?_ NN (0, 1)
  intro r1 hr1 x2
  show E _ _ _ _ _ _ _ _ _ _ _ _ (L_X5_rankIn_5 a1 n1 a2 s r1 x2)
  unfold L_X5_rankIn_5
  refine E_iload 0 dX5_rankIn_5 rfl ?_
  refine E_aload_n 2 dX5_rankIn_7 rfl rfl ?_
  refine E_getR 2 (j := 2) (ci := 5) (T := TX5) (C0 := RX5) (ref := "SameWrong$Marks") dX5_rankIn_8 rfl (by decide) rfl inX5 (by decide) kw_160 rfl rfl rfl ?_
  refine E_getI (j := 0) (ci := 7) (T := TX7) (C0 := RX7) (ref := "SameWrong$Room") dX5_rankIn_11 rfl (by decide) rfl inX7 (by decide) kw_75 rfl rfl ?_
  refine E_icmpge 36 dX5_rankIn_14 (by decide) ?_ ?_
  · refine E_iload_n 1 dX5_rankIn_36 rfl rfl ?_
    exact E_ireturn dX5_rankIn_37 rfl rfl
  · refine E_aload_n 3 dX5_rankIn_17 rfl rfl ?_
    refine E_iload 0 dX5_rankIn_18 rfl ?_
    refine E_iaload dX5_rankIn_20 h1 k1 ?_
    refine E_aload_n 3 dX5_rankIn_21 rfl rfl ?_
    refine E_iload_n 4 dX5_rankIn_22 rfl rfl ?_
    refine E_iaload dX5_rankIn_23 h1 k1 ?_
    refine E_icmple 30 dX5_rankIn_24 (by decide) ?_ ?_
    · refine E_iinc 0 [(4, .int (x2.1 + 1)), (3, .int x2.2), (0, .ref (Γ.2.1 4)), (1, .ref (Γ.2.1 a1)), (2, .int a2)] dX5_rankIn_30 rfl rfl (by decide) rfl ?_
      refine E_goto 5 dX5_rankIn_33 (by decide) ?_
      exact hr1 (x2.1 + 1, x2.2)
    · refine E_iinc 1 [(3, .int (x2.2 + 1)), (4, .int x2.1), (0, .ref (Γ.2.1 4)), (1, .ref (Γ.2.1 a1)), (2, .int a2)] dX5_rankIn_27 rfl rfl (by decide) rfl ?_
      refine E_iinc 1 [(4, .int (x2.1 + 1)), (3, .int (x2.2 + 1)), (0, .ref (Γ.2.1 4)), (1, .ref (Γ.2.1 a1)), (2, .int a2)] dX5_rankIn_30 rfl rfl (by decide) rfl ?_
      refine E_goto 5 dX5_rankIn_33 (by decide) ?_
      exact hr1 (x2.1 + 1, x2.2 + 1)
theorem c_X5_rankIn (Γ : GT) (a1 : Nat) (n1 : Nat) (a2 : Int32) (s : St) (h1 : WC.2.1 a1 = .inr (0, n1)) (k1 : a1 < WC.1) (x : Int32) (h : f_X5_rankIn a1 n1 a2 s = some x) (l : Launch) : MC l yX5_rankIn cX5_rankIn 5 (some .int) 1 WC Γ [.ref (Γ.2.1 4), .ref (Γ.2.1 a1), .int a2] s ((emI s) x) := MC_of (by decide +kernel) (Nat.le_of_ble_eq_true rfl) (e_X5_rankIn Γ a1 n1 a2 s h1 k1) h l
set_option maxRecDepth 100000 in
set_option maxHeartbeats 4000000 in
theorem e_X5_rankOf (Γ : GT) (a1 : Int32) (s : St)  : E RX5 cX5_rankOf 2 (some .int) 4 WC Γ emIS 0 [(0, .ref (Γ.2.1 4)), (1, .int a1)] [] s (f_X5_rankOf a1 s) := by
  unfold f_X5_rankOf
  refine E_aload_n 0 dX5_rankOf_0 rfl rfl ?_
  refine E_aload_n 0 dX5_rankOf_1 rfl rfl ?_
  refine E_getR 20 (j := 4) (ci := 5) (T := TX5) (C0 := RX5) (ref := "SameWrong$Marks") dX5_rankOf_2 rfl (by decide) rfl inX5 (by decide) kw_162 rfl rfl rfl ?_
  refine E_iconst (v := (-1)) dX5_rankOf_5 (by decide) ?_
  refine E_callVV (T := TX5) (ci := 5) [.ref (Γ.2.1 20), .int (-1)] [] dX5_rankOf_6 rfl kw_502 kw_504 kp_8 kw_6 ko_X5_fillRests rfl hy_X5_fillRests rfl (by decide) (Nat.le_of_ble_eq_true rfl) rfl (by decide) rfl (c_X5_fillRests Γ 20 10 (-1) s rfl (by decide)) (fun s1 => ?_)
  refine E_aload_n 0 dX5_rankOf_9 rfl rfl ?_
  refine E_aload_n 0 dX5_rankOf_10 rfl rfl ?_
  refine E_getR 20 (j := 4) (ci := 5) (T := TX5) (C0 := RX5) (ref := "SameWrong$Marks") dX5_rankOf_11 rfl (by decide) rfl inX5 (by decide) kw_162 rfl rfl rfl ?_
  refine E_iload_n 1 dX5_rankOf_14 rfl rfl ?_
  refine E_callVI (T := TX5) (ci := 5) [.ref (Γ.2.1 20), .int a1] [] dX5_rankOf_15 rfl kw_506 kw_508 kp_9 kw_6 ko_X5_rankIn rfl hy_X5_rankIn rfl (by decide) (Nat.le_of_ble_eq_true rfl) rfl (by decide) rfl (c_X5_rankIn Γ 20 10 a1 s1 rfl (by decide)) (fun v2 => ?_)
  exact E_ireturn dX5_rankOf_18 rfl rfl
theorem c_X5_rankOf (Γ : GT) (a1 : Int32) (s : St)  (x : (Int32 × St)) (h : f_X5_rankOf a1 s = some x) (l : Launch) : MC l yX5_rankOf cX5_rankOf 2 (some .int) 4 WC Γ [.ref (Γ.2.1 4), .int a1] s (emIS x) := MC_of (by decide +kernel) (Nat.le_of_ble_eq_true rfl) (e_X5_rankOf Γ a1 s ) h l
set_option maxRecDepth 100000 in
set_option maxHeartbeats 4000000 in
theorem e_X5_passes (Γ : GT) (a1 : Int32) (a2 : Int32) (s : St)  : E RX5 cX5_passes 3 (some .boolean) 1 WC Γ (emZ s) 0 [(0, .ref (Γ.2.1 4)), (1, .int a1), (2, .int a2)] [] s (f_X5_passes a1 a2 s) := by
  unfold f_X5_passes
  refine E_iload_n 1 dX5_passes_0 rfl rfl ?_
  refine E_bipush (v := 100) dX5_passes_1 (by decide) ?_
  refine E_imul dX5_passes_3 ?_
  refine E_aload_n 0 dX5_passes_4 rfl rfl ?_
  refine E_getI (j := 0) (ci := 5) (T := TX5) (C0 := RX5) (ref := "SameWrong$Marks") dX5_passes_5 rfl (by decide) rfl inX5 (by decide) kw_157 rfl rfl ?_
  refine E_iload_n 2 dX5_passes_8 rfl rfl ?_
  refine E_imul dX5_passes_9 ?_
  refine E_icmplt 17 dX5_passes_10 (by decide) ?_ ?_
  · refine E_iconst (v := 0) dX5_passes_17 (by decide) ?_
    exact E_zreturn (b := false) dX5_passes_18 rfl rfl
  · refine E_iconst (v := 1) dX5_passes_13 (by decide) ?_
    refine E_goto 18 dX5_passes_14 (by decide) ?_
    exact E_zreturn (b := true) dX5_passes_18 rfl rfl
theorem c_X5_passes (Γ : GT) (a1 : Int32) (a2 : Int32) (s : St)  (x : Bool) (h : f_X5_passes a1 a2 s = some x) (l : Launch) : MC l yX5_passes cX5_passes 3 (some .boolean) 1 WC Γ [.ref (Γ.2.1 4), .int a1, .int a2] s ((emZ s) x) := MC_of (by decide +kernel) (Nat.le_of_ble_eq_true rfl) (e_X5_passes Γ a1 a2 s ) h l
set_option maxRecDepth 100000 in
set_option maxHeartbeats 4000000 in
theorem e_X5_otherRanks (Γ : GT) (a1 : Int32) (s : St)  : E RX5 cX5_otherRanks 4 (some .int) 4 WC Γ emIS 0 [(0, .ref (Γ.2.1 4)), (1, .int a1)] [] s (f_X5_otherRanks a1 s) := by
  unfold f_X5_otherRanks
  refine E_aload_n 0 dX5_otherRanks_0 rfl rfl ?_
  refine E_aload_n 0 dX5_otherRanks_1 rfl rfl ?_
  refine E_getR 20 (j := 4) (ci := 5) (T := TX5) (C0 := RX5) (ref := "SameWrong$Marks") dX5_otherRanks_2 rfl (by decide) rfl inX5 (by decide) kw_162 rfl rfl rfl ?_
  refine E_iconst (v := (-1)) dX5_otherRanks_5 (by decide) ?_
  refine E_callVV (T := TX5) (ci := 5) [.ref (Γ.2.1 20), .int (-1)] [] dX5_otherRanks_6 rfl kw_502 kw_504 kp_8 kw_6 ko_X5_fillRests rfl hy_X5_fillRests rfl (by decide) (Nat.le_of_ble_eq_true rfl) rfl (by decide) rfl (c_X5_fillRests Γ 20 10 (-1) s rfl (by decide)) (fun s1 => ?_)
  refine E_aload_n 0 dX5_otherRanks_9 rfl rfl ?_
  refine E_aload_n 0 dX5_otherRanks_10 rfl rfl ?_
  refine E_getR 21 (j := 5) (ci := 5) (T := TX5) (C0 := RX5) (ref := "SameWrong$Marks") dX5_otherRanks_11 rfl (by decide) rfl inX5 (by decide) kw_163 rfl rfl rfl ?_
  refine E_iload_n 1 dX5_otherRanks_14 rfl rfl ?_
  refine E_callVV (T := TX5) (ci := 5) [.ref (Γ.2.1 21), .int a1] [] dX5_otherRanks_15 rfl kw_502 kw_504 kp_8 kw_6 ko_X5_fillRests rfl hy_X5_fillRests rfl (by decide) (Nat.le_of_ble_eq_true rfl) rfl (by decide) rfl (c_X5_fillRests Γ 21 10 a1 s1 rfl (by decide)) (fun s2 => ?_)
  refine E_iconst (v := 0) dX5_otherRanks_18 (by decide) ?_
  refine E_istore_n [(2, .int 0), (0, .ref (Γ.2.1 4)), (1, .int a1)] dX5_otherRanks_19 rfl (by decide) rfl ?_
  refine E_iconst (v := 0) dX5_otherRanks_20 (by decide) ?_
  refine E_istore_n [(3, .int 0), (2, .int 0), (0, .ref (Γ.2.1 4)), (1, .int a1)] dX5_otherRanks_21 rfl (by decide) rfl ?_
  refine E_lvsub [0, 1, 2] [(3, .int 0), (2, .int 0), (0, .ref (Γ.2.1 4))] rfl ?_
  refine E_lp (F := L_X5_otherRanks_22 s2) (fun (x : Int32 × Int32) => [(3, .int x.1), (2, .int x.2), (0, .ref (Γ.2.1 4))]) (fun (x : Int32 × Int32) => s2) ?_ NN (0, 0)
  intro r3 hr3 x4
  show E _ _ _ _ _ _ _ _ _ _ _ _ (L_X5_otherRanks_22 s2 r3 x4)
  unfold L_X5_otherRanks_22
  refine E_iload_n 0 dX5_otherRanks_22 rfl rfl ?_
  refine E_aload_n 2 dX5_otherRanks_23 rfl rfl ?_
  refine E_getR 2 (j := 2) (ci := 5) (T := TX5) (C0 := RX5) (ref := "SameWrong$Marks") dX5_otherRanks_24 rfl (by decide) rfl inX5 (by decide) kw_160 rfl rfl rfl ?_
  refine E_getI (j := 0) (ci := 7) (T := TX7) (C0 := RX7) (ref := "SameWrong$Room") dX5_otherRanks_27 rfl (by decide) rfl inX7 (by decide) kw_75 rfl rfl ?_
  refine E_icmpge 63 dX5_otherRanks_30 (by decide) ?_ ?_
  · refine E_iload_n 1 dX5_otherRanks_63 rfl rfl ?_
    exact E_ireturn dX5_otherRanks_64 rfl rfl
  · refine E_aload_n 2 dX5_otherRanks_33 rfl rfl ?_
    refine E_aload_n 2 dX5_otherRanks_34 rfl rfl ?_
    refine E_getR 20 (j := 4) (ci := 5) (T := TX5) (C0 := RX5) (ref := "SameWrong$Marks") dX5_otherRanks_35 rfl (by decide) rfl inX5 (by decide) kw_162 rfl rfl rfl ?_
    refine E_iload_n 0 dX5_otherRanks_38 rfl rfl ?_
    refine E_callVI (T := TX5) (ci := 5) [.ref (Γ.2.1 20), .int x4.1] [] dX5_otherRanks_39 rfl kw_506 kw_508 kp_9 kw_6 ko_X5_rankIn rfl hy_X5_rankIn rfl (by decide) (Nat.le_of_ble_eq_true rfl) rfl (by decide) rfl (c_X5_rankIn Γ 20 10 x4.1 s2 rfl (by decide)) (fun v5 => ?_)
    refine E_aload_n 2 dX5_otherRanks_42 rfl rfl ?_
    refine E_aload_n 2 dX5_otherRanks_43 rfl rfl ?_
    refine E_getR 21 (j := 5) (ci := 5) (T := TX5) (C0 := RX5) (ref := "SameWrong$Marks") dX5_otherRanks_44 rfl (by decide) rfl inX5 (by decide) kw_163 rfl rfl rfl ?_
    refine E_iload_n 0 dX5_otherRanks_47 rfl rfl ?_
    refine E_callVI (T := TX5) (ci := 5) [.ref (Γ.2.1 21), .int x4.1] [.int v5] dX5_otherRanks_48 rfl kw_506 kw_508 kp_9 kw_6 ko_X5_rankIn rfl hy_X5_rankIn rfl (by decide) (Nat.le_of_ble_eq_true rfl) rfl (by decide) rfl (c_X5_rankIn Γ 21 10 x4.1 s2 rfl (by decide)) (fun v6 => ?_)
    refine E_icmpeq 57 dX5_otherRanks_51 (by decide) ?_ ?_
    · refine E_iinc 0 [(3, .int (x4.1 + 1)), (2, .int x4.2), (0, .ref (Γ.2.1 4))] dX5_otherRanks_57 rfl rfl (by decide) rfl ?_
      refine E_goto 22 dX5_otherRanks_60 (by decide) ?_
      exact hr3 (x4.1 + 1, x4.2)
    · refine E_iinc 1 [(2, .int (x4.2 + 1)), (3, .int x4.1), (0, .ref (Γ.2.1 4))] dX5_otherRanks_54 rfl rfl (by decide) rfl ?_
      refine E_iinc 1 [(3, .int (x4.1 + 1)), (2, .int (x4.2 + 1)), (0, .ref (Γ.2.1 4))] dX5_otherRanks_57 rfl rfl (by decide) rfl ?_
      refine E_goto 22 dX5_otherRanks_60 (by decide) ?_
      exact hr3 (x4.1 + 1, x4.2 + 1)
theorem c_X5_otherRanks (Γ : GT) (a1 : Int32) (s : St)  (x : (Int32 × St)) (h : f_X5_otherRanks a1 s = some x) (l : Launch) : MC l yX5_otherRanks cX5_otherRanks 4 (some .int) 4 WC Γ [.ref (Γ.2.1 4), .int a1] s (emIS x) := MC_of (by decide +kernel) (Nat.le_of_ble_eq_true rfl) (e_X5_otherRanks Γ a1 s ) h l
set_option maxRecDepth 100000 in
set_option maxHeartbeats 4000000 in
theorem e_X5_otherPasses (Γ : GT) (a1 : Int32) (s : St)  : E RX5 cX5_otherPasses 5 (some .int) 4 WC Γ (emI s) 0 [(0, .ref (Γ.2.1 4)), (1, .int a1)] [] s (f_X5_otherPasses a1 s) := by
  unfold f_X5_otherPasses
  refine E_aload_n 0 dX5_otherPasses_0 rfl rfl ?_
  refine E_getR 1 (j := 1) (ci := 5) (T := TX5) (C0 := RX5) (ref := "SameWrong$Marks") dX5_otherPasses_1 rfl (by decide) rfl inX5 (by decide) kw_159 rfl rfl rfl ?_
  refine E_getR 11 (j := 0) (ci := 4) (T := TX4) (C0 := RX4) (ref := "SameWrong$Key") dX5_otherPasses_4 rfl (by decide) rfl inX4 (by decide) kw_33 rfl rfl rfl ?_
  refine E_iload_n 1 dX5_otherPasses_7 rfl rfl ?_
  refine E_iaload dX5_otherPasses_8 rfl (by decide) ?_
  refine E_jn 31 (fun (y : Int32) => [(0, .ref (Γ.2.1 4)), (1, .int a1)]) (fun (y : Int32) => [.int y]) (fun (y : Int32) => s) ?_ ?_
  · intro y2
    refine E_istore_n [(2, .int y2), (0, .ref (Γ.2.1 4)), (1, .int a1)] dX5_otherPasses_31 rfl (by decide) rfl ?_
    refine E_iconst (v := 0) dX5_otherPasses_32 (by decide) ?_
    refine E_istore_n [(3, .int 0), (2, .int y2), (0, .ref (Γ.2.1 4)), (1, .int a1)] dX5_otherPasses_33 rfl (by decide) rfl ?_
    refine E_iconst (v := 0) dX5_otherPasses_34 (by decide) ?_
    refine E_istore [(4, .int 0), (3, .int 0), (2, .int y2), (0, .ref (Γ.2.1 4)), (1, .int a1)] dX5_otherPasses_35 (by decide) rfl ?_
    refine E_lp (F := L_X5_otherPasses_37 a1 s y2) (fun (x : Int32 × Int32) => [(4, .int x.1), (3, .int x.2), (2, .int y2), (0, .ref (Γ.2.1 4)), (1, .int a1)]) (fun (x : Int32 × Int32) => s) ?_ NN (0, 0)
    intro r3 hr3 x4
    show E _ _ _ _ _ _ _ _ _ _ _ _ (L_X5_otherPasses_37 a1 s y2 r3 x4)
    unfold L_X5_otherPasses_37
    refine E_iload 0 dX5_otherPasses_37 rfl ?_
    refine E_aload_n 3 dX5_otherPasses_39 rfl rfl ?_
    refine E_getR 2 (j := 2) (ci := 5) (T := TX5) (C0 := RX5) (ref := "SameWrong$Marks") dX5_otherPasses_40 rfl (by decide) rfl inX5 (by decide) kw_160 rfl rfl rfl ?_
    refine E_getI (j := 0) (ci := 7) (T := TX7) (C0 := RX7) (ref := "SameWrong$Room") dX5_otherPasses_43 rfl (by decide) rfl inX7 (by decide) kw_75 rfl rfl ?_
    refine E_icmpge 90 dX5_otherPasses_46 (by decide) ?_ ?_
    · refine E_iload_n 1 dX5_otherPasses_90 rfl rfl ?_
      exact E_ireturn dX5_otherPasses_91 rfl rfl
    · refine E_aload_n 3 dX5_otherPasses_49 rfl rfl ?_
      refine E_aload_n 3 dX5_otherPasses_50 rfl rfl ?_
      refine E_iload 0 dX5_otherPasses_51 rfl ?_
      refine E_callVI (T := TX5) (ci := 5) [.int x4.1] [.ref (Γ.2.1 4)] dX5_otherPasses_53 rfl kw_756 kw_487 kw_488 kw_6 ko_X5_markOf rfl hy_X5_markOf rfl (by decide) (Nat.le_of_ble_eq_true rfl) rfl (by decide) rfl (c_X5_markOf Γ x4.1 s) (fun v5 => ?_)
      refine E_aload_n 3 dX5_otherPasses_56 rfl rfl ?_
      refine E_getR 1 (j := 1) (ci := 5) (T := TX5) (C0 := RX5) (ref := "SameWrong$Marks") dX5_otherPasses_57 rfl (by decide) rfl inX5 (by decide) kw_159 rfl rfl rfl ?_
      refine E_getI (j := 4) (ci := 4) (T := TX4) (C0 := RX4) (ref := "SameWrong$Key") dX5_otherPasses_60 rfl (by decide) rfl inX4 (by decide) kw_47 rfl rfl ?_
      refine E_callVZ (T := TX5) (ci := 5) [.int v5, .int (s.1 1 4)] [] dX5_otherPasses_63 rfl kw_757 kw_511 kw_512 kw_6 ko_X5_passes rfl hy_X5_passes rfl (by decide) (Nat.le_of_ble_eq_true rfl) rfl (by decide) rfl (c_X5_passes Γ v5 (s.1 1 4) s) (fun v6 => ?_)
      refine E_aload_n 3 dX5_otherPasses_66 rfl rfl ?_
      refine E_aload_n 3 dX5_otherPasses_67 rfl rfl ?_
      refine E_iload 0 dX5_otherPasses_68 rfl ?_
      refine E_iload_n 4 dX5_otherPasses_70 rfl rfl ?_
      refine E_callVI (T := TX5) (ci := 5) [.int x4.1, .int a1] [.ref (Γ.2.1 4), .int (bI v6)] dX5_otherPasses_71 rfl kw_490 kw_491 kw_492 kw_6 ko_X5_restOf rfl hy_X5_restOf rfl (by decide) (Nat.le_of_ble_eq_true rfl) rfl (by decide) rfl (c_X5_restOf Γ x4.1 a1 s) (fun v7 => ?_)
      refine E_iload_n 2 dX5_otherPasses_74 rfl rfl ?_
      refine E_callVZ (T := TX5) (ci := 5) [.int v7, .int y2] [.int (bI v6)] dX5_otherPasses_75 rfl kw_757 kw_511 kw_512 kw_6 ko_X5_passes rfl hy_X5_passes rfl (by decide) (Nat.le_of_ble_eq_true rfl) rfl (by decide) rfl (c_X5_passes Γ v7 y2 s) (fun v8 => ?_)
      refine E_icmpeq 84 dX5_otherPasses_78 (by decide) ?_ ?_
      · refine E_iinc 0 [(4, .int (x4.1 + 1)), (3, .int x4.2), (2, .int y2), (0, .ref (Γ.2.1 4)), (1, .int a1)] dX5_otherPasses_84 rfl rfl (by decide) rfl ?_
        refine E_goto 37 dX5_otherPasses_87 (by decide) ?_
        exact hr3 (x4.1 + 1, x4.2)
      · refine E_iinc 1 [(3, .int (x4.2 + 1)), (4, .int x4.1), (2, .int y2), (0, .ref (Γ.2.1 4)), (1, .int a1)] dX5_otherPasses_81 rfl rfl (by decide) rfl ?_
        refine E_iinc 1 [(4, .int (x4.1 + 1)), (3, .int (x4.2 + 1)), (2, .int y2), (0, .ref (Γ.2.1 4)), (1, .int a1)] dX5_otherPasses_84 rfl rfl (by decide) rfl ?_
        refine E_goto 37 dX5_otherPasses_87 (by decide) ?_
        exact hr3 (x4.1 + 1, x4.2 + 1)
  · intro K1 hK1
    refine E_ifne 22 dX5_otherPasses_9 (by decide) ?_ ?_
    · refine E_aload_n 0 dX5_otherPasses_22 rfl rfl ?_
      refine E_getR 1 (j := 1) (ci := 5) (T := TX5) (C0 := RX5) (ref := "SameWrong$Marks") dX5_otherPasses_23 rfl (by decide) rfl inX5 (by decide) kw_159 rfl rfl rfl ?_
      refine E_getI (j := 4) (ci := 4) (T := TX4) (C0 := RX4) (ref := "SameWrong$Key") dX5_otherPasses_26 rfl (by decide) rfl inX4 (by decide) kw_47 rfl rfl ?_
      refine E_iconst (v := 1) dX5_otherPasses_29 (by decide) ?_
      refine E_isub dX5_otherPasses_30 ?_
      exact hK1 ((s.1 1 4) - 1)
    · refine E_aload_n 0 dX5_otherPasses_12 rfl rfl ?_
      refine E_getR 1 (j := 1) (ci := 5) (T := TX5) (C0 := RX5) (ref := "SameWrong$Marks") dX5_otherPasses_13 rfl (by decide) rfl inX5 (by decide) kw_159 rfl rfl rfl ?_
      refine E_getI (j := 4) (ci := 4) (T := TX4) (C0 := RX4) (ref := "SameWrong$Key") dX5_otherPasses_16 rfl (by decide) rfl inX4 (by decide) kw_47 rfl rfl ?_
      refine E_goto 31 dX5_otherPasses_19 (by decide) ?_
      exact hK1 (s.1 1 4)
theorem c_X5_otherPasses (Γ : GT) (a1 : Int32) (s : St)  (x : Int32) (h : f_X5_otherPasses a1 s = some x) (l : Launch) : MC l yX5_otherPasses cX5_otherPasses 5 (some .int) 4 WC Γ [.ref (Γ.2.1 4), .int a1] s ((emI s) x) := MC_of (by decide +kernel) (Nat.le_of_ble_eq_true rfl) (e_X5_otherPasses Γ a1 s ) h l
set_option maxRecDepth 100000 in
set_option maxHeartbeats 4000000 in
theorem e_X6_oddPairs (Γ : GT)  (s : St)  : E RX6 cX6_oddPairs 4 (some .int) 6 WC Γ emIS 0 [(0, .ref (Γ.2.1 6))] [] s (f_X6_oddPairs  s) := by
  unfold f_X6_oddPairs
  refine E_iconst (v := 0) dX6_oddPairs_0 (by decide) ?_
  refine E_istore_n [(1, .int 0), (0, .ref (Γ.2.1 6))] dX6_oddPairs_1 rfl (by decide) rfl ?_
  refine E_iconst (v := 0) dX6_oddPairs_2 (by decide) ?_
  refine E_istore_n [(2, .int 0), (1, .int 0), (0, .ref (Γ.2.1 6))] dX6_oddPairs_3 rfl (by decide) rfl ?_
  refine E_lp (F := L_X6_oddPairs_4) (fun (x : Int32 × Int32 × St) => [(2, .int x.1), (1, .int x.2.1), (0, .ref (Γ.2.1 6))]) (fun (x : Int32 × Int32 × St) => x.2.2) ?_ NN (0, 0, s)
  intro r1 hr1 x2
  show E _ _ _ _ _ _ _ _ _ _ _ _ (L_X6_oddPairs_4 r1 x2)
  unfold L_X6_oddPairs_4
  refine E_iload_n 0 dX6_oddPairs_4 rfl rfl ?_
  refine E_aload_n 2 dX6_oddPairs_5 rfl rfl ?_
  refine E_getR 2 (j := 2) (ci := 6) (T := TX6) (C0 := RX6) (ref := "SameWrong$Pairs") dX6_oddPairs_6 rfl (by decide) rfl inX6 (by decide) kw_199 rfl rfl rfl ?_
  refine E_getI (j := 0) (ci := 7) (T := TX7) (C0 := RX7) (ref := "SameWrong$Room") dX6_oddPairs_9 rfl (by decide) rfl inX7 (by decide) kw_74 rfl rfl ?_
  refine E_icmpge 54 dX6_oddPairs_12 (by decide) ?_ ?_
  · refine E_iload_n 1 dX6_oddPairs_54 rfl rfl ?_
    exact E_ireturn dX6_oddPairs_55 rfl rfl
  · refine E_iload_n 0 dX6_oddPairs_15 rfl rfl ?_
    refine E_iconst (v := 1) dX6_oddPairs_16 (by decide) ?_
    refine E_iadd dX6_oddPairs_17 ?_
    refine E_istore_n [(3, .int (x2.1 + 1)), (2, .int x2.1), (1, .int x2.2.1), (0, .ref (Γ.2.1 6))] dX6_oddPairs_18 rfl (by decide) rfl ?_
    refine E_bv (fun v3 => [(3, .int v3), (2, .int x2.1), (1, .int x2.2.1), (0, .ref (Γ.2.1 6))]) (fun v3 => ?_) (x2.1 + 1)
    refine E_lp (F := L_X6_oddPairs_19 r1 x2) (fun (x : Int32 × Int32 × St) => [(3, .int x.1), (2, .int x2.1), (1, .int x.2.1), (0, .ref (Γ.2.1 6))]) (fun (x : Int32 × Int32 × St) => x.2.2) ?_ NN (v3, x2.2.1, x2.2.2)
    intro r4 hr4 x5
    show E _ _ _ _ _ _ _ _ _ _ _ _ (L_X6_oddPairs_19 r1 x2 r4 x5)
    unfold L_X6_oddPairs_19
    refine E_iload_n 0 dX6_oddPairs_19 rfl rfl ?_
    refine E_aload_n 3 dX6_oddPairs_20 rfl rfl ?_
    refine E_getR 2 (j := 2) (ci := 6) (T := TX6) (C0 := RX6) (ref := "SameWrong$Pairs") dX6_oddPairs_21 rfl (by decide) rfl inX6 (by decide) kw_199 rfl rfl rfl ?_
    refine E_getI (j := 0) (ci := 7) (T := TX7) (C0 := RX7) (ref := "SameWrong$Room") dX6_oddPairs_24 rfl (by decide) rfl inX7 (by decide) kw_74 rfl rfl ?_
    refine E_icmpge 48 dX6_oddPairs_27 (by decide) ?_ ?_
    · refine E_iinc 1 [(2, .int (x2.1 + 1)), (3, .int x5.1), (1, .int x5.2.1), (0, .ref (Γ.2.1 6))] dX6_oddPairs_48 rfl rfl (by decide) rfl ?_
      refine E_goto 4 dX6_oddPairs_51 (by decide) ?_
      refine E_lvsub [0, 2, 3] [(2, .int (x2.1 + 1)), (1, .int x5.2.1), (0, .ref (Γ.2.1 6))] rfl ?_
      exact hr1 (x2.1 + 1, x5.2.1, x5.2.2)
    · refine E_aload_n 3 dX6_oddPairs_30 rfl rfl ?_
      refine E_iload_n 1 dX6_oddPairs_31 rfl rfl ?_
      refine E_iload_n 0 dX6_oddPairs_32 rfl rfl ?_
      refine E_callVZS (T := TX6) (ci := 6) [.int x2.1, .int x5.1] [] dX6_oddPairs_33 rfl kw_839 kw_535 kw_536 kw_8 ko_X6_areOdd rfl hy_X6_areOdd rfl (by decide) (Nat.le_of_ble_eq_true rfl) rfl (by decide) rfl (c_X6_areOdd Γ x2.1 x5.1 x5.2.2) (fun p6 => ?_)
      refine E_ifeqb 42 dX6_oddPairs_36 (by decide) ?_ ?_
      · refine E_iinc 0 [(3, .int (x5.1 + 1)), (2, .int x2.1), (1, .int x5.2.1), (0, .ref (Γ.2.1 6))] dX6_oddPairs_42 rfl rfl (by decide) rfl ?_
        refine E_goto 19 dX6_oddPairs_45 (by decide) ?_
        exact hr4 (x5.1 + 1, x5.2.1, p6.2)
      · refine E_iinc 2 [(1, .int (x5.2.1 + 1)), (3, .int x5.1), (2, .int x2.1), (0, .ref (Γ.2.1 6))] dX6_oddPairs_39 rfl rfl (by decide) rfl ?_
        refine E_iinc 1 [(3, .int (x5.1 + 1)), (1, .int (x5.2.1 + 1)), (2, .int x2.1), (0, .ref (Γ.2.1 6))] dX6_oddPairs_42 rfl rfl (by decide) rfl ?_
        refine E_goto 19 dX6_oddPairs_45 (by decide) ?_
        refine E_lvsub [0, 2, 1, 3] [(3, .int (x5.1 + 1)), (2, .int x2.1), (1, .int (x5.2.1 + 1)), (0, .ref (Γ.2.1 6))] rfl ?_
        exact hr4 (x5.1 + 1, x5.2.1 + 1, p6.2)
theorem c_X6_oddPairs (Γ : GT)  (s : St)  (x : (Int32 × St)) (h : f_X6_oddPairs  s = some x) (l : Launch) : MC l yX6_oddPairs cX6_oddPairs 4 (some .int) 6 WC Γ [.ref (Γ.2.1 6)] s (emIS x) := MC_of (by decide +kernel) (Nat.le_of_ble_eq_true rfl) (e_X6_oddPairs Γ  s ) h l
set_option maxRecDepth 100000 in
set_option maxHeartbeats 4000000 in
theorem e_X7_isTaken (Γ : GT) (a1 : Int32) (a2 : Int32) (s : St)  : E RX7 cX7_isTaken 4 (some .boolean) 1 WC Γ (emZ s) 0 [(0, .ref (Γ.2.1 2)), (1, .int a1), (2, .int a2)] [] s (f_X7_isTaken a1 a2 s) := by
  unfold f_X7_isTaken
  refine E_iconst (v := 0) dX7_isTaken_0 (by decide) ?_
  refine E_istore_n [(3, .int 0), (0, .ref (Γ.2.1 2)), (1, .int a1), (2, .int a2)] dX7_isTaken_1 rfl (by decide) rfl ?_
  refine E_lp (F := L_X7_isTaken_2 a1 a2 s) (fun (x : Int32) => [(3, .int x), (0, .ref (Γ.2.1 2)), (1, .int a1), (2, .int a2)]) (fun (x : Int32) => s) ?_ NN 0
  intro r1 hr1 x2
  show E _ _ _ _ _ _ _ _ _ _ _ _ (L_X7_isTaken_2 a1 a2 s r1 x2)
  unfold L_X7_isTaken_2
  refine E_iload_n 0 dX7_isTaken_2 rfl rfl ?_
  refine E_aload_n 1 dX7_isTaken_3 rfl rfl ?_
  refine E_getI (j := 0) (ci := 7) (T := TX7) (C0 := RX7) (ref := "SameWrong$Room") dX7_isTaken_4 rfl (by decide) rfl inX7 (by decide) kw_70 rfl rfl ?_
  refine E_icmpge 38 dX7_isTaken_7 (by decide) ?_ ?_
  · refine E_iconst (v := 0) dX7_isTaken_38 (by decide) ?_
    exact E_zreturn (b := false) dX7_isTaken_39 rfl rfl
  · refine E_aload_n 1 dX7_isTaken_10 rfl rfl ?_
    refine E_getR 13 (j := 1) (ci := 7) (T := TX7) (C0 := RX7) (ref := "SameWrong$Room") dX7_isTaken_11 rfl (by decide) rfl inX7 (by decide) kw_77 rfl rfl rfl ?_
    refine E_iload_n 0 dX7_isTaken_14 rfl rfl ?_
    refine E_iaload dX7_isTaken_15 rfl (by decide) ?_
    refine E_iload_n 2 dX7_isTaken_16 rfl rfl ?_
    refine E_icmpne 32 dX7_isTaken_17 (by decide) ?_ ?_
    · refine E_iinc 0 [(3, .int (x2 + 1)), (0, .ref (Γ.2.1 2)), (1, .int a1), (2, .int a2)] dX7_isTaken_32 rfl rfl (by decide) rfl ?_
      refine E_goto 2 dX7_isTaken_35 (by decide) ?_
      exact hr1 (x2 + 1)
    · refine E_aload_n 1 dX7_isTaken_20 rfl rfl ?_
      refine E_getR 14 (j := 2) (ci := 7) (T := TX7) (C0 := RX7) (ref := "SameWrong$Room") dX7_isTaken_21 rfl (by decide) rfl inX7 (by decide) kw_78 rfl rfl rfl ?_
      refine E_iload_n 0 dX7_isTaken_24 rfl rfl ?_
      refine E_iaload dX7_isTaken_25 rfl (by decide) ?_
      refine E_iload_n 3 dX7_isTaken_26 rfl rfl ?_
      refine E_icmpne 32 dX7_isTaken_27 (by decide) ?_ ?_
      · refine E_iinc 0 [(3, .int (x2 + 1)), (0, .ref (Γ.2.1 2)), (1, .int a1), (2, .int a2)] dX7_isTaken_32 rfl rfl (by decide) rfl ?_
        refine E_goto 2 dX7_isTaken_35 (by decide) ?_
        exact hr1 (x2 + 1)
      · refine E_iconst (v := 1) dX7_isTaken_30 (by decide) ?_
        exact E_zreturn (b := true) dX7_isTaken_31 rfl rfl
theorem c_X7_isTaken (Γ : GT) (a1 : Int32) (a2 : Int32) (s : St)  (x : Bool) (h : f_X7_isTaken a1 a2 s = some x) (l : Launch) : MC l yX7_isTaken cX7_isTaken 4 (some .boolean) 1 WC Γ [.ref (Γ.2.1 2), .int a1, .int a2] s ((emZ s) x) := MC_of (by decide +kernel) (Nat.le_of_ble_eq_true rfl) (e_X7_isTaken Γ a1 a2 s ) h l
set_option maxRecDepth 100000 in
set_option maxHeartbeats 4000000 in
theorem e_X7_seat (Γ : GT) (a1 : Int32) (a2 : Int32) (s : St)  : E RX7 cX7_seat 3 none 1 WC Γ emV 0 [(0, .ref (Γ.2.1 2)), (1, .int a1), (2, .int a2)] [] s (f_X7_seat a1 a2 s) := by
  unfold f_X7_seat
  refine E_aload_n 0 dX7_seat_0 rfl rfl ?_
  refine E_getI (j := 0) (ci := 7) (T := TX7) (C0 := RX7) (ref := "SameWrong$Room") dX7_seat_1 rfl (by decide) rfl inX7 (by decide) kw_70 rfl rfl ?_
  refine E_bipush (v := 10) dX7_seat_4 (by decide) ?_
  refine E_icmpge 39 dX7_seat_6 (by decide) ?_ ?_
  · exact E_return dX7_seat_39 rfl rfl
  · refine E_aload_n 0 dX7_seat_9 rfl rfl ?_
    refine E_getR 13 (j := 1) (ci := 7) (T := TX7) (C0 := RX7) (ref := "SameWrong$Room") dX7_seat_10 rfl (by decide) rfl inX7 (by decide) kw_77 rfl rfl rfl ?_
    refine E_aload_n 0 dX7_seat_13 rfl rfl ?_
    refine E_getI (j := 0) (ci := 7) (T := TX7) (C0 := RX7) (ref := "SameWrong$Room") dX7_seat_14 rfl (by decide) rfl inX7 (by decide) kw_70 rfl rfl ?_
    refine E_iload_n 1 dX7_seat_17 rfl rfl ?_
    refine E_iastore dX7_seat_18 rfl (by decide) ?_
    refine E_bd (fun s1 => ?_)
    refine E_aload_n 0 dX7_seat_19 rfl rfl ?_
    refine E_getR 14 (j := 2) (ci := 7) (T := TX7) (C0 := RX7) (ref := "SameWrong$Room") dX7_seat_20 rfl (by decide) rfl inX7 (by decide) kw_78 rfl rfl rfl ?_
    refine E_aload_n 0 dX7_seat_23 rfl rfl ?_
    refine E_getI (j := 0) (ci := 7) (T := TX7) (C0 := RX7) (ref := "SameWrong$Room") dX7_seat_24 rfl (by decide) rfl inX7 (by decide) kw_70 rfl rfl ?_
    refine E_iload_n 2 dX7_seat_27 rfl rfl ?_
    refine E_iastore dX7_seat_28 rfl (by decide) ?_
    refine E_bd (fun s2 => ?_)
    refine E_aload_n 0 dX7_seat_29 rfl rfl ?_
    refine E_dup dX7_seat_30 rfl ?_
    refine E_getI (j := 0) (ci := 7) (T := TX7) (C0 := RX7) (ref := "SameWrong$Room") dX7_seat_31 rfl (by decide) rfl inX7 (by decide) kw_70 rfl rfl ?_
    refine E_iconst (v := 1) dX7_seat_34 (by decide) ?_
    refine E_iadd dX7_seat_35 ?_
    refine E_putI (j := 0) (ci := 7) (T := TX7) (C0 := RX7) (ref := "SameWrong$Room") dX7_seat_36 rfl (by decide) rfl inX7 (by decide) kw_70 rfl tyX7_ok nmX7 rfl rfl ?_
    refine E_bd (fun s3 => ?_)
    exact E_return dX7_seat_39 rfl rfl
theorem c_X7_seat (Γ : GT) (a1 : Int32) (a2 : Int32) (s : St)  (x : St) (h : f_X7_seat a1 a2 s = some x) (l : Launch) : MC l yX7_seat cX7_seat 3 none 1 WC Γ [.ref (Γ.2.1 2), .int a1, .int a2] s (emV x) := MC_of (by decide +kernel) (Nat.le_of_ble_eq_true rfl) (e_X7_seat Γ a1 a2 s ) h l
set_option maxRecDepth 100000 in
set_option maxHeartbeats 4000000 in
theorem e_X8_waysToDraw (Γ : GT) (a0 : Int32) (a1 : Int32) (s : St)  : E RX8 cX8_waysToDraw 6 (some .long) 2 WC Γ (emL s) 0 [(0, .int a0), (1, .int a1)] [] s (f_X8_waysToDraw a0 a1 s) := by
  unfold f_X8_waysToDraw
  refine E_iload_n 1 dX8_waysToDraw_0 rfl rfl ?_
  refine E_iflt 9 dX8_waysToDraw_1 (by decide) ?_ ?_
  · refine E_lconst (v := 0) dX8_waysToDraw_9 rfl ?_
    exact E_lreturn dX8_waysToDraw_10 rfl rfl
  · refine E_iload_n 1 dX8_waysToDraw_4 rfl rfl ?_
    refine E_iload_n 0 dX8_waysToDraw_5 rfl rfl ?_
    refine E_icmple 11 dX8_waysToDraw_6 (by decide) ?_ ?_
    · refine E_iload_n 1 dX8_waysToDraw_11 rfl rfl ?_
      refine E_iload_n 0 dX8_waysToDraw_12 rfl rfl ?_
      refine E_iload_n 1 dX8_waysToDraw_13 rfl rfl ?_
      refine E_isub dX8_waysToDraw_14 ?_
      refine E_callSI [.int a1, .int (a0 - a1)] [] dX8_waysToDraw_15 rfl kw_697 kw_373 kw_14 ko_J9_min_7cf53 hy_J9_min_7cf53 rfl (by decide) (Nat.le_of_ble_eq_true rfl) (c_J9_min_7cf53 Γ a1 (a0 - a1) s) (fun v1 => ?_)
      refine E_istore_n [(2, .int v1), (0, .int a0), (1, .int a1)] dX8_waysToDraw_18 rfl (by decide) rfl ?_
      refine E_lconst (v := 1) dX8_waysToDraw_19 rfl ?_
      refine E_lstore_n [(3, .long 1), (2, .int v1), (0, .int a0), (1, .int a1)] dX8_waysToDraw_20 rfl (by decide) rfl ?_
      refine E_iconst (v := 1) dX8_waysToDraw_21 (by decide) ?_
      refine E_istore [(5, .int 1), (3, .long 1), (2, .int v1), (0, .int a0), (1, .int a1)] dX8_waysToDraw_22 (by decide) rfl ?_
      refine E_lvsub [0, 1, 2, 3] [(5, .int 1), (3, .long 1), (2, .int v1), (0, .int a0)] rfl ?_
      refine E_lp (F := L_X8_waysToDraw_24 a0 v1) (fun (x : Int32 × Int64) => [(5, .int x.1), (3, .long x.2), (2, .int v1), (0, .int a0)]) (fun (x : Int32 × Int64) => s) ?_ NN (1, 1)
      intro r2 hr2 x3
      show E _ _ _ _ _ _ _ _ _ _ _ _ (L_X8_waysToDraw_24 a0 v1 r2 x3)
      unfold L_X8_waysToDraw_24
      refine E_iload 0 dX8_waysToDraw_24 rfl ?_
      refine E_iload_n 2 dX8_waysToDraw_26 rfl rfl ?_
      refine E_icmpgt 50 dX8_waysToDraw_27 (by decide) ?_ ?_
      · refine E_lload_n 1 dX8_waysToDraw_50 rfl rfl ?_
        exact E_lreturn dX8_waysToDraw_51 rfl rfl
      · refine E_lload_n 1 dX8_waysToDraw_30 rfl rfl ?_
        refine E_iload_n 3 dX8_waysToDraw_31 rfl rfl ?_
        refine E_iload_n 2 dX8_waysToDraw_32 rfl rfl ?_
        refine E_isub dX8_waysToDraw_33 ?_
        refine E_iload 0 dX8_waysToDraw_34 rfl ?_
        refine E_iadd dX8_waysToDraw_36 ?_
        refine E_i2l dX8_waysToDraw_37 ?_
        refine E_lmul dX8_waysToDraw_38 ?_
        refine E_iload 0 dX8_waysToDraw_39 rfl ?_
        refine E_i2l dX8_waysToDraw_41 ?_
        refine E_ldiv dX8_waysToDraw_42 ?_
        refine E_lstore_n [(3, .long ((x3.2 * (((a0 - v1) + x3.1).toInt64)) / x3.1.toInt64)), (5, .int x3.1), (2, .int v1), (0, .int a0)] dX8_waysToDraw_43 rfl (by decide) rfl ?_
        refine E_bl (fun v4 => [(3, .long v4), (5, .int x3.1), (2, .int v1), (0, .int a0)]) (fun v4 => ?_) ((x3.2 * (((a0 - v1) + x3.1).toInt64)) / x3.1.toInt64)
        refine E_iinc 1 [(5, .int (x3.1 + 1)), (3, .long v4), (2, .int v1), (0, .int a0)] dX8_waysToDraw_44 rfl rfl (by decide) rfl ?_
        refine E_goto 24 dX8_waysToDraw_47 (by decide) ?_
        exact hr2 (x3.1 + 1, v4)
    · refine E_lconst (v := 0) dX8_waysToDraw_9 rfl ?_
      exact E_lreturn dX8_waysToDraw_10 rfl rfl
theorem c_X8_waysToDraw (Γ : GT) (a0 : Int32) (a1 : Int32) (s : St)  (x : Int64) (h : f_X8_waysToDraw a0 a1 s = some x) (l : Launch) : MC l yX8_waysToDraw cX8_waysToDraw 6 (some .long) 2 WC Γ [.int a0, .int a1] s ((emL s) x) := MC_of (by decide +kernel) (Nat.le_of_ble_eq_true rfl) (e_X8_waysToDraw Γ a0 a1 s ) h l
set_option maxRecDepth 100000 in
set_option maxHeartbeats 4000000 in
theorem e_X8_reckonGains (Γ : GT) (a1 : Int32) (s : St)  : E RX8 cX8_reckonGains 10 none 3 WC Γ emV 0 [(0, .ref (Γ.2.1 5)), (1, .int a1), (2, .ref (Γ.2.1 10))] [] s (f_X8_reckonGains a1 s) := by
  unfold f_X8_reckonGains
  refine E_aload_n 0 dX8_reckonGains_0 rfl rfl ?_
  refine E_sipush (v := 1023) dX8_reckonGains_1 (by decide) ?_
  refine E_iconst (v := 0) dX8_reckonGains_4 (by decide) ?_
  refine E_callVI (T := TX8) (ci := 8) [.int 1023, .int 0] [] dX8_reckonGains_5 rfl kw_696 kw_651 kw_652 kw_7 ko_X8_countOf rfl hy_X8_countOf rfl (by decide) (Nat.le_of_ble_eq_true rfl) rfl (by decide) rfl (c_X8_countOf Γ 1023 0 s) (fun v1 => ?_)
  refine E_istore_n [(3, .int v1), (0, .ref (Γ.2.1 5)), (1, .int a1), (2, .ref (Γ.2.1 10))] dX8_reckonGains_8 rfl (by decide) rfl ?_
  refine E_aload_n 1 dX8_reckonGains_9 rfl rfl ?_
  refine E_sipush (v := 1023) dX8_reckonGains_10 (by decide) ?_
  refine E_iconst (v := 1) dX8_reckonGains_13 (by decide) ?_
  refine E_callVI (T := TX8) (ci := 8) [.int 1023, .int 1] [] dX8_reckonGains_14 rfl kw_696 kw_651 kw_652 kw_7 ko_X8_countOf rfl hy_X8_countOf rfl (by decide) (Nat.le_of_ble_eq_true rfl) rfl (by decide) rfl (c_X8_countOf Γ 1023 1 s) (fun v2 => ?_)
  refine E_istore [(4, .int v2), (3, .int v1), (0, .ref (Γ.2.1 5)), (1, .int a1), (2, .ref (Γ.2.1 10))] dX8_reckonGains_17 (by decide) rfl ?_
  refine E_aload_n 2 dX8_reckonGains_19 rfl rfl ?_
  refine E_iload_n 3 dX8_reckonGains_20 rfl rfl ?_
  refine E_iconst (v := 0) dX8_reckonGains_21 (by decide) ?_
  refine E_callVI (T := TX8) (ci := 8) [.int a1, .int 0] [] dX8_reckonGains_22 rfl kw_696 kw_651 kw_652 kw_7 ko_X8_countOf rfl hy_X8_countOf rfl (by decide) (Nat.le_of_ble_eq_true rfl) rfl (by decide) rfl (c_X8_countOf Γ a1 0 s) (fun v3 => ?_)
  refine E_istore [(5, .int v3), (4, .int v2), (3, .int v1), (0, .ref (Γ.2.1 5)), (1, .int a1), (2, .ref (Γ.2.1 10))] dX8_reckonGains_25 (by decide) rfl ?_
  refine E_iload 1 dX8_reckonGains_27 rfl ?_
  refine E_iload 0 dX8_reckonGains_29 rfl ?_
  refine E_callSI [.int v2, .int v3] [] dX8_reckonGains_31 rfl kw_697 kw_373 kw_14 ko_J9_min_7cf53 hy_J9_min_7cf53 rfl (by decide) (Nat.le_of_ble_eq_true rfl) (c_J9_min_7cf53 Γ v2 v3 s) (fun v4 => ?_)
  refine E_istore [(6, .int v4), (5, .int v3), (4, .int v2), (3, .int v1), (0, .ref (Γ.2.1 5)), (1, .int a1), (2, .ref (Γ.2.1 10))] dX8_reckonGains_34 (by decide) rfl ?_
  refine E_lconst (v := 0) dX8_reckonGains_36 rfl ?_
  refine E_lstore [(7, .long 0), (6, .int v4), (5, .int v3), (4, .int v2), (3, .int v1), (0, .ref (Γ.2.1 5)), (1, .int a1), (2, .ref (Γ.2.1 10))] dX8_reckonGains_37 (by decide) rfl ?_
  refine E_aload_n 5 dX8_reckonGains_39 rfl rfl ?_
  refine E_iload_n 6 dX8_reckonGains_40 rfl rfl ?_
  refine E_iconst (v := 1) dX8_reckonGains_41 (by decide) ?_
  refine E_callVI (T := TX8) (ci := 8) [.int a1, .int 1] [] dX8_reckonGains_42 rfl kw_696 kw_651 kw_652 kw_7 ko_X8_countOf rfl hy_X8_countOf rfl (by decide) (Nat.le_of_ble_eq_true rfl) rfl (by decide) rfl (c_X8_countOf Γ a1 1 s) (fun v5 => ?_)
  refine E_istore [(9, .int v5), (7, .long 0), (6, .int v4), (5, .int v3), (4, .int v2), (3, .int v1), (0, .ref (Γ.2.1 5)), (1, .int a1), (2, .ref (Γ.2.1 10))] dX8_reckonGains_45 (by decide) rfl ?_
  refine E_jn 85 (fun (y : Int64) => [(7, .long y), (5, .int v3), (3, .int v1), (2, .ref (Γ.2.1 10))]) (fun (y : Int64) => []) (fun (y : Int64) => s) ?_ ?_
  · intro y7
    refine E_aload_n 3 dX8_reckonGains_85 rfl rfl ?_
    refine E_lload 0 dX8_reckonGains_86 rfl ?_
    refine E_iload_n 2 dX8_reckonGains_88 rfl rfl ?_
    refine E_iload 1 dX8_reckonGains_89 rfl ?_
    refine E_callSL [.int v1, .int v3] [.long y7, .ref (Γ.2.1 10)] dX8_reckonGains_91 rfl kw_698 kw_699 kw_7 ko_X8_waysToDraw hy_X8_waysToDraw rfl (by decide) (Nat.le_of_ble_eq_true rfl) (c_X8_waysToDraw Γ v1 v3 s) (fun v8 => ?_)
    refine E_callVV (T := TX1) (ci := 1) [.long y7, .long v8] [] dX8_reckonGains_94 rfl kw_701 kw_558 kw_559 kw_5 ko_X1_become rfl hy_X1_become rfl (by decide) (Nat.le_of_ble_eq_true rfl) rfl (by decide) rfl (c_X1_become Γ y7 v8 s) (fun s9 => ?_)
    exact E_return dX8_reckonGains_97 rfl rfl
  · intro K6 hK6
    refine E_lvsub [0, 1, 2, 3, 4, 5, 8] [(9, .int v5), (7, .long 0), (6, .int v4), (5, .int v3), (4, .int v2), (3, .int v1), (2, .ref (Γ.2.1 10))] rfl ?_
    refine E_lp (F := L_X8_reckonGains_47 s v1 v2 v3 v4 K6) (fun (x : Int32 × Int64) => [(9, .int x.1), (7, .long x.2), (6, .int v4), (5, .int v3), (4, .int v2), (3, .int v1), (2, .ref (Γ.2.1 10))]) (fun (x : Int32 × Int64) => s) ?_ NN (v5, 0)
    intro r10 hr10 x11
    show E _ _ _ _ _ _ _ _ _ _ _ _ (L_X8_reckonGains_47 s v1 v2 v3 v4 K6 r10 x11)
    unfold L_X8_reckonGains_47
    refine E_iload 0 dX8_reckonGains_47 rfl ?_
    refine E_iload 2 dX8_reckonGains_49 rfl ?_
    refine E_icmpgt 85 dX8_reckonGains_51 (by decide) ?_ ?_
    · refine E_lvsub [1, 3, 5, 6] [(7, .long x11.2), (5, .int v3), (3, .int v1), (2, .ref (Γ.2.1 10))] rfl ?_
      exact hK6 x11.2
    · refine E_lload 1 dX8_reckonGains_54 rfl ?_
      refine E_iload 4 dX8_reckonGains_56 rfl ?_
      refine E_iload 0 dX8_reckonGains_58 rfl ?_
      refine E_callSL [.int v2, .int x11.1] [.long x11.2] dX8_reckonGains_60 rfl kw_698 kw_699 kw_7 ko_X8_waysToDraw hy_X8_waysToDraw rfl (by decide) (Nat.le_of_ble_eq_true rfl) (c_X8_waysToDraw Γ v2 x11.1 s) (fun v12 => ?_)
      refine E_iload_n 5 dX8_reckonGains_63 rfl rfl ?_
      refine E_iload 4 dX8_reckonGains_64 rfl ?_
      refine E_isub dX8_reckonGains_66 ?_
      refine E_iload 3 dX8_reckonGains_67 rfl ?_
      refine E_iload 0 dX8_reckonGains_69 rfl ?_
      refine E_isub dX8_reckonGains_71 ?_
      refine E_callSL [.int (v1 - v2), .int (v3 - x11.1)] [.long v12, .long x11.2] dX8_reckonGains_72 rfl kw_698 kw_699 kw_7 ko_X8_waysToDraw hy_X8_waysToDraw rfl (by decide) (Nat.le_of_ble_eq_true rfl) (c_X8_waysToDraw Γ (v1 - v2) (v3 - x11.1) s) (fun v13 => ?_)
      refine E_lmul dX8_reckonGains_75 ?_
      refine E_ladd dX8_reckonGains_76 ?_
      refine E_lstore [(7, .long (x11.2 + (v12 * v13))), (9, .int x11.1), (6, .int v4), (5, .int v3), (4, .int v2), (3, .int v1), (2, .ref (Γ.2.1 10))] dX8_reckonGains_77 (by decide) rfl ?_
      refine E_bl (fun v14 => [(7, .long v14), (9, .int x11.1), (6, .int v4), (5, .int v3), (4, .int v2), (3, .int v1), (2, .ref (Γ.2.1 10))]) (fun v14 => ?_) (x11.2 + (v12 * v13))
      refine E_iinc 1 [(9, .int (x11.1 + 1)), (7, .long v14), (6, .int v4), (5, .int v3), (4, .int v2), (3, .int v1), (2, .ref (Γ.2.1 10))] dX8_reckonGains_79 rfl rfl (by decide) rfl ?_
      refine E_goto 47 dX8_reckonGains_82 (by decide) ?_
      exact hr10 (x11.1 + 1, v14)
theorem c_X8_reckonGains (Γ : GT) (a1 : Int32) (s : St)  (x : St) (h : f_X8_reckonGains a1 s = some x) (l : Launch) : MC l yX8_reckonGains cX8_reckonGains 10 none 3 WC Γ [.ref (Γ.2.1 5), .int a1, .ref (Γ.2.1 10)] s (emV x) := MC_of (by decide +kernel) (Nat.le_of_ble_eq_true rfl) (e_X8_reckonGains Γ a1 s ) h l
set_option maxRecDepth 100000 in
set_option maxHeartbeats 4000000 in
theorem e_X9_renew (Γ : GT) (a0 : Nat) (a1 : Int32) (a2 : Int32) (s : St) (h0 : WC.2.1 a0 = .inl 9) : E RX9 cX9_renew 3 none 2 WC Γ emV 0 [(0, .ref (Γ.2.1 a0)), (1, .int a1), (2, .int a2)] [] s (f_X9_renew a0 a1 a2 s) := by
  unfold f_X9_renew
  refine E_aload_n 0 dX9_renew_0 rfl rfl ?_
  refine E_iconst (v := 0) dX9_renew_1 (by decide) ?_
  refine E_putZ (j := 0) (ci := 9) (T := TX9) (C0 := RX9) (ref := "SameWrong$Sheet") dX9_renew_2 h0 (lt_sheet a0 h0) rfl inX9 (by decide) kw_299 rfl tyX9_ok nmX9 rfl rfl rfl rfl ?_
  refine E_bd (fun s1 => ?_)
  refine E_aload_n 0 dX9_renew_5 rfl rfl ?_
  refine E_iload_n 1 dX9_renew_6 rfl rfl ?_
  refine E_putI (j := 1) (ci := 9) (T := TX9) (C0 := RX9) (ref := "SameWrong$Sheet") dX9_renew_7 h0 (lt_sheet a0 h0) rfl inX9 (by decide) kw_301 rfl tyX9_ok nmX9 rfl rfl ?_
  refine E_bd (fun s2 => ?_)
  refine E_aload_n 0 dX9_renew_10 rfl rfl ?_
  refine E_iload_n 2 dX9_renew_11 rfl rfl ?_
  refine E_bipush (v := 48) dX9_renew_12 (by decide) ?_
  refine E_callSI [.int a2, .int 48] [.ref (Γ.2.1 a0)] dX9_renew_14 rfl kw_783 kw_373 kw_14 ko_J9_min_7cf53 hy_J9_min_7cf53 rfl (by decide) (Nat.le_of_ble_eq_true rfl) (c_J9_min_7cf53 Γ a2 48 s2) (fun v3 => ?_)
  refine E_putI (j := 2) (ci := 9) (T := TX9) (C0 := RX9) (ref := "SameWrong$Sheet") dX9_renew_17 h0 (lt_sheet a0 h0) rfl inX9 (by decide) kw_303 rfl tyX9_ok nmX9 rfl rfl ?_
  refine E_bd (fun s4 => ?_)
  refine E_aload_n 0 dX9_renew_20 rfl rfl ?_
  refine E_getR (WC.2.2 a0 3) (j := 3) (ci := 9) (T := TX9) (C0 := RX9) (ref := "SameWrong$Sheet") dX9_renew_21 h0 (lt_sheet a0 h0) rfl inX9 (by decide) kw_305 rfl rfl rfl ?_
  refine E_iconst (v := 0) dX9_renew_24 (by decide) ?_
  refine E_callSV [.ref (Γ.2.1 (WC.2.2 a0 3)), .int 0] [] dX9_renew_25 rfl kw_784 kw_413 kw_15 ko_J7_fill_53178 hy_J7_fill_53178 rfl (by decide) (Nat.le_of_ble_eq_true rfl) (c_J7_fill_53178 Γ (WC.2.2 a0 3) 48 0 s4 (sh_srow _ h0).1 (sh_srow _ h0).2) (fun s5 => ?_)
  exact E_return dX9_renew_28 rfl rfl
theorem c_X9_renew (Γ : GT) (a0 : Nat) (a1 : Int32) (a2 : Int32) (s : St) (h0 : WC.2.1 a0 = .inl 9) (x : St) (h : f_X9_renew a0 a1 a2 s = some x) (l : Launch) : MC l yX9_renew cX9_renew 3 none 2 WC Γ [.ref (Γ.2.1 a0), .int a1, .int a2] s (emV x) := MC_of (by decide +kernel) (Nat.le_of_ble_eq_true rfl) (e_X9_renew Γ a0 a1 a2 s h0) h l
set_option maxRecDepth 100000 in
set_option maxHeartbeats 4000000 in
theorem e_X9_findingAt (Γ : GT) (a0 : Nat) (a1 : Int32) (a2 : Int32) (s : St) (h0 : WC.2.1 a0 = .inl 9) : E RX9 cX9_findingAt 3 (some .int) 2 WC Γ (emI s) 0 [(0, .ref (Γ.2.1 a0)), (1, .int a1), (2, .int a2)] [] s (f_X9_findingAt a0 a1 a2 s) := by
  unfold f_X9_findingAt
  refine E_aload_n 0 dX9_findingAt_0 rfl rfl ?_
  refine E_getZ (j := 0) (ci := 9) (T := TX9) (C0 := RX9) (ref := "SameWrong$Sheet") dX9_findingAt_1 h0 (lt_sheet a0 h0) rfl inX9 (by decide) kw_299 rfl rfl ?_
  refine E_ifeq 9 dX9_findingAt_4 (by decide) ?_ ?_
  · refine E_aload_n 0 dX9_findingAt_9 rfl rfl ?_
    refine E_getI (j := 1) (ci := 9) (T := TX9) (C0 := RX9) (ref := "SameWrong$Sheet") dX9_findingAt_10 h0 (lt_sheet a0 h0) rfl inX9 (by decide) kw_301 rfl rfl ?_
    refine E_iload_n 1 dX9_findingAt_13 rfl rfl ?_
    refine E_icmpeq 19 dX9_findingAt_14 (by decide) ?_ ?_
    · refine E_iload_n 2 dX9_findingAt_19 rfl rfl ?_
      refine E_iconst (v := 0) dX9_findingAt_20 (by decide) ?_
      refine E_aload_n 0 dX9_findingAt_21 rfl rfl ?_
      refine E_getI (j := 2) (ci := 9) (T := TX9) (C0 := RX9) (ref := "SameWrong$Sheet") dX9_findingAt_22 h0 (lt_sheet a0 h0) rfl inX9 (by decide) kw_303 rfl rfl ?_
      refine E_iconst (v := 1) dX9_findingAt_25 (by decide) ?_
      refine E_isub dX9_findingAt_26 ?_
      refine E_callNZ (host := RX11) [.int a2, .int 0, .int ((s.1 a0 2) - 1)] [] dX9_findingAt_27 rfl (fun _ h => h.2) kw_358 kw_1 ko_X11_within hy_X11_within rfl (by decide) (Nat.le_of_ble_eq_true rfl) (c_X11_within Γ a2 0 ((s.1 a0 2) - 1) s) (fun v1 => ?_)
      refine E_ifeqb 37 dX9_findingAt_30 (by decide) ?_ ?_
      · refine E_iconst (v := 2) dX9_findingAt_37 (by decide) ?_
        exact E_ireturn dX9_findingAt_38 rfl rfl
      · refine E_iconst (v := 0) dX9_findingAt_33 (by decide) ?_
        refine E_goto 38 dX9_findingAt_34 (by decide) ?_
        exact E_ireturn dX9_findingAt_38 rfl rfl
    · refine E_iconst (v := 3) dX9_findingAt_17 (by decide) ?_
      exact E_ireturn dX9_findingAt_18 rfl rfl
  · refine E_iconst (v := 1) dX9_findingAt_7 (by decide) ?_
    exact E_ireturn dX9_findingAt_8 rfl rfl
theorem c_X9_findingAt (Γ : GT) (a0 : Nat) (a1 : Int32) (a2 : Int32) (s : St) (h0 : WC.2.1 a0 = .inl 9) (x : Int32) (h : f_X9_findingAt a0 a1 a2 s = some x) (l : Launch) : MC l yX9_findingAt cX9_findingAt 3 (some .int) 2 WC Γ [.ref (Γ.2.1 a0), .int a1, .int a2] s ((emI s) x) := MC_of (by decide +kernel) (Nat.le_of_ble_eq_true rfl) (e_X9_findingAt Γ a0 a1 a2 s h0) h l
set_option maxRecDepth 100000 in
set_option maxHeartbeats 4000000 in
theorem e_X9_holds (Γ : GT) (a0 : Nat) (a1 : Int32) (a2 : Int32) (s : St) (h0 : WC.2.1 a0 = .inl 9) : E RX9 cX9_holds 3 (some .boolean) 2 WC Γ (emZ s) 0 [(0, .ref (Γ.2.1 a0)), (1, .int a1), (2, .int a2)] [] s (f_X9_holds a0 a1 a2 s) := by
  unfold f_X9_holds
  refine E_iload_n 1 dX9_holds_0 rfl rfl ?_
  refine E_iconst (v := 0) dX9_holds_1 (by decide) ?_
  refine E_aload_n 0 dX9_holds_2 rfl rfl ?_
  refine E_getI (j := 2) (ci := 9) (T := TX9) (C0 := RX9) (ref := "SameWrong$Sheet") dX9_holds_3 h0 (lt_sheet a0 h0) rfl inX9 (by decide) kw_303 rfl rfl ?_
  refine E_callNZ (host := RX11) [.int a1, .int 0, .int (s.1 a0 2)] [] dX9_holds_6 rfl (fun _ h => h.2) kw_358 kw_1 ko_X11_within hy_X11_within rfl (by decide) (Nat.le_of_ble_eq_true rfl) (c_X11_within Γ a1 0 (s.1 a0 2) s) (fun v1 => ?_)
  refine E_ifeqb 30 dX9_holds_9 (by decide) ?_ ?_
  · refine E_iconst (v := 0) dX9_holds_30 (by decide) ?_
    exact E_zreturn (b := false) dX9_holds_31 rfl rfl
  · refine E_iload_n 2 dX9_holds_12 rfl rfl ?_
    refine E_iconst (v := 0) dX9_holds_13 (by decide) ?_
    refine E_aload_n 0 dX9_holds_14 rfl rfl ?_
    refine E_getI (j := 2) (ci := 9) (T := TX9) (C0 := RX9) (ref := "SameWrong$Sheet") dX9_holds_15 h0 (lt_sheet a0 h0) rfl inX9 (by decide) kw_303 rfl rfl ?_
    refine E_iload_n 1 dX9_holds_18 rfl rfl ?_
    refine E_isub dX9_holds_19 ?_
    refine E_callNZ (host := RX11) [.int a2, .int 0, .int ((s.1 a0 2) - a1)] [] dX9_holds_20 rfl (fun _ h => h.2) kw_358 kw_1 ko_X11_within hy_X11_within rfl (by decide) (Nat.le_of_ble_eq_true rfl) (c_X11_within Γ a2 0 ((s.1 a0 2) - a1) s) (fun v2 => ?_)
    refine E_ifeqb 30 dX9_holds_23 (by decide) ?_ ?_
    · refine E_iconst (v := 0) dX9_holds_30 (by decide) ?_
      exact E_zreturn (b := false) dX9_holds_31 rfl rfl
    · refine E_iconst (v := 1) dX9_holds_26 (by decide) ?_
      refine E_goto 31 dX9_holds_27 (by decide) ?_
      exact E_zreturn (b := true) dX9_holds_31 rfl rfl
theorem c_X9_holds (Γ : GT) (a0 : Nat) (a1 : Int32) (a2 : Int32) (s : St) (h0 : WC.2.1 a0 = .inl 9) (x : Bool) (h : f_X9_holds a0 a1 a2 s = some x) (l : Launch) : MC l yX9_holds cX9_holds 3 (some .boolean) 2 WC Γ [.ref (Γ.2.1 a0), .int a1, .int a2] s ((emZ s) x) := MC_of (by decide +kernel) (Nat.le_of_ble_eq_true rfl) (e_X9_holds Γ a0 a1 a2 s h0) h l
set_option maxRecDepth 100000 in
set_option maxHeartbeats 4000000 in
theorem e_X9_store (Γ : GT) (a0 : Nat) (a1 : Int32) (a2 : Int32) (s : St) (h0 : WC.2.1 a0 = .inl 9) : E RX9 cX9_store 3 none 1 WC Γ emV 0 [(0, .ref (Γ.2.1 a0)), (1, .int a1), (2, .int a2)] [] s (f_X9_store a0 a1 a2 s) := by
  unfold f_X9_store
  refine E_aload_n 0 dX9_store_0 rfl rfl ?_
  refine E_getI (j := 1) (ci := 9) (T := TX9) (C0 := RX9) (ref := "SameWrong$Sheet") dX9_store_1 h0 (lt_sheet a0 h0) rfl inX9 (by decide) kw_301 rfl rfl ?_
  refine E_ifne 18 dX9_store_4 (by decide) ?_ ?_
  · refine E_aload_n 0 dX9_store_18 rfl rfl ?_
    refine E_getR (WC.2.2 a0 3) (j := 3) (ci := 9) (T := TX9) (C0 := RX9) (ref := "SameWrong$Sheet") dX9_store_19 h0 (lt_sheet a0 h0) rfl inX9 (by decide) kw_305 rfl rfl rfl ?_
    refine E_iload_n 1 dX9_store_22 rfl rfl ?_
    refine E_aload_n 0 dX9_store_23 rfl rfl ?_
    refine E_getI (j := 1) (ci := 9) (T := TX9) (C0 := RX9) (ref := "SameWrong$Sheet") dX9_store_24 h0 (lt_sheet a0 h0) rfl inX9 (by decide) kw_301 rfl rfl ?_
    refine E_iconst (v := 1) dX9_store_27 (by decide) ?_
    refine E_jn 37 (fun (y : Int32) => []) (fun (y : Int32) => [.int y, .int a1, .ref (Γ.2.1 (WC.2.2 a0 3))]) (fun (y : Int32) => s) ?_ ?_
    · intro y2
      refine E_iastore dX9_store_37 (sh_srow _ h0).1 (sh_srow _ h0).2 ?_
      refine E_bd (fun s3 => ?_)
      exact E_return dX9_store_38 rfl rfl
    · intro K1 hK1
      refine E_icmpne 36 dX9_store_28 (by decide) ?_ ?_
      · refine E_iload_n 2 dX9_store_36 rfl rfl ?_
        refine E_lvsub [] [] rfl ?_
        exact hK1 a2
      · refine E_iload_n 2 dX9_store_31 rfl rfl ?_
        refine E_i2s dX9_store_32 ?_
        refine E_goto 37 dX9_store_33 (by decide) ?_
        refine E_lvsub [] [] rfl ?_
        exact hK1 a2.toInt16.toInt32
  · refine E_aload_n 0 dX9_store_7 rfl rfl ?_
    refine E_getR (WC.2.2 a0 3) (j := 3) (ci := 9) (T := TX9) (C0 := RX9) (ref := "SameWrong$Sheet") dX9_store_8 h0 (lt_sheet a0 h0) rfl inX9 (by decide) kw_305 rfl rfl rfl ?_
    refine E_iload_n 1 dX9_store_11 rfl rfl ?_
    refine E_iload_n 2 dX9_store_12 rfl rfl ?_
    refine E_i2b dX9_store_13 ?_
    refine E_iastore dX9_store_14 (sh_srow _ h0).1 (sh_srow _ h0).2 ?_
    refine E_bd (fun s4 => ?_)
    refine E_goto 38 dX9_store_15 (by decide) ?_
    exact E_return dX9_store_38 rfl rfl
theorem c_X9_store (Γ : GT) (a0 : Nat) (a1 : Int32) (a2 : Int32) (s : St) (h0 : WC.2.1 a0 = .inl 9) (x : St) (h : f_X9_store a0 a1 a2 s = some x) (l : Launch) : MC l yX9_store cX9_store 3 none 1 WC Γ [.ref (Γ.2.1 a0), .int a1, .int a2] s (emV x) := MC_of (by decide +kernel) (Nat.le_of_ble_eq_true rfl) (e_X9_store Γ a0 a1 a2 s h0) h l
set_option maxRecDepth 100000 in
set_option maxHeartbeats 4000000 in
theorem e_X10_latestTime (Γ : GT)  (s : St)  : E RX10 cX10_latestTime 1 (some .int) 1 WC Γ (emI s) 0 [(0, .ref (Γ.2.1 3))] [] s (f_X10_latestTime  s) := by
  unfold f_X10_latestTime
  refine E_aload_n 0 dX10_latestTime_0 rfl rfl ?_
  refine E_getI (j := 0) (ci := 10) (T := TX10) (C0 := RX10) (ref := "SameWrong$Tellings") dX10_latestTime_1 rfl (by decide) rfl inX10 (by decide) kw_94 rfl rfl ?_
  refine E_ifne 11 dX10_latestTime_4 (by decide) ?_ ?_
  · refine E_aload_n 0 dX10_latestTime_11 rfl rfl ?_
    refine E_getR 19 (j := 8) (ci := 10) (T := TX10) (C0 := RX10) (ref := "SameWrong$Tellings") dX10_latestTime_12 rfl (by decide) rfl inX10 (by decide) kw_113 rfl rfl rfl ?_
    refine E_aload_n 0 dX10_latestTime_15 rfl rfl ?_
    refine E_getI (j := 0) (ci := 10) (T := TX10) (C0 := RX10) (ref := "SameWrong$Tellings") dX10_latestTime_16 rfl (by decide) rfl inX10 (by decide) kw_94 rfl rfl ?_
    refine E_iconst (v := 1) dX10_latestTime_19 (by decide) ?_
    refine E_isub dX10_latestTime_20 ?_
    refine E_iaload dX10_latestTime_21 rfl (by decide) ?_
    exact E_ireturn dX10_latestTime_22 rfl rfl
  · refine E_iconst (v := 0) dX10_latestTime_7 (by decide) ?_
    refine E_goto 22 dX10_latestTime_8 (by decide) ?_
    exact E_ireturn dX10_latestTime_22 rfl rfl
theorem c_X10_latestTime (Γ : GT)  (s : St)  (x : Int32) (h : f_X10_latestTime  s = some x) (l : Launch) : MC l yX10_latestTime cX10_latestTime 1 (some .int) 1 WC Γ [.ref (Γ.2.1 3)] s ((emI s) x) := MC_of (by decide +kernel) (Nat.le_of_ble_eq_true rfl) (e_X10_latestTime Γ  s ) h l
set_option maxRecDepth 100000 in
set_option maxHeartbeats 4000000 in
theorem e_X10_countOn (Γ : GT)  (s : St)  : E RX10 cX10_countOn 1 none 1 WC Γ emV 0 [(0, .ref (Γ.2.1 3))] [] s (f_X10_countOn  s) := by
  unfold f_X10_countOn
  refine E_lp (F := L_X10_countOn_0) (fun (x : St) => [(0, .ref (Γ.2.1 3))]) (fun (x : St) => x) ?_ NN s
  intro r1 hr1 x2
  show E _ _ _ _ _ _ _ _ _ _ _ _ (L_X10_countOn_0 r1 x2)
  unfold L_X10_countOn_0
  refine E_aload_n 0 dX10_countOn_0 rfl rfl ?_
  refine E_getI (j := 1) (ci := 10) (T := TX10) (C0 := RX10) (ref := "SameWrong$Tellings") dX10_countOn_1 rfl (by decide) rfl inX10 (by decide) kw_96 rfl rfl ?_
  refine E_aload_n 0 dX10_countOn_4 rfl rfl ?_
  refine E_getI (j := 0) (ci := 10) (T := TX10) (C0 := RX10) (ref := "SameWrong$Tellings") dX10_countOn_5 rfl (by decide) rfl inX10 (by decide) kw_94 rfl rfl ?_
  refine E_icmpge 73 dX10_countOn_8 (by decide) ?_ ?_
  · exact E_return dX10_countOn_73 rfl rfl
  · refine E_aload_n 0 dX10_countOn_11 rfl rfl ?_
    refine E_getR 19 (j := 8) (ci := 10) (T := TX10) (C0 := RX10) (ref := "SameWrong$Tellings") dX10_countOn_12 rfl (by decide) rfl inX10 (by decide) kw_113 rfl rfl rfl ?_
    refine E_aload_n 0 dX10_countOn_15 rfl rfl ?_
    refine E_getI (j := 1) (ci := 10) (T := TX10) (C0 := RX10) (ref := "SameWrong$Tellings") dX10_countOn_16 rfl (by decide) rfl inX10 (by decide) kw_96 rfl rfl ?_
    refine E_iaload dX10_countOn_19 rfl (by decide) ?_
    refine E_aload_n 0 dX10_countOn_20 rfl rfl ?_
    refine E_getI (j := 2) (ci := 10) (T := TX10) (C0 := RX10) (ref := "SameWrong$Tellings") dX10_countOn_21 rfl (by decide) rfl inX10 (by decide) kw_98 rfl rfl ?_
    refine E_icmpgt 73 dX10_countOn_24 (by decide) ?_ ?_
    · exact E_return dX10_countOn_73 rfl rfl
    · refine E_aload_n 0 dX10_countOn_27 rfl rfl ?_
      refine E_getR 32 (j := 3) (ci := 10) (T := TX10) (C0 := RX10) (ref := "SameWrong$Tellings") dX10_countOn_28 rfl (by decide) rfl inX10 (by decide) kw_100 rfl rfl rfl ?_
      refine E_aload_n 0 dX10_countOn_31 rfl rfl ?_
      refine E_getR 15 (j := 4) (ci := 10) (T := TX10) (C0 := RX10) (ref := "SameWrong$Tellings") dX10_countOn_32 rfl (by decide) rfl inX10 (by decide) kw_105 rfl rfl rfl ?_
      refine E_aload_n 0 dX10_countOn_35 rfl rfl ?_
      refine E_getI (j := 1) (ci := 10) (T := TX10) (C0 := RX10) (ref := "SameWrong$Tellings") dX10_countOn_36 rfl (by decide) rfl inX10 (by decide) kw_96 rfl rfl ?_
      refine E_iaload dX10_countOn_39 rfl (by decide) ?_
      refine E_aaload (t := 1) dX10_countOn_40 (by decide) rfl (by decide) ?_
      refine E_aload_n 0 dX10_countOn_41 rfl rfl ?_
      refine E_getR 16 (j := 5) (ci := 10) (T := TX10) (C0 := RX10) (ref := "SameWrong$Tellings") dX10_countOn_42 rfl (by decide) rfl inX10 (by decide) kw_107 rfl rfl rfl ?_
      refine E_aload_n 0 dX10_countOn_45 rfl rfl ?_
      refine E_getI (j := 1) (ci := 10) (T := TX10) (C0 := RX10) (ref := "SameWrong$Tellings") dX10_countOn_46 rfl (by decide) rfl inX10 (by decide) kw_96 rfl rfl ?_
      refine E_iaload dX10_countOn_49 rfl (by decide) ?_
      refine E_aload_n 0 dX10_countOn_50 rfl rfl ?_
      refine E_getR 17 (j := 6) (ci := 10) (T := TX10) (C0 := RX10) (ref := "SameWrong$Tellings") dX10_countOn_51 rfl (by decide) rfl inX10 (by decide) kw_109 rfl rfl rfl ?_
      refine E_aload_n 0 dX10_countOn_54 rfl rfl ?_
      refine E_getI (j := 1) (ci := 10) (T := TX10) (C0 := RX10) (ref := "SameWrong$Tellings") dX10_countOn_55 rfl (by decide) rfl inX10 (by decide) kw_96 rfl rfl ?_
      refine E_iaload dX10_countOn_58 rfl (by decide) ?_
      refine E_iastore dX10_countOn_59 (sh_cur _) (lt_cur _) ?_
      refine E_bd (fun s3 => ?_)
      refine E_aload_n 0 dX10_countOn_60 rfl rfl ?_
      refine E_dup dX10_countOn_61 rfl ?_
      refine E_getI (j := 1) (ci := 10) (T := TX10) (C0 := RX10) (ref := "SameWrong$Tellings") dX10_countOn_62 rfl (by decide) rfl inX10 (by decide) kw_96 rfl rfl ?_
      refine E_iconst (v := 1) dX10_countOn_65 (by decide) ?_
      refine E_iadd dX10_countOn_66 ?_
      refine E_putI (j := 1) (ci := 10) (T := TX10) (C0 := RX10) (ref := "SameWrong$Tellings") dX10_countOn_67 rfl (by decide) rfl inX10 (by decide) kw_96 rfl tyX10_ok nmX10 rfl rfl ?_
      refine E_bd (fun s4 => ?_)
      refine E_goto 0 dX10_countOn_70 (by decide) ?_
      exact hr1 s4
theorem c_X10_countOn (Γ : GT)  (s : St)  (x : St) (h : f_X10_countOn  s = some x) (l : Launch) : MC l yX10_countOn cX10_countOn 1 none 1 WC Γ [.ref (Γ.2.1 3)] s (emV x) := MC_of (by decide +kernel) (Nat.le_of_ble_eq_true rfl) (e_X10_countOn Γ  s ) h l
set_option maxRecDepth 100000 in
set_option maxHeartbeats 4000000 in
theorem e_X10_tell (Γ : GT) (a1 : Int32) (a2 : Int32) (a3 : Int32) (a4 : Int32) (s : St)  : E RX10 cX10_tell 5 none 2 WC Γ emV 0 [(0, .ref (Γ.2.1 3)), (1, .int a1), (2, .int a2), (3, .int a3), (4, .int a4)] [] s (f_X10_tell a1 a2 a3 a4 s) := by
  unfold f_X10_tell
  refine E_aload_n 0 dX10_tell_0 rfl rfl ?_
  refine E_getI (j := 0) (ci := 10) (T := TX10) (C0 := RX10) (ref := "SameWrong$Tellings") dX10_tell_1 rfl (by decide) rfl inX10 (by decide) kw_94 rfl rfl ?_
  refine E_sipush (v := 150) dX10_tell_4 (by decide) ?_
  refine E_icmplt 11 dX10_tell_7 (by decide) ?_ ?_
  · refine E_aload_n 0 dX10_tell_11 rfl rfl ?_
    refine E_getR 15 (j := 4) (ci := 10) (T := TX10) (C0 := RX10) (ref := "SameWrong$Tellings") dX10_tell_12 rfl (by decide) rfl inX10 (by decide) kw_105 rfl rfl rfl ?_
    refine E_aload_n 0 dX10_tell_15 rfl rfl ?_
    refine E_getI (j := 0) (ci := 10) (T := TX10) (C0 := RX10) (ref := "SameWrong$Tellings") dX10_tell_16 rfl (by decide) rfl inX10 (by decide) kw_94 rfl rfl ?_
    refine E_iload_n 1 dX10_tell_19 rfl rfl ?_
    refine E_iastore dX10_tell_20 rfl (by decide) ?_
    refine E_bd (fun s1 => ?_)
    refine E_aload_n 0 dX10_tell_21 rfl rfl ?_
    refine E_getR 16 (j := 5) (ci := 10) (T := TX10) (C0 := RX10) (ref := "SameWrong$Tellings") dX10_tell_22 rfl (by decide) rfl inX10 (by decide) kw_107 rfl rfl rfl ?_
    refine E_aload_n 0 dX10_tell_25 rfl rfl ?_
    refine E_getI (j := 0) (ci := 10) (T := TX10) (C0 := RX10) (ref := "SameWrong$Tellings") dX10_tell_26 rfl (by decide) rfl inX10 (by decide) kw_94 rfl rfl ?_
    refine E_iload_n 2 dX10_tell_29 rfl rfl ?_
    refine E_iastore dX10_tell_30 rfl (by decide) ?_
    refine E_bd (fun s2 => ?_)
    refine E_aload_n 0 dX10_tell_31 rfl rfl ?_
    refine E_getR 17 (j := 6) (ci := 10) (T := TX10) (C0 := RX10) (ref := "SameWrong$Tellings") dX10_tell_32 rfl (by decide) rfl inX10 (by decide) kw_109 rfl rfl rfl ?_
    refine E_aload_n 0 dX10_tell_35 rfl rfl ?_
    refine E_getI (j := 0) (ci := 10) (T := TX10) (C0 := RX10) (ref := "SameWrong$Tellings") dX10_tell_36 rfl (by decide) rfl inX10 (by decide) kw_94 rfl rfl ?_
    refine E_iload_n 3 dX10_tell_39 rfl rfl ?_
    refine E_iastore dX10_tell_40 rfl (by decide) ?_
    refine E_bd (fun s3 => ?_)
    refine E_aload_n 0 dX10_tell_41 rfl rfl ?_
    refine E_getR 18 (j := 7) (ci := 10) (T := TX10) (C0 := RX10) (ref := "SameWrong$Tellings") dX10_tell_42 rfl (by decide) rfl inX10 (by decide) kw_111 rfl rfl rfl ?_
    refine E_aload_n 0 dX10_tell_45 rfl rfl ?_
    refine E_getI (j := 0) (ci := 10) (T := TX10) (C0 := RX10) (ref := "SameWrong$Tellings") dX10_tell_46 rfl (by decide) rfl inX10 (by decide) kw_94 rfl rfl ?_
    refine E_aload_n 0 dX10_tell_49 rfl rfl ?_
    refine E_getR 33 (j := 9) (ci := 10) (T := TX10) (C0 := RX10) (ref := "SameWrong$Tellings") dX10_tell_50 rfl (by decide) rfl inX10 (by decide) kw_114 rfl rfl rfl ?_
    refine E_iload_n 1 dX10_tell_53 rfl rfl ?_
    refine E_aaload (t := 1) dX10_tell_54 (by decide) rfl (by decide) ?_
    refine E_iload_n 2 dX10_tell_55 rfl rfl ?_
    refine E_iaload dX10_tell_56 (sh_lat _) (lt_lat _) ?_
    refine E_iastore dX10_tell_57 rfl (by decide) ?_
    refine E_bd (fun s4 => ?_)
    refine E_aload_n 0 dX10_tell_58 rfl rfl ?_
    refine E_getR 19 (j := 8) (ci := 10) (T := TX10) (C0 := RX10) (ref := "SameWrong$Tellings") dX10_tell_59 rfl (by decide) rfl inX10 (by decide) kw_113 rfl rfl rfl ?_
    refine E_aload_n 0 dX10_tell_62 rfl rfl ?_
    refine E_getI (j := 0) (ci := 10) (T := TX10) (C0 := RX10) (ref := "SameWrong$Tellings") dX10_tell_63 rfl (by decide) rfl inX10 (by decide) kw_94 rfl rfl ?_
    refine E_iload 4 dX10_tell_66 rfl ?_
    refine E_iastore dX10_tell_68 rfl (by decide) ?_
    refine E_bd (fun s5 => ?_)
    refine E_aload_n 0 dX10_tell_69 rfl rfl ?_
    refine E_getR 33 (j := 9) (ci := 10) (T := TX10) (C0 := RX10) (ref := "SameWrong$Tellings") dX10_tell_70 rfl (by decide) rfl inX10 (by decide) kw_114 rfl rfl rfl ?_
    refine E_iload_n 1 dX10_tell_73 rfl rfl ?_
    refine E_aaload (t := 1) dX10_tell_74 (by decide) rfl (by decide) ?_
    refine E_iload_n 2 dX10_tell_75 rfl rfl ?_
    refine E_iload_n 3 dX10_tell_76 rfl rfl ?_
    refine E_iastore dX10_tell_77 (sh_lat _) (lt_lat _) ?_
    refine E_bd (fun s6 => ?_)
    refine E_aload_n 0 dX10_tell_78 rfl rfl ?_
    refine E_dup dX10_tell_79 rfl ?_
    refine E_getI (j := 0) (ci := 10) (T := TX10) (C0 := RX10) (ref := "SameWrong$Tellings") dX10_tell_80 rfl (by decide) rfl inX10 (by decide) kw_94 rfl rfl ?_
    refine E_iconst (v := 1) dX10_tell_83 (by decide) ?_
    refine E_iadd dX10_tell_84 ?_
    refine E_putI (j := 0) (ci := 10) (T := TX10) (C0 := RX10) (ref := "SameWrong$Tellings") dX10_tell_85 rfl (by decide) rfl inX10 (by decide) kw_94 rfl tyX10_ok nmX10 rfl rfl ?_
    refine E_bd (fun s7 => ?_)
    refine E_aload_n 0 dX10_tell_88 rfl rfl ?_
    refine E_callVV (T := TX10) (ci := 10) [] [] dX10_tell_89 rfl kw_415 kw_417 kp_3 kw_4 ko_X10_countOn rfl hy_X10_countOn rfl (by decide) (Nat.le_of_ble_eq_true rfl) rfl (by decide) rfl (c_X10_countOn Γ s7) (fun s8 => ?_)
    exact E_return dX10_tell_92 rfl rfl
  · exact E_return dX10_tell_10 rfl rfl
theorem c_X10_tell (Γ : GT) (a1 : Int32) (a2 : Int32) (a3 : Int32) (a4 : Int32) (s : St)  (x : St) (h : f_X10_tell a1 a2 a3 a4 s = some x) (l : Launch) : MC l yX10_tell cX10_tell 5 none 2 WC Γ [.ref (Γ.2.1 3), .int a1, .int a2, .int a3, .int a4] s (emV x) := MC_of (by decide +kernel) (Nat.le_of_ble_eq_true rfl) (e_X10_tell Γ a1 a2 a3 a4 s ) h l
set_option maxRecDepth 100000 in
set_option maxHeartbeats 4000000 in
theorem e_X10_lookAsOf (Γ : GT) (a1 : Int32) (s : St)  : E RX10 cX10_lookAsOf 3 none 2 WC Γ emV 0 [(0, .ref (Γ.2.1 3)), (1, .int a1)] [] s (f_X10_lookAsOf a1 s) := by
  unfold f_X10_lookAsOf
  refine E_aload_n 0 dX10_lookAsOf_0 rfl rfl ?_
  refine E_iload_n 1 dX10_lookAsOf_1 rfl rfl ?_
  refine E_putI (j := 2) (ci := 10) (T := TX10) (C0 := RX10) (ref := "SameWrong$Tellings") dX10_lookAsOf_2 rfl (by decide) rfl inX10 (by decide) kw_98 rfl tyX10_ok nmX10 rfl rfl ?_
  refine E_bd (fun s1 => ?_)
  refine E_aload_n 0 dX10_lookAsOf_5 rfl rfl ?_
  refine E_iconst (v := 0) dX10_lookAsOf_6 (by decide) ?_
  refine E_putI (j := 1) (ci := 10) (T := TX10) (C0 := RX10) (ref := "SameWrong$Tellings") dX10_lookAsOf_7 rfl (by decide) rfl inX10 (by decide) kw_96 rfl tyX10_ok nmX10 rfl rfl ?_
  refine E_bd (fun s2 => ?_)
  refine E_iconst (v := 0) dX10_lookAsOf_10 (by decide) ?_
  refine E_istore_n [(2, .int 0), (0, .ref (Γ.2.1 3)), (1, .int a1)] dX10_lookAsOf_11 rfl (by decide) rfl ?_
  refine E_jn 34 (fun (y : St) => [(0, .ref (Γ.2.1 3))]) (fun (y : St) => []) (fun (y : St) => y) ?_ ?_
  · intro y4
    refine E_aload_n 0 dX10_lookAsOf_34 rfl rfl ?_
    refine E_callVV (T := TX10) (ci := 10) [] [] dX10_lookAsOf_35 rfl kw_415 kw_417 kp_3 kw_4 ko_X10_countOn rfl hy_X10_countOn rfl (by decide) (Nat.le_of_ble_eq_true rfl) rfl (by decide) rfl (c_X10_countOn Γ y4) (fun s5 => ?_)
    exact E_return dX10_lookAsOf_38 rfl rfl
  · intro K3 hK3
    refine E_lvsub [0, 1] [(2, .int 0), (0, .ref (Γ.2.1 3))] rfl ?_
    refine E_lp (F := L_X10_lookAsOf_12 K3) (fun (x : Int32 × St) => [(2, .int x.1), (0, .ref (Γ.2.1 3))]) (fun (x : Int32 × St) => x.2) ?_ NN (0, s2)
    intro r6 hr6 x7
    show E _ _ _ _ _ _ _ _ _ _ _ _ (L_X10_lookAsOf_12 K3 r6 x7)
    unfold L_X10_lookAsOf_12
    refine E_iload_n 0 dX10_lookAsOf_12 rfl rfl ?_
    refine E_bipush (v := 10) dX10_lookAsOf_13 (by decide) ?_
    refine E_icmpge 34 dX10_lookAsOf_15 (by decide) ?_ ?_
    · refine E_lvsub [1] [(0, .ref (Γ.2.1 3))] rfl ?_
      exact hK3 x7.2
    · refine E_aload_n 1 dX10_lookAsOf_18 rfl rfl ?_
      refine E_getR 32 (j := 3) (ci := 10) (T := TX10) (C0 := RX10) (ref := "SameWrong$Tellings") dX10_lookAsOf_19 rfl (by decide) rfl inX10 (by decide) kw_100 rfl rfl rfl ?_
      refine E_iload_n 0 dX10_lookAsOf_22 rfl rfl ?_
      refine E_aaload (t := 1) dX10_lookAsOf_23 (by decide) rfl (by decide) ?_
      refine E_iconst (v := 0) dX10_lookAsOf_24 (by decide) ?_
      refine E_callSV [.ref (Γ.2.1 (WC.2.2 32 x7.1.toNatClampNeg)), .int 0] [] dX10_lookAsOf_25 rfl kw_412 kw_413 kw_15 ko_J7_fill_53178 hy_J7_fill_53178 rfl (by decide) (Nat.le_of_ble_eq_true rfl) (c_J7_fill_53178 Γ (WC.2.2 32 x7.1.toNatClampNeg) 12 0 x7.2 (sh_cur _) (lt_cur _)) (fun s8 => ?_)
      refine E_iinc 0 [(2, .int (x7.1 + 1)), (0, .ref (Γ.2.1 3))] dX10_lookAsOf_28 rfl rfl (by decide) rfl ?_
      refine E_goto 12 dX10_lookAsOf_31 (by decide) ?_
      exact hr6 (x7.1 + 1, s8)
theorem c_X10_lookAsOf (Γ : GT) (a1 : Int32) (s : St)  (x : St) (h : f_X10_lookAsOf a1 s = some x) (l : Launch) : MC l yX10_lookAsOf cX10_lookAsOf 3 none 2 WC Γ [.ref (Γ.2.1 3), .int a1] s (emV x) := MC_of (by decide +kernel) (Nat.le_of_ble_eq_true rfl) (e_X10_lookAsOf Γ a1 s ) h l
set_option maxRecDepth 100000 in
set_option maxHeartbeats 4000000 in
theorem e_X11_questions (Γ : GT) (a1 : Int32) (s : St)  : E RX11 cX11_questions 3 (some .int) 5 WC Γ emIS 0 [(0, .ref (Γ.2.1 0)), (1, .int a1)] [] s (f_X11_questions a1 s) := by
  unfold f_X11_questions
  refine E_iload_n 1 dX11_questions_0 rfl rfl ?_
  refine E_iconst (v := 1) dX11_questions_1 (by decide) ?_
  refine E_bipush (v := 12) dX11_questions_2 (by decide) ?_
  refine E_callSZ [.int a1, .int 1, .int 12] [] dX11_questions_4 rfl kw_357 kw_358 kw_1 ko_X11_within hy_X11_within rfl (by decide) (Nat.le_of_ble_eq_true rfl) (c_X11_within Γ a1 1 12 s) (fun v1 => ?_)
  refine E_ifneb 13 dX11_questions_7 (by decide) ?_ ?_
  · refine E_aload_n 0 dX11_questions_13 rfl rfl ?_
    refine E_getR 1 (j := 0) (ci := 11) (T := TX11) (C0 := RX11) (ref := "SameWrong") dX11_questions_14 rfl (by decide) rfl inX11 (by decide) kw_316 rfl rfl rfl ?_
    refine E_getI (j := 2) (ci := 4) (T := TX4) (C0 := RX4) (ref := "SameWrong$Key") dX11_questions_17 rfl (by decide) rfl inX4 (by decide) kw_41 rfl rfl ?_
    refine E_istore_n [(2, .int (s.1 1 2)), (0, .ref (Γ.2.1 0)), (1, .int a1)] dX11_questions_20 rfl (by decide) rfl ?_
    refine E_bv (fun v2 => [(2, .int v2), (0, .ref (Γ.2.1 0)), (1, .int a1)]) (fun v2 => ?_) (s.1 1 2)
    refine E_aload_n 1 dX11_questions_21 rfl rfl ?_
    refine E_getR 1 (j := 0) (ci := 11) (T := TX11) (C0 := RX11) (ref := "SameWrong") dX11_questions_22 rfl (by decide) rfl inX11 (by decide) kw_316 rfl rfl rfl ?_
    refine E_iload_n 2 dX11_questions_25 rfl rfl ?_
    refine E_callVV (T := TX4) (ci := 4) [.int a1] [] dX11_questions_26 rfl kw_360 kw_361 kw_362 kw_2 ko_X4_ask rfl hy_X4_ask rfl (by decide) (Nat.le_of_ble_eq_true rfl) rfl (by decide) rfl (c_X4_ask Γ a1 s) (fun s3 => ?_)
    refine E_iload_n 0 dX11_questions_29 rfl rfl ?_
    exact E_ireturn dX11_questions_30 rfl rfl
  · refine E_bipush (v := (-2)) dX11_questions_10 (by decide) ?_
    exact E_ireturn dX11_questions_12 rfl rfl
theorem c_X11_questions (Γ : GT) (a1 : Int32) (s : St)  (x : (Int32 × St)) (h : f_X11_questions a1 s = some x) (l : Launch) : MC l yX11_questions cX11_questions 3 (some .int) 5 WC Γ [.ref (Γ.2.1 0), .int a1] s (emIS x) := MC_of (by decide +kernel) (Nat.le_of_ble_eq_true rfl) (e_X11_questions Γ a1 s ) h l
set_option maxRecDepth 100000 in
set_option maxHeartbeats 4000000 in
theorem e_X11_type (Γ : GT) (a1 : Int32) (s : St)  : E RX11 cX11_type 2 (some .int) 5 WC Γ emIS 0 [(0, .ref (Γ.2.1 0)), (1, .int a1)] [] s (f_X11_type a1 s) := by
  unfold f_X11_type
  refine E_iload_n 1 dX11_type_0 rfl rfl ?_
  refine E_iconst (v := 0) dX11_type_1 (by decide) ?_
  refine E_sipush (v := 255) dX11_type_2 (by decide) ?_
  refine E_callSZ [.int a1, .int 0, .int 255] [] dX11_type_5 rfl kw_357 kw_358 kw_1 ko_X11_within hy_X11_within rfl (by decide) (Nat.le_of_ble_eq_true rfl) (c_X11_within Γ a1 0 255 s) (fun v1 => ?_)
  refine E_ifneb 14 dX11_type_8 (by decide) ?_ ?_
  · refine E_aload_n 0 dX11_type_14 rfl rfl ?_
    refine E_getR 1 (j := 0) (ci := 11) (T := TX11) (C0 := RX11) (ref := "SameWrong") dX11_type_15 rfl (by decide) rfl inX11 (by decide) kw_316 rfl rfl rfl ?_
    refine E_getI (j := 1) (ci := 4) (T := TX4) (C0 := RX4) (ref := "SameWrong$Key") dX11_type_18 rfl (by decide) rfl inX4 (by decide) kw_38 rfl rfl ?_
    refine E_bipush (v := 12) dX11_type_21 (by decide) ?_
    refine E_icmplt 29 dX11_type_23 (by decide) ?_ ?_
    · refine E_aload_n 0 dX11_type_29 rfl rfl ?_
      refine E_getR 1 (j := 0) (ci := 11) (T := TX11) (C0 := RX11) (ref := "SameWrong") dX11_type_30 rfl (by decide) rfl inX11 (by decide) kw_316 rfl rfl rfl ?_
      refine E_iload_n 1 dX11_type_33 rfl rfl ?_
      refine E_callVV (T := TX4) (ci := 4) [.int a1] [] dX11_type_34 rfl kw_380 kw_381 kw_382 kw_2 ko_X4_append rfl hy_X4_append rfl (by decide) (Nat.le_of_ble_eq_true rfl) rfl (by decide) rfl (c_X4_append Γ a1 s) (fun s2 => ?_)
      refine E_aload_n 0 dX11_type_37 rfl rfl ?_
      refine E_getR 1 (j := 0) (ci := 11) (T := TX11) (C0 := RX11) (ref := "SameWrong") dX11_type_38 rfl (by decide) rfl inX11 (by decide) kw_316 rfl rfl rfl ?_
      refine E_getI (j := 1) (ci := 4) (T := TX4) (C0 := RX4) (ref := "SameWrong$Key") dX11_type_41 rfl (by decide) rfl inX4 (by decide) kw_38 rfl rfl ?_
      exact E_ireturn dX11_type_44 rfl rfl
    · refine E_bipush (v := (-4)) dX11_type_26 (by decide) ?_
      exact E_ireturn dX11_type_28 rfl rfl
  · refine E_bipush (v := (-2)) dX11_type_11 (by decide) ?_
    exact E_ireturn dX11_type_13 rfl rfl
theorem c_X11_type (Γ : GT) (a1 : Int32) (s : St)  (x : (Int32 × St)) (h : f_X11_type a1 s = some x) (l : Launch) : MC l yX11_type cX11_type 2 (some .int) 5 WC Γ [.ref (Γ.2.1 0), .int a1] s (emIS x) := MC_of (by decide +kernel) (Nat.le_of_ble_eq_true rfl) (e_X11_type Γ a1 s ) h l
set_option maxRecDepth 100000 in
set_option maxHeartbeats 4000000 in
theorem e_X11_wipe (Γ : GT)  (s : St)  : E RX11 cX11_wipe 2 (some .int) 5 WC Γ emIS 0 [(0, .ref (Γ.2.1 0))] [] s (f_X11_wipe  s) := by
  unfold f_X11_wipe
  refine E_aload_n 0 dX11_wipe_0 rfl rfl ?_
  refine E_getR 1 (j := 0) (ci := 11) (T := TX11) (C0 := RX11) (ref := "SameWrong") dX11_wipe_1 rfl (by decide) rfl inX11 (by decide) kw_316 rfl rfl rfl ?_
  refine E_getI (j := 1) (ci := 4) (T := TX4) (C0 := RX4) (ref := "SameWrong$Key") dX11_wipe_4 rfl (by decide) rfl inX4 (by decide) kw_38 rfl rfl ?_
  refine E_istore_n [(1, .int (s.1 1 1)), (0, .ref (Γ.2.1 0))] dX11_wipe_7 rfl (by decide) rfl ?_
  refine E_bv (fun v1 => [(1, .int v1), (0, .ref (Γ.2.1 0))]) (fun v1 => ?_) (s.1 1 1)
  refine E_aload_n 1 dX11_wipe_8 rfl rfl ?_
  refine E_getR 1 (j := 0) (ci := 11) (T := TX11) (C0 := RX11) (ref := "SameWrong") dX11_wipe_9 rfl (by decide) rfl inX11 (by decide) kw_316 rfl rfl rfl ?_
  refine E_callVV (T := TX4) (ci := 4) [] [] dX11_wipe_12 rfl kw_388 kw_389 kw_390 kw_2 ko_X4_empty rfl hy_X4_empty rfl (by decide) (Nat.le_of_ble_eq_true rfl) rfl (by decide) rfl (c_X4_empty Γ s) (fun s2 => ?_)
  refine E_iload_n 0 dX11_wipe_15 rfl rfl ?_
  exact E_ireturn dX11_wipe_16 rfl rfl
theorem c_X11_wipe (Γ : GT)  (s : St)  (x : (Int32 × St)) (h : f_X11_wipe  s = some x) (l : Launch) : MC l yX11_wipe cX11_wipe 2 (some .int) 5 WC Γ [.ref (Γ.2.1 0)] s (emIS x) := MC_of (by decide +kernel) (Nat.le_of_ble_eq_true rfl) (e_X11_wipe Γ  s ) h l
set_option maxRecDepth 100000 in
set_option maxHeartbeats 4000000 in
theorem e_X11_fault (Γ : GT)  (s : St)  : E RX11 cX11_fault 1 (some .int) 1 WC Γ (emI s) 0 [(0, .ref (Γ.2.1 0))] [] s (f_X11_fault  s) := by
  unfold f_X11_fault
  refine E_aload_n 0 dX11_fault_0 rfl rfl ?_
  refine E_getR 1 (j := 0) (ci := 11) (T := TX11) (C0 := RX11) (ref := "SameWrong") dX11_fault_1 rfl (by decide) rfl inX11 (by decide) kw_316 rfl rfl rfl ?_
  refine E_getI (j := 3) (ci := 4) (T := TX4) (C0 := RX4) (ref := "SameWrong$Key") dX11_fault_4 rfl (by decide) rfl inX4 (by decide) kw_45 rfl rfl ?_
  exact E_ireturn dX11_fault_7 rfl rfl
theorem c_X11_fault (Γ : GT)  (s : St)  (x : Int32) (h : f_X11_fault  s = some x) (l : Launch) : MC l yX11_fault cX11_fault 1 (some .int) 1 WC Γ [.ref (Γ.2.1 0)] s ((emI s) x) := MC_of (by decide +kernel) (Nat.le_of_ble_eq_true rfl) (e_X11_fault Γ  s ) h l
set_option maxRecDepth 100000 in
set_option maxHeartbeats 4000000 in
theorem e_X11_isQuestion (Γ : GT) (a1 : Int32) (s : St)  : E RX11 cX11_isQuestion 2 (some .boolean) 2 WC Γ (emZ s) 0 [(0, .ref (Γ.2.1 0)), (1, .int a1)] [] s (f_X11_isQuestion a1 s) := by
  unfold f_X11_isQuestion
  refine E_iload_n 1 dX11_isQuestion_0 rfl rfl ?_
  refine E_iconst (v := 0) dX11_isQuestion_1 (by decide) ?_
  refine E_aload_n 0 dX11_isQuestion_2 rfl rfl ?_
  refine E_getR 1 (j := 0) (ci := 11) (T := TX11) (C0 := RX11) (ref := "SameWrong") dX11_isQuestion_3 rfl (by decide) rfl inX11 (by decide) kw_316 rfl rfl rfl ?_
  refine E_getI (j := 2) (ci := 4) (T := TX4) (C0 := RX4) (ref := "SameWrong$Key") dX11_isQuestion_6 rfl (by decide) rfl inX4 (by decide) kw_41 rfl rfl ?_
  refine E_iconst (v := 1) dX11_isQuestion_9 (by decide) ?_
  refine E_isub dX11_isQuestion_10 ?_
  refine E_callSZ [.int a1, .int 0, .int ((s.1 1 2) - 1)] [] dX11_isQuestion_11 rfl kw_357 kw_358 kw_1 ko_X11_within hy_X11_within rfl (by decide) (Nat.le_of_ble_eq_true rfl) (c_X11_within Γ a1 0 ((s.1 1 2) - 1) s) (fun v1 => ?_)
  exact E_zreturn (b := v1) dX11_isQuestion_14 rfl rfl
theorem c_X11_isQuestion (Γ : GT) (a1 : Int32) (s : St)  (x : Bool) (h : f_X11_isQuestion a1 s = some x) (l : Launch) : MC l yX11_isQuestion cX11_isQuestion 2 (some .boolean) 2 WC Γ [.ref (Γ.2.1 0), .int a1] s ((emZ s) x) := MC_of (by decide +kernel) (Nat.le_of_ble_eq_true rfl) (e_X11_isQuestion Γ a1 s ) h l
