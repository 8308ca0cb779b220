set_option maxRecDepth 100000 in
set_option maxHeartbeats 4000000 in
theorem e_X6_areBothWrong (Γ : GT) (a1 : Int32) (a2 : Int32) (a3 : Int32) (s : St)  : E RX6 cX6_areBothWrong 7 (some .boolean) 1 WC Γ (emZ s) 0 [(0, .ref (Γ.2.1 6)), (1, .int a1), (2, .int a2), (3, .int a3)] [] s (f_X6_areBothWrong a1 a2 a3 s) := by
  unfold f_X6_areBothWrong
  refine E_aload_n 0 dX6_areBothWrong_0 rfl rfl ?_
  refine E_getR 1 (j := 1) (ci := 6) (T := TX6) (C0 := RX6) (ref := "SameWrong$Pairs") dX6_areBothWrong_1 rfl (by decide) rfl inX6 (by decide) kw_198 rfl rfl rfl ?_
  refine E_getR 11 (j := 0) (ci := 4) (T := TX4) (C0 := RX4) (ref := "SameWrong$Key") dX6_areBothWrong_4 rfl (by decide) rfl inX4 (by decide) kw_36 rfl rfl rfl ?_
  refine E_iload_n 3 dX6_areBothWrong_7 rfl rfl ?_
  refine E_iaload dX6_areBothWrong_8 rfl (by decide) ?_
  refine E_istore [(4, .int (s.1 11 a3.toNatClampNeg)), (0, .ref (Γ.2.1 6)), (1, .int a1), (2, .int a2), (3, .int a3)] dX6_areBothWrong_9 (by decide) rfl ?_
  refine E_bv (fun v1 => [(4, .int v1), (0, .ref (Γ.2.1 6)), (1, .int a1), (2, .int a2), (3, .int a3)]) (fun v1 => ?_) (s.1 11 a3.toNatClampNeg)
  refine E_aload_n 1 dX6_areBothWrong_11 rfl rfl ?_
  refine E_getR 3 (j := 3) (ci := 6) (T := TX6) (C0 := RX6) (ref := "SameWrong$Pairs") dX6_areBothWrong_12 rfl (by decide) rfl inX6 (by decide) kw_200 rfl rfl rfl ?_
  refine E_getR 32 (j := 3) (ci := 10) (T := TX10) (C0 := RX10) (ref := "SameWrong$Tellings") dX6_areBothWrong_15 rfl (by decide) rfl inX10 (by decide) kw_103 rfl rfl rfl ?_
  refine E_iload_n 2 dX6_areBothWrong_18 rfl rfl ?_
  refine E_aaload (t := 1) dX6_areBothWrong_19 (by decide) rfl (by decide) ?_
  refine E_iload_n 4 dX6_areBothWrong_20 rfl rfl ?_
  refine E_iaload dX6_areBothWrong_21 (sh_cur _) (lt_cur _) ?_
  refine E_istore [(5, .int (s.1 (WC.2.2 32 a1.toNatClampNeg) a3.toNatClampNeg)), (4, .int v1), (0, .ref (Γ.2.1 6)), (1, .int a1), (2, .int a2), (3, .int a3)] dX6_areBothWrong_22 (by decide) rfl ?_
  refine E_bv (fun v2 => [(5, .int v2), (4, .int v1), (0, .ref (Γ.2.1 6)), (1, .int a1), (2, .int a2), (3, .int a3)]) (fun v2 => ?_) (s.1 (WC.2.2 32 a1.toNatClampNeg) a3.toNatClampNeg)
  refine E_aload_n 2 dX6_areBothWrong_24 rfl rfl ?_
  refine E_getR 3 (j := 3) (ci := 6) (T := TX6) (C0 := RX6) (ref := "SameWrong$Pairs") dX6_areBothWrong_25 rfl (by decide) rfl inX6 (by decide) kw_200 rfl rfl rfl ?_
  refine E_getR 32 (j := 3) (ci := 10) (T := TX10) (C0 := RX10) (ref := "SameWrong$Tellings") dX6_areBothWrong_28 rfl (by decide) rfl inX10 (by decide) kw_103 rfl rfl rfl ?_
  refine E_iload_n 4 dX6_areBothWrong_31 rfl rfl ?_
  refine E_aaload (t := 1) dX6_areBothWrong_32 (by decide) rfl (by decide) ?_
  refine E_iload_n 5 dX6_areBothWrong_33 rfl rfl ?_
  refine E_iaload dX6_areBothWrong_34 (sh_cur _) (lt_cur _) ?_
  refine E_istore [(6, .int (s.1 (WC.2.2 32 a2.toNatClampNeg) a3.toNatClampNeg)), (5, .int v2), (4, .int v1), (0, .ref (Γ.2.1 6)), (1, .int a1), (2, .int a2), (3, .int a3)] dX6_areBothWrong_35 (by decide) rfl ?_
  refine E_bv (fun v3 => [(6, .int v3), (5, .int v2), (4, .int v1), (0, .ref (Γ.2.1 6)), (1, .int a1), (2, .int a2), (3, .int a3)]) (fun v3 => ?_) (s.1 (WC.2.2 32 a2.toNatClampNeg) a3.toNatClampNeg)
  refine E_iload 2 dX6_areBothWrong_37 rfl ?_
  refine E_ifeq 70 dX6_areBothWrong_39 (by decide) ?_ ?_
  · refine E_iconst (v := 0) dX6_areBothWrong_70 (by decide) ?_
    exact E_zreturn (b := false) dX6_areBothWrong_71 rfl rfl
  · refine E_iload 1 dX6_areBothWrong_42 rfl ?_
    refine E_ifeq 70 dX6_areBothWrong_44 (by decide) ?_ ?_
    · refine E_iconst (v := 0) dX6_areBothWrong_70 (by decide) ?_
      exact E_zreturn (b := false) dX6_areBothWrong_71 rfl rfl
    · refine E_iload 0 dX6_areBothWrong_47 rfl ?_
      refine E_ifeq 70 dX6_areBothWrong_49 (by decide) ?_ ?_
      · refine E_iconst (v := 0) dX6_areBothWrong_70 (by decide) ?_
        exact E_zreturn (b := false) dX6_areBothWrong_71 rfl rfl
      · refine E_iload 1 dX6_areBothWrong_52 rfl ?_
        refine E_iload 2 dX6_areBothWrong_54 rfl ?_
        refine E_icmpeq 70 dX6_areBothWrong_56 (by decide) ?_ ?_
        · refine E_iconst (v := 0) dX6_areBothWrong_70 (by decide) ?_
          exact E_zreturn (b := false) dX6_areBothWrong_71 rfl rfl
        · refine E_iload 0 dX6_areBothWrong_59 rfl ?_
          refine E_iload 2 dX6_areBothWrong_61 rfl ?_
          refine E_icmpeq 70 dX6_areBothWrong_63 (by decide) ?_ ?_
          · refine E_iconst (v := 0) dX6_areBothWrong_70 (by decide) ?_
            exact E_zreturn (b := false) dX6_areBothWrong_71 rfl rfl
          · refine E_iconst (v := 1) dX6_areBothWrong_66 (by decide) ?_
            refine E_goto 71 dX6_areBothWrong_67 (by decide) ?_
            exact E_zreturn (b := true) dX6_areBothWrong_71 rfl rfl
theorem c_X6_areBothWrong (Γ : GT) (a1 : Int32) (a2 : Int32) (a3 : Int32) (s : St)  (x : Bool) (h : f_X6_areBothWrong a1 a2 a3 s = some x) (l : Launch) : MC l yX6_areBothWrong cX6_areBothWrong 7 (some .boolean) 1 WC Γ [.ref (Γ.2.1 6), .int a1, .int a2, .int a3] s ((emZ s) x) := MC_of (by decide +kernel) (Nat.le_of_ble_eq_true rfl) (e_X6_areBothWrong Γ a1 a2 a3 s ) h l
set_option maxRecDepth 100000 in
set_option maxHeartbeats 4000000 in
theorem e_X6_sameWrongs (Γ : GT) (a1 : Int32) (a2 : Int32) (s : St)  : E RX6 cX6_sameWrongs 5 (some .int) 2 WC Γ (emI s) 0 [(0, .ref (Γ.2.1 6)), (1, .int a1), (2, .int a2)] [] s (f_X6_sameWrongs a1 a2 s) := by
  unfold f_X6_sameWrongs
  refine E_iconst (v := 0) dX6_sameWrongs_0 (by decide) ?_
  refine E_istore_n [(3, .int 0), (0, .ref (Γ.2.1 6)), (1, .int a1), (2, .int a2)] dX6_sameWrongs_1 rfl (by decide) rfl ?_
  refine E_iconst (v := 0) dX6_sameWrongs_2 (by decide) ?_
  refine E_istore [(4, .int 0), (3, .int 0), (0, .ref (Γ.2.1 6)), (1, .int a1), (2, .int a2)] dX6_sameWrongs_3 (by decide) rfl ?_
  refine E_lp (F := L_X6_sameWrongs_5 a1 a2 s) (fun (x : Int32 × Int32) => [(4, .int x.1), (3, .int x.2), (0, .ref (Γ.2.1 6)), (1, .int a1), (2, .int a2)]) (fun (x : Int32 × Int32) => s) ?_ NN (0, 0)
  intro r1 hr1 x2
  show E _ _ _ _ _ _ _ _ _ _ _ _ (L_X6_sameWrongs_5 a1 a2 s r1 x2)
  unfold L_X6_sameWrongs_5
  refine E_iload 0 dX6_sameWrongs_5 rfl ?_
  refine E_aload_n 2 dX6_sameWrongs_7 rfl rfl ?_
  refine E_getR 1 (j := 1) (ci := 6) (T := TX6) (C0 := RX6) (ref := "SameWrong$Pairs") dX6_sameWrongs_8 rfl (by decide) rfl inX6 (by decide) kw_198 rfl rfl rfl ?_
  refine E_getI (j := 2) (ci := 4) (T := TX4) (C0 := RX4) (ref := "SameWrong$Key") dX6_sameWrongs_11 rfl (by decide) rfl inX4 (by decide) kw_40 rfl rfl ?_
  refine E_icmpge 64 dX6_sameWrongs_14 (by decide) ?_ ?_
  · refine E_iload_n 1 dX6_sameWrongs_64 rfl rfl ?_
    exact E_ireturn dX6_sameWrongs_65 rfl rfl
  · refine E_aload_n 2 dX6_sameWrongs_17 rfl rfl ?_
    refine E_iload_n 3 dX6_sameWrongs_18 rfl rfl ?_
    refine E_iload_n 4 dX6_sameWrongs_19 rfl rfl ?_
    refine E_iload 0 dX6_sameWrongs_20 rfl ?_
    refine E_callVZ (T := TX6) (ci := 6) [.int a1, .int a2, .int x2.1] [] dX6_sameWrongs_22 rfl kw_526 kw_528 kp_10 kw_8 ko_X6_areBothWrong rfl hy_X6_areBothWrong rfl (by decide) (Nat.le_of_ble_eq_true rfl) rfl (by decide) rfl (c_X6_areBothWrong Γ a1 a2 x2.1 s) (fun v3 => ?_)
    refine E_ifeqb 58 dX6_sameWrongs_25 (by decide) ?_ ?_
    · refine E_iinc 0 [(4, .int (x2.1 + 1)), (3, .int x2.2), (0, .ref (Γ.2.1 6)), (1, .int a1), (2, .int a2)] dX6_sameWrongs_58 rfl rfl (by decide) rfl ?_
      refine E_goto 5 dX6_sameWrongs_61 (by decide) ?_
      exact hr1 (x2.1 + 1, x2.2)
    · refine E_aload_n 2 dX6_sameWrongs_28 rfl rfl ?_
      refine E_getR 3 (j := 3) (ci := 6) (T := TX6) (C0 := RX6) (ref := "SameWrong$Pairs") dX6_sameWrongs_29 rfl (by decide) rfl inX6 (by decide) kw_200 rfl rfl rfl ?_
      refine E_getR 32 (j := 3) (ci := 10) (T := TX10) (C0 := RX10) (ref := "SameWrong$Tellings") dX6_sameWrongs_32 rfl (by decide) rfl inX10 (by decide) kw_103 rfl rfl rfl ?_
      refine E_iload_n 3 dX6_sameWrongs_35 rfl rfl ?_
      refine E_aaload (t := 1) dX6_sameWrongs_36 (by decide) rfl (by decide) ?_
      refine E_iload 0 dX6_sameWrongs_37 rfl ?_
      refine E_iaload dX6_sameWrongs_39 (sh_cur _) (lt_cur _) ?_
      refine E_aload_n 2 dX6_sameWrongs_40 rfl rfl ?_
      refine E_getR 3 (j := 3) (ci := 6) (T := TX6) (C0 := RX6) (ref := "SameWrong$Pairs") dX6_sameWrongs_41 rfl (by decide) rfl inX6 (by decide) kw_200 rfl rfl rfl ?_
      refine E_getR 32 (j := 3) (ci := 10) (T := TX10) (C0 := RX10) (ref := "SameWrong$Tellings") dX6_sameWrongs_44 rfl (by decide) rfl inX10 (by decide) kw_103 rfl rfl rfl ?_
      refine E_iload_n 4 dX6_sameWrongs_47 rfl rfl ?_
      refine E_aaload (t := 1) dX6_sameWrongs_48 (by decide) rfl (by decide) ?_
      refine E_iload 0 dX6_sameWrongs_49 rfl ?_
      refine E_iaload dX6_sameWrongs_51 (sh_cur _) (lt_cur _) ?_
      refine E_icmpne 58 dX6_sameWrongs_52 (by decide) ?_ ?_
      · refine E_iinc 0 [(4, .int (x2.1 + 1)), (3, .int x2.2), (0, .ref (Γ.2.1 6)), (1, .int a1), (2, .int a2)] dX6_sameWrongs_58 rfl rfl (by decide) rfl ?_
        refine E_goto 5 dX6_sameWrongs_61 (by decide) ?_
        exact hr1 (x2.1 + 1, x2.2)
      · refine E_iinc 1 [(3, .int (x2.2 + 1)), (4, .int x2.1), (0, .ref (Γ.2.1 6)), (1, .int a1), (2, .int a2)] dX6_sameWrongs_55 rfl rfl (by decide) rfl ?_
        refine E_iinc 1 [(4, .int (x2.1 + 1)), (3, .int (x2.2 + 1)), (0, .ref (Γ.2.1 6)), (1, .int a1), (2, .int a2)] dX6_sameWrongs_58 rfl rfl (by decide) rfl ?_
        refine E_goto 5 dX6_sameWrongs_61 (by decide) ?_
        exact hr1 (x2.1 + 1, x2.2 + 1)
theorem c_X6_sameWrongs (Γ : GT) (a1 : Int32) (a2 : Int32) (s : St)  (x : Int32) (h : f_X6_sameWrongs a1 a2 s = some x) (l : Launch) : MC l yX6_sameWrongs cX6_sameWrongs 5 (some .int) 2 WC Γ [.ref (Γ.2.1 6), .int a1, .int a2] s ((emI s) x) := MC_of (by decide +kernel) (Nat.le_of_ble_eq_true rfl) (e_X6_sameWrongs Γ a1 a2 s ) h l
set_option maxRecDepth 100000 in
set_option maxHeartbeats 4000000 in
theorem e_J9_abs_0f7a4 (Γ : GT) (a0 : Int32) (s : St)  : E RJ9 cJ9_abs_0f7a4 1 (some .int) 1 WC Γ (emI s) 0 [(0, .int a0)] [] s (f_J9_abs_0f7a4 a0 s) := by
  unfold f_J9_abs_0f7a4
  refine E_iload_n 0 dJ9_abs_0f7a4_0 rfl rfl ?_
  refine E_ifge 9 dJ9_abs_0f7a4_1 (by decide) ?_ ?_
  · refine E_iload_n 0 dJ9_abs_0f7a4_9 rfl rfl ?_
    exact E_ireturn dJ9_abs_0f7a4_10 rfl rfl
  · refine E_iload_n 0 dJ9_abs_0f7a4_4 rfl rfl ?_
    refine E_ineg dJ9_abs_0f7a4_5 ?_
    refine E_goto 10 dJ9_abs_0f7a4_6 (by decide) ?_
    exact E_ireturn dJ9_abs_0f7a4_10 rfl rfl
theorem c_J9_abs_0f7a4 (Γ : GT) (a0 : Int32) (s : St)  (x : Int32) (h : f_J9_abs_0f7a4 a0 s = some x) (l : Launch) : MC l yJ9_abs_0f7a4 cJ9_abs_0f7a4 1 (some .int) 1 WC Γ [.int a0] s ((emI s) x) := MC_of (by decide +kernel) (Nat.le_of_ble_eq_true rfl) (e_J9_abs_0f7a4 Γ a0 s ) h l
set_option maxRecDepth 100000 in
set_option maxHeartbeats 4000000 in
theorem e_X7_areNear (Γ : GT) (a1 : Int32) (a2 : Int32) (s : St)  : E RX7 cX7_areNear 3 (some .boolean) 2 WC Γ (emZ s) 0 [(0, .ref (Γ.2.1 2)), (1, .int a1), (2, .int a2)] [] s (f_X7_areNear a1 a2 s) := by
  unfold f_X7_areNear
  refine E_aload_n 0 dX7_areNear_0 rfl rfl ?_
  refine E_getR 13 (j := 1) (ci := 7) (T := TX7) (C0 := RX7) (ref := "SameWrong$Room") dX7_areNear_1 rfl (by decide) rfl inX7 (by decide) kw_77 rfl rfl rfl ?_
  refine E_iload_n 1 dX7_areNear_4 rfl rfl ?_
  refine E_iaload dX7_areNear_5 rfl (by decide) ?_
  refine E_aload_n 0 dX7_areNear_6 rfl rfl ?_
  refine E_getR 13 (j := 1) (ci := 7) (T := TX7) (C0 := RX7) (ref := "SameWrong$Room") dX7_areNear_7 rfl (by decide) rfl inX7 (by decide) kw_77 rfl rfl rfl ?_
  refine E_iload_n 2 dX7_areNear_10 rfl rfl ?_
  refine E_iaload dX7_areNear_11 rfl (by decide) ?_
  refine E_isub dX7_areNear_12 ?_
  refine E_callSI [.int ((s.1 13 a1.toNatClampNeg) - (s.1 13 a2.toNatClampNeg))] [] dX7_areNear_13 rfl kw_479 kw_480 kw_14 ko_J9_abs_0f7a4 hy_J9_abs_0f7a4 rfl (by decide) (Nat.le_of_ble_eq_true rfl) (c_J9_abs_0f7a4 Γ ((s.1 13 a1.toNatClampNeg) - (s.1 13 a2.toNatClampNeg)) s) (fun v1 => ?_)
  refine E_iconst (v := 1) dX7_areNear_16 (by decide) ?_
  refine E_icmpgt 44 dX7_areNear_17 (by decide) ?_ ?_
  · refine E_iconst (v := 0) dX7_areNear_44 (by decide) ?_
    exact E_zreturn (b := false) dX7_areNear_45 rfl rfl
  · refine E_aload_n 0 dX7_areNear_20 rfl rfl ?_
    refine E_getR 14 (j := 2) (ci := 7) (T := TX7) (C0 := RX7) (ref := "SameWrong$Room") dX7_areNear_21 rfl (by decide) rfl inX7 (by decide) kw_78 rfl rfl rfl ?_
    refine E_iload_n 1 dX7_areNear_24 rfl rfl ?_
    refine E_iaload dX7_areNear_25 rfl (by decide) ?_
    refine E_aload_n 0 dX7_areNear_26 rfl rfl ?_
    refine E_getR 14 (j := 2) (ci := 7) (T := TX7) (C0 := RX7) (ref := "SameWrong$Room") dX7_areNear_27 rfl (by decide) rfl inX7 (by decide) kw_78 rfl rfl rfl ?_
    refine E_iload_n 2 dX7_areNear_30 rfl rfl ?_
    refine E_iaload dX7_areNear_31 rfl (by decide) ?_
    refine E_isub dX7_areNear_32 ?_
    refine E_callSI [.int ((s.1 14 a1.toNatClampNeg) - (s.1 14 a2.toNatClampNeg))] [] dX7_areNear_33 rfl kw_479 kw_480 kw_14 ko_J9_abs_0f7a4 hy_J9_abs_0f7a4 rfl (by decide) (Nat.le_of_ble_eq_true rfl) (c_J9_abs_0f7a4 Γ ((s.1 14 a1.toNatClampNeg) - (s.1 14 a2.toNatClampNeg)) s) (fun v2 => ?_)
    refine E_iconst (v := 1) dX7_areNear_36 (by decide) ?_
    refine E_icmpgt 44 dX7_areNear_37 (by decide) ?_ ?_
    · refine E_iconst (v := 0) dX7_areNear_44 (by decide) ?_
      exact E_zreturn (b := false) dX7_areNear_45 rfl rfl
    · refine E_iconst (v := 1) dX7_areNear_40 (by decide) ?_
      refine E_goto 45 dX7_areNear_41 (by decide) ?_
      exact E_zreturn (b := true) dX7_areNear_45 rfl rfl
theorem c_X7_areNear (Γ : GT) (a1 : Int32) (a2 : Int32) (s : St)  (x : Bool) (h : f_X7_areNear a1 a2 s = some x) (l : Launch) : MC l yX7_areNear cX7_areNear 3 (some .boolean) 2 WC Γ [.ref (Γ.2.1 2), .int a1, .int a2] s ((emZ s) x) := MC_of (by decide +kernel) (Nat.le_of_ble_eq_true rfl) (e_X7_areNear Γ a1 a2 s ) h l
set_option maxRecDepth 100000 in
set_option maxHeartbeats 4000000 in
theorem e_X6_besideInAll (Γ : GT)  (s : St)  : E RX6 cX6_besideInAll 4 (some .int) 3 WC Γ (emI s) 0 [(0, .ref (Γ.2.1 6))] [] s (f_X6_besideInAll  s) := by
  unfold f_X6_besideInAll
  refine E_iconst (v := 0) dX6_besideInAll_0 (by decide) ?_
  refine E_istore_n [(1, .int 0), (0, .ref (Γ.2.1 6))] dX6_besideInAll_1 rfl (by decide) rfl ?_
  refine E_iconst (v := 0) dX6_besideInAll_2 (by decide) ?_
  refine E_istore_n [(2, .int 0), (1, .int 0), (0, .ref (Γ.2.1 6))] dX6_besideInAll_3 rfl (by decide) rfl ?_
  refine E_lp (F := L_X6_besideInAll_4 s) (fun (x : Int32 × Int32) => [(2, .int x.1), (1, .int x.2), (0, .ref (Γ.2.1 6))]) (fun (x : Int32 × Int32) => s) ?_ NN (0, 0)
  intro r1 hr1 x2
  show E _ _ _ _ _ _ _ _ _ _ _ _ (L_X6_besideInAll_4 s r1 x2)
  unfold L_X6_besideInAll_4
  refine E_iload_n 0 dX6_besideInAll_4 rfl rfl ?_
  refine E_aload_n 2 dX6_besideInAll_5 rfl rfl ?_
  refine E_getR 2 (j := 2) (ci := 6) (T := TX6) (C0 := RX6) (ref := "SameWrong$Pairs") dX6_besideInAll_6 rfl (by decide) rfl inX6 (by decide) kw_199 rfl rfl rfl ?_
  refine E_getI (j := 0) (ci := 7) (T := TX7) (C0 := RX7) (ref := "SameWrong$Room") dX6_besideInAll_9 rfl (by decide) rfl inX7 (by decide) kw_74 rfl rfl ?_
  refine E_icmpge 63 dX6_besideInAll_12 (by decide) ?_ ?_
  · refine E_iload_n 1 dX6_besideInAll_63 rfl rfl ?_
    exact E_ireturn dX6_besideInAll_64 rfl rfl
  · refine E_iload_n 0 dX6_besideInAll_15 rfl rfl ?_
    refine E_iconst (v := 1) dX6_besideInAll_16 (by decide) ?_
    refine E_iadd dX6_besideInAll_17 ?_
    refine E_istore_n [(3, .int (x2.1 + 1)), (2, .int x2.1), (1, .int x2.2), (0, .ref (Γ.2.1 6))] dX6_besideInAll_18 rfl (by decide) rfl ?_
    refine E_bv (fun v3 => [(3, .int v3), (2, .int x2.1), (1, .int x2.2), (0, .ref (Γ.2.1 6))]) (fun v3 => ?_) (x2.1 + 1)
    refine E_lp (F := L_X6_besideInAll_19 s r1 x2) (fun (x : Int32 × Int32) => [(3, .int x.1), (2, .int x2.1), (1, .int x.2), (0, .ref (Γ.2.1 6))]) (fun (x : Int32 × Int32) => s) ?_ NN (v3, x2.2)
    intro r4 hr4 x5
    show E _ _ _ _ _ _ _ _ _ _ _ _ (L_X6_besideInAll_19 s r1 x2 r4 x5)
    unfold L_X6_besideInAll_19
    refine E_iload_n 0 dX6_besideInAll_19 rfl rfl ?_
    refine E_aload_n 3 dX6_besideInAll_20 rfl rfl ?_
    refine E_getR 2 (j := 2) (ci := 6) (T := TX6) (C0 := RX6) (ref := "SameWrong$Pairs") dX6_besideInAll_21 rfl (by decide) rfl inX6 (by decide) kw_199 rfl rfl rfl ?_
    refine E_getI (j := 0) (ci := 7) (T := TX7) (C0 := RX7) (ref := "SameWrong$Room") dX6_besideInAll_24 rfl (by decide) rfl inX7 (by decide) kw_74 rfl rfl ?_
    refine E_icmpge 57 dX6_besideInAll_27 (by decide) ?_ ?_
    · refine E_iinc 1 [(2, .int (x2.1 + 1)), (3, .int x5.1), (1, .int x5.2), (0, .ref (Γ.2.1 6))] dX6_besideInAll_57 rfl rfl (by decide) rfl ?_
      refine E_goto 4 dX6_besideInAll_60 (by decide) ?_
      refine E_lvsub [0, 2, 3] [(2, .int (x2.1 + 1)), (1, .int x5.2), (0, .ref (Γ.2.1 6))] rfl ?_
      exact hr1 (x2.1 + 1, x5.2)
    · refine E_aload_n 3 dX6_besideInAll_30 rfl rfl ?_
      refine E_getR 2 (j := 2) (ci := 6) (T := TX6) (C0 := RX6) (ref := "SameWrong$Pairs") dX6_besideInAll_31 rfl (by decide) rfl inX6 (by decide) kw_199 rfl rfl rfl ?_
      refine E_iload_n 1 dX6_besideInAll_34 rfl rfl ?_
      refine E_iload_n 0 dX6_besideInAll_35 rfl rfl ?_
      refine E_callVZ (T := TX7) (ci := 7) [.int x2.1, .int x5.1] [] dX6_besideInAll_36 rfl kw_592 kw_476 kw_477 kw_3 ko_X7_areNear rfl hy_X7_areNear rfl (by decide) (Nat.le_of_ble_eq_true rfl) rfl (by decide) rfl (c_X7_areNear Γ x2.1 x5.1 s) (fun v6 => ?_)
      refine E_ifeqb 51 dX6_besideInAll_39 (by decide) ?_ ?_
      · refine E_iinc 0 [(3, .int (x5.1 + 1)), (2, .int x2.1), (1, .int x5.2), (0, .ref (Γ.2.1 6))] dX6_besideInAll_51 rfl rfl (by decide) rfl ?_
        refine E_goto 19 dX6_besideInAll_54 (by decide) ?_
        exact hr4 (x5.1 + 1, x5.2)
      · refine E_iload_n 2 dX6_besideInAll_42 rfl rfl ?_
        refine E_aload_n 3 dX6_besideInAll_43 rfl rfl ?_
        refine E_iload_n 1 dX6_besideInAll_44 rfl rfl ?_
        refine E_iload_n 0 dX6_besideInAll_45 rfl rfl ?_
        refine E_callVI (T := TX6) (ci := 6) [.int x2.1, .int x5.1] [.int x5.2] dX6_besideInAll_46 rfl kw_538 kw_523 kw_524 kw_8 ko_X6_sameWrongs rfl hy_X6_sameWrongs rfl (by decide) (Nat.le_of_ble_eq_true rfl) rfl (by decide) rfl (c_X6_sameWrongs Γ x2.1 x5.1 s) (fun v7 => ?_)
        refine E_iadd dX6_besideInAll_49 ?_
        refine E_istore_n [(1, .int (x5.2 + v7)), (3, .int x5.1), (2, .int x2.1), (0, .ref (Γ.2.1 6))] dX6_besideInAll_50 rfl (by decide) rfl ?_
        refine E_bv (fun v8 => [(1, .int v8), (3, .int x5.1), (2, .int x2.1), (0, .ref (Γ.2.1 6))]) (fun v8 => ?_) (x5.2 + v7)
        refine E_iinc 1 [(3, .int (x5.1 + 1)), (1, .int v8), (2, .int x2.1), (0, .ref (Γ.2.1 6))] dX6_besideInAll_51 rfl rfl (by decide) rfl ?_
        refine E_goto 19 dX6_besideInAll_54 (by decide) ?_
        refine E_lvsub [0, 2, 1, 3] [(3, .int (x5.1 + 1)), (2, .int x2.1), (1, .int v8), (0, .ref (Γ.2.1 6))] rfl ?_
        exact hr4 (x5.1 + 1, v8)
theorem c_X6_besideInAll (Γ : GT)  (s : St)  (x : Int32) (h : f_X6_besideInAll  s = some x) (l : Launch) : MC l yX6_besideInAll cX6_besideInAll 4 (some .int) 3 WC Γ [.ref (Γ.2.1 6)] s ((emI s) x) := MC_of (by decide +kernel) (Nat.le_of_ble_eq_true rfl) (e_X6_besideInAll Γ  s ) h l
set_option maxRecDepth 100000 in
set_option maxHeartbeats 4000000 in
theorem e_X0_orders (Γ : GT) (a0 : Int32) (s : St)  : E RX0 cX0_orders 4 (some .long) 1 WC Γ (emL s) 0 [(0, .int a0)] [] s (f_X0_orders a0 s) := by
  unfold f_X0_orders
  refine E_lconst (v := 1) dX0_orders_0 rfl ?_
  refine E_lstore_n [(1, .long 1), (0, .int a0)] dX0_orders_1 rfl (by decide) rfl ?_
  refine E_iconst (v := 2) dX0_orders_2 (by decide) ?_
  refine E_istore_n [(3, .int 2), (1, .long 1), (0, .int a0)] dX0_orders_3 rfl (by decide) rfl ?_
  refine E_lp (F := L_X0_orders_4 a0) (fun (x : Int32 × Int64) => [(3, .int x.1), (1, .long x.2), (0, .int a0)]) (fun (x : Int32 × Int64) => s) ?_ NN (2, 1)
  intro r1 hr1 x2
  show E _ _ _ _ _ _ _ _ _ _ _ _ (L_X0_orders_4 a0 r1 x2)
  unfold L_X0_orders_4
  refine E_iload_n 0 dX0_orders_4 rfl rfl ?_
  refine E_iload_n 2 dX0_orders_5 rfl rfl ?_
  refine E_icmpgt 20 dX0_orders_6 (by decide) ?_ ?_
  · refine E_lload_n 1 dX0_orders_20 rfl rfl ?_
    exact E_lreturn dX0_orders_21 rfl rfl
  · refine E_lload_n 1 dX0_orders_9 rfl rfl ?_
    refine E_iload_n 0 dX0_orders_10 rfl rfl ?_
    refine E_i2l dX0_orders_11 ?_
    refine E_lmul dX0_orders_12 ?_
    refine E_lstore_n [(1, .long (x2.2 * x2.1.toInt64)), (3, .int x2.1), (0, .int a0)] dX0_orders_13 rfl (by decide) rfl ?_
    refine E_bl (fun v3 => [(1, .long v3), (3, .int x2.1), (0, .int a0)]) (fun v3 => ?_) (x2.2 * x2.1.toInt64)
    refine E_iinc 1 [(3, .int (x2.1 + 1)), (1, .long v3), (0, .int a0)] dX0_orders_14 rfl rfl (by decide) rfl ?_
    refine E_goto 4 dX0_orders_17 (by decide) ?_
    exact hr1 (x2.1 + 1, v3)
theorem c_X0_orders (Γ : GT) (a0 : Int32) (s : St)  (x : Int64) (h : f_X0_orders a0 s = some x) (l : Launch) : MC l yX0_orders cX0_orders 4 (some .long) 1 WC Γ [.int a0] s ((emL s) x) := MC_of (by decide +kernel) (Nat.le_of_ble_eq_true rfl) (e_X0_orders Γ a0 s ) h l
set_option maxRecDepth 100000 in
set_option maxHeartbeats 4000000 in
theorem e_X0_withNear (Γ : GT) (a1 : Int32) (s : St)  : E RX0 cX0_withNear 4 (some .int) 3 WC Γ (emI s) 0 [(0, .ref (Γ.2.1 8)), (1, .int a1)] [] s (f_X0_withNear a1 s) := by
  unfold f_X0_withNear
  refine E_iconst (v := 0) dX0_withNear_0 (by decide) ?_
  refine E_istore_n [(2, .int 0), (0, .ref (Γ.2.1 8)), (1, .int a1)] dX0_withNear_1 rfl (by decide) rfl ?_
  refine E_iconst (v := 0) dX0_withNear_2 (by decide) ?_
  refine E_istore_n [(3, .int 0), (2, .int 0), (0, .ref (Γ.2.1 8)), (1, .int a1)] dX0_withNear_3 rfl (by decide) rfl ?_
  refine E_lp (F := L_X0_withNear_4 a1 s) (fun (x : Int32 × Int32) => [(3, .int x.1), (2, .int x.2), (0, .ref (Γ.2.1 8)), (1, .int a1)]) (fun (x : Int32 × Int32) => s) ?_ NN (0, 0)
  intro r1 hr1 x2
  show E _ _ _ _ _ _ _ _ _ _ _ _ (L_X0_withNear_4 a1 s r1 x2)
  unfold L_X0_withNear_4
  refine E_iload_n 0 dX0_withNear_4 rfl rfl ?_
  refine E_iload_n 3 dX0_withNear_5 rfl rfl ?_
  refine E_icmpge 51 dX0_withNear_6 (by decide) ?_ ?_
  · refine E_iload_n 1 dX0_withNear_51 rfl rfl ?_
    exact E_ireturn dX0_withNear_52 rfl rfl
  · refine E_aload_n 2 dX0_withNear_9 rfl rfl ?_
    refine E_getR 2 (j := 0) (ci := 0) (T := TX0) (C0 := RX0) (ref := "SameWrong$Deals") dX0_withNear_10 rfl (by decide) rfl inX0 (by decide) kw_254 rfl rfl rfl ?_
    refine E_iload_n 0 dX0_withNear_13 rfl rfl ?_
    refine E_iload_n 3 dX0_withNear_14 rfl rfl ?_
    refine E_callVZ (T := TX7) (ci := 7) [.int x2.1, .int a1] [] dX0_withNear_15 rfl kw_610 kw_476 kw_477 kw_3 ko_X7_areNear rfl hy_X7_areNear rfl (by decide) (Nat.le_of_ble_eq_true rfl) rfl (by decide) rfl (c_X7_areNear Γ x2.1 a1 s) (fun v3 => ?_)
    refine E_ifeqb 45 dX0_withNear_18 (by decide) ?_ ?_
    · refine E_iinc 0 [(3, .int (x2.1 + 1)), (2, .int x2.2), (0, .ref (Γ.2.1 8)), (1, .int a1)] dX0_withNear_45 rfl rfl (by decide) rfl ?_
      refine E_goto 4 dX0_withNear_48 (by decide) ?_
      exact hr1 (x2.1 + 1, x2.2)
    · refine E_iload_n 1 dX0_withNear_21 rfl rfl ?_
      refine E_aload_n 2 dX0_withNear_22 rfl rfl ?_
      refine E_getR 27 (j := 2) (ci := 0) (T := TX0) (C0 := RX0) (ref := "SameWrong$Deals") dX0_withNear_23 rfl (by decide) rfl inX0 (by decide) kw_256 rfl rfl rfl ?_
      refine E_aload_n 2 dX0_withNear_26 rfl rfl ?_
      refine E_getR 28 (j := 3) (ci := 0) (T := TX0) (C0 := RX0) (ref := "SameWrong$Deals") dX0_withNear_27 rfl (by decide) rfl inX0 (by decide) kw_257 rfl rfl rfl ?_
      refine E_iload_n 0 dX0_withNear_30 rfl rfl ?_
      refine E_iaload dX0_withNear_31 rfl (by decide) ?_
      refine E_bipush (v := 7) dX0_withNear_32 (by decide) ?_
      refine E_imul dX0_withNear_34 ?_
      refine E_aload_n 2 dX0_withNear_35 rfl rfl ?_
      refine E_getR 28 (j := 3) (ci := 0) (T := TX0) (C0 := RX0) (ref := "SameWrong$Deals") dX0_withNear_36 rfl (by decide) rfl inX0 (by decide) kw_257 rfl rfl rfl ?_
      refine E_iload_n 3 dX0_withNear_39 rfl rfl ?_
      refine E_iaload dX0_withNear_40 rfl (by decide) ?_
      refine E_iadd dX0_withNear_41 ?_
      refine E_iaload dX0_withNear_42 rfl (by decide) ?_
      refine E_iadd dX0_withNear_43 ?_
      refine E_istore_n [(2, .int (x2.2 + (s.1 27 (((s.1 28 x2.1.toNatClampNeg) * 7) + (s.1 28 a1.toNatClampNeg)).toNatClampNeg))), (3, .int x2.1), (0, .ref (Γ.2.1 8)), (1, .int a1)] dX0_withNear_44 rfl (by decide) rfl ?_
      refine E_bv (fun v4 => [(2, .int v4), (3, .int x2.1), (0, .ref (Γ.2.1 8)), (1, .int a1)]) (fun v4 => ?_) (x2.2 + (s.1 27 (((s.1 28 x2.1.toNatClampNeg) * 7) + (s.1 28 a1.toNatClampNeg)).toNatClampNeg))
      refine E_iinc 1 [(3, .int (x2.1 + 1)), (2, .int v4), (0, .ref (Γ.2.1 8)), (1, .int a1)] dX0_withNear_45 rfl rfl (by decide) rfl ?_
      refine E_goto 4 dX0_withNear_48 (by decide) ?_
      exact hr1 (x2.1 + 1, v4)
theorem c_X0_withNear (Γ : GT) (a1 : Int32) (s : St)  (x : Int32) (h : f_X0_withNear a1 s = some x) (l : Launch) : MC l yX0_withNear cX0_withNear 4 (some .int) 3 WC Γ [.ref (Γ.2.1 8), .int a1] s ((emI s) x) := MC_of (by decide +kernel) (Nat.le_of_ble_eq_true rfl) (e_X0_withNear Γ a1 s ) h l
set_option maxRecDepth 100000 in
set_option maxHeartbeats 4000000 in
theorem e_X0_ordersFrom (Γ : GT) (fo : Int32 → Int32 → Int32 → St → Option (Int64 × St)) (n : Nat) (hfo : ∀ a1 a2 a3 s x, fo a1 a2 a3 s = some x → ∀ l, MC l yX0_ordersFrom cX0_ordersFrom 7 (some .long) (4 + n) WC Γ [.ref (Γ.2.1 8), .int a1, .int a2, .int a3] s (emLS x)) (a1 : Int32) (a2 : Int32) (a3 : Int32) (s : St) : E RX0 cX0_ordersFrom 7 (some .long) (4 + (n + 1)) WC Γ emLS 0 [(0, .ref (Γ.2.1 8)), (1, .int a1), (2, .int a2), (3, .int a3)] [] s (g_X0_ordersFrom fo a1 a2 a3 s) := by
  unfold g_X0_ordersFrom
  refine E_iload_n 3 dX0_ordersFrom_0 rfl rfl ?_
  refine E_aload_n 0 dX0_ordersFrom_1 rfl rfl ?_
  refine E_getI (j := 4) (ci := 0) (T := TX0) (C0 := RX0) (ref := "SameWrong$Deals") dX0_ordersFrom_2 rfl (by decide) rfl inX0 (by decide) kw_258 rfl rfl ?_
  refine E_icmplt 21 dX0_ordersFrom_5 (by decide) ?_ ?_
  · refine E_iload_n 1 dX0_ordersFrom_21 rfl rfl ?_
    refine E_aload_n 0 dX0_ordersFrom_22 rfl rfl ?_
    refine E_getR 2 (j := 0) (ci := 0) (T := TX0) (C0 := RX0) (ref := "SameWrong$Deals") dX0_ordersFrom_23 rfl (by decide) rfl inX0 (by decide) kw_254 rfl rfl rfl ?_
    refine E_getI (j := 0) (ci := 7) (T := TX7) (C0 := RX7) (ref := "SameWrong$Room") dX0_ordersFrom_26 rfl (by decide) rfl inX7 (by decide) kw_71 rfl rfl ?_
    refine E_icmpge 38 dX0_ordersFrom_29 (by decide) ?_ ?_
    · refine E_lconst (v := 0) dX0_ordersFrom_38 rfl ?_
      exact E_lreturn dX0_ordersFrom_39 rfl rfl
    · refine E_iload_n 1 dX0_ordersFrom_32 rfl rfl ?_
      refine E_bipush (v := 7) dX0_ordersFrom_33 (by decide) ?_
      refine E_icmplt 40 dX0_ordersFrom_35 (by decide) ?_ ?_
      · refine E_lconst (v := 0) dX0_ordersFrom_40 rfl ?_
        refine E_lstore [(4, .long 0), (0, .ref (Γ.2.1 8)), (1, .int a1), (2, .int a2), (3, .int a3)] dX0_ordersFrom_41 (by decide) rfl ?_
        refine E_iconst (v := 0) dX0_ordersFrom_43 (by decide) ?_
        refine E_istore [(6, .int 0), (4, .long 0), (0, .ref (Γ.2.1 8)), (1, .int a1), (2, .int a2), (3, .int a3)] dX0_ordersFrom_44 (by decide) rfl ?_
        refine E_lp (F := L_X0_ordersFrom_46 a1 a2 a3 fo) (fun (x : Int32 × Int64 × St) => [(6, .int x.1), (4, .long x.2.1), (0, .ref (Γ.2.1 8)), (1, .int a1), (2, .int a2), (3, .int a3)]) (fun (x : Int32 × Int64 × St) => x.2.2) ?_ NN (0, 0, s)
        intro r1 hr1 x2
        show E _ _ _ _ _ _ _ _ _ _ _ _ (L_X0_ordersFrom_46 a1 a2 a3 fo r1 x2)
        unfold L_X0_ordersFrom_46
        refine E_iload 0 dX0_ordersFrom_46 rfl ?_
        refine E_aload_n 2 dX0_ordersFrom_48 rfl rfl ?_
        refine E_getR 2 (j := 0) (ci := 0) (T := TX0) (C0 := RX0) (ref := "SameWrong$Deals") dX0_ordersFrom_49 rfl (by decide) rfl inX0 (by decide) kw_254 rfl rfl rfl ?_
        refine E_getI (j := 0) (ci := 7) (T := TX7) (C0 := RX7) (ref := "SameWrong$Room") dX0_ordersFrom_52 rfl (by decide) rfl inX7 (by decide) kw_71 rfl rfl ?_
        refine E_icmpge 106 dX0_ordersFrom_55 (by decide) ?_ ?_
        · refine E_lload 1 dX0_ordersFrom_106 rfl ?_
          exact E_lreturn dX0_ordersFrom_108 rfl rfl
        · refine E_iload_n 4 dX0_ordersFrom_58 rfl rfl ?_
          refine E_iload 0 dX0_ordersFrom_59 rfl ?_
          refine E_ishr dX0_ordersFrom_61 ?_
          refine E_iconst (v := 1) dX0_ordersFrom_62 (by decide) ?_
          refine E_iand dX0_ordersFrom_63 ?_
          refine E_ifne 100 dX0_ordersFrom_64 (by decide) ?_ ?_
          · refine E_iinc 0 [(6, .int (x2.1 + 1)), (4, .long x2.2.1), (0, .ref (Γ.2.1 8)), (1, .int a1), (2, .int a2), (3, .int a3)] dX0_ordersFrom_100 rfl rfl (by decide) rfl ?_
            refine E_goto 46 dX0_ordersFrom_103 (by decide) ?_
            exact hr1 (x2.1 + 1, x2.2.1, x2.2.2)
          · refine E_aload_n 2 dX0_ordersFrom_67 rfl rfl ?_
            refine E_getR 28 (j := 3) (ci := 0) (T := TX0) (C0 := RX0) (ref := "SameWrong$Deals") dX0_ordersFrom_68 rfl (by decide) rfl inX0 (by decide) kw_257 rfl rfl rfl ?_
            refine E_iload_n 3 dX0_ordersFrom_71 rfl rfl ?_
            refine E_iload 0 dX0_ordersFrom_72 rfl ?_
            refine E_iastore dX0_ordersFrom_74 rfl (by decide) ?_
            refine E_bd (fun s3 => ?_)
            refine E_lload 1 dX0_ordersFrom_75 rfl ?_
            refine E_aload_n 2 dX0_ordersFrom_77 rfl rfl ?_
            refine E_iload_n 3 dX0_ordersFrom_78 rfl rfl ?_
            refine E_iconst (v := 1) dX0_ordersFrom_79 (by decide) ?_
            refine E_iadd dX0_ordersFrom_80 ?_
            refine E_iload_n 4 dX0_ordersFrom_81 rfl rfl ?_
            refine E_iconst (v := 1) dX0_ordersFrom_82 (by decide) ?_
            refine E_iload 0 dX0_ordersFrom_83 rfl ?_
            refine E_ishl dX0_ordersFrom_85 ?_
            refine E_ior dX0_ordersFrom_86 ?_
            refine E_iload_n 5 dX0_ordersFrom_87 rfl rfl ?_
            refine E_aload_n 2 dX0_ordersFrom_88 rfl rfl ?_
            refine E_iload_n 3 dX0_ordersFrom_89 rfl rfl ?_
            refine E_callVI (T := TX0) (ci := 0) [.int a1] [.int a3, .int (a2 ||| (1 <<< (x2.1 &&& 31))), .int (a1 + 1), .ref (Γ.2.1 8), .long x2.2.1] dX0_ordersFrom_90 rfl kw_606 kw_608 kp_14 kw_10 ko_X0_withNear rfl hy_X0_withNear rfl (by omega) (Nat.le_of_ble_eq_true rfl) rfl (by decide) rfl (c_X0_withNear Γ a1 s3) (fun v4 => ?_)
            refine E_iadd dX0_ordersFrom_93 ?_
            refine E_callVLS (T := TX0) (ci := 0) [.int (a1 + 1), .int (a2 ||| (1 <<< (x2.1 &&& 31))), .int (a3 + v4)] [.long x2.2.1] dX0_ordersFrom_94 rfl kw_599 kw_601 kp_13 kw_10 ko_X0_ordersFrom rfl hy_X0_ordersFrom rfl (by omega) (Nat.le_of_ble_eq_true rfl) rfl (by decide) rfl (hfo (a1 + 1) (a2 ||| (1 <<< (x2.1 &&& 31))) (a3 + v4) s3) (fun p5 => ?_)
            refine E_ladd dX0_ordersFrom_97 ?_
            refine E_lstore [(4, .long (x2.2.1 + p5.1)), (6, .int x2.1), (0, .ref (Γ.2.1 8)), (1, .int a1), (2, .int a2), (3, .int a3)] dX0_ordersFrom_98 (by decide) rfl ?_
            refine E_bl (fun v6 => [(4, .long v6), (6, .int x2.1), (0, .ref (Γ.2.1 8)), (1, .int a1), (2, .int a2), (3, .int a3)]) (fun v6 => ?_) (x2.2.1 + p5.1)
            refine E_iinc 1 [(6, .int (x2.1 + 1)), (4, .long v6), (0, .ref (Γ.2.1 8)), (1, .int a1), (2, .int a2), (3, .int a3)] dX0_ordersFrom_100 rfl rfl (by decide) rfl ?_
            refine E_goto 46 dX0_ordersFrom_103 (by decide) ?_
            exact hr1 (x2.1 + 1, v6, p5.2)
      · refine E_lconst (v := 0) dX0_ordersFrom_38 rfl ?_
        exact E_lreturn dX0_ordersFrom_39 rfl rfl
  · refine E_aload_n 0 dX0_ordersFrom_8 rfl rfl ?_
    refine E_getR 2 (j := 0) (ci := 0) (T := TX0) (C0 := RX0) (ref := "SameWrong$Deals") dX0_ordersFrom_9 rfl (by decide) rfl inX0 (by decide) kw_254 rfl rfl rfl ?_
    refine E_getI (j := 0) (ci := 7) (T := TX7) (C0 := RX7) (ref := "SameWrong$Room") dX0_ordersFrom_12 rfl (by decide) rfl inX7 (by decide) kw_71 rfl rfl ?_
    refine E_iload_n 1 dX0_ordersFrom_15 rfl rfl ?_
    refine E_isub dX0_ordersFrom_16 ?_
    refine E_callSL [.int ((s.1 2 0) - a1)] [] dX0_ordersFrom_17 rfl kw_603 kw_604 kw_10 ko_X0_orders hy_X0_orders rfl (by omega) (Nat.le_of_ble_eq_true rfl) (c_X0_orders Γ ((s.1 2 0) - a1) s) (fun v7 => ?_)
    exact E_lreturn dX0_ordersFrom_20 rfl rfl
theorem c_X0_ordersFrom (Γ : GT) : ∀ (n : Nat) (a1 : Int32) (a2 : Int32) (a3 : Int32) (s : St) (x : (Int64 × St)) (h : f_X0_ordersFrom n a1 a2 a3 s = some x) (l : Launch), MC l yX0_ordersFrom cX0_ordersFrom 7 (some .long) (4 + n) WC Γ [.ref (Γ.2.1 8), .int a1, .int a2, .int a3] s (emLS x) := by
  intro n
  induction n with
  | zero => intro a1 a2 a3 s x h; cases h
  | succ n ih => exact fun a1 a2 a3 s x h l => MC_of (by decide +kernel) (Nat.le_of_ble_eq_true rfl) (e_X0_ordersFrom Γ (f_X0_ordersFrom n) n ih a1 a2 a3 s) h l
set_option maxRecDepth 100000 in
set_option maxHeartbeats 4000000 in
theorem e_X0_millionths (Γ : GT)  (s : St)  : E RX0 cX0_millionths 3 (some .int) 15 WC Γ emIS 0 [(0, .ref (Γ.2.1 8))] [] s (f_X0_millionths  s) := by
  unfold f_X0_millionths
  refine E_aload_n 0 dX0_millionths_0 rfl rfl ?_
  refine E_getR 2 (j := 0) (ci := 0) (T := TX0) (C0 := RX0) (ref := "SameWrong$Deals") dX0_millionths_1 rfl (by decide) rfl inX0 (by decide) kw_254 rfl rfl rfl ?_
  refine E_getI (j := 0) (ci := 7) (T := TX7) (C0 := RX7) (ref := "SameWrong$Room") dX0_millionths_4 rfl (by decide) rfl inX7 (by decide) kw_71 rfl rfl ?_
  refine E_bipush (v := 7) dX0_millionths_7 (by decide) ?_
  refine E_icmple 15 dX0_millionths_9 (by decide) ?_ ?_
  · refine E_iconst (v := 0) dX0_millionths_15 (by decide) ?_
    refine E_istore_n [(1, .int 0), (0, .ref (Γ.2.1 8))] dX0_millionths_16 rfl (by decide) rfl ?_
    refine E_jn 82 (fun (y : St) => [(0, .ref (Γ.2.1 8))]) (fun (y : St) => []) (fun (y : St) => y) ?_ ?_
    · intro y2
      refine E_aload_n 0 dX0_millionths_82 rfl rfl ?_
      refine E_aload_n 0 dX0_millionths_83 rfl rfl ?_
      refine E_getR 6 (j := 1) (ci := 0) (T := TX0) (C0 := RX0) (ref := "SameWrong$Deals") dX0_millionths_84 rfl (by decide) rfl inX0 (by decide) kw_255 rfl rfl rfl ?_
      refine E_callVI (T := TX6) (ci := 6) [] [.ref (Γ.2.1 8)] dX0_millionths_87 rfl kw_598 kw_589 kw_590 kw_8 ko_X6_besideInAll rfl hy_X6_besideInAll rfl (by decide) (Nat.le_of_ble_eq_true rfl) rfl (by decide) rfl (c_X6_besideInAll Γ y2) (fun v3 => ?_)
      refine E_putI (j := 4) (ci := 0) (T := TX0) (C0 := RX0) (ref := "SameWrong$Deals") dX0_millionths_90 rfl (by decide) rfl inX0 (by decide) kw_258 rfl tyX0_ok nmX0 rfl rfl ?_
      refine E_bd (fun s4 => ?_)
      refine E_aload_n 0 dX0_millionths_93 rfl rfl ?_
      refine E_iconst (v := 0) dX0_millionths_94 (by decide) ?_
      refine E_iconst (v := 0) dX0_millionths_95 (by decide) ?_
      refine E_iconst (v := 0) dX0_millionths_96 (by decide) ?_
      refine E_callVLS (T := TX0) (ci := 0) [.int 0, .int 0, .int 0] [] dX0_millionths_97 rfl kw_599 kw_601 kp_13 kw_10 ko_X0_ordersFrom rfl hy_X0_ordersFrom rfl (by decide) (Nat.le_of_ble_eq_true rfl) rfl (by decide) rfl (c_X0_ordersFrom Γ 9 0 0 0 s4) (fun p5 => ?_)
      refine E_ldc2 (v := 1000000) dX0_millionths_100 kw_611 ?_
      refine E_lmul dX0_millionths_103 ?_
      refine E_aload_n 0 dX0_millionths_104 rfl rfl ?_
      refine E_getR 2 (j := 0) (ci := 0) (T := TX0) (C0 := RX0) (ref := "SameWrong$Deals") dX0_millionths_105 rfl (by decide) rfl inX0 (by decide) kw_254 rfl rfl rfl ?_
      refine E_getI (j := 0) (ci := 7) (T := TX7) (C0 := RX7) (ref := "SameWrong$Room") dX0_millionths_108 rfl (by decide) rfl inX7 (by decide) kw_71 rfl rfl ?_
      refine E_callSL [.int (p5.2.1 2 0)] [.long (p5.1 * 1000000)] dX0_millionths_111 rfl kw_603 kw_604 kw_10 ko_X0_orders hy_X0_orders rfl (by decide) (Nat.le_of_ble_eq_true rfl) (c_X0_orders Γ (p5.2.1 2 0) p5.2) (fun v6 => ?_)
      refine E_ldiv dX0_millionths_114 ?_
      refine E_l2i dX0_millionths_115 ?_
      exact E_ireturn dX0_millionths_116 rfl rfl
    · intro K1 hK1
      refine E_lp (F := L_X0_millionths_17 K1) (fun (x : Int32 × St) => [(1, .int x.1), (0, .ref (Γ.2.1 8))]) (fun (x : Int32 × St) => x.2) ?_ NN (0, s)
      intro r7 hr7 x8
      show E _ _ _ _ _ _ _ _ _ _ _ _ (L_X0_millionths_17 K1 r7 x8)
      unfold L_X0_millionths_17
      refine E_iload_n 0 dX0_millionths_17 rfl rfl ?_
      refine E_aload_n 1 dX0_millionths_18 rfl rfl ?_
      refine E_getR 2 (j := 0) (ci := 0) (T := TX0) (C0 := RX0) (ref := "SameWrong$Deals") dX0_millionths_19 rfl (by decide) rfl inX0 (by decide) kw_254 rfl rfl rfl ?_
      refine E_getI (j := 0) (ci := 7) (T := TX7) (C0 := RX7) (ref := "SameWrong$Room") dX0_millionths_22 rfl (by decide) rfl inX7 (by decide) kw_71 rfl rfl ?_
      refine E_icmpge 82 dX0_millionths_25 (by decide) ?_ ?_
      · refine E_lvsub [1] [(0, .ref (Γ.2.1 8))] rfl ?_
        exact hK1 x8.2
      · refine E_iconst (v := 0) dX0_millionths_28 (by decide) ?_
        refine E_istore_n [(2, .int 0), (1, .int x8.1), (0, .ref (Γ.2.1 8))] dX0_millionths_29 rfl (by decide) rfl ?_
        refine E_lp (F := L_X0_millionths_30 r7 x8) (fun (x : Int32 × St) => [(2, .int x.1), (1, .int x8.1), (0, .ref (Γ.2.1 8))]) (fun (x : Int32 × St) => x.2) ?_ NN (0, x8.2)
        intro r9 hr9 x10
        show E _ _ _ _ _ _ _ _ _ _ _ _ (L_X0_millionths_30 r7 x8 r9 x10)
        unfold L_X0_millionths_30
        refine E_iload_n 0 dX0_millionths_30 rfl rfl ?_
        refine E_aload_n 2 dX0_millionths_31 rfl rfl ?_
        refine E_getR 2 (j := 0) (ci := 0) (T := TX0) (C0 := RX0) (ref := "SameWrong$Deals") dX0_millionths_32 rfl (by decide) rfl inX0 (by decide) kw_254 rfl rfl rfl ?_
        refine E_getI (j := 0) (ci := 7) (T := TX7) (C0 := RX7) (ref := "SameWrong$Room") dX0_millionths_35 rfl (by decide) rfl inX7 (by decide) kw_71 rfl rfl ?_
        refine E_icmpge 76 dX0_millionths_38 (by decide) ?_ ?_
        · refine E_iinc 1 [(1, .int (x8.1 + 1)), (2, .int x10.1), (0, .ref (Γ.2.1 8))] dX0_millionths_76 rfl rfl (by decide) rfl ?_
          refine E_goto 17 dX0_millionths_79 (by decide) ?_
          refine E_lvsub [0, 2] [(1, .int (x8.1 + 1)), (0, .ref (Γ.2.1 8))] rfl ?_
          exact hr7 (x8.1 + 1, x10.2)
        · refine E_aload_n 2 dX0_millionths_41 rfl rfl ?_
          refine E_getR 27 (j := 2) (ci := 0) (T := TX0) (C0 := RX0) (ref := "SameWrong$Deals") dX0_millionths_42 rfl (by decide) rfl inX0 (by decide) kw_256 rfl rfl rfl ?_
          refine E_iload_n 1 dX0_millionths_45 rfl rfl ?_
          refine E_bipush (v := 7) dX0_millionths_46 (by decide) ?_
          refine E_imul dX0_millionths_48 ?_
          refine E_iload_n 0 dX0_millionths_49 rfl rfl ?_
          refine E_iadd dX0_millionths_50 ?_
          refine E_iload_n 1 dX0_millionths_51 rfl rfl ?_
          refine E_iload_n 0 dX0_millionths_52 rfl rfl ?_
          refine E_jn 69 (fun (y : Int32) => [(2, .int x10.1), (1, .int x8.1), (0, .ref (Γ.2.1 8))]) (fun (y : Int32) => [.int y, .int ((x8.1 * 7) + x10.1), .ref (Γ.2.1 27)]) (fun (y : Int32) => x10.2) ?_ ?_
          · intro y12
            refine E_iastore dX0_millionths_69 rfl (by decide) ?_
            refine E_bd (fun s13 => ?_)
            refine E_iinc 0 [(2, .int (x10.1 + 1)), (1, .int x8.1), (0, .ref (Γ.2.1 8))] dX0_millionths_70 rfl rfl (by decide) rfl ?_
            refine E_goto 30 dX0_millionths_73 (by decide) ?_
            exact hr9 (x10.1 + 1, s13)
          · intro K11 hK11
            refine E_icmpne 60 dX0_millionths_53 (by decide) ?_ ?_
            · refine E_aload_n 2 dX0_millionths_60 rfl rfl ?_
              refine E_getR 6 (j := 1) (ci := 0) (T := TX0) (C0 := RX0) (ref := "SameWrong$Deals") dX0_millionths_61 rfl (by decide) rfl inX0 (by decide) kw_255 rfl rfl rfl ?_
              refine E_iload_n 1 dX0_millionths_64 rfl rfl ?_
              refine E_iload_n 0 dX0_millionths_65 rfl rfl ?_
              refine E_callVI (T := TX6) (ci := 6) [.int x8.1, .int x10.1] [.int ((x8.1 * 7) + x10.1), .ref (Γ.2.1 27)] dX0_millionths_66 rfl kw_597 kw_523 kw_524 kw_8 ko_X6_sameWrongs rfl hy_X6_sameWrongs rfl (by decide) (Nat.le_of_ble_eq_true rfl) rfl (by decide) rfl (c_X6_sameWrongs Γ x8.1 x10.1 x10.2) (fun v14 => ?_)
              exact hK11 v14
            · refine E_iconst (v := 0) dX0_millionths_56 (by decide) ?_
              refine E_goto 69 dX0_millionths_57 (by decide) ?_
              exact hK11 0
  · refine E_bipush (v := (-4)) dX0_millionths_12 (by decide) ?_
    exact E_ireturn dX0_millionths_14 rfl rfl
theorem c_X0_millionths (Γ : GT)  (s : St)  (x : (Int32 × St)) (h : f_X0_millionths  s = some x) (l : Launch) : MC l yX0_millionths cX0_millionths 3 (some .int) 15 WC Γ [.ref (Γ.2.1 8)] s (emIS x) := MC_of (by decide +kernel) (Nat.le_of_ble_eq_true rfl) (e_X0_millionths Γ  s ) h l
set_option maxRecDepth 100000 in
set_option maxHeartbeats 4000000 in
theorem e_J9_abs_067f4 (Γ : GT) (a0 : Int64) (s : St)  : E RJ9 cJ9_abs_067f4 2 (some .long) 1 WC Γ (emL s) 0 [(0, .long a0)] [] s (f_J9_abs_067f4 a0 s) := by
  unfold f_J9_abs_067f4
  refine E_lload_n 0 dJ9_abs_067f4_0 rfl rfl ?_
  refine E_lconst (v := 0) dJ9_abs_067f4_1 rfl ?_
  refine E_lge 11 dJ9_abs_067f4_2 dJ9_abs_067f4_3 (by decide) ?_ ?_
  · refine E_lload_n 0 dJ9_abs_067f4_11 rfl rfl ?_
    exact E_lreturn dJ9_abs_067f4_12 rfl rfl
  · refine E_lload_n 0 dJ9_abs_067f4_6 rfl rfl ?_
    refine E_lneg dJ9_abs_067f4_7 ?_
    refine E_goto 12 dJ9_abs_067f4_8 (by decide) ?_
    exact E_lreturn dJ9_abs_067f4_12 rfl rfl
theorem c_J9_abs_067f4 (Γ : GT) (a0 : Int64) (s : St)  (x : Int64) (h : f_J9_abs_067f4 a0 s = some x) (l : Launch) : MC l yJ9_abs_067f4 cJ9_abs_067f4 2 (some .long) 1 WC Γ [.long a0] s ((emL s) x) := MC_of (by decide +kernel) (Nat.le_of_ble_eq_true rfl) (e_J9_abs_067f4 Γ a0 s ) h l
set_option maxRecDepth 100000 in
set_option maxHeartbeats 4000000 in
theorem e_X1_commonDivisor (Γ : GT) (a0 : Int64) (a2 : Int64) (s : St)  : E RX1 cX1_commonDivisor 11 (some .long) 1 WC Γ (emL s) 0 [(0, .long a0), (2, .long a2)] [] s (f_X1_commonDivisor a0 a2 s) := by
  unfold f_X1_commonDivisor
  refine E_lload_n 0 dX1_commonDivisor_0 rfl rfl ?_
  refine E_lstore [(4, .long a0), (0, .long a0), (2, .long a2)] dX1_commonDivisor_1 (by decide) rfl ?_
  refine E_lload_n 2 dX1_commonDivisor_3 rfl rfl ?_
  refine E_lstore [(6, .long a2), (4, .long a0), (0, .long a0), (2, .long a2)] dX1_commonDivisor_4 (by decide) rfl ?_
  refine E_iconst (v := 0) dX1_commonDivisor_6 (by decide) ?_
  refine E_istore [(8, .int 0), (6, .long a2), (4, .long a0), (0, .long a0), (2, .long a2)] dX1_commonDivisor_7 (by decide) rfl ?_
  refine E_lvsub [0, 1, 2] [(8, .int 0), (6, .long a2), (4, .long a0)] rfl ?_
  refine E_lp (F := L_X1_commonDivisor_9) (fun (x : Int32 × Int64 × Int64) => [(8, .int x.1), (6, .long x.2.1), (4, .long x.2.2)]) (fun (x : Int32 × Int64 × Int64) => s) ?_ NN (0, a2, a0)
  intro r1 hr1 x2
  show E _ _ _ _ _ _ _ _ _ _ _ _ (L_X1_commonDivisor_9 r1 x2)
  unfold L_X1_commonDivisor_9
  refine E_iload 0 dX1_commonDivisor_9 rfl ?_
  refine E_bipush (v := 100) dX1_commonDivisor_11 (by decide) ?_
  refine E_icmpge 44 dX1_commonDivisor_13 (by decide) ?_ ?_
  · refine E_lload 2 dX1_commonDivisor_44 rfl ?_
    exact E_lreturn dX1_commonDivisor_46 rfl rfl
  · refine E_lload 1 dX1_commonDivisor_16 rfl ?_
    refine E_lconst (v := 0) dX1_commonDivisor_18 rfl ?_
    refine E_leq 44 dX1_commonDivisor_19 dX1_commonDivisor_20 (by decide) ?_ ?_
    · refine E_lload 2 dX1_commonDivisor_44 rfl ?_
      exact E_lreturn dX1_commonDivisor_46 rfl rfl
    · refine E_lload 2 dX1_commonDivisor_23 rfl ?_
      refine E_lload 1 dX1_commonDivisor_25 rfl ?_
      refine E_lrem dX1_commonDivisor_27 ?_
      refine E_lstore [(9, .long (x2.2.2 - x2.2.2 / x2.2.1 * x2.2.1)), (8, .int x2.1), (6, .long x2.2.1), (4, .long x2.2.2)] dX1_commonDivisor_28 (by decide) rfl ?_
      refine E_bl (fun v3 => [(9, .long v3), (8, .int x2.1), (6, .long x2.2.1), (4, .long x2.2.2)]) (fun v3 => ?_) (x2.2.2 - x2.2.2 / x2.2.1 * x2.2.1)
      refine E_lload 2 dX1_commonDivisor_30 rfl ?_
      refine E_lstore [(4, .long x2.2.1), (9, .long v3), (8, .int x2.1), (6, .long x2.2.1)] dX1_commonDivisor_32 (by decide) rfl ?_
      refine E_lload 1 dX1_commonDivisor_34 rfl ?_
      refine E_lstore [(6, .long v3), (4, .long x2.2.1), (9, .long v3), (8, .int x2.1)] dX1_commonDivisor_36 (by decide) rfl ?_
      refine E_iinc 3 [(8, .int (x2.1 + 1)), (6, .long v3), (4, .long x2.2.1), (9, .long v3)] dX1_commonDivisor_38 rfl rfl (by decide) rfl ?_
      refine E_goto 9 dX1_commonDivisor_41 (by decide) ?_
      refine E_lvsub [0, 1, 2] [(8, .int (x2.1 + 1)), (6, .long v3), (4, .long x2.2.1)] rfl ?_
      exact hr1 (x2.1 + 1, v3, x2.2.1)
theorem c_X1_commonDivisor (Γ : GT) (a0 : Int64) (a2 : Int64) (s : St)  (x : Int64) (h : f_X1_commonDivisor a0 a2 s = some x) (l : Launch) : MC l yX1_commonDivisor cX1_commonDivisor 11 (some .long) 1 WC Γ [.long a0, .long a2] s ((emL s) x) := MC_of (by decide +kernel) (Nat.le_of_ble_eq_true rfl) (e_X1_commonDivisor Γ a0 a2 s ) h l
set_option maxRecDepth 100000 in
set_option maxHeartbeats 4000000 in
theorem e_X1_become (Γ : GT) (a1 : Int64) (a3 : Int64) (s : St)  : E RX1 cX1_become 7 none 2 WC Γ emV 0 [(0, .ref (Γ.2.1 10)), (1, .long a1), (3, .long a3)] [] s (f_X1_become a1 a3 s) := by
  unfold f_X1_become
  refine E_lload_n 1 dX1_become_0 rfl rfl ?_
  refine E_callSL [.long a1] [] dX1_become_1 rfl kw_561 kw_562 kw_14 ko_J9_abs_067f4 hy_J9_abs_067f4 rfl (by decide) (Nat.le_of_ble_eq_true rfl) (c_J9_abs_067f4 Γ a1 s) (fun v1 => ?_)
  refine E_lload_n 2 dX1_become_4 rfl rfl ?_
  refine E_callSL [.long v1, .long a3] [] dX1_become_5 rfl kw_564 kw_565 kw_5 ko_X1_commonDivisor hy_X1_commonDivisor rfl (by decide) (Nat.le_of_ble_eq_true rfl) (c_X1_commonDivisor Γ v1 a3 s) (fun v2 => ?_)
  refine E_lstore [(5, .long v2), (0, .ref (Γ.2.1 10)), (1, .long a1), (3, .long a3)] dX1_become_8 (by decide) rfl ?_
  refine E_aload_n 1 dX1_become_10 rfl rfl ?_
  refine E_lload 0 dX1_become_11 rfl ?_
  refine E_lconst (v := 0) dX1_become_13 rfl ?_
  refine E_jn 26 (fun (y : Int64) => [(5, .long v2), (0, .ref (Γ.2.1 10)), (3, .long a3)]) (fun (y : Int64) => [.long y, .ref (Γ.2.1 10)]) (fun (y : Int64) => s) ?_ ?_
  · intro y4
    refine E_putJ (j := 0) (ci := 1) (T := TX1) (C0 := RX1) (ref := "SameWrong$Fraction") dX1_become_26 rfl (by decide) rfl inX1 (by decide) kw_142 rfl tyX1_ok nmX1 rfl rfl ?_
    refine E_bd (fun s5 => ?_)
    refine E_aload_n 1 dX1_become_29 rfl rfl ?_
    refine E_lload 0 dX1_become_30 rfl ?_
    refine E_lconst (v := 0) dX1_become_32 rfl ?_
    refine E_jn 45 (fun (y : Int64) => []) (fun (y : Int64) => [.long y, .ref (Γ.2.1 10)]) (fun (y : Int64) => s5) ?_ ?_
    · intro y7
      refine E_putJ (j := 1) (ci := 1) (T := TX1) (C0 := RX1) (ref := "SameWrong$Fraction") dX1_become_45 rfl (by decide) rfl inX1 (by decide) kw_144 rfl tyX1_ok nmX1 rfl rfl ?_
      refine E_bd (fun s8 => ?_)
      exact E_return dX1_become_48 rfl rfl
    · intro K6 hK6
      refine E_lne 41 dX1_become_33 dX1_become_34 (by decide) ?_ ?_
      · refine E_lload_n 2 dX1_become_41 rfl rfl ?_
        refine E_lload 0 dX1_become_42 rfl ?_
        refine E_ldiv dX1_become_44 ?_
        refine E_lvsub [] [] rfl ?_
        exact hK6 (a3 / v2)
      · refine E_lconst (v := 1) dX1_become_37 rfl ?_
        refine E_goto 45 dX1_become_38 (by decide) ?_
        refine E_lvsub [] [] rfl ?_
        exact hK6 1
  · intro K3 hK3
    refine E_lne 22 dX1_become_14 dX1_become_15 (by decide) ?_ ?_
    · refine E_lload_n 2 dX1_become_22 rfl rfl ?_
      refine E_lload 0 dX1_become_23 rfl ?_
      refine E_ldiv dX1_become_25 ?_
      refine E_lvsub [0, 1, 3] [(5, .long v2), (0, .ref (Γ.2.1 10)), (3, .long a3)] rfl ?_
      exact hK3 (a1 / v2)
    · refine E_lconst (v := 0) dX1_become_18 rfl ?_
      refine E_goto 26 dX1_become_19 (by decide) ?_
      refine E_lvsub [0, 1, 3] [(5, .long v2), (0, .ref (Γ.2.1 10)), (3, .long a3)] rfl ?_
      exact hK3 0
theorem c_X1_become (Γ : GT) (a1 : Int64) (a3 : Int64) (s : St)  (x : St) (h : f_X1_become a1 a3 s = some x) (l : Launch) : MC l yX1_become cX1_become 7 none 2 WC Γ [.ref (Γ.2.1 10), .long a1, .long a3] s (emV x) := MC_of (by decide +kernel) (Nat.le_of_ble_eq_true rfl) (e_X1_become Γ a1 a3 s ) h l
set_option maxRecDepth 100000 in
set_option maxHeartbeats 4000000 in
theorem e_X1_part (Γ : GT) (a1 : Int32) (s : St)  : E RX1 cX1_part 2 (some .long) 1 WC Γ (emL s) 0 [(0, .ref (Γ.2.1 10)), (1, .int a1)] [] s (f_X1_part a1 s) := by
  unfold f_X1_part
  refine E_iload_n 1 dX1_part_0 rfl rfl ?_
  refine E_ifne 11 dX1_part_1 (by decide) ?_ ?_
  · refine E_aload_n 0 dX1_part_11 rfl rfl ?_
    refine E_getJ (j := 1) (ci := 1) (T := TX1) (C0 := RX1) (ref := "SameWrong$Fraction") dX1_part_12 rfl (by decide) rfl inX1 (by decide) kw_144 rfl rfl ?_
    exact E_lreturn dX1_part_15 rfl rfl
  · refine E_aload_n 0 dX1_part_4 rfl rfl ?_
    refine E_getJ (j := 0) (ci := 1) (T := TX1) (C0 := RX1) (ref := "SameWrong$Fraction") dX1_part_5 rfl (by decide) rfl inX1 (by decide) kw_142 rfl rfl ?_
    refine E_goto 15 dX1_part_8 (by decide) ?_
    exact E_lreturn dX1_part_15 rfl rfl
theorem c_X1_part (Γ : GT) (a1 : Int32) (s : St)  (x : Int64) (h : f_X1_part a1 s = some x) (l : Launch) : MC l yX1_part cX1_part 2 (some .long) 1 WC Γ [.ref (Γ.2.1 10), .int a1] s ((emL s) x) := MC_of (by decide +kernel) (Nat.le_of_ble_eq_true rfl) (e_X1_part Γ a1 s ) h l
set_option maxRecDepth 100000 in
set_option maxHeartbeats 4000000 in
theorem e_J7_fill_53178 (Γ : GT) (a0 : Nat) (n0 : Nat) (a1 : Int32) (s : St) (h0 : WC.2.1 a0 = .inr (0, n0)) (k0 : a0 < WC.1) : E RJ7 cJ7_fill_53178 4 none 1 WC Γ emV 0 [(0, .ref (Γ.2.1 a0)), (1, .int a1)] [] s (f_J7_fill_53178 a0 n0 a1 s) := by
  unfold f_J7_fill_53178
  refine E_iconst (v := 0) dJ7_fill_53178_0 (by decide) ?_
  refine E_istore_n [(2, .int 0), (0, .ref (Γ.2.1 a0)), (1, .int a1)] dJ7_fill_53178_1 rfl (by decide) rfl ?_
  refine E_aload_n 1 dJ7_fill_53178_2 rfl rfl ?_
  refine E_alen dJ7_fill_53178_3 h0 (by decide) k0 ?_
  refine E_istore_n [(3, .int (nI n0)), (2, .int 0), (0, .ref (Γ.2.1 a0)), (1, .int a1)] dJ7_fill_53178_4 rfl (by decide) rfl ?_
  refine E_bv (fun v1 => [(3, .int v1), (2, .int 0), (0, .ref (Γ.2.1 a0)), (1, .int a1)]) (fun v1 => ?_) (nI n0)
  refine E_lp (F := L_J7_fill_53178_5 a0 n0 a1 v1) (fun (x : Int32 × St) => [(3, .int v1), (2, .int x.1), (0, .ref (Γ.2.1 a0)), (1, .int a1)]) (fun (x : Int32 × St) => x.2) ?_ NN (0, s)
  intro r2 hr2 x3
  show E _ _ _ _ _ _ _ _ _ _ _ _ (L_J7_fill_53178_5 a0 n0 a1 v1 r2 x3)
  unfold L_J7_fill_53178_5
  refine E_iload_n 1 dJ7_fill_53178_5 rfl rfl ?_
  refine E_iload_n 0 dJ7_fill_53178_6 rfl rfl ?_
  refine E_icmpge 20 dJ7_fill_53178_7 (by decide) ?_ ?_
  · exact E_return dJ7_fill_53178_20 rfl rfl
  · refine E_aload_n 2 dJ7_fill_53178_10 rfl rfl ?_
    refine E_iload_n 1 dJ7_fill_53178_11 rfl rfl ?_
    refine E_iload_n 3 dJ7_fill_53178_12 rfl rfl ?_
    refine E_iastore dJ7_fill_53178_13 h0 k0 ?_
    refine E_bd (fun s4 => ?_)
    refine E_iinc 1 [(2, .int (x3.1 + 1)), (3, .int v1), (0, .ref (Γ.2.1 a0)), (1, .int a1)] dJ7_fill_53178_14 rfl rfl (by decide) rfl ?_
    refine E_goto 5 dJ7_fill_53178_17 (by decide) ?_
    refine E_lvsub [1, 0, 2, 3] [(3, .int v1), (2, .int (x3.1 + 1)), (0, .ref (Γ.2.1 a0)), (1, .int a1)] rfl ?_
    exact hr2 (x3.1 + 1, s4)
theorem c_J7_fill_53178 (Γ : GT) (a0 : Nat) (n0 : Nat) (a1 : Int32) (s : St) (h0 : WC.2.1 a0 = .inr (0, n0)) (k0 : a0 < WC.1) (x : St) (h : f_J7_fill_53178 a0 n0 a1 s = some x) (l : Launch) : MC l yJ7_fill_53178 cJ7_fill_53178 4 none 1 WC Γ [.ref (Γ.2.1 a0), .int a1] s (emV x) := MC_of (by decide +kernel) (Nat.le_of_ble_eq_true rfl) (e_J7_fill_53178 Γ a0 n0 a1 s h0 k0) h l
set_option maxRecDepth 100000 in
set_option maxHeartbeats 4000000 in
theorem e_X6_bothWrongs (Γ : GT) (a1 : Int32) (a2 : Int32) (s : St)  : E RX6 cX6_bothWrongs 5 (some .int) 2 WC Γ (emI s) 0 [(0, .ref (Γ.2.1 6)), (1, .int a1), (2, .int a2)] [] s (f_X6_bothWrongs a1 a2 s) := by
  unfold f_X6_bothWrongs
  refine E_iconst (v := 0) dX6_bothWrongs_0 (by decide) ?_
  refine E_istore_n [(3, .int 0), (0, .ref (Γ.2.1 6)), (1, .int a1), (2, .int a2)] dX6_bothWrongs_1 rfl (by decide) rfl ?_
  refine E_iconst (v := 0) dX6_bothWrongs_2 (by decide) ?_
  refine E_istore [(4, .int 0), (3, .int 0), (0, .ref (Γ.2.1 6)), (1, .int a1), (2, .int a2)] dX6_bothWrongs_3 (by decide) rfl ?_
  refine E_lp (F := L_X6_bothWrongs_5 a1 a2 s) (fun (x : Int32 × Int32) => [(4, .int x.1), (3, .int x.2), (0, .ref (Γ.2.1 6)), (1, .int a1), (2, .int a2)]) (fun (x : Int32 × Int32) => s) ?_ NN (0, 0)
  intro r1 hr1 x2
  show E _ _ _ _ _ _ _ _ _ _ _ _ (L_X6_bothWrongs_5 a1 a2 s r1 x2)
  unfold L_X6_bothWrongs_5
  refine E_iload 0 dX6_bothWrongs_5 rfl ?_
  refine E_aload_n 2 dX6_bothWrongs_7 rfl rfl ?_
  refine E_getR 1 (j := 1) (ci := 6) (T := TX6) (C0 := RX6) (ref := "SameWrong$Pairs") dX6_bothWrongs_8 rfl (by decide) rfl inX6 (by decide) kw_198 rfl rfl rfl ?_
  refine E_getI (j := 2) (ci := 4) (T := TX4) (C0 := RX4) (ref := "SameWrong$Key") dX6_bothWrongs_11 rfl (by decide) rfl inX4 (by decide) kw_40 rfl rfl ?_
  refine E_icmpge 37 dX6_bothWrongs_14 (by decide) ?_ ?_
  · refine E_iload_n 1 dX6_bothWrongs_37 rfl rfl ?_
    exact E_ireturn dX6_bothWrongs_38 rfl rfl
  · refine E_aload_n 2 dX6_bothWrongs_17 rfl rfl ?_
    refine E_iload_n 3 dX6_bothWrongs_18 rfl rfl ?_
    refine E_iload_n 4 dX6_bothWrongs_19 rfl rfl ?_
    refine E_iload 0 dX6_bothWrongs_20 rfl ?_
    refine E_callVZ (T := TX6) (ci := 6) [.int a1, .int a2, .int x2.1] [] dX6_bothWrongs_22 rfl kw_526 kw_528 kp_10 kw_8 ko_X6_areBothWrong rfl hy_X6_areBothWrong rfl (by decide) (Nat.le_of_ble_eq_true rfl) rfl (by decide) rfl (c_X6_areBothWrong Γ a1 a2 x2.1 s) (fun v3 => ?_)
    refine E_ifeqb 31 dX6_bothWrongs_25 (by decide) ?_ ?_
    · refine E_iinc 0 [(4, .int (x2.1 + 1)), (3, .int x2.2), (0, .ref (Γ.2.1 6)), (1, .int a1), (2, .int a2)] dX6_bothWrongs_31 rfl rfl (by decide) rfl ?_
      refine E_goto 5 dX6_bothWrongs_34 (by decide) ?_
      exact hr1 (x2.1 + 1, x2.2)
    · refine E_iinc 1 [(3, .int (x2.2 + 1)), (4, .int x2.1), (0, .ref (Γ.2.1 6)), (1, .int a1), (2, .int a2)] dX6_bothWrongs_28 rfl rfl (by decide) rfl ?_
      refine E_iinc 1 [(4, .int (x2.1 + 1)), (3, .int (x2.2 + 1)), (0, .ref (Γ.2.1 6)), (1, .int a1), (2, .int a2)] dX6_bothWrongs_31 rfl rfl (by decide) rfl ?_
      refine E_goto 5 dX6_bothWrongs_34 (by decide) ?_
      exact hr1 (x2.1 + 1, x2.2 + 1)
theorem c_X6_bothWrongs (Γ : GT) (a1 : Int32) (a2 : Int32) (s : St)  (x : Int32) (h : f_X6_bothWrongs a1 a2 s = some x) (l : Launch) : MC l yX6_bothWrongs cX6_bothWrongs 5 (some .int) 2 WC Γ [.ref (Γ.2.1 6), .int a1, .int a2] s ((emI s) x) := MC_of (by decide +kernel) (Nat.le_of_ble_eq_true rfl) (e_X6_bothWrongs Γ a1 a2 s ) h l
set_option maxRecDepth 100000 in
set_option maxHeartbeats 4000000 in
theorem e_J7_fill_d0a16 (Γ : GT) (a0 : Nat) (n0 : Nat) (a1 : Int64) (s : St) (h0 : WC.2.1 a0 = .inr (1, n0)) (k0 : a0 < WC.1) : E RJ7 cJ7_fill_d0a16 5 none 1 WC Γ emV 0 [(0, .ref (Γ.2.1 a0)), (1, .long a1)] [] s (f_J7_fill_d0a16 a0 n0 a1 s) := by
  unfold f_J7_fill_d0a16
  refine E_iconst (v := 0) dJ7_fill_d0a16_0 (by decide) ?_
  refine E_istore_n [(3, .int 0), (0, .ref (Γ.2.1 a0)), (1, .long a1)] dJ7_fill_d0a16_1 rfl (by decide) rfl ?_
  refine E_aload_n 1 dJ7_fill_d0a16_2 rfl rfl ?_
  refine E_alen dJ7_fill_d0a16_3 h0 (by decide) k0 ?_
  refine E_istore [(4, .int (nI n0)), (3, .int 0), (0, .ref (Γ.2.1 a0)), (1, .long a1)] dJ7_fill_d0a16_4 (by decide) rfl ?_
  refine E_bv (fun v1 => [(4, .int v1), (3, .int 0), (0, .ref (Γ.2.1 a0)), (1, .long a1)]) (fun v1 => ?_) (nI n0)
  refine E_lp (F := L_J7_fill_d0a16_6 a0 n0 a1 v1) (fun (x : Int32 × St) => [(4, .int v1), (3, .int x.1), (0, .ref (Γ.2.1 a0)), (1, .long a1)]) (fun (x : Int32 × St) => x.2) ?_ NN (0, s)
  intro r2 hr2 x3
  show E _ _ _ _ _ _ _ _ _ _ _ _ (L_J7_fill_d0a16_6 a0 n0 a1 v1 r2 x3)
  unfold L_J7_fill_d0a16_6
  refine E_iload_n 1 dJ7_fill_d0a16_6 rfl rfl ?_
  refine E_iload 0 dJ7_fill_d0a16_7 rfl ?_
  refine E_icmpge 22 dJ7_fill_d0a16_9 (by decide) ?_ ?_
  · exact E_return dJ7_fill_d0a16_22 rfl rfl
  · refine E_aload_n 2 dJ7_fill_d0a16_12 rfl rfl ?_
    refine E_iload_n 1 dJ7_fill_d0a16_13 rfl rfl ?_
    refine E_lload_n 3 dJ7_fill_d0a16_14 rfl rfl ?_
    refine E_lastore dJ7_fill_d0a16_15 h0 k0 ?_
    refine E_bd (fun s4 => ?_)
    refine E_iinc 1 [(3, .int (x3.1 + 1)), (4, .int v1), (0, .ref (Γ.2.1 a0)), (1, .long a1)] dJ7_fill_d0a16_16 rfl rfl (by decide) rfl ?_
    refine E_goto 6 dJ7_fill_d0a16_19 (by decide) ?_
    refine E_lvsub [1, 0, 2, 3] [(4, .int v1), (3, .int (x3.1 + 1)), (0, .ref (Γ.2.1 a0)), (1, .long a1)] rfl ?_
    exact hr2 (x3.1 + 1, s4)
theorem c_J7_fill_d0a16 (Γ : GT) (a0 : Nat) (n0 : Nat) (a1 : Int64) (s : St) (h0 : WC.2.1 a0 = .inr (1, n0)) (k0 : a0 < WC.1) (x : St) (h : f_J7_fill_d0a16 a0 n0 a1 s = some x) (l : Launch) : MC l yJ7_fill_d0a16 cJ7_fill_d0a16 5 none 1 WC Γ [.ref (Γ.2.1 a0), .long a1] s (emV x) := MC_of (by decide +kernel) (Nat.le_of_ble_eq_true rfl) (e_J7_fill_d0a16 Γ a0 n0 a1 s h0 k0) h l
set_option maxRecDepth 100000 in
set_option maxHeartbeats 4000000 in
theorem e_X6_countChoosers (Γ : GT) (a1 : Int32) (a2 : Int32) (a3 : Int32) (s : St)  : E RX6 cX6_countChoosers 5 none 2 WC Γ emV 0 [(0, .ref (Γ.2.1 6)), (1, .int a1), (2, .int a2), (3, .int a3)] [] s (f_X6_countChoosers a1 a2 a3 s) := by
  unfold f_X6_countChoosers
  refine E_aload_n 0 dX6_countChoosers_0 rfl rfl ?_
  refine E_getR 22 (j := 5) (ci := 6) (T := TX6) (C0 := RX6) (ref := "SameWrong$Pairs") dX6_countChoosers_1 rfl (by decide) rfl inX6 (by decide) kw_202 rfl rfl rfl ?_
  refine E_iconst (v := 0) dX6_countChoosers_4 (by decide) ?_
  refine E_callSV [.ref (Γ.2.1 22), .int 0] [] dX6_countChoosers_5 rfl kw_555 kw_413 kw_15 ko_J7_fill_53178 hy_J7_fill_53178 rfl (by decide) (Nat.le_of_ble_eq_true rfl) (c_J7_fill_53178 Γ 22 6 0 s rfl (by decide)) (fun s1 => ?_)
  refine E_iconst (v := 0) dX6_countChoosers_8 (by decide) ?_
  refine E_istore [(4, .int 0), (0, .ref (Γ.2.1 6)), (1, .int a1), (2, .int a2), (3, .int a3)] dX6_countChoosers_9 (by decide) rfl ?_
  refine E_lp (F := L_X6_countChoosers_11 a1 a2 a3) (fun (x : Int32 × St) => [(4, .int x.1), (0, .ref (Γ.2.1 6)), (1, .int a1), (2, .int a2), (3, .int a3)]) (fun (x : Int32 × St) => x.2) ?_ NN (0, s1)
  intro r2 hr2 x3
  show E _ _ _ _ _ _ _ _ _ _ _ _ (L_X6_countChoosers_11 a1 a2 a3 r2 x3)
  unfold L_X6_countChoosers_11
  refine E_iload 0 dX6_countChoosers_11 rfl ?_
  refine E_aload_n 1 dX6_countChoosers_13 rfl rfl ?_
  refine E_getR 2 (j := 2) (ci := 6) (T := TX6) (C0 := RX6) (ref := "SameWrong$Pairs") dX6_countChoosers_14 rfl (by decide) rfl inX6 (by decide) kw_199 rfl rfl rfl ?_
  refine E_getI (j := 0) (ci := 7) (T := TX7) (C0 := RX7) (ref := "SameWrong$Room") dX6_countChoosers_17 rfl (by decide) rfl inX7 (by decide) kw_74 rfl rfl ?_
  refine E_icmpge 62 dX6_countChoosers_20 (by decide) ?_ ?_
  · exact E_return dX6_countChoosers_62 rfl rfl
  · refine E_iload 0 dX6_countChoosers_23 rfl ?_
    refine E_iload_n 2 dX6_countChoosers_25 rfl rfl ?_
    refine E_icmpeq 56 dX6_countChoosers_26 (by decide) ?_ ?_
    · refine E_iinc 0 [(4, .int (x3.1 + 1)), (0, .ref (Γ.2.1 6)), (1, .int a1), (2, .int a2), (3, .int a3)] dX6_countChoosers_56 rfl rfl (by decide) rfl ?_
      refine E_goto 11 dX6_countChoosers_59 (by decide) ?_
      exact hr2 (x3.1 + 1, x3.2)
    · refine E_iload 0 dX6_countChoosers_29 rfl ?_
      refine E_iload_n 3 dX6_countChoosers_31 rfl rfl ?_
      refine E_icmpeq 56 dX6_countChoosers_32 (by decide) ?_ ?_
      · refine E_iinc 0 [(4, .int (x3.1 + 1)), (0, .ref (Γ.2.1 6)), (1, .int a1), (2, .int a2), (3, .int a3)] dX6_countChoosers_56 rfl rfl (by decide) rfl ?_
        refine E_goto 11 dX6_countChoosers_59 (by decide) ?_
        exact hr2 (x3.1 + 1, x3.2)
      · refine E_aload_n 1 dX6_countChoosers_35 rfl rfl ?_
        refine E_getR 22 (j := 5) (ci := 6) (T := TX6) (C0 := RX6) (ref := "SameWrong$Pairs") dX6_countChoosers_36 rfl (by decide) rfl inX6 (by decide) kw_202 rfl rfl rfl ?_
        refine E_aload_n 1 dX6_countChoosers_39 rfl rfl ?_
        refine E_getR 3 (j := 3) (ci := 6) (T := TX6) (C0 := RX6) (ref := "SameWrong$Pairs") dX6_countChoosers_40 rfl (by decide) rfl inX6 (by decide) kw_200 rfl rfl rfl ?_
        refine E_getR 32 (j := 3) (ci := 10) (T := TX10) (C0 := RX10) (ref := "SameWrong$Tellings") dX6_countChoosers_43 rfl (by decide) rfl inX10 (by decide) kw_103 rfl rfl rfl ?_
        refine E_iload 0 dX6_countChoosers_46 rfl ?_
        refine E_aaload (t := 1) dX6_countChoosers_48 (by decide) rfl (by decide) ?_
        refine E_iload_n 4 dX6_countChoosers_49 rfl rfl ?_
        refine E_iaload dX6_countChoosers_50 (sh_cur _) (lt_cur _) ?_
        refine E_dup2 dX6_countChoosers_51 rfl rfl ?_
        refine E_iaload dX6_countChoosers_52 rfl (by decide) ?_
        refine E_iconst (v := 1) dX6_countChoosers_53 (by decide) ?_
        refine E_iadd dX6_countChoosers_54 ?_
        refine E_iastore dX6_countChoosers_55 rfl (by decide) ?_
        refine E_bd (fun s4 => ?_)
        refine E_iinc 0 [(4, .int (x3.1 + 1)), (0, .ref (Γ.2.1 6)), (1, .int a1), (2, .int a2), (3, .int a3)] dX6_countChoosers_56 rfl rfl (by decide) rfl ?_
        refine E_goto 11 dX6_countChoosers_59 (by decide) ?_
        exact hr2 (x3.1 + 1, s4)
theorem c_X6_countChoosers (Γ : GT) (a1 : Int32) (a2 : Int32) (a3 : Int32) (s : St)  (x : St) (h : f_X6_countChoosers a1 a2 a3 s = some x) (l : Launch) : MC l yX6_countChoosers cX6_countChoosers 5 none 2 WC Γ [.ref (Γ.2.1 6), .int a1, .int a2, .int a3] s (emV x) := MC_of (by decide +kernel) (Nat.le_of_ble_eq_true rfl) (e_X6_countChoosers Γ a1 a2 a3 s ) h l
set_option maxRecDepth 100000 in
set_option maxHeartbeats 4000000 in
theorem e_J9_min_7cf53 (Γ : GT) (a0 : Int32) (a1 : Int32) (s : St)  : E RJ9 cJ9_min_7cf53 2 (some .int) 1 WC Γ (emI s) 0 [(0, .int a0), (1, .int a1)] [] s (f_J9_min_7cf53 a0 a1 s) := by
  unfold f_J9_min_7cf53
  refine E_iload_n 0 dJ9_min_7cf53_0 rfl rfl ?_
  refine E_iload_n 1 dJ9_min_7cf53_1 rfl rfl ?_
  refine E_icmpgt 9 dJ9_min_7cf53_2 (by decide) ?_ ?_
  · refine E_iload_n 1 dJ9_min_7cf53_9 rfl rfl ?_
    exact E_ireturn dJ9_min_7cf53_10 rfl rfl
  · refine E_iload_n 0 dJ9_min_7cf53_5 rfl rfl ?_
    refine E_goto 10 dJ9_min_7cf53_6 (by decide) ?_
    exact E_ireturn dJ9_min_7cf53_10 rfl rfl
theorem c_J9_min_7cf53 (Γ : GT) (a0 : Int32) (a1 : Int32) (s : St)  (x : Int32) (h : f_J9_min_7cf53 a0 a1 s = some x) (l : Launch) : MC l yJ9_min_7cf53 cJ9_min_7cf53 2 (some .int) 1 WC Γ [.int a0, .int a1] s ((emI s) x) := MC_of (by decide +kernel) (Nat.le_of_ble_eq_true rfl) (e_J9_min_7cf53 Γ a0 a1 s ) h l
set_option maxRecDepth 100000 in
set_option maxHeartbeats 4000000 in
theorem e_X6_meet (Γ : GT) (a1 : Int32) (a2 : Int32) (a3 : Int32) (a4 : Int32) (s : St)  : E RX6 cX6_meet 11 (some .long) 3 WC Γ emLS 0 [(0, .ref (Γ.2.1 6)), (1, .int a1), (2, .int a2), (3, .int a3), (4, .int a4)] [] s (f_X6_meet a1 a2 a3 a4 s) := by
  unfold f_X6_meet
  refine E_aload_n 0 dX6_meet_0 rfl rfl ?_
  refine E_iload_n 1 dX6_meet_1 rfl rfl ?_
  refine E_iload_n 2 dX6_meet_2 rfl rfl ?_
  refine E_iload_n 3 dX6_meet_3 rfl rfl ?_
  refine E_callVV (T := TX6) (ci := 6) [.int a1, .int a2, .int a3] [] dX6_meet_4 rfl kw_551 kw_553 kp_12 kw_8 ko_X6_countChoosers rfl hy_X6_countChoosers rfl (by decide) (Nat.le_of_ble_eq_true rfl) rfl (by decide) rfl (c_X6_countChoosers Γ a1 a2 a3 s) (fun s1 => ?_)
  refine E_lconst (v := 0) dX6_meet_7 rfl ?_
  refine E_lstore [(5, .long 0), (0, .ref (Γ.2.1 6)), (1, .int a1), (2, .int a2), (3, .int a3), (4, .int a4)] dX6_meet_8 (by decide) rfl ?_
  refine E_iconst (v := 0) dX6_meet_10 (by decide) ?_
  refine E_istore [(7, .int 0), (5, .long 0), (0, .ref (Γ.2.1 6)), (1, .int a1), (2, .int a2), (3, .int a3), (4, .int a4)] dX6_meet_11 (by decide) rfl ?_
  refine E_iconst (v := 1) dX6_meet_13 (by decide) ?_
  refine E_istore [(8, .int 1), (7, .int 0), (5, .long 0), (0, .ref (Γ.2.1 6)), (1, .int a1), (2, .int a2), (3, .int a3), (4, .int a4)] dX6_meet_14 (by decide) rfl ?_
  refine E_jn 71 (fun (y : Int32 × Int64) => [(7, .int y.1), (5, .long y.2), (0, .ref (Γ.2.1 6)), (4, .int a4)]) (fun (y : Int32 × Int64) => []) (fun (y : Int32 × Int64) => s1) ?_ ?_
  · intro y3
    refine E_iload 0 dX6_meet_71 rfl ?_
    refine E_iload 0 dX6_meet_73 rfl ?_
    refine E_imul dX6_meet_75 ?_
    refine E_i2l dX6_meet_76 ?_
    refine E_lstore [(8, .long ((y3.1 * y3.1).toInt64)), (7, .int y3.1), (5, .long y3.2), (0, .ref (Γ.2.1 6)), (4, .int a4)] dX6_meet_77 (by decide) rfl ?_
    refine E_bl (fun v4 => [(8, .long v4), (7, .int y3.1), (5, .long y3.2), (0, .ref (Γ.2.1 6)), (4, .int a4)]) (fun v4 => ?_) ((y3.1 * y3.1).toInt64)
    refine E_iload 4 dX6_meet_79 rfl ?_
    refine E_bipush (v := 6) dX6_meet_81 (by decide) ?_
    refine E_callSI [.int a4, .int 6] [] dX6_meet_83 rfl kw_556 kw_373 kw_14 ko_J9_min_7cf53 hy_J9_min_7cf53 rfl (by decide) (Nat.le_of_ble_eq_true rfl) (c_J9_min_7cf53 Γ a4 6 s1) (fun v5 => ?_)
    refine E_istore [(10, .int v5), (8, .long v4), (7, .int y3.1), (5, .long y3.2), (0, .ref (Γ.2.1 6)), (4, .int a4)] dX6_meet_86 (by decide) rfl ?_
    refine E_lvsub [0, 1, 3, 4] [(10, .int v5), (8, .long v4), (5, .long y3.2), (0, .ref (Γ.2.1 6))] rfl ?_
    refine E_lp (F := L_X6_meet_88 y3 v4) (fun (x : Int32 × St) => [(10, .int x.1), (8, .long v4), (5, .long y3.2), (0, .ref (Γ.2.1 6))]) (fun (x : Int32 × St) => x.2) ?_ NN (v5, s1)
    intro r6 hr6 x7
    show E _ _ _ _ _ _ _ _ _ _ _ _ (L_X6_meet_88 y3 v4 r6 x7)
    unfold L_X6_meet_88
    refine E_iload 0 dX6_meet_88 rfl ?_
    refine E_iflt 136 dX6_meet_90 (by decide) ?_ ?_
    · refine E_lload 1 dX6_meet_136 rfl ?_
      exact E_lreturn dX6_meet_138 rfl rfl
    · refine E_aload_n 3 dX6_meet_93 rfl rfl ?_
      refine E_getR 23 (j := 6) (ci := 6) (T := TX6) (C0 := RX6) (ref := "SameWrong$Pairs") dX6_meet_94 rfl (by decide) rfl inX6 (by decide) kw_203 rfl rfl rfl ?_
      refine E_iload 0 dX6_meet_97 rfl ?_
      refine E_iconst (v := 1) dX6_meet_99 (by decide) ?_
      refine E_iadd dX6_meet_100 ?_
      refine E_dup2 dX6_meet_101 rfl rfl ?_
      refine E_laload dX6_meet_102 rfl (by decide) ?_
      refine E_aload_n 3 dX6_meet_103 rfl rfl ?_
      refine E_getR 23 (j := 6) (ci := 6) (T := TX6) (C0 := RX6) (ref := "SameWrong$Pairs") dX6_meet_104 rfl (by decide) rfl inX6 (by decide) kw_203 rfl rfl rfl ?_
      refine E_iload 0 dX6_meet_107 rfl ?_
      refine E_laload dX6_meet_109 rfl (by decide) ?_
      refine E_lload 2 dX6_meet_110 rfl ?_
      refine E_lmul dX6_meet_112 ?_
      refine E_ladd dX6_meet_113 ?_
      refine E_lastore dX6_meet_114 rfl (by decide) ?_
      refine E_bd (fun s8 => ?_)
      refine E_aload_n 3 dX6_meet_115 rfl rfl ?_
      refine E_getR 23 (j := 6) (ci := 6) (T := TX6) (C0 := RX6) (ref := "SameWrong$Pairs") dX6_meet_116 rfl (by decide) rfl inX6 (by decide) kw_203 rfl rfl rfl ?_
      refine E_iload 0 dX6_meet_119 rfl ?_
      refine E_dup2 dX6_meet_121 rfl rfl ?_
      refine E_laload dX6_meet_122 rfl (by decide) ?_
      refine E_lload 1 dX6_meet_123 rfl ?_
      refine E_lload 2 dX6_meet_125 rfl ?_
      refine E_lsub dX6_meet_127 ?_
      refine E_lmul dX6_meet_128 ?_
      refine E_lastore dX6_meet_129 rfl (by decide) ?_
      refine E_bd (fun s9 => ?_)
      refine E_iinc 0 [(10, .int (x7.1 + (-1))), (8, .long v4), (5, .long y3.2), (0, .ref (Γ.2.1 6))] dX6_meet_130 rfl rfl (by decide) rfl ?_
      refine E_goto 88 dX6_meet_133 (by decide) ?_
      exact hr6 (x7.1 + (-1), s9)
  · intro K2 hK2
    refine E_lvsub [0, 1, 2, 3, 6, 7] [(8, .int 1), (7, .int 0), (5, .long 0), (0, .ref (Γ.2.1 6)), (3, .int a3), (4, .int a4)] rfl ?_
    refine E_lp (F := L_X6_meet_16 a3 s1 K2) (fun (x : Int32 × Int32 × Int64) => [(8, .int x.1), (7, .int x.2.1), (5, .long x.2.2), (0, .ref (Γ.2.1 6)), (3, .int a3), (4, .int a4)]) (fun (x : Int32 × Int32 × Int64) => s1) ?_ NN (1, 0, 0)
    intro r10 hr10 x11
    show E _ _ _ _ _ _ _ _ _ _ _ _ (L_X6_meet_16 a3 s1 K2 r10 x11)
    unfold L_X6_meet_16
    refine E_iload 0 dX6_meet_16 rfl ?_
    refine E_iconst (v := 5) dX6_meet_18 (by decide) ?_
    refine E_icmpgt 71 dX6_meet_19 (by decide) ?_ ?_
    · refine E_lvsub [1, 2, 3, 5] [(7, .int x11.2.1), (5, .long x11.2.2), (0, .ref (Γ.2.1 6)), (4, .int a4)] rfl ?_
      exact hK2 (x11.2.1, x11.2.2)
    · refine E_iload 0 dX6_meet_22 rfl ?_
      refine E_aload_n 3 dX6_meet_24 rfl rfl ?_
      refine E_getR 1 (j := 1) (ci := 6) (T := TX6) (C0 := RX6) (ref := "SameWrong$Pairs") dX6_meet_25 rfl (by decide) rfl inX6 (by decide) kw_198 rfl rfl rfl ?_
      refine E_getR 11 (j := 0) (ci := 4) (T := TX4) (C0 := RX4) (ref := "SameWrong$Key") dX6_meet_28 rfl (by decide) rfl inX4 (by decide) kw_36 rfl rfl rfl ?_
      refine E_iload_n 4 dX6_meet_31 rfl rfl ?_
      refine E_iaload dX6_meet_32 rfl (by decide) ?_
      refine E_icmpeq 65 dX6_meet_33 (by decide) ?_ ?_
      · refine E_iinc 0 [(8, .int (x11.1 + 1)), (7, .int x11.2.1), (5, .long x11.2.2), (0, .ref (Γ.2.1 6)), (3, .int a3), (4, .int a4)] dX6_meet_65 rfl rfl (by decide) rfl ?_
        refine E_goto 16 dX6_meet_68 (by decide) ?_
        exact hr10 (x11.1 + 1, x11.2.1, x11.2.2)
      · refine E_iconst (v := 1) dX6_meet_36 (by decide) ?_
        refine E_aload_n 3 dX6_meet_37 rfl rfl ?_
        refine E_getR 22 (j := 5) (ci := 6) (T := TX6) (C0 := RX6) (ref := "SameWrong$Pairs") dX6_meet_38 rfl (by decide) rfl inX6 (by decide) kw_202 rfl rfl rfl ?_
        refine E_iload 0 dX6_meet_41 rfl ?_
        refine E_iaload dX6_meet_43 rfl (by decide) ?_
        refine E_iadd dX6_meet_44 ?_
        refine E_istore [(9, .int (1 + (s1.1 22 x11.1.toNatClampNeg))), (8, .int x11.1), (7, .int x11.2.1), (5, .long x11.2.2), (0, .ref (Γ.2.1 6)), (3, .int a3), (4, .int a4)] dX6_meet_45 (by decide) rfl ?_
        refine E_bv (fun v12 => [(9, .int v12), (8, .int x11.1), (7, .int x11.2.1), (5, .long x11.2.2), (0, .ref (Γ.2.1 6)), (3, .int a3), (4, .int a4)]) (fun v12 => ?_) (1 + (s1.1 22 x11.1.toNatClampNeg))
        refine E_lload 3 dX6_meet_47 rfl ?_
        refine E_iload 0 dX6_meet_49 rfl ?_
        refine E_iload 0 dX6_meet_51 rfl ?_
        refine E_imul dX6_meet_53 ?_
        refine E_i2l dX6_meet_54 ?_
        refine E_ladd dX6_meet_55 ?_
        refine E_lstore [(5, .long (x11.2.2 + ((v12 * v12).toInt64))), (9, .int v12), (8, .int x11.1), (7, .int x11.2.1), (0, .ref (Γ.2.1 6)), (3, .int a3), (4, .int a4)] dX6_meet_56 (by decide) rfl ?_
        refine E_bl (fun v13 => [(5, .long v13), (9, .int v12), (8, .int x11.1), (7, .int x11.2.1), (0, .ref (Γ.2.1 6)), (3, .int a3), (4, .int a4)]) (fun v13 => ?_) (x11.2.2 + ((v12 * v12).toInt64))
        refine E_iload 3 dX6_meet_58 rfl ?_
        refine E_iload 1 dX6_meet_60 rfl ?_
        refine E_iadd dX6_meet_62 ?_
        refine E_istore [(7, .int (x11.2.1 + v12)), (5, .long v13), (9, .int v12), (8, .int x11.1), (0, .ref (Γ.2.1 6)), (3, .int a3), (4, .int a4)] dX6_meet_63 (by decide) rfl ?_
        refine E_bv (fun v14 => [(7, .int v14), (5, .long v13), (9, .int v12), (8, .int x11.1), (0, .ref (Γ.2.1 6)), (3, .int a3), (4, .int a4)]) (fun v14 => ?_) (x11.2.1 + v12)
        refine E_iinc 3 [(8, .int (x11.1 + 1)), (7, .int v14), (5, .long v13), (9, .int v12), (0, .ref (Γ.2.1 6)), (3, .int a3), (4, .int a4)] dX6_meet_65 rfl rfl (by decide) rfl ?_
        refine E_goto 16 dX6_meet_68 (by decide) ?_
        refine E_lvsub [0, 1, 2, 4, 5, 6] [(8, .int (x11.1 + 1)), (7, .int v14), (5, .long v13), (0, .ref (Γ.2.1 6)), (3, .int a3), (4, .int a4)] rfl ?_
        exact hr10 (x11.1 + 1, v14, v13)
theorem c_X6_meet (Γ : GT) (a1 : Int32) (a2 : Int32) (a3 : Int32) (a4 : Int32) (s : St)  (x : (Int64 × St)) (h : f_X6_meet a1 a2 a3 a4 s = some x) (l : Launch) : MC l yX6_meet cX6_meet 11 (some .long) 3 WC Γ [.ref (Γ.2.1 6), .int a1, .int a2, .int a3, .int a4] s (emLS x) := MC_of (by decide +kernel) (Nat.le_of_ble_eq_true rfl) (e_X6_meet Γ a1 a2 a3 a4 s ) h l
set_option maxRecDepth 100000 in
set_option maxHeartbeats 4000000 in
theorem e_X6_reckonChance (Γ : GT) (a1 : Int32) (a2 : Int32) (s : St)  : E RX6 cX6_reckonChance 9 (some .boolean) 4 WC Γ emZS 0 [(0, .ref (Γ.2.1 6)), (1, .int a1), (2, .int a2)] [] s (f_X6_reckonChance a1 a2 s) := by
  unfold f_X6_reckonChance
  refine E_aload_n 0 dX6_reckonChance_0 rfl rfl ?_
  refine E_iload_n 1 dX6_reckonChance_1 rfl rfl ?_
  refine E_iload_n 2 dX6_reckonChance_2 rfl rfl ?_
  refine E_callVI (T := TX6) (ci := 6) [.int a1, .int a2] [] dX6_reckonChance_3 rfl kw_543 kw_531 kw_532 kw_8 ko_X6_bothWrongs rfl hy_X6_bothWrongs rfl (by decide) (Nat.le_of_ble_eq_true rfl) rfl (by decide) rfl (c_X6_bothWrongs Γ a1 a2 s) (fun v1 => ?_)
  refine E_bipush (v := 7) dX6_reckonChance_6 (by decide) ?_
  refine E_icmple 13 dX6_reckonChance_8 (by decide) ?_ ?_
  · refine E_aload_n 0 dX6_reckonChance_13 rfl rfl ?_
    refine E_getR 23 (j := 6) (ci := 6) (T := TX6) (C0 := RX6) (ref := "SameWrong$Pairs") dX6_reckonChance_14 rfl (by decide) rfl inX6 (by decide) kw_203 rfl rfl rfl ?_
    refine E_lconst (v := 0) dX6_reckonChance_17 rfl ?_
    refine E_callSV [.ref (Γ.2.1 23), .long 0] [] dX6_reckonChance_18 rfl kw_544 kw_545 kw_15 ko_J7_fill_d0a16 hy_J7_fill_d0a16 rfl (by decide) (Nat.le_of_ble_eq_true rfl) (c_J7_fill_d0a16 Γ 23 8 0 s rfl (by decide)) (fun s2 => ?_)
    refine E_aload_n 0 dX6_reckonChance_21 rfl rfl ?_
    refine E_getR 23 (j := 6) (ci := 6) (T := TX6) (C0 := RX6) (ref := "SameWrong$Pairs") dX6_reckonChance_22 rfl (by decide) rfl inX6 (by decide) kw_203 rfl rfl rfl ?_
    refine E_iconst (v := 0) dX6_reckonChance_25 (by decide) ?_
    refine E_lconst (v := 1) dX6_reckonChance_26 rfl ?_
    refine E_lastore dX6_reckonChance_27 rfl (by decide) ?_
    refine E_bd (fun s3 => ?_)
    refine E_lconst (v := 1) dX6_reckonChance_28 rfl ?_
    refine E_lstore_n [(3, .long 1), (0, .ref (Γ.2.1 6)), (1, .int a1), (2, .int a2)] dX6_reckonChance_29 rfl (by decide) rfl ?_
    refine E_iconst (v := 0) dX6_reckonChance_30 (by decide) ?_
    refine E_istore [(5, .int 0), (3, .long 1), (0, .ref (Γ.2.1 6)), (1, .int a1), (2, .int a2)] dX6_reckonChance_31 (by decide) rfl ?_
    refine E_iconst (v := 0) dX6_reckonChance_33 (by decide) ?_
    refine E_istore [(6, .int 0), (5, .int 0), (3, .long 1), (0, .ref (Γ.2.1 6)), (1, .int a1), (2, .int a2)] dX6_reckonChance_34 (by decide) rfl ?_
    refine E_jn 81 (fun (y : Int32 × Int64 × St) => [(5, .int y.1), (3, .long y.2.1), (0, .ref (Γ.2.1 6)), (1, .int a1), (2, .int a2)]) (fun (y : Int32 × Int64 × St) => []) (fun (y : Int32 × Int64 × St) => y.2.2) ?_ ?_
    · intro y5
      refine E_lconst (v := 0) dX6_reckonChance_81 rfl ?_
      refine E_lstore [(6, .long 0), (5, .int y5.1), (3, .long y5.2.1), (0, .ref (Γ.2.1 6)), (1, .int a1), (2, .int a2)] dX6_reckonChance_82 (by decide) rfl ?_
      refine E_aload_n 3 dX6_reckonChance_84 rfl rfl ?_
      refine E_iload_n 4 dX6_reckonChance_85 rfl rfl ?_
      refine E_iload_n 5 dX6_reckonChance_86 rfl rfl ?_
      refine E_callVI (T := TX6) (ci := 6) [.int a1, .int a2] [] dX6_reckonChance_87 rfl kw_538 kw_523 kw_524 kw_8 ko_X6_sameWrongs rfl hy_X6_sameWrongs rfl (by decide) (Nat.le_of_ble_eq_true rfl) rfl (by decide) rfl (c_X6_sameWrongs Γ a1 a2 y5.2.2) (fun v6 => ?_)
      refine E_istore [(8, .int v6), (6, .long 0), (5, .int y5.1), (3, .long y5.2.1), (0, .ref (Γ.2.1 6)), (1, .int a1), (2, .int a2)] dX6_reckonChance_90 (by decide) rfl ?_
      refine E_jn 117 (fun (y : Int64) => [(6, .long y), (3, .long y5.2.1), (0, .ref (Γ.2.1 6))]) (fun (y : Int64) => []) (fun (y : Int64) => y5.2.2) ?_ ?_
      · intro y8
        refine E_aload_n 2 dX6_reckonChance_117 rfl rfl ?_
        refine E_getR 10 (j := 4) (ci := 6) (T := TX6) (C0 := RX6) (ref := "SameWrong$Pairs") dX6_reckonChance_118 rfl (by decide) rfl inX6 (by decide) kw_201 rfl rfl rfl ?_
        refine E_lload 0 dX6_reckonChance_121 rfl ?_
        refine E_lload_n 1 dX6_reckonChance_123 rfl rfl ?_
        refine E_callVV (T := TX1) (ci := 1) [.long y8, .long y5.2.1] [] dX6_reckonChance_124 rfl kw_557 kw_558 kw_559 kw_5 ko_X1_become rfl hy_X1_become rfl (by decide) (Nat.le_of_ble_eq_true rfl) rfl (by decide) rfl (c_X1_become Γ y8 y5.2.1 y5.2.2) (fun s9 => ?_)
        refine E_iconst (v := 1) dX6_reckonChance_127 (by decide) ?_
        exact E_zreturn (b := true) dX6_reckonChance_128 rfl rfl
      · intro K7 hK7
        refine E_lvsub [0, 1, 2, 3, 4] [(8, .int v6), (6, .long 0), (5, .int y5.1), (3, .long y5.2.1), (0, .ref (Γ.2.1 6))] rfl ?_
        refine E_lp (F := L_X6_reckonChance_92 y5 K7) (fun (x : Int32 × Int64) => [(8, .int x.1), (6, .long x.2), (5, .int y5.1), (3, .long y5.2.1), (0, .ref (Γ.2.1 6))]) (fun (x : Int32 × Int64) => y5.2.2) ?_ NN (v6, 0)
        intro r10 hr10 x11
        show E _ _ _ _ _ _ _ _ _ _ _ _ (L_X6_reckonChance_92 y5 K7 r10 x11)
        unfold L_X6_reckonChance_92
        refine E_iload 0 dX6_reckonChance_92 rfl ?_
        refine E_iload 2 dX6_reckonChance_94 rfl ?_
        refine E_icmpgt 117 dX6_reckonChance_96 (by decide) ?_ ?_
        · refine E_lvsub [1, 3, 4] [(6, .long x11.2), (3, .long y5.2.1), (0, .ref (Γ.2.1 6))] rfl ?_
          exact hK7 x11.2
        · refine E_lload 1 dX6_reckonChance_99 rfl ?_
          refine E_aload_n 4 dX6_reckonChance_101 rfl rfl ?_
          refine E_getR 23 (j := 6) (ci := 6) (T := TX6) (C0 := RX6) (ref := "SameWrong$Pairs") dX6_reckonChance_102 rfl (by decide) rfl inX6 (by decide) kw_203 rfl rfl rfl ?_
          refine E_iload 0 dX6_reckonChance_105 rfl ?_
          refine E_laload dX6_reckonChance_107 rfl (by decide) ?_
          refine E_ladd dX6_reckonChance_108 ?_
          refine E_lstore [(6, .long (x11.2 + (y5.2.2.2 23 x11.1.toNatClampNeg))), (8, .int x11.1), (5, .int y5.1), (3, .long y5.2.1), (0, .ref (Γ.2.1 6))] dX6_reckonChance_109 (by decide) rfl ?_
          refine E_bl (fun v12 => [(6, .long v12), (8, .int x11.1), (5, .int y5.1), (3, .long y5.2.1), (0, .ref (Γ.2.1 6))]) (fun v12 => ?_) (x11.2 + (y5.2.2.2 23 x11.1.toNatClampNeg))
          refine E_iinc 1 [(8, .int (x11.1 + 1)), (6, .long v12), (5, .int y5.1), (3, .long y5.2.1), (0, .ref (Γ.2.1 6))] dX6_reckonChance_111 rfl rfl (by decide) rfl ?_
          refine E_goto 92 dX6_reckonChance_114 (by decide) ?_
          exact hr10 (x11.1 + 1, v12)
    · intro K4 hK4
      refine E_lp (F := L_X6_reckonChance_36 a1 a2 K4) (fun (x : Int32 × Int32 × Int64 × St) => [(6, .int x.1), (5, .int x.2.1), (3, .long x.2.2.1), (0, .ref (Γ.2.1 6)), (1, .int a1), (2, .int a2)]) (fun (x : Int32 × Int32 × Int64 × St) => x.2.2.2) ?_ NN (0, 0, 1, s3)
      intro r13 hr13 x14
      show E _ _ _ _ _ _ _ _ _ _ _ _ (L_X6_reckonChance_36 a1 a2 K4 r13 x14)
      unfold L_X6_reckonChance_36
      refine E_iload 0 dX6_reckonChance_36 rfl ?_
      refine E_aload_n 3 dX6_reckonChance_38 rfl rfl ?_
      refine E_getR 1 (j := 1) (ci := 6) (T := TX6) (C0 := RX6) (ref := "SameWrong$Pairs") dX6_reckonChance_39 rfl (by decide) rfl inX6 (by decide) kw_198 rfl rfl rfl ?_
      refine E_getI (j := 2) (ci := 4) (T := TX4) (C0 := RX4) (ref := "SameWrong$Key") dX6_reckonChance_42 rfl (by decide) rfl inX4 (by decide) kw_40 rfl rfl ?_
      refine E_icmpge 81 dX6_reckonChance_45 (by decide) ?_ ?_
      · refine E_lvsub [1, 2, 3, 4, 5] [(5, .int x14.2.1), (3, .long x14.2.2.1), (0, .ref (Γ.2.1 6)), (1, .int a1), (2, .int a2)] rfl ?_
        exact hK4 (x14.2.1, x14.2.2.1, x14.2.2.2)
      · refine E_aload_n 3 dX6_reckonChance_48 rfl rfl ?_
        refine E_iload_n 4 dX6_reckonChance_49 rfl rfl ?_
        refine E_iload_n 5 dX6_reckonChance_50 rfl rfl ?_
        refine E_iload 0 dX6_reckonChance_51 rfl ?_
        refine E_callVZ (T := TX6) (ci := 6) [.int a1, .int a2, .int x14.1] [] dX6_reckonChance_53 rfl kw_526 kw_528 kp_10 kw_8 ko_X6_areBothWrong rfl hy_X6_areBothWrong rfl (by decide) (Nat.le_of_ble_eq_true rfl) rfl (by decide) rfl (c_X6_areBothWrong Γ a1 a2 x14.1 x14.2.2.2) (fun v15 => ?_)
        refine E_ifeqb 75 dX6_reckonChance_56 (by decide) ?_ ?_
        · refine E_iinc 0 [(6, .int (x14.1 + 1)), (5, .int x14.2.1), (3, .long x14.2.2.1), (0, .ref (Γ.2.1 6)), (1, .int a1), (2, .int a2)] dX6_reckonChance_75 rfl rfl (by decide) rfl ?_
          refine E_goto 36 dX6_reckonChance_78 (by decide) ?_
          exact hr13 (x14.1 + 1, x14.2.1, x14.2.2.1, x14.2.2.2)
        · refine E_lload_n 2 dX6_reckonChance_59 rfl rfl ?_
          refine E_aload_n 3 dX6_reckonChance_60 rfl rfl ?_
          refine E_iload_n 4 dX6_reckonChance_61 rfl rfl ?_
          refine E_iload_n 5 dX6_reckonChance_62 rfl rfl ?_
          refine E_iload 0 dX6_reckonChance_63 rfl ?_
          refine E_iload 1 dX6_reckonChance_65 rfl ?_
          refine E_callVLS (T := TX6) (ci := 6) [.int a1, .int a2, .int x14.1, .int x14.2.1] [.long x14.2.2.1] dX6_reckonChance_67 rfl kw_547 kw_549 kp_11 kw_8 ko_X6_meet rfl hy_X6_meet rfl (by decide) (Nat.le_of_ble_eq_true rfl) rfl (by decide) rfl (c_X6_meet Γ a1 a2 x14.1 x14.2.1 x14.2.2.2) (fun p16 => ?_)
          refine E_lmul dX6_reckonChance_70 ?_
          refine E_lstore_n [(3, .long (x14.2.2.1 * p16.1)), (6, .int x14.1), (5, .int x14.2.1), (0, .ref (Γ.2.1 6)), (1, .int a1), (2, .int a2)] dX6_reckonChance_71 rfl (by decide) rfl ?_
          refine E_bl (fun v17 => [(3, .long v17), (6, .int x14.1), (5, .int x14.2.1), (0, .ref (Γ.2.1 6)), (1, .int a1), (2, .int a2)]) (fun v17 => ?_) (x14.2.2.1 * p16.1)
          refine E_iinc 2 [(5, .int (x14.2.1 + 1)), (3, .long v17), (6, .int x14.1), (0, .ref (Γ.2.1 6)), (1, .int a1), (2, .int a2)] dX6_reckonChance_72 rfl rfl (by decide) rfl ?_
          refine E_iinc 2 [(6, .int (x14.1 + 1)), (5, .int (x14.2.1 + 1)), (3, .long v17), (0, .ref (Γ.2.1 6)), (1, .int a1), (2, .int a2)] dX6_reckonChance_75 rfl rfl (by decide) rfl ?_
          refine E_goto 36 dX6_reckonChance_78 (by decide) ?_
          exact hr13 (x14.1 + 1, x14.2.1 + 1, v17, p16.2)
  · refine E_iconst (v := 0) dX6_reckonChance_11 (by decide) ?_
    exact E_zreturn (b := false) dX6_reckonChance_12 rfl rfl
theorem c_X6_reckonChance (Γ : GT) (a1 : Int32) (a2 : Int32) (s : St)  (x : (Bool × St)) (h : f_X6_reckonChance a1 a2 s = some x) (l : Launch) : MC l yX6_reckonChance cX6_reckonChance 9 (some .boolean) 4 WC Γ [.ref (Γ.2.1 6), .int a1, .int a2] s (emZS x) := MC_of (by decide +kernel) (Nat.le_of_ble_eq_true rfl) (e_X6_reckonChance Γ a1 a2 s ) h l
set_option maxRecDepth 100000 in
set_option maxHeartbeats 4000000 in
theorem e_X6_areOdd (Γ : GT) (a1 : Int32) (a2 : Int32) (s : St)  : E RX6 cX6_areOdd 3 (some .boolean) 5 WC Γ emZS 0 [(0, .ref (Γ.2.1 6)), (1, .int a1), (2, .int a2)] [] s (f_X6_areOdd a1 a2 s) := by
  unfold f_X6_areOdd
  refine E_aload_n 0 dX6_areOdd_0 rfl rfl ?_
  refine E_iload_n 1 dX6_areOdd_1 rfl rfl ?_
  refine E_iload_n 2 dX6_areOdd_2 rfl rfl ?_
  refine E_callVI (T := TX6) (ci := 6) [.int a1, .int a2] [] dX6_areOdd_3 rfl kw_538 kw_523 kw_524 kw_8 ko_X6_sameWrongs rfl hy_X6_sameWrongs rfl (by decide) (Nat.le_of_ble_eq_true rfl) rfl (by decide) rfl (c_X6_sameWrongs Γ a1 a2 s) (fun v1 => ?_)
  refine E_ifle 50 dX6_areOdd_6 (by decide) ?_ ?_
  · refine E_iconst (v := 0) dX6_areOdd_50 (by decide) ?_
    exact E_zreturn (b := false) dX6_areOdd_51 rfl rfl
  · refine E_aload_n 0 dX6_areOdd_9 rfl rfl ?_
    refine E_iload_n 1 dX6_areOdd_10 rfl rfl ?_
    refine E_iload_n 2 dX6_areOdd_11 rfl rfl ?_
    refine E_callVZS (T := TX6) (ci := 6) [.int a1, .int a2] [] dX6_areOdd_12 rfl kw_539 kw_540 kw_541 kw_8 ko_X6_reckonChance rfl hy_X6_reckonChance rfl (by decide) (Nat.le_of_ble_eq_true rfl) rfl (by decide) rfl (c_X6_reckonChance Γ a1 a2 s) (fun p2 => ?_)
    refine E_ifeqb 50 dX6_areOdd_15 (by decide) ?_ ?_
    · refine E_iconst (v := 0) dX6_areOdd_50 (by decide) ?_
      exact E_zreturn (b := false) dX6_areOdd_51 rfl rfl
    · refine E_aload_n 0 dX6_areOdd_18 rfl rfl ?_
      refine E_getR 10 (j := 4) (ci := 6) (T := TX6) (C0 := RX6) (ref := "SameWrong$Pairs") dX6_areOdd_19 rfl (by decide) rfl inX6 (by decide) kw_201 rfl rfl rfl ?_
      refine E_getJ (j := 0) (ci := 1) (T := TX1) (C0 := RX1) (ref := "SameWrong$Fraction") dX6_areOdd_22 rfl (by decide) rfl inX1 (by decide) kw_143 rfl rfl ?_
      refine E_ldc2 (v := 1000) dX6_areOdd_25 kw_567 ?_
      refine E_lmul dX6_areOdd_28 ?_
      refine E_aload_n 0 dX6_areOdd_29 rfl rfl ?_
      refine E_getI (j := 0) (ci := 6) (T := TX6) (C0 := RX6) (ref := "SameWrong$Pairs") dX6_areOdd_30 rfl (by decide) rfl inX6 (by decide) kw_196 rfl rfl ?_
      refine E_i2l dX6_areOdd_33 ?_
      refine E_aload_n 0 dX6_areOdd_34 rfl rfl ?_
      refine E_getR 10 (j := 4) (ci := 6) (T := TX6) (C0 := RX6) (ref := "SameWrong$Pairs") dX6_areOdd_35 rfl (by decide) rfl inX6 (by decide) kw_201 rfl rfl rfl ?_
      refine E_getJ (j := 1) (ci := 1) (T := TX1) (C0 := RX1) (ref := "SameWrong$Fraction") dX6_areOdd_38 rfl (by decide) rfl inX1 (by decide) kw_145 rfl rfl ?_
      refine E_lmul dX6_areOdd_41 ?_
      refine E_lgt 50 dX6_areOdd_42 dX6_areOdd_43 (by decide) ?_ ?_
      · refine E_iconst (v := 0) dX6_areOdd_50 (by decide) ?_
        exact E_zreturn (b := false) dX6_areOdd_51 rfl rfl
      · refine E_iconst (v := 1) dX6_areOdd_46 (by decide) ?_
        refine E_goto 51 dX6_areOdd_47 (by decide) ?_
        exact E_zreturn (b := true) dX6_areOdd_51 rfl rfl
theorem c_X6_areOdd (Γ : GT) (a1 : Int32) (a2 : Int32) (s : St)  (x : (Bool × St)) (h : f_X6_areOdd a1 a2 s = some x) (l : Launch) : MC l yX6_areOdd cX6_areOdd 3 (some .boolean) 5 WC Γ [.ref (Γ.2.1 6), .int a1, .int a2] s (emZS x) := MC_of (by decide +kernel) (Nat.le_of_ble_eq_true rfl) (e_X6_areOdd Γ a1 a2 s ) h l
set_option maxRecDepth 100000 in
set_option maxHeartbeats 4000000 in
theorem e_X2_link (Γ : GT)  (s : St)  : E RX2 cX2_link 3 none 6 WC Γ emV 0 [(0, .ref (Γ.2.1 7))] [] s (f_X2_link  s) := by
  unfold f_X2_link
  refine E_aload_n 0 dX2_link_0 rfl rfl ?_
  refine E_getR 24 (j := 4) (ci := 2) (T := TX2) (C0 := RX2) (ref := "SameWrong$Givers") dX2_link_1 rfl (by decide) rfl inX2 (by decide) kw_230 rfl rfl rfl ?_
  refine E_iconst (v := 0) dX2_link_4 (by decide) ?_
  refine E_callSV [.ref (Γ.2.1 24), .int 0] [] dX2_link_5 rfl kw_620 kw_413 kw_15 ko_J7_fill_53178 hy_J7_fill_53178 rfl (by decide) (Nat.le_of_ble_eq_true rfl) (c_J7_fill_53178 Γ 24 10 0 s rfl (by decide)) (fun s1 => ?_)
  refine E_iconst (v := 0) dX2_link_8 (by decide) ?_
  refine E_istore_n [(1, .int 0), (0, .ref (Γ.2.1 7))] dX2_link_9 rfl (by decide) rfl ?_
  refine E_lp (F := L_X2_link_10) (fun (x : Int32 × St) => [(1, .int x.1), (0, .ref (Γ.2.1 7))]) (fun (x : Int32 × St) => x.2) ?_ NN (0, s1)
  intro r2 hr2 x3
  show E _ _ _ _ _ _ _ _ _ _ _ _ (L_X2_link_10 r2 x3)
  unfold L_X2_link_10
  refine E_iload_n 0 dX2_link_10 rfl rfl ?_
  refine E_aload_n 1 dX2_link_11 rfl rfl ?_
  refine E_getR 2 (j := 0) (ci := 2) (T := TX2) (C0 := RX2) (ref := "SameWrong$Givers") dX2_link_12 rfl (by decide) rfl inX2 (by decide) kw_226 rfl rfl rfl ?_
  refine E_getI (j := 0) (ci := 7) (T := TX7) (C0 := RX7) (ref := "SameWrong$Room") dX2_link_15 rfl (by decide) rfl inX7 (by decide) kw_73 rfl rfl ?_
  refine E_icmpge 96 dX2_link_18 (by decide) ?_ ?_
  · exact E_return dX2_link_96 rfl rfl
  · refine E_iload_n 0 dX2_link_21 rfl rfl ?_
    refine E_iconst (v := 1) dX2_link_22 (by decide) ?_
    refine E_iadd dX2_link_23 ?_
    refine E_istore_n [(2, .int (x3.1 + 1)), (1, .int x3.1), (0, .ref (Γ.2.1 7))] dX2_link_24 rfl (by decide) rfl ?_
    refine E_bv (fun v4 => [(2, .int v4), (1, .int x3.1), (0, .ref (Γ.2.1 7))]) (fun v4 => ?_) (x3.1 + 1)
    refine E_lp (F := L_X2_link_25 r2 x3) (fun (x : Int32 × St) => [(2, .int x.1), (1, .int x3.1), (0, .ref (Γ.2.1 7))]) (fun (x : Int32 × St) => x.2) ?_ NN (v4, x3.2)
    intro r5 hr5 x6
    show E _ _ _ _ _ _ _ _ _ _ _ _ (L_X2_link_25 r2 x3 r5 x6)
    unfold L_X2_link_25
    refine E_iload_n 0 dX2_link_25 rfl rfl ?_
    refine E_aload_n 2 dX2_link_26 rfl rfl ?_
    refine E_getR 2 (j := 0) (ci := 2) (T := TX2) (C0 := RX2) (ref := "SameWrong$Givers") dX2_link_27 rfl (by decide) rfl inX2 (by decide) kw_226 rfl rfl rfl ?_
    refine E_getI (j := 0) (ci := 7) (T := TX7) (C0 := RX7) (ref := "SameWrong$Room") dX2_link_30 rfl (by decide) rfl inX7 (by decide) kw_73 rfl rfl ?_
    refine E_icmpge 90 dX2_link_33 (by decide) ?_ ?_
    · refine E_iinc 1 [(1, .int (x3.1 + 1)), (2, .int x6.1), (0, .ref (Γ.2.1 7))] dX2_link_90 rfl rfl (by decide) rfl ?_
      refine E_goto 10 dX2_link_93 (by decide) ?_
      refine E_lvsub [0, 2] [(1, .int (x3.1 + 1)), (0, .ref (Γ.2.1 7))] rfl ?_
      exact hr2 (x3.1 + 1, x6.2)
    · refine E_aload_n 2 dX2_link_36 rfl rfl ?_
      refine E_getR 2 (j := 0) (ci := 2) (T := TX2) (C0 := RX2) (ref := "SameWrong$Givers") dX2_link_37 rfl (by decide) rfl inX2 (by decide) kw_226 rfl rfl rfl ?_
      refine E_iload_n 1 dX2_link_40 rfl rfl ?_
      refine E_iload_n 0 dX2_link_41 rfl rfl ?_
      refine E_callVZ (T := TX7) (ci := 7) [.int x3.1, .int x6.1] [] dX2_link_42 rfl kw_621 kw_476 kw_477 kw_3 ko_X7_areNear rfl hy_X7_areNear rfl (by decide) (Nat.le_of_ble_eq_true rfl) rfl (by decide) rfl (c_X7_areNear Γ x3.1 x6.1 x6.2) (fun v7 => ?_)
      refine E_ifeqb 84 dX2_link_45 (by decide) ?_ ?_
      · refine E_iinc 0 [(2, .int (x6.1 + 1)), (1, .int x3.1), (0, .ref (Γ.2.1 7))] dX2_link_84 rfl rfl (by decide) rfl ?_
        refine E_goto 25 dX2_link_87 (by decide) ?_
        exact hr5 (x6.1 + 1, x6.2)
      · refine E_aload_n 2 dX2_link_48 rfl rfl ?_
        refine E_getR 6 (j := 3) (ci := 2) (T := TX2) (C0 := RX2) (ref := "SameWrong$Givers") dX2_link_49 rfl (by decide) rfl inX2 (by decide) kw_229 rfl rfl rfl ?_
        refine E_iload_n 1 dX2_link_52 rfl rfl ?_
        refine E_iload_n 0 dX2_link_53 rfl rfl ?_
        refine E_callVZS (T := TX6) (ci := 6) [.int x3.1, .int x6.1] [] dX2_link_54 rfl kw_622 kw_535 kw_536 kw_8 ko_X6_areOdd rfl hy_X6_areOdd rfl (by decide) (Nat.le_of_ble_eq_true rfl) rfl (by decide) rfl (c_X6_areOdd Γ x3.1 x6.1 x6.2) (fun p8 => ?_)
        refine E_ifeqb 84 dX2_link_57 (by decide) ?_ ?_
        · refine E_iinc 0 [(2, .int (x6.1 + 1)), (1, .int x3.1), (0, .ref (Γ.2.1 7))] dX2_link_84 rfl rfl (by decide) rfl ?_
          refine E_goto 25 dX2_link_87 (by decide) ?_
          exact hr5 (x6.1 + 1, p8.2)
        · refine E_aload_n 2 dX2_link_60 rfl rfl ?_
          refine E_getR 24 (j := 4) (ci := 2) (T := TX2) (C0 := RX2) (ref := "SameWrong$Givers") dX2_link_61 rfl (by decide) rfl inX2 (by decide) kw_230 rfl rfl rfl ?_
          refine E_iload_n 1 dX2_link_64 rfl rfl ?_
          refine E_dup2 dX2_link_65 rfl rfl ?_
          refine E_iaload dX2_link_66 rfl (by decide) ?_
          refine E_iconst (v := 1) dX2_link_67 (by decide) ?_
          refine E_iload_n 0 dX2_link_68 rfl rfl ?_
          refine E_ishl dX2_link_69 ?_
          refine E_ior dX2_link_70 ?_
          refine E_iastore dX2_link_71 rfl (by decide) ?_
          refine E_bd (fun s9 => ?_)
          refine E_aload_n 2 dX2_link_72 rfl rfl ?_
          refine E_getR 24 (j := 4) (ci := 2) (T := TX2) (C0 := RX2) (ref := "SameWrong$Givers") dX2_link_73 rfl (by decide) rfl inX2 (by decide) kw_230 rfl rfl rfl ?_
          refine E_iload_n 0 dX2_link_76 rfl rfl ?_
          refine E_dup2 dX2_link_77 rfl rfl ?_
          refine E_iaload dX2_link_78 rfl (by decide) ?_
          refine E_iconst (v := 1) dX2_link_79 (by decide) ?_
          refine E_iload_n 1 dX2_link_80 rfl rfl ?_
          refine E_ishl dX2_link_81 ?_
          refine E_ior dX2_link_82 ?_
          refine E_iastore dX2_link_83 rfl (by decide) ?_
          refine E_bd (fun s10 => ?_)
          refine E_iinc 0 [(2, .int (x6.1 + 1)), (1, .int x3.1), (0, .ref (Γ.2.1 7))] dX2_link_84 rfl rfl (by decide) rfl ?_
          refine E_goto 25 dX2_link_87 (by decide) ?_
          exact hr5 (x6.1 + 1, s10)
theorem c_X2_link (Γ : GT)  (s : St)  (x : St) (h : f_X2_link  s = some x) (l : Launch) : MC l yX2_link cX2_link 3 none 6 WC Γ [.ref (Γ.2.1 7)] s (emV x) := MC_of (by decide +kernel) (Nat.le_of_ble_eq_true rfl) (e_X2_link Γ  s ) h l
set_option maxRecDepth 100000 in
set_option maxHeartbeats 4000000 in
theorem e_X7_allBits (Γ : GT)  (s : St)  : E RX7 cX7_allBits 1 (some .int) 1 WC Γ (emI s) 0 [(0, .ref (Γ.2.1 2))] [] s (f_X7_allBits  s) := by
  unfold f_X7_allBits
  refine E_iconst (v := 1) dX7_allBits_0 (by decide) ?_
  refine E_aload_n 0 dX7_allBits_1 rfl rfl ?_
  refine E_getI (j := 0) (ci := 7) (T := TX7) (C0 := RX7) (ref := "SameWrong$Room") dX7_allBits_2 rfl (by decide) rfl inX7 (by decide) kw_70 rfl rfl ?_
  refine E_ishl dX7_allBits_5 ?_
  refine E_iconst (v := 1) dX7_allBits_6 (by decide) ?_
  refine E_isub dX7_allBits_7 ?_
  exact E_ireturn dX7_allBits_8 rfl rfl
theorem c_X7_allBits (Γ : GT)  (s : St)  (x : Int32) (h : f_X7_allBits  s = some x) (l : Launch) : MC l yX7_allBits cX7_allBits 1 (some .int) 1 WC Γ [.ref (Γ.2.1 2)] s ((emI s) x) := MC_of (by decide +kernel) (Nat.le_of_ble_eq_true rfl) (e_X7_allBits Γ  s ) h l
set_option maxRecDepth 100000 in
set_option maxHeartbeats 4000000 in
theorem e_J6_bitCount_0f7a4 (Γ : GT) (a0 : Int32) (s : St)  : E RJ6 cJ6_bitCount_0f7a4 1 (some .int) 1 WC Γ (emI s) 0 [(0, .int a0)] [] s (f_J6_bitCount_0f7a4 a0 s) := by
  unfold f_J6_bitCount_0f7a4
  refine E_iload_n 0 dJ6_bitCount_0f7a4_0 rfl rfl ?_
  refine E_iload_n 0 dJ6_bitCount_0f7a4_1 rfl rfl ?_
  refine E_iconst (v := 1) dJ6_bitCount_0f7a4_2 (by decide) ?_
  refine E_iushr dJ6_bitCount_0f7a4_3 ?_
  refine E_ldcw (v := 1431655765) dJ6_bitCount_0f7a4_4 kw_634 ?_
  refine E_iand dJ6_bitCount_0f7a4_7 ?_
  refine E_isub dJ6_bitCount_0f7a4_8 ?_
  refine E_istore_n [(0, .int (a0 - (((a0.toUInt32 >>> (Int32.toUInt32 1 &&& Int32.toUInt32 31)).toInt32) &&& 1431655765)))] dJ6_bitCount_0f7a4_9 rfl (by decide) rfl ?_
  refine E_bv (fun v1 => [(0, .int v1)]) (fun v1 => ?_) (a0 - (((a0.toUInt32 >>> (Int32.toUInt32 1 &&& Int32.toUInt32 31)).toInt32) &&& 1431655765))
  refine E_iload_n 0 dJ6_bitCount_0f7a4_10 rfl rfl ?_
  refine E_ldcw (v := 858993459) dJ6_bitCount_0f7a4_11 kw_635 ?_
  refine E_iand dJ6_bitCount_0f7a4_14 ?_
  refine E_iload_n 0 dJ6_bitCount_0f7a4_15 rfl rfl ?_
  refine E_iconst (v := 2) dJ6_bitCount_0f7a4_16 (by decide) ?_
  refine E_iushr dJ6_bitCount_0f7a4_17 ?_
  refine E_ldcw (v := 858993459) dJ6_bitCount_0f7a4_18 kw_635 ?_
  refine E_iand dJ6_bitCount_0f7a4_21 ?_
  refine E_iadd dJ6_bitCount_0f7a4_22 ?_
  refine E_istore_n [(0, .int ((v1 &&& 858993459) + (((v1.toUInt32 >>> (Int32.toUInt32 2 &&& Int32.toUInt32 31)).toInt32) &&& 858993459)))] dJ6_bitCount_0f7a4_23 rfl (by decide) rfl ?_
  refine E_bv (fun v2 => [(0, .int v2)]) (fun v2 => ?_) ((v1 &&& 858993459) + (((v1.toUInt32 >>> (Int32.toUInt32 2 &&& Int32.toUInt32 31)).toInt32) &&& 858993459))
  refine E_iload_n 0 dJ6_bitCount_0f7a4_24 rfl rfl ?_
  refine E_iload_n 0 dJ6_bitCount_0f7a4_25 rfl rfl ?_
  refine E_iconst (v := 4) dJ6_bitCount_0f7a4_26 (by decide) ?_
  refine E_iushr dJ6_bitCount_0f7a4_27 ?_
  refine E_iadd dJ6_bitCount_0f7a4_28 ?_
  refine E_ldcw (v := 252645135) dJ6_bitCount_0f7a4_29 kw_636 ?_
  refine E_iand dJ6_bitCount_0f7a4_32 ?_
  refine E_istore_n [(0, .int ((v2 + ((v2.toUInt32 >>> (Int32.toUInt32 4 &&& Int32.toUInt32 31)).toInt32)) &&& 252645135))] dJ6_bitCount_0f7a4_33 rfl (by decide) rfl ?_
  refine E_bv (fun v3 => [(0, .int v3)]) (fun v3 => ?_) ((v2 + ((v2.toUInt32 >>> (Int32.toUInt32 4 &&& Int32.toUInt32 31)).toInt32)) &&& 252645135)
  refine E_iload_n 0 dJ6_bitCount_0f7a4_34 rfl rfl ?_
  refine E_iload_n 0 dJ6_bitCount_0f7a4_35 rfl rfl ?_
  refine E_bipush (v := 8) dJ6_bitCount_0f7a4_36 (by decide) ?_
  refine E_iushr dJ6_bitCount_0f7a4_38 ?_
  refine E_iadd dJ6_bitCount_0f7a4_39 ?_
  refine E_istore_n [(0, .int (v3 + ((v3.toUInt32 >>> (Int32.toUInt32 8 &&& Int32.toUInt32 31)).toInt32)))] dJ6_bitCount_0f7a4_40 rfl (by decide) rfl ?_
  refine E_bv (fun v4 => [(0, .int v4)]) (fun v4 => ?_) (v3 + ((v3.toUInt32 >>> (Int32.toUInt32 8 &&& Int32.toUInt32 31)).toInt32))
  refine E_iload_n 0 dJ6_bitCount_0f7a4_41 rfl rfl ?_
  refine E_iload_n 0 dJ6_bitCount_0f7a4_42 rfl rfl ?_
  refine E_bipush (v := 16) dJ6_bitCount_0f7a4_43 (by decide) ?_
  refine E_iushr dJ6_bitCount_0f7a4_45 ?_
  refine E_iadd dJ6_bitCount_0f7a4_46 ?_
  refine E_istore_n [(0, .int (v4 + ((v4.toUInt32 >>> (Int32.toUInt32 16 &&& Int32.toUInt32 31)).toInt32)))] dJ6_bitCount_0f7a4_47 rfl (by decide) rfl ?_
  refine E_bv (fun v5 => [(0, .int v5)]) (fun v5 => ?_) (v4 + ((v4.toUInt32 >>> (Int32.toUInt32 16 &&& Int32.toUInt32 31)).toInt32))
  refine E_iload_n 0 dJ6_bitCount_0f7a4_48 rfl rfl ?_
  refine E_bipush (v := 63) dJ6_bitCount_0f7a4_49 (by decide) ?_
  refine E_iand dJ6_bitCount_0f7a4_51 ?_
  exact E_ireturn dJ6_bitCount_0f7a4_52 rfl rfl
theorem c_J6_bitCount_0f7a4 (Γ : GT) (a0 : Int32) (s : St)  (x : Int32) (h : f_J6_bitCount_0f7a4 a0 s = some x) (l : Launch) : MC l yJ6_bitCount_0f7a4 cJ6_bitCount_0f7a4 1 (some .int) 1 WC Γ [.int a0] s ((emI s) x) := MC_of (by decide +kernel) (Nat.le_of_ble_eq_true rfl) (e_J6_bitCount_0f7a4 Γ a0 s ) h l
set_option maxRecDepth 100000 in
set_option maxHeartbeats 4000000 in
theorem e_X2_covers (Γ : GT) (a1 : Int32) (s : St)  : E RX2 cX2_covers 3 (some .boolean) 1 WC Γ (emZ s) 0 [(0, .ref (Γ.2.1 7)), (1, .int a1)] [] s (f_X2_covers a1 s) := by
  unfold f_X2_covers
  refine E_iconst (v := 0) dX2_covers_0 (by decide) ?_
  refine E_istore_n [(2, .int 0), (0, .ref (Γ.2.1 7)), (1, .int a1)] dX2_covers_1 rfl (by decide) rfl ?_
  refine E_lp (F := L_X2_covers_2 a1 s) (fun (x : Int32) => [(2, .int x), (0, .ref (Γ.2.1 7)), (1, .int a1)]) (fun (x : Int32) => s) ?_ NN 0
  intro r1 hr1 x2
  show E _ _ _ _ _ _ _ _ _ _ _ _ (L_X2_covers_2 a1 s r1 x2)
  unfold L_X2_covers_2
  refine E_iload_n 0 dX2_covers_2 rfl rfl ?_
  refine E_aload_n 1 dX2_covers_3 rfl rfl ?_
  refine E_getR 2 (j := 0) (ci := 2) (T := TX2) (C0 := RX2) (ref := "SameWrong$Givers") dX2_covers_4 rfl (by decide) rfl inX2 (by decide) kw_226 rfl rfl rfl ?_
  refine E_getI (j := 0) (ci := 7) (T := TX7) (C0 := RX7) (ref := "SameWrong$Room") dX2_covers_7 rfl (by decide) rfl inX7 (by decide) kw_73 rfl rfl ?_
  refine E_icmpge 42 dX2_covers_10 (by decide) ?_ ?_
  · refine E_iconst (v := 1) dX2_covers_42 (by decide) ?_
    exact E_zreturn (b := true) dX2_covers_43 rfl rfl
  · refine E_iload_n 2 dX2_covers_13 rfl rfl ?_
    refine E_iload_n 0 dX2_covers_14 rfl rfl ?_
    refine E_ishr dX2_covers_15 ?_
    refine E_iconst (v := 1) dX2_covers_16 (by decide) ?_
    refine E_iand dX2_covers_17 ?_
    refine E_ifne 36 dX2_covers_18 (by decide) ?_ ?_
    · refine E_iinc 0 [(2, .int (x2 + 1)), (0, .ref (Γ.2.1 7)), (1, .int a1)] dX2_covers_36 rfl rfl (by decide) rfl ?_
      refine E_goto 2 dX2_covers_39 (by decide) ?_
      exact hr1 (x2 + 1)
    · refine E_aload_n 1 dX2_covers_21 rfl rfl ?_
      refine E_getR 24 (j := 4) (ci := 2) (T := TX2) (C0 := RX2) (ref := "SameWrong$Givers") dX2_covers_22 rfl (by decide) rfl inX2 (by decide) kw_230 rfl rfl rfl ?_
      refine E_iload_n 0 dX2_covers_25 rfl rfl ?_
      refine E_iaload dX2_covers_26 rfl (by decide) ?_
      refine E_iload_n 2 dX2_covers_27 rfl rfl ?_
      refine E_iconst (v := (-1)) dX2_covers_28 (by decide) ?_
      refine E_ixor dX2_covers_29 ?_
      refine E_iand dX2_covers_30 ?_
      refine E_ifeq 36 dX2_covers_31 (by decide) ?_ ?_
      · refine E_iinc 0 [(2, .int (x2 + 1)), (0, .ref (Γ.2.1 7)), (1, .int a1)] dX2_covers_36 rfl rfl (by decide) rfl ?_
        refine E_goto 2 dX2_covers_39 (by decide) ?_
        exact hr1 (x2 + 1)
      · refine E_iconst (v := 0) dX2_covers_34 (by decide) ?_
        exact E_zreturn (b := false) dX2_covers_35 rfl rfl
theorem c_X2_covers (Γ : GT) (a1 : Int32) (s : St)  (x : Bool) (h : f_X2_covers a1 s = some x) (l : Launch) : MC l yX2_covers cX2_covers 3 (some .boolean) 1 WC Γ [.ref (Γ.2.1 7), .int a1] s ((emZ s) x) := MC_of (by decide +kernel) (Nat.le_of_ble_eq_true rfl) (e_X2_covers Γ a1 s ) h l
set_option maxRecDepth 100000 in
set_option maxHeartbeats 4000000 in
theorem e_X2_fewest (Γ : GT)  (s : St)  : E RX2 cX2_fewest 3 (some .int) 2 WC Γ (emI s) 0 [(0, .ref (Γ.2.1 7))] [] s (f_X2_fewest  s) := by
  unfold f_X2_fewest
  refine E_aload_n 0 dX2_fewest_0 rfl rfl ?_
  refine E_getR 2 (j := 0) (ci := 2) (T := TX2) (C0 := RX2) (ref := "SameWrong$Givers") dX2_fewest_1 rfl (by decide) rfl inX2 (by decide) kw_226 rfl rfl rfl ?_
  refine E_callVI (T := TX7) (ci := 7) [] [] dX2_fewest_4 rfl kw_627 kw_628 kw_629 kw_3 ko_X7_allBits rfl hy_X7_allBits rfl (by decide) (Nat.le_of_ble_eq_true rfl) rfl (by decide) rfl (c_X7_allBits Γ s) (fun v1 => ?_)
  refine E_istore_n [(1, .int v1), (0, .ref (Γ.2.1 7))] dX2_fewest_7 rfl (by decide) rfl ?_
  refine E_iconst (v := 0) dX2_fewest_8 (by decide) ?_
  refine E_istore_n [(2, .int 0), (1, .int v1), (0, .ref (Γ.2.1 7))] dX2_fewest_9 rfl (by decide) rfl ?_
  refine E_lp (F := L_X2_fewest_10 s) (fun (x : Int32 × Int32) => [(2, .int x.1), (1, .int x.2), (0, .ref (Γ.2.1 7))]) (fun (x : Int32 × Int32) => s) ?_ NN (0, v1)
  intro r2 hr2 x3
  show E _ _ _ _ _ _ _ _ _ _ _ _ (L_X2_fewest_10 s r2 x3)
  unfold L_X2_fewest_10
  refine E_iload_n 0 dX2_fewest_10 rfl rfl ?_
  refine E_aload_n 2 dX2_fewest_11 rfl rfl ?_
  refine E_getR 2 (j := 0) (ci := 2) (T := TX2) (C0 := RX2) (ref := "SameWrong$Givers") dX2_fewest_12 rfl (by decide) rfl inX2 (by decide) kw_226 rfl rfl rfl ?_
  refine E_callVI (T := TX7) (ci := 7) [] [.int x3.1] dX2_fewest_15 rfl kw_627 kw_628 kw_629 kw_3 ko_X7_allBits rfl hy_X7_allBits rfl (by decide) (Nat.le_of_ble_eq_true rfl) rfl (by decide) rfl (c_X7_allBits Γ s) (fun v4 => ?_)
  refine E_icmpgt 48 dX2_fewest_18 (by decide) ?_ ?_
  · refine E_iload_n 1 dX2_fewest_48 rfl rfl ?_
    exact E_ireturn dX2_fewest_49 rfl rfl
  · refine E_iload_n 0 dX2_fewest_21 rfl rfl ?_
    refine E_callSI [.int x3.1] [] dX2_fewest_22 rfl kw_631 kw_632 kw_16 ko_J6_bitCount_0f7a4 hy_J6_bitCount_0f7a4 rfl (by decide) (Nat.le_of_ble_eq_true rfl) (c_J6_bitCount_0f7a4 Γ x3.1 s) (fun v5 => ?_)
    refine E_iload_n 1 dX2_fewest_25 rfl rfl ?_
    refine E_callSI [.int x3.2] [.int v5] dX2_fewest_26 rfl kw_631 kw_632 kw_16 ko_J6_bitCount_0f7a4 hy_J6_bitCount_0f7a4 rfl (by decide) (Nat.le_of_ble_eq_true rfl) (c_J6_bitCount_0f7a4 Γ x3.2 s) (fun v6 => ?_)
    refine E_icmpge 42 dX2_fewest_29 (by decide) ?_ ?_
    · refine E_iinc 0 [(2, .int (x3.1 + 1)), (1, .int x3.2), (0, .ref (Γ.2.1 7))] dX2_fewest_42 rfl rfl (by decide) rfl ?_
      refine E_goto 10 dX2_fewest_45 (by decide) ?_
      exact hr2 (x3.1 + 1, x3.2)
    · refine E_aload_n 2 dX2_fewest_32 rfl rfl ?_
      refine E_iload_n 0 dX2_fewest_33 rfl rfl ?_
      refine E_callVZ (T := TX2) (ci := 2) [.int x3.1] [] dX2_fewest_34 rfl kw_637 kw_639 kp_15 kw_9 ko_X2_covers rfl hy_X2_covers rfl (by decide) (Nat.le_of_ble_eq_true rfl) rfl (by decide) rfl (c_X2_covers Γ x3.1 s) (fun v7 => ?_)
      refine E_ifeqb 42 dX2_fewest_37 (by decide) ?_ ?_
      · refine E_iinc 0 [(2, .int (x3.1 + 1)), (1, .int x3.2), (0, .ref (Γ.2.1 7))] dX2_fewest_42 rfl rfl (by decide) rfl ?_
        refine E_goto 10 dX2_fewest_45 (by decide) ?_
        exact hr2 (x3.1 + 1, x3.2)
      · refine E_iload_n 0 dX2_fewest_40 rfl rfl ?_
        refine E_istore_n [(1, .int x3.1), (2, .int x3.1), (0, .ref (Γ.2.1 7))] dX2_fewest_41 rfl (by decide) rfl ?_
        refine E_iinc 1 [(2, .int (x3.1 + 1)), (1, .int x3.1), (0, .ref (Γ.2.1 7))] dX2_fewest_42 rfl rfl (by decide) rfl ?_
        refine E_goto 10 dX2_fewest_45 (by decide) ?_
        exact hr2 (x3.1 + 1, x3.1)
theorem c_X2_fewest (Γ : GT)  (s : St)  (x : Int32) (h : f_X2_fewest  s = some x) (l : Launch) : MC l yX2_fewest cX2_fewest 3 (some .int) 2 WC Γ [.ref (Γ.2.1 7)] s ((emI s) x) := MC_of (by decide +kernel) (Nat.le_of_ble_eq_true rfl) (e_X2_fewest Γ  s ) h l
set_option maxRecDepth 100000 in
set_option maxHeartbeats 4000000 in
theorem e_X5_isRight (Γ : GT) (a1 : Int32) (a2 : Int32) (s : St)  : E RX5 cX5_isRight 3 (some .boolean) 1 WC Γ (emZ s) 0 [(0, .ref (Γ.2.1 4)), (1, .int a1), (2, .int a2)] [] s (f_X5_isRight a1 a2 s) := by
  unfold f_X5_isRight
  refine E_aload_n 0 dX5_isRight_0 rfl rfl ?_
  refine E_getR 1 (j := 1) (ci := 5) (T := TX5) (C0 := RX5) (ref := "SameWrong$Marks") dX5_isRight_1 rfl (by decide) rfl inX5 (by decide) kw_159 rfl rfl rfl ?_
  refine E_getR 11 (j := 0) (ci := 4) (T := TX4) (C0 := RX4) (ref := "SameWrong$Key") dX5_isRight_4 rfl (by decide) rfl inX4 (by decide) kw_33 rfl rfl rfl ?_
  refine E_iload_n 2 dX5_isRight_7 rfl rfl ?_
  refine E_iaload dX5_isRight_8 rfl (by decide) ?_
  refine E_ifeq 39 dX5_isRight_9 (by decide) ?_ ?_
  · refine E_iconst (v := 0) dX5_isRight_39 (by decide) ?_
    exact E_zreturn (b := false) dX5_isRight_40 rfl rfl
  · refine E_aload_n 0 dX5_isRight_12 rfl rfl ?_
    refine E_getR 3 (j := 3) (ci := 5) (T := TX5) (C0 := RX5) (ref := "SameWrong$Marks") dX5_isRight_13 rfl (by decide) rfl inX5 (by decide) kw_161 rfl rfl rfl ?_
    refine E_getR 32 (j := 3) (ci := 10) (T := TX10) (C0 := RX10) (ref := "SameWrong$Tellings") dX5_isRight_16 rfl (by decide) rfl inX10 (by decide) kw_101 rfl rfl rfl ?_
    refine E_iload_n 1 dX5_isRight_19 rfl rfl ?_
    refine E_aaload (t := 1) dX5_isRight_20 (by decide) rfl (by decide) ?_
    refine E_iload_n 2 dX5_isRight_21 rfl rfl ?_
    refine E_iaload dX5_isRight_22 (sh_cur _) (lt_cur _) ?_
    refine E_aload_n 0 dX5_isRight_23 rfl rfl ?_
    refine E_getR 1 (j := 1) (ci := 5) (T := TX5) (C0 := RX5) (ref := "SameWrong$Marks") dX5_isRight_24 rfl (by decide) rfl inX5 (by decide) kw_159 rfl rfl rfl ?_
    refine E_getR 11 (j := 0) (ci := 4) (T := TX4) (C0 := RX4) (ref := "SameWrong$Key") dX5_isRight_27 rfl (by decide) rfl inX4 (by decide) kw_33 rfl rfl rfl ?_
    refine E_iload_n 2 dX5_isRight_30 rfl rfl ?_
    refine E_iaload dX5_isRight_31 rfl (by decide) ?_
    refine E_icmpne 39 dX5_isRight_32 (by decide) ?_ ?_
    · refine E_iconst (v := 0) dX5_isRight_39 (by decide) ?_
      exact E_zreturn (b := false) dX5_isRight_40 rfl rfl
    · refine E_iconst (v := 1) dX5_isRight_35 (by decide) ?_
      refine E_goto 40 dX5_isRight_36 (by decide) ?_
      exact E_zreturn (b := true) dX5_isRight_40 rfl rfl
theorem c_X5_isRight (Γ : GT) (a1 : Int32) (a2 : Int32) (s : St)  (x : Bool) (h : f_X5_isRight a1 a2 s = some x) (l : Launch) : MC l yX5_isRight cX5_isRight 3 (some .boolean) 1 WC Γ [.ref (Γ.2.1 4), .int a1, .int a2] s ((emZ s) x) := MC_of (by decide +kernel) (Nat.le_of_ble_eq_true rfl) (e_X5_isRight Γ a1 a2 s ) h l
set_option maxRecDepth 100000 in
set_option maxHeartbeats 4000000 in
theorem e_X5_restOf (Γ : GT) (a1 : Int32) (a2 : Int32) (s : St)  : E RX5 cX5_restOf 5 (some .int) 2 WC Γ (emI s) 0 [(0, .ref (Γ.2.1 4)), (1, .int a1), (2, .int a2)] [] s (f_X5_restOf a1 a2 s) := by
  unfold f_X5_restOf
  refine E_iconst (v := 0) dX5_restOf_0 (by decide) ?_
  refine E_istore_n [(3, .int 0), (0, .ref (Γ.2.1 4)), (1, .int a1), (2, .int a2)] dX5_restOf_1 rfl (by decide) rfl ?_
  refine E_iconst (v := 0) dX5_restOf_2 (by decide) ?_
  refine E_istore [(4, .int 0), (3, .int 0), (0, .ref (Γ.2.1 4)), (1, .int a1), (2, .int a2)] dX5_restOf_3 (by decide) rfl ?_
  refine E_lp (F := L_X5_restOf_5 a1 a2 s) (fun (x : Int32 × Int32) => [(4, .int x.1), (3, .int x.2), (0, .ref (Γ.2.1 4)), (1, .int a1), (2, .int a2)]) (fun (x : Int32 × Int32) => s) ?_ NN (0, 0)
  intro r1 hr1 x2
  show E _ _ _ _ _ _ _ _ _ _ _ _ (L_X5_restOf_5 a1 a2 s r1 x2)
  unfold L_X5_restOf_5
  refine E_iload 0 dX5_restOf_5 rfl ?_
  refine E_aload_n 2 dX5_restOf_7 rfl rfl ?_
  refine E_getR 1 (j := 1) (ci := 5) (T := TX5) (C0 := RX5) (ref := "SameWrong$Marks") dX5_restOf_8 rfl (by decide) rfl inX5 (by decide) kw_159 rfl rfl rfl ?_
  refine E_getI (j := 2) (ci := 4) (T := TX4) (C0 := RX4) (ref := "SameWrong$Key") dX5_restOf_11 rfl (by decide) rfl inX4 (by decide) kw_42 rfl rfl ?_
  refine E_icmpge 42 dX5_restOf_14 (by decide) ?_ ?_
  · refine E_iload_n 1 dX5_restOf_42 rfl rfl ?_
    exact E_ireturn dX5_restOf_43 rfl rfl
  · refine E_iload 0 dX5_restOf_17 rfl ?_
    refine E_iload_n 4 dX5_restOf_19 rfl rfl ?_
    refine E_icmpeq 36 dX5_restOf_20 (by decide) ?_ ?_
    · refine E_iinc 0 [(4, .int (x2.1 + 1)), (3, .int x2.2), (0, .ref (Γ.2.1 4)), (1, .int a1), (2, .int a2)] dX5_restOf_36 rfl rfl (by decide) rfl ?_
      refine E_goto 5 dX5_restOf_39 (by decide) ?_
      exact hr1 (x2.1 + 1, x2.2)
    · refine E_aload_n 2 dX5_restOf_23 rfl rfl ?_
      refine E_iload_n 3 dX5_restOf_24 rfl rfl ?_
      refine E_iload 0 dX5_restOf_25 rfl ?_
      refine E_callVZ (T := TX5) (ci := 5) [.int a1, .int x2.1] [] dX5_restOf_27 rfl kw_494 kw_495 kw_496 kw_6 ko_X5_isRight rfl hy_X5_isRight rfl (by decide) (Nat.le_of_ble_eq_true rfl) rfl (by decide) rfl (c_X5_isRight Γ a1 x2.1 s) (fun v3 => ?_)
      refine E_ifeqb 36 dX5_restOf_30 (by decide) ?_ ?_
      · refine E_iinc 0 [(4, .int (x2.1 + 1)), (3, .int x2.2), (0, .ref (Γ.2.1 4)), (1, .int a1), (2, .int a2)] dX5_restOf_36 rfl rfl (by decide) rfl ?_
        refine E_goto 5 dX5_restOf_39 (by decide) ?_
        exact hr1 (x2.1 + 1, x2.2)
      · refine E_iinc 1 [(3, .int (x2.2 + 1)), (4, .int x2.1), (0, .ref (Γ.2.1 4)), (1, .int a1), (2, .int a2)] dX5_restOf_33 rfl rfl (by decide) rfl ?_
        refine E_iinc 1 [(4, .int (x2.1 + 1)), (3, .int (x2.2 + 1)), (0, .ref (Γ.2.1 4)), (1, .int a1), (2, .int a2)] dX5_restOf_36 rfl rfl (by decide) rfl ?_
        refine E_goto 5 dX5_restOf_39 (by decide) ?_
        exact hr1 (x2.1 + 1, x2.2 + 1)
theorem c_X5_restOf (Γ : GT) (a1 : Int32) (a2 : Int32) (s : St)  (x : Int32) (h : f_X5_restOf a1 a2 s = some x) (l : Launch) : MC l yX5_restOf cX5_restOf 5 (some .int) 2 WC Γ [.ref (Γ.2.1 4), .int a1, .int a2] s ((emI s) x) := MC_of (by decide +kernel) (Nat.le_of_ble_eq_true rfl) (e_X5_restOf Γ a1 a2 s ) h l
set_option maxRecDepth 100000 in
set_option maxHeartbeats 4000000 in
theorem e_X5_markOf (Γ : GT) (a1 : Int32) (s : St)  : E RX5 cX5_markOf 2 (some .int) 3 WC Γ (emI s) 0 [(0, .ref (Γ.2.1 4)), (1, .int a1)] [] s (f_X5_markOf a1 s) := by
  unfold f_X5_markOf
  refine E_aload_n 0 dX5_markOf_0 rfl rfl ?_
  refine E_iload_n 1 dX5_markOf_1 rfl rfl ?_
  refine E_iconst (v := (-1)) dX5_markOf_2 (by decide) ?_
  refine E_callVI (T := TX5) (ci := 5) [.int a1, .int (-1)] [] dX5_markOf_3 rfl kw_490 kw_491 kw_492 kw_6 ko_X5_restOf rfl hy_X5_restOf rfl (by decide) (Nat.le_of_ble_eq_true rfl) rfl (by decide) rfl (c_X5_restOf Γ a1 (-1) s) (fun v1 => ?_)
  exact E_ireturn dX5_markOf_6 rfl rfl
theorem c_X5_markOf (Γ : GT) (a1 : Int32) (s : St)  (x : Int32) (h : f_X5_markOf a1 s = some x) (l : Launch) : MC l yX5_markOf cX5_markOf 2 (some .int) 3 WC Γ [.ref (Γ.2.1 4), .int a1] s ((emI s) x) := MC_of (by decide +kernel) (Nat.le_of_ble_eq_true rfl) (e_X5_markOf Γ a1 s ) h l
set_option maxRecDepth 100000 in
set_option maxHeartbeats 4000000 in
theorem e_X8_wasRubbed (Γ : GT) (a1 : Int32) (s : St)  : E RX8 cX8_wasRubbed 2 (some .boolean) 1 WC Γ (emZ s) 0 [(0, .ref (Γ.2.1 5)), (1, .int a1)] [] s (f_X8_wasRubbed a1 s) := by
  unfold f_X8_wasRubbed
  refine E_aload_n 0 dX8_wasRubbed_0 rfl rfl ?_
  refine E_getR 3 (j := 1) (ci := 8) (T := TX8) (C0 := RX8) (ref := "SameWrong$Rubbings") dX8_wasRubbed_1 rfl (by decide) rfl inX8 (by decide) kw_184 rfl rfl rfl ?_
  refine E_getR 16 (j := 5) (ci := 10) (T := TX10) (C0 := RX10) (ref := "SameWrong$Tellings") dX8_wasRubbed_4 rfl (by decide) rfl inX10 (by decide) kw_108 rfl rfl rfl ?_
  refine E_iload_n 1 dX8_wasRubbed_7 rfl rfl ?_
  refine E_iaload dX8_wasRubbed_8 rfl (by decide) ?_
  refine E_aload_n 0 dX8_wasRubbed_9 rfl rfl ?_
  refine E_getR 1 (j := 0) (ci := 8) (T := TX8) (C0 := RX8) (ref := "SameWrong$Rubbings") dX8_wasRubbed_10 rfl (by decide) rfl inX8 (by decide) kw_183 rfl rfl rfl ?_
  refine E_getI (j := 2) (ci := 4) (T := TX4) (C0 := RX4) (ref := "SameWrong$Key") dX8_wasRubbed_13 rfl (by decide) rfl inX4 (by decide) kw_43 rfl rfl ?_
  refine E_icmpge 56 dX8_wasRubbed_16 (by decide) ?_ ?_
  · refine E_iconst (v := 0) dX8_wasRubbed_56 (by decide) ?_
    exact E_zreturn (b := false) dX8_wasRubbed_57 rfl rfl
  · refine E_aload_n 0 dX8_wasRubbed_19 rfl rfl ?_
    refine E_getR 3 (j := 1) (ci := 8) (T := TX8) (C0 := RX8) (ref := "SameWrong$Rubbings") dX8_wasRubbed_20 rfl (by decide) rfl inX8 (by decide) kw_184 rfl rfl rfl ?_
    refine E_getR 18 (j := 7) (ci := 10) (T := TX10) (C0 := RX10) (ref := "SameWrong$Tellings") dX8_wasRubbed_23 rfl (by decide) rfl inX10 (by decide) kw_112 rfl rfl rfl ?_
    refine E_iload_n 1 dX8_wasRubbed_26 rfl rfl ?_
    refine E_iaload dX8_wasRubbed_27 rfl (by decide) ?_
    refine E_ifeq 56 dX8_wasRubbed_28 (by decide) ?_ ?_
    · refine E_iconst (v := 0) dX8_wasRubbed_56 (by decide) ?_
      exact E_zreturn (b := false) dX8_wasRubbed_57 rfl rfl
    · refine E_aload_n 0 dX8_wasRubbed_31 rfl rfl ?_
      refine E_getR 3 (j := 1) (ci := 8) (T := TX8) (C0 := RX8) (ref := "SameWrong$Rubbings") dX8_wasRubbed_32 rfl (by decide) rfl inX8 (by decide) kw_184 rfl rfl rfl ?_
      refine E_getR 18 (j := 7) (ci := 10) (T := TX10) (C0 := RX10) (ref := "SameWrong$Tellings") dX8_wasRubbed_35 rfl (by decide) rfl inX10 (by decide) kw_112 rfl rfl rfl ?_
      refine E_iload_n 1 dX8_wasRubbed_38 rfl rfl ?_
      refine E_iaload dX8_wasRubbed_39 rfl (by decide) ?_
      refine E_aload_n 0 dX8_wasRubbed_40 rfl rfl ?_
      refine E_getR 3 (j := 1) (ci := 8) (T := TX8) (C0 := RX8) (ref := "SameWrong$Rubbings") dX8_wasRubbed_41 rfl (by decide) rfl inX8 (by decide) kw_184 rfl rfl rfl ?_
      refine E_getR 17 (j := 6) (ci := 10) (T := TX10) (C0 := RX10) (ref := "SameWrong$Tellings") dX8_wasRubbed_44 rfl (by decide) rfl inX10 (by decide) kw_110 rfl rfl rfl ?_
      refine E_iload_n 1 dX8_wasRubbed_47 rfl rfl ?_
      refine E_iaload dX8_wasRubbed_48 rfl (by decide) ?_
      refine E_icmpeq 56 dX8_wasRubbed_49 (by decide) ?_ ?_
      · refine E_iconst (v := 0) dX8_wasRubbed_56 (by decide) ?_
        exact E_zreturn (b := false) dX8_wasRubbed_57 rfl rfl
      · refine E_iconst (v := 1) dX8_wasRubbed_52 (by decide) ?_
        refine E_goto 57 dX8_wasRubbed_53 (by decide) ?_
        exact E_zreturn (b := true) dX8_wasRubbed_57 rfl rfl
theorem c_X8_wasRubbed (Γ : GT) (a1 : Int32) (s : St)  (x : Bool) (h : f_X8_wasRubbed a1 s = some x) (l : Launch) : MC l yX8_wasRubbed cX8_wasRubbed 2 (some .boolean) 1 WC Γ [.ref (Γ.2.1 5), .int a1] s ((emZ s) x) := MC_of (by decide +kernel) (Nat.le_of_ble_eq_true rfl) (e_X8_wasRubbed Γ a1 s ) h l
set_option maxRecDepth 100000 in
set_option maxHeartbeats 4000000 in
theorem e_X8_isKind (Γ : GT) (a1 : Int32) (a2 : Int32) (s : St)  : E RX8 cX8_isKind 4 (some .boolean) 1 WC Γ (emZ s) 0 [(0, .ref (Γ.2.1 5)), (1, .int a1), (2, .int a2)] [] s (f_X8_isKind a1 a2 s) := by
  unfold f_X8_isKind
  refine E_aload_n 0 dX8_isKind_0 rfl rfl ?_
  refine E_getR 1 (j := 0) (ci := 8) (T := TX8) (C0 := RX8) (ref := "SameWrong$Rubbings") dX8_isKind_1 rfl (by decide) rfl inX8 (by decide) kw_183 rfl rfl rfl ?_
  refine E_getR 11 (j := 0) (ci := 4) (T := TX4) (C0 := RX4) (ref := "SameWrong$Key") dX8_isKind_4 rfl (by decide) rfl inX4 (by decide) kw_34 rfl rfl rfl ?_
  refine E_aload_n 0 dX8_isKind_7 rfl rfl ?_
  refine E_getR 3 (j := 1) (ci := 8) (T := TX8) (C0 := RX8) (ref := "SameWrong$Rubbings") dX8_isKind_8 rfl (by decide) rfl inX8 (by decide) kw_184 rfl rfl rfl ?_
  refine E_getR 16 (j := 5) (ci := 10) (T := TX10) (C0 := RX10) (ref := "SameWrong$Tellings") dX8_isKind_11 rfl (by decide) rfl inX10 (by decide) kw_108 rfl rfl rfl ?_
  refine E_iload_n 1 dX8_isKind_14 rfl rfl ?_
  refine E_iaload dX8_isKind_15 rfl (by decide) ?_
  refine E_iaload dX8_isKind_16 rfl (by decide) ?_
  refine E_istore_n [(3, .int (s.1 11 (s.1 16 a1.toNatClampNeg).toNatClampNeg)), (0, .ref (Γ.2.1 5)), (1, .int a1), (2, .int a2)] dX8_isKind_17 rfl (by decide) rfl ?_
  refine E_bv (fun v1 => [(3, .int v1), (0, .ref (Γ.2.1 5)), (1, .int a1), (2, .int a2)]) (fun v1 => ?_) (s.1 11 (s.1 16 a1.toNatClampNeg).toNatClampNeg)
  refine E_iload_n 3 dX8_isKind_18 rfl rfl ?_
  refine E_ifne 24 dX8_isKind_19 (by decide) ?_ ?_
  · refine E_iload_n 0 dX8_isKind_24 rfl rfl ?_
    refine E_ifne 30 dX8_isKind_25 (by decide) ?_ ?_
    · refine E_iload_n 3 dX8_isKind_30 rfl rfl ?_
      refine E_iconst (v := 1) dX8_isKind_31 (by decide) ?_
      refine E_icmpne 56 dX8_isKind_32 (by decide) ?_ ?_
      · refine E_aload_n 1 dX8_isKind_56 rfl rfl ?_
        refine E_getR 3 (j := 1) (ci := 8) (T := TX8) (C0 := RX8) (ref := "SameWrong$Rubbings") dX8_isKind_57 rfl (by decide) rfl inX8 (by decide) kw_184 rfl rfl rfl ?_
        refine E_getR 18 (j := 7) (ci := 10) (T := TX10) (C0 := RX10) (ref := "SameWrong$Tellings") dX8_isKind_60 rfl (by decide) rfl inX10 (by decide) kw_112 rfl rfl rfl ?_
        refine E_iload_n 2 dX8_isKind_63 rfl rfl ?_
        refine E_iaload dX8_isKind_64 rfl (by decide) ?_
        refine E_iload_n 0 dX8_isKind_65 rfl rfl ?_
        refine E_icmpne 85 dX8_isKind_66 (by decide) ?_ ?_
        · refine E_iconst (v := 0) dX8_isKind_85 (by decide) ?_
          exact E_zreturn (b := false) dX8_isKind_86 rfl rfl
        · refine E_aload_n 1 dX8_isKind_69 rfl rfl ?_
          refine E_getR 3 (j := 1) (ci := 8) (T := TX8) (C0 := RX8) (ref := "SameWrong$Rubbings") dX8_isKind_70 rfl (by decide) rfl inX8 (by decide) kw_184 rfl rfl rfl ?_
          refine E_getR 17 (j := 6) (ci := 10) (T := TX10) (C0 := RX10) (ref := "SameWrong$Tellings") dX8_isKind_73 rfl (by decide) rfl inX10 (by decide) kw_110 rfl rfl rfl ?_
          refine E_iload_n 2 dX8_isKind_76 rfl rfl ?_
          refine E_iaload dX8_isKind_77 rfl (by decide) ?_
          refine E_ifeq 85 dX8_isKind_78 (by decide) ?_ ?_
          · refine E_iconst (v := 0) dX8_isKind_85 (by decide) ?_
            exact E_zreturn (b := false) dX8_isKind_86 rfl rfl
          · refine E_iconst (v := 1) dX8_isKind_81 (by decide) ?_
            refine E_goto 86 dX8_isKind_82 (by decide) ?_
            exact E_zreturn (b := true) dX8_isKind_86 rfl rfl
      · refine E_aload_n 1 dX8_isKind_35 rfl rfl ?_
        refine E_getR 3 (j := 1) (ci := 8) (T := TX8) (C0 := RX8) (ref := "SameWrong$Rubbings") dX8_isKind_36 rfl (by decide) rfl inX8 (by decide) kw_184 rfl rfl rfl ?_
        refine E_getR 17 (j := 6) (ci := 10) (T := TX10) (C0 := RX10) (ref := "SameWrong$Tellings") dX8_isKind_39 rfl (by decide) rfl inX10 (by decide) kw_110 rfl rfl rfl ?_
        refine E_iload_n 2 dX8_isKind_42 rfl rfl ?_
        refine E_iaload dX8_isKind_43 rfl (by decide) ?_
        refine E_iload_n 0 dX8_isKind_44 rfl rfl ?_
        refine E_icmpne 52 dX8_isKind_45 (by decide) ?_ ?_
        · refine E_iconst (v := 0) dX8_isKind_52 (by decide) ?_
          refine E_goto 86 dX8_isKind_53 (by decide) ?_
          exact E_zreturn (b := false) dX8_isKind_86 rfl rfl
        · refine E_iconst (v := 1) dX8_isKind_48 (by decide) ?_
          refine E_goto 86 dX8_isKind_49 (by decide) ?_
          exact E_zreturn (b := true) dX8_isKind_86 rfl rfl
    · refine E_iconst (v := 0) dX8_isKind_28 (by decide) ?_
      exact E_zreturn (b := false) dX8_isKind_29 rfl rfl
  · refine E_iconst (v := 1) dX8_isKind_22 (by decide) ?_
    exact E_zreturn (b := true) dX8_isKind_23 rfl rfl
theorem c_X8_isKind (Γ : GT) (a1 : Int32) (a2 : Int32) (s : St)  (x : Bool) (h : f_X8_isKind a1 a2 s = some x) (l : Launch) : MC l yX8_isKind cX8_isKind 4 (some .boolean) 1 WC Γ [.ref (Γ.2.1 5), .int a1, .int a2] s ((emZ s) x) := MC_of (by decide +kernel) (Nat.le_of_ble_eq_true rfl) (e_X8_isKind Γ a1 a2 s ) h l
set_option maxRecDepth 100000 in
set_option maxHeartbeats 4000000 in
theorem e_X8_countOf (Γ : GT) (a1 : Int32) (a2 : Int32) (s : St)  : E RX8 cX8_countOf 5 (some .int) 2 WC Γ (emI s) 0 [(0, .ref (Γ.2.1 5)), (1, .int a1), (2, .int a2)] [] s (f_X8_countOf a1 a2 s) := by
  unfold f_X8_countOf
  refine E_iconst (v := 0) dX8_countOf_0 (by decide) ?_
  refine E_istore_n [(3, .int 0), (0, .ref (Γ.2.1 5)), (1, .int a1), (2, .int a2)] dX8_countOf_1 rfl (by decide) rfl ?_
  refine E_iconst (v := 0) dX8_countOf_2 (by decide) ?_
  refine E_istore [(4, .int 0), (3, .int 0), (0, .ref (Γ.2.1 5)), (1, .int a1), (2, .int a2)] dX8_countOf_3 (by decide) rfl ?_
  refine E_lp (F := L_X8_countOf_5 a1 a2 s) (fun (x : Int32 × Int32) => [(4, .int x.1), (3, .int x.2), (0, .ref (Γ.2.1 5)), (1, .int a1), (2, .int a2)]) (fun (x : Int32 × Int32) => s) ?_ NN (0, 0)
  intro r1 hr1 x2
  show E _ _ _ _ _ _ _ _ _ _ _ _ (L_X8_countOf_5 a1 a2 s r1 x2)
  unfold L_X8_countOf_5
  refine E_iload 0 dX8_countOf_5 rfl ?_
  refine E_aload_n 2 dX8_countOf_7 rfl rfl ?_
  refine E_getR 3 (j := 1) (ci := 8) (T := TX8) (C0 := RX8) (ref := "SameWrong$Rubbings") dX8_countOf_8 rfl (by decide) rfl inX8 (by decide) kw_184 rfl rfl rfl ?_
  refine E_getI (j := 1) (ci := 10) (T := TX10) (C0 := RX10) (ref := "SameWrong$Tellings") dX8_countOf_11 rfl (by decide) rfl inX10 (by decide) kw_97 rfl rfl ?_
  refine E_icmpge 62 dX8_countOf_14 (by decide) ?_ ?_
  · refine E_iload_n 1 dX8_countOf_62 rfl rfl ?_
    exact E_ireturn dX8_countOf_63 rfl rfl
  · refine E_iload_n 3 dX8_countOf_17 rfl rfl ?_
    refine E_aload_n 2 dX8_countOf_18 rfl rfl ?_
    refine E_getR 3 (j := 1) (ci := 8) (T := TX8) (C0 := RX8) (ref := "SameWrong$Rubbings") dX8_countOf_19 rfl (by decide) rfl inX8 (by decide) kw_184 rfl rfl rfl ?_
    refine E_getR 15 (j := 4) (ci := 10) (T := TX10) (C0 := RX10) (ref := "SameWrong$Tellings") dX8_countOf_22 rfl (by decide) rfl inX10 (by decide) kw_106 rfl rfl rfl ?_
    refine E_iload 0 dX8_countOf_25 rfl ?_
    refine E_iaload dX8_countOf_27 rfl (by decide) ?_
    refine E_ishr dX8_countOf_28 ?_
    refine E_iconst (v := 1) dX8_countOf_29 (by decide) ?_
    refine E_iand dX8_countOf_30 ?_
    refine E_ifeq 56 dX8_countOf_31 (by decide) ?_ ?_
    · refine E_iinc 0 [(4, .int (x2.1 + 1)), (3, .int x2.2), (0, .ref (Γ.2.1 5)), (1, .int a1), (2, .int a2)] dX8_countOf_56 rfl rfl (by decide) rfl ?_
      refine E_goto 5 dX8_countOf_59 (by decide) ?_
      exact hr1 (x2.1 + 1, x2.2)
    · refine E_aload_n 2 dX8_countOf_34 rfl rfl ?_
      refine E_iload 0 dX8_countOf_35 rfl ?_
      refine E_callVZ (T := TX8) (ci := 8) [.int x2.1] [] dX8_countOf_37 rfl kw_654 kw_656 kp_16 kw_7 ko_X8_wasRubbed rfl hy_X8_wasRubbed rfl (by decide) (Nat.le_of_ble_eq_true rfl) rfl (by decide) rfl (c_X8_wasRubbed Γ x2.1 s) (fun v3 => ?_)
      refine E_ifeqb 56 dX8_countOf_40 (by decide) ?_ ?_
      · refine E_iinc 0 [(4, .int (x2.1 + 1)), (3, .int x2.2), (0, .ref (Γ.2.1 5)), (1, .int a1), (2, .int a2)] dX8_countOf_56 rfl rfl (by decide) rfl ?_
        refine E_goto 5 dX8_countOf_59 (by decide) ?_
        exact hr1 (x2.1 + 1, x2.2)
      · refine E_aload_n 2 dX8_countOf_43 rfl rfl ?_
        refine E_iload 0 dX8_countOf_44 rfl ?_
        refine E_iload_n 4 dX8_countOf_46 rfl rfl ?_
        refine E_callVZ (T := TX8) (ci := 8) [.int x2.1, .int a2] [] dX8_countOf_47 rfl kw_658 kw_660 kp_17 kw_7 ko_X8_isKind rfl hy_X8_isKind rfl (by decide) (Nat.le_of_ble_eq_true rfl) rfl (by decide) rfl (c_X8_isKind Γ x2.1 a2 s) (fun v4 => ?_)
        refine E_ifeqb 56 dX8_countOf_50 (by decide) ?_ ?_
        · refine E_iinc 0 [(4, .int (x2.1 + 1)), (3, .int x2.2), (0, .ref (Γ.2.1 5)), (1, .int a1), (2, .int a2)] dX8_countOf_56 rfl rfl (by decide) rfl ?_
          refine E_goto 5 dX8_countOf_59 (by decide) ?_
          exact hr1 (x2.1 + 1, x2.2)
        · refine E_iinc 1 [(3, .int (x2.2 + 1)), (4, .int x2.1), (0, .ref (Γ.2.1 5)), (1, .int a1), (2, .int a2)] dX8_countOf_53 rfl rfl (by decide) rfl ?_
          refine E_iinc 1 [(4, .int (x2.1 + 1)), (3, .int (x2.2 + 1)), (0, .ref (Γ.2.1 5)), (1, .int a1), (2, .int a2)] dX8_countOf_56 rfl rfl (by decide) rfl ?_
          refine E_goto 5 dX8_countOf_59 (by decide) ?_
          exact hr1 (x2.1 + 1, x2.2 + 1)
theorem c_X8_countOf (Γ : GT) (a1 : Int32) (a2 : Int32) (s : St)  (x : Int32) (h : f_X8_countOf a1 a2 s = some x) (l : Launch) : MC l yX8_countOf cX8_countOf 5 (some .int) 2 WC Γ [.ref (Γ.2.1 5), .int a1, .int a2] s ((emI s) x) := MC_of (by decide +kernel) (Nat.le_of_ble_eq_true rfl) (e_X8_countOf Γ a1 a2 s ) h l
set_option maxRecDepth 100000 in
set_option maxHeartbeats 4000000 in
theorem e_X2_weigh (Γ : GT)  (s : St)  : E RX2 cX2_weigh 2 none 4 WC Γ emV 0 [(0, .ref (Γ.2.1 7))] [] s (f_X2_weigh  s) := by
  unfold f_X2_weigh
  refine E_iconst (v := 0) dX2_weigh_0 (by decide) ?_
  refine E_istore_n [(1, .int 0), (0, .ref (Γ.2.1 7))] dX2_weigh_1 rfl (by decide) rfl ?_
  refine E_lp (F := L_X2_weigh_2) (fun (x : Int32 × St) => [(1, .int x.1), (0, .ref (Γ.2.1 7))]) (fun (x : Int32 × St) => x.2) ?_ NN (0, s)
  intro r1 hr1 x2
  show E _ _ _ _ _ _ _ _ _ _ _ _ (L_X2_weigh_2 r1 x2)
  unfold L_X2_weigh_2
  refine E_iload_n 0 dX2_weigh_2 rfl rfl ?_
  refine E_aload_n 1 dX2_weigh_3 rfl rfl ?_
  refine E_getR 2 (j := 0) (ci := 2) (T := TX2) (C0 := RX2) (ref := "SameWrong$Givers") dX2_weigh_4 rfl (by decide) rfl inX2 (by decide) kw_226 rfl rfl rfl ?_
  refine E_getI (j := 0) (ci := 7) (T := TX7) (C0 := RX7) (ref := "SameWrong$Room") dX2_weigh_7 rfl (by decide) rfl inX7 (by decide) kw_73 rfl rfl ?_
  refine E_icmpge 49 dX2_weigh_10 (by decide) ?_ ?_
  · exact E_return dX2_weigh_49 rfl rfl
  · refine E_aload_n 1 dX2_weigh_13 rfl rfl ?_
    refine E_getR 25 (j := 5) (ci := 2) (T := TX2) (C0 := RX2) (ref := "SameWrong$Givers") dX2_weigh_14 rfl (by decide) rfl inX2 (by decide) kw_231 rfl rfl rfl ?_
    refine E_iload_n 0 dX2_weigh_17 rfl rfl ?_
    refine E_aload_n 1 dX2_weigh_18 rfl rfl ?_
    refine E_getR 4 (j := 1) (ci := 2) (T := TX2) (C0 := RX2) (ref := "SameWrong$Givers") dX2_weigh_19 rfl (by decide) rfl inX2 (by decide) kw_227 rfl rfl rfl ?_
    refine E_iload_n 0 dX2_weigh_22 rfl rfl ?_
    refine E_callVI (T := TX5) (ci := 5) [.int x2.1] [.int x2.1, .ref (Γ.2.1 25)] dX2_weigh_23 rfl kw_649 kw_487 kw_488 kw_6 ko_X5_markOf rfl hy_X5_markOf rfl (by decide) (Nat.le_of_ble_eq_true rfl) rfl (by decide) rfl (c_X5_markOf Γ x2.1 x2.2) (fun v3 => ?_)
    refine E_sipush (v := 151) dX2_weigh_26 (by decide) ?_
    refine E_imul dX2_weigh_29 ?_
    refine E_aload_n 1 dX2_weigh_30 rfl rfl ?_
    refine E_getR 5 (j := 2) (ci := 2) (T := TX2) (C0 := RX2) (ref := "SameWrong$Givers") dX2_weigh_31 rfl (by decide) rfl inX2 (by decide) kw_228 rfl rfl rfl ?_
    refine E_iconst (v := 1) dX2_weigh_34 (by decide) ?_
    refine E_iload_n 0 dX2_weigh_35 rfl rfl ?_
    refine E_ishl dX2_weigh_36 ?_
    refine E_iconst (v := 0) dX2_weigh_37 (by decide) ?_
    refine E_callVI (T := TX8) (ci := 8) [.int (1 <<< (x2.1 &&& 31)), .int 0] [.int (v3 * 151), .int x2.1, .ref (Γ.2.1 25)] dX2_weigh_38 rfl kw_650 kw_651 kw_652 kw_7 ko_X8_countOf rfl hy_X8_countOf rfl (by decide) (Nat.le_of_ble_eq_true rfl) rfl (by decide) rfl (c_X8_countOf Γ (1 <<< (x2.1 &&& 31)) 0 x2.2) (fun v4 => ?_)
    refine E_isub dX2_weigh_41 ?_
    refine E_iastore dX2_weigh_42 rfl (by decide) ?_
    refine E_bd (fun s5 => ?_)
    refine E_iinc 0 [(1, .int (x2.1 + 1)), (0, .ref (Γ.2.1 7))] dX2_weigh_43 rfl rfl (by decide) rfl ?_
    refine E_goto 2 dX2_weigh_46 (by decide) ?_
    exact hr1 (x2.1 + 1, s5)
theorem c_X2_weigh (Γ : GT)  (s : St)  (x : St) (h : f_X2_weigh  s = some x) (l : Launch) : MC l yX2_weigh cX2_weigh 2 none 4 WC Γ [.ref (Γ.2.1 7)] s (emV x) := MC_of (by decide +kernel) (Nat.le_of_ble_eq_true rfl) (e_X2_weigh Γ  s ) h l
set_option maxRecDepth 100000 in
set_option maxHeartbeats 4000000 in
theorem e_X2_giver (Γ : GT) (a1 : Int32) (a2 : Int32) (s : St)  : E RX2 cX2_giver 3 (some .int) 1 WC Γ (emI s) 0 [(0, .ref (Γ.2.1 7)), (1, .int a1), (2, .int a2)] [] s (f_X2_giver a1 a2 s) := by
  unfold f_X2_giver
  refine E_aload_n 0 dX2_giver_0 rfl rfl ?_
  refine E_getR 25 (j := 5) (ci := 2) (T := TX2) (C0 := RX2) (ref := "SameWrong$Givers") dX2_giver_1 rfl (by decide) rfl inX2 (by decide) kw_231 rfl rfl rfl ?_
  refine E_iload_n 1 dX2_giver_4 rfl rfl ?_
  refine E_iaload dX2_giver_5 rfl (by decide) ?_
  refine E_aload_n 0 dX2_giver_6 rfl rfl ?_
  refine E_getR 25 (j := 5) (ci := 2) (T := TX2) (C0 := RX2) (ref := "SameWrong$Givers") dX2_giver_7 rfl (by decide) rfl inX2 (by decide) kw_231 rfl rfl rfl ?_
  refine E_iload_n 2 dX2_giver_10 rfl rfl ?_
  refine E_iaload dX2_giver_11 rfl (by decide) ?_
  refine E_icmpne 17 dX2_giver_12 (by decide) ?_ ?_
  · refine E_aload_n 0 dX2_giver_17 rfl rfl ?_
    refine E_getR 25 (j := 5) (ci := 2) (T := TX2) (C0 := RX2) (ref := "SameWrong$Givers") dX2_giver_18 rfl (by decide) rfl inX2 (by decide) kw_231 rfl rfl rfl ?_
    refine E_iload_n 1 dX2_giver_21 rfl rfl ?_
    refine E_iaload dX2_giver_22 rfl (by decide) ?_
    refine E_aload_n 0 dX2_giver_23 rfl rfl ?_
    refine E_getR 25 (j := 5) (ci := 2) (T := TX2) (C0 := RX2) (ref := "SameWrong$Givers") dX2_giver_24 rfl (by decide) rfl inX2 (by decide) kw_231 rfl rfl rfl ?_
    refine E_iload_n 2 dX2_giver_27 rfl rfl ?_
    refine E_iaload dX2_giver_28 rfl (by decide) ?_
    refine E_icmple 36 dX2_giver_29 (by decide) ?_ ?_
    · refine E_iload_n 2 dX2_giver_36 rfl rfl ?_
      exact E_ireturn dX2_giver_37 rfl rfl
    · refine E_iload_n 1 dX2_giver_32 rfl rfl ?_
      refine E_goto 37 dX2_giver_33 (by decide) ?_
      exact E_ireturn dX2_giver_37 rfl rfl
  · refine E_iconst (v := (-1)) dX2_giver_15 (by decide) ?_
    exact E_ireturn dX2_giver_16 rfl rfl
theorem c_X2_giver (Γ : GT) (a1 : Int32) (a2 : Int32) (s : St)  (x : Int32) (h : f_X2_giver a1 a2 s = some x) (l : Launch) : MC l yX2_giver cX2_giver 3 (some .int) 1 WC Γ [.ref (Γ.2.1 7), .int a1, .int a2] s ((emI s) x) := MC_of (by decide +kernel) (Nat.le_of_ble_eq_true rfl) (e_X2_giver Γ a1 a2 s ) h l
set_option maxRecDepth 100000 in
set_option maxHeartbeats 4000000 in
theorem e_J9_max_7cf53 (Γ : GT) (a0 : Int32) (a1 : Int32) (s : St)  : E RJ9 cJ9_max_7cf53 2 (some .int) 1 WC Γ (emI s) 0 [(0, .int a0), (1, .int a1)] [] s (f_J9_max_7cf53 a0 a1 s) := by
  unfold f_J9_max_7cf53
  refine E_iload_n 0 dJ9_max_7cf53_0 rfl rfl ?_
  refine E_iload_n 1 dJ9_max_7cf53_1 rfl rfl ?_
  refine E_icmplt 9 dJ9_max_7cf53_2 (by decide) ?_ ?_
  · refine E_iload_n 1 dJ9_max_7cf53_9 rfl rfl ?_
    exact E_ireturn dJ9_max_7cf53_10 rfl rfl
  · refine E_iload_n 0 dJ9_max_7cf53_5 rfl rfl ?_
    refine E_goto 10 dJ9_max_7cf53_6 (by decide) ?_
    exact E_ireturn dJ9_max_7cf53_10 rfl rfl
theorem c_J9_max_7cf53 (Γ : GT) (a0 : Int32) (a1 : Int32) (s : St)  (x : Int32) (h : f_J9_max_7cf53 a0 a1 s = some x) (l : Launch) : MC l yJ9_max_7cf53 cJ9_max_7cf53 2 (some .int) 1 WC Γ [.int a0, .int a1] s ((emI s) x) := MC_of (by decide +kernel) (Nat.le_of_ble_eq_true rfl) (e_J9_max_7cf53 Γ a0 a1 s ) h l
set_option maxRecDepth 100000 in
set_option maxHeartbeats 4000000 in
theorem e_X2_lengthen (Γ : GT) (a1 : Int32) (s : St)  : E RX2 cX2_lengthen 4 (some .int) 2 WC Γ emIS 0 [(0, .ref (Γ.2.1 7)), (1, .int a1)] [] s (f_X2_lengthen a1 s) := by
  unfold f_X2_lengthen
  refine E_aload_n 0 dX2_lengthen_0 rfl rfl ?_
  refine E_getR 26 (j := 6) (ci := 2) (T := TX2) (C0 := RX2) (ref := "SameWrong$Givers") dX2_lengthen_1 rfl (by decide) rfl inX2 (by decide) kw_232 rfl rfl rfl ?_
  refine E_iload_n 1 dX2_lengthen_4 rfl rfl ?_
  refine E_iaload dX2_lengthen_5 rfl (by decide) ?_
  refine E_istore_n [(2, .int (s.1 26 a1.toNatClampNeg)), (0, .ref (Γ.2.1 7)), (1, .int a1)] dX2_lengthen_6 rfl (by decide) rfl ?_
  refine E_bv (fun v1 => [(2, .int v1), (0, .ref (Γ.2.1 7)), (1, .int a1)]) (fun v1 => ?_) (s.1 26 a1.toNatClampNeg)
  refine E_iconst (v := 0) dX2_lengthen_7 (by decide) ?_
  refine E_istore_n [(3, .int 0), (2, .int v1), (0, .ref (Γ.2.1 7)), (1, .int a1)] dX2_lengthen_8 rfl (by decide) rfl ?_
  refine E_lp (F := L_X2_lengthen_9 a1) (fun (x : Int32 × Int32 × St) => [(3, .int x.1), (2, .int x.2.1), (0, .ref (Γ.2.1 7)), (1, .int a1)]) (fun (x : Int32 × Int32 × St) => x.2.2) ?_ NN (0, v1, s)
  intro r2 hr2 x3
  show E _ _ _ _ _ _ _ _ _ _ _ _ (L_X2_lengthen_9 a1 r2 x3)
  unfold L_X2_lengthen_9
  refine E_iload_n 0 dX2_lengthen_9 rfl rfl ?_
  refine E_aload_n 2 dX2_lengthen_10 rfl rfl ?_
  refine E_getR 2 (j := 0) (ci := 2) (T := TX2) (C0 := RX2) (ref := "SameWrong$Givers") dX2_lengthen_11 rfl (by decide) rfl inX2 (by decide) kw_226 rfl rfl rfl ?_
  refine E_getI (j := 0) (ci := 7) (T := TX7) (C0 := RX7) (ref := "SameWrong$Room") dX2_lengthen_14 rfl (by decide) rfl inX7 (by decide) kw_73 rfl rfl ?_
  refine E_icmpge 83 dX2_lengthen_17 (by decide) ?_ ?_
  · refine E_iload_n 1 dX2_lengthen_83 rfl rfl ?_
    exact E_ireturn dX2_lengthen_84 rfl rfl
  · refine E_aload_n 2 dX2_lengthen_20 rfl rfl ?_
    refine E_getR 24 (j := 4) (ci := 2) (T := TX2) (C0 := RX2) (ref := "SameWrong$Givers") dX2_lengthen_21 rfl (by decide) rfl inX2 (by decide) kw_230 rfl rfl rfl ?_
    refine E_iload_n 3 dX2_lengthen_24 rfl rfl ?_
    refine E_iaload dX2_lengthen_25 rfl (by decide) ?_
    refine E_iload_n 0 dX2_lengthen_26 rfl rfl ?_
    refine E_ishr dX2_lengthen_27 ?_
    refine E_iconst (v := 1) dX2_lengthen_28 (by decide) ?_
    refine E_iand dX2_lengthen_29 ?_
    refine E_ifeq 77 dX2_lengthen_30 (by decide) ?_ ?_
    · refine E_iinc 0 [(3, .int (x3.1 + 1)), (2, .int x3.2.1), (0, .ref (Γ.2.1 7)), (1, .int a1)] dX2_lengthen_77 rfl rfl (by decide) rfl ?_
      refine E_goto 9 dX2_lengthen_80 (by decide) ?_
      exact hr2 (x3.1 + 1, x3.2.1, x3.2.2)
    · refine E_aload_n 2 dX2_lengthen_33 rfl rfl ?_
      refine E_iload_n 3 dX2_lengthen_34 rfl rfl ?_
      refine E_iload_n 0 dX2_lengthen_35 rfl rfl ?_
      refine E_callVI (T := TX2) (ci := 2) [.int a1, .int x3.1] [] dX2_lengthen_36 rfl kw_679 kw_663 kw_664 kw_9 ko_X2_giver rfl hy_X2_giver rfl (by decide) (Nat.le_of_ble_eq_true rfl) rfl (by decide) rfl (c_X2_giver Γ a1 x3.1 x3.2.2) (fun v4 => ?_)
      refine E_iload_n 3 dX2_lengthen_39 rfl rfl ?_
      refine E_icmpne 77 dX2_lengthen_40 (by decide) ?_ ?_
      · refine E_iinc 0 [(3, .int (x3.1 + 1)), (2, .int x3.2.1), (0, .ref (Γ.2.1 7)), (1, .int a1)] dX2_lengthen_77 rfl rfl (by decide) rfl ?_
        refine E_goto 9 dX2_lengthen_80 (by decide) ?_
        exact hr2 (x3.1 + 1, x3.2.1, x3.2.2)
      · refine E_aload_n 2 dX2_lengthen_43 rfl rfl ?_
        refine E_getR 26 (j := 6) (ci := 2) (T := TX2) (C0 := RX2) (ref := "SameWrong$Givers") dX2_lengthen_44 rfl (by decide) rfl inX2 (by decide) kw_232 rfl rfl rfl ?_
        refine E_iload_n 0 dX2_lengthen_47 rfl rfl ?_
        refine E_aload_n 2 dX2_lengthen_48 rfl rfl ?_
        refine E_getR 26 (j := 6) (ci := 2) (T := TX2) (C0 := RX2) (ref := "SameWrong$Givers") dX2_lengthen_49 rfl (by decide) rfl inX2 (by decide) kw_232 rfl rfl rfl ?_
        refine E_iload_n 0 dX2_lengthen_52 rfl rfl ?_
        refine E_iaload dX2_lengthen_53 rfl (by decide) ?_
        refine E_aload_n 2 dX2_lengthen_54 rfl rfl ?_
        refine E_getR 26 (j := 6) (ci := 2) (T := TX2) (C0 := RX2) (ref := "SameWrong$Givers") dX2_lengthen_55 rfl (by decide) rfl inX2 (by decide) kw_232 rfl rfl rfl ?_
        refine E_iload_n 3 dX2_lengthen_58 rfl rfl ?_
        refine E_iaload dX2_lengthen_59 rfl (by decide) ?_
        refine E_iconst (v := 1) dX2_lengthen_60 (by decide) ?_
        refine E_iadd dX2_lengthen_61 ?_
        refine E_callSI [.int (x3.2.2.1 26 x3.1.toNatClampNeg), .int ((x3.2.2.1 26 a1.toNatClampNeg) + 1)] [.int x3.1, .ref (Γ.2.1 26)] dX2_lengthen_62 rfl kw_680 kw_681 kw_14 ko_J9_max_7cf53 hy_J9_max_7cf53 rfl (by decide) (Nat.le_of_ble_eq_true rfl) (c_J9_max_7cf53 Γ (x3.2.2.1 26 x3.1.toNatClampNeg) ((x3.2.2.1 26 a1.toNatClampNeg) + 1) x3.2.2) (fun v5 => ?_)
        refine E_iastore dX2_lengthen_65 rfl (by decide) ?_
        refine E_bd (fun s6 => ?_)
        refine E_iload_n 1 dX2_lengthen_66 rfl rfl ?_
        refine E_aload_n 2 dX2_lengthen_67 rfl rfl ?_
        refine E_getR 26 (j := 6) (ci := 2) (T := TX2) (C0 := RX2) (ref := "SameWrong$Givers") dX2_lengthen_68 rfl (by decide) rfl inX2 (by decide) kw_232 rfl rfl rfl ?_
        refine E_iload_n 0 dX2_lengthen_71 rfl rfl ?_
        refine E_iaload dX2_lengthen_72 rfl (by decide) ?_
        refine E_callSI [.int x3.2.1, .int (s6.1 26 x3.1.toNatClampNeg)] [] dX2_lengthen_73 rfl kw_680 kw_681 kw_14 ko_J9_max_7cf53 hy_J9_max_7cf53 rfl (by decide) (Nat.le_of_ble_eq_true rfl) (c_J9_max_7cf53 Γ x3.2.1 (s6.1 26 x3.1.toNatClampNeg) s6) (fun v7 => ?_)
        refine E_istore_n [(2, .int v7), (3, .int x3.1), (0, .ref (Γ.2.1 7)), (1, .int a1)] dX2_lengthen_76 rfl (by decide) rfl ?_
        refine E_iinc 1 [(3, .int (x3.1 + 1)), (2, .int v7), (0, .ref (Γ.2.1 7)), (1, .int a1)] dX2_lengthen_77 rfl rfl (by decide) rfl ?_
        refine E_goto 9 dX2_lengthen_80 (by decide) ?_
        exact hr2 (x3.1 + 1, v7, s6)
theorem c_X2_lengthen (Γ : GT) (a1 : Int32) (s : St)  (x : (Int32 × St)) (h : f_X2_lengthen a1 s = some x) (l : Launch) : MC l yX2_lengthen cX2_lengthen 4 (some .int) 2 WC Γ [.ref (Γ.2.1 7), .int a1] s (emIS x) := MC_of (by decide +kernel) (Nat.le_of_ble_eq_true rfl) (e_X2_lengthen Γ a1 s ) h l
