set_option maxRecDepth 100000 in
set_option maxHeartbeats 4000000 in
theorem e_X12_beside (Γ : GT) (a1 : Int32) (a2 : Int32) (s : St)  : E RX12 cX12_beside 3 (some .int) 4 WM Γ (emI s) 0 [(0, .ref (Γ.2.1 0)), (1, .int a1), (2, .int a2)] [] s (f_X12_beside a1 a2 s) := by
  unfold f_X12_beside
  refine E_aload_n 0 dX12_beside_0 rfl rfl ?_
  refine E_iload_n 1 dX12_beside_1 rfl rfl ?_
  refine E_iload_n 2 dX12_beside_2 rfl rfl ?_
  refine E_callVZ (T := TX12) (ci := 12) [.int a1, .int a2] [] dX12_beside_3 rfl kw_1052 kw_1054 kp_32 kw_13 ko_X12_areTwo rfl hy_X12_areTwo rfl (by decide) (Nat.le_of_ble_eq_true rfl) rfl (by decide) rfl (c_X12_areTwo Γ a1 a2 s) (fun v1 => ?_)
  refine E_ifeqb 26 dX12_beside_6 (by decide) ?_ ?_
  · refine E_bipush (v := (-2)) dX12_beside_26 (by decide) ?_
    exact E_ireturn dX12_beside_28 rfl rfl
  · refine E_aload_n 0 dX12_beside_9 rfl rfl ?_
    refine E_iload_n 1 dX12_beside_10 rfl rfl ?_
    refine E_iload_n 2 dX12_beside_11 rfl rfl ?_
    refine E_callVZ (T := TX12) (ci := 12) [.int a1, .int a2] [] dX12_beside_12 rfl kw_1056 kw_1058 kp_33 kw_13 ko_X12_areBeside rfl hy_X12_areBeside rfl (by decide) (Nat.le_of_ble_eq_true rfl) rfl (by decide) rfl (c_X12_areBeside Γ a1 a2 s) (fun v2 => ?_)
    refine E_ifeqb 22 dX12_beside_15 (by decide) ?_ ?_
    · refine E_iconst (v := 0) dX12_beside_22 (by decide) ?_
      refine E_goto 28 dX12_beside_23 (by decide) ?_
      exact E_ireturn dX12_beside_28 rfl rfl
    · refine E_iconst (v := 1) dX12_beside_18 (by decide) ?_
      refine E_goto 28 dX12_beside_19 (by decide) ?_
      exact E_ireturn dX12_beside_28 rfl rfl
theorem c_X12_beside (Γ : GT) (a1 : Int32) (a2 : Int32) (s : St)  (x : Int32) (h : f_X12_beside a1 a2 s = some x) (l : Launch) : MC l yX12_beside cX12_beside 3 (some .int) 4 WM Γ [.ref (Γ.2.1 0), .int a1, .int a2] s ((emI s) x) := MC_of (by decide +kernel) (Nat.le_of_ble_eq_true rfl) (e_X12_beside Γ a1 a2 s ) h l
set_option maxRecDepth 100000 in
set_option maxHeartbeats 4000000 in
theorem e_X12_markBut (Γ : GT) (a1 : Int32) (a2 : Int32) (s : St)  : E RX12 cX12_markBut 5 (some .int) 2 WM Γ (emI s) 0 [(0, .ref (Γ.2.1 0)), (1, .int a1), (2, .int a2)] [] s (f_X12_markBut a1 a2 s) := by
  unfold f_X12_markBut
  refine E_iconst (v := 0) dX12_markBut_0 (by decide) ?_
  refine E_istore_n [(3, .int 0), (0, .ref (Γ.2.1 0)), (1, .int a1), (2, .int a2)] dX12_markBut_1 rfl (by decide) rfl ?_
  refine E_iconst (v := 0) dX12_markBut_2 (by decide) ?_
  refine E_istore [(4, .int 0), (3, .int 0), (0, .ref (Γ.2.1 0)), (1, .int a1), (2, .int a2)] dX12_markBut_3 (by decide) rfl ?_
  refine E_lp (F := L_X12_markBut_5 a1 a2 s) (fun (x : Int32 × Int32) => [(4, .int x.1), (3, .int x.2), (0, .ref (Γ.2.1 0)), (1, .int a1), (2, .int a2)]) (fun (x : Int32 × Int32) => s) ?_ NN (0, 0)
  intro r1 hr1 x2
  show E _ _ _ _ _ _ _ _ _ _ _ _ (L_X12_markBut_5 a1 a2 s r1 x2)
  unfold L_X12_markBut_5
  refine E_iload 0 dX12_markBut_5 rfl ?_
  refine E_aload_n 2 dX12_markBut_7 rfl rfl ?_
  refine E_getI (j := 0) (ci := 12) (T := TX12) (C0 := RX12) (ref := "SameWrongModel") dX12_markBut_8 rfl (by decide) rfl inX12 (by decide) kw_874 rfl rfl ?_
  refine E_icmpge 44 dX12_markBut_11 (by decide) ?_ ?_
  · refine E_iload_n 1 dX12_markBut_44 rfl rfl ?_
    exact E_ireturn dX12_markBut_45 rfl rfl
  · refine E_iload_n 1 dX12_markBut_14 rfl rfl ?_
    refine E_iload 0 dX12_markBut_15 rfl ?_
    refine E_iload_n 4 dX12_markBut_17 rfl rfl ?_
    refine E_icmpeq 35 dX12_markBut_18 (by decide) ?_ ?_
    · refine E_iconst (v := 0) dX12_markBut_35 (by decide) ?_
      refine E_iadd dX12_markBut_36 ?_
      refine E_istore_n [(3, .int (x2.2 + 0)), (4, .int x2.1), (0, .ref (Γ.2.1 0)), (1, .int a1), (2, .int a2)] dX12_markBut_37 rfl (by decide) rfl ?_
      refine E_bv (fun v3 => [(3, .int v3), (4, .int x2.1), (0, .ref (Γ.2.1 0)), (1, .int a1), (2, .int a2)]) (fun v3 => ?_) (x2.2 + 0)
      refine E_iinc 1 [(4, .int (x2.1 + 1)), (3, .int v3), (0, .ref (Γ.2.1 0)), (1, .int a1), (2, .int a2)] dX12_markBut_38 rfl rfl (by decide) rfl ?_
      refine E_goto 5 dX12_markBut_41 (by decide) ?_
      exact hr1 (x2.1 + 1, v3)
    · refine E_aload_n 2 dX12_markBut_21 rfl rfl ?_
      refine E_iload_n 3 dX12_markBut_22 rfl rfl ?_
      refine E_iload 0 dX12_markBut_23 rfl ?_
      refine E_callVZ (T := TX12) (ci := 12) [.int a1, .int x2.1] [.int x2.2] dX12_markBut_25 rfl kw_1075 kw_1077 kp_36 kw_13 ko_X12_isRight rfl hy_X12_isRight rfl (by decide) (Nat.le_of_ble_eq_true rfl) rfl (by decide) rfl (c_X12_isRight Γ a1 x2.1 s) (fun v4 => ?_)
      refine E_ifeqb 35 dX12_markBut_28 (by decide) ?_ ?_
      · refine E_iconst (v := 0) dX12_markBut_35 (by decide) ?_
        refine E_iadd dX12_markBut_36 ?_
        refine E_istore_n [(3, .int (x2.2 + 0)), (4, .int x2.1), (0, .ref (Γ.2.1 0)), (1, .int a1), (2, .int a2)] dX12_markBut_37 rfl (by decide) rfl ?_
        refine E_bv (fun v5 => [(3, .int v5), (4, .int x2.1), (0, .ref (Γ.2.1 0)), (1, .int a1), (2, .int a2)]) (fun v5 => ?_) (x2.2 + 0)
        refine E_iinc 1 [(4, .int (x2.1 + 1)), (3, .int v5), (0, .ref (Γ.2.1 0)), (1, .int a1), (2, .int a2)] dX12_markBut_38 rfl rfl (by decide) rfl ?_
        refine E_goto 5 dX12_markBut_41 (by decide) ?_
        exact hr1 (x2.1 + 1, v5)
      · refine E_iconst (v := 1) dX12_markBut_31 (by decide) ?_
        refine E_goto 36 dX12_markBut_32 (by decide) ?_
        refine E_iadd dX12_markBut_36 ?_
        refine E_istore_n [(3, .int (x2.2 + 1)), (4, .int x2.1), (0, .ref (Γ.2.1 0)), (1, .int a1), (2, .int a2)] dX12_markBut_37 rfl (by decide) rfl ?_
        refine E_bv (fun v6 => [(3, .int v6), (4, .int x2.1), (0, .ref (Γ.2.1 0)), (1, .int a1), (2, .int a2)]) (fun v6 => ?_) (x2.2 + 1)
        refine E_iinc 1 [(4, .int (x2.1 + 1)), (3, .int v6), (0, .ref (Γ.2.1 0)), (1, .int a1), (2, .int a2)] dX12_markBut_38 rfl rfl (by decide) rfl ?_
        refine E_goto 5 dX12_markBut_41 (by decide) ?_
        exact hr1 (x2.1 + 1, v6)
theorem c_X12_markBut (Γ : GT) (a1 : Int32) (a2 : Int32) (s : St)  (x : Int32) (h : f_X12_markBut a1 a2 s = some x) (l : Launch) : MC l yX12_markBut cX12_markBut 5 (some .int) 2 WM Γ [.ref (Γ.2.1 0), .int a1, .int a2] s ((emI s) x) := MC_of (by decide +kernel) (Nat.le_of_ble_eq_true rfl) (e_X12_markBut Γ a1 a2 s ) h l
set_option maxRecDepth 100000 in
set_option maxHeartbeats 4000000 in
theorem e_X12_rankBut (Γ : GT) (a1 : Int32) (a2 : Int32) (s : St)  : E RX12 cX12_rankBut 5 (some .int) 3 WM Γ (emI s) 0 [(0, .ref (Γ.2.1 0)), (1, .int a1), (2, .int a2)] [] s (f_X12_rankBut a1 a2 s) := by
  unfold f_X12_rankBut
  refine E_iconst (v := 1) dX12_rankBut_0 (by decide) ?_
  refine E_istore_n [(3, .int 1), (0, .ref (Γ.2.1 0)), (1, .int a1), (2, .int a2)] dX12_rankBut_1 rfl (by decide) rfl ?_
  refine E_iconst (v := 0) dX12_rankBut_2 (by decide) ?_
  refine E_istore [(4, .int 0), (3, .int 1), (0, .ref (Γ.2.1 0)), (1, .int a1), (2, .int a2)] dX12_rankBut_3 (by decide) rfl ?_
  refine E_lp (F := L_X12_rankBut_5 a1 a2 s) (fun (x : Int32 × Int32) => [(4, .int x.1), (3, .int x.2), (0, .ref (Γ.2.1 0)), (1, .int a1), (2, .int a2)]) (fun (x : Int32 × Int32) => s) ?_ NN (0, 1)
  intro r1 hr1 x2
  show E _ _ _ _ _ _ _ _ _ _ _ _ (L_X12_rankBut_5 a1 a2 s r1 x2)
  unfold L_X12_rankBut_5
  refine E_iload 0 dX12_rankBut_5 rfl ?_
  refine E_aload_n 2 dX12_rankBut_7 rfl rfl ?_
  refine E_getI (j := 5) (ci := 12) (T := TX12) (C0 := RX12) (ref := "SameWrongModel") dX12_rankBut_8 rfl (by decide) rfl inX12 (by decide) kw_879 rfl rfl ?_
  refine E_icmpge 44 dX12_rankBut_11 (by decide) ?_ ?_
  · refine E_iload_n 1 dX12_rankBut_44 rfl rfl ?_
    exact E_ireturn dX12_rankBut_45 rfl rfl
  · refine E_iload_n 1 dX12_rankBut_14 rfl rfl ?_
    refine E_aload_n 2 dX12_rankBut_15 rfl rfl ?_
    refine E_iload 0 dX12_rankBut_16 rfl ?_
    refine E_iload_n 4 dX12_rankBut_18 rfl rfl ?_
    refine E_callVI (T := TX12) (ci := 12) [.int x2.1, .int a2] [.int x2.2] dX12_rankBut_19 rfl kw_1071 kw_1073 kp_35 kw_13 ko_X12_markBut rfl hy_X12_markBut rfl (by decide) (Nat.le_of_ble_eq_true rfl) rfl (by decide) rfl (c_X12_markBut Γ x2.1 a2 s) (fun v3 => ?_)
    refine E_aload_n 2 dX12_rankBut_22 rfl rfl ?_
    refine E_iload_n 3 dX12_rankBut_23 rfl rfl ?_
    refine E_iload_n 4 dX12_rankBut_24 rfl rfl ?_
    refine E_callVI (T := TX12) (ci := 12) [.int a1, .int a2] [.int v3, .int x2.2] dX12_rankBut_25 rfl kw_1071 kw_1073 kp_35 kw_13 ko_X12_markBut rfl hy_X12_markBut rfl (by decide) (Nat.le_of_ble_eq_true rfl) rfl (by decide) rfl (c_X12_markBut Γ a1 a2 s) (fun v4 => ?_)
    refine E_icmple 35 dX12_rankBut_28 (by decide) ?_ ?_
    · refine E_iconst (v := 0) dX12_rankBut_35 (by decide) ?_
      refine E_iadd dX12_rankBut_36 ?_
      refine E_istore_n [(3, .int (x2.2 + 0)), (4, .int x2.1), (0, .ref (Γ.2.1 0)), (1, .int a1), (2, .int a2)] dX12_rankBut_37 rfl (by decide) rfl ?_
      refine E_bv (fun v5 => [(3, .int v5), (4, .int x2.1), (0, .ref (Γ.2.1 0)), (1, .int a1), (2, .int a2)]) (fun v5 => ?_) (x2.2 + 0)
      refine E_iinc 1 [(4, .int (x2.1 + 1)), (3, .int v5), (0, .ref (Γ.2.1 0)), (1, .int a1), (2, .int a2)] dX12_rankBut_38 rfl rfl (by decide) rfl ?_
      refine E_goto 5 dX12_rankBut_41 (by decide) ?_
      exact hr1 (x2.1 + 1, v5)
    · refine E_iconst (v := 1) dX12_rankBut_31 (by decide) ?_
      refine E_goto 36 dX12_rankBut_32 (by decide) ?_
      refine E_iadd dX12_rankBut_36 ?_
      refine E_istore_n [(3, .int (x2.2 + 1)), (4, .int x2.1), (0, .ref (Γ.2.1 0)), (1, .int a1), (2, .int a2)] dX12_rankBut_37 rfl (by decide) rfl ?_
      refine E_bv (fun v6 => [(3, .int v6), (4, .int x2.1), (0, .ref (Γ.2.1 0)), (1, .int a1), (2, .int a2)]) (fun v6 => ?_) (x2.2 + 1)
      refine E_iinc 1 [(4, .int (x2.1 + 1)), (3, .int v6), (0, .ref (Γ.2.1 0)), (1, .int a1), (2, .int a2)] dX12_rankBut_38 rfl rfl (by decide) rfl ?_
      refine E_goto 5 dX12_rankBut_41 (by decide) ?_
      exact hr1 (x2.1 + 1, v6)
theorem c_X12_rankBut (Γ : GT) (a1 : Int32) (a2 : Int32) (s : St)  (x : Int32) (h : f_X12_rankBut a1 a2 s = some x) (l : Launch) : MC l yX12_rankBut cX12_rankBut 5 (some .int) 3 WM Γ [.ref (Γ.2.1 0), .int a1, .int a2] s ((emI s) x) := MC_of (by decide +kernel) (Nat.le_of_ble_eq_true rfl) (e_X12_rankBut Γ a1 a2 s ) h l
set_option maxRecDepth 100000 in
set_option maxHeartbeats 4000000 in
theorem e_X12_openBut (Γ : GT) (a1 : Int32) (s : St)  : E RX12 cX12_openBut 4 (some .int) 1 WM Γ (emI s) 0 [(0, .ref (Γ.2.1 0)), (1, .int a1)] [] s (f_X12_openBut a1 s) := by
  unfold f_X12_openBut
  refine E_iconst (v := 0) dX12_openBut_0 (by decide) ?_
  refine E_istore_n [(2, .int 0), (0, .ref (Γ.2.1 0)), (1, .int a1)] dX12_openBut_1 rfl (by decide) rfl ?_
  refine E_iconst (v := 0) dX12_openBut_2 (by decide) ?_
  refine E_istore_n [(3, .int 0), (2, .int 0), (0, .ref (Γ.2.1 0)), (1, .int a1)] dX12_openBut_3 rfl (by decide) rfl ?_
  refine E_lp (F := L_X12_openBut_4 a1 s) (fun (x : Int32 × Int32) => [(3, .int x.1), (2, .int x.2), (0, .ref (Γ.2.1 0)), (1, .int a1)]) (fun (x : Int32 × Int32) => s) ?_ NN (0, 0)
  intro r1 hr1 x2
  show E _ _ _ _ _ _ _ _ _ _ _ _ (L_X12_openBut_4 a1 s r1 x2)
  unfold L_X12_openBut_4
  refine E_iload_n 0 dX12_openBut_4 rfl rfl ?_
  refine E_aload_n 2 dX12_openBut_5 rfl rfl ?_
  refine E_getI (j := 0) (ci := 12) (T := TX12) (C0 := RX12) (ref := "SameWrongModel") dX12_openBut_6 rfl (by decide) rfl inX12 (by decide) kw_874 rfl rfl ?_
  refine E_icmpge 40 dX12_openBut_9 (by decide) ?_ ?_
  · refine E_iload_n 1 dX12_openBut_40 rfl rfl ?_
    exact E_ireturn dX12_openBut_41 rfl rfl
  · refine E_iload_n 1 dX12_openBut_12 rfl rfl ?_
    refine E_iload_n 0 dX12_openBut_13 rfl rfl ?_
    refine E_iload_n 3 dX12_openBut_14 rfl rfl ?_
    refine E_icmpeq 31 dX12_openBut_15 (by decide) ?_ ?_
    · refine E_iconst (v := 0) dX12_openBut_31 (by decide) ?_
      refine E_iadd dX12_openBut_32 ?_
      refine E_istore_n [(2, .int (x2.2 + 0)), (3, .int x2.1), (0, .ref (Γ.2.1 0)), (1, .int a1)] dX12_openBut_33 rfl (by decide) rfl ?_
      refine E_bv (fun v3 => [(2, .int v3), (3, .int x2.1), (0, .ref (Γ.2.1 0)), (1, .int a1)]) (fun v3 => ?_) (x2.2 + 0)
      refine E_iinc 1 [(3, .int (x2.1 + 1)), (2, .int v3), (0, .ref (Γ.2.1 0)), (1, .int a1)] dX12_openBut_34 rfl rfl (by decide) rfl ?_
      refine E_goto 4 dX12_openBut_37 (by decide) ?_
      exact hr1 (x2.1 + 1, v3)
    · refine E_aload_n 2 dX12_openBut_18 rfl rfl ?_
      refine E_getR 2 (j := 3) (ci := 12) (T := TX12) (C0 := RX12) (ref := "SameWrongModel") dX12_openBut_19 rfl (by decide) rfl inX12 (by decide) kw_877 rfl rfl rfl ?_
      refine E_iload_n 0 dX12_openBut_22 rfl rfl ?_
      refine E_iaload dX12_openBut_23 rfl (by decide) ?_
      refine E_ifeq 31 dX12_openBut_24 (by decide) ?_ ?_
      · refine E_iconst (v := 0) dX12_openBut_31 (by decide) ?_
        refine E_iadd dX12_openBut_32 ?_
        refine E_istore_n [(2, .int (x2.2 + 0)), (3, .int x2.1), (0, .ref (Γ.2.1 0)), (1, .int a1)] dX12_openBut_33 rfl (by decide) rfl ?_
        refine E_bv (fun v4 => [(2, .int v4), (3, .int x2.1), (0, .ref (Γ.2.1 0)), (1, .int a1)]) (fun v4 => ?_) (x2.2 + 0)
        refine E_iinc 1 [(3, .int (x2.1 + 1)), (2, .int v4), (0, .ref (Γ.2.1 0)), (1, .int a1)] dX12_openBut_34 rfl rfl (by decide) rfl ?_
        refine E_goto 4 dX12_openBut_37 (by decide) ?_
        exact hr1 (x2.1 + 1, v4)
      · refine E_iconst (v := 1) dX12_openBut_27 (by decide) ?_
        refine E_goto 32 dX12_openBut_28 (by decide) ?_
        refine E_iadd dX12_openBut_32 ?_
        refine E_istore_n [(2, .int (x2.2 + 1)), (3, .int x2.1), (0, .ref (Γ.2.1 0)), (1, .int a1)] dX12_openBut_33 rfl (by decide) rfl ?_
        refine E_bv (fun v5 => [(2, .int v5), (3, .int x2.1), (0, .ref (Γ.2.1 0)), (1, .int a1)]) (fun v5 => ?_) (x2.2 + 1)
        refine E_iinc 1 [(3, .int (x2.1 + 1)), (2, .int v5), (0, .ref (Γ.2.1 0)), (1, .int a1)] dX12_openBut_34 rfl rfl (by decide) rfl ?_
        refine E_goto 4 dX12_openBut_37 (by decide) ?_
        exact hr1 (x2.1 + 1, v5)
theorem c_X12_openBut (Γ : GT) (a1 : Int32) (s : St)  (x : Int32) (h : f_X12_openBut a1 s = some x) (l : Launch) : MC l yX12_openBut cX12_openBut 4 (some .int) 1 WM Γ [.ref (Γ.2.1 0), .int a1] s ((emI s) x) := MC_of (by decide +kernel) (Nat.le_of_ble_eq_true rfl) (e_X12_openBut Γ a1 s ) h l
set_option maxRecDepth 100000 in
set_option maxHeartbeats 4000000 in
theorem e_X12_passesBut (Γ : GT) (a1 : Int32) (a2 : Int32) (s : St)  : E RX12 cX12_passesBut 3 (some .boolean) 3 WM Γ (emZ s) 0 [(0, .ref (Γ.2.1 0)), (1, .int a1), (2, .int a2)] [] s (f_X12_passesBut a1 a2 s) := by
  unfold f_X12_passesBut
  refine E_aload_n 0 dX12_passesBut_0 rfl rfl ?_
  refine E_iload_n 1 dX12_passesBut_1 rfl rfl ?_
  refine E_iload_n 2 dX12_passesBut_2 rfl rfl ?_
  refine E_callVI (T := TX12) (ci := 12) [.int a1, .int a2] [] dX12_passesBut_3 rfl kw_1071 kw_1073 kp_35 kw_13 ko_X12_markBut rfl hy_X12_markBut rfl (by decide) (Nat.le_of_ble_eq_true rfl) rfl (by decide) rfl (c_X12_markBut Γ a1 a2 s) (fun v1 => ?_)
  refine E_bipush (v := 100) dX12_passesBut_6 (by decide) ?_
  refine E_imul dX12_passesBut_8 ?_
  refine E_aload_n 0 dX12_passesBut_9 rfl rfl ?_
  refine E_getR 3 (j := 4) (ci := 12) (T := TX12) (C0 := RX12) (ref := "SameWrongModel") dX12_passesBut_10 rfl (by decide) rfl inX12 (by decide) kw_878 rfl rfl rfl ?_
  refine E_iconst (v := 1) dX12_passesBut_13 (by decide) ?_
  refine E_iaload dX12_passesBut_14 rfl (by decide) ?_
  refine E_aload_n 0 dX12_passesBut_15 rfl rfl ?_
  refine E_iload_n 2 dX12_passesBut_16 rfl rfl ?_
  refine E_callVI (T := TX12) (ci := 12) [.int a2] [.int (s.1 3 (1 : Int32).toNatClampNeg), .int (v1 * 100)] dX12_passesBut_17 rfl kw_1087 kw_1089 kp_39 kw_13 ko_X12_openBut rfl hy_X12_openBut rfl (by decide) (Nat.le_of_ble_eq_true rfl) rfl (by decide) rfl (c_X12_openBut Γ a2 s) (fun v2 => ?_)
  refine E_imul dX12_passesBut_20 ?_
  refine E_icmplt 28 dX12_passesBut_21 (by decide) ?_ ?_
  · refine E_iconst (v := 0) dX12_passesBut_28 (by decide) ?_
    exact E_zreturn (b := false) dX12_passesBut_29 rfl rfl
  · refine E_iconst (v := 1) dX12_passesBut_24 (by decide) ?_
    refine E_goto 29 dX12_passesBut_25 (by decide) ?_
    exact E_zreturn (b := true) dX12_passesBut_29 rfl rfl
theorem c_X12_passesBut (Γ : GT) (a1 : Int32) (a2 : Int32) (s : St)  (x : Bool) (h : f_X12_passesBut a1 a2 s = some x) (l : Launch) : MC l yX12_passesBut cX12_passesBut 3 (some .boolean) 3 WM Γ [.ref (Γ.2.1 0), .int a1, .int a2] s ((emZ s) x) := MC_of (by decide +kernel) (Nat.le_of_ble_eq_true rfl) (e_X12_passesBut Γ a1 a2 s ) h l
set_option maxRecDepth 100000 in
set_option maxHeartbeats 4000000 in
theorem e_X12_wrongs (Γ : GT) (a1 : Int32) (s : St)  : E RX12 cX12_wrongs 4 (some .int) 2 WM Γ (emI s) 0 [(0, .ref (Γ.2.1 0)), (1, .int a1)] [] s (f_X12_wrongs a1 s) := by
  unfold f_X12_wrongs
  refine E_iconst (v := 0) dX12_wrongs_0 (by decide) ?_
  refine E_istore_n [(2, .int 0), (0, .ref (Γ.2.1 0)), (1, .int a1)] dX12_wrongs_1 rfl (by decide) rfl ?_
  refine E_iconst (v := 0) dX12_wrongs_2 (by decide) ?_
  refine E_istore_n [(3, .int 0), (2, .int 0), (0, .ref (Γ.2.1 0)), (1, .int a1)] dX12_wrongs_3 rfl (by decide) rfl ?_
  refine E_lp (F := L_X12_wrongs_4 a1 s) (fun (x : Int32 × Int32) => [(3, .int x.1), (2, .int x.2), (0, .ref (Γ.2.1 0)), (1, .int a1)]) (fun (x : Int32 × Int32) => s) ?_ NN (0, 0)
  intro r1 hr1 x2
  show E _ _ _ _ _ _ _ _ _ _ _ _ (L_X12_wrongs_4 a1 s r1 x2)
  unfold L_X12_wrongs_4
  refine E_iload_n 0 dX12_wrongs_4 rfl rfl ?_
  refine E_aload_n 2 dX12_wrongs_5 rfl rfl ?_
  refine E_getI (j := 0) (ci := 12) (T := TX12) (C0 := RX12) (ref := "SameWrongModel") dX12_wrongs_6 rfl (by decide) rfl inX12 (by decide) kw_874 rfl rfl ?_
  refine E_icmpge 35 dX12_wrongs_9 (by decide) ?_ ?_
  · refine E_iload_n 1 dX12_wrongs_35 rfl rfl ?_
    exact E_ireturn dX12_wrongs_36 rfl rfl
  · refine E_iload_n 1 dX12_wrongs_12 rfl rfl ?_
    refine E_aload_n 2 dX12_wrongs_13 rfl rfl ?_
    refine E_iload_n 3 dX12_wrongs_14 rfl rfl ?_
    refine E_iload_n 0 dX12_wrongs_15 rfl rfl ?_
    refine E_callVZ (T := TX12) (ci := 12) [.int a1, .int x2.1] [.int x2.2] dX12_wrongs_16 rfl kw_1095 kw_1097 kp_41 kw_13 ko_X12_isWrong rfl hy_X12_isWrong rfl (by decide) (Nat.le_of_ble_eq_true rfl) rfl (by decide) rfl (c_X12_isWrong Γ a1 x2.1 s) (fun v3 => ?_)
    refine E_ifeqb 26 dX12_wrongs_19 (by decide) ?_ ?_
    · refine E_iconst (v := 0) dX12_wrongs_26 (by decide) ?_
      refine E_iadd dX12_wrongs_27 ?_
      refine E_istore_n [(2, .int (x2.2 + 0)), (3, .int x2.1), (0, .ref (Γ.2.1 0)), (1, .int a1)] dX12_wrongs_28 rfl (by decide) rfl ?_
      refine E_bv (fun v4 => [(2, .int v4), (3, .int x2.1), (0, .ref (Γ.2.1 0)), (1, .int a1)]) (fun v4 => ?_) (x2.2 + 0)
      refine E_iinc 1 [(3, .int (x2.1 + 1)), (2, .int v4), (0, .ref (Γ.2.1 0)), (1, .int a1)] dX12_wrongs_29 rfl rfl (by decide) rfl ?_
      refine E_goto 4 dX12_wrongs_32 (by decide) ?_
      exact hr1 (x2.1 + 1, v4)
    · refine E_iconst (v := 1) dX12_wrongs_22 (by decide) ?_
      refine E_goto 27 dX12_wrongs_23 (by decide) ?_
      refine E_iadd dX12_wrongs_27 ?_
      refine E_istore_n [(2, .int (x2.2 + 1)), (3, .int x2.1), (0, .ref (Γ.2.1 0)), (1, .int a1)] dX12_wrongs_28 rfl (by decide) rfl ?_
      refine E_bv (fun v5 => [(2, .int v5), (3, .int x2.1), (0, .ref (Γ.2.1 0)), (1, .int a1)]) (fun v5 => ?_) (x2.2 + 1)
      refine E_iinc 1 [(3, .int (x2.1 + 1)), (2, .int v5), (0, .ref (Γ.2.1 0)), (1, .int a1)] dX12_wrongs_29 rfl rfl (by decide) rfl ?_
      refine E_goto 4 dX12_wrongs_32 (by decide) ?_
      exact hr1 (x2.1 + 1, v5)
theorem c_X12_wrongs (Γ : GT) (a1 : Int32) (s : St)  (x : Int32) (h : f_X12_wrongs a1 s = some x) (l : Launch) : MC l yX12_wrongs cX12_wrongs 4 (some .int) 2 WM Γ [.ref (Γ.2.1 0), .int a1] s ((emI s) x) := MC_of (by decide +kernel) (Nat.le_of_ble_eq_true rfl) (e_X12_wrongs Γ a1 s ) h l
set_option maxRecDepth 100000 in
set_option maxHeartbeats 4000000 in
theorem e_X12_markOf (Γ : GT) (a1 : Int32) (a2 : Int32) (s : St)  : E RX12 cX12_markOf 3 (some .int) 4 WM Γ (emI s) 0 [(0, .ref (Γ.2.1 0)), (1, .int a1), (2, .int a2)] [] s (f_X12_markOf a1 a2 s) := by
  unfold f_X12_markOf
  refine E_iload_n 2 dX12_markOf_0 rfl rfl ?_
  refine E_ifne 13 dX12_markOf_1 (by decide) ?_ ?_
  · refine E_iload_n 2 dX12_markOf_13 rfl rfl ?_
    refine E_iconst (v := 1) dX12_markOf_14 (by decide) ?_
    refine E_icmpne 27 dX12_markOf_15 (by decide) ?_ ?_
    · refine E_iload_n 2 dX12_markOf_27 rfl rfl ?_
      refine E_iconst (v := 2) dX12_markOf_28 (by decide) ?_
      refine E_icmpne 49 dX12_markOf_29 (by decide) ?_ ?_
      · refine E_aload_n 0 dX12_markOf_49 rfl rfl ?_
        refine E_iload_n 1 dX12_markOf_50 rfl rfl ?_
        refine E_callVI (T := TX12) (ci := 12) [.int a1] [] dX12_markOf_51 rfl kw_1091 kw_1093 kp_40 kw_13 ko_X12_wrongs rfl hy_X12_wrongs rfl (by decide) (Nat.le_of_ble_eq_true rfl) rfl (by decide) rfl (c_X12_wrongs Γ a1 s) (fun v1 => ?_)
        exact E_ireturn dX12_markOf_54 rfl rfl
      · refine E_aload_n 0 dX12_markOf_32 rfl rfl ?_
        refine E_iload_n 1 dX12_markOf_33 rfl rfl ?_
        refine E_iconst (v := (-1)) dX12_markOf_34 (by decide) ?_
        refine E_callVZ (T := TX12) (ci := 12) [.int a1, .int (-1)] [] dX12_markOf_35 rfl kw_1083 kw_1085 kp_38 kw_13 ko_X12_passesBut rfl hy_X12_passesBut rfl (by decide) (Nat.le_of_ble_eq_true rfl) rfl (by decide) rfl (c_X12_passesBut Γ a1 (-1) s) (fun v2 => ?_)
        refine E_ifeqb 45 dX12_markOf_38 (by decide) ?_ ?_
        · refine E_iconst (v := 0) dX12_markOf_45 (by decide) ?_
          refine E_goto 54 dX12_markOf_46 (by decide) ?_
          exact E_ireturn dX12_markOf_54 rfl rfl
        · refine E_iconst (v := 1) dX12_markOf_41 (by decide) ?_
          refine E_goto 54 dX12_markOf_42 (by decide) ?_
          exact E_ireturn dX12_markOf_54 rfl rfl
    · refine E_aload_n 0 dX12_markOf_18 rfl rfl ?_
      refine E_iload_n 1 dX12_markOf_19 rfl rfl ?_
      refine E_iconst (v := (-1)) dX12_markOf_20 (by decide) ?_
      refine E_callVI (T := TX12) (ci := 12) [.int a1, .int (-1)] [] dX12_markOf_21 rfl kw_1079 kw_1081 kp_37 kw_13 ko_X12_rankBut rfl hy_X12_rankBut rfl (by decide) (Nat.le_of_ble_eq_true rfl) rfl (by decide) rfl (c_X12_rankBut Γ a1 (-1) s) (fun v3 => ?_)
      refine E_goto 54 dX12_markOf_24 (by decide) ?_
      exact E_ireturn dX12_markOf_54 rfl rfl
  · refine E_aload_n 0 dX12_markOf_4 rfl rfl ?_
    refine E_iload_n 1 dX12_markOf_5 rfl rfl ?_
    refine E_iconst (v := (-1)) dX12_markOf_6 (by decide) ?_
    refine E_callVI (T := TX12) (ci := 12) [.int a1, .int (-1)] [] dX12_markOf_7 rfl kw_1071 kw_1073 kp_35 kw_13 ko_X12_markBut rfl hy_X12_markBut rfl (by decide) (Nat.le_of_ble_eq_true rfl) rfl (by decide) rfl (c_X12_markBut Γ a1 (-1) s) (fun v4 => ?_)
    refine E_goto 54 dX12_markOf_10 (by decide) ?_
    exact E_ireturn dX12_markOf_54 rfl rfl
theorem c_X12_markOf (Γ : GT) (a1 : Int32) (a2 : Int32) (s : St)  (x : Int32) (h : f_X12_markOf a1 a2 s = some x) (l : Launch) : MC l yX12_markOf cX12_markOf 3 (some .int) 4 WM Γ [.ref (Γ.2.1 0), .int a1, .int a2] s ((emI s) x) := MC_of (by decide +kernel) (Nat.le_of_ble_eq_true rfl) (e_X12_markOf Γ a1 a2 s ) h l
set_option maxRecDepth 100000 in
set_option maxHeartbeats 4000000 in
theorem e_X12_mark (Γ : GT) (a1 : Int32) (a2 : Int32) (s : St)  : E RX12 cX12_mark 3 (some .int) 5 WM Γ emIS 0 [(0, .ref (Γ.2.1 0)), (1, .int a1), (2, .int a2)] [] s (f_X12_mark a1 a2 s) := by
  unfold f_X12_mark
  refine E_aload_n 0 dX12_mark_0 rfl rfl ?_
  refine E_iload_n 1 dX12_mark_1 rfl rfl ?_
  refine E_callVZ (T := TX12) (ci := 12) [.int a1] [] dX12_mark_2 rfl kw_1021 kw_1023 kp_28 kw_13 ko_X12_isPupil rfl hy_X12_isPupil rfl (by decide) (Nat.le_of_ble_eq_true rfl) rfl (by decide) rfl (c_X12_isPupil Γ a1 s) (fun v1 => ?_)
  refine E_ifeqb 17 dX12_mark_5 (by decide) ?_ ?_
  · refine E_bipush (v := (-2)) dX12_mark_17 (by decide) ?_
    exact E_ireturn dX12_mark_19 rfl rfl
  · refine E_iload_n 2 dX12_mark_8 rfl rfl ?_
    refine E_iconst (v := 0) dX12_mark_9 (by decide) ?_
    refine E_iconst (v := 3) dX12_mark_10 (by decide) ?_
    refine E_callSZ [.int a2, .int 0, .int 3] [] dX12_mark_11 rfl kw_970 kw_971 kw_13 ko_X12_in hy_X12_in rfl (by decide) (Nat.le_of_ble_eq_true rfl) (c_X12_in Γ a2 0 3 s) (fun v2 => ?_)
    refine E_ifneb 20 dX12_mark_14 (by decide) ?_ ?_
    · refine E_aload_n 0 dX12_mark_20 rfl rfl ?_
      refine E_callVV (T := TX12) (ci := 12) [] [] dX12_mark_21 rfl kw_1044 kw_1046 kp_31 kw_13 ko_X12_lays rfl hy_X12_lays rfl (by decide) (Nat.le_of_ble_eq_true rfl) rfl (by decide) rfl (c_X12_lays Γ s) (fun s3 => ?_)
      refine E_aload_n 0 dX12_mark_24 rfl rfl ?_
      refine E_iload_n 1 dX12_mark_25 rfl rfl ?_
      refine E_iload_n 2 dX12_mark_26 rfl rfl ?_
      refine E_callVI (T := TX12) (ci := 12) [.int a1, .int a2] [] dX12_mark_27 rfl kw_1067 kw_1069 kp_34 kw_13 ko_X12_markOf rfl hy_X12_markOf rfl (by decide) (Nat.le_of_ble_eq_true rfl) rfl (by decide) rfl (c_X12_markOf Γ a1 a2 s3) (fun v4 => ?_)
      exact E_ireturn dX12_mark_30 rfl rfl
    · refine E_bipush (v := (-2)) dX12_mark_17 (by decide) ?_
      exact E_ireturn dX12_mark_19 rfl rfl
theorem c_X12_mark (Γ : GT) (a1 : Int32) (a2 : Int32) (s : St)  (x : (Int32 × St)) (h : f_X12_mark a1 a2 s = some x) (l : Launch) : MC l yX12_mark cX12_mark 3 (some .int) 5 WM Γ [.ref (Γ.2.1 0), .int a1, .int a2] s (emIS x) := MC_of (by decide +kernel) (Nat.le_of_ble_eq_true rfl) (e_X12_mark Γ a1 a2 s ) h l
set_option maxRecDepth 100000 in
set_option maxHeartbeats 4000000 in
theorem e_X12_sharedOf (Γ : GT) (a1 : Int32) (a2 : Int32) (s : St)  : E RX12 cX12_sharedOf 5 (some .int) 2 WM Γ (emI s) 0 [(0, .ref (Γ.2.1 0)), (1, .int a1), (2, .int a2)] [] s (f_X12_sharedOf a1 a2 s) := by
  unfold f_X12_sharedOf
  refine E_iconst (v := 0) dX12_sharedOf_0 (by decide) ?_
  refine E_istore_n [(3, .int 0), (0, .ref (Γ.2.1 0)), (1, .int a1), (2, .int a2)] dX12_sharedOf_1 rfl (by decide) rfl ?_
  refine E_iconst (v := 0) dX12_sharedOf_2 (by decide) ?_
  refine E_istore [(4, .int 0), (3, .int 0), (0, .ref (Γ.2.1 0)), (1, .int a1), (2, .int a2)] dX12_sharedOf_3 (by decide) rfl ?_
  refine E_lp (F := L_X12_sharedOf_5 a1 a2 s) (fun (x : Int32 × Int32) => [(4, .int x.1), (3, .int x.2), (0, .ref (Γ.2.1 0)), (1, .int a1), (2, .int a2)]) (fun (x : Int32 × Int32) => s) ?_ NN (0, 0)
  intro r1 hr1 x2
  show E _ _ _ _ _ _ _ _ _ _ _ _ (L_X12_sharedOf_5 a1 a2 s r1 x2)
  unfold L_X12_sharedOf_5
  refine E_iload 0 dX12_sharedOf_5 rfl ?_
  refine E_aload_n 2 dX12_sharedOf_7 rfl rfl ?_
  refine E_getI (j := 0) (ci := 12) (T := TX12) (C0 := RX12) (ref := "SameWrongModel") dX12_sharedOf_8 rfl (by decide) rfl inX12 (by decide) kw_874 rfl rfl ?_
  refine E_icmpge 65 dX12_sharedOf_11 (by decide) ?_ ?_
  · refine E_iload_n 1 dX12_sharedOf_65 rfl rfl ?_
    exact E_ireturn dX12_sharedOf_66 rfl rfl
  · refine E_iload_n 1 dX12_sharedOf_14 rfl rfl ?_
    refine E_aload_n 2 dX12_sharedOf_15 rfl rfl ?_
    refine E_iload_n 3 dX12_sharedOf_16 rfl rfl ?_
    refine E_iload 0 dX12_sharedOf_17 rfl ?_
    refine E_callVZ (T := TX12) (ci := 12) [.int a1, .int x2.1] [.int x2.2] dX12_sharedOf_19 rfl kw_1095 kw_1097 kp_41 kw_13 ko_X12_isWrong rfl hy_X12_isWrong rfl (by decide) (Nat.le_of_ble_eq_true rfl) rfl (by decide) rfl (c_X12_isWrong Γ a1 x2.1 s) (fun v3 => ?_)
    refine E_ifeqb 56 dX12_sharedOf_22 (by decide) ?_ ?_
    · refine E_iconst (v := 0) dX12_sharedOf_56 (by decide) ?_
      refine E_iadd dX12_sharedOf_57 ?_
      refine E_istore_n [(3, .int (x2.2 + 0)), (4, .int x2.1), (0, .ref (Γ.2.1 0)), (1, .int a1), (2, .int a2)] dX12_sharedOf_58 rfl (by decide) rfl ?_
      refine E_bv (fun v4 => [(3, .int v4), (4, .int x2.1), (0, .ref (Γ.2.1 0)), (1, .int a1), (2, .int a2)]) (fun v4 => ?_) (x2.2 + 0)
      refine E_iinc 1 [(4, .int (x2.1 + 1)), (3, .int v4), (0, .ref (Γ.2.1 0)), (1, .int a1), (2, .int a2)] dX12_sharedOf_59 rfl rfl (by decide) rfl ?_
      refine E_goto 5 dX12_sharedOf_62 (by decide) ?_
      exact hr1 (x2.1 + 1, v4)
    · refine E_aload_n 2 dX12_sharedOf_25 rfl rfl ?_
      refine E_getR 10 (j := 13) (ci := 12) (T := TX12) (C0 := RX12) (ref := "SameWrongModel") dX12_sharedOf_26 rfl (by decide) rfl inX12 (by decide) kw_887 rfl rfl rfl ?_
      refine E_bipush (v := 12) dX12_sharedOf_29 (by decide) ?_
      refine E_iload_n 3 dX12_sharedOf_31 rfl rfl ?_
      refine E_imul dX12_sharedOf_32 ?_
      refine E_iload 0 dX12_sharedOf_33 rfl ?_
      refine E_iadd dX12_sharedOf_35 ?_
      refine E_iaload dX12_sharedOf_36 rfl (by decide) ?_
      refine E_aload_n 2 dX12_sharedOf_37 rfl rfl ?_
      refine E_getR 10 (j := 13) (ci := 12) (T := TX12) (C0 := RX12) (ref := "SameWrongModel") dX12_sharedOf_38 rfl (by decide) rfl inX12 (by decide) kw_887 rfl rfl rfl ?_
      refine E_bipush (v := 12) dX12_sharedOf_41 (by decide) ?_
      refine E_iload_n 4 dX12_sharedOf_43 rfl rfl ?_
      refine E_imul dX12_sharedOf_44 ?_
      refine E_iload 0 dX12_sharedOf_45 rfl ?_
      refine E_iadd dX12_sharedOf_47 ?_
      refine E_iaload dX12_sharedOf_48 rfl (by decide) ?_
      refine E_icmpne 56 dX12_sharedOf_49 (by decide) ?_ ?_
      · refine E_iconst (v := 0) dX12_sharedOf_56 (by decide) ?_
        refine E_iadd dX12_sharedOf_57 ?_
        refine E_istore_n [(3, .int (x2.2 + 0)), (4, .int x2.1), (0, .ref (Γ.2.1 0)), (1, .int a1), (2, .int a2)] dX12_sharedOf_58 rfl (by decide) rfl ?_
        refine E_bv (fun v5 => [(3, .int v5), (4, .int x2.1), (0, .ref (Γ.2.1 0)), (1, .int a1), (2, .int a2)]) (fun v5 => ?_) (x2.2 + 0)
        refine E_iinc 1 [(4, .int (x2.1 + 1)), (3, .int v5), (0, .ref (Γ.2.1 0)), (1, .int a1), (2, .int a2)] dX12_sharedOf_59 rfl rfl (by decide) rfl ?_
        refine E_goto 5 dX12_sharedOf_62 (by decide) ?_
        exact hr1 (x2.1 + 1, v5)
      · refine E_iconst (v := 1) dX12_sharedOf_52 (by decide) ?_
        refine E_goto 57 dX12_sharedOf_53 (by decide) ?_
        refine E_iadd dX12_sharedOf_57 ?_
        refine E_istore_n [(3, .int (x2.2 + 1)), (4, .int x2.1), (0, .ref (Γ.2.1 0)), (1, .int a1), (2, .int a2)] dX12_sharedOf_58 rfl (by decide) rfl ?_
        refine E_bv (fun v6 => [(3, .int v6), (4, .int x2.1), (0, .ref (Γ.2.1 0)), (1, .int a1), (2, .int a2)]) (fun v6 => ?_) (x2.2 + 1)
        refine E_iinc 1 [(4, .int (x2.1 + 1)), (3, .int v6), (0, .ref (Γ.2.1 0)), (1, .int a1), (2, .int a2)] dX12_sharedOf_59 rfl rfl (by decide) rfl ?_
        refine E_goto 5 dX12_sharedOf_62 (by decide) ?_
        exact hr1 (x2.1 + 1, v6)
theorem c_X12_sharedOf (Γ : GT) (a1 : Int32) (a2 : Int32) (s : St)  (x : Int32) (h : f_X12_sharedOf a1 a2 s = some x) (l : Launch) : MC l yX12_sharedOf cX12_sharedOf 5 (some .int) 2 WM Γ [.ref (Γ.2.1 0), .int a1, .int a2] s ((emI s) x) := MC_of (by decide +kernel) (Nat.le_of_ble_eq_true rfl) (e_X12_sharedOf Γ a1 a2 s ) h l
set_option maxRecDepth 100000 in
set_option maxHeartbeats 4000000 in
theorem e_X12_bothOf (Γ : GT) (a1 : Int32) (a2 : Int32) (s : St)  : E RX12 cX12_bothOf 5 (some .int) 2 WM Γ (emI s) 0 [(0, .ref (Γ.2.1 0)), (1, .int a1), (2, .int a2)] [] s (f_X12_bothOf a1 a2 s) := by
  unfold f_X12_bothOf
  refine E_iconst (v := 0) dX12_bothOf_0 (by decide) ?_
  refine E_istore_n [(3, .int 0), (0, .ref (Γ.2.1 0)), (1, .int a1), (2, .int a2)] dX12_bothOf_1 rfl (by decide) rfl ?_
  refine E_iconst (v := 0) dX12_bothOf_2 (by decide) ?_
  refine E_istore [(4, .int 0), (3, .int 0), (0, .ref (Γ.2.1 0)), (1, .int a1), (2, .int a2)] dX12_bothOf_3 (by decide) rfl ?_
  refine E_lp (F := L_X12_bothOf_5 a1 a2 s) (fun (x : Int32 × Int32) => [(4, .int x.1), (3, .int x.2), (0, .ref (Γ.2.1 0)), (1, .int a1), (2, .int a2)]) (fun (x : Int32 × Int32) => s) ?_ NN (0, 0)
  intro r1 hr1 x2
  show E _ _ _ _ _ _ _ _ _ _ _ _ (L_X12_bothOf_5 a1 a2 s r1 x2)
  unfold L_X12_bothOf_5
  refine E_iload 0 dX12_bothOf_5 rfl ?_
  refine E_aload_n 2 dX12_bothOf_7 rfl rfl ?_
  refine E_getI (j := 0) (ci := 12) (T := TX12) (C0 := RX12) (ref := "SameWrongModel") dX12_bothOf_8 rfl (by decide) rfl inX12 (by decide) kw_874 rfl rfl ?_
  refine E_icmpge 48 dX12_bothOf_11 (by decide) ?_ ?_
  · refine E_iload_n 1 dX12_bothOf_48 rfl rfl ?_
    exact E_ireturn dX12_bothOf_49 rfl rfl
  · refine E_iload_n 1 dX12_bothOf_14 rfl rfl ?_
    refine E_aload_n 2 dX12_bothOf_15 rfl rfl ?_
    refine E_iload_n 3 dX12_bothOf_16 rfl rfl ?_
    refine E_iload 0 dX12_bothOf_17 rfl ?_
    refine E_callVZ (T := TX12) (ci := 12) [.int a1, .int x2.1] [.int x2.2] dX12_bothOf_19 rfl kw_1095 kw_1097 kp_41 kw_13 ko_X12_isWrong rfl hy_X12_isWrong rfl (by decide) (Nat.le_of_ble_eq_true rfl) rfl (by decide) rfl (c_X12_isWrong Γ a1 x2.1 s) (fun v3 => ?_)
    refine E_ifeqb 39 dX12_bothOf_22 (by decide) ?_ ?_
    · refine E_iconst (v := 0) dX12_bothOf_39 (by decide) ?_
      refine E_iadd dX12_bothOf_40 ?_
      refine E_istore_n [(3, .int (x2.2 + 0)), (4, .int x2.1), (0, .ref (Γ.2.1 0)), (1, .int a1), (2, .int a2)] dX12_bothOf_41 rfl (by decide) rfl ?_
      refine E_bv (fun v4 => [(3, .int v4), (4, .int x2.1), (0, .ref (Γ.2.1 0)), (1, .int a1), (2, .int a2)]) (fun v4 => ?_) (x2.2 + 0)
      refine E_iinc 1 [(4, .int (x2.1 + 1)), (3, .int v4), (0, .ref (Γ.2.1 0)), (1, .int a1), (2, .int a2)] dX12_bothOf_42 rfl rfl (by decide) rfl ?_
      refine E_goto 5 dX12_bothOf_45 (by decide) ?_
      exact hr1 (x2.1 + 1, v4)
    · refine E_aload_n 2 dX12_bothOf_25 rfl rfl ?_
      refine E_iload_n 4 dX12_bothOf_26 rfl rfl ?_
      refine E_iload 0 dX12_bothOf_27 rfl ?_
      refine E_callVZ (T := TX12) (ci := 12) [.int a2, .int x2.1] [.int x2.2] dX12_bothOf_29 rfl kw_1095 kw_1097 kp_41 kw_13 ko_X12_isWrong rfl hy_X12_isWrong rfl (by decide) (Nat.le_of_ble_eq_true rfl) rfl (by decide) rfl (c_X12_isWrong Γ a2 x2.1 s) (fun v5 => ?_)
      refine E_ifeqb 39 dX12_bothOf_32 (by decide) ?_ ?_
      · refine E_iconst (v := 0) dX12_bothOf_39 (by decide) ?_
        refine E_iadd dX12_bothOf_40 ?_
        refine E_istore_n [(3, .int (x2.2 + 0)), (4, .int x2.1), (0, .ref (Γ.2.1 0)), (1, .int a1), (2, .int a2)] dX12_bothOf_41 rfl (by decide) rfl ?_
        refine E_bv (fun v6 => [(3, .int v6), (4, .int x2.1), (0, .ref (Γ.2.1 0)), (1, .int a1), (2, .int a2)]) (fun v6 => ?_) (x2.2 + 0)
        refine E_iinc 1 [(4, .int (x2.1 + 1)), (3, .int v6), (0, .ref (Γ.2.1 0)), (1, .int a1), (2, .int a2)] dX12_bothOf_42 rfl rfl (by decide) rfl ?_
        refine E_goto 5 dX12_bothOf_45 (by decide) ?_
        exact hr1 (x2.1 + 1, v6)
      · refine E_iconst (v := 1) dX12_bothOf_35 (by decide) ?_
        refine E_goto 40 dX12_bothOf_36 (by decide) ?_
        refine E_iadd dX12_bothOf_40 ?_
        refine E_istore_n [(3, .int (x2.2 + 1)), (4, .int x2.1), (0, .ref (Γ.2.1 0)), (1, .int a1), (2, .int a2)] dX12_bothOf_41 rfl (by decide) rfl ?_
        refine E_bv (fun v7 => [(3, .int v7), (4, .int x2.1), (0, .ref (Γ.2.1 0)), (1, .int a1), (2, .int a2)]) (fun v7 => ?_) (x2.2 + 1)
        refine E_iinc 1 [(4, .int (x2.1 + 1)), (3, .int v7), (0, .ref (Γ.2.1 0)), (1, .int a1), (2, .int a2)] dX12_bothOf_42 rfl rfl (by decide) rfl ?_
        refine E_goto 5 dX12_bothOf_45 (by decide) ?_
        exact hr1 (x2.1 + 1, v7)
theorem c_X12_bothOf (Γ : GT) (a1 : Int32) (a2 : Int32) (s : St)  (x : Int32) (h : f_X12_bothOf a1 a2 s = some x) (l : Launch) : MC l yX12_bothOf cX12_bothOf 5 (some .int) 2 WM Γ [.ref (Γ.2.1 0), .int a1, .int a2] s ((emI s) x) := MC_of (by decide +kernel) (Nat.le_of_ble_eq_true rfl) (e_X12_bothOf Γ a1 a2 s ) h l
set_option maxRecDepth 100000 in
set_option maxHeartbeats 4000000 in
theorem e_X12_laysChance (Γ : GT) (a1 : Int32) (a2 : Int32) (s : St)  : E RX12 cX12_laysChance 12 (some .boolean) 3 WM Γ emZS 0 [(0, .ref (Γ.2.1 0)), (1, .int a1), (2, .int a2)] [] s (f_X12_laysChance a1 a2 s) := by
  unfold f_X12_laysChance
  refine E_aload_n 0 dX12_laysChance_0 rfl rfl ?_
  refine E_iload_n 1 dX12_laysChance_1 rfl rfl ?_
  refine E_iload_n 2 dX12_laysChance_2 rfl rfl ?_
  refine E_callVI (T := TX12) (ci := 12) [.int a1, .int a2] [] dX12_laysChance_3 rfl kw_1107 kw_1109 kp_43 kw_13 ko_X12_bothOf rfl hy_X12_bothOf rfl (by decide) (Nat.le_of_ble_eq_true rfl) rfl (by decide) rfl (c_X12_bothOf Γ a1 a2 s) (fun v1 => ?_)
  refine E_bipush (v := 7) dX12_laysChance_6 (by decide) ?_
  refine E_icmple 13 dX12_laysChance_8 (by decide) ?_ ?_
  · refine E_iconst (v := 0) dX12_laysChance_13 (by decide) ?_
    refine E_istore_n [(3, .int 0), (0, .ref (Γ.2.1 0)), (1, .int a1), (2, .int a2)] dX12_laysChance_14 rfl (by decide) rfl ?_
    refine E_jn 42 (fun (y : St) => [(0, .ref (Γ.2.1 0)), (1, .int a1), (2, .int a2)]) (fun (y : St) => []) (fun (y : St) => y) ?_ ?_
    · intro y3
      refine E_aload_n 0 dX12_laysChance_42 rfl rfl ?_
      refine E_lconst (v := 1) dX12_laysChance_43 rfl ?_
      refine E_putJ (j := 19) (ci := 12) (T := TX12) (C0 := RX12) (ref := "SameWrongModel") dX12_laysChance_44 rfl (by decide) rfl inX12 (by decide) kw_893 rfl tyX12_ok nmX12 rfl rfl ?_
      refine E_bd (fun s4 => ?_)
      refine E_iconst (v := 0) dX12_laysChance_47 (by decide) ?_
      refine E_istore_n [(3, .int 0), (0, .ref (Γ.2.1 0)), (1, .int a1), (2, .int a2)] dX12_laysChance_48 rfl (by decide) rfl ?_
      refine E_jn 288 (fun (y : St) => [(0, .ref (Γ.2.1 0)), (1, .int a1), (2, .int a2)]) (fun (y : St) => []) (fun (y : St) => y) ?_ ?_
      · intro y6
        refine E_aload_n 0 dX12_laysChance_288 rfl rfl ?_
        refine E_lconst (v := 0) dX12_laysChance_289 rfl ?_
        refine E_putJ (j := 18) (ci := 12) (T := TX12) (C0 := RX12) (ref := "SameWrongModel") dX12_laysChance_290 rfl (by decide) rfl inX12 (by decide) kw_892 rfl tyX12_ok nmX12 rfl rfl ?_
        refine E_bd (fun s7 => ?_)
        refine E_aload_n 0 dX12_laysChance_293 rfl rfl ?_
        refine E_iload_n 1 dX12_laysChance_294 rfl rfl ?_
        refine E_iload_n 2 dX12_laysChance_295 rfl rfl ?_
        refine E_callVI (T := TX12) (ci := 12) [.int a1, .int a2] [] dX12_laysChance_296 rfl kw_1103 kw_1105 kp_42 kw_13 ko_X12_sharedOf rfl hy_X12_sharedOf rfl (by decide) (Nat.le_of_ble_eq_true rfl) rfl (by decide) rfl (c_X12_sharedOf Γ a1 a2 s7) (fun v8 => ?_)
        refine E_istore_n [(3, .int v8), (0, .ref (Γ.2.1 0)), (1, .int a1), (2, .int a2)] dX12_laysChance_299 rfl (by decide) rfl ?_
        refine E_lvsub [0, 1] [(3, .int v8), (0, .ref (Γ.2.1 0))] rfl ?_
        refine E_lp (F := L_X12_laysChance_300) (fun (x : Int32 × St) => [(3, .int x.1), (0, .ref (Γ.2.1 0))]) (fun (x : Int32 × St) => x.2) ?_ NN (v8, s7)
        intro r9 hr9 x10
        show E _ _ _ _ _ _ _ _ _ _ _ _ (L_X12_laysChance_300 r9 x10)
        unfold L_X12_laysChance_300
        refine E_iload_n 0 dX12_laysChance_300 rfl rfl ?_
        refine E_bipush (v := 9) dX12_laysChance_301 (by decide) ?_
        refine E_icmpge 327 dX12_laysChance_303 (by decide) ?_ ?_
        · refine E_iconst (v := 1) dX12_laysChance_327 (by decide) ?_
          exact E_zreturn (b := true) dX12_laysChance_328 rfl rfl
        · refine E_aload_n 1 dX12_laysChance_306 rfl rfl ?_
          refine E_dup dX12_laysChance_307 rfl ?_
          refine E_getJ (j := 18) (ci := 12) (T := TX12) (C0 := RX12) (ref := "SameWrongModel") dX12_laysChance_308 rfl (by decide) rfl inX12 (by decide) kw_892 rfl rfl ?_
          refine E_aload_n 1 dX12_laysChance_311 rfl rfl ?_
          refine E_getR 14 (j := 17) (ci := 12) (T := TX12) (C0 := RX12) (ref := "SameWrongModel") dX12_laysChance_312 rfl (by decide) rfl inX12 (by decide) kw_891 rfl rfl rfl ?_
          refine E_iload_n 0 dX12_laysChance_315 rfl rfl ?_
          refine E_laload dX12_laysChance_316 rfl (by decide) ?_
          refine E_ladd dX12_laysChance_317 ?_
          refine E_putJ (j := 18) (ci := 12) (T := TX12) (C0 := RX12) (ref := "SameWrongModel") dX12_laysChance_318 rfl (by decide) rfl inX12 (by decide) kw_892 rfl tyX12_ok nmX12 rfl rfl ?_
          refine E_bd (fun s11 => ?_)
          refine E_iinc 0 [(3, .int (x10.1 + 1)), (0, .ref (Γ.2.1 0))] dX12_laysChance_321 rfl rfl (by decide) rfl ?_
          refine E_goto 300 dX12_laysChance_324 (by decide) ?_
          exact hr9 (x10.1 + 1, s11)
      · intro K5 hK5
        refine E_lp (F := L_X12_laysChance_49 a1 a2 K5) (fun (x : Int32 × St) => [(3, .int x.1), (0, .ref (Γ.2.1 0)), (1, .int a1), (2, .int a2)]) (fun (x : Int32 × St) => x.2) ?_ NN (0, s4)
        intro r12 hr12 x13
        show E _ _ _ _ _ _ _ _ _ _ _ _ (L_X12_laysChance_49 a1 a2 K5 r12 x13)
        unfold L_X12_laysChance_49
        refine E_iload_n 0 dX12_laysChance_49 rfl rfl ?_
        refine E_aload_n 1 dX12_laysChance_50 rfl rfl ?_
        refine E_getI (j := 0) (ci := 12) (T := TX12) (C0 := RX12) (ref := "SameWrongModel") dX12_laysChance_51 rfl (by decide) rfl inX12 (by decide) kw_874 rfl rfl ?_
        refine E_icmpge 288 dX12_laysChance_54 (by decide) ?_ ?_
        · refine E_lvsub [1, 2, 3] [(0, .ref (Γ.2.1 0)), (1, .int a1), (2, .int a2)] rfl ?_
          exact hK5 x13.2
        · refine E_aload_n 1 dX12_laysChance_57 rfl rfl ?_
          refine E_iload_n 2 dX12_laysChance_58 rfl rfl ?_
          refine E_iload_n 0 dX12_laysChance_59 rfl rfl ?_
          refine E_callVZ (T := TX12) (ci := 12) [.int a1, .int x13.1] [] dX12_laysChance_60 rfl kw_1095 kw_1097 kp_41 kw_13 ko_X12_isWrong rfl hy_X12_isWrong rfl (by decide) (Nat.le_of_ble_eq_true rfl) rfl (by decide) rfl (c_X12_isWrong Γ a1 x13.1 x13.2) (fun v14 => ?_)
          refine E_ifeqb 282 dX12_laysChance_63 (by decide) ?_ ?_
          · refine E_iinc 0 [(3, .int (x13.1 + 1)), (0, .ref (Γ.2.1 0)), (1, .int a1), (2, .int a2)] dX12_laysChance_282 rfl rfl (by decide) rfl ?_
            refine E_goto 49 dX12_laysChance_285 (by decide) ?_
            exact hr12 (x13.1 + 1, x13.2)
          · refine E_aload_n 1 dX12_laysChance_66 rfl rfl ?_
            refine E_iload_n 3 dX12_laysChance_67 rfl rfl ?_
            refine E_iload_n 0 dX12_laysChance_68 rfl rfl ?_
            refine E_callVZ (T := TX12) (ci := 12) [.int a2, .int x13.1] [] dX12_laysChance_69 rfl kw_1095 kw_1097 kp_41 kw_13 ko_X12_isWrong rfl hy_X12_isWrong rfl (by decide) (Nat.le_of_ble_eq_true rfl) rfl (by decide) rfl (c_X12_isWrong Γ a2 x13.1 x13.2) (fun v15 => ?_)
            refine E_ifeqb 282 dX12_laysChance_72 (by decide) ?_ ?_
            · refine E_iinc 0 [(3, .int (x13.1 + 1)), (0, .ref (Γ.2.1 0)), (1, .int a1), (2, .int a2)] dX12_laysChance_282 rfl rfl (by decide) rfl ?_
              refine E_goto 49 dX12_laysChance_285 (by decide) ?_
              exact hr12 (x13.1 + 1, x13.2)
            · refine E_ldc2 (v := 4) dX12_laysChance_75 kw_1119 ?_
              refine E_lstore [(4, .long 4), (3, .int x13.1), (0, .ref (Γ.2.1 0)), (1, .int a1), (2, .int a2)] dX12_laysChance_78 (by decide) rfl ?_
              refine E_lconst (v := 0) dX12_laysChance_80 rfl ?_
              refine E_lstore [(6, .long 0), (4, .long 4), (3, .int x13.1), (0, .ref (Γ.2.1 0)), (1, .int a1), (2, .int a2)] dX12_laysChance_81 (by decide) rfl ?_
              refine E_iconst (v := 1) dX12_laysChance_83 (by decide) ?_
              refine E_istore [(8, .int 1), (6, .long 0), (4, .long 4), (3, .int x13.1), (0, .ref (Γ.2.1 0)), (1, .int a1), (2, .int a2)] dX12_laysChance_84 (by decide) rfl ?_
              refine E_jn 208 (fun (y : Int64 × Int64) => [(6, .long y.1), (4, .long y.2), (3, .int x13.1), (0, .ref (Γ.2.1 0)), (1, .int a1), (2, .int a2)]) (fun (y : Int64 × Int64) => []) (fun (y : Int64 × Int64) => x13.2) ?_ ?_
              · intro y17
                refine E_bipush (v := 8) dX12_laysChance_208 (by decide) ?_
                refine E_istore [(8, .int 8), (6, .long y17.1), (4, .long y17.2), (3, .int x13.1), (0, .ref (Γ.2.1 0)), (1, .int a1), (2, .int a2)] dX12_laysChance_210 (by decide) rfl ?_
                refine E_jn 268 (fun (y : St) => [(4, .long y17.2), (3, .int x13.1), (0, .ref (Γ.2.1 0)), (1, .int a1), (2, .int a2)]) (fun (y : St) => []) (fun (y : St) => y) ?_ ?_
                · intro y19
                  refine E_aload_n 2 dX12_laysChance_268 rfl rfl ?_
                  refine E_dup dX12_laysChance_269 rfl ?_
                  refine E_getJ (j := 19) (ci := 12) (T := TX12) (C0 := RX12) (ref := "SameWrongModel") dX12_laysChance_270 rfl (by decide) rfl inX12 (by decide) kw_893 rfl rfl ?_
                  refine E_lload 0 dX12_laysChance_273 rfl ?_
                  refine E_lload 0 dX12_laysChance_275 rfl ?_
                  refine E_lmul dX12_laysChance_277 ?_
                  refine E_lmul dX12_laysChance_278 ?_
                  refine E_putJ (j := 19) (ci := 12) (T := TX12) (C0 := RX12) (ref := "SameWrongModel") dX12_laysChance_279 rfl (by decide) rfl inX12 (by decide) kw_893 rfl tyX12_ok nmX12 rfl rfl ?_
                  refine E_bd (fun s20 => ?_)
                  refine E_iinc 1 [(3, .int (x13.1 + 1)), (4, .long y17.2), (0, .ref (Γ.2.1 0)), (1, .int a1), (2, .int a2)] dX12_laysChance_282 rfl rfl (by decide) rfl ?_
                  refine E_goto 49 dX12_laysChance_285 (by decide) ?_
                  refine E_lvsub [0, 2, 3, 4] [(3, .int (x13.1 + 1)), (0, .ref (Γ.2.1 0)), (1, .int a1), (2, .int a2)] rfl ?_
                  exact hr12 (x13.1 + 1, s20)
                · intro K18 hK18
                  refine E_lp (F := L_X12_laysChance_212 y17 K18) (fun (x : Int32 × St) => [(8, .int x.1), (6, .long y17.1), (4, .long y17.2), (3, .int x13.1), (0, .ref (Γ.2.1 0)), (1, .int a1), (2, .int a2)]) (fun (x : Int32 × St) => x.2) ?_ NN (8, x13.2)
                  intro r21 hr21 x22
                  show E _ _ _ _ _ _ _ _ _ _ _ _ (L_X12_laysChance_212 y17 K18 r21 x22)
                  unfold L_X12_laysChance_212
                  refine E_iload 0 dX12_laysChance_212 rfl ?_
                  refine E_iflt 268 dX12_laysChance_214 (by decide) ?_ ?_
                  · refine E_lvsub [2, 3, 4, 5, 6] [(4, .long y17.2), (3, .int x13.1), (0, .ref (Γ.2.1 0)), (1, .int a1), (2, .int a2)] rfl ?_
                    exact hK18 x22.2
                  · refine E_aload_n 4 dX12_laysChance_217 rfl rfl ?_
                    refine E_getR 14 (j := 17) (ci := 12) (T := TX12) (C0 := RX12) (ref := "SameWrongModel") dX12_laysChance_218 rfl (by decide) rfl inX12 (by decide) kw_891 rfl rfl rfl ?_
                    refine E_iload 0 dX12_laysChance_221 rfl ?_
                    refine E_aload_n 4 dX12_laysChance_223 rfl rfl ?_
                    refine E_getR 14 (j := 17) (ci := 12) (T := TX12) (C0 := RX12) (ref := "SameWrongModel") dX12_laysChance_224 rfl (by decide) rfl inX12 (by decide) kw_891 rfl rfl rfl ?_
                    refine E_iload 0 dX12_laysChance_227 rfl ?_
                    refine E_laload dX12_laysChance_229 rfl (by decide) ?_
                    refine E_lload 2 dX12_laysChance_230 rfl ?_
                    refine E_lload 2 dX12_laysChance_232 rfl ?_
                    refine E_lmul dX12_laysChance_234 ?_
                    refine E_lload 1 dX12_laysChance_235 rfl ?_
                    refine E_lsub dX12_laysChance_237 ?_
                    refine E_lmul dX12_laysChance_238 ?_
                    refine E_iload 0 dX12_laysChance_239 rfl ?_
                    refine E_jn 260 (fun (y : Int64) => [(8, .int x22.1), (6, .long y17.1), (4, .long y17.2), (3, .int x13.1), (0, .ref (Γ.2.1 0)), (1, .int a1), (2, .int a2)]) (fun (y : Int64) => [.long y, .long ((x22.2.2 14 x22.1.toNatClampNeg) * ((y17.2 * y17.2) - y17.1)), .int x22.1, .ref (Γ.2.1 14)]) (fun (y : Int64) => x22.2) ?_ ?_
                    · intro y24
                      refine E_ladd dX12_laysChance_260 ?_
                      refine E_lastore dX12_laysChance_261 rfl (by decide) ?_
                      refine E_bd (fun s25 => ?_)
                      refine E_iinc 0 [(8, .int (x22.1 + (-1))), (6, .long y17.1), (4, .long y17.2), (3, .int x13.1), (0, .ref (Γ.2.1 0)), (1, .int a1), (2, .int a2)] dX12_laysChance_262 rfl rfl (by decide) rfl ?_
                      refine E_goto 212 dX12_laysChance_265 (by decide) ?_
                      exact hr21 (x22.1 + (-1), s25)
                    · intro K23 hK23
                      refine E_ifle 259 dX12_laysChance_241 (by decide) ?_ ?_
                      · refine E_lconst (v := 0) dX12_laysChance_259 rfl ?_
                        exact hK23 0
                      · refine E_aload_n 4 dX12_laysChance_244 rfl rfl ?_
                        refine E_getR 14 (j := 17) (ci := 12) (T := TX12) (C0 := RX12) (ref := "SameWrongModel") dX12_laysChance_245 rfl (by decide) rfl inX12 (by decide) kw_891 rfl rfl rfl ?_
                        refine E_iload 0 dX12_laysChance_248 rfl ?_
                        refine E_iconst (v := 1) dX12_laysChance_250 (by decide) ?_
                        refine E_isub dX12_laysChance_251 ?_
                        refine E_laload dX12_laysChance_252 rfl (by decide) ?_
                        refine E_lload 1 dX12_laysChance_253 rfl ?_
                        refine E_lmul dX12_laysChance_255 ?_
                        refine E_goto 260 dX12_laysChance_256 (by decide) ?_
                        exact hK23 ((x22.2.2 14 (x22.1 - 1).toNatClampNeg) * y17.1)
              · intro K16 hK16
                refine E_lp (F := L_X12_laysChance_86 a1 a2 x13 K16) (fun (x : Int32 × Int64 × Int64) => [(8, .int x.1), (6, .long x.2.1), (4, .long x.2.2), (3, .int x13.1), (0, .ref (Γ.2.1 0)), (1, .int a1), (2, .int a2)]) (fun (x : Int32 × Int64 × Int64) => x13.2) ?_ NN (1, 0, 4)
                intro r26 hr26 x27
                show E _ _ _ _ _ _ _ _ _ _ _ _ (L_X12_laysChance_86 a1 a2 x13 K16 r26 x27)
                unfold L_X12_laysChance_86
                refine E_iload 0 dX12_laysChance_86 rfl ?_
                refine E_bipush (v := 6) dX12_laysChance_88 (by decide) ?_
                refine E_icmpge 208 dX12_laysChance_90 (by decide) ?_ ?_
                · refine E_lvsub [1, 2, 3, 4, 5, 6] [(6, .long x27.2.1), (4, .long x27.2.2), (3, .int x13.1), (0, .ref (Γ.2.1 0)), (1, .int a1), (2, .int a2)] rfl ?_
                  exact hK16 (x27.2.1, x27.2.2)
                · refine E_lconst (v := 1) dX12_laysChance_93 rfl ?_
                  refine E_lstore [(9, .long 1), (8, .int x27.1), (6, .long x27.2.1), (4, .long x27.2.2), (3, .int x13.1), (0, .ref (Γ.2.1 0)), (1, .int a1), (2, .int a2)] dX12_laysChance_94 (by decide) rfl ?_
                  refine E_iconst (v := 0) dX12_laysChance_96 (by decide) ?_
                  refine E_istore [(11, .int 0), (9, .long 1), (8, .int x27.1), (6, .long x27.2.1), (4, .long x27.2.2), (3, .int x13.1), (0, .ref (Γ.2.1 0)), (1, .int a1), (2, .int a2)] dX12_laysChance_97 (by decide) rfl ?_
                  refine E_jn 153 (fun (y : Int64) => [(9, .long y), (8, .int x27.1), (6, .long x27.2.1), (4, .long x27.2.2), (3, .int x13.1), (0, .ref (Γ.2.1 0)), (1, .int a1), (2, .int a2)]) (fun (y : Int64) => []) (fun (y : Int64) => x13.2) ?_ ?_
                  · intro y29
                    refine E_lload 3 dX12_laysChance_153 rfl ?_
                    refine E_iload 1 dX12_laysChance_155 rfl ?_
                    refine E_aload_n 5 dX12_laysChance_157 rfl rfl ?_
                    refine E_getR 2 (j := 3) (ci := 12) (T := TX12) (C0 := RX12) (ref := "SameWrongModel") dX12_laysChance_158 rfl (by decide) rfl inX12 (by decide) kw_877 rfl rfl rfl ?_
                    refine E_iload_n 4 dX12_laysChance_161 rfl rfl ?_
                    refine E_iaload dX12_laysChance_162 rfl (by decide) ?_
                    refine E_jn 174 (fun (y : Int64) => [(9, .long y29), (8, .int x27.1), (6, .long x27.2.1), (3, .int x13.1), (0, .ref (Γ.2.1 0)), (1, .int a1), (2, .int a2)]) (fun (y : Int64) => [.long y, .long x27.2.2]) (fun (y : Int64) => x13.2) ?_ ?_
                    · intro y31
                      refine E_ladd dX12_laysChance_174 ?_
                      refine E_lstore [(4, .long (x27.2.2 + y31)), (9, .long y29), (8, .int x27.1), (6, .long x27.2.1), (3, .int x13.1), (0, .ref (Γ.2.1 0)), (1, .int a1), (2, .int a2)] dX12_laysChance_175 (by decide) rfl ?_
                      refine E_bl (fun v32 => [(4, .long v32), (9, .long y29), (8, .int x27.1), (6, .long x27.2.1), (3, .int x13.1), (0, .ref (Γ.2.1 0)), (1, .int a1), (2, .int a2)]) (fun v32 => ?_) (x27.2.2 + y31)
                      refine E_lload 3 dX12_laysChance_177 rfl ?_
                      refine E_iload 2 dX12_laysChance_179 rfl ?_
                      refine E_aload_n 5 dX12_laysChance_181 rfl rfl ?_
                      refine E_getR 2 (j := 3) (ci := 12) (T := TX12) (C0 := RX12) (ref := "SameWrongModel") dX12_laysChance_182 rfl (by decide) rfl inX12 (by decide) kw_877 rfl rfl rfl ?_
                      refine E_iload_n 4 dX12_laysChance_185 rfl rfl ?_
                      refine E_iaload dX12_laysChance_186 rfl (by decide) ?_
                      refine E_icmpne 194 dX12_laysChance_187 (by decide) ?_ ?_
                      · refine E_lload 1 dX12_laysChance_194 rfl ?_
                        refine E_lload 1 dX12_laysChance_196 rfl ?_
                        refine E_lmul dX12_laysChance_198 ?_
                        refine E_ladd dX12_laysChance_199 ?_
                        refine E_lstore [(6, .long (x27.2.1 + (y29 * y29))), (4, .long v32), (9, .long y29), (8, .int x27.1), (3, .int x13.1), (0, .ref (Γ.2.1 0)), (1, .int a1), (2, .int a2)] dX12_laysChance_200 (by decide) rfl ?_
                        refine E_bl (fun v33 => [(6, .long v33), (4, .long v32), (9, .long y29), (8, .int x27.1), (3, .int x13.1), (0, .ref (Γ.2.1 0)), (1, .int a1), (2, .int a2)]) (fun v33 => ?_) (x27.2.1 + (y29 * y29))
                        refine E_iinc 3 [(8, .int (x27.1 + 1)), (6, .long v33), (4, .long v32), (9, .long y29), (3, .int x13.1), (0, .ref (Γ.2.1 0)), (1, .int a1), (2, .int a2)] dX12_laysChance_202 rfl rfl (by decide) rfl ?_
                        refine E_goto 86 dX12_laysChance_205 (by decide) ?_
                        refine E_lvsub [0, 1, 2, 4, 5, 6, 7] [(8, .int (x27.1 + 1)), (6, .long v33), (4, .long v32), (3, .int x13.1), (0, .ref (Γ.2.1 0)), (1, .int a1), (2, .int a2)] rfl ?_
                        exact hr26 (x27.1 + 1, v33, v32)
                      · refine E_lconst (v := 0) dX12_laysChance_190 rfl ?_
                        refine E_goto 199 dX12_laysChance_191 (by decide) ?_
                        refine E_ladd dX12_laysChance_199 ?_
                        refine E_lstore [(6, .long (x27.2.1 + 0)), (4, .long v32), (9, .long y29), (8, .int x27.1), (3, .int x13.1), (0, .ref (Γ.2.1 0)), (1, .int a1), (2, .int a2)] dX12_laysChance_200 (by decide) rfl ?_
                        refine E_bl (fun v34 => [(6, .long v34), (4, .long v32), (9, .long y29), (8, .int x27.1), (3, .int x13.1), (0, .ref (Γ.2.1 0)), (1, .int a1), (2, .int a2)]) (fun v34 => ?_) (x27.2.1 + 0)
                        refine E_iinc 3 [(8, .int (x27.1 + 1)), (6, .long v34), (4, .long v32), (9, .long y29), (3, .int x13.1), (0, .ref (Γ.2.1 0)), (1, .int a1), (2, .int a2)] dX12_laysChance_202 rfl rfl (by decide) rfl ?_
                        refine E_goto 86 dX12_laysChance_205 (by decide) ?_
                        refine E_lvsub [0, 1, 2, 4, 5, 6, 7] [(8, .int (x27.1 + 1)), (6, .long v34), (4, .long v32), (3, .int x13.1), (0, .ref (Γ.2.1 0)), (1, .int a1), (2, .int a2)] rfl ?_
                        exact hr26 (x27.1 + 1, v34, v32)
                    · intro K30 hK30
                      refine E_icmpne 170 dX12_laysChance_163 (by decide) ?_ ?_
                      · refine E_lload 0 dX12_laysChance_170 rfl ?_
                        refine E_lconst (v := 1) dX12_laysChance_172 rfl ?_
                        refine E_lsub dX12_laysChance_173 ?_
                        refine E_lvsub [0, 1, 2, 4, 5, 6, 7] [(9, .long y29), (8, .int x27.1), (6, .long x27.2.1), (3, .int x13.1), (0, .ref (Γ.2.1 0)), (1, .int a1), (2, .int a2)] rfl ?_
                        exact hK30 (y29 - 1)
                      · refine E_lconst (v := 0) dX12_laysChance_166 rfl ?_
                        refine E_goto 174 dX12_laysChance_167 (by decide) ?_
                        refine E_lvsub [0, 1, 2, 4, 5, 6, 7] [(9, .long y29), (8, .int x27.1), (6, .long x27.2.1), (3, .int x13.1), (0, .ref (Γ.2.1 0)), (1, .int a1), (2, .int a2)] rfl ?_
                        exact hK30 0
                  · intro K28 hK28
                    refine E_lp (F := L_X12_laysChance_99 a1 a2 x13 x27 K28) (fun (x : Int32 × Int64) => [(11, .int x.1), (9, .long x.2), (8, .int x27.1), (6, .long x27.2.1), (4, .long x27.2.2), (3, .int x13.1), (0, .ref (Γ.2.1 0)), (1, .int a1), (2, .int a2)]) (fun (x : Int32 × Int64) => x13.2) ?_ NN (0, 1)
                    intro r35 hr35 x36
                    show E _ _ _ _ _ _ _ _ _ _ _ _ (L_X12_laysChance_99 a1 a2 x13 x27 K28 r35 x36)
                    unfold L_X12_laysChance_99
                    refine E_iload 0 dX12_laysChance_99 rfl ?_
                    refine E_aload_n 6 dX12_laysChance_101 rfl rfl ?_
                    refine E_getI (j := 5) (ci := 12) (T := TX12) (C0 := RX12) (ref := "SameWrongModel") dX12_laysChance_102 rfl (by decide) rfl inX12 (by decide) kw_879 rfl rfl ?_
                    refine E_icmpge 153 dX12_laysChance_105 (by decide) ?_ ?_
                    · refine E_lvsub [1, 2, 3, 4, 5, 6, 7, 8] [(9, .long x36.2), (8, .int x27.1), (6, .long x27.2.1), (4, .long x27.2.2), (3, .int x13.1), (0, .ref (Γ.2.1 0)), (1, .int a1), (2, .int a2)] rfl ?_
                      exact hK28 x36.2
                    · refine E_lload 1 dX12_laysChance_108 rfl ?_
                      refine E_iload 0 dX12_laysChance_110 rfl ?_
                      refine E_iload_n 7 dX12_laysChance_112 rfl rfl ?_
                      refine E_icmpeq 143 dX12_laysChance_113 (by decide) ?_ ?_
                      · refine E_lconst (v := 0) dX12_laysChance_143 rfl ?_
                        refine E_ladd dX12_laysChance_144 ?_
                        refine E_lstore [(9, .long (x36.2 + 0)), (11, .int x36.1), (8, .int x27.1), (6, .long x27.2.1), (4, .long x27.2.2), (3, .int x13.1), (0, .ref (Γ.2.1 0)), (1, .int a1), (2, .int a2)] dX12_laysChance_145 (by decide) rfl ?_
                        refine E_bl (fun v37 => [(9, .long v37), (11, .int x36.1), (8, .int x27.1), (6, .long x27.2.1), (4, .long x27.2.2), (3, .int x13.1), (0, .ref (Γ.2.1 0)), (1, .int a1), (2, .int a2)]) (fun v37 => ?_) (x36.2 + 0)
                        refine E_iinc 1 [(11, .int (x36.1 + 1)), (9, .long v37), (8, .int x27.1), (6, .long x27.2.1), (4, .long x27.2.2), (3, .int x13.1), (0, .ref (Γ.2.1 0)), (1, .int a1), (2, .int a2)] dX12_laysChance_147 rfl rfl (by decide) rfl ?_
                        refine E_goto 99 dX12_laysChance_150 (by decide) ?_
                        exact hr35 (x36.1 + 1, v37)
                      · refine E_iload 0 dX12_laysChance_116 rfl ?_
                        refine E_iload_n 8 dX12_laysChance_118 rfl rfl ?_
                        refine E_icmpeq 143 dX12_laysChance_119 (by decide) ?_ ?_
                        · refine E_lconst (v := 0) dX12_laysChance_143 rfl ?_
                          refine E_ladd dX12_laysChance_144 ?_
                          refine E_lstore [(9, .long (x36.2 + 0)), (11, .int x36.1), (8, .int x27.1), (6, .long x27.2.1), (4, .long x27.2.2), (3, .int x13.1), (0, .ref (Γ.2.1 0)), (1, .int a1), (2, .int a2)] dX12_laysChance_145 (by decide) rfl ?_
                          refine E_bl (fun v38 => [(9, .long v38), (11, .int x36.1), (8, .int x27.1), (6, .long x27.2.1), (4, .long x27.2.2), (3, .int x13.1), (0, .ref (Γ.2.1 0)), (1, .int a1), (2, .int a2)]) (fun v38 => ?_) (x36.2 + 0)
                          refine E_iinc 1 [(11, .int (x36.1 + 1)), (9, .long v38), (8, .int x27.1), (6, .long x27.2.1), (4, .long x27.2.2), (3, .int x13.1), (0, .ref (Γ.2.1 0)), (1, .int a1), (2, .int a2)] dX12_laysChance_147 rfl rfl (by decide) rfl ?_
                          refine E_goto 99 dX12_laysChance_150 (by decide) ?_
                          exact hr35 (x36.1 + 1, v38)
                        · refine E_aload_n 6 dX12_laysChance_122 rfl rfl ?_
                          refine E_getR 10 (j := 13) (ci := 12) (T := TX12) (C0 := RX12) (ref := "SameWrongModel") dX12_laysChance_123 rfl (by decide) rfl inX12 (by decide) kw_887 rfl rfl rfl ?_
                          refine E_bipush (v := 12) dX12_laysChance_126 (by decide) ?_
                          refine E_iload 0 dX12_laysChance_128 rfl ?_
                          refine E_imul dX12_laysChance_130 ?_
                          refine E_iload_n 5 dX12_laysChance_131 rfl rfl ?_
                          refine E_iadd dX12_laysChance_132 ?_
                          refine E_iaload dX12_laysChance_133 rfl (by decide) ?_
                          refine E_iload 2 dX12_laysChance_134 rfl ?_
                          refine E_icmpne 143 dX12_laysChance_136 (by decide) ?_ ?_
                          · refine E_lconst (v := 0) dX12_laysChance_143 rfl ?_
                            refine E_ladd dX12_laysChance_144 ?_
                            refine E_lstore [(9, .long (x36.2 + 0)), (11, .int x36.1), (8, .int x27.1), (6, .long x27.2.1), (4, .long x27.2.2), (3, .int x13.1), (0, .ref (Γ.2.1 0)), (1, .int a1), (2, .int a2)] dX12_laysChance_145 (by decide) rfl ?_
                            refine E_bl (fun v39 => [(9, .long v39), (11, .int x36.1), (8, .int x27.1), (6, .long x27.2.1), (4, .long x27.2.2), (3, .int x13.1), (0, .ref (Γ.2.1 0)), (1, .int a1), (2, .int a2)]) (fun v39 => ?_) (x36.2 + 0)
                            refine E_iinc 1 [(11, .int (x36.1 + 1)), (9, .long v39), (8, .int x27.1), (6, .long x27.2.1), (4, .long x27.2.2), (3, .int x13.1), (0, .ref (Γ.2.1 0)), (1, .int a1), (2, .int a2)] dX12_laysChance_147 rfl rfl (by decide) rfl ?_
                            refine E_goto 99 dX12_laysChance_150 (by decide) ?_
                            exact hr35 (x36.1 + 1, v39)
                          · refine E_lconst (v := 1) dX12_laysChance_139 rfl ?_
                            refine E_goto 144 dX12_laysChance_140 (by decide) ?_
                            refine E_ladd dX12_laysChance_144 ?_
                            refine E_lstore [(9, .long (x36.2 + 1)), (11, .int x36.1), (8, .int x27.1), (6, .long x27.2.1), (4, .long x27.2.2), (3, .int x13.1), (0, .ref (Γ.2.1 0)), (1, .int a1), (2, .int a2)] dX12_laysChance_145 (by decide) rfl ?_
                            refine E_bl (fun v40 => [(9, .long v40), (11, .int x36.1), (8, .int x27.1), (6, .long x27.2.1), (4, .long x27.2.2), (3, .int x13.1), (0, .ref (Γ.2.1 0)), (1, .int a1), (2, .int a2)]) (fun v40 => ?_) (x36.2 + 1)
                            refine E_iinc 1 [(11, .int (x36.1 + 1)), (9, .long v40), (8, .int x27.1), (6, .long x27.2.1), (4, .long x27.2.2), (3, .int x13.1), (0, .ref (Γ.2.1 0)), (1, .int a1), (2, .int a2)] dX12_laysChance_147 rfl rfl (by decide) rfl ?_
                            refine E_goto 99 dX12_laysChance_150 (by decide) ?_
                            exact hr35 (x36.1 + 1, v40)
    · intro K2 hK2
      refine E_lp (F := L_X12_laysChance_15 K2) (fun (x : Int32 × St) => [(3, .int x.1), (0, .ref (Γ.2.1 0)), (1, .int a1), (2, .int a2)]) (fun (x : Int32 × St) => x.2) ?_ NN (0, s)
      intro r41 hr41 x42
      show E _ _ _ _ _ _ _ _ _ _ _ _ (L_X12_laysChance_15 K2 r41 x42)
      unfold L_X12_laysChance_15
      refine E_iload_n 0 dX12_laysChance_15 rfl rfl ?_
      refine E_bipush (v := 9) dX12_laysChance_16 (by decide) ?_
      refine E_icmpge 42 dX12_laysChance_18 (by decide) ?_ ?_
      · refine E_lvsub [1, 2, 3] [(0, .ref (Γ.2.1 0)), (1, .int a1), (2, .int a2)] rfl ?_
        exact hK2 x42.2
      · refine E_aload_n 1 dX12_laysChance_21 rfl rfl ?_
        refine E_getR 14 (j := 17) (ci := 12) (T := TX12) (C0 := RX12) (ref := "SameWrongModel") dX12_laysChance_22 rfl (by decide) rfl inX12 (by decide) kw_891 rfl rfl rfl ?_
        refine E_iload_n 0 dX12_laysChance_25 rfl rfl ?_
        refine E_iload_n 0 dX12_laysChance_26 rfl rfl ?_
        refine E_jn 35 (fun (y : Int64) => [(3, .int x42.1), (0, .ref (Γ.2.1 0)), (1, .int a1), (2, .int a2)]) (fun (y : Int64) => [.long y, .int x42.1, .ref (Γ.2.1 14)]) (fun (y : Int64) => x42.2) ?_ ?_
        · intro y44
          refine E_lastore dX12_laysChance_35 rfl (by decide) ?_
          refine E_bd (fun s45 => ?_)
          refine E_iinc 0 [(3, .int (x42.1 + 1)), (0, .ref (Γ.2.1 0)), (1, .int a1), (2, .int a2)] dX12_laysChance_36 rfl rfl (by decide) rfl ?_
          refine E_goto 15 dX12_laysChance_39 (by decide) ?_
          exact hr41 (x42.1 + 1, s45)
        · intro K43 hK43
          refine E_ifne 34 dX12_laysChance_27 (by decide) ?_ ?_
          · refine E_lconst (v := 0) dX12_laysChance_34 rfl ?_
            exact hK43 0
          · refine E_lconst (v := 1) dX12_laysChance_30 rfl ?_
            refine E_goto 35 dX12_laysChance_31 (by decide) ?_
            exact hK43 1
  · refine E_iconst (v := 0) dX12_laysChance_11 (by decide) ?_
    exact E_zreturn (b := false) dX12_laysChance_12 rfl rfl
theorem c_X12_laysChance (Γ : GT) (a1 : Int32) (a2 : Int32) (s : St)  (x : (Bool × St)) (h : f_X12_laysChance a1 a2 s = some x) (l : Launch) : MC l yX12_laysChance cX12_laysChance 12 (some .boolean) 3 WM Γ [.ref (Γ.2.1 0), .int a1, .int a2] s (emZS x) := MC_of (by decide +kernel) (Nat.le_of_ble_eq_true rfl) (e_X12_laysChance Γ a1 a2 s ) h l
set_option maxRecDepth 100000 in
set_option maxHeartbeats 4000000 in
theorem e_X12_areOdd (Γ : GT) (a1 : Int32) (a2 : Int32) (s : St)  : E RX12 cX12_areOdd 3 (some .boolean) 4 WM Γ emZS 0 [(0, .ref (Γ.2.1 0)), (1, .int a1), (2, .int a2)] [] s (f_X12_areOdd a1 a2 s) := by
  unfold f_X12_areOdd
  refine E_aload_n 0 dX12_areOdd_0 rfl rfl ?_
  refine E_iload_n 1 dX12_areOdd_1 rfl rfl ?_
  refine E_iload_n 2 dX12_areOdd_2 rfl rfl ?_
  refine E_callVI (T := TX12) (ci := 12) [.int a1, .int a2] [] dX12_areOdd_3 rfl kw_1103 kw_1105 kp_42 kw_13 ko_X12_sharedOf rfl hy_X12_sharedOf rfl (by decide) (Nat.le_of_ble_eq_true rfl) rfl (by decide) rfl (c_X12_sharedOf Γ a1 a2 s) (fun v1 => ?_)
  refine E_ifle 46 dX12_areOdd_6 (by decide) ?_ ?_
  · refine E_iconst (v := 0) dX12_areOdd_46 (by decide) ?_
    exact E_zreturn (b := false) dX12_areOdd_47 rfl rfl
  · refine E_aload_n 0 dX12_areOdd_9 rfl rfl ?_
    refine E_iload_n 1 dX12_areOdd_10 rfl rfl ?_
    refine E_iload_n 2 dX12_areOdd_11 rfl rfl ?_
    refine E_callVZS (T := TX12) (ci := 12) [.int a1, .int a2] [] dX12_areOdd_12 rfl kw_1115 kw_1117 kp_45 kw_13 ko_X12_laysChance rfl hy_X12_laysChance rfl (by decide) (Nat.le_of_ble_eq_true rfl) rfl (by decide) rfl (c_X12_laysChance Γ a1 a2 s) (fun p2 => ?_)
    refine E_ifeqb 46 dX12_areOdd_15 (by decide) ?_ ?_
    · refine E_iconst (v := 0) dX12_areOdd_46 (by decide) ?_
      exact E_zreturn (b := false) dX12_areOdd_47 rfl rfl
    · refine E_ldc2 (v := 1000) dX12_areOdd_18 kw_1120 ?_
      refine E_aload_n 0 dX12_areOdd_21 rfl rfl ?_
      refine E_getJ (j := 18) (ci := 12) (T := TX12) (C0 := RX12) (ref := "SameWrongModel") dX12_areOdd_22 rfl (by decide) rfl inX12 (by decide) kw_892 rfl rfl ?_
      refine E_lmul dX12_areOdd_25 ?_
      refine E_aload_n 0 dX12_areOdd_26 rfl rfl ?_
      refine E_getR 3 (j := 4) (ci := 12) (T := TX12) (C0 := RX12) (ref := "SameWrongModel") dX12_areOdd_27 rfl (by decide) rfl inX12 (by decide) kw_878 rfl rfl rfl ?_
      refine E_iconst (v := 2) dX12_areOdd_30 (by decide) ?_
      refine E_iaload dX12_areOdd_31 rfl (by decide) ?_
      refine E_i2l dX12_areOdd_32 ?_
      refine E_aload_n 0 dX12_areOdd_33 rfl rfl ?_
      refine E_getJ (j := 19) (ci := 12) (T := TX12) (C0 := RX12) (ref := "SameWrongModel") dX12_areOdd_34 rfl (by decide) rfl inX12 (by decide) kw_893 rfl rfl ?_
      refine E_lmul dX12_areOdd_37 ?_
      refine E_lgt 46 dX12_areOdd_38 dX12_areOdd_39 (by decide) ?_ ?_
      · refine E_iconst (v := 0) dX12_areOdd_46 (by decide) ?_
        exact E_zreturn (b := false) dX12_areOdd_47 rfl rfl
      · refine E_iconst (v := 1) dX12_areOdd_42 (by decide) ?_
        refine E_goto 47 dX12_areOdd_43 (by decide) ?_
        exact E_zreturn (b := true) dX12_areOdd_47 rfl rfl
theorem c_X12_areOdd (Γ : GT) (a1 : Int32) (a2 : Int32) (s : St)  (x : (Bool × St)) (h : f_X12_areOdd a1 a2 s = some x) (l : Launch) : MC l yX12_areOdd cX12_areOdd 3 (some .boolean) 4 WM Γ [.ref (Γ.2.1 0), .int a1, .int a2] s (emZS x) := MC_of (by decide +kernel) (Nat.le_of_ble_eq_true rfl) (e_X12_areOdd Γ a1 a2 s ) h l
set_option maxRecDepth 100000 in
set_option maxHeartbeats 4000000 in
theorem e_X12_shared (Γ : GT) (a1 : Int32) (a2 : Int32) (a3 : Int32) (s : St)  : E RX12 cX12_shared 4 (some .int) 5 WM Γ emIS 0 [(0, .ref (Γ.2.1 0)), (1, .int a1), (2, .int a2), (3, .int a3)] [] s (f_X12_shared a1 a2 a3 s) := by
  unfold f_X12_shared
  refine E_aload_n 0 dX12_shared_0 rfl rfl ?_
  refine E_iload_n 1 dX12_shared_1 rfl rfl ?_
  refine E_iload_n 2 dX12_shared_2 rfl rfl ?_
  refine E_callVZ (T := TX12) (ci := 12) [.int a1, .int a2] [] dX12_shared_3 rfl kw_1052 kw_1054 kp_32 kw_13 ko_X12_areTwo rfl hy_X12_areTwo rfl (by decide) (Nat.le_of_ble_eq_true rfl) rfl (by decide) rfl (c_X12_areTwo Γ a1 a2 s) (fun v1 => ?_)
  refine E_ifeqb 18 dX12_shared_6 (by decide) ?_ ?_
  · refine E_bipush (v := (-2)) dX12_shared_18 (by decide) ?_
    exact E_ireturn dX12_shared_20 rfl rfl
  · refine E_iload_n 3 dX12_shared_9 rfl rfl ?_
    refine E_iconst (v := 0) dX12_shared_10 (by decide) ?_
    refine E_iconst (v := 2) dX12_shared_11 (by decide) ?_
    refine E_callSZ [.int a3, .int 0, .int 2] [] dX12_shared_12 rfl kw_970 kw_971 kw_13 ko_X12_in hy_X12_in rfl (by decide) (Nat.le_of_ble_eq_true rfl) (c_X12_in Γ a3 0 2 s) (fun v2 => ?_)
    refine E_ifneb 21 dX12_shared_15 (by decide) ?_ ?_
    · refine E_aload_n 0 dX12_shared_21 rfl rfl ?_
      refine E_callVV (T := TX12) (ci := 12) [] [] dX12_shared_22 rfl kw_1044 kw_1046 kp_31 kw_13 ko_X12_lays rfl hy_X12_lays rfl (by decide) (Nat.le_of_ble_eq_true rfl) rfl (by decide) rfl (c_X12_lays Γ s) (fun s3 => ?_)
      refine E_iload_n 3 dX12_shared_25 rfl rfl ?_
      refine E_ifne 38 dX12_shared_26 (by decide) ?_ ?_
      · refine E_iload_n 3 dX12_shared_38 rfl rfl ?_
        refine E_iconst (v := 1) dX12_shared_39 (by decide) ?_
        refine E_icmpne 52 dX12_shared_40 (by decide) ?_ ?_
        · refine E_aload_n 0 dX12_shared_52 rfl rfl ?_
          refine E_iload_n 1 dX12_shared_53 rfl rfl ?_
          refine E_iload_n 2 dX12_shared_54 rfl rfl ?_
          refine E_callVZS (T := TX12) (ci := 12) [.int a1, .int a2] [] dX12_shared_55 rfl kw_1111 kw_1113 kp_44 kw_13 ko_X12_areOdd rfl hy_X12_areOdd rfl (by decide) (Nat.le_of_ble_eq_true rfl) rfl (by decide) rfl (c_X12_areOdd Γ a1 a2 s3) (fun p4 => ?_)
          refine E_ifeqb 65 dX12_shared_58 (by decide) ?_ ?_
          · refine E_iconst (v := 0) dX12_shared_65 (by decide) ?_
            exact E_ireturn dX12_shared_66 rfl rfl
          · refine E_iconst (v := 1) dX12_shared_61 (by decide) ?_
            refine E_goto 66 dX12_shared_62 (by decide) ?_
            exact E_ireturn dX12_shared_66 rfl rfl
        · refine E_aload_n 0 dX12_shared_43 rfl rfl ?_
          refine E_iload_n 1 dX12_shared_44 rfl rfl ?_
          refine E_iload_n 2 dX12_shared_45 rfl rfl ?_
          refine E_callVI (T := TX12) (ci := 12) [.int a1, .int a2] [] dX12_shared_46 rfl kw_1107 kw_1109 kp_43 kw_13 ko_X12_bothOf rfl hy_X12_bothOf rfl (by decide) (Nat.le_of_ble_eq_true rfl) rfl (by decide) rfl (c_X12_bothOf Γ a1 a2 s3) (fun v5 => ?_)
          refine E_goto 66 dX12_shared_49 (by decide) ?_
          exact E_ireturn dX12_shared_66 rfl rfl
      · refine E_aload_n 0 dX12_shared_29 rfl rfl ?_
        refine E_iload_n 1 dX12_shared_30 rfl rfl ?_
        refine E_iload_n 2 dX12_shared_31 rfl rfl ?_
        refine E_callVI (T := TX12) (ci := 12) [.int a1, .int a2] [] dX12_shared_32 rfl kw_1103 kw_1105 kp_42 kw_13 ko_X12_sharedOf rfl hy_X12_sharedOf rfl (by decide) (Nat.le_of_ble_eq_true rfl) rfl (by decide) rfl (c_X12_sharedOf Γ a1 a2 s3) (fun v6 => ?_)
        refine E_goto 66 dX12_shared_35 (by decide) ?_
        exact E_ireturn dX12_shared_66 rfl rfl
    · refine E_bipush (v := (-2)) dX12_shared_18 (by decide) ?_
      exact E_ireturn dX12_shared_20 rfl rfl
theorem c_X12_shared (Γ : GT) (a1 : Int32) (a2 : Int32) (a3 : Int32) (s : St)  (x : (Int32 × St)) (h : f_X12_shared a1 a2 a3 s = some x) (l : Launch) : MC l yX12_shared cX12_shared 4 (some .int) 5 WM Γ [.ref (Γ.2.1 0), .int a1, .int a2, .int a3] s (emIS x) := MC_of (by decide +kernel) (Nat.le_of_ble_eq_true rfl) (e_X12_shared Γ a1 a2 a3 s ) h l
set_option maxRecDepth 100000 in
set_option maxHeartbeats 4000000 in
theorem e_X12_chance (Γ : GT) (a1 : Int32) (a2 : Int32) (a3 : Int32) (s : St)  : E RX12 cX12_chance 4 (some .long) 5 WM Γ emLS 0 [(0, .ref (Γ.2.1 0)), (1, .int a1), (2, .int a2), (3, .int a3)] [] s (f_X12_chance a1 a2 a3 s) := by
  unfold f_X12_chance
  refine E_aload_n 0 dX12_chance_0 rfl rfl ?_
  refine E_iload_n 1 dX12_chance_1 rfl rfl ?_
  refine E_iload_n 2 dX12_chance_2 rfl rfl ?_
  refine E_callVZ (T := TX12) (ci := 12) [.int a1, .int a2] [] dX12_chance_3 rfl kw_1052 kw_1054 kp_32 kw_13 ko_X12_areTwo rfl hy_X12_areTwo rfl (by decide) (Nat.le_of_ble_eq_true rfl) rfl (by decide) rfl (c_X12_areTwo Γ a1 a2 s) (fun v1 => ?_)
  refine E_jn 18 (fun (y : Unit) => []) (fun (y : Unit) => []) (fun (y : Unit) => s) ?_ ?_
  · intro y3
    refine E_bipush (v := (-2)) dX12_chance_18 (by decide) ?_
    refine E_callSL [.int (-2)] [] dX12_chance_20 rfl kw_1125 kw_1126 kw_13 ko_X12_no hy_X12_no rfl (by decide) (Nat.le_of_ble_eq_true rfl) (c_X12_no Γ (-2) s) (fun v4 => ?_)
    exact E_lreturn dX12_chance_23 rfl rfl
  · intro K2 hK2
    refine E_ifeqb 18 dX12_chance_6 (by decide) ?_ ?_
    · refine E_lvsub [] [] rfl ?_
      exact hK2 ()
    · refine E_iload_n 3 dX12_chance_9 rfl rfl ?_
      refine E_iconst (v := 0) dX12_chance_10 (by decide) ?_
      refine E_iconst (v := 1) dX12_chance_11 (by decide) ?_
      refine E_callSZ [.int a3, .int 0, .int 1] [] dX12_chance_12 rfl kw_970 kw_971 kw_13 ko_X12_in hy_X12_in rfl (by decide) (Nat.le_of_ble_eq_true rfl) (c_X12_in Γ a3 0 1 s) (fun v5 => ?_)
      refine E_ifneb 24 dX12_chance_15 (by decide) ?_ ?_
      · refine E_aload_n 0 dX12_chance_24 rfl rfl ?_
        refine E_callVV (T := TX12) (ci := 12) [] [] dX12_chance_25 rfl kw_1044 kw_1046 kp_31 kw_13 ko_X12_lays rfl hy_X12_lays rfl (by decide) (Nat.le_of_ble_eq_true rfl) rfl (by decide) rfl (c_X12_lays Γ s) (fun s6 => ?_)
        refine E_aload_n 0 dX12_chance_28 rfl rfl ?_
        refine E_iload_n 1 dX12_chance_29 rfl rfl ?_
        refine E_iload_n 2 dX12_chance_30 rfl rfl ?_
        refine E_callVZS (T := TX12) (ci := 12) [.int a1, .int a2] [] dX12_chance_31 rfl kw_1115 kw_1117 kp_45 kw_13 ko_X12_laysChance rfl hy_X12_laysChance rfl (by decide) (Nat.le_of_ble_eq_true rfl) rfl (by decide) rfl (c_X12_laysChance Γ a1 a2 s6) (fun p7 => ?_)
        refine E_ifeqb 52 dX12_chance_34 (by decide) ?_ ?_
        · refine E_bipush (v := (-4)) dX12_chance_52 (by decide) ?_
          refine E_callSL [.int (-4)] [] dX12_chance_54 rfl kw_1125 kw_1126 kw_13 ko_X12_no hy_X12_no rfl (by decide) (Nat.le_of_ble_eq_true rfl) (c_X12_no Γ (-4) p7.2) (fun v8 => ?_)
          exact E_lreturn dX12_chance_57 rfl rfl
        · refine E_aload_n 0 dX12_chance_37 rfl rfl ?_
          refine E_getJ (j := 18) (ci := 12) (T := TX12) (C0 := RX12) (ref := "SameWrongModel") dX12_chance_38 rfl (by decide) rfl inX12 (by decide) kw_892 rfl rfl ?_
          refine E_aload_n 0 dX12_chance_41 rfl rfl ?_
          refine E_getJ (j := 19) (ci := 12) (T := TX12) (C0 := RX12) (ref := "SameWrongModel") dX12_chance_42 rfl (by decide) rfl inX12 (by decide) kw_893 rfl rfl ?_
          refine E_iload_n 3 dX12_chance_45 rfl rfl ?_
          refine E_callSL [.long (p7.2.2 0 18), .long (p7.2.2 0 19), .int a3] [] dX12_chance_46 rfl kw_1129 kw_1130 kw_13 ko_X12_lowest hy_X12_lowest rfl (by decide) (Nat.le_of_ble_eq_true rfl) (c_X12_lowest Γ (p7.2.2 0 18) (p7.2.2 0 19) a3 p7.2) (fun v9 => ?_)
          refine E_goto 57 dX12_chance_49 (by decide) ?_
          exact E_lreturn dX12_chance_57 rfl rfl
      · refine E_lvsub [] [] rfl ?_
        exact hK2 ()
theorem c_X12_chance (Γ : GT) (a1 : Int32) (a2 : Int32) (a3 : Int32) (s : St)  (x : (Int64 × St)) (h : f_X12_chance a1 a2 a3 s = some x) (l : Launch) : MC l yX12_chance cX12_chance 4 (some .long) 5 WM Γ [.ref (Γ.2.1 0), .int a1, .int a2, .int a3] s (emLS x) := MC_of (by decide +kernel) (Nat.le_of_ble_eq_true rfl) (e_X12_chance Γ a1 a2 a3 s ) h l
set_option maxRecDepth 100000 in
set_option maxHeartbeats 4000000 in
theorem e_X12_besideNow (Γ : GT)  (s : St)  : E RX12 cX12_besideNow 4 (some .int) 3 WM Γ (emI s) 0 [(0, .ref (Γ.2.1 0))] [] s (f_X12_besideNow  s) := by
  unfold f_X12_besideNow
  refine E_iconst (v := 0) dX12_besideNow_0 (by decide) ?_
  refine E_istore_n [(1, .int 0), (0, .ref (Γ.2.1 0))] dX12_besideNow_1 rfl (by decide) rfl ?_
  refine E_iconst (v := 0) dX12_besideNow_2 (by decide) ?_
  refine E_istore_n [(2, .int 0), (1, .int 0), (0, .ref (Γ.2.1 0))] dX12_besideNow_3 rfl (by decide) rfl ?_
  refine E_lp (F := L_X12_besideNow_4 s) (fun (x : Int32 × Int32) => [(2, .int x.1), (1, .int x.2), (0, .ref (Γ.2.1 0))]) (fun (x : Int32 × Int32) => s) ?_ NN (0, 0)
  intro r1 hr1 x2
  show E _ _ _ _ _ _ _ _ _ _ _ _ (L_X12_besideNow_4 s r1 x2)
  unfold L_X12_besideNow_4
  refine E_iload_n 0 dX12_besideNow_4 rfl rfl ?_
  refine E_aload_n 2 dX12_besideNow_5 rfl rfl ?_
  refine E_getI (j := 5) (ci := 12) (T := TX12) (C0 := RX12) (ref := "SameWrongModel") dX12_besideNow_6 rfl (by decide) rfl inX12 (by decide) kw_879 rfl rfl ?_
  refine E_icmpge 68 dX12_besideNow_9 (by decide) ?_ ?_
  · refine E_iload_n 1 dX12_besideNow_68 rfl rfl ?_
    exact E_ireturn dX12_besideNow_69 rfl rfl
  · refine E_iconst (v := 0) dX12_besideNow_12 (by decide) ?_
    refine E_istore_n [(3, .int 0), (2, .int x2.1), (1, .int x2.2), (0, .ref (Γ.2.1 0))] dX12_besideNow_13 rfl (by decide) rfl ?_
    refine E_lp (F := L_X12_besideNow_14 s r1 x2) (fun (x : Int32 × Int32) => [(3, .int x.1), (2, .int x2.1), (1, .int x.2), (0, .ref (Γ.2.1 0))]) (fun (x : Int32 × Int32) => s) ?_ NN (0, x2.2)
    intro r3 hr3 x4
    show E _ _ _ _ _ _ _ _ _ _ _ _ (L_X12_besideNow_14 s r1 x2 r3 x4)
    unfold L_X12_besideNow_14
    refine E_iload_n 0 dX12_besideNow_14 rfl rfl ?_
    refine E_iload_n 1 dX12_besideNow_15 rfl rfl ?_
    refine E_icmpge 62 dX12_besideNow_16 (by decide) ?_ ?_
    · refine E_iinc 1 [(2, .int (x2.1 + 1)), (3, .int x4.1), (1, .int x4.2), (0, .ref (Γ.2.1 0))] dX12_besideNow_62 rfl rfl (by decide) rfl ?_
      refine E_goto 4 dX12_besideNow_65 (by decide) ?_
      refine E_lvsub [0, 2, 3] [(2, .int (x2.1 + 1)), (1, .int x4.2), (0, .ref (Γ.2.1 0))] rfl ?_
      exact hr1 (x2.1 + 1, x4.2)
    · refine E_iload_n 2 dX12_besideNow_19 rfl rfl ?_
      refine E_aload_n 3 dX12_besideNow_20 rfl rfl ?_
      refine E_iload_n 1 dX12_besideNow_21 rfl rfl ?_
      refine E_iload_n 0 dX12_besideNow_22 rfl rfl ?_
      refine E_callVZ (T := TX12) (ci := 12) [.int x2.1, .int x4.1] [.int x4.2] dX12_besideNow_23 rfl kw_1056 kw_1058 kp_33 kw_13 ko_X12_areBeside rfl hy_X12_areBeside rfl (by decide) (Nat.le_of_ble_eq_true rfl) rfl (by decide) rfl (c_X12_areBeside Γ x2.1 x4.1 s) (fun v5 => ?_)
      refine E_ifeqb 53 dX12_besideNow_26 (by decide) ?_ ?_
      · refine E_iconst (v := 0) dX12_besideNow_53 (by decide) ?_
        refine E_iadd dX12_besideNow_54 ?_
        refine E_istore_n [(1, .int (x4.2 + 0)), (3, .int x4.1), (2, .int x2.1), (0, .ref (Γ.2.1 0))] dX12_besideNow_55 rfl (by decide) rfl ?_
        refine E_bv (fun v6 => [(1, .int v6), (3, .int x4.1), (2, .int x2.1), (0, .ref (Γ.2.1 0))]) (fun v6 => ?_) (x4.2 + 0)
        refine E_iinc 1 [(3, .int (x4.1 + 1)), (1, .int v6), (2, .int x2.1), (0, .ref (Γ.2.1 0))] dX12_besideNow_56 rfl rfl (by decide) rfl ?_
        refine E_goto 14 dX12_besideNow_59 (by decide) ?_
        refine E_lvsub [0, 2, 1, 3] [(3, .int (x4.1 + 1)), (2, .int x2.1), (1, .int v6), (0, .ref (Γ.2.1 0))] rfl ?_
        exact hr3 (x4.1 + 1, v6)
      · refine E_aload_n 3 dX12_besideNow_29 rfl rfl ?_
        refine E_getR 16 (j := 21) (ci := 12) (T := TX12) (C0 := RX12) (ref := "SameWrongModel") dX12_besideNow_30 rfl (by decide) rfl inX12 (by decide) kw_895 rfl rfl rfl ?_
        refine E_bipush (v := 10) dX12_besideNow_33 (by decide) ?_
        refine E_aload_n 3 dX12_besideNow_35 rfl rfl ?_
        refine E_getR 15 (j := 20) (ci := 12) (T := TX12) (C0 := RX12) (ref := "SameWrongModel") dX12_besideNow_36 rfl (by decide) rfl inX12 (by decide) kw_894 rfl rfl rfl ?_
        refine E_iload_n 1 dX12_besideNow_39 rfl rfl ?_
        refine E_iaload dX12_besideNow_40 rfl (by decide) ?_
        refine E_imul dX12_besideNow_41 ?_
        refine E_aload_n 3 dX12_besideNow_42 rfl rfl ?_
        refine E_getR 15 (j := 20) (ci := 12) (T := TX12) (C0 := RX12) (ref := "SameWrongModel") dX12_besideNow_43 rfl (by decide) rfl inX12 (by decide) kw_894 rfl rfl rfl ?_
        refine E_iload_n 0 dX12_besideNow_46 rfl rfl ?_
        refine E_iaload dX12_besideNow_47 rfl (by decide) ?_
        refine E_iadd dX12_besideNow_48 ?_
        refine E_iaload dX12_besideNow_49 rfl (by decide) ?_
        refine E_goto 54 dX12_besideNow_50 (by decide) ?_
        refine E_iadd dX12_besideNow_54 ?_
        refine E_istore_n [(1, .int (x4.2 + (s.1 16 ((10 * (s.1 15 x2.1.toNatClampNeg)) + (s.1 15 x4.1.toNatClampNeg)).toNatClampNeg))), (3, .int x4.1), (2, .int x2.1), (0, .ref (Γ.2.1 0))] dX12_besideNow_55 rfl (by decide) rfl ?_
        refine E_bv (fun v7 => [(1, .int v7), (3, .int x4.1), (2, .int x2.1), (0, .ref (Γ.2.1 0))]) (fun v7 => ?_) (x4.2 + (s.1 16 ((10 * (s.1 15 x2.1.toNatClampNeg)) + (s.1 15 x4.1.toNatClampNeg)).toNatClampNeg))
        refine E_iinc 1 [(3, .int (x4.1 + 1)), (1, .int v7), (2, .int x2.1), (0, .ref (Γ.2.1 0))] dX12_besideNow_56 rfl rfl (by decide) rfl ?_
        refine E_goto 14 dX12_besideNow_59 (by decide) ?_
        refine E_lvsub [0, 2, 1, 3] [(3, .int (x4.1 + 1)), (2, .int x2.1), (1, .int v7), (0, .ref (Γ.2.1 0))] rfl ?_
        exact hr3 (x4.1 + 1, v7)
theorem c_X12_besideNow (Γ : GT)  (s : St)  (x : Int32) (h : f_X12_besideNow  s = some x) (l : Launch) : MC l yX12_besideNow cX12_besideNow 4 (some .int) 3 WM Γ [.ref (Γ.2.1 0)] s ((emI s) x) := MC_of (by decide +kernel) (Nat.le_of_ble_eq_true rfl) (e_X12_besideNow Γ  s ) h l
set_option maxRecDepth 100000 in
set_option maxHeartbeats 4000000 in
theorem e_X12_turns (Γ : GT)  (s : St)  : E RX12 cX12_turns 6 (some .boolean) 1 WM Γ emZS 0 [(0, .ref (Γ.2.1 0))] [] s (f_X12_turns  s) := by
  unfold f_X12_turns
  refine E_aload_n 0 dX12_turns_0 rfl rfl ?_
  refine E_getI (j := 5) (ci := 12) (T := TX12) (C0 := RX12) (ref := "SameWrongModel") dX12_turns_1 rfl (by decide) rfl inX12 (by decide) kw_879 rfl rfl ?_
  refine E_iconst (v := 2) dX12_turns_4 (by decide) ?_
  refine E_isub dX12_turns_5 ?_
  refine E_istore_n [(1, .int ((s.1 0 5) - 2)), (0, .ref (Γ.2.1 0))] dX12_turns_6 rfl (by decide) rfl ?_
  refine E_bv (fun v1 => [(1, .int v1), (0, .ref (Γ.2.1 0))]) (fun v1 => ?_) ((s.1 0 5) - 2)
  refine E_jn 34 (fun (y : Int32) => [(1, .int y), (0, .ref (Γ.2.1 0))]) (fun (y : Int32) => []) (fun (y : Int32) => s) ?_ ?_
  · intro y3
    refine E_iload_n 0 dX12_turns_34 rfl rfl ?_
    refine E_ifge 40 dX12_turns_35 (by decide) ?_ ?_
    · refine E_aload_n 1 dX12_turns_40 rfl rfl ?_
      refine E_getI (j := 5) (ci := 12) (T := TX12) (C0 := RX12) (ref := "SameWrongModel") dX12_turns_41 rfl (by decide) rfl inX12 (by decide) kw_879 rfl rfl ?_
      refine E_iconst (v := 1) dX12_turns_44 (by decide) ?_
      refine E_isub dX12_turns_45 ?_
      refine E_istore_n [(2, .int ((s.1 0 5) - 1)), (1, .int y3), (0, .ref (Γ.2.1 0))] dX12_turns_46 rfl (by decide) rfl ?_
      refine E_bv (fun v4 => [(2, .int v4), (1, .int y3), (0, .ref (Γ.2.1 0))]) (fun v4 => ?_) ((s.1 0 5) - 1)
      refine E_jn 68 (fun (y : Int32) => [(2, .int y), (1, .int y3), (0, .ref (Γ.2.1 0))]) (fun (y : Int32) => []) (fun (y : Int32) => s) ?_ ?_
      · intro y6
        refine E_aload_n 2 dX12_turns_68 rfl rfl ?_
        refine E_getR 15 (j := 20) (ci := 12) (T := TX12) (C0 := RX12) (ref := "SameWrongModel") dX12_turns_69 rfl (by decide) rfl inX12 (by decide) kw_894 rfl rfl rfl ?_
        refine E_iload_n 1 dX12_turns_72 rfl rfl ?_
        refine E_iaload dX12_turns_73 rfl (by decide) ?_
        refine E_istore_n [(3, .int (s.1 15 y3.toNatClampNeg)), (2, .int y6), (1, .int y3), (0, .ref (Γ.2.1 0))] dX12_turns_74 rfl (by decide) rfl ?_
        refine E_bv (fun v7 => [(3, .int v7), (2, .int y6), (1, .int y3), (0, .ref (Γ.2.1 0))]) (fun v7 => ?_) (s.1 15 y3.toNatClampNeg)
        refine E_aload_n 3 dX12_turns_75 rfl rfl ?_
        refine E_getR 15 (j := 20) (ci := 12) (T := TX12) (C0 := RX12) (ref := "SameWrongModel") dX12_turns_76 rfl (by decide) rfl inX12 (by decide) kw_894 rfl rfl rfl ?_
        refine E_iload_n 2 dX12_turns_79 rfl rfl ?_
        refine E_aload_n 3 dX12_turns_80 rfl rfl ?_
        refine E_getR 15 (j := 20) (ci := 12) (T := TX12) (C0 := RX12) (ref := "SameWrongModel") dX12_turns_81 rfl (by decide) rfl inX12 (by decide) kw_894 rfl rfl rfl ?_
        refine E_iload_n 1 dX12_turns_84 rfl rfl ?_
        refine E_iaload dX12_turns_85 rfl (by decide) ?_
        refine E_iastore dX12_turns_86 rfl (by decide) ?_
        refine E_bd (fun s8 => ?_)
        refine E_aload_n 3 dX12_turns_87 rfl rfl ?_
        refine E_getR 15 (j := 20) (ci := 12) (T := TX12) (C0 := RX12) (ref := "SameWrongModel") dX12_turns_88 rfl (by decide) rfl inX12 (by decide) kw_894 rfl rfl rfl ?_
        refine E_iload_n 1 dX12_turns_91 rfl rfl ?_
        refine E_iload_n 0 dX12_turns_92 rfl rfl ?_
        refine E_iastore dX12_turns_93 rfl (by decide) ?_
        refine E_bd (fun s9 => ?_)
        refine E_iload_n 2 dX12_turns_94 rfl rfl ?_
        refine E_iconst (v := 1) dX12_turns_95 (by decide) ?_
        refine E_iadd dX12_turns_96 ?_
        refine E_istore [(4, .int (y3 + 1)), (3, .int v7), (2, .int y6), (1, .int y3), (0, .ref (Γ.2.1 0))] dX12_turns_97 (by decide) rfl ?_
        refine E_bv (fun v10 => [(4, .int v10), (3, .int v7), (2, .int y6), (1, .int y3), (0, .ref (Γ.2.1 0))]) (fun v10 => ?_) (y3 + 1)
        refine E_aload_n 4 dX12_turns_99 rfl rfl ?_
        refine E_getI (j := 5) (ci := 12) (T := TX12) (C0 := RX12) (ref := "SameWrongModel") dX12_turns_100 rfl (by decide) rfl inX12 (by decide) kw_879 rfl rfl ?_
        refine E_iconst (v := 1) dX12_turns_103 (by decide) ?_
        refine E_isub dX12_turns_104 ?_
        refine E_istore [(5, .int ((s9.1 0 5) - 1)), (4, .int v10), (3, .int v7), (2, .int y6), (1, .int y3), (0, .ref (Γ.2.1 0))] dX12_turns_105 (by decide) rfl ?_
        refine E_bv (fun v11 => [(5, .int v11), (4, .int v10), (3, .int v7), (2, .int y6), (1, .int y3), (0, .ref (Γ.2.1 0))]) (fun v11 => ?_) ((s9.1 0 5) - 1)
        refine E_lvsub [0, 1, 5] [(5, .int v11), (4, .int v10), (0, .ref (Γ.2.1 0))] rfl ?_
        refine E_lp (F := L_X12_turns_107) (fun (x : Int32 × Int32 × St) => [(5, .int x.1), (4, .int x.2.1), (0, .ref (Γ.2.1 0))]) (fun (x : Int32 × Int32 × St) => x.2.2) ?_ NN (v11, v10, s9)
        intro r12 hr12 x13
        show E _ _ _ _ _ _ _ _ _ _ _ _ (L_X12_turns_107 r12 x13)
        unfold L_X12_turns_107
        refine E_iload 1 dX12_turns_107 rfl ?_
        refine E_iload 0 dX12_turns_109 rfl ?_
        refine E_icmpge 153 dX12_turns_111 (by decide) ?_ ?_
        · refine E_iconst (v := 1) dX12_turns_153 (by decide) ?_
          exact E_zreturn (b := true) dX12_turns_154 rfl rfl
        · refine E_aload_n 2 dX12_turns_114 rfl rfl ?_
          refine E_getR 15 (j := 20) (ci := 12) (T := TX12) (C0 := RX12) (ref := "SameWrongModel") dX12_turns_115 rfl (by decide) rfl inX12 (by decide) kw_894 rfl rfl rfl ?_
          refine E_iload 1 dX12_turns_118 rfl ?_
          refine E_iaload dX12_turns_120 rfl (by decide) ?_
          refine E_istore_n [(3, .int (x13.2.2.1 15 x13.2.1.toNatClampNeg)), (5, .int x13.1), (4, .int x13.2.1), (0, .ref (Γ.2.1 0))] dX12_turns_121 rfl (by decide) rfl ?_
          refine E_bv (fun v14 => [(3, .int v14), (5, .int x13.1), (4, .int x13.2.1), (0, .ref (Γ.2.1 0))]) (fun v14 => ?_) (x13.2.2.1 15 x13.2.1.toNatClampNeg)
          refine E_aload_n 3 dX12_turns_122 rfl rfl ?_
          refine E_getR 15 (j := 20) (ci := 12) (T := TX12) (C0 := RX12) (ref := "SameWrongModel") dX12_turns_123 rfl (by decide) rfl inX12 (by decide) kw_894 rfl rfl rfl ?_
          refine E_iload 2 dX12_turns_126 rfl ?_
          refine E_aload_n 3 dX12_turns_128 rfl rfl ?_
          refine E_getR 15 (j := 20) (ci := 12) (T := TX12) (C0 := RX12) (ref := "SameWrongModel") dX12_turns_129 rfl (by decide) rfl inX12 (by decide) kw_894 rfl rfl rfl ?_
          refine E_iload 1 dX12_turns_132 rfl ?_
          refine E_iaload dX12_turns_134 rfl (by decide) ?_
          refine E_iastore dX12_turns_135 rfl (by decide) ?_
          refine E_bd (fun s15 => ?_)
          refine E_aload_n 3 dX12_turns_136 rfl rfl ?_
          refine E_getR 15 (j := 20) (ci := 12) (T := TX12) (C0 := RX12) (ref := "SameWrongModel") dX12_turns_137 rfl (by decide) rfl inX12 (by decide) kw_894 rfl rfl rfl ?_
          refine E_iload 1 dX12_turns_140 rfl ?_
          refine E_iload_n 0 dX12_turns_142 rfl rfl ?_
          refine E_iastore dX12_turns_143 rfl (by decide) ?_
          refine E_bd (fun s16 => ?_)
          refine E_iinc 2 [(4, .int (x13.2.1 + 1)), (3, .int v14), (5, .int x13.1), (0, .ref (Γ.2.1 0))] dX12_turns_144 rfl rfl (by decide) rfl ?_
          refine E_iinc 2 [(5, .int (x13.1 + (-1))), (4, .int (x13.2.1 + 1)), (3, .int v14), (0, .ref (Γ.2.1 0))] dX12_turns_147 rfl rfl (by decide) rfl ?_
          refine E_goto 107 dX12_turns_150 (by decide) ?_
          refine E_lvsub [0, 1, 3] [(5, .int (x13.1 + (-1))), (4, .int (x13.2.1 + 1)), (0, .ref (Γ.2.1 0))] rfl ?_
          exact hr12 (x13.1 + (-1), x13.2.1 + 1, s16)
      · intro K5 hK5
        refine E_lp (F := L_X12_turns_47 s y3 K5) (fun (x : Int32) => [(2, .int x), (1, .int y3), (0, .ref (Γ.2.1 0))]) (fun (x : Int32) => s) ?_ NN v4
        intro r17 hr17 x18
        show E _ _ _ _ _ _ _ _ _ _ _ _ (L_X12_turns_47 s y3 K5 r17 x18)
        unfold L_X12_turns_47
        refine E_aload_n 2 dX12_turns_47 rfl rfl ?_
        refine E_getR 15 (j := 20) (ci := 12) (T := TX12) (C0 := RX12) (ref := "SameWrongModel") dX12_turns_48 rfl (by decide) rfl inX12 (by decide) kw_894 rfl rfl rfl ?_
        refine E_iload_n 0 dX12_turns_51 rfl rfl ?_
        refine E_iaload dX12_turns_52 rfl (by decide) ?_
        refine E_aload_n 2 dX12_turns_53 rfl rfl ?_
        refine E_getR 15 (j := 20) (ci := 12) (T := TX12) (C0 := RX12) (ref := "SameWrongModel") dX12_turns_54 rfl (by decide) rfl inX12 (by decide) kw_894 rfl rfl rfl ?_
        refine E_iload_n 1 dX12_turns_57 rfl rfl ?_
        refine E_iaload dX12_turns_58 rfl (by decide) ?_
        refine E_icmpge 68 dX12_turns_59 (by decide) ?_ ?_
        · exact hK5 x18
        · refine E_iinc 0 [(2, .int (x18 + (-1))), (1, .int y3), (0, .ref (Γ.2.1 0))] dX12_turns_62 rfl rfl (by decide) rfl ?_
          refine E_goto 47 dX12_turns_65 (by decide) ?_
          exact hr17 (x18 + (-1))
    · refine E_iconst (v := 0) dX12_turns_38 (by decide) ?_
      exact E_zreturn (b := false) dX12_turns_39 rfl rfl
  · intro K2 hK2
    refine E_lp (F := L_X12_turns_7 s K2) (fun (x : Int32) => [(1, .int x), (0, .ref (Γ.2.1 0))]) (fun (x : Int32) => s) ?_ NN v1
    intro r19 hr19 x20
    show E _ _ _ _ _ _ _ _ _ _ _ _ (L_X12_turns_7 s K2 r19 x20)
    unfold L_X12_turns_7
    refine E_iload_n 0 dX12_turns_7 rfl rfl ?_
    refine E_iflt 34 dX12_turns_8 (by decide) ?_ ?_
    · exact hK2 x20
    · refine E_aload_n 1 dX12_turns_11 rfl rfl ?_
      refine E_getR 15 (j := 20) (ci := 12) (T := TX12) (C0 := RX12) (ref := "SameWrongModel") dX12_turns_12 rfl (by decide) rfl inX12 (by decide) kw_894 rfl rfl rfl ?_
      refine E_iload_n 0 dX12_turns_15 rfl rfl ?_
      refine E_iaload dX12_turns_16 rfl (by decide) ?_
      refine E_aload_n 1 dX12_turns_17 rfl rfl ?_
      refine E_getR 15 (j := 20) (ci := 12) (T := TX12) (C0 := RX12) (ref := "SameWrongModel") dX12_turns_18 rfl (by decide) rfl inX12 (by decide) kw_894 rfl rfl rfl ?_
      refine E_iload_n 0 dX12_turns_21 rfl rfl ?_
      refine E_iconst (v := 1) dX12_turns_22 (by decide) ?_
      refine E_iadd dX12_turns_23 ?_
      refine E_iaload dX12_turns_24 rfl (by decide) ?_
      refine E_icmple 34 dX12_turns_25 (by decide) ?_ ?_
      · exact hK2 x20
      · refine E_iinc 0 [(1, .int (x20 + (-1))), (0, .ref (Γ.2.1 0))] dX12_turns_28 rfl rfl (by decide) rfl ?_
        refine E_goto 7 dX12_turns_31 (by decide) ?_
        exact hr19 (x20 + (-1))
theorem c_X12_turns (Γ : GT)  (s : St)  (x : (Bool × St)) (h : f_X12_turns  s = some x) (l : Launch) : MC l yX12_turns cX12_turns 6 (some .boolean) 1 WM Γ [.ref (Γ.2.1 0)] s (emZS x) := MC_of (by decide +kernel) (Nat.le_of_ble_eq_true rfl) (e_X12_turns Γ  s ) h l
set_option maxRecDepth 100000 in
set_option maxHeartbeats 4000000 in
theorem e_X12_seatsNow (Γ : GT) (a1 : Int32) (s : St)  : E RX12 cX12_seatsNow 8 (some .int) 4 WM Γ emIS 0 [(0, .ref (Γ.2.1 0)), (1, .int a1)] [] s (f_X12_seatsNow a1 s) := by
  unfold f_X12_seatsNow
  refine E_iconst (v := 0) dX12_seatsNow_0 (by decide) ?_
  refine E_istore_n [(2, .int 0), (0, .ref (Γ.2.1 0)), (1, .int a1)] dX12_seatsNow_1 rfl (by decide) rfl ?_
  refine E_jn 65 (fun (y : St) => [(0, .ref (Γ.2.1 0)), (1, .int a1)]) (fun (y : St) => []) (fun (y : St) => y) ?_ ?_
  · intro y2
    refine E_aload_n 0 dX12_seatsNow_65 rfl rfl ?_
    refine E_callVI (T := TX12) (ci := 12) [] [] dX12_seatsNow_66 rfl kw_1140 kw_1142 kp_47 kw_13 ko_X12_besideNow rfl hy_X12_besideNow rfl (by decide) (Nat.le_of_ble_eq_true rfl) rfl (by decide) rfl (c_X12_besideNow Γ y2) (fun v3 => ?_)
    refine E_istore_n [(2, .int v3), (0, .ref (Γ.2.1 0)), (1, .int a1)] dX12_seatsNow_69 rfl (by decide) rfl ?_
    refine E_iload_n 2 dX12_seatsNow_70 rfl rfl ?_
    refine E_ifne 76 dX12_seatsNow_71 (by decide) ?_ ?_
    · refine E_aload_n 1 dX12_seatsNow_76 rfl rfl ?_
      refine E_getI (j := 5) (ci := 12) (T := TX12) (C0 := RX12) (ref := "SameWrongModel") dX12_seatsNow_77 rfl (by decide) rfl inX12 (by decide) kw_879 rfl rfl ?_
      refine E_bipush (v := 7) dX12_seatsNow_80 (by decide) ?_
      refine E_icmple 88 dX12_seatsNow_82 (by decide) ?_ ?_
      · refine E_lconst (v := 0) dX12_seatsNow_88 rfl ?_
        refine E_lstore_n [(3, .long 0), (2, .int v3), (0, .ref (Γ.2.1 0)), (1, .int a1)] dX12_seatsNow_89 rfl (by decide) rfl ?_
        refine E_lconst (v := 0) dX12_seatsNow_90 rfl ?_
        refine E_lstore [(5, .long 0), (3, .long 0), (2, .int v3), (0, .ref (Γ.2.1 0)), (1, .int a1)] dX12_seatsNow_91 (by decide) rfl ?_
        refine E_iconst (v := 1) dX12_seatsNow_93 (by decide) ?_
        refine E_istore [(7, .int 1), (5, .long 0), (3, .long 0), (2, .int v3), (0, .ref (Γ.2.1 0)), (1, .int a1)] dX12_seatsNow_94 (by decide) rfl ?_
        refine E_jn 132 (fun (y : Int64 × Int64 × St) => [(5, .long y.1), (3, .long y.2.1)]) (fun (y : Int64 × Int64 × St) => []) (fun (y : Int64 × Int64 × St) => y.2.2) ?_ ?_
        · intro y5
          refine E_ldc2 (v := 1000000) dX12_seatsNow_132 kw_1148 ?_
          refine E_lload 0 dX12_seatsNow_135 rfl ?_
          refine E_lmul dX12_seatsNow_137 ?_
          refine E_lload_n 1 dX12_seatsNow_138 rfl rfl ?_
          refine E_ldiv dX12_seatsNow_139 ?_
          refine E_l2i dX12_seatsNow_140 ?_
          exact E_ireturn dX12_seatsNow_141 rfl rfl
        · intro K4 hK4
          refine E_lvsub [0, 1, 2, 3, 4] [(7, .int 1), (5, .long 0), (3, .long 0), (2, .int v3), (0, .ref (Γ.2.1 0))] rfl ?_
          refine E_lp (F := L_X12_seatsNow_96 v3 K4) (fun (x : Int32 × Int64 × Int64 × St) => [(7, .int x.1), (5, .long x.2.1), (3, .long x.2.2.1), (2, .int v3), (0, .ref (Γ.2.1 0))]) (fun (x : Int32 × Int64 × Int64 × St) => x.2.2.2) ?_ NN (1, 0, 0, y2)
          intro r6 hr6 x7
          show E _ _ _ _ _ _ _ _ _ _ _ _ (L_X12_seatsNow_96 v3 K4 r6 x7)
          unfold L_X12_seatsNow_96
          refine E_iload 0 dX12_seatsNow_96 rfl ?_
          refine E_ifeq 132 dX12_seatsNow_98 (by decide) ?_ ?_
          · refine E_lvsub [1, 2] [(5, .long x7.2.1), (3, .long x7.2.2.1)] rfl ?_
            exact hK4 (x7.2.1, x7.2.2.1, x7.2.2.2)
          · refine E_lload_n 2 dX12_seatsNow_101 rfl rfl ?_
            refine E_lconst (v := 1) dX12_seatsNow_102 rfl ?_
            refine E_ladd dX12_seatsNow_103 ?_
            refine E_lstore_n [(3, .long (x7.2.2.1 + 1)), (7, .int x7.1), (5, .long x7.2.1), (2, .int v3), (0, .ref (Γ.2.1 0))] dX12_seatsNow_104 rfl (by decide) rfl ?_
            refine E_bl (fun v8 => [(3, .long v8), (7, .int x7.1), (5, .long x7.2.1), (2, .int v3), (0, .ref (Γ.2.1 0))]) (fun v8 => ?_) (x7.2.2.1 + 1)
            refine E_lload 2 dX12_seatsNow_105 rfl ?_
            refine E_aload_n 4 dX12_seatsNow_107 rfl rfl ?_
            refine E_callVI (T := TX12) (ci := 12) [] [.long x7.2.1] dX12_seatsNow_108 rfl kw_1140 kw_1142 kp_47 kw_13 ko_X12_besideNow rfl hy_X12_besideNow rfl (by decide) (Nat.le_of_ble_eq_true rfl) rfl (by decide) rfl (c_X12_besideNow Γ x7.2.2.2) (fun v9 => ?_)
            refine E_iload_n 3 dX12_seatsNow_111 rfl rfl ?_
            refine E_jn 120 (fun (y : Int64) => [(3, .long v8), (2, .int v3), (0, .ref (Γ.2.1 0))]) (fun (y : Int64) => [.long y, .long x7.2.1]) (fun (y : Int64) => x7.2.2.2) ?_ ?_
            · intro y11
              refine E_ladd dX12_seatsNow_120 ?_
              refine E_lstore [(5, .long (x7.2.1 + y11)), (3, .long v8), (2, .int v3), (0, .ref (Γ.2.1 0))] dX12_seatsNow_121 (by decide) rfl ?_
              refine E_bl (fun v12 => [(5, .long v12), (3, .long v8), (2, .int v3), (0, .ref (Γ.2.1 0))]) (fun v12 => ?_) (x7.2.1 + y11)
              refine E_aload_n 3 dX12_seatsNow_123 rfl rfl ?_
              refine E_callVZS (T := TX12) (ci := 12) [] [] dX12_seatsNow_124 rfl kw_1144 kw_1146 kp_48 kw_13 ko_X12_turns rfl hy_X12_turns rfl (by decide) (Nat.le_of_ble_eq_true rfl) rfl (by decide) rfl (c_X12_turns Γ x7.2.2.2) (fun p13 => ?_)
              refine E_istore [(7, .int (bI p13.1)), (5, .long v12), (3, .long v8), (2, .int v3), (0, .ref (Γ.2.1 0))] dX12_seatsNow_127 (by decide) rfl ?_
              refine E_goto 96 dX12_seatsNow_129 (by decide) ?_
              exact hr6 ((bI p13.1), v12, v8, p13.2)
            · intro K10 hK10
              refine E_icmplt 119 dX12_seatsNow_112 (by decide) ?_ ?_
              · refine E_lconst (v := 0) dX12_seatsNow_119 rfl ?_
                refine E_lvsub [0, 3, 4] [(3, .long v8), (2, .int v3), (0, .ref (Γ.2.1 0))] rfl ?_
                exact hK10 0
              · refine E_lconst (v := 1) dX12_seatsNow_115 rfl ?_
                refine E_goto 120 dX12_seatsNow_116 (by decide) ?_
                refine E_lvsub [0, 3, 4] [(3, .long v8), (2, .int v3), (0, .ref (Γ.2.1 0))] rfl ?_
                exact hK10 1
      · refine E_bipush (v := (-4)) dX12_seatsNow_85 (by decide) ?_
        exact E_ireturn dX12_seatsNow_87 rfl rfl
    · refine E_iload_n 0 dX12_seatsNow_74 rfl rfl ?_
      exact E_ireturn dX12_seatsNow_75 rfl rfl
  · intro K1 hK1
    refine E_lp (F := L_X12_seatsNow_2 K1) (fun (x : Int32 × St) => [(2, .int x.1), (0, .ref (Γ.2.1 0)), (1, .int a1)]) (fun (x : Int32 × St) => x.2) ?_ NN (0, s)
    intro r14 hr14 x15
    show E _ _ _ _ _ _ _ _ _ _ _ _ (L_X12_seatsNow_2 K1 r14 x15)
    unfold L_X12_seatsNow_2
    refine E_iload_n 0 dX12_seatsNow_2 rfl rfl ?_
    refine E_aload_n 1 dX12_seatsNow_3 rfl rfl ?_
    refine E_getI (j := 5) (ci := 12) (T := TX12) (C0 := RX12) (ref := "SameWrongModel") dX12_seatsNow_4 rfl (by decide) rfl inX12 (by decide) kw_879 rfl rfl ?_
    refine E_icmpge 65 dX12_seatsNow_7 (by decide) ?_ ?_
    · refine E_lvsub [1, 2] [(0, .ref (Γ.2.1 0)), (1, .int a1)] rfl ?_
      exact hK1 x15.2
    · refine E_aload_n 1 dX12_seatsNow_10 rfl rfl ?_
      refine E_getR 15 (j := 20) (ci := 12) (T := TX12) (C0 := RX12) (ref := "SameWrongModel") dX12_seatsNow_11 rfl (by decide) rfl inX12 (by decide) kw_894 rfl rfl rfl ?_
      refine E_iload_n 0 dX12_seatsNow_14 rfl rfl ?_
      refine E_iload_n 0 dX12_seatsNow_15 rfl rfl ?_
      refine E_iastore dX12_seatsNow_16 rfl (by decide) ?_
      refine E_bd (fun s16 => ?_)
      refine E_iconst (v := 0) dX12_seatsNow_17 (by decide) ?_
      refine E_istore_n [(3, .int 0), (2, .int x15.1), (0, .ref (Γ.2.1 0)), (1, .int a1)] dX12_seatsNow_18 rfl (by decide) rfl ?_
      refine E_lp (F := L_X12_seatsNow_19 r14 x15) (fun (x : Int32 × St) => [(3, .int x.1), (2, .int x15.1), (0, .ref (Γ.2.1 0)), (1, .int a1)]) (fun (x : Int32 × St) => x.2) ?_ NN (0, s16)
      intro r17 hr17 x18
      show E _ _ _ _ _ _ _ _ _ _ _ _ (L_X12_seatsNow_19 r14 x15 r17 x18)
      unfold L_X12_seatsNow_19
      refine E_iload_n 0 dX12_seatsNow_19 rfl rfl ?_
      refine E_aload_n 2 dX12_seatsNow_20 rfl rfl ?_
      refine E_getI (j := 5) (ci := 12) (T := TX12) (C0 := RX12) (ref := "SameWrongModel") dX12_seatsNow_21 rfl (by decide) rfl inX12 (by decide) kw_879 rfl rfl ?_
      refine E_icmpge 59 dX12_seatsNow_24 (by decide) ?_ ?_
      · refine E_iinc 1 [(2, .int (x15.1 + 1)), (3, .int x18.1), (0, .ref (Γ.2.1 0)), (1, .int a1)] dX12_seatsNow_59 rfl rfl (by decide) rfl ?_
        refine E_goto 2 dX12_seatsNow_62 (by decide) ?_
        refine E_lvsub [0, 2, 3] [(2, .int (x15.1 + 1)), (0, .ref (Γ.2.1 0)), (1, .int a1)] rfl ?_
        exact hr14 (x15.1 + 1, x18.2)
      · refine E_aload_n 2 dX12_seatsNow_27 rfl rfl ?_
        refine E_getR 16 (j := 21) (ci := 12) (T := TX12) (C0 := RX12) (ref := "SameWrongModel") dX12_seatsNow_28 rfl (by decide) rfl inX12 (by decide) kw_895 rfl rfl rfl ?_
        refine E_bipush (v := 10) dX12_seatsNow_31 (by decide) ?_
        refine E_iload_n 1 dX12_seatsNow_33 rfl rfl ?_
        refine E_imul dX12_seatsNow_34 ?_
        refine E_iload_n 0 dX12_seatsNow_35 rfl rfl ?_
        refine E_iadd dX12_seatsNow_36 ?_
        refine E_iload_n 1 dX12_seatsNow_37 rfl rfl ?_
        refine E_iload_n 0 dX12_seatsNow_38 rfl rfl ?_
        refine E_jn 52 (fun (y : Int32) => [(3, .int x18.1), (2, .int x15.1), (0, .ref (Γ.2.1 0)), (1, .int a1)]) (fun (y : Int32) => [.int y, .int ((10 * x15.1) + x18.1), .ref (Γ.2.1 16)]) (fun (y : Int32) => x18.2) ?_ ?_
        · intro y20
          refine E_iastore dX12_seatsNow_52 rfl (by decide) ?_
          refine E_bd (fun s21 => ?_)
          refine E_iinc 0 [(3, .int (x18.1 + 1)), (2, .int x15.1), (0, .ref (Γ.2.1 0)), (1, .int a1)] dX12_seatsNow_53 rfl rfl (by decide) rfl ?_
          refine E_goto 19 dX12_seatsNow_56 (by decide) ?_
          exact hr17 (x18.1 + 1, s21)
        · intro K19 hK19
          refine E_icmpne 46 dX12_seatsNow_39 (by decide) ?_ ?_
          · refine E_aload_n 2 dX12_seatsNow_46 rfl rfl ?_
            refine E_iload_n 1 dX12_seatsNow_47 rfl rfl ?_
            refine E_iload_n 0 dX12_seatsNow_48 rfl rfl ?_
            refine E_callVI (T := TX12) (ci := 12) [.int x15.1, .int x18.1] [.int ((10 * x15.1) + x18.1), .ref (Γ.2.1 16)] dX12_seatsNow_49 rfl kw_1103 kw_1105 kp_42 kw_13 ko_X12_sharedOf rfl hy_X12_sharedOf rfl (by decide) (Nat.le_of_ble_eq_true rfl) rfl (by decide) rfl (c_X12_sharedOf Γ x15.1 x18.1 x18.2) (fun v22 => ?_)
            exact hK19 v22
          · refine E_iconst (v := 0) dX12_seatsNow_42 (by decide) ?_
            refine E_goto 52 dX12_seatsNow_43 (by decide) ?_
            exact hK19 0
theorem c_X12_seatsNow (Γ : GT) (a1 : Int32) (s : St)  (x : (Int32 × St)) (h : f_X12_seatsNow a1 s = some x) (l : Launch) : MC l yX12_seatsNow cX12_seatsNow 8 (some .int) 4 WM Γ [.ref (Γ.2.1 0), .int a1] s (emIS x) := MC_of (by decide +kernel) (Nat.le_of_ble_eq_true rfl) (e_X12_seatsNow Γ a1 s ) h l
set_option maxRecDepth 100000 in
set_option maxHeartbeats 4000000 in
theorem e_X12_seats (Γ : GT) (a1 : Int32) (s : St)  : E RX12 cX12_seats 2 (some .int) 5 WM Γ emIS 0 [(0, .ref (Γ.2.1 0)), (1, .int a1)] [] s (f_X12_seats a1 s) := by
  unfold f_X12_seats
  refine E_iload_n 1 dX12_seats_0 rfl rfl ?_
  refine E_iconst (v := 0) dX12_seats_1 (by decide) ?_
  refine E_iconst (v := 1) dX12_seats_2 (by decide) ?_
  refine E_callSZ [.int a1, .int 0, .int 1] [] dX12_seats_3 rfl kw_970 kw_971 kw_13 ko_X12_in hy_X12_in rfl (by decide) (Nat.le_of_ble_eq_true rfl) (c_X12_in Γ a1 0 1 s) (fun v1 => ?_)
  refine E_ifneb 12 dX12_seats_6 (by decide) ?_ ?_
  · refine E_aload_n 0 dX12_seats_12 rfl rfl ?_
    refine E_callVV (T := TX12) (ci := 12) [] [] dX12_seats_13 rfl kw_1044 kw_1046 kp_31 kw_13 ko_X12_lays rfl hy_X12_lays rfl (by decide) (Nat.le_of_ble_eq_true rfl) rfl (by decide) rfl (c_X12_lays Γ s) (fun s2 => ?_)
    refine E_aload_n 0 dX12_seats_16 rfl rfl ?_
    refine E_iload_n 1 dX12_seats_17 rfl rfl ?_
    refine E_callVIS (T := TX12) (ci := 12) [.int a1] [] dX12_seats_18 rfl kw_1136 kw_1138 kp_46 kw_13 ko_X12_seatsNow rfl hy_X12_seatsNow rfl (by decide) (Nat.le_of_ble_eq_true rfl) rfl (by decide) rfl (c_X12_seatsNow Γ a1 s2) (fun p3 => ?_)
    exact E_ireturn dX12_seats_21 rfl rfl
  · refine E_bipush (v := (-2)) dX12_seats_9 (by decide) ?_
    exact E_ireturn dX12_seats_11 rfl rfl
theorem c_X12_seats (Γ : GT) (a1 : Int32) (s : St)  (x : (Int32 × St)) (h : f_X12_seats a1 s = some x) (l : Launch) : MC l yX12_seats cX12_seats 2 (some .int) 5 WM Γ [.ref (Γ.2.1 0), .int a1] s (emIS x) := MC_of (by decide +kernel) (Nat.le_of_ble_eq_true rfl) (e_X12_seats Γ a1 s ) h l
set_option maxRecDepth 100000 in
set_option maxHeartbeats 4000000 in
theorem e_X12_laysPairs (Γ : GT)  (s : St)  : E RX12 cX12_laysPairs 3 none 5 WM Γ emV 0 [(0, .ref (Γ.2.1 0))] [] s (f_X12_laysPairs  s) := by
  unfold f_X12_laysPairs
  refine E_iconst (v := 0) dX12_laysPairs_0 (by decide) ?_
  refine E_istore_n [(1, .int 0), (0, .ref (Γ.2.1 0))] dX12_laysPairs_1 rfl (by decide) rfl ?_
  refine E_lp (F := L_X12_laysPairs_2) (fun (x : Int32 × St) => [(1, .int x.1), (0, .ref (Γ.2.1 0))]) (fun (x : Int32 × St) => x.2) ?_ NN (0, s)
  intro r1 hr1 x2
  show E _ _ _ _ _ _ _ _ _ _ _ _ (L_X12_laysPairs_2 r1 x2)
  unfold L_X12_laysPairs_2
  refine E_iload_n 0 dX12_laysPairs_2 rfl rfl ?_
  refine E_aload_n 1 dX12_laysPairs_3 rfl rfl ?_
  refine E_getI (j := 5) (ci := 12) (T := TX12) (C0 := RX12) (ref := "SameWrongModel") dX12_laysPairs_4 rfl (by decide) rfl inX12 (by decide) kw_879 rfl rfl ?_
  refine E_icmpge 63 dX12_laysPairs_7 (by decide) ?_ ?_
  · exact E_return dX12_laysPairs_63 rfl rfl
  · refine E_iconst (v := 0) dX12_laysPairs_10 (by decide) ?_
    refine E_istore_n [(2, .int 0), (1, .int x2.1), (0, .ref (Γ.2.1 0))] dX12_laysPairs_11 rfl (by decide) rfl ?_
    refine E_lp (F := L_X12_laysPairs_12 r1 x2) (fun (x : Int32 × St) => [(2, .int x.1), (1, .int x2.1), (0, .ref (Γ.2.1 0))]) (fun (x : Int32 × St) => x.2) ?_ NN (0, x2.2)
    intro r3 hr3 x4
    show E _ _ _ _ _ _ _ _ _ _ _ _ (L_X12_laysPairs_12 r1 x2 r3 x4)
    unfold L_X12_laysPairs_12
    refine E_iload_n 0 dX12_laysPairs_12 rfl rfl ?_
    refine E_iload_n 1 dX12_laysPairs_13 rfl rfl ?_
    refine E_icmpge 57 dX12_laysPairs_14 (by decide) ?_ ?_
    · refine E_iinc 1 [(1, .int (x2.1 + 1)), (2, .int x4.1), (0, .ref (Γ.2.1 0))] dX12_laysPairs_57 rfl rfl (by decide) rfl ?_
      refine E_goto 2 dX12_laysPairs_60 (by decide) ?_
      refine E_lvsub [0, 2] [(1, .int (x2.1 + 1)), (0, .ref (Γ.2.1 0))] rfl ?_
      exact hr1 (x2.1 + 1, x4.2)
    · refine E_aload_n 2 dX12_laysPairs_17 rfl rfl ?_
      refine E_getR 17 (j := 22) (ci := 12) (T := TX12) (C0 := RX12) (ref := "SameWrongModel") dX12_laysPairs_18 rfl (by decide) rfl inX12 (by decide) kw_896 rfl rfl rfl ?_
      refine E_bipush (v := 10) dX12_laysPairs_21 (by decide) ?_
      refine E_iload_n 1 dX12_laysPairs_23 rfl rfl ?_
      refine E_imul dX12_laysPairs_24 ?_
      refine E_iload_n 0 dX12_laysPairs_25 rfl rfl ?_
      refine E_iadd dX12_laysPairs_26 ?_
      refine E_aload_n 2 dX12_laysPairs_27 rfl rfl ?_
      refine E_iload_n 1 dX12_laysPairs_28 rfl rfl ?_
      refine E_iload_n 0 dX12_laysPairs_29 rfl rfl ?_
      refine E_callVZ (T := TX12) (ci := 12) [.int x2.1, .int x4.1] [.int ((10 * x2.1) + x4.1), .ref (Γ.2.1 17)] dX12_laysPairs_30 rfl kw_1056 kw_1058 kp_33 kw_13 ko_X12_areBeside rfl hy_X12_areBeside rfl (by decide) (Nat.le_of_ble_eq_true rfl) rfl (by decide) rfl (c_X12_areBeside Γ x2.1 x4.1 x4.2) (fun v5 => ?_)
      refine E_jn 50 (fun (y : Bool × St) => [(2, .int x4.1), (1, .int x2.1), (0, .ref (Γ.2.1 0))]) (fun (y : Bool × St) => [.int (bI y.1), .int ((10 * x2.1) + x4.1), .ref (Γ.2.1 17)]) (fun (y : Bool × St) => y.2) ?_ ?_
      · intro y7
        refine E_iastore dX12_laysPairs_50 rfl (by decide) ?_
        refine E_bd (fun s8 => ?_)
        refine E_iinc 0 [(2, .int (x4.1 + 1)), (1, .int x2.1), (0, .ref (Γ.2.1 0))] dX12_laysPairs_51 rfl rfl (by decide) rfl ?_
        refine E_goto 12 dX12_laysPairs_54 (by decide) ?_
        exact hr3 (x4.1 + 1, s8)
      · intro K6 hK6
        refine E_ifeqb 49 dX12_laysPairs_33 (by decide) ?_ ?_
        · refine E_iconst (v := 0) dX12_laysPairs_49 (by decide) ?_
          exact hK6 (false, x4.2)
        · refine E_aload_n 2 dX12_laysPairs_36 rfl rfl ?_
          refine E_iload_n 1 dX12_laysPairs_37 rfl rfl ?_
          refine E_iload_n 0 dX12_laysPairs_38 rfl rfl ?_
          refine E_callVZS (T := TX12) (ci := 12) [.int x2.1, .int x4.1] [.int ((10 * x2.1) + x4.1), .ref (Γ.2.1 17)] dX12_laysPairs_39 rfl kw_1111 kw_1113 kp_44 kw_13 ko_X12_areOdd rfl hy_X12_areOdd rfl (by decide) (Nat.le_of_ble_eq_true rfl) rfl (by decide) rfl (c_X12_areOdd Γ x2.1 x4.1 x4.2) (fun p9 => ?_)
          refine E_ifeqb 49 dX12_laysPairs_42 (by decide) ?_ ?_
          · refine E_iconst (v := 0) dX12_laysPairs_49 (by decide) ?_
            exact hK6 (false, p9.2)
          · refine E_iconst (v := 1) dX12_laysPairs_45 (by decide) ?_
            refine E_goto 50 dX12_laysPairs_46 (by decide) ?_
            exact hK6 (true, p9.2)
theorem c_X12_laysPairs (Γ : GT)  (s : St)  (x : St) (h : f_X12_laysPairs  s = some x) (l : Launch) : MC l yX12_laysPairs cX12_laysPairs 3 none 5 WM Γ [.ref (Γ.2.1 0)] s (emV x) := MC_of (by decide +kernel) (Nat.le_of_ble_eq_true rfl) (e_X12_laysPairs Γ  s ) h l
set_option maxRecDepth 100000 in
set_option maxHeartbeats 4000000 in
theorem e_X12_isPair (Γ : GT) (a1 : Int32) (a2 : Int32) (s : St)  : E RX12 cX12_isPair 3 (some .boolean) 1 WM Γ (emZ s) 0 [(0, .ref (Γ.2.1 0)), (1, .int a1), (2, .int a2)] [] s (f_X12_isPair a1 a2 s) := by
  unfold f_X12_isPair
  refine E_iload_n 1 dX12_isPair_0 rfl rfl ?_
  refine E_iload_n 2 dX12_isPair_1 rfl rfl ?_
  refine E_icmple 28 dX12_isPair_2 (by decide) ?_ ?_
  · refine E_iload_n 1 dX12_isPair_28 rfl rfl ?_
    refine E_iload_n 2 dX12_isPair_29 rfl rfl ?_
    refine E_icmpge 52 dX12_isPair_30 (by decide) ?_ ?_
    · refine E_iconst (v := 0) dX12_isPair_52 (by decide) ?_
      exact E_zreturn (b := false) dX12_isPair_53 rfl rfl
    · refine E_aload_n 0 dX12_isPair_33 rfl rfl ?_
      refine E_getR 17 (j := 22) (ci := 12) (T := TX12) (C0 := RX12) (ref := "SameWrongModel") dX12_isPair_34 rfl (by decide) rfl inX12 (by decide) kw_896 rfl rfl rfl ?_
      refine E_bipush (v := 10) dX12_isPair_37 (by decide) ?_
      refine E_iload_n 2 dX12_isPair_39 rfl rfl ?_
      refine E_imul dX12_isPair_40 ?_
      refine E_iload_n 1 dX12_isPair_41 rfl rfl ?_
      refine E_iadd dX12_isPair_42 ?_
      refine E_iaload dX12_isPair_43 rfl (by decide) ?_
      refine E_iconst (v := 1) dX12_isPair_44 (by decide) ?_
      refine E_icmpne 52 dX12_isPair_45 (by decide) ?_ ?_
      · refine E_iconst (v := 0) dX12_isPair_52 (by decide) ?_
        exact E_zreturn (b := false) dX12_isPair_53 rfl rfl
      · refine E_iconst (v := 1) dX12_isPair_48 (by decide) ?_
        refine E_goto 53 dX12_isPair_49 (by decide) ?_
        exact E_zreturn (b := true) dX12_isPair_53 rfl rfl
  · refine E_aload_n 0 dX12_isPair_5 rfl rfl ?_
    refine E_getR 17 (j := 22) (ci := 12) (T := TX12) (C0 := RX12) (ref := "SameWrongModel") dX12_isPair_6 rfl (by decide) rfl inX12 (by decide) kw_896 rfl rfl rfl ?_
    refine E_bipush (v := 10) dX12_isPair_9 (by decide) ?_
    refine E_iload_n 1 dX12_isPair_11 rfl rfl ?_
    refine E_imul dX12_isPair_12 ?_
    refine E_iload_n 2 dX12_isPair_13 rfl rfl ?_
    refine E_iadd dX12_isPair_14 ?_
    refine E_iaload dX12_isPair_15 rfl (by decide) ?_
    refine E_iconst (v := 1) dX12_isPair_16 (by decide) ?_
    refine E_icmpne 24 dX12_isPair_17 (by decide) ?_ ?_
    · refine E_iconst (v := 0) dX12_isPair_24 (by decide) ?_
      refine E_goto 53 dX12_isPair_25 (by decide) ?_
      exact E_zreturn (b := false) dX12_isPair_53 rfl rfl
    · refine E_iconst (v := 1) dX12_isPair_20 (by decide) ?_
      refine E_goto 53 dX12_isPair_21 (by decide) ?_
      exact E_zreturn (b := true) dX12_isPair_53 rfl rfl
theorem c_X12_isPair (Γ : GT) (a1 : Int32) (a2 : Int32) (s : St)  (x : Bool) (h : f_X12_isPair a1 a2 s = some x) (l : Launch) : MC l yX12_isPair cX12_isPair 3 (some .boolean) 1 WM Γ [.ref (Γ.2.1 0), .int a1, .int a2] s ((emZ s) x) := MC_of (by decide +kernel) (Nat.le_of_ble_eq_true rfl) (e_X12_isPair Γ a1 a2 s ) h l
set_option maxRecDepth 100000 in
set_option maxHeartbeats 4000000 in
theorem e_X12_sourcesNow (Γ : GT)  (s : St)  : E RX12 cX12_sourcesNow 6 (some .int) 6 WM Γ emIS 0 [(0, .ref (Γ.2.1 0))] [] s (f_X12_sourcesNow  s) := by
  unfold f_X12_sourcesNow
  refine E_aload_n 0 dX12_sourcesNow_0 rfl rfl ?_
  refine E_callVV (T := TX12) (ci := 12) [] [] dX12_sourcesNow_1 rfl kw_1157 kw_1159 kp_50 kw_13 ko_X12_laysPairs rfl hy_X12_laysPairs rfl (by decide) (Nat.le_of_ble_eq_true rfl) rfl (by decide) rfl (c_X12_laysPairs Γ s) (fun s1 => ?_)
  refine E_iconst (v := (-1)) dX12_sourcesNow_4 (by decide) ?_
  refine E_istore_n [(1, .int (-1)), (0, .ref (Γ.2.1 0))] dX12_sourcesNow_5 rfl (by decide) rfl ?_
  refine E_iconst (v := 0) dX12_sourcesNow_6 (by decide) ?_
  refine E_istore_n [(2, .int 0), (1, .int (-1)), (0, .ref (Γ.2.1 0))] dX12_sourcesNow_7 rfl (by decide) rfl ?_
  refine E_lp (F := L_X12_sourcesNow_8 s1) (fun (x : Int32 × Int32) => [(2, .int x.1), (1, .int x.2), (0, .ref (Γ.2.1 0))]) (fun (x : Int32 × Int32) => s1) ?_ NN (0, (-1))
  intro r2 hr2 x3
  show E _ _ _ _ _ _ _ _ _ _ _ _ (L_X12_sourcesNow_8 s1 r2 x3)
  unfold L_X12_sourcesNow_8
  refine E_iload_n 0 dX12_sourcesNow_8 rfl rfl ?_
  refine E_iconst (v := 1) dX12_sourcesNow_9 (by decide) ?_
  refine E_aload_n 2 dX12_sourcesNow_10 rfl rfl ?_
  refine E_getI (j := 5) (ci := 12) (T := TX12) (C0 := RX12) (ref := "SameWrongModel") dX12_sourcesNow_11 rfl (by decide) rfl inX12 (by decide) kw_879 rfl rfl ?_
  refine E_ishl dX12_sourcesNow_14 ?_
  refine E_icmpge 133 dX12_sourcesNow_15 (by decide) ?_ ?_
  · refine E_iload_n 1 dX12_sourcesNow_133 rfl rfl ?_
    exact E_ireturn dX12_sourcesNow_134 rfl rfl
  · refine E_iload_n 1 dX12_sourcesNow_18 rfl rfl ?_
    refine E_iconst (v := (-1)) dX12_sourcesNow_19 (by decide) ?_
    refine E_jn 39 (fun (y : Bool) => [(2, .int x3.1), (1, .int x3.2), (0, .ref (Γ.2.1 0))]) (fun (y : Bool) => [.int (bI y)]) (fun (y : Bool) => s1) ?_ ?_
    · intro y5
      refine E_istore_n [(3, .int (bI y5)), (2, .int x3.1), (1, .int x3.2), (0, .ref (Γ.2.1 0))] dX12_sourcesNow_39 rfl (by decide) rfl ?_
      refine E_iconst (v := 0) dX12_sourcesNow_40 (by decide) ?_
      refine E_istore [(4, .int 0), (3, .int (bI y5)), (2, .int x3.1), (1, .int x3.2), (0, .ref (Γ.2.1 0))] dX12_sourcesNow_41 (by decide) rfl ?_
      refine E_jn 117 (fun (y : Int32) => [(3, .int y), (2, .int x3.1), (1, .int x3.2), (0, .ref (Γ.2.1 0))]) (fun (y : Int32) => []) (fun (y : Int32) => s1) ?_ ?_
      · intro y7
        refine E_iload_n 0 dX12_sourcesNow_117 rfl rfl ?_
        refine E_ifeq 125 dX12_sourcesNow_118 (by decide) ?_ ?_
        · refine E_iload_n 2 dX12_sourcesNow_125 rfl rfl ?_
          refine E_istore_n [(1, .int x3.2), (3, .int y7), (2, .int x3.1), (0, .ref (Γ.2.1 0))] dX12_sourcesNow_126 rfl (by decide) rfl ?_
          refine E_iinc 2 [(2, .int (x3.1 + 1)), (1, .int x3.2), (3, .int y7), (0, .ref (Γ.2.1 0))] dX12_sourcesNow_127 rfl rfl (by decide) rfl ?_
          refine E_goto 8 dX12_sourcesNow_130 (by decide) ?_
          refine E_lvsub [0, 1, 3] [(2, .int (x3.1 + 1)), (1, .int x3.2), (0, .ref (Γ.2.1 0))] rfl ?_
          exact hr2 (x3.1 + 1, x3.2)
        · refine E_iload_n 1 dX12_sourcesNow_121 rfl rfl ?_
          refine E_goto 126 dX12_sourcesNow_122 (by decide) ?_
          refine E_istore_n [(1, .int x3.1), (3, .int y7), (2, .int x3.1), (0, .ref (Γ.2.1 0))] dX12_sourcesNow_126 rfl (by decide) rfl ?_
          refine E_iinc 2 [(2, .int (x3.1 + 1)), (1, .int x3.1), (3, .int y7), (0, .ref (Γ.2.1 0))] dX12_sourcesNow_127 rfl rfl (by decide) rfl ?_
          refine E_goto 8 dX12_sourcesNow_130 (by decide) ?_
          refine E_lvsub [0, 1, 3] [(2, .int (x3.1 + 1)), (1, .int x3.1), (0, .ref (Γ.2.1 0))] rfl ?_
          exact hr2 (x3.1 + 1, x3.1)
      · intro K6 hK6
        refine E_lp (F := L_X12_sourcesNow_43 s1 x3 K6) (fun (x : Int32 × Int32) => [(4, .int x.1), (3, .int x.2), (2, .int x3.1), (1, .int x3.2), (0, .ref (Γ.2.1 0))]) (fun (x : Int32 × Int32) => s1) ?_ NN (0, (bI y5))
        intro r8 hr8 x9
        show E _ _ _ _ _ _ _ _ _ _ _ _ (L_X12_sourcesNow_43 s1 x3 K6 r8 x9)
        unfold L_X12_sourcesNow_43
        refine E_iload 0 dX12_sourcesNow_43 rfl ?_
        refine E_aload_n 4 dX12_sourcesNow_45 rfl rfl ?_
        refine E_getI (j := 5) (ci := 12) (T := TX12) (C0 := RX12) (ref := "SameWrongModel") dX12_sourcesNow_46 rfl (by decide) rfl inX12 (by decide) kw_879 rfl rfl ?_
        refine E_icmpge 117 dX12_sourcesNow_49 (by decide) ?_ ?_
        · refine E_lvsub [1, 2, 3, 4] [(3, .int x9.2), (2, .int x3.1), (1, .int x3.2), (0, .ref (Γ.2.1 0))] rfl ?_
          exact hK6 x9.2
        · refine E_iload_n 1 dX12_sourcesNow_52 rfl rfl ?_
          refine E_ifeq 117 dX12_sourcesNow_53 (by decide) ?_ ?_
          · refine E_lvsub [1, 2, 3, 4] [(3, .int x9.2), (2, .int x3.1), (1, .int x3.2), (0, .ref (Γ.2.1 0))] rfl ?_
            exact hK6 x9.2
          · refine E_iconst (v := 0) dX12_sourcesNow_56 (by decide) ?_
            refine E_istore [(5, .int 0), (4, .int x9.1), (3, .int x9.2), (2, .int x3.1), (1, .int x3.2), (0, .ref (Γ.2.1 0))] dX12_sourcesNow_57 (by decide) rfl ?_
            refine E_lp (F := L_X12_sourcesNow_59 s1 x3 r8 x9) (fun (x : Int32 × Int32) => [(5, .int x.1), (4, .int x9.1), (3, .int x.2), (2, .int x3.1), (1, .int x3.2), (0, .ref (Γ.2.1 0))]) (fun (x : Int32 × Int32) => s1) ?_ NN (0, x9.2)
            intro r10 hr10 x11
            show E _ _ _ _ _ _ _ _ _ _ _ _ (L_X12_sourcesNow_59 s1 x3 r8 x9 r10 x11)
            unfold L_X12_sourcesNow_59
            refine E_iload 0 dX12_sourcesNow_59 rfl ?_
            refine E_iload 1 dX12_sourcesNow_61 rfl ?_
            refine E_icmpge 111 dX12_sourcesNow_63 (by decide) ?_ ?_
            · refine E_iinc 1 [(4, .int (x9.1 + 1)), (5, .int x11.1), (3, .int x11.2), (2, .int x3.1), (1, .int x3.2), (0, .ref (Γ.2.1 0))] dX12_sourcesNow_111 rfl rfl (by decide) rfl ?_
              refine E_goto 43 dX12_sourcesNow_114 (by decide) ?_
              refine E_lvsub [0, 2, 3, 4, 5] [(4, .int (x9.1 + 1)), (3, .int x11.2), (2, .int x3.1), (1, .int x3.2), (0, .ref (Γ.2.1 0))] rfl ?_
              exact hr8 (x9.1 + 1, x11.2)
            · refine E_iload_n 2 dX12_sourcesNow_66 rfl rfl ?_
              refine E_ifeq 103 dX12_sourcesNow_67 (by decide) ?_ ?_
              · refine E_iconst (v := 0) dX12_sourcesNow_103 (by decide) ?_
                refine E_istore_n [(3, .int 0), (5, .int x11.1), (4, .int x9.1), (2, .int x3.1), (1, .int x3.2), (0, .ref (Γ.2.1 0))] dX12_sourcesNow_104 rfl (by decide) rfl ?_
                refine E_iinc 1 [(5, .int (x11.1 + 1)), (3, .int 0), (4, .int x9.1), (2, .int x3.1), (1, .int x3.2), (0, .ref (Γ.2.1 0))] dX12_sourcesNow_105 rfl rfl (by decide) rfl ?_
                refine E_goto 59 dX12_sourcesNow_108 (by decide) ?_
                refine E_lvsub [0, 2, 1, 3, 4, 5] [(5, .int (x11.1 + 1)), (4, .int x9.1), (3, .int 0), (2, .int x3.1), (1, .int x3.2), (0, .ref (Γ.2.1 0))] rfl ?_
                exact hr10 (x11.1 + 1, 0)
              · refine E_aload_n 5 dX12_sourcesNow_70 rfl rfl ?_
                refine E_iload 1 dX12_sourcesNow_71 rfl ?_
                refine E_iload 0 dX12_sourcesNow_73 rfl ?_
                refine E_callVZ (T := TX12) (ci := 12) [.int x9.1, .int x11.1] [] dX12_sourcesNow_75 rfl kw_1164 kw_1166 kp_51 kw_13 ko_X12_isPair rfl hy_X12_isPair rfl (by decide) (Nat.le_of_ble_eq_true rfl) rfl (by decide) rfl (c_X12_isPair Γ x9.1 x11.1 s1) (fun v12 => ?_)
                refine E_ifeqb 99 dX12_sourcesNow_78 (by decide) ?_ ?_
                · refine E_iconst (v := 1) dX12_sourcesNow_99 (by decide) ?_
                  refine E_goto 104 dX12_sourcesNow_100 (by decide) ?_
                  refine E_istore_n [(3, .int 1), (5, .int x11.1), (4, .int x9.1), (2, .int x3.1), (1, .int x3.2), (0, .ref (Γ.2.1 0))] dX12_sourcesNow_104 rfl (by decide) rfl ?_
                  refine E_iinc 1 [(5, .int (x11.1 + 1)), (3, .int 1), (4, .int x9.1), (2, .int x3.1), (1, .int x3.2), (0, .ref (Γ.2.1 0))] dX12_sourcesNow_105 rfl rfl (by decide) rfl ?_
                  refine E_goto 59 dX12_sourcesNow_108 (by decide) ?_
                  refine E_lvsub [0, 2, 1, 3, 4, 5] [(5, .int (x11.1 + 1)), (4, .int x9.1), (3, .int 1), (2, .int x3.1), (1, .int x3.2), (0, .ref (Γ.2.1 0))] rfl ?_
                  exact hr10 (x11.1 + 1, 1)
                · refine E_iload_n 3 dX12_sourcesNow_81 rfl rfl ?_
                  refine E_iload 1 dX12_sourcesNow_82 rfl ?_
                  refine E_callSZ [.int x3.1, .int x9.1] [] dX12_sourcesNow_84 rfl kw_1168 kw_1169 kw_13 ko_X12_isIn hy_X12_isIn rfl (by decide) (Nat.le_of_ble_eq_true rfl) (c_X12_isIn Γ x3.1 x9.1 s1) (fun v13 => ?_)
                  refine E_ifneb 99 dX12_sourcesNow_87 (by decide) ?_ ?_
                  · refine E_iconst (v := 1) dX12_sourcesNow_99 (by decide) ?_
                    refine E_goto 104 dX12_sourcesNow_100 (by decide) ?_
                    refine E_istore_n [(3, .int 1), (5, .int x11.1), (4, .int x9.1), (2, .int x3.1), (1, .int x3.2), (0, .ref (Γ.2.1 0))] dX12_sourcesNow_104 rfl (by decide) rfl ?_
                    refine E_iinc 1 [(5, .int (x11.1 + 1)), (3, .int 1), (4, .int x9.1), (2, .int x3.1), (1, .int x3.2), (0, .ref (Γ.2.1 0))] dX12_sourcesNow_105 rfl rfl (by decide) rfl ?_
                    refine E_goto 59 dX12_sourcesNow_108 (by decide) ?_
                    refine E_lvsub [0, 2, 1, 3, 4, 5] [(5, .int (x11.1 + 1)), (4, .int x9.1), (3, .int 1), (2, .int x3.1), (1, .int x3.2), (0, .ref (Γ.2.1 0))] rfl ?_
                    exact hr10 (x11.1 + 1, 1)
                  · refine E_iload_n 3 dX12_sourcesNow_90 rfl rfl ?_
                    refine E_iload 0 dX12_sourcesNow_91 rfl ?_
                    refine E_callSZ [.int x3.1, .int x11.1] [] dX12_sourcesNow_93 rfl kw_1168 kw_1169 kw_13 ko_X12_isIn hy_X12_isIn rfl (by decide) (Nat.le_of_ble_eq_true rfl) (c_X12_isIn Γ x3.1 x11.1 s1) (fun v14 => ?_)
                    refine E_ifeqb 103 dX12_sourcesNow_96 (by decide) ?_ ?_
                    · refine E_iconst (v := 0) dX12_sourcesNow_103 (by decide) ?_
                      refine E_istore_n [(3, .int 0), (5, .int x11.1), (4, .int x9.1), (2, .int x3.1), (1, .int x3.2), (0, .ref (Γ.2.1 0))] dX12_sourcesNow_104 rfl (by decide) rfl ?_
                      refine E_iinc 1 [(5, .int (x11.1 + 1)), (3, .int 0), (4, .int x9.1), (2, .int x3.1), (1, .int x3.2), (0, .ref (Γ.2.1 0))] dX12_sourcesNow_105 rfl rfl (by decide) rfl ?_
                      refine E_goto 59 dX12_sourcesNow_108 (by decide) ?_
                      refine E_lvsub [0, 2, 1, 3, 4, 5] [(5, .int (x11.1 + 1)), (4, .int x9.1), (3, .int 0), (2, .int x3.1), (1, .int x3.2), (0, .ref (Γ.2.1 0))] rfl ?_
                      exact hr10 (x11.1 + 1, 0)
                    · refine E_iconst (v := 1) dX12_sourcesNow_99 (by decide) ?_
                      refine E_goto 104 dX12_sourcesNow_100 (by decide) ?_
                      refine E_istore_n [(3, .int 1), (5, .int x11.1), (4, .int x9.1), (2, .int x3.1), (1, .int x3.2), (0, .ref (Γ.2.1 0))] dX12_sourcesNow_104 rfl (by decide) rfl ?_
                      refine E_iinc 1 [(5, .int (x11.1 + 1)), (3, .int 1), (4, .int x9.1), (2, .int x3.1), (1, .int x3.2), (0, .ref (Γ.2.1 0))] dX12_sourcesNow_105 rfl rfl (by decide) rfl ?_
                      refine E_goto 59 dX12_sourcesNow_108 (by decide) ?_
                      refine E_lvsub [0, 2, 1, 3, 4, 5] [(5, .int (x11.1 + 1)), (4, .int x9.1), (3, .int 1), (2, .int x3.1), (1, .int x3.2), (0, .ref (Γ.2.1 0))] rfl ?_
                      exact hr10 (x11.1 + 1, 1)
    · intro K4 hK4
      refine E_icmpeq 34 dX12_sourcesNow_20 (by decide) ?_ ?_
      · refine E_iconst (v := 1) dX12_sourcesNow_34 (by decide) ?_
        refine E_goto 39 dX12_sourcesNow_35 (by decide) ?_
        exact hK4 true
      · refine E_iload_n 0 dX12_sourcesNow_23 rfl rfl ?_
        refine E_callSI [.int x3.1] [] dX12_sourcesNow_24 rfl kw_1161 kw_1162 kw_13 ko_X12_ones hy_X12_ones rfl (by decide) (Nat.le_of_ble_eq_true rfl) (c_X12_ones Γ x3.1 s1) (fun v15 => ?_)
        refine E_iload_n 1 dX12_sourcesNow_27 rfl rfl ?_
        refine E_callSI [.int x3.2] [.int v15] dX12_sourcesNow_28 rfl kw_1161 kw_1162 kw_13 ko_X12_ones hy_X12_ones rfl (by decide) (Nat.le_of_ble_eq_true rfl) (c_X12_ones Γ x3.2 s1) (fun v16 => ?_)
        refine E_icmpge 38 dX12_sourcesNow_31 (by decide) ?_ ?_
        · refine E_iconst (v := 0) dX12_sourcesNow_38 (by decide) ?_
          exact hK4 false
        · refine E_iconst (v := 1) dX12_sourcesNow_34 (by decide) ?_
          refine E_goto 39 dX12_sourcesNow_35 (by decide) ?_
          exact hK4 true
theorem c_X12_sourcesNow (Γ : GT)  (s : St)  (x : (Int32 × St)) (h : f_X12_sourcesNow  s = some x) (l : Launch) : MC l yX12_sourcesNow cX12_sourcesNow 6 (some .int) 6 WM Γ [.ref (Γ.2.1 0)] s (emIS x) := MC_of (by decide +kernel) (Nat.le_of_ble_eq_true rfl) (e_X12_sourcesNow Γ  s ) h l
set_option maxRecDepth 100000 in
set_option maxHeartbeats 4000000 in
theorem e_X12_sources (Γ : GT)  (s : St)  : E RX12 cX12_sources 1 (some .int) 7 WM Γ emIS 0 [(0, .ref (Γ.2.1 0))] [] s (f_X12_sources  s) := by
  unfold f_X12_sources
  refine E_aload_n 0 dX12_sources_0 rfl rfl ?_
  refine E_callVV (T := TX12) (ci := 12) [] [] dX12_sources_1 rfl kw_1044 kw_1046 kp_31 kw_13 ko_X12_lays rfl hy_X12_lays rfl (by decide) (Nat.le_of_ble_eq_true rfl) rfl (by decide) rfl (c_X12_lays Γ s) (fun s1 => ?_)
  refine E_aload_n 0 dX12_sources_4 rfl rfl ?_
  refine E_callVIS (T := TX12) (ci := 12) [] [] dX12_sources_5 rfl kw_1153 kw_1155 kp_49 kw_13 ko_X12_sourcesNow rfl hy_X12_sourcesNow rfl (by decide) (Nat.le_of_ble_eq_true rfl) rfl (by decide) rfl (c_X12_sourcesNow Γ s1) (fun p2 => ?_)
  exact E_ireturn dX12_sources_8 rfl rfl
theorem c_X12_sources (Γ : GT)  (s : St)  (x : (Int32 × St)) (h : f_X12_sources  s = some x) (l : Launch) : MC l yX12_sources cX12_sources 1 (some .int) 7 WM Γ [.ref (Γ.2.1 0)] s (emIS x) := MC_of (by decide +kernel) (Nat.le_of_ble_eq_true rfl) (e_X12_sources Γ  s ) h l
set_option maxRecDepth 100000 in
set_option maxHeartbeats 4000000 in
theorem e_X12_gave (Γ : GT) (a1 : Int32) (a2 : Int32) (s : St)  : E RX12 cX12_gave 5 (some .int) 3 WM Γ (emI s) 0 [(0, .ref (Γ.2.1 0)), (1, .int a1), (2, .int a2)] [] s (f_X12_gave a1 a2 s) := by
  unfold f_X12_gave
  refine E_aload_n 0 dX12_gave_0 rfl rfl ?_
  refine E_iload_n 1 dX12_gave_1 rfl rfl ?_
  refine E_iconst (v := (-1)) dX12_gave_2 (by decide) ?_
  refine E_callVI (T := TX12) (ci := 12) [.int a1, .int (-1)] [] dX12_gave_3 rfl kw_1071 kw_1073 kp_35 kw_13 ko_X12_markBut rfl hy_X12_markBut rfl (by decide) (Nat.le_of_ble_eq_true rfl) rfl (by decide) rfl (c_X12_markBut Γ a1 (-1) s) (fun v1 => ?_)
  refine E_istore_n [(3, .int v1), (0, .ref (Γ.2.1 0)), (1, .int a1), (2, .int a2)] dX12_gave_6 rfl (by decide) rfl ?_
  refine E_aload_n 1 dX12_gave_7 rfl rfl ?_
  refine E_iload_n 3 dX12_gave_8 rfl rfl ?_
  refine E_iconst (v := (-1)) dX12_gave_9 (by decide) ?_
  refine E_callVI (T := TX12) (ci := 12) [.int a2, .int (-1)] [] dX12_gave_10 rfl kw_1071 kw_1073 kp_35 kw_13 ko_X12_markBut rfl hy_X12_markBut rfl (by decide) (Nat.le_of_ble_eq_true rfl) rfl (by decide) rfl (c_X12_markBut Γ a2 (-1) s) (fun v2 => ?_)
  refine E_istore [(4, .int v2), (3, .int v1), (0, .ref (Γ.2.1 0)), (1, .int a1), (2, .int a2)] dX12_gave_13 (by decide) rfl ?_
  refine E_iload_n 1 dX12_gave_15 rfl rfl ?_
  refine E_iload 0 dX12_gave_16 rfl ?_
  refine E_icmple 25 dX12_gave_18 (by decide) ?_ ?_
  · refine E_iload 0 dX12_gave_25 rfl ?_
    refine E_iload_n 1 dX12_gave_27 rfl rfl ?_
    refine E_icmple 35 dX12_gave_28 (by decide) ?_ ?_
    · refine E_aload_n 2 dX12_gave_35 rfl rfl ?_
      refine E_getR 11 (j := 14) (ci := 12) (T := TX12) (C0 := RX12) (ref := "SameWrongModel") dX12_gave_36 rfl (by decide) rfl inX12 (by decide) kw_888 rfl rfl rfl ?_
      refine E_iload_n 3 dX12_gave_39 rfl rfl ?_
      refine E_iaload dX12_gave_40 rfl (by decide) ?_
      refine E_aload_n 2 dX12_gave_41 rfl rfl ?_
      refine E_getR 11 (j := 14) (ci := 12) (T := TX12) (C0 := RX12) (ref := "SameWrongModel") dX12_gave_42 rfl (by decide) rfl inX12 (by decide) kw_888 rfl rfl rfl ?_
      refine E_iload_n 4 dX12_gave_45 rfl rfl ?_
      refine E_iaload dX12_gave_46 rfl (by decide) ?_
      refine E_icmpge 54 dX12_gave_47 (by decide) ?_ ?_
      · refine E_aload_n 2 dX12_gave_54 rfl rfl ?_
        refine E_getR 11 (j := 14) (ci := 12) (T := TX12) (C0 := RX12) (ref := "SameWrongModel") dX12_gave_55 rfl (by decide) rfl inX12 (by decide) kw_888 rfl rfl rfl ?_
        refine E_iload_n 4 dX12_gave_58 rfl rfl ?_
        refine E_iaload dX12_gave_59 rfl (by decide) ?_
        refine E_aload_n 2 dX12_gave_60 rfl rfl ?_
        refine E_getR 11 (j := 14) (ci := 12) (T := TX12) (C0 := RX12) (ref := "SameWrongModel") dX12_gave_61 rfl (by decide) rfl inX12 (by decide) kw_888 rfl rfl rfl ?_
        refine E_iload_n 3 dX12_gave_64 rfl rfl ?_
        refine E_iaload dX12_gave_65 rfl (by decide) ?_
        refine E_icmpge 73 dX12_gave_66 (by decide) ?_ ?_
        · refine E_iconst (v := (-1)) dX12_gave_73 (by decide) ?_
          exact E_ireturn dX12_gave_74 rfl rfl
        · refine E_iload_n 4 dX12_gave_69 rfl rfl ?_
          refine E_goto 74 dX12_gave_70 (by decide) ?_
          exact E_ireturn dX12_gave_74 rfl rfl
      · refine E_iload_n 3 dX12_gave_50 rfl rfl ?_
        refine E_goto 74 dX12_gave_51 (by decide) ?_
        exact E_ireturn dX12_gave_74 rfl rfl
    · refine E_iload_n 4 dX12_gave_31 rfl rfl ?_
      refine E_goto 74 dX12_gave_32 (by decide) ?_
      exact E_ireturn dX12_gave_74 rfl rfl
  · refine E_iload_n 3 dX12_gave_21 rfl rfl ?_
    refine E_goto 74 dX12_gave_22 (by decide) ?_
    exact E_ireturn dX12_gave_74 rfl rfl
theorem c_X12_gave (Γ : GT) (a1 : Int32) (a2 : Int32) (s : St)  (x : Int32) (h : f_X12_gave a1 a2 s = some x) (l : Launch) : MC l yX12_gave cX12_gave 5 (some .int) 3 WM Γ [.ref (Γ.2.1 0), .int a1, .int a2] s ((emI s) x) := MC_of (by decide +kernel) (Nat.le_of_ble_eq_true rfl) (e_X12_gave Γ a1 a2 s ) h l
set_option maxRecDepth 100000 in
set_option maxHeartbeats 4000000 in
theorem e_X12_from (Γ : GT) (a1 : Int32) (a2 : Int32) (s : St)  : E RX12 cX12_from 3 (some .int) 5 WM Γ emIS 0 [(0, .ref (Γ.2.1 0)), (1, .int a1), (2, .int a2)] [] s (f_X12_from a1 a2 s) := by
  unfold f_X12_from
  refine E_aload_n 0 dX12_from_0 rfl rfl ?_
  refine E_iload_n 1 dX12_from_1 rfl rfl ?_
  refine E_iload_n 2 dX12_from_2 rfl rfl ?_
  refine E_callVZ (T := TX12) (ci := 12) [.int a1, .int a2] [] dX12_from_3 rfl kw_1052 kw_1054 kp_32 kw_13 ko_X12_areTwo rfl hy_X12_areTwo rfl (by decide) (Nat.le_of_ble_eq_true rfl) rfl (by decide) rfl (c_X12_areTwo Γ a1 a2 s) (fun v1 => ?_)
  refine E_ifneb 12 dX12_from_6 (by decide) ?_ ?_
  · refine E_aload_n 0 dX12_from_12 rfl rfl ?_
    refine E_callVV (T := TX12) (ci := 12) [] [] dX12_from_13 rfl kw_1044 kw_1046 kp_31 kw_13 ko_X12_lays rfl hy_X12_lays rfl (by decide) (Nat.le_of_ble_eq_true rfl) rfl (by decide) rfl (c_X12_lays Γ s) (fun s2 => ?_)
    refine E_aload_n 0 dX12_from_16 rfl rfl ?_
    refine E_iload_n 1 dX12_from_17 rfl rfl ?_
    refine E_iload_n 2 dX12_from_18 rfl rfl ?_
    refine E_callVZ (T := TX12) (ci := 12) [.int a1, .int a2] [] dX12_from_19 rfl kw_1056 kw_1058 kp_33 kw_13 ko_X12_areBeside rfl hy_X12_areBeside rfl (by decide) (Nat.le_of_ble_eq_true rfl) rfl (by decide) rfl (c_X12_areBeside Γ a1 a2 s2) (fun v3 => ?_)
    refine E_ifeqb 43 dX12_from_22 (by decide) ?_ ?_
    · refine E_bipush (v := (-3)) dX12_from_43 (by decide) ?_
      exact E_ireturn dX12_from_45 rfl rfl
    · refine E_aload_n 0 dX12_from_25 rfl rfl ?_
      refine E_iload_n 1 dX12_from_26 rfl rfl ?_
      refine E_iload_n 2 dX12_from_27 rfl rfl ?_
      refine E_callVZS (T := TX12) (ci := 12) [.int a1, .int a2] [] dX12_from_28 rfl kw_1111 kw_1113 kp_44 kw_13 ko_X12_areOdd rfl hy_X12_areOdd rfl (by decide) (Nat.le_of_ble_eq_true rfl) rfl (by decide) rfl (c_X12_areOdd Γ a1 a2 s2) (fun p4 => ?_)
      refine E_ifeqb 43 dX12_from_31 (by decide) ?_ ?_
      · refine E_bipush (v := (-3)) dX12_from_43 (by decide) ?_
        exact E_ireturn dX12_from_45 rfl rfl
      · refine E_aload_n 0 dX12_from_34 rfl rfl ?_
        refine E_iload_n 1 dX12_from_35 rfl rfl ?_
        refine E_iload_n 2 dX12_from_36 rfl rfl ?_
        refine E_callVI (T := TX12) (ci := 12) [.int a1, .int a2] [] dX12_from_37 rfl kw_1175 kw_1177 kp_52 kw_13 ko_X12_gave rfl hy_X12_gave rfl (by decide) (Nat.le_of_ble_eq_true rfl) rfl (by decide) rfl (c_X12_gave Γ a1 a2 p4.2) (fun v5 => ?_)
        refine E_goto 45 dX12_from_40 (by decide) ?_
        exact E_ireturn dX12_from_45 rfl rfl
  · refine E_bipush (v := (-2)) dX12_from_9 (by decide) ?_
    exact E_ireturn dX12_from_11 rfl rfl
theorem c_X12_from (Γ : GT) (a1 : Int32) (a2 : Int32) (s : St)  (x : (Int32 × St)) (h : f_X12_from a1 a2 s = some x) (l : Launch) : MC l yX12_from cX12_from 3 (some .int) 5 WM Γ [.ref (Γ.2.1 0), .int a1, .int a2] s (emIS x) := MC_of (by decide +kernel) (Nat.le_of_ble_eq_true rfl) (e_X12_from Γ a1 a2 s ) h l
