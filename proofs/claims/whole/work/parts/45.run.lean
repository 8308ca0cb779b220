set_option maxRecDepth 100000 in
set_option maxHeartbeats 4000000 in
theorem e_X12_chainNow (Γ : GT)  (s : St)  : E RX12 cX12_chainNow 5 (some .int) 6 WM Γ emIS 0 [(0, .ref (Γ.2.1 0))] [] s (f_X12_chainNow  s) := by
  unfold f_X12_chainNow
  refine E_aload_n 0 dX12_chainNow_0 rfl rfl ?_
  refine E_callVV (T := TX12) (ci := 12) [] [] dX12_chainNow_1 rfl kw_1157 kw_1159 kp_50 kw_13 ko_X12_laysPairs rfl hy_X12_laysPairs rfl (by decide) (Nat.le_of_ble_eq_true rfl) rfl (by decide) rfl (c_X12_laysPairs Γ s) (fun s1 => ?_)
  refine E_iconst (v := 0) dX12_chainNow_4 (by decide) ?_
  refine E_istore_n [(1, .int 0), (0, .ref (Γ.2.1 0))] dX12_chainNow_5 rfl (by decide) rfl ?_
  refine E_iconst (v := 0) dX12_chainNow_6 (by decide) ?_
  refine E_istore_n [(2, .int 0), (1, .int 0), (0, .ref (Γ.2.1 0))] dX12_chainNow_7 rfl (by decide) rfl ?_
  refine E_jn 31 (fun (y : Int32 × St) => [(1, .int y.1), (0, .ref (Γ.2.1 0))]) (fun (y : Int32 × St) => []) (fun (y : Int32 × St) => y.2) ?_ ?_
  · intro y3
    refine E_iconst (v := 0) dX12_chainNow_31 (by decide) ?_
    refine E_istore_n [(2, .int 0), (1, .int y3.1), (0, .ref (Γ.2.1 0))] dX12_chainNow_32 rfl (by decide) rfl ?_
    refine E_lp (F := L_X12_chainNow_33) (fun (x : Int32 × Int32 × St) => [(2, .int x.1), (1, .int x.2.1), (0, .ref (Γ.2.1 0))]) (fun (x : Int32 × Int32 × St) => x.2.2) ?_ NN (0, y3.1, y3.2)
    intro r4 hr4 x5
    show E _ _ _ _ _ _ _ _ _ _ _ _ (L_X12_chainNow_33 r4 x5)
    unfold L_X12_chainNow_33
    refine E_iload_n 0 dX12_chainNow_33 rfl rfl ?_
    refine E_aload_n 2 dX12_chainNow_34 rfl rfl ?_
    refine E_getI (j := 5) (ci := 12) (T := TX12) (C0 := RX12) (ref := "SameWrongModel") dX12_chainNow_35 rfl (by decide) rfl inX12 (by decide) kw_879 rfl rfl ?_
    refine E_icmpge 158 dX12_chainNow_38 (by decide) ?_ ?_
    · refine E_iload_n 1 dX12_chainNow_158 rfl rfl ?_
      exact E_ireturn dX12_chainNow_159 rfl rfl
    · refine E_iconst (v := 0) dX12_chainNow_41 (by decide) ?_
      refine E_istore_n [(3, .int 0), (2, .int x5.1), (1, .int x5.2.1), (0, .ref (Γ.2.1 0))] dX12_chainNow_42 rfl (by decide) rfl ?_
      refine E_lp (F := L_X12_chainNow_43 r4 x5) (fun (x : Int32 × Int32 × St) => [(3, .int x.1), (2, .int x5.1), (1, .int x.2.1), (0, .ref (Γ.2.1 0))]) (fun (x : Int32 × Int32 × St) => x.2.2) ?_ NN (0, x5.2.1, x5.2.2)
      intro r6 hr6 x7
      show E _ _ _ _ _ _ _ _ _ _ _ _ (L_X12_chainNow_43 r4 x5 r6 x7)
      unfold L_X12_chainNow_43
      refine E_iload_n 0 dX12_chainNow_43 rfl rfl ?_
      refine E_aload_n 3 dX12_chainNow_44 rfl rfl ?_
      refine E_getI (j := 5) (ci := 12) (T := TX12) (C0 := RX12) (ref := "SameWrongModel") dX12_chainNow_45 rfl (by decide) rfl inX12 (by decide) kw_879 rfl rfl ?_
      refine E_icmpge 152 dX12_chainNow_48 (by decide) ?_ ?_
      · refine E_iinc 1 [(2, .int (x5.1 + 1)), (3, .int x7.1), (1, .int x7.2.1), (0, .ref (Γ.2.1 0))] dX12_chainNow_152 rfl rfl (by decide) rfl ?_
        refine E_goto 33 dX12_chainNow_155 (by decide) ?_
        refine E_lvsub [0, 2, 3] [(2, .int (x5.1 + 1)), (1, .int x7.2.1), (0, .ref (Γ.2.1 0))] rfl ?_
        exact hr4 (x5.1 + 1, x7.2.1, x7.2.2)
      · refine E_iconst (v := 0) dX12_chainNow_51 (by decide) ?_
        refine E_istore [(4, .int 0), (3, .int x7.1), (2, .int x5.1), (1, .int x7.2.1), (0, .ref (Γ.2.1 0))] dX12_chainNow_52 (by decide) rfl ?_
        refine E_lp (F := L_X12_chainNow_54 r6 x7) (fun (x : Int32 × Int32 × St) => [(4, .int x.1), (3, .int x7.1), (2, .int x5.1), (1, .int x.2.1), (0, .ref (Γ.2.1 0))]) (fun (x : Int32 × Int32 × St) => x.2.2) ?_ NN (0, x7.2.1, x7.2.2)
        intro r8 hr8 x9
        show E _ _ _ _ _ _ _ _ _ _ _ _ (L_X12_chainNow_54 r6 x7 r8 x9)
        unfold L_X12_chainNow_54
        refine E_iload 0 dX12_chainNow_54 rfl ?_
        refine E_aload_n 4 dX12_chainNow_56 rfl rfl ?_
        refine E_getI (j := 5) (ci := 12) (T := TX12) (C0 := RX12) (ref := "SameWrongModel") dX12_chainNow_57 rfl (by decide) rfl inX12 (by decide) kw_879 rfl rfl ?_
        refine E_icmpge 146 dX12_chainNow_60 (by decide) ?_ ?_
        · refine E_iinc 1 [(3, .int (x7.1 + 1)), (4, .int x9.1), (2, .int x5.1), (1, .int x9.2.1), (0, .ref (Γ.2.1 0))] dX12_chainNow_146 rfl rfl (by decide) rfl ?_
          refine E_goto 43 dX12_chainNow_149 (by decide) ?_
          refine E_lvsub [0, 2, 3, 4] [(3, .int (x7.1 + 1)), (2, .int x5.1), (1, .int x9.2.1), (0, .ref (Γ.2.1 0))] rfl ?_
          exact hr6 (x7.1 + 1, x9.2.1, x9.2.2)
        · refine E_aload_n 4 dX12_chainNow_63 rfl rfl ?_
          refine E_iload_n 1 dX12_chainNow_64 rfl rfl ?_
          refine E_iload 0 dX12_chainNow_65 rfl ?_
          refine E_callVZ (T := TX12) (ci := 12) [.int x7.1, .int x9.1] [] dX12_chainNow_67 rfl kw_1164 kw_1166 kp_51 kw_13 ko_X12_isPair rfl hy_X12_isPair rfl (by decide) (Nat.le_of_ble_eq_true rfl) rfl (by decide) rfl (c_X12_isPair Γ x7.1 x9.1 x9.2.2) (fun v10 => ?_)
          refine E_ifeqb 140 dX12_chainNow_70 (by decide) ?_ ?_
          · refine E_iinc 0 [(4, .int (x9.1 + 1)), (3, .int x7.1), (2, .int x5.1), (1, .int x9.2.1), (0, .ref (Γ.2.1 0))] dX12_chainNow_140 rfl rfl (by decide) rfl ?_
            refine E_goto 54 dX12_chainNow_143 (by decide) ?_
            exact hr8 (x9.1 + 1, x9.2.1, x9.2.2)
          · refine E_aload_n 4 dX12_chainNow_73 rfl rfl ?_
            refine E_iload_n 1 dX12_chainNow_74 rfl rfl ?_
            refine E_iload 0 dX12_chainNow_75 rfl ?_
            refine E_callVI (T := TX12) (ci := 12) [.int x7.1, .int x9.1] [] dX12_chainNow_77 rfl kw_1175 kw_1177 kp_52 kw_13 ko_X12_gave rfl hy_X12_gave rfl (by decide) (Nat.le_of_ble_eq_true rfl) rfl (by decide) rfl (c_X12_gave Γ x7.1 x9.1 x9.2.2) (fun v11 => ?_)
            refine E_iload_n 1 dX12_chainNow_80 rfl rfl ?_
            refine E_icmpne 140 dX12_chainNow_81 (by decide) ?_ ?_
            · refine E_iinc 0 [(4, .int (x9.1 + 1)), (3, .int x7.1), (2, .int x5.1), (1, .int x9.2.1), (0, .ref (Γ.2.1 0))] dX12_chainNow_140 rfl rfl (by decide) rfl ?_
              refine E_goto 54 dX12_chainNow_143 (by decide) ?_
              exact hr8 (x9.1 + 1, x9.2.1, x9.2.2)
            · refine E_aload_n 4 dX12_chainNow_84 rfl rfl ?_
              refine E_getR 18 (j := 23) (ci := 12) (T := TX12) (C0 := RX12) (ref := "SameWrongModel") dX12_chainNow_85 rfl (by decide) rfl inX12 (by decide) kw_897 rfl rfl rfl ?_
              refine E_iload_n 1 dX12_chainNow_88 rfl rfl ?_
              refine E_iaload dX12_chainNow_89 rfl (by decide) ?_
              refine E_iconst (v := 1) dX12_chainNow_90 (by decide) ?_
              refine E_iadd dX12_chainNow_91 ?_
              refine E_aload_n 4 dX12_chainNow_92 rfl rfl ?_
              refine E_getR 18 (j := 23) (ci := 12) (T := TX12) (C0 := RX12) (ref := "SameWrongModel") dX12_chainNow_93 rfl (by decide) rfl inX12 (by decide) kw_897 rfl rfl rfl ?_
              refine E_iload 0 dX12_chainNow_96 rfl ?_
              refine E_iaload dX12_chainNow_98 rfl (by decide) ?_
              refine E_icmple 140 dX12_chainNow_99 (by decide) ?_ ?_
              · refine E_iinc 0 [(4, .int (x9.1 + 1)), (3, .int x7.1), (2, .int x5.1), (1, .int x9.2.1), (0, .ref (Γ.2.1 0))] dX12_chainNow_140 rfl rfl (by decide) rfl ?_
                refine E_goto 54 dX12_chainNow_143 (by decide) ?_
                exact hr8 (x9.1 + 1, x9.2.1, x9.2.2)
              · refine E_aload_n 4 dX12_chainNow_102 rfl rfl ?_
                refine E_getR 18 (j := 23) (ci := 12) (T := TX12) (C0 := RX12) (ref := "SameWrongModel") dX12_chainNow_103 rfl (by decide) rfl inX12 (by decide) kw_897 rfl rfl rfl ?_
                refine E_iload 0 dX12_chainNow_106 rfl ?_
                refine E_aload_n 4 dX12_chainNow_108 rfl rfl ?_
                refine E_getR 18 (j := 23) (ci := 12) (T := TX12) (C0 := RX12) (ref := "SameWrongModel") dX12_chainNow_109 rfl (by decide) rfl inX12 (by decide) kw_897 rfl rfl rfl ?_
                refine E_iload_n 1 dX12_chainNow_112 rfl rfl ?_
                refine E_iaload dX12_chainNow_113 rfl (by decide) ?_
                refine E_iconst (v := 1) dX12_chainNow_114 (by decide) ?_
                refine E_iadd dX12_chainNow_115 ?_
                refine E_iastore dX12_chainNow_116 rfl (by decide) ?_
                refine E_bd (fun s12 => ?_)
                refine E_aload_n 4 dX12_chainNow_117 rfl rfl ?_
                refine E_getR 18 (j := 23) (ci := 12) (T := TX12) (C0 := RX12) (ref := "SameWrongModel") dX12_chainNow_118 rfl (by decide) rfl inX12 (by decide) kw_897 rfl rfl rfl ?_
                refine E_iload 0 dX12_chainNow_121 rfl ?_
                refine E_iaload dX12_chainNow_123 rfl (by decide) ?_
                refine E_iload_n 3 dX12_chainNow_124 rfl rfl ?_
                refine E_icmple 138 dX12_chainNow_125 (by decide) ?_ ?_
                · refine E_iload_n 3 dX12_chainNow_138 rfl rfl ?_
                  refine E_istore_n [(1, .int x9.2.1), (4, .int x9.1), (3, .int x7.1), (2, .int x5.1), (0, .ref (Γ.2.1 0))] dX12_chainNow_139 rfl (by decide) rfl ?_
                  refine E_iinc 1 [(4, .int (x9.1 + 1)), (1, .int x9.2.1), (3, .int x7.1), (2, .int x5.1), (0, .ref (Γ.2.1 0))] dX12_chainNow_140 rfl rfl (by decide) rfl ?_
                  refine E_goto 54 dX12_chainNow_143 (by decide) ?_
                  refine E_lvsub [0, 2, 3, 1, 4] [(4, .int (x9.1 + 1)), (3, .int x7.1), (2, .int x5.1), (1, .int x9.2.1), (0, .ref (Γ.2.1 0))] rfl ?_
                  exact hr8 (x9.1 + 1, x9.2.1, s12)
                · refine E_aload_n 4 dX12_chainNow_128 rfl rfl ?_
                  refine E_getR 18 (j := 23) (ci := 12) (T := TX12) (C0 := RX12) (ref := "SameWrongModel") dX12_chainNow_129 rfl (by decide) rfl inX12 (by decide) kw_897 rfl rfl rfl ?_
                  refine E_iload 0 dX12_chainNow_132 rfl ?_
                  refine E_iaload dX12_chainNow_134 rfl (by decide) ?_
                  refine E_goto 139 dX12_chainNow_135 (by decide) ?_
                  refine E_istore_n [(1, .int (s12.1 18 x9.1.toNatClampNeg)), (4, .int x9.1), (3, .int x7.1), (2, .int x5.1), (0, .ref (Γ.2.1 0))] dX12_chainNow_139 rfl (by decide) rfl ?_
                  refine E_bv (fun v13 => [(1, .int v13), (4, .int x9.1), (3, .int x7.1), (2, .int x5.1), (0, .ref (Γ.2.1 0))]) (fun v13 => ?_) (s12.1 18 x9.1.toNatClampNeg)
                  refine E_iinc 1 [(4, .int (x9.1 + 1)), (1, .int v13), (3, .int x7.1), (2, .int x5.1), (0, .ref (Γ.2.1 0))] dX12_chainNow_140 rfl rfl (by decide) rfl ?_
                  refine E_goto 54 dX12_chainNow_143 (by decide) ?_
                  refine E_lvsub [0, 2, 3, 1, 4] [(4, .int (x9.1 + 1)), (3, .int x7.1), (2, .int x5.1), (1, .int v13), (0, .ref (Γ.2.1 0))] rfl ?_
                  exact hr8 (x9.1 + 1, v13, s12)
  · intro K2 hK2
    refine E_lp (F := L_X12_chainNow_8 K2) (fun (x : Int32 × Int32 × St) => [(2, .int x.1), (1, .int x.2.1), (0, .ref (Γ.2.1 0))]) (fun (x : Int32 × Int32 × St) => x.2.2) ?_ NN (0, 0, s1)
    intro r14 hr14 x15
    show E _ _ _ _ _ _ _ _ _ _ _ _ (L_X12_chainNow_8 K2 r14 x15)
    unfold L_X12_chainNow_8
    refine E_iload_n 0 dX12_chainNow_8 rfl rfl ?_
    refine E_aload_n 2 dX12_chainNow_9 rfl rfl ?_
    refine E_getI (j := 5) (ci := 12) (T := TX12) (C0 := RX12) (ref := "SameWrongModel") dX12_chainNow_10 rfl (by decide) rfl inX12 (by decide) kw_879 rfl rfl ?_
    refine E_icmpge 31 dX12_chainNow_13 (by decide) ?_ ?_
    · refine E_lvsub [1, 2] [(1, .int x15.2.1), (0, .ref (Γ.2.1 0))] rfl ?_
      exact hK2 (x15.2.1, x15.2.2)
    · refine E_aload_n 2 dX12_chainNow_16 rfl rfl ?_
      refine E_getR 18 (j := 23) (ci := 12) (T := TX12) (C0 := RX12) (ref := "SameWrongModel") dX12_chainNow_17 rfl (by decide) rfl inX12 (by decide) kw_897 rfl rfl rfl ?_
      refine E_iload_n 0 dX12_chainNow_20 rfl rfl ?_
      refine E_iconst (v := 1) dX12_chainNow_21 (by decide) ?_
      refine E_iastore dX12_chainNow_22 rfl (by decide) ?_
      refine E_bd (fun s16 => ?_)
      refine E_iconst (v := 1) dX12_chainNow_23 (by decide) ?_
      refine E_istore_n [(1, .int 1), (2, .int x15.1), (0, .ref (Γ.2.1 0))] dX12_chainNow_24 rfl (by decide) rfl ?_
      refine E_iinc 1 [(2, .int (x15.1 + 1)), (1, .int 1), (0, .ref (Γ.2.1 0))] dX12_chainNow_25 rfl rfl (by decide) rfl ?_
      refine E_goto 8 dX12_chainNow_28 (by decide) ?_
      exact hr14 (x15.1 + 1, 1, s16)
theorem c_X12_chainNow (Γ : GT)  (s : St)  (x : (Int32 × St)) (h : f_X12_chainNow  s = some x) (l : Launch) : MC l yX12_chainNow cX12_chainNow 5 (some .int) 6 WM Γ [.ref (Γ.2.1 0)] s (emIS x) := MC_of (by decide +kernel) (Nat.le_of_ble_eq_true rfl) (e_X12_chainNow Γ  s ) h l
set_option maxRecDepth 100000 in
set_option maxHeartbeats 4000000 in
theorem e_X12_chain (Γ : GT)  (s : St)  : E RX12 cX12_chain 1 (some .int) 7 WM Γ emIS 0 [(0, .ref (Γ.2.1 0))] [] s (f_X12_chain  s) := by
  unfold f_X12_chain
  refine E_aload_n 0 dX12_chain_0 rfl rfl ?_
  refine E_callVV (T := TX12) (ci := 12) [] [] dX12_chain_1 rfl kw_1044 kw_1046 kp_31 kw_13 ko_X12_lays rfl hy_X12_lays rfl (by decide) (Nat.le_of_ble_eq_true rfl) rfl (by decide) rfl (c_X12_lays Γ s) (fun s1 => ?_)
  refine E_aload_n 0 dX12_chain_4 rfl rfl ?_
  refine E_callVIS (T := TX12) (ci := 12) [] [] dX12_chain_5 rfl kw_1183 kw_1185 kp_53 kw_13 ko_X12_chainNow rfl hy_X12_chainNow rfl (by decide) (Nat.le_of_ble_eq_true rfl) rfl (by decide) rfl (c_X12_chainNow Γ s1) (fun p2 => ?_)
  exact E_ireturn dX12_chain_8 rfl rfl
theorem c_X12_chain (Γ : GT)  (s : St)  (x : (Int32 × St)) (h : f_X12_chain  s = some x) (l : Launch) : MC l yX12_chain cX12_chain 1 (some .int) 7 WM Γ [.ref (Γ.2.1 0)] s (emIS x) := MC_of (by decide +kernel) (Nat.le_of_ble_eq_true rfl) (e_X12_chain Γ  s ) h l
set_option maxRecDepth 100000 in
set_option maxHeartbeats 4000000 in
theorem e_X12_rubbedOf (Γ : GT) (a1 : Int32) (a2 : Int32) (s : St)  : E RX12 cX12_rubbedOf 3 (some .int) 1 WM Γ (emI s) 0 [(0, .ref (Γ.2.1 0)), (1, .int a1), (2, .int a2)] [] s (f_X12_rubbedOf a1 a2 s) := by
  unfold f_X12_rubbedOf
  refine E_iload_n 2 dX12_rubbedOf_0 rfl rfl ?_
  refine E_ifne 13 dX12_rubbedOf_1 (by decide) ?_ ?_
  · refine E_iload_n 2 dX12_rubbedOf_13 rfl rfl ?_
    refine E_iconst (v := 1) dX12_rubbedOf_14 (by decide) ?_
    refine E_icmpne 27 dX12_rubbedOf_15 (by decide) ?_ ?_
    · refine E_aload_n 0 dX12_rubbedOf_27 rfl rfl ?_
      refine E_getR 13 (j := 16) (ci := 12) (T := TX12) (C0 := RX12) (ref := "SameWrongModel") dX12_rubbedOf_28 rfl (by decide) rfl inX12 (by decide) kw_890 rfl rfl rfl ?_
      refine E_iload_n 1 dX12_rubbedOf_31 rfl rfl ?_
      refine E_iaload dX12_rubbedOf_32 rfl (by decide) ?_
      exact E_ireturn dX12_rubbedOf_33 rfl rfl
    · refine E_aload_n 0 dX12_rubbedOf_18 rfl rfl ?_
      refine E_getR 12 (j := 15) (ci := 12) (T := TX12) (C0 := RX12) (ref := "SameWrongModel") dX12_rubbedOf_19 rfl (by decide) rfl inX12 (by decide) kw_889 rfl rfl rfl ?_
      refine E_iload_n 1 dX12_rubbedOf_22 rfl rfl ?_
      refine E_iaload dX12_rubbedOf_23 rfl (by decide) ?_
      refine E_goto 33 dX12_rubbedOf_24 (by decide) ?_
      exact E_ireturn dX12_rubbedOf_33 rfl rfl
  · refine E_aload_n 0 dX12_rubbedOf_4 rfl rfl ?_
    refine E_getR 11 (j := 14) (ci := 12) (T := TX12) (C0 := RX12) (ref := "SameWrongModel") dX12_rubbedOf_5 rfl (by decide) rfl inX12 (by decide) kw_888 rfl rfl rfl ?_
    refine E_iload_n 1 dX12_rubbedOf_8 rfl rfl ?_
    refine E_iaload dX12_rubbedOf_9 rfl (by decide) ?_
    refine E_goto 33 dX12_rubbedOf_10 (by decide) ?_
    exact E_ireturn dX12_rubbedOf_33 rfl rfl
theorem c_X12_rubbedOf (Γ : GT) (a1 : Int32) (a2 : Int32) (s : St)  (x : Int32) (h : f_X12_rubbedOf a1 a2 s = some x) (l : Launch) : MC l yX12_rubbedOf cX12_rubbedOf 3 (some .int) 1 WM Γ [.ref (Γ.2.1 0), .int a1, .int a2] s ((emI s) x) := MC_of (by decide +kernel) (Nat.le_of_ble_eq_true rfl) (e_X12_rubbedOf Γ a1 a2 s ) h l
set_option maxRecDepth 100000 in
set_option maxHeartbeats 4000000 in
theorem e_X12_rubbed (Γ : GT) (a1 : Int32) (a2 : Int32) (s : St)  : E RX12 cX12_rubbed 3 (some .int) 5 WM Γ emIS 0 [(0, .ref (Γ.2.1 0)), (1, .int a1), (2, .int a2)] [] s (f_X12_rubbed a1 a2 s) := by
  unfold f_X12_rubbed
  refine E_aload_n 0 dX12_rubbed_0 rfl rfl ?_
  refine E_iload_n 1 dX12_rubbed_1 rfl rfl ?_
  refine E_callVZ (T := TX12) (ci := 12) [.int a1] [] dX12_rubbed_2 rfl kw_1021 kw_1023 kp_28 kw_13 ko_X12_isPupil rfl hy_X12_isPupil rfl (by decide) (Nat.le_of_ble_eq_true rfl) rfl (by decide) rfl (c_X12_isPupil Γ a1 s) (fun v1 => ?_)
  refine E_ifeqb 17 dX12_rubbed_5 (by decide) ?_ ?_
  · refine E_bipush (v := (-2)) dX12_rubbed_17 (by decide) ?_
    exact E_ireturn dX12_rubbed_19 rfl rfl
  · refine E_iload_n 2 dX12_rubbed_8 rfl rfl ?_
    refine E_iconst (v := 0) dX12_rubbed_9 (by decide) ?_
    refine E_iconst (v := 2) dX12_rubbed_10 (by decide) ?_
    refine E_callSZ [.int a2, .int 0, .int 2] [] dX12_rubbed_11 rfl kw_970 kw_971 kw_13 ko_X12_in hy_X12_in rfl (by decide) (Nat.le_of_ble_eq_true rfl) (c_X12_in Γ a2 0 2 s) (fun v2 => ?_)
    refine E_ifneb 20 dX12_rubbed_14 (by decide) ?_ ?_
    · refine E_aload_n 0 dX12_rubbed_20 rfl rfl ?_
      refine E_callVV (T := TX12) (ci := 12) [] [] dX12_rubbed_21 rfl kw_1044 kw_1046 kp_31 kw_13 ko_X12_lays rfl hy_X12_lays rfl (by decide) (Nat.le_of_ble_eq_true rfl) rfl (by decide) rfl (c_X12_lays Γ s) (fun s3 => ?_)
      refine E_aload_n 0 dX12_rubbed_24 rfl rfl ?_
      refine E_iload_n 1 dX12_rubbed_25 rfl rfl ?_
      refine E_iload_n 2 dX12_rubbed_26 rfl rfl ?_
      refine E_callVI (T := TX12) (ci := 12) [.int a1, .int a2] [] dX12_rubbed_27 rfl kw_1191 kw_1193 kp_54 kw_13 ko_X12_rubbedOf rfl hy_X12_rubbedOf rfl (by decide) (Nat.le_of_ble_eq_true rfl) rfl (by decide) rfl (c_X12_rubbedOf Γ a1 a2 s3) (fun v4 => ?_)
      exact E_ireturn dX12_rubbed_30 rfl rfl
    · refine E_bipush (v := (-2)) dX12_rubbed_17 (by decide) ?_
      exact E_ireturn dX12_rubbed_19 rfl rfl
theorem c_X12_rubbed (Γ : GT) (a1 : Int32) (a2 : Int32) (s : St)  (x : (Int32 × St)) (h : f_X12_rubbed a1 a2 s = some x) (l : Launch) : MC l yX12_rubbed cX12_rubbed 3 (some .int) 5 WM Γ [.ref (Γ.2.1 0), .int a1, .int a2] s (emIS x) := MC_of (by decide +kernel) (Nat.le_of_ble_eq_true rfl) (e_X12_rubbed Γ a1 a2 s ) h l
set_option maxRecDepth 100000 in
set_option maxHeartbeats 4000000 in
theorem e_X12_gainsNow (Γ : GT) (a1 : Int32) (a2 : Int32) (s : St)  : E RX12 cX12_gainsNow 10 (some .long) 3 WM Γ (emL s) 0 [(0, .ref (Γ.2.1 0)), (1, .int a1), (2, .int a2)] [] s (f_X12_gainsNow a1 a2 s) := by
  unfold f_X12_gainsNow
  refine E_iconst (v := 0) dX12_gainsNow_0 (by decide) ?_
  refine E_istore_n [(3, .int 0), (0, .ref (Γ.2.1 0)), (1, .int a1), (2, .int a2)] dX12_gainsNow_1 rfl (by decide) rfl ?_
  refine E_iconst (v := 0) dX12_gainsNow_2 (by decide) ?_
  refine E_istore [(4, .int 0), (3, .int 0), (0, .ref (Γ.2.1 0)), (1, .int a1), (2, .int a2)] dX12_gainsNow_3 (by decide) rfl ?_
  refine E_iconst (v := 0) dX12_gainsNow_5 (by decide) ?_
  refine E_istore [(5, .int 0), (4, .int 0), (3, .int 0), (0, .ref (Γ.2.1 0)), (1, .int a1), (2, .int a2)] dX12_gainsNow_6 (by decide) rfl ?_
  refine E_iconst (v := 0) dX12_gainsNow_8 (by decide) ?_
  refine E_istore [(6, .int 0), (5, .int 0), (4, .int 0), (3, .int 0), (0, .ref (Γ.2.1 0)), (1, .int a1), (2, .int a2)] dX12_gainsNow_9 (by decide) rfl ?_
  refine E_iconst (v := 0) dX12_gainsNow_11 (by decide) ?_
  refine E_istore [(7, .int 0), (6, .int 0), (5, .int 0), (4, .int 0), (3, .int 0), (0, .ref (Γ.2.1 0)), (1, .int a1), (2, .int a2)] dX12_gainsNow_12 (by decide) rfl ?_
  refine E_jn 101 (fun (y : Int32 × Int32 × Int32 × Int32) => [(6, .int y.1), (5, .int y.2.1), (4, .int y.2.2.1), (3, .int y.2.2.2), (2, .int a2)]) (fun (y : Int32 × Int32 × Int32 × Int32) => []) (fun (y : Int32 × Int32 × Int32 × Int32) => s) ?_ ?_
  · intro y2
    refine E_iload_n 3 dX12_gainsNow_101 rfl rfl ?_
    refine E_bipush (v := 60) dX12_gainsNow_102 (by decide) ?_
    refine E_icmple 113 dX12_gainsNow_104 (by decide) ?_ ?_
    · refine E_lconst (v := 0) dX12_gainsNow_113 rfl ?_
      refine E_lstore [(7, .long 0), (6, .int y2.1), (5, .int y2.2.1), (4, .int y2.2.2.1), (3, .int y2.2.2.2), (2, .int a2)] dX12_gainsNow_114 (by decide) rfl ?_
      refine E_iload 1 dX12_gainsNow_116 rfl ?_
      refine E_istore [(9, .int y2.1), (7, .long 0), (6, .int y2.1), (5, .int y2.2.1), (4, .int y2.2.2.1), (3, .int y2.2.2.2), (2, .int a2)] dX12_gainsNow_118 (by decide) rfl ?_
      refine E_jn 158 (fun (y : Int64) => [(7, .long y), (5, .int y2.2.1), (3, .int y2.2.2.2), (2, .int a2)]) (fun (y : Int64) => []) (fun (y : Int64) => s) ?_ ?_
      · intro y4
        refine E_lload 0 dX12_gainsNow_158 rfl ?_
        refine E_iload_n 2 dX12_gainsNow_160 rfl rfl ?_
        refine E_iload 1 dX12_gainsNow_161 rfl ?_
        refine E_callSL [.int y2.2.2.2, .int y2.2.1] [.long y4] dX12_gainsNow_163 rfl kw_1203 kw_1204 kw_13 ko_X12_choose hy_X12_choose rfl (by decide) (Nat.le_of_ble_eq_true rfl) (c_X12_choose Γ y2.2.2.2 y2.2.1 s) (fun v5 => ?_)
        refine E_iload_n 3 dX12_gainsNow_166 rfl rfl ?_
        refine E_callSL [.long y4, .long v5, .int a2] [] dX12_gainsNow_167 rfl kw_1129 kw_1130 kw_13 ko_X12_lowest hy_X12_lowest rfl (by decide) (Nat.le_of_ble_eq_true rfl) (c_X12_lowest Γ y4 v5 a2 s) (fun v6 => ?_)
        exact E_lreturn dX12_gainsNow_170 rfl rfl
      · intro K3 hK3
        refine E_lvsub [0, 1, 3, 4, 5, 6] [(9, .int y2.1), (7, .long 0), (5, .int y2.2.1), (4, .int y2.2.2.1), (3, .int y2.2.2.2), (2, .int a2)] rfl ?_
        refine E_lp (F := L_X12_gainsNow_120 s y2 K3) (fun (x : Int32 × Int64) => [(9, .int x.1), (7, .long x.2), (5, .int y2.2.1), (4, .int y2.2.2.1), (3, .int y2.2.2.2), (2, .int a2)]) (fun (x : Int32 × Int64) => s) ?_ NN (y2.1, 0)
        intro r7 hr7 x8
        show E _ _ _ _ _ _ _ _ _ _ _ _ (L_X12_gainsNow_120 s y2 K3 r7 x8)
        unfold L_X12_gainsNow_120
        refine E_iload 0 dX12_gainsNow_120 rfl ?_
        refine E_iload 2 dX12_gainsNow_122 rfl ?_
        refine E_icmpgt 158 dX12_gainsNow_124 (by decide) ?_ ?_
        · refine E_lvsub [1, 2, 4, 5] [(7, .long x8.2), (5, .int y2.2.1), (3, .int y2.2.2.2), (2, .int a2)] rfl ?_
          exact hK3 x8.2
        · refine E_lload 1 dX12_gainsNow_127 rfl ?_
          refine E_iload 3 dX12_gainsNow_129 rfl ?_
          refine E_iload 0 dX12_gainsNow_131 rfl ?_
          refine E_callSL [.int y2.2.2.1, .int x8.1] [.long x8.2] dX12_gainsNow_133 rfl kw_1203 kw_1204 kw_13 ko_X12_choose hy_X12_choose rfl (by decide) (Nat.le_of_ble_eq_true rfl) (c_X12_choose Γ y2.2.2.1 x8.1 s) (fun v9 => ?_)
          refine E_iload_n 4 dX12_gainsNow_136 rfl rfl ?_
          refine E_iload 3 dX12_gainsNow_137 rfl ?_
          refine E_isub dX12_gainsNow_139 ?_
          refine E_iload 2 dX12_gainsNow_140 rfl ?_
          refine E_iload 0 dX12_gainsNow_142 rfl ?_
          refine E_isub dX12_gainsNow_144 ?_
          refine E_callSL [.int (y2.2.2.2 - y2.2.2.1), .int (y2.2.1 - x8.1)] [.long v9, .long x8.2] dX12_gainsNow_145 rfl kw_1203 kw_1204 kw_13 ko_X12_choose hy_X12_choose rfl (by decide) (Nat.le_of_ble_eq_true rfl) (c_X12_choose Γ (y2.2.2.2 - y2.2.2.1) (y2.2.1 - x8.1) s) (fun v10 => ?_)
          refine E_lmul dX12_gainsNow_148 ?_
          refine E_ladd dX12_gainsNow_149 ?_
          refine E_lstore [(7, .long (x8.2 + (v9 * v10))), (9, .int x8.1), (5, .int y2.2.1), (4, .int y2.2.2.1), (3, .int y2.2.2.2), (2, .int a2)] dX12_gainsNow_150 (by decide) rfl ?_
          refine E_bl (fun v11 => [(7, .long v11), (9, .int x8.1), (5, .int y2.2.1), (4, .int y2.2.2.1), (3, .int y2.2.2.2), (2, .int a2)]) (fun v11 => ?_) (x8.2 + (v9 * v10))
          refine E_iinc 1 [(9, .int (x8.1 + 1)), (7, .long v11), (5, .int y2.2.1), (4, .int y2.2.2.1), (3, .int y2.2.2.2), (2, .int a2)] dX12_gainsNow_152 rfl rfl (by decide) rfl ?_
          refine E_goto 120 dX12_gainsNow_155 (by decide) ?_
          exact hr7 (x8.1 + 1, v11)
    · refine E_bipush (v := (-4)) dX12_gainsNow_107 (by decide) ?_
      refine E_callSL [.int (-4)] [] dX12_gainsNow_109 rfl kw_1125 kw_1126 kw_13 ko_X12_no hy_X12_no rfl (by decide) (Nat.le_of_ble_eq_true rfl) (c_X12_no Γ (-4) s) (fun v12 => ?_)
      exact E_lreturn dX12_gainsNow_112 rfl rfl
  · intro K1 hK1
    refine E_lp (F := L_X12_gainsNow_14 a1 s K1) (fun (x : Int32 × Int32 × Int32 × Int32 × Int32) => [(7, .int x.1), (6, .int x.2.1), (5, .int x.2.2.1), (4, .int x.2.2.2.1), (3, .int x.2.2.2.2), (0, .ref (Γ.2.1 0)), (1, .int a1), (2, .int a2)]) (fun (x : Int32 × Int32 × Int32 × Int32 × Int32) => s) ?_ NN (0, 0, 0, 0, 0)
    intro r13 hr13 x14
    show E _ _ _ _ _ _ _ _ _ _ _ _ (L_X12_gainsNow_14 a1 s K1 r13 x14)
    unfold L_X12_gainsNow_14
    refine E_iload 0 dX12_gainsNow_14 rfl ?_
    refine E_aload_n 5 dX12_gainsNow_16 rfl rfl ?_
    refine E_getI (j := 5) (ci := 12) (T := TX12) (C0 := RX12) (ref := "SameWrongModel") dX12_gainsNow_17 rfl (by decide) rfl inX12 (by decide) kw_879 rfl rfl ?_
    refine E_icmpge 101 dX12_gainsNow_20 (by decide) ?_ ?_
    · refine E_lvsub [1, 2, 3, 4, 7] [(6, .int x14.2.1), (5, .int x14.2.2.1), (4, .int x14.2.2.2.1), (3, .int x14.2.2.2.2), (2, .int a2)] rfl ?_
      exact hK1 (x14.2.1, x14.2.2.1, x14.2.2.2.1, x14.2.2.2.2)
    · refine E_iload_n 4 dX12_gainsNow_23 rfl rfl ?_
      refine E_aload_n 5 dX12_gainsNow_24 rfl rfl ?_
      refine E_getR 11 (j := 14) (ci := 12) (T := TX12) (C0 := RX12) (ref := "SameWrongModel") dX12_gainsNow_25 rfl (by decide) rfl inX12 (by decide) kw_888 rfl rfl rfl ?_
      refine E_iload 0 dX12_gainsNow_28 rfl ?_
      refine E_iaload dX12_gainsNow_30 rfl (by decide) ?_
      refine E_iadd dX12_gainsNow_31 ?_
      refine E_istore_n [(3, .int (x14.2.2.2.2 + (s.1 11 x14.1.toNatClampNeg))), (7, .int x14.1), (6, .int x14.2.1), (5, .int x14.2.2.1), (4, .int x14.2.2.2.1), (0, .ref (Γ.2.1 0)), (1, .int a1), (2, .int a2)] dX12_gainsNow_32 rfl (by decide) rfl ?_
      refine E_bv (fun v15 => [(3, .int v15), (7, .int x14.1), (6, .int x14.2.1), (5, .int x14.2.2.1), (4, .int x14.2.2.2.1), (0, .ref (Γ.2.1 0)), (1, .int a1), (2, .int a2)]) (fun v15 => ?_) (x14.2.2.2.2 + (s.1 11 x14.1.toNatClampNeg))
      refine E_iload 4 dX12_gainsNow_33 rfl ?_
      refine E_aload_n 5 dX12_gainsNow_35 rfl rfl ?_
      refine E_getR 12 (j := 15) (ci := 12) (T := TX12) (C0 := RX12) (ref := "SameWrongModel") dX12_gainsNow_36 rfl (by decide) rfl inX12 (by decide) kw_889 rfl rfl rfl ?_
      refine E_iload 1 dX12_gainsNow_39 rfl ?_
      refine E_iaload dX12_gainsNow_41 rfl (by decide) ?_
      refine E_iadd dX12_gainsNow_42 ?_
      refine E_istore [(4, .int (x14.2.2.2.1 + (s.1 12 x14.1.toNatClampNeg))), (3, .int v15), (7, .int x14.1), (6, .int x14.2.1), (5, .int x14.2.2.1), (0, .ref (Γ.2.1 0)), (1, .int a1), (2, .int a2)] dX12_gainsNow_43 (by decide) rfl ?_
      refine E_bv (fun v16 => [(4, .int v16), (3, .int v15), (7, .int x14.1), (6, .int x14.2.1), (5, .int x14.2.2.1), (0, .ref (Γ.2.1 0)), (1, .int a1), (2, .int a2)]) (fun v16 => ?_) (x14.2.2.2.1 + (s.1 12 x14.1.toNatClampNeg))
      refine E_iload 4 dX12_gainsNow_45 rfl ?_
      refine E_iload_n 6 dX12_gainsNow_47 rfl rfl ?_
      refine E_iload 2 dX12_gainsNow_48 rfl ?_
      refine E_callSZ [.int a1, .int x14.1] [.int x14.2.2.1] dX12_gainsNow_50 rfl kw_1168 kw_1169 kw_13 ko_X12_isIn hy_X12_isIn rfl (by decide) (Nat.le_of_ble_eq_true rfl) (c_X12_isIn Γ a1 x14.1 s) (fun v17 => ?_)
      refine E_jn 67 (fun (y : Int32) => [(4, .int v16), (3, .int v15), (7, .int x14.1), (6, .int x14.2.1), (0, .ref (Γ.2.1 0)), (1, .int a1), (2, .int a2)]) (fun (y : Int32) => [.int y, .int x14.2.2.1]) (fun (y : Int32) => s) ?_ ?_
      · intro y19
        refine E_iadd dX12_gainsNow_67 ?_
        refine E_istore [(5, .int (x14.2.2.1 + y19)), (4, .int v16), (3, .int v15), (7, .int x14.1), (6, .int x14.2.1), (0, .ref (Γ.2.1 0)), (1, .int a1), (2, .int a2)] dX12_gainsNow_68 (by decide) rfl ?_
        refine E_bv (fun v20 => [(5, .int v20), (4, .int v16), (3, .int v15), (7, .int x14.1), (6, .int x14.2.1), (0, .ref (Γ.2.1 0)), (1, .int a1), (2, .int a2)]) (fun v20 => ?_) (x14.2.2.1 + y19)
        refine E_iload 4 dX12_gainsNow_70 rfl ?_
        refine E_iload_n 6 dX12_gainsNow_72 rfl rfl ?_
        refine E_iload 3 dX12_gainsNow_73 rfl ?_
        refine E_callSZ [.int a1, .int x14.1] [.int x14.2.1] dX12_gainsNow_75 rfl kw_1168 kw_1169 kw_13 ko_X12_isIn hy_X12_isIn rfl (by decide) (Nat.le_of_ble_eq_true rfl) (c_X12_isIn Γ a1 x14.1 s) (fun v21 => ?_)
        refine E_ifeqb 91 dX12_gainsNow_78 (by decide) ?_ ?_
        · refine E_iconst (v := 0) dX12_gainsNow_91 (by decide) ?_
          refine E_iadd dX12_gainsNow_92 ?_
          refine E_istore [(6, .int (x14.2.1 + 0)), (5, .int v20), (4, .int v16), (3, .int v15), (7, .int x14.1), (0, .ref (Γ.2.1 0)), (1, .int a1), (2, .int a2)] dX12_gainsNow_93 (by decide) rfl ?_
          refine E_bv (fun v22 => [(6, .int v22), (5, .int v20), (4, .int v16), (3, .int v15), (7, .int x14.1), (0, .ref (Γ.2.1 0)), (1, .int a1), (2, .int a2)]) (fun v22 => ?_) (x14.2.1 + 0)
          refine E_iinc 4 [(7, .int (x14.1 + 1)), (6, .int v22), (5, .int v20), (4, .int v16), (3, .int v15), (0, .ref (Γ.2.1 0)), (1, .int a1), (2, .int a2)] dX12_gainsNow_95 rfl rfl (by decide) rfl ?_
          refine E_goto 14 dX12_gainsNow_98 (by decide) ?_
          exact hr13 (x14.1 + 1, v22, v20, v16, v15)
        · refine E_aload_n 5 dX12_gainsNow_81 rfl rfl ?_
          refine E_getR 12 (j := 15) (ci := 12) (T := TX12) (C0 := RX12) (ref := "SameWrongModel") dX12_gainsNow_82 rfl (by decide) rfl inX12 (by decide) kw_889 rfl rfl rfl ?_
          refine E_iload 3 dX12_gainsNow_85 rfl ?_
          refine E_iaload dX12_gainsNow_87 rfl (by decide) ?_
          refine E_goto 92 dX12_gainsNow_88 (by decide) ?_
          refine E_iadd dX12_gainsNow_92 ?_
          refine E_istore [(6, .int (x14.2.1 + (s.1 12 x14.1.toNatClampNeg))), (5, .int v20), (4, .int v16), (3, .int v15), (7, .int x14.1), (0, .ref (Γ.2.1 0)), (1, .int a1), (2, .int a2)] dX12_gainsNow_93 (by decide) rfl ?_
          refine E_bv (fun v23 => [(6, .int v23), (5, .int v20), (4, .int v16), (3, .int v15), (7, .int x14.1), (0, .ref (Γ.2.1 0)), (1, .int a1), (2, .int a2)]) (fun v23 => ?_) (x14.2.1 + (s.1 12 x14.1.toNatClampNeg))
          refine E_iinc 4 [(7, .int (x14.1 + 1)), (6, .int v23), (5, .int v20), (4, .int v16), (3, .int v15), (0, .ref (Γ.2.1 0)), (1, .int a1), (2, .int a2)] dX12_gainsNow_95 rfl rfl (by decide) rfl ?_
          refine E_goto 14 dX12_gainsNow_98 (by decide) ?_
          exact hr13 (x14.1 + 1, v23, v20, v16, v15)
      · intro K18 hK18
        refine E_ifeqb 66 dX12_gainsNow_53 (by decide) ?_ ?_
        · refine E_iconst (v := 0) dX12_gainsNow_66 (by decide) ?_
          refine E_lvsub [0, 1, 2, 3, 5, 6, 7] [(4, .int v16), (3, .int v15), (7, .int x14.1), (6, .int x14.2.1), (0, .ref (Γ.2.1 0)), (1, .int a1), (2, .int a2)] rfl ?_
          exact hK18 0
        · refine E_aload_n 5 dX12_gainsNow_56 rfl rfl ?_
          refine E_getR 11 (j := 14) (ci := 12) (T := TX12) (C0 := RX12) (ref := "SameWrongModel") dX12_gainsNow_57 rfl (by decide) rfl inX12 (by decide) kw_888 rfl rfl rfl ?_
          refine E_iload 2 dX12_gainsNow_60 rfl ?_
          refine E_iaload dX12_gainsNow_62 rfl (by decide) ?_
          refine E_goto 67 dX12_gainsNow_63 (by decide) ?_
          refine E_lvsub [0, 1, 2, 3, 5, 6, 7] [(4, .int v16), (3, .int v15), (7, .int x14.1), (6, .int x14.2.1), (0, .ref (Γ.2.1 0)), (1, .int a1), (2, .int a2)] rfl ?_
          exact hK18 (s.1 11 x14.1.toNatClampNeg)
theorem c_X12_gainsNow (Γ : GT) (a1 : Int32) (a2 : Int32) (s : St)  (x : Int64) (h : f_X12_gainsNow a1 a2 s = some x) (l : Launch) : MC l yX12_gainsNow cX12_gainsNow 10 (some .long) 3 WM Γ [.ref (Γ.2.1 0), .int a1, .int a2] s ((emL s) x) := MC_of (by decide +kernel) (Nat.le_of_ble_eq_true rfl) (e_X12_gainsNow Γ a1 a2 s ) h l
set_option maxRecDepth 100000 in
set_option maxHeartbeats 4000000 in
theorem e_X12_gains (Γ : GT) (a1 : Int32) (a2 : Int32) (s : St)  : E RX12 cX12_gains 3 (some .long) 5 WM Γ emLS 0 [(0, .ref (Γ.2.1 0)), (1, .int a1), (2, .int a2)] [] s (f_X12_gains a1 a2 s) := by
  unfold f_X12_gains
  refine E_iload_n 1 dX12_gains_0 rfl rfl ?_
  refine E_iconst (v := 0) dX12_gains_1 (by decide) ?_
  refine E_sipush (v := 1023) dX12_gains_2 (by decide) ?_
  refine E_callSZ [.int a1, .int 0, .int 1023] [] dX12_gains_5 rfl kw_970 kw_971 kw_13 ko_X12_in hy_X12_in rfl (by decide) (Nat.le_of_ble_eq_true rfl) (c_X12_in Γ a1 0 1023 s) (fun v1 => ?_)
  refine E_jn 20 (fun (y : Unit) => []) (fun (y : Unit) => []) (fun (y : Unit) => s) ?_ ?_
  · intro y3
    refine E_bipush (v := (-2)) dX12_gains_20 (by decide) ?_
    refine E_callSL [.int (-2)] [] dX12_gains_22 rfl kw_1125 kw_1126 kw_13 ko_X12_no hy_X12_no rfl (by decide) (Nat.le_of_ble_eq_true rfl) (c_X12_no Γ (-2) s) (fun v4 => ?_)
    exact E_lreturn dX12_gains_25 rfl rfl
  · intro K2 hK2
    refine E_ifeqb 20 dX12_gains_8 (by decide) ?_ ?_
    · refine E_lvsub [] [] rfl ?_
      exact hK2 ()
    · refine E_iload_n 2 dX12_gains_11 rfl rfl ?_
      refine E_iconst (v := 0) dX12_gains_12 (by decide) ?_
      refine E_iconst (v := 1) dX12_gains_13 (by decide) ?_
      refine E_callSZ [.int a2, .int 0, .int 1] [] dX12_gains_14 rfl kw_970 kw_971 kw_13 ko_X12_in hy_X12_in rfl (by decide) (Nat.le_of_ble_eq_true rfl) (c_X12_in Γ a2 0 1 s) (fun v5 => ?_)
      refine E_ifneb 26 dX12_gains_17 (by decide) ?_ ?_
      · refine E_aload_n 0 dX12_gains_26 rfl rfl ?_
        refine E_callVV (T := TX12) (ci := 12) [] [] dX12_gains_27 rfl kw_1044 kw_1046 kp_31 kw_13 ko_X12_lays rfl hy_X12_lays rfl (by decide) (Nat.le_of_ble_eq_true rfl) rfl (by decide) rfl (c_X12_lays Γ s) (fun s6 => ?_)
        refine E_aload_n 0 dX12_gains_30 rfl rfl ?_
        refine E_iload_n 1 dX12_gains_31 rfl rfl ?_
        refine E_iload_n 2 dX12_gains_32 rfl rfl ?_
        refine E_callVL (T := TX12) (ci := 12) [.int a1, .int a2] [] dX12_gains_33 rfl kw_1199 kw_1201 kp_55 kw_13 ko_X12_gainsNow rfl hy_X12_gainsNow rfl (by decide) (Nat.le_of_ble_eq_true rfl) rfl (by decide) rfl (c_X12_gainsNow Γ a1 a2 s6) (fun v7 => ?_)
        exact E_lreturn dX12_gains_36 rfl rfl
      · refine E_lvsub [] [] rfl ?_
        exact hK2 ()
theorem c_X12_gains (Γ : GT) (a1 : Int32) (a2 : Int32) (s : St)  (x : (Int64 × St)) (h : f_X12_gains a1 a2 s = some x) (l : Launch) : MC l yX12_gains cX12_gains 3 (some .long) 5 WM Γ [.ref (Γ.2.1 0), .int a1, .int a2] s (emLS x) := MC_of (by decide +kernel) (Nat.le_of_ble_eq_true rfl) (e_X12_gains Γ a1 a2 s ) h l
set_option maxRecDepth 100000 in
set_option maxHeartbeats 4000000 in
theorem e_X12_countOf (Γ : GT) (a1 : Int32) (a2 : Bool) (a3 : Int32) (s : St)  : E RX12 cX12_countOf 6 (some .int) 2 WM Γ (emI s) 0 [(0, .ref (Γ.2.1 0)), (1, .int a1), (2, .int (bI a2)), (3, .int a3)] [] s (f_X12_countOf a1 a2 a3 s) := by
  unfold f_X12_countOf
  refine E_iconst (v := 0) dX12_countOf_0 (by decide) ?_
  refine E_istore [(4, .int 0), (0, .ref (Γ.2.1 0)), (1, .int a1), (2, .int (bI a2)), (3, .int a3)] dX12_countOf_1 (by decide) rfl ?_
  refine E_iconst (v := 0) dX12_countOf_3 (by decide) ?_
  refine E_istore [(5, .int 0), (4, .int 0), (0, .ref (Γ.2.1 0)), (1, .int a1), (2, .int (bI a2)), (3, .int a3)] dX12_countOf_4 (by decide) rfl ?_
  refine E_lp (F := L_X12_countOf_6 a1 a2 a3 s) (fun (x : Int32 × Int32) => [(5, .int x.1), (4, .int x.2), (0, .ref (Γ.2.1 0)), (1, .int a1), (2, .int (bI a2)), (3, .int a3)]) (fun (x : Int32 × Int32) => s) ?_ NN (0, 0)
  intro r1 hr1 x2
  show E _ _ _ _ _ _ _ _ _ _ _ _ (L_X12_countOf_6 a1 a2 a3 s r1 x2)
  unfold L_X12_countOf_6
  refine E_iload 0 dX12_countOf_6 rfl ?_
  refine E_aload_n 2 dX12_countOf_8 rfl rfl ?_
  refine E_getI (j := 5) (ci := 12) (T := TX12) (C0 := RX12) (ref := "SameWrongModel") dX12_countOf_9 rfl (by decide) rfl inX12 (by decide) kw_879 rfl rfl ?_
  refine E_icmpge 56 dX12_countOf_12 (by decide) ?_ ?_
  · refine E_iload 1 dX12_countOf_56 rfl ?_
    exact E_ireturn dX12_countOf_58 rfl rfl
  · refine E_iload 1 dX12_countOf_15 rfl ?_
    refine E_iload_n 3 dX12_countOf_17 rfl rfl ?_
    refine E_iload 0 dX12_countOf_18 rfl ?_
    refine E_callSZ [.int a1, .int x2.1] [.int x2.2] dX12_countOf_20 rfl kw_1168 kw_1169 kw_13 ko_X12_isIn hy_X12_isIn rfl (by decide) (Nat.le_of_ble_eq_true rfl) (c_X12_isIn Γ a1 x2.1 s) (fun v3 => ?_)
    refine E_iload_n 4 dX12_countOf_23 rfl rfl ?_
    refine E_icmpne 46 dX12_countOf_24 (by decide) ?_ ?_
    · refine E_iconst (v := 0) dX12_countOf_46 (by decide) ?_
      refine E_iadd dX12_countOf_47 ?_
      refine E_istore [(4, .int (x2.2 + 0)), (5, .int x2.1), (0, .ref (Γ.2.1 0)), (1, .int a1), (2, .int (bI a2)), (3, .int a3)] dX12_countOf_48 (by decide) rfl ?_
      refine E_bv (fun v4 => [(4, .int v4), (5, .int x2.1), (0, .ref (Γ.2.1 0)), (1, .int a1), (2, .int (bI a2)), (3, .int a3)]) (fun v4 => ?_) (x2.2 + 0)
      refine E_iinc 1 [(5, .int (x2.1 + 1)), (4, .int v4), (0, .ref (Γ.2.1 0)), (1, .int a1), (2, .int (bI a2)), (3, .int a3)] dX12_countOf_50 rfl rfl (by decide) rfl ?_
      refine E_goto 6 dX12_countOf_53 (by decide) ?_
      exact hr1 (x2.1 + 1, v4)
    · refine E_iload_n 5 dX12_countOf_27 rfl rfl ?_
      refine E_iconst (v := (-1)) dX12_countOf_28 (by decide) ?_
      refine E_icmpeq 42 dX12_countOf_29 (by decide) ?_ ?_
      · refine E_iconst (v := 1) dX12_countOf_42 (by decide) ?_
        refine E_goto 47 dX12_countOf_43 (by decide) ?_
        refine E_iadd dX12_countOf_47 ?_
        refine E_istore [(4, .int (x2.2 + 1)), (5, .int x2.1), (0, .ref (Γ.2.1 0)), (1, .int a1), (2, .int (bI a2)), (3, .int a3)] dX12_countOf_48 (by decide) rfl ?_
        refine E_bv (fun v5 => [(4, .int v5), (5, .int x2.1), (0, .ref (Γ.2.1 0)), (1, .int a1), (2, .int (bI a2)), (3, .int a3)]) (fun v5 => ?_) (x2.2 + 1)
        refine E_iinc 1 [(5, .int (x2.1 + 1)), (4, .int v5), (0, .ref (Γ.2.1 0)), (1, .int a1), (2, .int (bI a2)), (3, .int a3)] dX12_countOf_50 rfl rfl (by decide) rfl ?_
        refine E_goto 6 dX12_countOf_53 (by decide) ?_
        exact hr1 (x2.1 + 1, v5)
      · refine E_aload_n 2 dX12_countOf_32 rfl rfl ?_
        refine E_iload 0 dX12_countOf_33 rfl ?_
        refine E_iload_n 5 dX12_countOf_35 rfl rfl ?_
        refine E_callVZ (T := TX12) (ci := 12) [.int x2.1, .int a3] [.int x2.2] dX12_countOf_36 rfl kw_1075 kw_1077 kp_36 kw_13 ko_X12_isRight rfl hy_X12_isRight rfl (by decide) (Nat.le_of_ble_eq_true rfl) rfl (by decide) rfl (c_X12_isRight Γ x2.1 a3 s) (fun v6 => ?_)
        refine E_ifeqb 46 dX12_countOf_39 (by decide) ?_ ?_
        · refine E_iconst (v := 0) dX12_countOf_46 (by decide) ?_
          refine E_iadd dX12_countOf_47 ?_
          refine E_istore [(4, .int (x2.2 + 0)), (5, .int x2.1), (0, .ref (Γ.2.1 0)), (1, .int a1), (2, .int (bI a2)), (3, .int a3)] dX12_countOf_48 (by decide) rfl ?_
          refine E_bv (fun v7 => [(4, .int v7), (5, .int x2.1), (0, .ref (Γ.2.1 0)), (1, .int a1), (2, .int (bI a2)), (3, .int a3)]) (fun v7 => ?_) (x2.2 + 0)
          refine E_iinc 1 [(5, .int (x2.1 + 1)), (4, .int v7), (0, .ref (Γ.2.1 0)), (1, .int a1), (2, .int (bI a2)), (3, .int a3)] dX12_countOf_50 rfl rfl (by decide) rfl ?_
          refine E_goto 6 dX12_countOf_53 (by decide) ?_
          exact hr1 (x2.1 + 1, v7)
        · refine E_iconst (v := 1) dX12_countOf_42 (by decide) ?_
          refine E_goto 47 dX12_countOf_43 (by decide) ?_
          refine E_iadd dX12_countOf_47 ?_
          refine E_istore [(4, .int (x2.2 + 1)), (5, .int x2.1), (0, .ref (Γ.2.1 0)), (1, .int a1), (2, .int (bI a2)), (3, .int a3)] dX12_countOf_48 (by decide) rfl ?_
          refine E_bv (fun v8 => [(4, .int v8), (5, .int x2.1), (0, .ref (Γ.2.1 0)), (1, .int a1), (2, .int (bI a2)), (3, .int a3)]) (fun v8 => ?_) (x2.2 + 1)
          refine E_iinc 1 [(5, .int (x2.1 + 1)), (4, .int v8), (0, .ref (Γ.2.1 0)), (1, .int a1), (2, .int (bI a2)), (3, .int a3)] dX12_countOf_50 rfl rfl (by decide) rfl ?_
          refine E_goto 6 dX12_countOf_53 (by decide) ?_
          exact hr1 (x2.1 + 1, v8)
theorem c_X12_countOf (Γ : GT) (a1 : Int32) (a2 : Bool) (a3 : Int32) (s : St)  (x : Int32) (h : f_X12_countOf a1 a2 a3 s = some x) (l : Launch) : MC l yX12_countOf cX12_countOf 6 (some .int) 2 WM Γ [.ref (Γ.2.1 0), .int a1, .int (bI a2), .int a3] s ((emI s) x) := MC_of (by decide +kernel) (Nat.le_of_ble_eq_true rfl) (e_X12_countOf Γ a1 a2 a3 s ) h l
set_option maxRecDepth 100000 in
set_option maxHeartbeats 4000000 in
theorem e_X12_known (Γ : GT) (a1 : Int32) (a2 : Int32) (s : St)  : E RX12 cX12_known 6 (some .int) 5 WM Γ emIS 0 [(0, .ref (Γ.2.1 0)), (1, .int a1), (2, .int a2)] [] s (f_X12_known a1 a2 s) := by
  unfold f_X12_known
  refine E_iload_n 1 dX12_known_0 rfl rfl ?_
  refine E_iconst (v := 1) dX12_known_1 (by decide) ?_
  refine E_sipush (v := 1023) dX12_known_2 (by decide) ?_
  refine E_callSZ [.int a1, .int 1, .int 1023] [] dX12_known_5 rfl kw_970 kw_971 kw_13 ko_X12_in hy_X12_in rfl (by decide) (Nat.le_of_ble_eq_true rfl) (c_X12_in Γ a1 1 1023 s) (fun v1 => ?_)
  refine E_ifeqb 31 dX12_known_8 (by decide) ?_ ?_
  · refine E_bipush (v := (-2)) dX12_known_31 (by decide) ?_
    exact E_ireturn dX12_known_33 rfl rfl
  · refine E_aload_n 0 dX12_known_11 rfl rfl ?_
    refine E_iload_n 1 dX12_known_12 rfl rfl ?_
    refine E_iconst (v := 1) dX12_known_13 (by decide) ?_
    refine E_iconst (v := (-1)) dX12_known_14 (by decide) ?_
    refine E_callVI (T := TX12) (ci := 12) [.int a1, .int (bI true), .int (-1)] [] dX12_known_15 rfl kw_1210 kw_1212 kp_56 kw_13 ko_X12_countOf rfl hy_X12_countOf rfl (by decide) (Nat.le_of_ble_eq_true rfl) rfl (by decide) rfl (c_X12_countOf Γ a1 true (-1) s) (fun v2 => ?_)
    refine E_ifeq 31 dX12_known_18 (by decide) ?_ ?_
    · refine E_bipush (v := (-2)) dX12_known_31 (by decide) ?_
      exact E_ireturn dX12_known_33 rfl rfl
    · refine E_iload_n 2 dX12_known_21 rfl rfl ?_
      refine E_iconst (v := 0) dX12_known_22 (by decide) ?_
      refine E_bipush (v := 100) dX12_known_23 (by decide) ?_
      refine E_callSZ [.int a2, .int 0, .int 100] [] dX12_known_25 rfl kw_970 kw_971 kw_13 ko_X12_in hy_X12_in rfl (by decide) (Nat.le_of_ble_eq_true rfl) (c_X12_in Γ a2 0 100 s) (fun v3 => ?_)
      refine E_ifneb 34 dX12_known_28 (by decide) ?_ ?_
      · refine E_aload_n 0 dX12_known_34 rfl rfl ?_
        refine E_callVV (T := TX12) (ci := 12) [] [] dX12_known_35 rfl kw_1044 kw_1046 kp_31 kw_13 ko_X12_lays rfl hy_X12_lays rfl (by decide) (Nat.le_of_ble_eq_true rfl) rfl (by decide) rfl (c_X12_lays Γ s) (fun s4 => ?_)
        refine E_iconst (v := 0) dX12_known_38 (by decide) ?_
        refine E_istore_n [(3, .int 0), (0, .ref (Γ.2.1 0)), (1, .int a1), (2, .int a2)] dX12_known_39 rfl (by decide) rfl ?_
        refine E_iconst (v := 0) dX12_known_40 (by decide) ?_
        refine E_istore [(4, .int 0), (3, .int 0), (0, .ref (Γ.2.1 0)), (1, .int a1), (2, .int a2)] dX12_known_41 (by decide) rfl ?_
        refine E_lp (F := L_X12_known_43 a1 a2 s4) (fun (x : Int32 × Int32) => [(4, .int x.1), (3, .int x.2), (0, .ref (Γ.2.1 0)), (1, .int a1), (2, .int a2)]) (fun (x : Int32 × Int32) => s4) ?_ NN (0, 0)
        intro r5 hr5 x6
        show E _ _ _ _ _ _ _ _ _ _ _ _ (L_X12_known_43 a1 a2 s4 r5 x6)
        unfold L_X12_known_43
        refine E_iload 0 dX12_known_43 rfl ?_
        refine E_aload_n 2 dX12_known_45 rfl rfl ?_
        refine E_getI (j := 0) (ci := 12) (T := TX12) (C0 := RX12) (ref := "SameWrongModel") dX12_known_46 rfl (by decide) rfl inX12 (by decide) kw_874 rfl rfl ?_
        refine E_icmpge 132 dX12_known_49 (by decide) ?_ ?_
        · refine E_iload_n 1 dX12_known_132 rfl rfl ?_
          exact E_ireturn dX12_known_133 rfl rfl
        · refine E_aload_n 2 dX12_known_52 rfl rfl ?_
          refine E_getR 2 (j := 3) (ci := 12) (T := TX12) (C0 := RX12) (ref := "SameWrongModel") dX12_known_53 rfl (by decide) rfl inX12 (by decide) kw_877 rfl rfl rfl ?_
          refine E_iload 0 dX12_known_56 rfl ?_
          refine E_iaload dX12_known_58 rfl (by decide) ?_
          refine E_jn 85 (fun (y : Bool) => [(4, .int x6.1), (3, .int x6.2), (0, .ref (Γ.2.1 0)), (1, .int a1), (2, .int a2)]) (fun (y : Bool) => [.int (bI y)]) (fun (y : Bool) => s4) ?_ ?_
          · intro y8
            refine E_istore [(5, .int (bI y8)), (4, .int x6.1), (3, .int x6.2), (0, .ref (Γ.2.1 0)), (1, .int a1), (2, .int a2)] dX12_known_85 (by decide) rfl ?_
            refine E_iload_n 2 dX12_known_87 rfl rfl ?_
            refine E_iload 0 dX12_known_88 rfl ?_
            refine E_ifeqb 123 dX12_known_90 (by decide) ?_ ?_
            · refine E_iconst (v := 0) dX12_known_123 (by decide) ?_
              refine E_ior dX12_known_124 ?_
              refine E_istore_n [(3, .int (x6.2 ||| 0)), (5, .int (bI y8)), (4, .int x6.1), (0, .ref (Γ.2.1 0)), (1, .int a1), (2, .int a2)] dX12_known_125 rfl (by decide) rfl ?_
              refine E_bv (fun v9 => [(3, .int v9), (5, .int (bI y8)), (4, .int x6.1), (0, .ref (Γ.2.1 0)), (1, .int a1), (2, .int a2)]) (fun v9 => ?_) (x6.2 ||| 0)
              refine E_iinc 2 [(4, .int (x6.1 + 1)), (3, .int v9), (5, .int (bI y8)), (0, .ref (Γ.2.1 0)), (1, .int a1), (2, .int a2)] dX12_known_126 rfl rfl (by decide) rfl ?_
              refine E_goto 43 dX12_known_129 (by decide) ?_
              refine E_lvsub [0, 1, 3, 4, 5] [(4, .int (x6.1 + 1)), (3, .int v9), (0, .ref (Γ.2.1 0)), (1, .int a1), (2, .int a2)] rfl ?_
              exact hr5 (x6.1 + 1, v9)
            · refine E_bipush (v := 100) dX12_known_93 (by decide) ?_
              refine E_aload_n 3 dX12_known_95 rfl rfl ?_
              refine E_iload_n 4 dX12_known_96 rfl rfl ?_
              refine E_iconst (v := 0) dX12_known_97 (by decide) ?_
              refine E_iload 1 dX12_known_98 rfl ?_
              refine E_callVI (T := TX12) (ci := 12) [.int a1, .int (bI false), .int x6.1] [.int 100, .int x6.2] dX12_known_100 rfl kw_1210 kw_1212 kp_56 kw_13 ko_X12_countOf rfl hy_X12_countOf rfl (by decide) (Nat.le_of_ble_eq_true rfl) rfl (by decide) rfl (c_X12_countOf Γ a1 false x6.1 s4) (fun v10 => ?_)
              refine E_imul dX12_known_103 ?_
              refine E_iload_n 5 dX12_known_104 rfl rfl ?_
              refine E_aload_n 3 dX12_known_105 rfl rfl ?_
              refine E_iload_n 4 dX12_known_106 rfl rfl ?_
              refine E_iconst (v := 0) dX12_known_107 (by decide) ?_
              refine E_iconst (v := (-1)) dX12_known_108 (by decide) ?_
              refine E_callVI (T := TX12) (ci := 12) [.int a1, .int (bI false), .int (-1)] [.int a2, .int (100 * v10), .int x6.2] dX12_known_109 rfl kw_1210 kw_1212 kp_56 kw_13 ko_X12_countOf rfl hy_X12_countOf rfl (by decide) (Nat.le_of_ble_eq_true rfl) rfl (by decide) rfl (c_X12_countOf Γ a1 false (-1) s4) (fun v11 => ?_)
              refine E_imul dX12_known_112 ?_
              refine E_icmpgt 123 dX12_known_113 (by decide) ?_ ?_
              · refine E_iconst (v := 0) dX12_known_123 (by decide) ?_
                refine E_ior dX12_known_124 ?_
                refine E_istore_n [(3, .int (x6.2 ||| 0)), (5, .int (bI y8)), (4, .int x6.1), (0, .ref (Γ.2.1 0)), (1, .int a1), (2, .int a2)] dX12_known_125 rfl (by decide) rfl ?_
                refine E_bv (fun v12 => [(3, .int v12), (5, .int (bI y8)), (4, .int x6.1), (0, .ref (Γ.2.1 0)), (1, .int a1), (2, .int a2)]) (fun v12 => ?_) (x6.2 ||| 0)
                refine E_iinc 2 [(4, .int (x6.1 + 1)), (3, .int v12), (5, .int (bI y8)), (0, .ref (Γ.2.1 0)), (1, .int a1), (2, .int a2)] dX12_known_126 rfl rfl (by decide) rfl ?_
                refine E_goto 43 dX12_known_129 (by decide) ?_
                refine E_lvsub [0, 1, 3, 4, 5] [(4, .int (x6.1 + 1)), (3, .int v12), (0, .ref (Γ.2.1 0)), (1, .int a1), (2, .int a2)] rfl ?_
                exact hr5 (x6.1 + 1, v12)
              · refine E_iconst (v := 1) dX12_known_116 (by decide) ?_
                refine E_iload 1 dX12_known_117 rfl ?_
                refine E_ishl dX12_known_119 ?_
                refine E_goto 124 dX12_known_120 (by decide) ?_
                refine E_ior dX12_known_124 ?_
                refine E_istore_n [(3, .int (x6.2 ||| (1 <<< (x6.1 &&& 31)))), (5, .int (bI y8)), (4, .int x6.1), (0, .ref (Γ.2.1 0)), (1, .int a1), (2, .int a2)] dX12_known_125 rfl (by decide) rfl ?_
                refine E_bv (fun v13 => [(3, .int v13), (5, .int (bI y8)), (4, .int x6.1), (0, .ref (Γ.2.1 0)), (1, .int a1), (2, .int a2)]) (fun v13 => ?_) (x6.2 ||| (1 <<< (x6.1 &&& 31)))
                refine E_iinc 2 [(4, .int (x6.1 + 1)), (3, .int v13), (5, .int (bI y8)), (0, .ref (Γ.2.1 0)), (1, .int a1), (2, .int a2)] dX12_known_126 rfl rfl (by decide) rfl ?_
                refine E_goto 43 dX12_known_129 (by decide) ?_
                refine E_lvsub [0, 1, 3, 4, 5] [(4, .int (x6.1 + 1)), (3, .int v13), (0, .ref (Γ.2.1 0)), (1, .int a1), (2, .int a2)] rfl ?_
                exact hr5 (x6.1 + 1, v13)
          · intro K7 hK7
            refine E_ifeq 84 dX12_known_59 (by decide) ?_ ?_
            · refine E_iconst (v := 0) dX12_known_84 (by decide) ?_
              exact hK7 false
            · refine E_aload_n 2 dX12_known_62 rfl rfl ?_
              refine E_iload_n 3 dX12_known_63 rfl rfl ?_
              refine E_iconst (v := 1) dX12_known_64 (by decide) ?_
              refine E_iload 0 dX12_known_65 rfl ?_
              refine E_callVI (T := TX12) (ci := 12) [.int a1, .int (bI true), .int x6.1] [] dX12_known_67 rfl kw_1210 kw_1212 kp_56 kw_13 ko_X12_countOf rfl hy_X12_countOf rfl (by decide) (Nat.le_of_ble_eq_true rfl) rfl (by decide) rfl (c_X12_countOf Γ a1 true x6.1 s4) (fun v14 => ?_)
              refine E_aload_n 2 dX12_known_70 rfl rfl ?_
              refine E_iload_n 3 dX12_known_71 rfl rfl ?_
              refine E_iconst (v := 1) dX12_known_72 (by decide) ?_
              refine E_iconst (v := (-1)) dX12_known_73 (by decide) ?_
              refine E_callVI (T := TX12) (ci := 12) [.int a1, .int (bI true), .int (-1)] [.int v14] dX12_known_74 rfl kw_1210 kw_1212 kp_56 kw_13 ko_X12_countOf rfl hy_X12_countOf rfl (by decide) (Nat.le_of_ble_eq_true rfl) rfl (by decide) rfl (c_X12_countOf Γ a1 true (-1) s4) (fun v15 => ?_)
              refine E_icmpne 84 dX12_known_77 (by decide) ?_ ?_
              · refine E_iconst (v := 0) dX12_known_84 (by decide) ?_
                exact hK7 false
              · refine E_iconst (v := 1) dX12_known_80 (by decide) ?_
                refine E_goto 85 dX12_known_81 (by decide) ?_
                exact hK7 true
      · refine E_bipush (v := (-2)) dX12_known_31 (by decide) ?_
        exact E_ireturn dX12_known_33 rfl rfl
theorem c_X12_known (Γ : GT) (a1 : Int32) (a2 : Int32) (s : St)  (x : (Int32 × St)) (h : f_X12_known a1 a2 s = some x) (l : Launch) : MC l yX12_known cX12_known 6 (some .int) 5 WM Γ [.ref (Γ.2.1 0), .int a1, .int a2] s (emIS x) := MC_of (by decide +kernel) (Nat.le_of_ble_eq_true rfl) (e_X12_known Γ a1 a2 s ) h l
set_option maxRecDepth 100000 in
set_option maxHeartbeats 4000000 in
theorem e_X12_lead (Γ : GT) (a1 : Int32) (a2 : Int32) (a3 : Int32) (s : St)  : E RX12 cX12_lead 6 (some .long) 5 WM Γ emLS 0 [(0, .ref (Γ.2.1 0)), (1, .int a1), (2, .int a2), (3, .int a3)] [] s (f_X12_lead a1 a2 a3 s) := by
  unfold f_X12_lead
  refine E_aload_n 0 dX12_lead_0 rfl rfl ?_
  refine E_iload_n 1 dX12_lead_1 rfl rfl ?_
  refine E_callVZ (T := TX12) (ci := 12) [.int a1] [] dX12_lead_2 rfl kw_993 kw_995 kp_24 kw_13 ko_X12_isQuestion rfl hy_X12_isQuestion rfl (by decide) (Nat.le_of_ble_eq_true rfl) rfl (by decide) rfl (c_X12_isQuestion Γ a1 s) (fun v1 => ?_)
  refine E_jn 28 (fun (y : Unit) => []) (fun (y : Unit) => []) (fun (y : Unit) => s) ?_ ?_
  · intro y3
    refine E_bipush (v := (-2)) dX12_lead_28 (by decide) ?_
    refine E_callSL [.int (-2)] [] dX12_lead_30 rfl kw_1125 kw_1126 kw_13 ko_X12_no hy_X12_no rfl (by decide) (Nat.le_of_ble_eq_true rfl) (c_X12_no Γ (-2) s) (fun v4 => ?_)
    exact E_lreturn dX12_lead_33 rfl rfl
  · intro K2 hK2
    refine E_ifeqb 28 dX12_lead_5 (by decide) ?_ ?_
    · refine E_lvsub [] [] rfl ?_
      exact hK2 ()
    · refine E_iload_n 2 dX12_lead_8 rfl rfl ?_
      refine E_iconst (v := 0) dX12_lead_9 (by decide) ?_
      refine E_sipush (v := 1023) dX12_lead_10 (by decide) ?_
      refine E_callSZ [.int a2, .int 0, .int 1023] [] dX12_lead_13 rfl kw_970 kw_971 kw_13 ko_X12_in hy_X12_in rfl (by decide) (Nat.le_of_ble_eq_true rfl) (c_X12_in Γ a2 0 1023 s) (fun v5 => ?_)
      refine E_ifeqb 28 dX12_lead_16 (by decide) ?_ ?_
      · refine E_lvsub [] [] rfl ?_
        exact hK2 ()
      · refine E_iload_n 3 dX12_lead_19 rfl rfl ?_
        refine E_iconst (v := 0) dX12_lead_20 (by decide) ?_
        refine E_iconst (v := 1) dX12_lead_21 (by decide) ?_
        refine E_callSZ [.int a3, .int 0, .int 1] [] dX12_lead_22 rfl kw_970 kw_971 kw_13 ko_X12_in hy_X12_in rfl (by decide) (Nat.le_of_ble_eq_true rfl) (c_X12_in Γ a3 0 1 s) (fun v6 => ?_)
        refine E_ifneb 34 dX12_lead_25 (by decide) ?_ ?_
        · refine E_aload_n 0 dX12_lead_34 rfl rfl ?_
          refine E_callVV (T := TX12) (ci := 12) [] [] dX12_lead_35 rfl kw_1044 kw_1046 kp_31 kw_13 ko_X12_lays rfl hy_X12_lays rfl (by decide) (Nat.le_of_ble_eq_true rfl) rfl (by decide) rfl (c_X12_lays Γ s) (fun s7 => ?_)
          refine E_aload_n 0 dX12_lead_38 rfl rfl ?_
          refine E_iload_n 2 dX12_lead_39 rfl rfl ?_
          refine E_iconst (v := 1) dX12_lead_40 (by decide) ?_
          refine E_iconst (v := (-1)) dX12_lead_41 (by decide) ?_
          refine E_callVI (T := TX12) (ci := 12) [.int a2, .int (bI true), .int (-1)] [] dX12_lead_42 rfl kw_1210 kw_1212 kp_56 kw_13 ko_X12_countOf rfl hy_X12_countOf rfl (by decide) (Nat.le_of_ble_eq_true rfl) rfl (by decide) rfl (c_X12_countOf Γ a2 true (-1) s7) (fun v8 => ?_)
          refine E_istore [(4, .int v8), (0, .ref (Γ.2.1 0)), (1, .int a1), (2, .int a2), (3, .int a3)] dX12_lead_45 (by decide) rfl ?_
          refine E_aload_n 1 dX12_lead_47 rfl rfl ?_
          refine E_iload_n 3 dX12_lead_48 rfl rfl ?_
          refine E_iconst (v := 0) dX12_lead_49 (by decide) ?_
          refine E_iconst (v := (-1)) dX12_lead_50 (by decide) ?_
          refine E_callVI (T := TX12) (ci := 12) [.int a2, .int (bI false), .int (-1)] [] dX12_lead_51 rfl kw_1210 kw_1212 kp_56 kw_13 ko_X12_countOf rfl hy_X12_countOf rfl (by decide) (Nat.le_of_ble_eq_true rfl) rfl (by decide) rfl (c_X12_countOf Γ a2 false (-1) s7) (fun v9 => ?_)
          refine E_istore [(5, .int v9), (4, .int v8), (0, .ref (Γ.2.1 0)), (1, .int a1), (2, .int a2), (3, .int a3)] dX12_lead_54 (by decide) rfl ?_
          refine E_iload 1 dX12_lead_56 rfl ?_
          refine E_jn 75 (fun (y : Unit) => []) (fun (y : Unit) => []) (fun (y : Unit) => s7) ?_ ?_
          · intro y11
            refine E_bipush (v := (-3)) dX12_lead_75 (by decide) ?_
            refine E_callSL [.int (-3)] [] dX12_lead_77 rfl kw_1125 kw_1126 kw_13 ko_X12_no hy_X12_no rfl (by decide) (Nat.le_of_ble_eq_true rfl) (c_X12_no Γ (-3) s7) (fun v12 => ?_)
            exact E_lreturn dX12_lead_80 rfl rfl
          · intro K10 hK10
            refine E_ifeq 75 dX12_lead_58 (by decide) ?_ ?_
            · refine E_lvsub [] [] rfl ?_
              exact hK10 ()
            · refine E_iload 0 dX12_lead_61 rfl ?_
              refine E_ifeq 75 dX12_lead_63 (by decide) ?_ ?_
              · refine E_lvsub [] [] rfl ?_
                exact hK10 ()
              · refine E_aload_n 2 dX12_lead_66 rfl rfl ?_
                refine E_getR 2 (j := 3) (ci := 12) (T := TX12) (C0 := RX12) (ref := "SameWrongModel") dX12_lead_67 rfl (by decide) rfl inX12 (by decide) kw_877 rfl rfl rfl ?_
                refine E_iload_n 3 dX12_lead_70 rfl rfl ?_
                refine E_iaload dX12_lead_71 rfl (by decide) ?_
                refine E_ifne 81 dX12_lead_72 (by decide) ?_ ?_
                · refine E_aload_n 2 dX12_lead_81 rfl rfl ?_
                  refine E_iload_n 4 dX12_lead_82 rfl rfl ?_
                  refine E_iconst (v := 1) dX12_lead_83 (by decide) ?_
                  refine E_iload_n 3 dX12_lead_84 rfl rfl ?_
                  refine E_callVI (T := TX12) (ci := 12) [.int a2, .int (bI true), .int a1] [] dX12_lead_85 rfl kw_1210 kw_1212 kp_56 kw_13 ko_X12_countOf rfl hy_X12_countOf rfl (by decide) (Nat.le_of_ble_eq_true rfl) rfl (by decide) rfl (c_X12_countOf Γ a2 true a1 s7) (fun v13 => ?_)
                  refine E_iload 0 dX12_lead_88 rfl ?_
                  refine E_imul dX12_lead_90 ?_
                  refine E_aload_n 2 dX12_lead_91 rfl rfl ?_
                  refine E_iload_n 4 dX12_lead_92 rfl rfl ?_
                  refine E_iconst (v := 0) dX12_lead_93 (by decide) ?_
                  refine E_iload_n 3 dX12_lead_94 rfl rfl ?_
                  refine E_callVI (T := TX12) (ci := 12) [.int a2, .int (bI false), .int a1] [.int (v13 * v9)] dX12_lead_95 rfl kw_1210 kw_1212 kp_56 kw_13 ko_X12_countOf rfl hy_X12_countOf rfl (by decide) (Nat.le_of_ble_eq_true rfl) rfl (by decide) rfl (c_X12_countOf Γ a2 false a1 s7) (fun v14 => ?_)
                  refine E_iload 1 dX12_lead_98 rfl ?_
                  refine E_imul dX12_lead_100 ?_
                  refine E_isub dX12_lead_101 ?_
                  refine E_i2l dX12_lead_102 ?_
                  refine E_iload 1 dX12_lead_103 rfl ?_
                  refine E_iload 0 dX12_lead_105 rfl ?_
                  refine E_imul dX12_lead_107 ?_
                  refine E_i2l dX12_lead_108 ?_
                  refine E_iload_n 5 dX12_lead_109 rfl rfl ?_
                  refine E_callSL [.long (((v13 * v9) - (v14 * v8)).toInt64), .long ((v8 * v9).toInt64), .int a3] [] dX12_lead_110 rfl kw_1129 kw_1130 kw_13 ko_X12_lowest hy_X12_lowest rfl (by decide) (Nat.le_of_ble_eq_true rfl) (c_X12_lowest Γ (((v13 * v9) - (v14 * v8)).toInt64) ((v8 * v9).toInt64) a3 s7) (fun v15 => ?_)
                  exact E_lreturn dX12_lead_113 rfl rfl
                · refine E_lvsub [] [] rfl ?_
                  exact hK10 ()
        · refine E_lvsub [] [] rfl ?_
          exact hK2 ()
theorem c_X12_lead (Γ : GT) (a1 : Int32) (a2 : Int32) (a3 : Int32) (s : St)  (x : (Int64 × St)) (h : f_X12_lead a1 a2 a3 s = some x) (l : Launch) : MC l yX12_lead cX12_lead 6 (some .long) 5 WM Γ [.ref (Γ.2.1 0), .int a1, .int a2, .int a3] s (emLS x) := MC_of (by decide +kernel) (Nat.le_of_ble_eq_true rfl) (e_X12_lead Γ a1 a2 a3 s ) h l
set_option maxRecDepth 100000 in
set_option maxHeartbeats 4000000 in
theorem e_X12_choseMany (Γ : GT) (a1 : Int32) (a2 : Int32) (s : St)  : E RX12 cX12_choseMany 5 (some .int) 1 WM Γ (emI s) 0 [(0, .ref (Γ.2.1 0)), (1, .int a1), (2, .int a2)] [] s (f_X12_choseMany a1 a2 s) := by
  unfold f_X12_choseMany
  refine E_iconst (v := 0) dX12_choseMany_0 (by decide) ?_
  refine E_istore_n [(3, .int 0), (0, .ref (Γ.2.1 0)), (1, .int a1), (2, .int a2)] dX12_choseMany_1 rfl (by decide) rfl ?_
  refine E_iconst (v := 0) dX12_choseMany_2 (by decide) ?_
  refine E_istore [(4, .int 0), (3, .int 0), (0, .ref (Γ.2.1 0)), (1, .int a1), (2, .int a2)] dX12_choseMany_3 (by decide) rfl ?_
  refine E_lp (F := L_X12_choseMany_5 a1 a2 s) (fun (x : Int32 × Int32) => [(4, .int x.1), (3, .int x.2), (0, .ref (Γ.2.1 0)), (1, .int a1), (2, .int a2)]) (fun (x : Int32 × Int32) => s) ?_ NN (0, 0)
  intro r1 hr1 x2
  show E _ _ _ _ _ _ _ _ _ _ _ _ (L_X12_choseMany_5 a1 a2 s r1 x2)
  unfold L_X12_choseMany_5
  refine E_iload 0 dX12_choseMany_5 rfl ?_
  refine E_aload_n 2 dX12_choseMany_7 rfl rfl ?_
  refine E_getI (j := 5) (ci := 12) (T := TX12) (C0 := RX12) (ref := "SameWrongModel") dX12_choseMany_8 rfl (by decide) rfl inX12 (by decide) kw_879 rfl rfl ?_
  refine E_icmpge 44 dX12_choseMany_11 (by decide) ?_ ?_
  · refine E_iload_n 1 dX12_choseMany_44 rfl rfl ?_
    exact E_ireturn dX12_choseMany_45 rfl rfl
  · refine E_iload_n 1 dX12_choseMany_14 rfl rfl ?_
    refine E_aload_n 2 dX12_choseMany_15 rfl rfl ?_
    refine E_getR 10 (j := 13) (ci := 12) (T := TX12) (C0 := RX12) (ref := "SameWrongModel") dX12_choseMany_16 rfl (by decide) rfl inX12 (by decide) kw_887 rfl rfl rfl ?_
    refine E_bipush (v := 12) dX12_choseMany_19 (by decide) ?_
    refine E_iload 0 dX12_choseMany_21 rfl ?_
    refine E_imul dX12_choseMany_23 ?_
    refine E_iload_n 3 dX12_choseMany_24 rfl rfl ?_
    refine E_iadd dX12_choseMany_25 ?_
    refine E_iaload dX12_choseMany_26 rfl (by decide) ?_
    refine E_iload_n 4 dX12_choseMany_27 rfl rfl ?_
    refine E_icmpne 35 dX12_choseMany_28 (by decide) ?_ ?_
    · refine E_iconst (v := 0) dX12_choseMany_35 (by decide) ?_
      refine E_iadd dX12_choseMany_36 ?_
      refine E_istore_n [(3, .int (x2.2 + 0)), (4, .int x2.1), (0, .ref (Γ.2.1 0)), (1, .int a1), (2, .int a2)] dX12_choseMany_37 rfl (by decide) rfl ?_
      refine E_bv (fun v3 => [(3, .int v3), (4, .int x2.1), (0, .ref (Γ.2.1 0)), (1, .int a1), (2, .int a2)]) (fun v3 => ?_) (x2.2 + 0)
      refine E_iinc 1 [(4, .int (x2.1 + 1)), (3, .int v3), (0, .ref (Γ.2.1 0)), (1, .int a1), (2, .int a2)] dX12_choseMany_38 rfl rfl (by decide) rfl ?_
      refine E_goto 5 dX12_choseMany_41 (by decide) ?_
      exact hr1 (x2.1 + 1, v3)
    · refine E_iconst (v := 1) dX12_choseMany_31 (by decide) ?_
      refine E_goto 36 dX12_choseMany_32 (by decide) ?_
      refine E_iadd dX12_choseMany_36 ?_
      refine E_istore_n [(3, .int (x2.2 + 1)), (4, .int x2.1), (0, .ref (Γ.2.1 0)), (1, .int a1), (2, .int a2)] dX12_choseMany_37 rfl (by decide) rfl ?_
      refine E_bv (fun v4 => [(3, .int v4), (4, .int x2.1), (0, .ref (Γ.2.1 0)), (1, .int a1), (2, .int a2)]) (fun v4 => ?_) (x2.2 + 1)
      refine E_iinc 1 [(4, .int (x2.1 + 1)), (3, .int v4), (0, .ref (Γ.2.1 0)), (1, .int a1), (2, .int a2)] dX12_choseMany_38 rfl rfl (by decide) rfl ?_
      refine E_goto 5 dX12_choseMany_41 (by decide) ?_
      exact hr1 (x2.1 + 1, v4)
theorem c_X12_choseMany (Γ : GT) (a1 : Int32) (a2 : Int32) (s : St)  (x : Int32) (h : f_X12_choseMany a1 a2 s = some x) (l : Launch) : MC l yX12_choseMany cX12_choseMany 5 (some .int) 1 WM Γ [.ref (Γ.2.1 0), .int a1, .int a2] s ((emI s) x) := MC_of (by decide +kernel) (Nat.le_of_ble_eq_true rfl) (e_X12_choseMany Γ a1 a2 s ) h l
set_option maxRecDepth 100000 in
set_option maxHeartbeats 4000000 in
theorem e_X12_restSum (Γ : GT) (a1 : Int32) (a2 : Int32) (s : St)  : E RX12 cX12_restSum 5 (some .int) 3 WM Γ (emI s) 0 [(0, .ref (Γ.2.1 0)), (1, .int a1), (2, .int a2)] [] s (f_X12_restSum a1 a2 s) := by
  unfold f_X12_restSum
  refine E_iconst (v := 0) dX12_restSum_0 (by decide) ?_
  refine E_istore_n [(3, .int 0), (0, .ref (Γ.2.1 0)), (1, .int a1), (2, .int a2)] dX12_restSum_1 rfl (by decide) rfl ?_
  refine E_iconst (v := 0) dX12_restSum_2 (by decide) ?_
  refine E_istore [(4, .int 0), (3, .int 0), (0, .ref (Γ.2.1 0)), (1, .int a1), (2, .int a2)] dX12_restSum_3 (by decide) rfl ?_
  refine E_lp (F := L_X12_restSum_5 a1 a2 s) (fun (x : Int32 × Int32) => [(4, .int x.1), (3, .int x.2), (0, .ref (Γ.2.1 0)), (1, .int a1), (2, .int a2)]) (fun (x : Int32 × Int32) => s) ?_ NN (0, 0)
  intro r1 hr1 x2
  show E _ _ _ _ _ _ _ _ _ _ _ _ (L_X12_restSum_5 a1 a2 s r1 x2)
  unfold L_X12_restSum_5
  refine E_iload 0 dX12_restSum_5 rfl ?_
  refine E_aload_n 2 dX12_restSum_7 rfl rfl ?_
  refine E_getI (j := 5) (ci := 12) (T := TX12) (C0 := RX12) (ref := "SameWrongModel") dX12_restSum_8 rfl (by decide) rfl inX12 (by decide) kw_879 rfl rfl ?_
  refine E_icmpge 50 dX12_restSum_11 (by decide) ?_ ?_
  · refine E_iload_n 1 dX12_restSum_50 rfl rfl ?_
    exact E_ireturn dX12_restSum_51 rfl rfl
  · refine E_iload_n 1 dX12_restSum_14 rfl rfl ?_
    refine E_aload_n 2 dX12_restSum_15 rfl rfl ?_
    refine E_getR 10 (j := 13) (ci := 12) (T := TX12) (C0 := RX12) (ref := "SameWrongModel") dX12_restSum_16 rfl (by decide) rfl inX12 (by decide) kw_887 rfl rfl rfl ?_
    refine E_bipush (v := 12) dX12_restSum_19 (by decide) ?_
    refine E_iload 0 dX12_restSum_21 rfl ?_
    refine E_imul dX12_restSum_23 ?_
    refine E_iload_n 3 dX12_restSum_24 rfl rfl ?_
    refine E_iadd dX12_restSum_25 ?_
    refine E_iaload dX12_restSum_26 rfl (by decide) ?_
    refine E_iload_n 4 dX12_restSum_27 rfl rfl ?_
    refine E_icmpne 41 dX12_restSum_28 (by decide) ?_ ?_
    · refine E_iconst (v := 0) dX12_restSum_41 (by decide) ?_
      refine E_iadd dX12_restSum_42 ?_
      refine E_istore_n [(3, .int (x2.2 + 0)), (4, .int x2.1), (0, .ref (Γ.2.1 0)), (1, .int a1), (2, .int a2)] dX12_restSum_43 rfl (by decide) rfl ?_
      refine E_bv (fun v3 => [(3, .int v3), (4, .int x2.1), (0, .ref (Γ.2.1 0)), (1, .int a1), (2, .int a2)]) (fun v3 => ?_) (x2.2 + 0)
      refine E_iinc 1 [(4, .int (x2.1 + 1)), (3, .int v3), (0, .ref (Γ.2.1 0)), (1, .int a1), (2, .int a2)] dX12_restSum_44 rfl rfl (by decide) rfl ?_
      refine E_goto 5 dX12_restSum_47 (by decide) ?_
      exact hr1 (x2.1 + 1, v3)
    · refine E_aload_n 2 dX12_restSum_31 rfl rfl ?_
      refine E_iload 0 dX12_restSum_32 rfl ?_
      refine E_iload_n 3 dX12_restSum_34 rfl rfl ?_
      refine E_callVI (T := TX12) (ci := 12) [.int x2.1, .int a1] [.int x2.2] dX12_restSum_35 rfl kw_1071 kw_1073 kp_35 kw_13 ko_X12_markBut rfl hy_X12_markBut rfl (by decide) (Nat.le_of_ble_eq_true rfl) rfl (by decide) rfl (c_X12_markBut Γ x2.1 a1 s) (fun v4 => ?_)
      refine E_goto 42 dX12_restSum_38 (by decide) ?_
      refine E_iadd dX12_restSum_42 ?_
      refine E_istore_n [(3, .int (x2.2 + v4)), (4, .int x2.1), (0, .ref (Γ.2.1 0)), (1, .int a1), (2, .int a2)] dX12_restSum_43 rfl (by decide) rfl ?_
      refine E_bv (fun v5 => [(3, .int v5), (4, .int x2.1), (0, .ref (Γ.2.1 0)), (1, .int a1), (2, .int a2)]) (fun v5 => ?_) (x2.2 + v4)
      refine E_iinc 1 [(4, .int (x2.1 + 1)), (3, .int v5), (0, .ref (Γ.2.1 0)), (1, .int a1), (2, .int a2)] dX12_restSum_44 rfl rfl (by decide) rfl ?_
      refine E_goto 5 dX12_restSum_47 (by decide) ?_
      exact hr1 (x2.1 + 1, v5)
theorem c_X12_restSum (Γ : GT) (a1 : Int32) (a2 : Int32) (s : St)  (x : Int32) (h : f_X12_restSum a1 a2 s = some x) (l : Launch) : MC l yX12_restSum cX12_restSum 5 (some .int) 3 WM Γ [.ref (Γ.2.1 0), .int a1, .int a2] s ((emI s) x) := MC_of (by decide +kernel) (Nat.le_of_ble_eq_true rfl) (e_X12_restSum Γ a1 a2 s ) h l
set_option maxRecDepth 100000 in
set_option maxHeartbeats 4000000 in
theorem e_X12_rest (Γ : GT) (a1 : Int32) (a2 : Int32) (a3 : Int32) (s : St)  : E RX12 cX12_rest 5 (some .long) 5 WM Γ emLS 0 [(0, .ref (Γ.2.1 0)), (1, .int a1), (2, .int a2), (3, .int a3)] [] s (f_X12_rest a1 a2 a3 s) := by
  unfold f_X12_rest
  refine E_aload_n 0 dX12_rest_0 rfl rfl ?_
  refine E_iload_n 1 dX12_rest_1 rfl rfl ?_
  refine E_callVZ (T := TX12) (ci := 12) [.int a1] [] dX12_rest_2 rfl kw_993 kw_995 kp_24 kw_13 ko_X12_isQuestion rfl hy_X12_isQuestion rfl (by decide) (Nat.le_of_ble_eq_true rfl) rfl (by decide) rfl (c_X12_isQuestion Γ a1 s) (fun v1 => ?_)
  refine E_jn 26 (fun (y : Unit) => []) (fun (y : Unit) => []) (fun (y : Unit) => s) ?_ ?_
  · intro y3
    refine E_bipush (v := (-2)) dX12_rest_26 (by decide) ?_
    refine E_callSL [.int (-2)] [] dX12_rest_28 rfl kw_1125 kw_1126 kw_13 ko_X12_no hy_X12_no rfl (by decide) (Nat.le_of_ble_eq_true rfl) (c_X12_no Γ (-2) s) (fun v4 => ?_)
    exact E_lreturn dX12_rest_31 rfl rfl
  · intro K2 hK2
    refine E_ifeqb 26 dX12_rest_5 (by decide) ?_ ?_
    · refine E_lvsub [] [] rfl ?_
      exact hK2 ()
    · refine E_iload_n 2 dX12_rest_8 rfl rfl ?_
      refine E_iconst (v := 1) dX12_rest_9 (by decide) ?_
      refine E_iconst (v := 5) dX12_rest_10 (by decide) ?_
      refine E_callSZ [.int a2, .int 1, .int 5] [] dX12_rest_11 rfl kw_970 kw_971 kw_13 ko_X12_in hy_X12_in rfl (by decide) (Nat.le_of_ble_eq_true rfl) (c_X12_in Γ a2 1 5 s) (fun v5 => ?_)
      refine E_ifeqb 26 dX12_rest_14 (by decide) ?_ ?_
      · refine E_lvsub [] [] rfl ?_
        exact hK2 ()
      · refine E_iload_n 3 dX12_rest_17 rfl rfl ?_
        refine E_iconst (v := 0) dX12_rest_18 (by decide) ?_
        refine E_iconst (v := 1) dX12_rest_19 (by decide) ?_
        refine E_callSZ [.int a3, .int 0, .int 1] [] dX12_rest_20 rfl kw_970 kw_971 kw_13 ko_X12_in hy_X12_in rfl (by decide) (Nat.le_of_ble_eq_true rfl) (c_X12_in Γ a3 0 1 s) (fun v6 => ?_)
        refine E_ifneb 32 dX12_rest_23 (by decide) ?_ ?_
        · refine E_aload_n 0 dX12_rest_32 rfl rfl ?_
          refine E_callVV (T := TX12) (ci := 12) [] [] dX12_rest_33 rfl kw_1044 kw_1046 kp_31 kw_13 ko_X12_lays rfl hy_X12_lays rfl (by decide) (Nat.le_of_ble_eq_true rfl) rfl (by decide) rfl (c_X12_lays Γ s) (fun s7 => ?_)
          refine E_aload_n 0 dX12_rest_36 rfl rfl ?_
          refine E_iload_n 1 dX12_rest_37 rfl rfl ?_
          refine E_iload_n 2 dX12_rest_38 rfl rfl ?_
          refine E_callVI (T := TX12) (ci := 12) [.int a1, .int a2] [] dX12_rest_39 rfl kw_1222 kw_1224 kp_57 kw_13 ko_X12_choseMany rfl hy_X12_choseMany rfl (by decide) (Nat.le_of_ble_eq_true rfl) rfl (by decide) rfl (c_X12_choseMany Γ a1 a2 s7) (fun v8 => ?_)
          refine E_istore [(4, .int v8), (0, .ref (Γ.2.1 0)), (1, .int a1), (2, .int a2), (3, .int a3)] dX12_rest_42 (by decide) rfl ?_
          refine E_iload 0 dX12_rest_44 rfl ?_
          refine E_ifne 57 dX12_rest_46 (by decide) ?_ ?_
          · refine E_aload_n 1 dX12_rest_57 rfl rfl ?_
            refine E_iload_n 2 dX12_rest_58 rfl rfl ?_
            refine E_iload_n 3 dX12_rest_59 rfl rfl ?_
            refine E_callVI (T := TX12) (ci := 12) [.int a1, .int a2] [] dX12_rest_60 rfl kw_1226 kw_1228 kp_58 kw_13 ko_X12_restSum rfl hy_X12_restSum rfl (by decide) (Nat.le_of_ble_eq_true rfl) rfl (by decide) rfl (c_X12_restSum Γ a1 a2 s7) (fun v9 => ?_)
            refine E_i2l dX12_rest_63 ?_
            refine E_iload 0 dX12_rest_64 rfl ?_
            refine E_i2l dX12_rest_66 ?_
            refine E_iload_n 4 dX12_rest_67 rfl rfl ?_
            refine E_callSL [.long v9.toInt64, .long v8.toInt64, .int a3] [] dX12_rest_68 rfl kw_1129 kw_1130 kw_13 ko_X12_lowest hy_X12_lowest rfl (by decide) (Nat.le_of_ble_eq_true rfl) (c_X12_lowest Γ v9.toInt64 v8.toInt64 a3 s7) (fun v10 => ?_)
            exact E_lreturn dX12_rest_71 rfl rfl
          · refine E_bipush (v := (-3)) dX12_rest_49 (by decide) ?_
            refine E_callSL [.int (-3)] [] dX12_rest_51 rfl kw_1125 kw_1126 kw_13 ko_X12_no hy_X12_no rfl (by decide) (Nat.le_of_ble_eq_true rfl) (c_X12_no Γ (-3) s7) (fun v11 => ?_)
            refine E_goto 71 dX12_rest_54 (by decide) ?_
            exact E_lreturn dX12_rest_71 rfl rfl
        · refine E_lvsub [] [] rfl ?_
          exact hK2 ()
theorem c_X12_rest (Γ : GT) (a1 : Int32) (a2 : Int32) (a3 : Int32) (s : St)  (x : (Int64 × St)) (h : f_X12_rest a1 a2 a3 s = some x) (l : Launch) : MC l yX12_rest cX12_rest 5 (some .long) 5 WM Γ [.ref (Γ.2.1 0), .int a1, .int a2, .int a3] s (emLS x) := MC_of (by decide +kernel) (Nat.le_of_ble_eq_true rfl) (e_X12_rest Γ a1 a2 a3 s ) h l
set_option maxRecDepth 100000 in
set_option maxHeartbeats 4000000 in
theorem e_X12_shouldNow (Γ : GT) (a1 : Int32) (s : St)  : E RX12 cX12_shouldNow 9 (some .int) 4 WM Γ (emI s) 0 [(0, .ref (Γ.2.1 0)), (1, .int a1)] [] s (f_X12_shouldNow a1 s) := by
  unfold f_X12_shouldNow
  refine E_iconst (v := (-1)) dX12_shouldNow_0 (by decide) ?_
  refine E_istore_n [(2, .int (-1)), (0, .ref (Γ.2.1 0)), (1, .int a1)] dX12_shouldNow_1 rfl (by decide) rfl ?_
  refine E_iconst (v := 0) dX12_shouldNow_2 (by decide) ?_
  refine E_istore_n [(3, .int 0), (2, .int (-1)), (0, .ref (Γ.2.1 0)), (1, .int a1)] dX12_shouldNow_3 rfl (by decide) rfl ?_
  refine E_iconst (v := 1) dX12_shouldNow_4 (by decide) ?_
  refine E_istore [(4, .int 1), (3, .int 0), (2, .int (-1)), (0, .ref (Γ.2.1 0)), (1, .int a1)] dX12_shouldNow_5 (by decide) rfl ?_
  refine E_iconst (v := 1) dX12_shouldNow_7 (by decide) ?_
  refine E_istore [(5, .int 1), (4, .int 1), (3, .int 0), (2, .int (-1)), (0, .ref (Γ.2.1 0)), (1, .int a1)] dX12_shouldNow_8 (by decide) rfl ?_
  refine E_lp (F := L_X12_shouldNow_10 a1 s) (fun (x : Int32 × Int32 × Int32 × Int32) => [(5, .int x.1), (4, .int x.2.1), (3, .int x.2.2.1), (2, .int x.2.2.2), (0, .ref (Γ.2.1 0)), (1, .int a1)]) (fun (x : Int32 × Int32 × Int32 × Int32) => s) ?_ NN (1, 1, 0, (-1))
  intro r1 hr1 x2
  show E _ _ _ _ _ _ _ _ _ _ _ _ (L_X12_shouldNow_10 a1 s r1 x2)
  unfold L_X12_shouldNow_10
  refine E_iload 0 dX12_shouldNow_10 rfl ?_
  refine E_bipush (v := 6) dX12_shouldNow_12 (by decide) ?_
  refine E_icmpge 127 dX12_shouldNow_14 (by decide) ?_ ?_
  · refine E_iload_n 3 dX12_shouldNow_127 rfl rfl ?_
    exact E_ireturn dX12_shouldNow_128 rfl rfl
  · refine E_aload_n 4 dX12_shouldNow_17 rfl rfl ?_
    refine E_iload_n 5 dX12_shouldNow_18 rfl rfl ?_
    refine E_iload 0 dX12_shouldNow_19 rfl ?_
    refine E_callVI (T := TX12) (ci := 12) [.int a1, .int x2.1] [] dX12_shouldNow_21 rfl kw_1222 kw_1224 kp_57 kw_13 ko_X12_choseMany rfl hy_X12_choseMany rfl (by decide) (Nat.le_of_ble_eq_true rfl) rfl (by decide) rfl (c_X12_choseMany Γ a1 x2.1 s) (fun v3 => ?_)
    refine E_istore [(6, .int v3), (5, .int x2.1), (4, .int x2.2.1), (3, .int x2.2.2.1), (2, .int x2.2.2.2), (0, .ref (Γ.2.1 0)), (1, .int a1)] dX12_shouldNow_24 (by decide) rfl ?_
    refine E_aload_n 5 dX12_shouldNow_26 rfl rfl ?_
    refine E_iload_n 6 dX12_shouldNow_27 rfl rfl ?_
    refine E_iload 1 dX12_shouldNow_28 rfl ?_
    refine E_callVI (T := TX12) (ci := 12) [.int a1, .int x2.1] [] dX12_shouldNow_30 rfl kw_1226 kw_1228 kp_58 kw_13 ko_X12_restSum rfl hy_X12_restSum rfl (by decide) (Nat.le_of_ble_eq_true rfl) rfl (by decide) rfl (c_X12_restSum Γ a1 x2.1 s) (fun v4 => ?_)
    refine E_istore [(7, .int v4), (6, .int v3), (5, .int x2.1), (4, .int x2.2.1), (3, .int x2.2.2.1), (2, .int x2.2.2.2), (0, .ref (Γ.2.1 0)), (1, .int a1)] dX12_shouldNow_33 (by decide) rfl ?_
    refine E_iload 1 dX12_shouldNow_35 rfl ?_
    refine E_jn 81 (fun (y : Bool) => [(7, .int v4), (6, .int v3), (5, .int x2.1), (4, .int x2.2.1), (3, .int x2.2.2.1), (2, .int x2.2.2.2), (0, .ref (Γ.2.1 0)), (1, .int a1)]) (fun (y : Bool) => [.int (bI y)]) (fun (y : Bool) => s) ?_ ?_
    · intro y6
      refine E_istore [(8, .int (bI y6)), (7, .int v4), (6, .int v3), (5, .int x2.1), (4, .int x2.2.1), (3, .int x2.2.2.1), (2, .int x2.2.2.2), (0, .ref (Γ.2.1 0)), (1, .int a1)] dX12_shouldNow_81 (by decide) rfl ?_
      refine E_iload 0 dX12_shouldNow_83 rfl ?_
      refine E_jn 94 (fun (y : Int32) => [(8, .int (bI y6)), (7, .int v4), (6, .int v3), (5, .int x2.1), (4, .int x2.2.1), (3, .int x2.2.2.1), (0, .ref (Γ.2.1 0)), (1, .int a1)]) (fun (y : Int32) => [.int y]) (fun (y : Int32) => s) ?_ ?_
      · intro y8
        refine E_istore_n [(2, .int y8), (8, .int (bI y6)), (7, .int v4), (6, .int v3), (5, .int x2.1), (4, .int x2.2.1), (3, .int x2.2.2.1), (0, .ref (Γ.2.1 0)), (1, .int a1)] dX12_shouldNow_94 rfl (by decide) rfl ?_
        refine E_iload 1 dX12_shouldNow_95 rfl ?_
        refine E_jn 106 (fun (y : Int32) => [(2, .int y8), (8, .int (bI y6)), (6, .int v3), (5, .int x2.1), (4, .int x2.2.1), (0, .ref (Γ.2.1 0)), (1, .int a1)]) (fun (y : Int32) => [.int y]) (fun (y : Int32) => s) ?_ ?_
        · intro y10
          refine E_istore_n [(3, .int y10), (2, .int y8), (8, .int (bI y6)), (6, .int v3), (5, .int x2.1), (4, .int x2.2.1), (0, .ref (Γ.2.1 0)), (1, .int a1)] dX12_shouldNow_106 rfl (by decide) rfl ?_
          refine E_iload 2 dX12_shouldNow_107 rfl ?_
          refine E_ifeqb 117 dX12_shouldNow_109 (by decide) ?_ ?_
          · refine E_iload 5 dX12_shouldNow_117 rfl ?_
            refine E_istore [(4, .int x2.2.1), (3, .int y10), (2, .int y8), (8, .int (bI y6)), (6, .int v3), (5, .int x2.1), (0, .ref (Γ.2.1 0)), (1, .int a1)] dX12_shouldNow_119 (by decide) rfl ?_
            refine E_iinc 5 [(5, .int (x2.1 + 1)), (4, .int x2.2.1), (3, .int y10), (2, .int y8), (8, .int (bI y6)), (6, .int v3), (0, .ref (Γ.2.1 0)), (1, .int a1)] dX12_shouldNow_121 rfl rfl (by decide) rfl ?_
            refine E_goto 10 dX12_shouldNow_124 (by decide) ?_
            refine E_lvsub [0, 1, 2, 3, 6, 7] [(5, .int (x2.1 + 1)), (4, .int x2.2.1), (3, .int y10), (2, .int y8), (0, .ref (Γ.2.1 0)), (1, .int a1)] rfl ?_
            exact hr1 (x2.1 + 1, x2.2.1, y10, y8)
          · refine E_iload 3 dX12_shouldNow_112 rfl ?_
            refine E_goto 119 dX12_shouldNow_114 (by decide) ?_
            refine E_istore [(4, .int v3), (3, .int y10), (2, .int y8), (8, .int (bI y6)), (6, .int v3), (5, .int x2.1), (0, .ref (Γ.2.1 0)), (1, .int a1)] dX12_shouldNow_119 (by decide) rfl ?_
            refine E_iinc 5 [(5, .int (x2.1 + 1)), (4, .int v3), (3, .int y10), (2, .int y8), (8, .int (bI y6)), (6, .int v3), (0, .ref (Γ.2.1 0)), (1, .int a1)] dX12_shouldNow_121 rfl rfl (by decide) rfl ?_
            refine E_goto 10 dX12_shouldNow_124 (by decide) ?_
            refine E_lvsub [0, 1, 2, 3, 6, 7] [(5, .int (x2.1 + 1)), (4, .int v3), (3, .int y10), (2, .int y8), (0, .ref (Γ.2.1 0)), (1, .int a1)] rfl ?_
            exact hr1 (x2.1 + 1, v3, y10, y8)
        · intro K9 hK9
          refine E_ifeqb 105 dX12_shouldNow_97 (by decide) ?_ ?_
          · refine E_iload_n 6 dX12_shouldNow_105 rfl rfl ?_
            refine E_lvsub [0, 1, 3, 4, 5, 7, 8] [(2, .int y8), (8, .int (bI y6)), (6, .int v3), (5, .int x2.1), (4, .int x2.2.1), (0, .ref (Γ.2.1 0)), (1, .int a1)] rfl ?_
            exact hK9 x2.2.2.1
          · refine E_iload 2 dX12_shouldNow_100 rfl ?_
            refine E_goto 106 dX12_shouldNow_102 (by decide) ?_
            refine E_lvsub [0, 1, 3, 4, 5, 7, 8] [(2, .int y8), (8, .int (bI y6)), (6, .int v3), (5, .int x2.1), (4, .int x2.2.1), (0, .ref (Γ.2.1 0)), (1, .int a1)] rfl ?_
            exact hK9 v4
      · intro K7 hK7
        refine E_ifeqb 93 dX12_shouldNow_85 (by decide) ?_ ?_
        · refine E_iload_n 6 dX12_shouldNow_93 rfl rfl ?_
          refine E_lvsub [0, 1, 2, 3, 4, 5, 7, 8] [(8, .int (bI y6)), (7, .int v4), (6, .int v3), (5, .int x2.1), (4, .int x2.2.1), (3, .int x2.2.2.1), (0, .ref (Γ.2.1 0)), (1, .int a1)] rfl ?_
          exact hK7 x2.2.2.2
        · refine E_iload 3 dX12_shouldNow_88 rfl ?_
          refine E_goto 94 dX12_shouldNow_90 (by decide) ?_
          refine E_lvsub [0, 1, 2, 3, 4, 5, 7, 8] [(8, .int (bI y6)), (7, .int v4), (6, .int v3), (5, .int x2.1), (4, .int x2.2.1), (3, .int x2.2.2.1), (0, .ref (Γ.2.1 0)), (1, .int a1)] rfl ?_
          exact hK7 x2.1
    · intro K5 hK5
      refine E_ifle 80 dX12_shouldNow_37 (by decide) ?_ ?_
      · refine E_iconst (v := 0) dX12_shouldNow_80 (by decide) ?_
        exact hK5 false
      · refine E_iload_n 5 dX12_shouldNow_40 rfl rfl ?_
        refine E_iconst (v := (-1)) dX12_shouldNow_41 (by decide) ?_
        refine E_icmpeq 76 dX12_shouldNow_42 (by decide) ?_ ?_
        · refine E_iconst (v := 1) dX12_shouldNow_76 (by decide) ?_
          refine E_goto 81 dX12_shouldNow_77 (by decide) ?_
          exact hK5 true
        · refine E_iload 0 dX12_shouldNow_45 rfl ?_
          refine E_iload 3 dX12_shouldNow_47 rfl ?_
          refine E_imul dX12_shouldNow_49 ?_
          refine E_iload_n 4 dX12_shouldNow_50 rfl rfl ?_
          refine E_iload 1 dX12_shouldNow_51 rfl ?_
          refine E_imul dX12_shouldNow_53 ?_
          refine E_icmpgt 76 dX12_shouldNow_54 (by decide) ?_ ?_
          · refine E_iconst (v := 1) dX12_shouldNow_76 (by decide) ?_
            refine E_goto 81 dX12_shouldNow_77 (by decide) ?_
            exact hK5 true
          · refine E_iload 0 dX12_shouldNow_57 rfl ?_
            refine E_iload 3 dX12_shouldNow_59 rfl ?_
            refine E_imul dX12_shouldNow_61 ?_
            refine E_iload_n 4 dX12_shouldNow_62 rfl rfl ?_
            refine E_iload 1 dX12_shouldNow_63 rfl ?_
            refine E_imul dX12_shouldNow_65 ?_
            refine E_icmpne 80 dX12_shouldNow_66 (by decide) ?_ ?_
            · refine E_iconst (v := 0) dX12_shouldNow_80 (by decide) ?_
              exact hK5 false
            · refine E_iload 1 dX12_shouldNow_69 rfl ?_
              refine E_iload 3 dX12_shouldNow_71 rfl ?_
              refine E_icmple 80 dX12_shouldNow_73 (by decide) ?_ ?_
              · refine E_iconst (v := 0) dX12_shouldNow_80 (by decide) ?_
                exact hK5 false
              · refine E_iconst (v := 1) dX12_shouldNow_76 (by decide) ?_
                refine E_goto 81 dX12_shouldNow_77 (by decide) ?_
                exact hK5 true
theorem c_X12_shouldNow (Γ : GT) (a1 : Int32) (s : St)  (x : Int32) (h : f_X12_shouldNow a1 s = some x) (l : Launch) : MC l yX12_shouldNow cX12_shouldNow 9 (some .int) 4 WM Γ [.ref (Γ.2.1 0), .int a1] s ((emI s) x) := MC_of (by decide +kernel) (Nat.le_of_ble_eq_true rfl) (e_X12_shouldNow Γ a1 s ) h l
set_option maxRecDepth 100000 in
set_option maxHeartbeats 4000000 in
theorem e_X12_should (Γ : GT) (a1 : Int32) (s : St)  : E RX12 cX12_should 2 (some .int) 5 WM Γ emIS 0 [(0, .ref (Γ.2.1 0)), (1, .int a1)] [] s (f_X12_should a1 s) := by
  unfold f_X12_should
  refine E_aload_n 0 dX12_should_0 rfl rfl ?_
  refine E_iload_n 1 dX12_should_1 rfl rfl ?_
  refine E_callVZ (T := TX12) (ci := 12) [.int a1] [] dX12_should_2 rfl kw_993 kw_995 kp_24 kw_13 ko_X12_isQuestion rfl hy_X12_isQuestion rfl (by decide) (Nat.le_of_ble_eq_true rfl) rfl (by decide) rfl (c_X12_isQuestion Γ a1 s) (fun v1 => ?_)
  refine E_ifneb 11 dX12_should_5 (by decide) ?_ ?_
  · refine E_aload_n 0 dX12_should_11 rfl rfl ?_
    refine E_callVV (T := TX12) (ci := 12) [] [] dX12_should_12 rfl kw_1044 kw_1046 kp_31 kw_13 ko_X12_lays rfl hy_X12_lays rfl (by decide) (Nat.le_of_ble_eq_true rfl) rfl (by decide) rfl (c_X12_lays Γ s) (fun s2 => ?_)
    refine E_aload_n 0 dX12_should_15 rfl rfl ?_
    refine E_iload_n 1 dX12_should_16 rfl rfl ?_
    refine E_callVI (T := TX12) (ci := 12) [.int a1] [] dX12_should_17 rfl kw_1234 kw_1236 kp_59 kw_13 ko_X12_shouldNow rfl hy_X12_shouldNow rfl (by decide) (Nat.le_of_ble_eq_true rfl) rfl (by decide) rfl (c_X12_shouldNow Γ a1 s2) (fun v3 => ?_)
    exact E_ireturn dX12_should_20 rfl rfl
  · refine E_bipush (v := (-2)) dX12_should_8 (by decide) ?_
    exact E_ireturn dX12_should_10 rfl rfl
theorem c_X12_should (Γ : GT) (a1 : Int32) (s : St)  (x : (Int32 × St)) (h : f_X12_should a1 s = some x) (l : Launch) : MC l yX12_should cX12_should 2 (some .int) 5 WM Γ [.ref (Γ.2.1 0), .int a1] s (emIS x) := MC_of (by decide +kernel) (Nat.le_of_ble_eq_true rfl) (e_X12_should Γ a1 s ) h l
set_option maxRecDepth 100000 in
set_option maxHeartbeats 4000000 in
theorem e_X12_badlyNow (Γ : GT)  (s : St)  : E RX12 cX12_badlyNow 4 (some .int) 5 WM Γ (emI s) 0 [(0, .ref (Γ.2.1 0))] [] s (f_X12_badlyNow  s) := by
  unfold f_X12_badlyNow
  refine E_iconst (v := 0) dX12_badlyNow_0 (by decide) ?_
  refine E_istore_n [(1, .int 0), (0, .ref (Γ.2.1 0))] dX12_badlyNow_1 rfl (by decide) rfl ?_
  refine E_iconst (v := 0) dX12_badlyNow_2 (by decide) ?_
  refine E_istore_n [(2, .int 0), (1, .int 0), (0, .ref (Γ.2.1 0))] dX12_badlyNow_3 rfl (by decide) rfl ?_
  refine E_lp (F := L_X12_badlyNow_4 s) (fun (x : Int32 × Int32) => [(2, .int x.1), (1, .int x.2), (0, .ref (Γ.2.1 0))]) (fun (x : Int32 × Int32) => s) ?_ NN (0, 0)
  intro r1 hr1 x2
  show E _ _ _ _ _ _ _ _ _ _ _ _ (L_X12_badlyNow_4 s r1 x2)
  unfold L_X12_badlyNow_4
  refine E_iload_n 0 dX12_badlyNow_4 rfl rfl ?_
  refine E_aload_n 2 dX12_badlyNow_5 rfl rfl ?_
  refine E_getI (j := 0) (ci := 12) (T := TX12) (C0 := RX12) (ref := "SameWrongModel") dX12_badlyNow_6 rfl (by decide) rfl inX12 (by decide) kw_874 rfl rfl ?_
  refine E_icmpge 58 dX12_badlyNow_9 (by decide) ?_ ?_
  · refine E_iload_n 1 dX12_badlyNow_58 rfl rfl ?_
    exact E_ireturn dX12_badlyNow_59 rfl rfl
  · refine E_aload_n 2 dX12_badlyNow_12 rfl rfl ?_
    refine E_iload_n 0 dX12_badlyNow_13 rfl rfl ?_
    refine E_callVI (T := TX12) (ci := 12) [.int x2.1] [] dX12_badlyNow_14 rfl kw_1234 kw_1236 kp_59 kw_13 ko_X12_shouldNow rfl hy_X12_shouldNow rfl (by decide) (Nat.le_of_ble_eq_true rfl) rfl (by decide) rfl (c_X12_shouldNow Γ x2.1 s) (fun v3 => ?_)
    refine E_istore_n [(3, .int v3), (2, .int x2.1), (1, .int x2.2), (0, .ref (Γ.2.1 0))] dX12_badlyNow_17 rfl (by decide) rfl ?_
    refine E_iload_n 2 dX12_badlyNow_18 rfl rfl ?_
    refine E_aload_n 3 dX12_badlyNow_19 rfl rfl ?_
    refine E_getR 2 (j := 3) (ci := 12) (T := TX12) (C0 := RX12) (ref := "SameWrongModel") dX12_badlyNow_20 rfl (by decide) rfl inX12 (by decide) kw_877 rfl rfl rfl ?_
    refine E_iload_n 1 dX12_badlyNow_23 rfl rfl ?_
    refine E_iaload dX12_badlyNow_24 rfl (by decide) ?_
    refine E_ifeq 49 dX12_badlyNow_25 (by decide) ?_ ?_
    · refine E_iconst (v := 0) dX12_badlyNow_49 (by decide) ?_
      refine E_ior dX12_badlyNow_50 ?_
      refine E_istore_n [(1, .int (x2.2 ||| 0)), (3, .int v3), (2, .int x2.1), (0, .ref (Γ.2.1 0))] dX12_badlyNow_51 rfl (by decide) rfl ?_
      refine E_bv (fun v4 => [(1, .int v4), (3, .int v3), (2, .int x2.1), (0, .ref (Γ.2.1 0))]) (fun v4 => ?_) (x2.2 ||| 0)
      refine E_iinc 2 [(2, .int (x2.1 + 1)), (1, .int v4), (3, .int v3), (0, .ref (Γ.2.1 0))] dX12_badlyNow_52 rfl rfl (by decide) rfl ?_
      refine E_goto 4 dX12_badlyNow_55 (by decide) ?_
      refine E_lvsub [0, 1, 3] [(2, .int (x2.1 + 1)), (1, .int v4), (0, .ref (Γ.2.1 0))] rfl ?_
      exact hr1 (x2.1 + 1, v4)
    · refine E_iload_n 0 dX12_badlyNow_28 rfl rfl ?_
      refine E_iconst (v := (-1)) dX12_badlyNow_29 (by decide) ?_
      refine E_icmpeq 49 dX12_badlyNow_30 (by decide) ?_ ?_
      · refine E_iconst (v := 0) dX12_badlyNow_49 (by decide) ?_
        refine E_ior dX12_badlyNow_50 ?_
        refine E_istore_n [(1, .int (x2.2 ||| 0)), (3, .int v3), (2, .int x2.1), (0, .ref (Γ.2.1 0))] dX12_badlyNow_51 rfl (by decide) rfl ?_
        refine E_bv (fun v5 => [(1, .int v5), (3, .int v3), (2, .int x2.1), (0, .ref (Γ.2.1 0))]) (fun v5 => ?_) (x2.2 ||| 0)
        refine E_iinc 2 [(2, .int (x2.1 + 1)), (1, .int v5), (3, .int v3), (0, .ref (Γ.2.1 0))] dX12_badlyNow_52 rfl rfl (by decide) rfl ?_
        refine E_goto 4 dX12_badlyNow_55 (by decide) ?_
        refine E_lvsub [0, 1, 3] [(2, .int (x2.1 + 1)), (1, .int v5), (0, .ref (Γ.2.1 0))] rfl ?_
        exact hr1 (x2.1 + 1, v5)
      · refine E_iload_n 0 dX12_badlyNow_33 rfl rfl ?_
        refine E_aload_n 3 dX12_badlyNow_34 rfl rfl ?_
        refine E_getR 2 (j := 3) (ci := 12) (T := TX12) (C0 := RX12) (ref := "SameWrongModel") dX12_badlyNow_35 rfl (by decide) rfl inX12 (by decide) kw_877 rfl rfl rfl ?_
        refine E_iload_n 1 dX12_badlyNow_38 rfl rfl ?_
        refine E_iaload dX12_badlyNow_39 rfl (by decide) ?_
        refine E_icmpeq 49 dX12_badlyNow_40 (by decide) ?_ ?_
        · refine E_iconst (v := 0) dX12_badlyNow_49 (by decide) ?_
          refine E_ior dX12_badlyNow_50 ?_
          refine E_istore_n [(1, .int (x2.2 ||| 0)), (3, .int v3), (2, .int x2.1), (0, .ref (Γ.2.1 0))] dX12_badlyNow_51 rfl (by decide) rfl ?_
          refine E_bv (fun v6 => [(1, .int v6), (3, .int v3), (2, .int x2.1), (0, .ref (Γ.2.1 0))]) (fun v6 => ?_) (x2.2 ||| 0)
          refine E_iinc 2 [(2, .int (x2.1 + 1)), (1, .int v6), (3, .int v3), (0, .ref (Γ.2.1 0))] dX12_badlyNow_52 rfl rfl (by decide) rfl ?_
          refine E_goto 4 dX12_badlyNow_55 (by decide) ?_
          refine E_lvsub [0, 1, 3] [(2, .int (x2.1 + 1)), (1, .int v6), (0, .ref (Γ.2.1 0))] rfl ?_
          exact hr1 (x2.1 + 1, v6)
        · refine E_iconst (v := 1) dX12_badlyNow_43 (by decide) ?_
          refine E_iload_n 1 dX12_badlyNow_44 rfl rfl ?_
          refine E_ishl dX12_badlyNow_45 ?_
          refine E_goto 50 dX12_badlyNow_46 (by decide) ?_
          refine E_ior dX12_badlyNow_50 ?_
          refine E_istore_n [(1, .int (x2.2 ||| (1 <<< (x2.1 &&& 31)))), (3, .int v3), (2, .int x2.1), (0, .ref (Γ.2.1 0))] dX12_badlyNow_51 rfl (by decide) rfl ?_
          refine E_bv (fun v7 => [(1, .int v7), (3, .int v3), (2, .int x2.1), (0, .ref (Γ.2.1 0))]) (fun v7 => ?_) (x2.2 ||| (1 <<< (x2.1 &&& 31)))
          refine E_iinc 2 [(2, .int (x2.1 + 1)), (1, .int v7), (3, .int v3), (0, .ref (Γ.2.1 0))] dX12_badlyNow_52 rfl rfl (by decide) rfl ?_
          refine E_goto 4 dX12_badlyNow_55 (by decide) ?_
          refine E_lvsub [0, 1, 3] [(2, .int (x2.1 + 1)), (1, .int v7), (0, .ref (Γ.2.1 0))] rfl ?_
          exact hr1 (x2.1 + 1, v7)
theorem c_X12_badlyNow (Γ : GT)  (s : St)  (x : Int32) (h : f_X12_badlyNow  s = some x) (l : Launch) : MC l yX12_badlyNow cX12_badlyNow 4 (some .int) 5 WM Γ [.ref (Γ.2.1 0)] s ((emI s) x) := MC_of (by decide +kernel) (Nat.le_of_ble_eq_true rfl) (e_X12_badlyNow Γ  s ) h l
set_option maxRecDepth 100000 in
set_option maxHeartbeats 4000000 in
theorem e_X12_badly (Γ : GT)  (s : St)  : E RX12 cX12_badly 1 (some .int) 6 WM Γ emIS 0 [(0, .ref (Γ.2.1 0))] [] s (f_X12_badly  s) := by
  unfold f_X12_badly
  refine E_aload_n 0 dX12_badly_0 rfl rfl ?_
  refine E_callVV (T := TX12) (ci := 12) [] [] dX12_badly_1 rfl kw_1044 kw_1046 kp_31 kw_13 ko_X12_lays rfl hy_X12_lays rfl (by decide) (Nat.le_of_ble_eq_true rfl) rfl (by decide) rfl (c_X12_lays Γ s) (fun s1 => ?_)
  refine E_aload_n 0 dX12_badly_4 rfl rfl ?_
  refine E_callVI (T := TX12) (ci := 12) [] [] dX12_badly_5 rfl kw_1242 kw_1244 kp_60 kw_13 ko_X12_badlyNow rfl hy_X12_badlyNow rfl (by decide) (Nat.le_of_ble_eq_true rfl) rfl (by decide) rfl (c_X12_badlyNow Γ s1) (fun v2 => ?_)
  exact E_ireturn dX12_badly_8 rfl rfl
theorem c_X12_badly (Γ : GT)  (s : St)  (x : (Int32 × St)) (h : f_X12_badly  s = some x) (l : Launch) : MC l yX12_badly cX12_badly 1 (some .int) 6 WM Γ [.ref (Γ.2.1 0)] s (emIS x) := MC_of (by decide +kernel) (Nat.le_of_ble_eq_true rfl) (e_X12_badly Γ  s ) h l
set_option maxRecDepth 100000 in
set_option maxHeartbeats 4000000 in
theorem e_X12_withoutNow (Γ : GT) (a1 : Int32) (a2 : Int32) (s : St)  : E RX12 cX12_withoutNow 5 (some .int) 4 WM Γ (emI s) 0 [(0, .ref (Γ.2.1 0)), (1, .int a1), (2, .int a2)] [] s (f_X12_withoutNow a1 a2 s) := by
  unfold f_X12_withoutNow
  refine E_iconst (v := 0) dX12_withoutNow_0 (by decide) ?_
  refine E_istore_n [(3, .int 0), (0, .ref (Γ.2.1 0)), (1, .int a1), (2, .int a2)] dX12_withoutNow_1 rfl (by decide) rfl ?_
  refine E_iconst (v := 0) dX12_withoutNow_2 (by decide) ?_
  refine E_istore [(4, .int 0), (3, .int 0), (0, .ref (Γ.2.1 0)), (1, .int a1), (2, .int a2)] dX12_withoutNow_3 (by decide) rfl ?_
  refine E_lp (F := L_X12_withoutNow_5 a1 a2 s) (fun (x : Int32 × Int32) => [(4, .int x.1), (3, .int x.2), (0, .ref (Γ.2.1 0)), (1, .int a1), (2, .int a2)]) (fun (x : Int32 × Int32) => s) ?_ NN (0, 0)
  intro r1 hr1 x2
  show E _ _ _ _ _ _ _ _ _ _ _ _ (L_X12_withoutNow_5 a1 a2 s r1 x2)
  unfold L_X12_withoutNow_5
  refine E_iload 0 dX12_withoutNow_5 rfl ?_
  refine E_aload_n 2 dX12_withoutNow_7 rfl rfl ?_
  refine E_getI (j := 5) (ci := 12) (T := TX12) (C0 := RX12) (ref := "SameWrongModel") dX12_withoutNow_8 rfl (by decide) rfl inX12 (by decide) kw_879 rfl rfl ?_
  refine E_icmpge 69 dX12_withoutNow_11 (by decide) ?_ ?_
  · refine E_iload_n 1 dX12_withoutNow_69 rfl rfl ?_
    exact E_ireturn dX12_withoutNow_70 rfl rfl
  · refine E_iload_n 1 dX12_withoutNow_14 rfl rfl ?_
    refine E_iload_n 4 dX12_withoutNow_15 rfl rfl ?_
    refine E_ifne 39 dX12_withoutNow_16 (by decide) ?_ ?_
    · refine E_aload_n 2 dX12_withoutNow_39 rfl rfl ?_
      refine E_iload 0 dX12_withoutNow_40 rfl ?_
      refine E_iload_n 3 dX12_withoutNow_42 rfl rfl ?_
      refine E_callVZ (T := TX12) (ci := 12) [.int x2.1, .int a1] [.int x2.2] dX12_withoutNow_43 rfl kw_1083 kw_1085 kp_38 kw_13 ko_X12_passesBut rfl hy_X12_passesBut rfl (by decide) (Nat.le_of_ble_eq_true rfl) rfl (by decide) rfl (c_X12_passesBut Γ x2.1 a1 s) (fun v3 => ?_)
      refine E_aload_n 2 dX12_withoutNow_46 rfl rfl ?_
      refine E_iload 0 dX12_withoutNow_47 rfl ?_
      refine E_iconst (v := (-1)) dX12_withoutNow_49 (by decide) ?_
      refine E_callVZ (T := TX12) (ci := 12) [.int x2.1, .int (-1)] [.int (bI v3), .int x2.2] dX12_withoutNow_50 rfl kw_1083 kw_1085 kp_38 kw_13 ko_X12_passesBut rfl hy_X12_passesBut rfl (by decide) (Nat.le_of_ble_eq_true rfl) rfl (by decide) rfl (c_X12_passesBut Γ x2.1 (-1) s) (fun v4 => ?_)
      refine E_icmpeq 60 dX12_withoutNow_53 (by decide) ?_ ?_
      · refine E_iconst (v := 0) dX12_withoutNow_60 (by decide) ?_
        refine E_iadd dX12_withoutNow_61 ?_
        refine E_istore_n [(3, .int (x2.2 + 0)), (4, .int x2.1), (0, .ref (Γ.2.1 0)), (1, .int a1), (2, .int a2)] dX12_withoutNow_62 rfl (by decide) rfl ?_
        refine E_bv (fun v5 => [(3, .int v5), (4, .int x2.1), (0, .ref (Γ.2.1 0)), (1, .int a1), (2, .int a2)]) (fun v5 => ?_) (x2.2 + 0)
        refine E_iinc 1 [(4, .int (x2.1 + 1)), (3, .int v5), (0, .ref (Γ.2.1 0)), (1, .int a1), (2, .int a2)] dX12_withoutNow_63 rfl rfl (by decide) rfl ?_
        refine E_goto 5 dX12_withoutNow_66 (by decide) ?_
        exact hr1 (x2.1 + 1, v5)
      · refine E_iconst (v := 1) dX12_withoutNow_56 (by decide) ?_
        refine E_goto 61 dX12_withoutNow_57 (by decide) ?_
        refine E_iadd dX12_withoutNow_61 ?_
        refine E_istore_n [(3, .int (x2.2 + 1)), (4, .int x2.1), (0, .ref (Γ.2.1 0)), (1, .int a1), (2, .int a2)] dX12_withoutNow_62 rfl (by decide) rfl ?_
        refine E_bv (fun v6 => [(3, .int v6), (4, .int x2.1), (0, .ref (Γ.2.1 0)), (1, .int a1), (2, .int a2)]) (fun v6 => ?_) (x2.2 + 1)
        refine E_iinc 1 [(4, .int (x2.1 + 1)), (3, .int v6), (0, .ref (Γ.2.1 0)), (1, .int a1), (2, .int a2)] dX12_withoutNow_63 rfl rfl (by decide) rfl ?_
        refine E_goto 5 dX12_withoutNow_66 (by decide) ?_
        exact hr1 (x2.1 + 1, v6)
    · refine E_aload_n 2 dX12_withoutNow_19 rfl rfl ?_
      refine E_iload 0 dX12_withoutNow_20 rfl ?_
      refine E_iload_n 3 dX12_withoutNow_22 rfl rfl ?_
      refine E_callVI (T := TX12) (ci := 12) [.int x2.1, .int a1] [.int x2.2] dX12_withoutNow_23 rfl kw_1079 kw_1081 kp_37 kw_13 ko_X12_rankBut rfl hy_X12_rankBut rfl (by decide) (Nat.le_of_ble_eq_true rfl) rfl (by decide) rfl (c_X12_rankBut Γ x2.1 a1 s) (fun v7 => ?_)
      refine E_aload_n 2 dX12_withoutNow_26 rfl rfl ?_
      refine E_iload 0 dX12_withoutNow_27 rfl ?_
      refine E_iconst (v := (-1)) dX12_withoutNow_29 (by decide) ?_
      refine E_callVI (T := TX12) (ci := 12) [.int x2.1, .int (-1)] [.int v7, .int x2.2] dX12_withoutNow_30 rfl kw_1079 kw_1081 kp_37 kw_13 ko_X12_rankBut rfl hy_X12_rankBut rfl (by decide) (Nat.le_of_ble_eq_true rfl) rfl (by decide) rfl (c_X12_rankBut Γ x2.1 (-1) s) (fun v8 => ?_)
      refine E_icmpeq 60 dX12_withoutNow_33 (by decide) ?_ ?_
      · refine E_iconst (v := 0) dX12_withoutNow_60 (by decide) ?_
        refine E_iadd dX12_withoutNow_61 ?_
        refine E_istore_n [(3, .int (x2.2 + 0)), (4, .int x2.1), (0, .ref (Γ.2.1 0)), (1, .int a1), (2, .int a2)] dX12_withoutNow_62 rfl (by decide) rfl ?_
        refine E_bv (fun v9 => [(3, .int v9), (4, .int x2.1), (0, .ref (Γ.2.1 0)), (1, .int a1), (2, .int a2)]) (fun v9 => ?_) (x2.2 + 0)
        refine E_iinc 1 [(4, .int (x2.1 + 1)), (3, .int v9), (0, .ref (Γ.2.1 0)), (1, .int a1), (2, .int a2)] dX12_withoutNow_63 rfl rfl (by decide) rfl ?_
        refine E_goto 5 dX12_withoutNow_66 (by decide) ?_
        exact hr1 (x2.1 + 1, v9)
      · refine E_goto 56 dX12_withoutNow_36 (by decide) ?_
        refine E_iconst (v := 1) dX12_withoutNow_56 (by decide) ?_
        refine E_goto 61 dX12_withoutNow_57 (by decide) ?_
        refine E_iadd dX12_withoutNow_61 ?_
        refine E_istore_n [(3, .int (x2.2 + 1)), (4, .int x2.1), (0, .ref (Γ.2.1 0)), (1, .int a1), (2, .int a2)] dX12_withoutNow_62 rfl (by decide) rfl ?_
        refine E_bv (fun v10 => [(3, .int v10), (4, .int x2.1), (0, .ref (Γ.2.1 0)), (1, .int a1), (2, .int a2)]) (fun v10 => ?_) (x2.2 + 1)
        refine E_iinc 1 [(4, .int (x2.1 + 1)), (3, .int v10), (0, .ref (Γ.2.1 0)), (1, .int a1), (2, .int a2)] dX12_withoutNow_63 rfl rfl (by decide) rfl ?_
        refine E_goto 5 dX12_withoutNow_66 (by decide) ?_
        exact hr1 (x2.1 + 1, v10)
theorem c_X12_withoutNow (Γ : GT) (a1 : Int32) (a2 : Int32) (s : St)  (x : Int32) (h : f_X12_withoutNow a1 a2 s = some x) (l : Launch) : MC l yX12_withoutNow cX12_withoutNow 5 (some .int) 4 WM Γ [.ref (Γ.2.1 0), .int a1, .int a2] s ((emI s) x) := MC_of (by decide +kernel) (Nat.le_of_ble_eq_true rfl) (e_X12_withoutNow Γ a1 a2 s ) h l
set_option maxRecDepth 100000 in
set_option maxHeartbeats 4000000 in
theorem e_X12_without (Γ : GT) (a1 : Int32) (a2 : Int32) (s : St)  : E RX12 cX12_without 3 (some .int) 5 WM Γ emIS 0 [(0, .ref (Γ.2.1 0)), (1, .int a1), (2, .int a2)] [] s (f_X12_without a1 a2 s) := by
  unfold f_X12_without
  refine E_aload_n 0 dX12_without_0 rfl rfl ?_
  refine E_iload_n 1 dX12_without_1 rfl rfl ?_
  refine E_callVZ (T := TX12) (ci := 12) [.int a1] [] dX12_without_2 rfl kw_993 kw_995 kp_24 kw_13 ko_X12_isQuestion rfl hy_X12_isQuestion rfl (by decide) (Nat.le_of_ble_eq_true rfl) rfl (by decide) rfl (c_X12_isQuestion Γ a1 s) (fun v1 => ?_)
  refine E_ifeqb 17 dX12_without_5 (by decide) ?_ ?_
  · refine E_bipush (v := (-2)) dX12_without_17 (by decide) ?_
    exact E_ireturn dX12_without_19 rfl rfl
  · refine E_iload_n 2 dX12_without_8 rfl rfl ?_
    refine E_iconst (v := 0) dX12_without_9 (by decide) ?_
    refine E_iconst (v := 1) dX12_without_10 (by decide) ?_
    refine E_callSZ [.int a2, .int 0, .int 1] [] dX12_without_11 rfl kw_970 kw_971 kw_13 ko_X12_in hy_X12_in rfl (by decide) (Nat.le_of_ble_eq_true rfl) (c_X12_in Γ a2 0 1 s) (fun v2 => ?_)
    refine E_ifneb 20 dX12_without_14 (by decide) ?_ ?_
    · refine E_aload_n 0 dX12_without_20 rfl rfl ?_
      refine E_callVV (T := TX12) (ci := 12) [] [] dX12_without_21 rfl kw_1044 kw_1046 kp_31 kw_13 ko_X12_lays rfl hy_X12_lays rfl (by decide) (Nat.le_of_ble_eq_true rfl) rfl (by decide) rfl (c_X12_lays Γ s) (fun s3 => ?_)
      refine E_aload_n 0 dX12_without_24 rfl rfl ?_
      refine E_iload_n 1 dX12_without_25 rfl rfl ?_
      refine E_iload_n 2 dX12_without_26 rfl rfl ?_
      refine E_callVI (T := TX12) (ci := 12) [.int a1, .int a2] [] dX12_without_27 rfl kw_1250 kw_1252 kp_61 kw_13 ko_X12_withoutNow rfl hy_X12_withoutNow rfl (by decide) (Nat.le_of_ble_eq_true rfl) rfl (by decide) rfl (c_X12_withoutNow Γ a1 a2 s3) (fun v4 => ?_)
      exact E_ireturn dX12_without_30 rfl rfl
    · refine E_bipush (v := (-2)) dX12_without_17 (by decide) ?_
      exact E_ireturn dX12_without_19 rfl rfl
theorem c_X12_without (Γ : GT) (a1 : Int32) (a2 : Int32) (s : St)  (x : (Int32 × St)) (h : f_X12_without a1 a2 s = some x) (l : Launch) : MC l yX12_without cX12_without 3 (some .int) 5 WM Γ [.ref (Γ.2.1 0), .int a1, .int a2] s (emIS x) := MC_of (by decide +kernel) (Nat.le_of_ble_eq_true rfl) (e_X12_without Γ a1 a2 s ) h l
set_option maxRecDepth 100000 in
set_option maxHeartbeats 4000000 in
theorem e_X12_hardNow (Γ : GT) (a1 : Int32) (a2 : Int32) (s : St)  : E RX12 cX12_hardNow 3 (some .long) 3 WM Γ (emL s) 0 [(0, .ref (Γ.2.1 0)), (1, .int a1), (2, .int a2)] [] s (f_X12_hardNow a1 a2 s) := by
  unfold f_X12_hardNow
  refine E_aload_n 0 dX12_hardNow_0 rfl rfl ?_
  refine E_getI (j := 5) (ci := 12) (T := TX12) (C0 := RX12) (ref := "SameWrongModel") dX12_hardNow_1 rfl (by decide) rfl inX12 (by decide) kw_879 rfl rfl ?_
  refine E_jn 16 (fun (y : Unit) => []) (fun (y : Unit) => []) (fun (y : Unit) => s) ?_ ?_
  · intro y2
    refine E_bipush (v := (-3)) dX12_hardNow_16 (by decide) ?_
    refine E_callSL [.int (-3)] [] dX12_hardNow_18 rfl kw_1125 kw_1126 kw_13 ko_X12_no hy_X12_no rfl (by decide) (Nat.le_of_ble_eq_true rfl) (c_X12_no Γ (-3) s) (fun v3 => ?_)
    refine E_goto 43 dX12_hardNow_21 (by decide) ?_
    exact E_lreturn dX12_hardNow_43 rfl rfl
  · intro K1 hK1
    refine E_ifeq 16 dX12_hardNow_4 (by decide) ?_ ?_
    · refine E_lvsub [] [] rfl ?_
      exact hK1 ()
    · refine E_aload_n 0 dX12_hardNow_7 rfl rfl ?_
      refine E_getR 2 (j := 3) (ci := 12) (T := TX12) (C0 := RX12) (ref := "SameWrongModel") dX12_hardNow_8 rfl (by decide) rfl inX12 (by decide) kw_877 rfl rfl rfl ?_
      refine E_iload_n 1 dX12_hardNow_11 rfl rfl ?_
      refine E_iaload dX12_hardNow_12 rfl (by decide) ?_
      refine E_ifne 24 dX12_hardNow_13 (by decide) ?_ ?_
      · refine E_aload_n 0 dX12_hardNow_24 rfl rfl ?_
        refine E_sipush (v := 1023) dX12_hardNow_25 (by decide) ?_
        refine E_iconst (v := 1) dX12_hardNow_28 (by decide) ?_
        refine E_iload_n 1 dX12_hardNow_29 rfl rfl ?_
        refine E_callVI (T := TX12) (ci := 12) [.int 1023, .int (bI true), .int a1] [] dX12_hardNow_30 rfl kw_1210 kw_1212 kp_56 kw_13 ko_X12_countOf rfl hy_X12_countOf rfl (by decide) (Nat.le_of_ble_eq_true rfl) rfl (by decide) rfl (c_X12_countOf Γ 1023 true a1 s) (fun v4 => ?_)
        refine E_i2l dX12_hardNow_33 ?_
        refine E_aload_n 0 dX12_hardNow_34 rfl rfl ?_
        refine E_getI (j := 5) (ci := 12) (T := TX12) (C0 := RX12) (ref := "SameWrongModel") dX12_hardNow_35 rfl (by decide) rfl inX12 (by decide) kw_879 rfl rfl ?_
        refine E_i2l dX12_hardNow_38 ?_
        refine E_iload_n 2 dX12_hardNow_39 rfl rfl ?_
        refine E_callSL [.long v4.toInt64, .long ((s.1 0 5).toInt64), .int a2] [] dX12_hardNow_40 rfl kw_1129 kw_1130 kw_13 ko_X12_lowest hy_X12_lowest rfl (by decide) (Nat.le_of_ble_eq_true rfl) (c_X12_lowest Γ v4.toInt64 ((s.1 0 5).toInt64) a2 s) (fun v5 => ?_)
        exact E_lreturn dX12_hardNow_43 rfl rfl
      · refine E_lvsub [] [] rfl ?_
        exact hK1 ()
theorem c_X12_hardNow (Γ : GT) (a1 : Int32) (a2 : Int32) (s : St)  (x : Int64) (h : f_X12_hardNow a1 a2 s = some x) (l : Launch) : MC l yX12_hardNow cX12_hardNow 3 (some .long) 3 WM Γ [.ref (Γ.2.1 0), .int a1, .int a2] s ((emL s) x) := MC_of (by decide +kernel) (Nat.le_of_ble_eq_true rfl) (e_X12_hardNow Γ a1 a2 s ) h l
set_option maxRecDepth 100000 in
set_option maxHeartbeats 4000000 in
theorem e_X12_hard (Γ : GT) (a1 : Int32) (a2 : Int32) (s : St)  : E RX12 cX12_hard 3 (some .long) 5 WM Γ emLS 0 [(0, .ref (Γ.2.1 0)), (1, .int a1), (2, .int a2)] [] s (f_X12_hard a1 a2 s) := by
  unfold f_X12_hard
  refine E_aload_n 0 dX12_hard_0 rfl rfl ?_
  refine E_iload_n 1 dX12_hard_1 rfl rfl ?_
  refine E_callVZ (T := TX12) (ci := 12) [.int a1] [] dX12_hard_2 rfl kw_993 kw_995 kp_24 kw_13 ko_X12_isQuestion rfl hy_X12_isQuestion rfl (by decide) (Nat.le_of_ble_eq_true rfl) rfl (by decide) rfl (c_X12_isQuestion Γ a1 s) (fun v1 => ?_)
  refine E_jn 17 (fun (y : Unit) => []) (fun (y : Unit) => []) (fun (y : Unit) => s) ?_ ?_
  · intro y3
    refine E_bipush (v := (-2)) dX12_hard_17 (by decide) ?_
    refine E_callSL [.int (-2)] [] dX12_hard_19 rfl kw_1125 kw_1126 kw_13 ko_X12_no hy_X12_no rfl (by decide) (Nat.le_of_ble_eq_true rfl) (c_X12_no Γ (-2) s) (fun v4 => ?_)
    exact E_lreturn dX12_hard_22 rfl rfl
  · intro K2 hK2
    refine E_ifeqb 17 dX12_hard_5 (by decide) ?_ ?_
    · refine E_lvsub [] [] rfl ?_
      exact hK2 ()
    · refine E_iload_n 2 dX12_hard_8 rfl rfl ?_
      refine E_iconst (v := 0) dX12_hard_9 (by decide) ?_
      refine E_iconst (v := 1) dX12_hard_10 (by decide) ?_
      refine E_callSZ [.int a2, .int 0, .int 1] [] dX12_hard_11 rfl kw_970 kw_971 kw_13 ko_X12_in hy_X12_in rfl (by decide) (Nat.le_of_ble_eq_true rfl) (c_X12_in Γ a2 0 1 s) (fun v5 => ?_)
      refine E_ifneb 23 dX12_hard_14 (by decide) ?_ ?_
      · refine E_aload_n 0 dX12_hard_23 rfl rfl ?_
        refine E_callVV (T := TX12) (ci := 12) [] [] dX12_hard_24 rfl kw_1044 kw_1046 kp_31 kw_13 ko_X12_lays rfl hy_X12_lays rfl (by decide) (Nat.le_of_ble_eq_true rfl) rfl (by decide) rfl (c_X12_lays Γ s) (fun s6 => ?_)
        refine E_aload_n 0 dX12_hard_27 rfl rfl ?_
        refine E_iload_n 1 dX12_hard_28 rfl rfl ?_
        refine E_iload_n 2 dX12_hard_29 rfl rfl ?_
        refine E_callVL (T := TX12) (ci := 12) [.int a1, .int a2] [] dX12_hard_30 rfl kw_1258 kw_1260 kp_62 kw_13 ko_X12_hardNow rfl hy_X12_hardNow rfl (by decide) (Nat.le_of_ble_eq_true rfl) rfl (by decide) rfl (c_X12_hardNow Γ a1 a2 s6) (fun v7 => ?_)
        exact E_lreturn dX12_hard_33 rfl rfl
      · refine E_lvsub [] [] rfl ?_
        exact hK2 ()
theorem c_X12_hard (Γ : GT) (a1 : Int32) (a2 : Int32) (s : St)  (x : (Int64 × St)) (h : f_X12_hard a1 a2 s = some x) (l : Launch) : MC l yX12_hard cX12_hard 3 (some .long) 5 WM Γ [.ref (Γ.2.1 0), .int a1, .int a2] s (emLS x) := MC_of (by decide +kernel) (Nat.le_of_ble_eq_true rfl) (e_X12_hard Γ a1 a2 s ) h l
set_option maxRecDepth 100000 in
set_option maxHeartbeats 4000000 in
theorem e_X12_partsNow (Γ : GT) (a1 : Int32) (a2 : Int32) (s : St)  : E RX12 cX12_partsNow 6 (some .long) 3 WM Γ emLS 0 [(0, .ref (Γ.2.1 0)), (1, .int a1), (2, .int a2)] [] s (f_X12_partsNow a1 a2 s) := by
  unfold f_X12_partsNow
  refine E_aload_n 0 dX12_partsNow_0 rfl rfl ?_
  refine E_getI (j := 5) (ci := 12) (T := TX12) (C0 := RX12) (ref := "SameWrongModel") dX12_partsNow_1 rfl (by decide) rfl inX12 (by decide) kw_879 rfl rfl ?_
  refine E_iconst (v := 2) dX12_partsNow_4 (by decide) ?_
  refine E_jn 17 (fun (y : Unit) => []) (fun (y : Unit) => []) (fun (y : Unit) => s) ?_ ?_
  · intro y2
    refine E_bipush (v := (-3)) dX12_partsNow_17 (by decide) ?_
    refine E_callSL [.int (-3)] [] dX12_partsNow_19 rfl kw_1125 kw_1126 kw_13 ko_X12_no hy_X12_no rfl (by decide) (Nat.le_of_ble_eq_true rfl) (c_X12_no Γ (-3) s) (fun v3 => ?_)
    exact E_lreturn dX12_partsNow_22 rfl rfl
  · intro K1 hK1
    refine E_icmplt 17 dX12_partsNow_5 (by decide) ?_ ?_
    · refine E_lvsub [] [] rfl ?_
      exact hK1 ()
    · refine E_aload_n 0 dX12_partsNow_8 rfl rfl ?_
      refine E_getR 2 (j := 3) (ci := 12) (T := TX12) (C0 := RX12) (ref := "SameWrongModel") dX12_partsNow_9 rfl (by decide) rfl inX12 (by decide) kw_877 rfl rfl rfl ?_
      refine E_iload_n 1 dX12_partsNow_12 rfl rfl ?_
      refine E_iaload dX12_partsNow_13 rfl (by decide) ?_
      refine E_ifne 23 dX12_partsNow_14 (by decide) ?_ ?_
      · refine E_iconst (v := 0) dX12_partsNow_23 (by decide) ?_
        refine E_istore_n [(3, .int 0), (0, .ref (Γ.2.1 0)), (1, .int a1), (2, .int a2)] dX12_partsNow_24 rfl (by decide) rfl ?_
        refine E_jn 100 (fun (y : St) => [(0, .ref (Γ.2.1 0)), (1, .int a1), (2, .int a2)]) (fun (y : St) => []) (fun (y : St) => y) ?_ ?_
        · intro y5
          refine E_aload_n 0 dX12_partsNow_100 rfl rfl ?_
          refine E_getI (j := 5) (ci := 12) (T := TX12) (C0 := RX12) (ref := "SameWrongModel") dX12_partsNow_101 rfl (by decide) rfl inX12 (by decide) kw_879 rfl rfl ?_
          refine E_iconst (v := 2) dX12_partsNow_104 (by decide) ?_
          refine E_idiv dX12_partsNow_105 ?_
          refine E_istore_n [(3, .int ((y5.1 0 5) / 2)), (0, .ref (Γ.2.1 0)), (1, .int a1), (2, .int a2)] dX12_partsNow_106 rfl (by decide) rfl ?_
          refine E_bv (fun v6 => [(3, .int v6), (0, .ref (Γ.2.1 0)), (1, .int a1), (2, .int a2)]) (fun v6 => ?_) ((y5.1 0 5) / 2)
          refine E_iconst (v := 0) dX12_partsNow_107 (by decide) ?_
          refine E_istore [(4, .int 0), (3, .int v6), (0, .ref (Γ.2.1 0)), (1, .int a1), (2, .int a2)] dX12_partsNow_108 (by decide) rfl ?_
          refine E_iconst (v := 0) dX12_partsNow_110 (by decide) ?_
          refine E_istore [(5, .int 0), (4, .int 0), (3, .int v6), (0, .ref (Γ.2.1 0)), (1, .int a1), (2, .int a2)] dX12_partsNow_111 (by decide) rfl ?_
          refine E_jn 182 (fun (y : Int32) => [(4, .int y), (3, .int v6), (2, .int a2)]) (fun (y : Int32) => []) (fun (y : Int32) => y5) ?_ ?_
          · intro y8
            refine E_iload 0 dX12_partsNow_182 rfl ?_
            refine E_i2l dX12_partsNow_184 ?_
            refine E_iload_n 1 dX12_partsNow_185 rfl rfl ?_
            refine E_i2l dX12_partsNow_186 ?_
            refine E_iload_n 2 dX12_partsNow_187 rfl rfl ?_
            refine E_callSL [.long y8.toInt64, .long v6.toInt64, .int a2] [] dX12_partsNow_188 rfl kw_1129 kw_1130 kw_13 ko_X12_lowest hy_X12_lowest rfl (by decide) (Nat.le_of_ble_eq_true rfl) (c_X12_lowest Γ y8.toInt64 v6.toInt64 a2 y5) (fun v9 => ?_)
            exact E_lreturn dX12_partsNow_191 rfl rfl
          · intro K7 hK7
            refine E_lp (F := L_X12_partsNow_113 a1 y5 v6 K7) (fun (x : Int32 × Int32) => [(5, .int x.1), (4, .int x.2), (3, .int v6), (0, .ref (Γ.2.1 0)), (1, .int a1), (2, .int a2)]) (fun (x : Int32 × Int32) => y5) ?_ NN (0, 0)
            intro r10 hr10 x11
            show E _ _ _ _ _ _ _ _ _ _ _ _ (L_X12_partsNow_113 a1 y5 v6 K7 r10 x11)
            unfold L_X12_partsNow_113
            refine E_iload 0 dX12_partsNow_113 rfl ?_
            refine E_iload_n 2 dX12_partsNow_115 rfl rfl ?_
            refine E_icmpge 182 dX12_partsNow_116 (by decide) ?_ ?_
            · refine E_lvsub [1, 2, 5] [(4, .int x11.2), (3, .int v6), (2, .int a2)] rfl ?_
              exact hK7 x11.2
            · refine E_iload 1 dX12_partsNow_119 rfl ?_
              refine E_aload_n 3 dX12_partsNow_121 rfl rfl ?_
              refine E_aload_n 3 dX12_partsNow_122 rfl rfl ?_
              refine E_getR 15 (j := 20) (ci := 12) (T := TX12) (C0 := RX12) (ref := "SameWrongModel") dX12_partsNow_123 rfl (by decide) rfl inX12 (by decide) kw_894 rfl rfl rfl ?_
              refine E_iload 0 dX12_partsNow_126 rfl ?_
              refine E_iaload dX12_partsNow_128 rfl (by decide) ?_
              refine E_iload_n 4 dX12_partsNow_129 rfl rfl ?_
              refine E_callVZ (T := TX12) (ci := 12) [.int (y5.1 15 x11.1.toNatClampNeg), .int a1] [.int x11.2] dX12_partsNow_130 rfl kw_1075 kw_1077 kp_36 kw_13 ko_X12_isRight rfl hy_X12_isRight rfl (by decide) (Nat.le_of_ble_eq_true rfl) rfl (by decide) rfl (c_X12_isRight Γ (y5.1 15 x11.1.toNatClampNeg) a1 y5) (fun v12 => ?_)
              refine E_jn 141 (fun (y : Bool) => [(5, .int x11.1), (3, .int v6), (0, .ref (Γ.2.1 0)), (1, .int a1), (2, .int a2)]) (fun (y : Bool) => [.int (bI y), .int x11.2]) (fun (y : Bool) => y5) ?_ ?_
              · intro y14
                refine E_iadd dX12_partsNow_141 ?_
                refine E_istore [(4, .int (x11.2 + (bI y14))), (5, .int x11.1), (3, .int v6), (0, .ref (Γ.2.1 0)), (1, .int a1), (2, .int a2)] dX12_partsNow_142 (by decide) rfl ?_
                refine E_bv (fun v15 => [(4, .int v15), (5, .int x11.1), (3, .int v6), (0, .ref (Γ.2.1 0)), (1, .int a1), (2, .int a2)]) (fun v15 => ?_) (x11.2 + (bI y14))
                refine E_iload 0 dX12_partsNow_144 rfl ?_
                refine E_aload_n 3 dX12_partsNow_146 rfl rfl ?_
                refine E_aload_n 3 dX12_partsNow_147 rfl rfl ?_
                refine E_getR 15 (j := 20) (ci := 12) (T := TX12) (C0 := RX12) (ref := "SameWrongModel") dX12_partsNow_148 rfl (by decide) rfl inX12 (by decide) kw_894 rfl rfl rfl ?_
                refine E_aload_n 3 dX12_partsNow_151 rfl rfl ?_
                refine E_getI (j := 5) (ci := 12) (T := TX12) (C0 := RX12) (ref := "SameWrongModel") dX12_partsNow_152 rfl (by decide) rfl inX12 (by decide) kw_879 rfl rfl ?_
                refine E_iconst (v := 1) dX12_partsNow_155 (by decide) ?_
                refine E_isub dX12_partsNow_156 ?_
                refine E_iload 1 dX12_partsNow_157 rfl ?_
                refine E_isub dX12_partsNow_159 ?_
                refine E_iaload dX12_partsNow_160 rfl (by decide) ?_
                refine E_iload_n 4 dX12_partsNow_161 rfl rfl ?_
                refine E_callVZ (T := TX12) (ci := 12) [.int (y5.1 15 (((y5.1 0 5) - 1) - x11.1).toNatClampNeg), .int a1] [.int v15] dX12_partsNow_162 rfl kw_1075 kw_1077 kp_36 kw_13 ko_X12_isRight rfl hy_X12_isRight rfl (by decide) (Nat.le_of_ble_eq_true rfl) rfl (by decide) rfl (c_X12_isRight Γ (y5.1 15 (((y5.1 0 5) - 1) - x11.1).toNatClampNeg) a1 y5) (fun v16 => ?_)
                refine E_ifeqb 172 dX12_partsNow_165 (by decide) ?_ ?_
                · refine E_iconst (v := 0) dX12_partsNow_172 (by decide) ?_
                  refine E_isub dX12_partsNow_173 ?_
                  refine E_istore [(4, .int (v15 - 0)), (5, .int x11.1), (3, .int v6), (0, .ref (Γ.2.1 0)), (1, .int a1), (2, .int a2)] dX12_partsNow_174 (by decide) rfl ?_
                  refine E_bv (fun v17 => [(4, .int v17), (5, .int x11.1), (3, .int v6), (0, .ref (Γ.2.1 0)), (1, .int a1), (2, .int a2)]) (fun v17 => ?_) (v15 - 0)
                  refine E_iinc 1 [(5, .int (x11.1 + 1)), (4, .int v17), (3, .int v6), (0, .ref (Γ.2.1 0)), (1, .int a1), (2, .int a2)] dX12_partsNow_176 rfl rfl (by decide) rfl ?_
                  refine E_goto 113 dX12_partsNow_179 (by decide) ?_
                  exact hr10 (x11.1 + 1, v17)
                · refine E_iconst (v := 1) dX12_partsNow_168 (by decide) ?_
                  refine E_goto 173 dX12_partsNow_169 (by decide) ?_
                  refine E_isub dX12_partsNow_173 ?_
                  refine E_istore [(4, .int (v15 - 1)), (5, .int x11.1), (3, .int v6), (0, .ref (Γ.2.1 0)), (1, .int a1), (2, .int a2)] dX12_partsNow_174 (by decide) rfl ?_
                  refine E_bv (fun v18 => [(4, .int v18), (5, .int x11.1), (3, .int v6), (0, .ref (Γ.2.1 0)), (1, .int a1), (2, .int a2)]) (fun v18 => ?_) (v15 - 1)
                  refine E_iinc 1 [(5, .int (x11.1 + 1)), (4, .int v18), (3, .int v6), (0, .ref (Γ.2.1 0)), (1, .int a1), (2, .int a2)] dX12_partsNow_176 rfl rfl (by decide) rfl ?_
                  refine E_goto 113 dX12_partsNow_179 (by decide) ?_
                  exact hr10 (x11.1 + 1, v18)
              · intro K13 hK13
                refine E_ifeqb 140 dX12_partsNow_133 (by decide) ?_ ?_
                · refine E_iconst (v := 0) dX12_partsNow_140 (by decide) ?_
                  refine E_lvsub [0, 2, 3, 4, 5] [(5, .int x11.1), (3, .int v6), (0, .ref (Γ.2.1 0)), (1, .int a1), (2, .int a2)] rfl ?_
                  exact hK13 false
                · refine E_iconst (v := 1) dX12_partsNow_136 (by decide) ?_
                  refine E_goto 141 dX12_partsNow_137 (by decide) ?_
                  refine E_lvsub [0, 2, 3, 4, 5] [(5, .int x11.1), (3, .int v6), (0, .ref (Γ.2.1 0)), (1, .int a1), (2, .int a2)] rfl ?_
                  exact hK13 true
        · intro K4 hK4
          refine E_lp (F := L_X12_partsNow_25 a1 K4) (fun (x : Int32 × St) => [(3, .int x.1), (0, .ref (Γ.2.1 0)), (1, .int a1), (2, .int a2)]) (fun (x : Int32 × St) => x.2) ?_ NN (0, s)
          intro r19 hr19 x20
          show E _ _ _ _ _ _ _ _ _ _ _ _ (L_X12_partsNow_25 a1 K4 r19 x20)
          unfold L_X12_partsNow_25
          refine E_iload_n 0 dX12_partsNow_25 rfl rfl ?_
          refine E_aload_n 1 dX12_partsNow_26 rfl rfl ?_
          refine E_getI (j := 5) (ci := 12) (T := TX12) (C0 := RX12) (ref := "SameWrongModel") dX12_partsNow_27 rfl (by decide) rfl inX12 (by decide) kw_879 rfl rfl ?_
          refine E_icmpge 100 dX12_partsNow_30 (by decide) ?_ ?_
          · refine E_lvsub [1, 2, 3] [(0, .ref (Γ.2.1 0)), (1, .int a1), (2, .int a2)] rfl ?_
            exact hK4 x20.2
          · refine E_iload_n 0 dX12_partsNow_33 rfl rfl ?_
            refine E_istore [(4, .int x20.1), (3, .int x20.1), (0, .ref (Γ.2.1 0)), (1, .int a1), (2, .int a2)] dX12_partsNow_34 (by decide) rfl ?_
            refine E_jn 86 (fun (y : Int32 × St) => [(4, .int y.1), (3, .int x20.1), (0, .ref (Γ.2.1 0)), (1, .int a1), (2, .int a2)]) (fun (y : Int32 × St) => []) (fun (y : Int32 × St) => y.2) ?_ ?_
            · intro y22
              refine E_aload_n 2 dX12_partsNow_86 rfl rfl ?_
              refine E_getR 15 (j := 20) (ci := 12) (T := TX12) (C0 := RX12) (ref := "SameWrongModel") dX12_partsNow_87 rfl (by decide) rfl inX12 (by decide) kw_894 rfl rfl rfl ?_
              refine E_iload 0 dX12_partsNow_90 rfl ?_
              refine E_iload_n 1 dX12_partsNow_92 rfl rfl ?_
              refine E_iastore dX12_partsNow_93 rfl (by decide) ?_
              refine E_bd (fun s23 => ?_)
              refine E_iinc 1 [(3, .int (x20.1 + 1)), (4, .int y22.1), (0, .ref (Γ.2.1 0)), (1, .int a1), (2, .int a2)] dX12_partsNow_94 rfl rfl (by decide) rfl ?_
              refine E_goto 25 dX12_partsNow_97 (by decide) ?_
              refine E_lvsub [0, 2, 3, 4] [(3, .int (x20.1 + 1)), (0, .ref (Γ.2.1 0)), (1, .int a1), (2, .int a2)] rfl ?_
              exact hr19 (x20.1 + 1, s23)
            · intro K21 hK21
              refine E_lp (F := L_X12_partsNow_36 a1 x20 K21) (fun (x : Int32 × St) => [(4, .int x.1), (3, .int x20.1), (0, .ref (Γ.2.1 0)), (1, .int a1), (2, .int a2)]) (fun (x : Int32 × St) => x.2) ?_ NN (x20.1, x20.2)
              intro r24 hr24 x25
              show E _ _ _ _ _ _ _ _ _ _ _ _ (L_X12_partsNow_36 a1 x20 K21 r24 x25)
              unfold L_X12_partsNow_36
              refine E_iload 0 dX12_partsNow_36 rfl ?_
              refine E_ifle 86 dX12_partsNow_38 (by decide) ?_ ?_
              · exact hK21 (x25.1, x25.2)
              · refine E_aload_n 2 dX12_partsNow_41 rfl rfl ?_
                refine E_aload_n 2 dX12_partsNow_42 rfl rfl ?_
                refine E_getR 15 (j := 20) (ci := 12) (T := TX12) (C0 := RX12) (ref := "SameWrongModel") dX12_partsNow_43 rfl (by decide) rfl inX12 (by decide) kw_894 rfl rfl rfl ?_
                refine E_iload 0 dX12_partsNow_46 rfl ?_
                refine E_iconst (v := 1) dX12_partsNow_48 (by decide) ?_
                refine E_isub dX12_partsNow_49 ?_
                refine E_iaload dX12_partsNow_50 rfl (by decide) ?_
                refine E_iload_n 3 dX12_partsNow_51 rfl rfl ?_
                refine E_callVI (T := TX12) (ci := 12) [.int (x25.2.1 15 (x25.1 - 1).toNatClampNeg), .int a1] [] dX12_partsNow_52 rfl kw_1071 kw_1073 kp_35 kw_13 ko_X12_markBut rfl hy_X12_markBut rfl (by decide) (Nat.le_of_ble_eq_true rfl) rfl (by decide) rfl (c_X12_markBut Γ (x25.2.1 15 (x25.1 - 1).toNatClampNeg) a1 x25.2) (fun v26 => ?_)
                refine E_aload_n 2 dX12_partsNow_55 rfl rfl ?_
                refine E_iload_n 1 dX12_partsNow_56 rfl rfl ?_
                refine E_iload_n 3 dX12_partsNow_57 rfl rfl ?_
                refine E_callVI (T := TX12) (ci := 12) [.int x20.1, .int a1] [.int v26] dX12_partsNow_58 rfl kw_1071 kw_1073 kp_35 kw_13 ko_X12_markBut rfl hy_X12_markBut rfl (by decide) (Nat.le_of_ble_eq_true rfl) rfl (by decide) rfl (c_X12_markBut Γ x20.1 a1 x25.2) (fun v27 => ?_)
                refine E_icmpge 86 dX12_partsNow_61 (by decide) ?_ ?_
                · exact hK21 (x25.1, x25.2)
                · refine E_aload_n 2 dX12_partsNow_64 rfl rfl ?_
                  refine E_getR 15 (j := 20) (ci := 12) (T := TX12) (C0 := RX12) (ref := "SameWrongModel") dX12_partsNow_65 rfl (by decide) rfl inX12 (by decide) kw_894 rfl rfl rfl ?_
                  refine E_iload 0 dX12_partsNow_68 rfl ?_
                  refine E_aload_n 2 dX12_partsNow_70 rfl rfl ?_
                  refine E_getR 15 (j := 20) (ci := 12) (T := TX12) (C0 := RX12) (ref := "SameWrongModel") dX12_partsNow_71 rfl (by decide) rfl inX12 (by decide) kw_894 rfl rfl rfl ?_
                  refine E_iload 0 dX12_partsNow_74 rfl ?_
                  refine E_iconst (v := 1) dX12_partsNow_76 (by decide) ?_
                  refine E_isub dX12_partsNow_77 ?_
                  refine E_iaload dX12_partsNow_78 rfl (by decide) ?_
                  refine E_iastore dX12_partsNow_79 rfl (by decide) ?_
                  refine E_bd (fun s28 => ?_)
                  refine E_iinc 0 [(4, .int (x25.1 + (-1))), (3, .int x20.1), (0, .ref (Γ.2.1 0)), (1, .int a1), (2, .int a2)] dX12_partsNow_80 rfl rfl (by decide) rfl ?_
                  refine E_goto 36 dX12_partsNow_83 (by decide) ?_
                  exact hr24 (x25.1 + (-1), s28)
      · refine E_lvsub [] [] rfl ?_
        exact hK1 ()
theorem c_X12_partsNow (Γ : GT) (a1 : Int32) (a2 : Int32) (s : St)  (x : (Int64 × St)) (h : f_X12_partsNow a1 a2 s = some x) (l : Launch) : MC l yX12_partsNow cX12_partsNow 6 (some .long) 3 WM Γ [.ref (Γ.2.1 0), .int a1, .int a2] s (emLS x) := MC_of (by decide +kernel) (Nat.le_of_ble_eq_true rfl) (e_X12_partsNow Γ a1 a2 s ) h l
set_option maxRecDepth 100000 in
set_option maxHeartbeats 4000000 in
theorem e_X12_parts (Γ : GT) (a1 : Int32) (a2 : Int32) (s : St)  : E RX12 cX12_parts 3 (some .long) 5 WM Γ emLS 0 [(0, .ref (Γ.2.1 0)), (1, .int a1), (2, .int a2)] [] s (f_X12_parts a1 a2 s) := by
  unfold f_X12_parts
  refine E_aload_n 0 dX12_parts_0 rfl rfl ?_
  refine E_iload_n 1 dX12_parts_1 rfl rfl ?_
  refine E_callVZ (T := TX12) (ci := 12) [.int a1] [] dX12_parts_2 rfl kw_993 kw_995 kp_24 kw_13 ko_X12_isQuestion rfl hy_X12_isQuestion rfl (by decide) (Nat.le_of_ble_eq_true rfl) rfl (by decide) rfl (c_X12_isQuestion Γ a1 s) (fun v1 => ?_)
  refine E_jn 17 (fun (y : Unit) => []) (fun (y : Unit) => []) (fun (y : Unit) => s) ?_ ?_
  · intro y3
    refine E_bipush (v := (-2)) dX12_parts_17 (by decide) ?_
    refine E_callSL [.int (-2)] [] dX12_parts_19 rfl kw_1125 kw_1126 kw_13 ko_X12_no hy_X12_no rfl (by decide) (Nat.le_of_ble_eq_true rfl) (c_X12_no Γ (-2) s) (fun v4 => ?_)
    exact E_lreturn dX12_parts_22 rfl rfl
  · intro K2 hK2
    refine E_ifeqb 17 dX12_parts_5 (by decide) ?_ ?_
    · refine E_lvsub [] [] rfl ?_
      exact hK2 ()
    · refine E_iload_n 2 dX12_parts_8 rfl rfl ?_
      refine E_iconst (v := 0) dX12_parts_9 (by decide) ?_
      refine E_iconst (v := 1) dX12_parts_10 (by decide) ?_
      refine E_callSZ [.int a2, .int 0, .int 1] [] dX12_parts_11 rfl kw_970 kw_971 kw_13 ko_X12_in hy_X12_in rfl (by decide) (Nat.le_of_ble_eq_true rfl) (c_X12_in Γ a2 0 1 s) (fun v5 => ?_)
      refine E_ifneb 23 dX12_parts_14 (by decide) ?_ ?_
      · refine E_aload_n 0 dX12_parts_23 rfl rfl ?_
        refine E_callVV (T := TX12) (ci := 12) [] [] dX12_parts_24 rfl kw_1044 kw_1046 kp_31 kw_13 ko_X12_lays rfl hy_X12_lays rfl (by decide) (Nat.le_of_ble_eq_true rfl) rfl (by decide) rfl (c_X12_lays Γ s) (fun s6 => ?_)
        refine E_aload_n 0 dX12_parts_27 rfl rfl ?_
        refine E_iload_n 1 dX12_parts_28 rfl rfl ?_
        refine E_iload_n 2 dX12_parts_29 rfl rfl ?_
        refine E_callVLS (T := TX12) (ci := 12) [.int a1, .int a2] [] dX12_parts_30 rfl kw_1266 kw_1268 kp_63 kw_13 ko_X12_partsNow rfl hy_X12_partsNow rfl (by decide) (Nat.le_of_ble_eq_true rfl) rfl (by decide) rfl (c_X12_partsNow Γ a1 a2 s6) (fun p7 => ?_)
        exact E_lreturn dX12_parts_33 rfl rfl
      · refine E_lvsub [] [] rfl ?_
        exact hK2 ()
theorem c_X12_parts (Γ : GT) (a1 : Int32) (a2 : Int32) (s : St)  (x : (Int64 × St)) (h : f_X12_parts a1 a2 s = some x) (l : Launch) : MC l yX12_parts cX12_parts 3 (some .long) 5 WM Γ [.ref (Γ.2.1 0), .int a1, .int a2] s (emLS x) := MC_of (by decide +kernel) (Nat.le_of_ble_eq_true rfl) (e_X12_parts Γ a1 a2 s ) h l
set_option maxRecDepth 100000 in
set_option maxHeartbeats 4000000 in
theorem e_X12_sheet (Γ : GT) (a1 : Int32) (a2 : Int32) (a3 : Int32) (s : St)  : E RX12 cX12_sheet 5 (some .int) 3 WM Γ emIS 0 [(0, .ref (Γ.2.1 0)), (1, .int a1), (2, .int a2), (3, .int a3)] [] s (f_X12_sheet a1 a2 a3 s) := by
  unfold f_X12_sheet
  refine E_iload_n 1 dX12_sheet_0 rfl rfl ?_
  refine E_callSZ [.int a1] [] dX12_sheet_1 rfl kw_1033 kw_1034 kw_13 ko_X12_isSheet hy_X12_isSheet rfl (by decide) (Nat.le_of_ble_eq_true rfl) (c_X12_isSheet Γ a1 s) (fun v1 => ?_)
  refine E_ifeqb 22 dX12_sheet_4 (by decide) ?_ ?_
  · refine E_bipush (v := (-2)) dX12_sheet_22 (by decide) ?_
    exact E_ireturn dX12_sheet_24 rfl rfl
  · refine E_iload_n 2 dX12_sheet_7 rfl rfl ?_
    refine E_iconst (v := 0) dX12_sheet_8 (by decide) ?_
    refine E_iconst (v := 2) dX12_sheet_9 (by decide) ?_
    refine E_callSZ [.int a2, .int 0, .int 2] [] dX12_sheet_10 rfl kw_970 kw_971 kw_13 ko_X12_in hy_X12_in rfl (by decide) (Nat.le_of_ble_eq_true rfl) (c_X12_in Γ a2 0 2 s) (fun v2 => ?_)
    refine E_ifeqb 22 dX12_sheet_13 (by decide) ?_ ?_
    · refine E_bipush (v := (-2)) dX12_sheet_22 (by decide) ?_
      exact E_ireturn dX12_sheet_24 rfl rfl
    · refine E_iload_n 3 dX12_sheet_16 rfl rfl ?_
      refine E_bipush (v := 48) dX12_sheet_17 (by decide) ?_
      refine E_icmple 25 dX12_sheet_19 (by decide) ?_ ?_
      · refine E_iload_n 3 dX12_sheet_25 rfl rfl ?_
        refine E_ifge 35 dX12_sheet_26 (by decide) ?_ ?_
        · refine E_aload_n 0 dX12_sheet_35 rfl rfl ?_
          refine E_getR 19 (j := 24) (ci := 12) (T := TX12) (C0 := RX12) (ref := "SameWrongModel") dX12_sheet_36 rfl (by decide) rfl inX12 (by decide) kw_898 rfl rfl rfl ?_
          refine E_iload_n 1 dX12_sheet_39 rfl rfl ?_
          refine E_iconst (v := 1) dX12_sheet_40 (by decide) ?_
          refine E_zastore dX12_sheet_41 rfl (by decide) rfl ?_
          refine E_bd (fun s3 => ?_)
          refine E_aload_n 0 dX12_sheet_42 rfl rfl ?_
          refine E_getR 20 (j := 25) (ci := 12) (T := TX12) (C0 := RX12) (ref := "SameWrongModel") dX12_sheet_43 rfl (by decide) rfl inX12 (by decide) kw_899 rfl rfl rfl ?_
          refine E_iload_n 1 dX12_sheet_46 rfl rfl ?_
          refine E_iload_n 2 dX12_sheet_47 rfl rfl ?_
          refine E_iastore dX12_sheet_48 rfl (by decide) ?_
          refine E_bd (fun s4 => ?_)
          refine E_aload_n 0 dX12_sheet_49 rfl rfl ?_
          refine E_getR 21 (j := 26) (ci := 12) (T := TX12) (C0 := RX12) (ref := "SameWrongModel") dX12_sheet_50 rfl (by decide) rfl inX12 (by decide) kw_900 rfl rfl rfl ?_
          refine E_iload_n 1 dX12_sheet_53 rfl rfl ?_
          refine E_iload_n 3 dX12_sheet_54 rfl rfl ?_
          refine E_iastore dX12_sheet_55 rfl (by decide) ?_
          refine E_bd (fun s5 => ?_)
          refine E_iconst (v := 0) dX12_sheet_56 (by decide) ?_
          refine E_istore [(4, .int 0), (0, .ref (Γ.2.1 0)), (1, .int a1), (2, .int a2), (3, .int a3)] dX12_sheet_57 (by decide) rfl ?_
          refine E_lvsub [0, 1, 2, 4] [(4, .int 0), (0, .ref (Γ.2.1 0)), (1, .int a1), (3, .int a3)] rfl ?_
          refine E_lp (F := L_X12_sheet_59 a1 a3) (fun (x : Int32 × St) => [(4, .int x.1), (0, .ref (Γ.2.1 0)), (1, .int a1), (3, .int a3)]) (fun (x : Int32 × St) => x.2) ?_ NN (0, s5)
          intro r6 hr6 x7
          show E _ _ _ _ _ _ _ _ _ _ _ _ (L_X12_sheet_59 a1 a3 r6 x7)
          unfold L_X12_sheet_59
          refine E_iload 0 dX12_sheet_59 rfl ?_
          refine E_bipush (v := 48) dX12_sheet_61 (by decide) ?_
          refine E_icmpge 85 dX12_sheet_63 (by decide) ?_ ?_
          · refine E_iload_n 3 dX12_sheet_85 rfl rfl ?_
            exact E_ireturn dX12_sheet_86 rfl rfl
          · refine E_aload_n 1 dX12_sheet_66 rfl rfl ?_
            refine E_getR 22 (j := 27) (ci := 12) (T := TX12) (C0 := RX12) (ref := "SameWrongModel") dX12_sheet_67 rfl (by decide) rfl inX12 (by decide) kw_901 rfl rfl rfl ?_
            refine E_bipush (v := 48) dX12_sheet_70 (by decide) ?_
            refine E_iload_n 2 dX12_sheet_72 rfl rfl ?_
            refine E_imul dX12_sheet_73 ?_
            refine E_iload 0 dX12_sheet_74 rfl ?_
            refine E_iadd dX12_sheet_76 ?_
            refine E_iconst (v := 0) dX12_sheet_77 (by decide) ?_
            refine E_iastore dX12_sheet_78 rfl (by decide) ?_
            refine E_bd (fun s8 => ?_)
            refine E_iinc 0 [(4, .int (x7.1 + 1)), (0, .ref (Γ.2.1 0)), (1, .int a1), (3, .int a3)] dX12_sheet_79 rfl rfl (by decide) rfl ?_
            refine E_goto 59 dX12_sheet_82 (by decide) ?_
            exact hr6 (x7.1 + 1, s8)
        · refine E_aload_n 0 dX12_sheet_29 rfl rfl ?_
          refine E_iconst (v := 5) dX12_sheet_30 (by decide) ?_
          refine E_callVIS (T := TX12) (ci := 12) [.int 5] [] dX12_sheet_31 rfl kw_1036 kw_1038 kp_30 kw_13 ko_X12_meets rfl hy_X12_meets rfl (by decide) (Nat.le_of_ble_eq_true rfl) rfl (by decide) rfl (c_X12_meets Γ 5 s) (fun p9 => ?_)
          exact E_ireturn dX12_sheet_34 rfl rfl
      · refine E_bipush (v := (-2)) dX12_sheet_22 (by decide) ?_
        exact E_ireturn dX12_sheet_24 rfl rfl
theorem c_X12_sheet (Γ : GT) (a1 : Int32) (a2 : Int32) (a3 : Int32) (s : St)  (x : (Int32 × St)) (h : f_X12_sheet a1 a2 a3 s = some x) (l : Launch) : MC l yX12_sheet cX12_sheet 5 (some .int) 3 WM Γ [.ref (Γ.2.1 0), .int a1, .int a2, .int a3] s (emIS x) := MC_of (by decide +kernel) (Nat.le_of_ble_eq_true rfl) (e_X12_sheet Γ a1 a2 a3 s ) h l
set_option maxRecDepth 100000 in
set_option maxHeartbeats 4000000 in
theorem e_X12_lose (Γ : GT) (a1 : Int32) (s : St)  : E RX12 cX12_lose 2 (some .int) 3 WM Γ emIS 0 [(0, .ref (Γ.2.1 0)), (1, .int a1)] [] s (f_X12_lose a1 s) := by
  unfold f_X12_lose
  refine E_iload_n 1 dX12_lose_0 rfl rfl ?_
  refine E_callSZ [.int a1] [] dX12_lose_1 rfl kw_1033 kw_1034 kw_13 ko_X12_isSheet hy_X12_isSheet rfl (by decide) (Nat.le_of_ble_eq_true rfl) (c_X12_isSheet Γ a1 s) (fun v1 => ?_)
  refine E_ifneb 10 dX12_lose_4 (by decide) ?_ ?_
  · refine E_aload_n 0 dX12_lose_10 rfl rfl ?_
    refine E_getR 19 (j := 24) (ci := 12) (T := TX12) (C0 := RX12) (ref := "SameWrongModel") dX12_lose_11 rfl (by decide) rfl inX12 (by decide) kw_898 rfl rfl rfl ?_
    refine E_iload_n 1 dX12_lose_14 rfl rfl ?_
    refine E_zaload dX12_lose_15 rfl (by decide) ?_
    refine E_ifne 25 dX12_lose_16 (by decide) ?_ ?_
    · refine E_aload_n 0 dX12_lose_25 rfl rfl ?_
      refine E_getR 19 (j := 24) (ci := 12) (T := TX12) (C0 := RX12) (ref := "SameWrongModel") dX12_lose_26 rfl (by decide) rfl inX12 (by decide) kw_898 rfl rfl rfl ?_
      refine E_iload_n 1 dX12_lose_29 rfl rfl ?_
      refine E_iconst (v := 0) dX12_lose_30 (by decide) ?_
      refine E_zastore dX12_lose_31 rfl (by decide) rfl ?_
      refine E_bd (fun s2 => ?_)
      refine E_aload_n 0 dX12_lose_32 rfl rfl ?_
      refine E_getR 21 (j := 26) (ci := 12) (T := TX12) (C0 := RX12) (ref := "SameWrongModel") dX12_lose_33 rfl (by decide) rfl inX12 (by decide) kw_900 rfl rfl rfl ?_
      refine E_iload_n 1 dX12_lose_36 rfl rfl ?_
      refine E_iaload dX12_lose_37 rfl (by decide) ?_
      exact E_ireturn dX12_lose_38 rfl rfl
    · refine E_aload_n 0 dX12_lose_19 rfl rfl ?_
      refine E_iconst (v := 1) dX12_lose_20 (by decide) ?_
      refine E_callVIS (T := TX12) (ci := 12) [.int 1] [] dX12_lose_21 rfl kw_1036 kw_1038 kp_30 kw_13 ko_X12_meets rfl hy_X12_meets rfl (by decide) (Nat.le_of_ble_eq_true rfl) rfl (by decide) rfl (c_X12_meets Γ 1 s) (fun p3 => ?_)
      exact E_ireturn dX12_lose_24 rfl rfl
  · refine E_bipush (v := (-2)) dX12_lose_7 (by decide) ?_
    exact E_ireturn dX12_lose_9 rfl rfl
theorem c_X12_lose (Γ : GT) (a1 : Int32) (s : St)  (x : (Int32 × St)) (h : f_X12_lose a1 s = some x) (l : Launch) : MC l yX12_lose cX12_lose 2 (some .int) 3 WM Γ [.ref (Γ.2.1 0), .int a1] s (emIS x) := MC_of (by decide +kernel) (Nat.le_of_ble_eq_true rfl) (e_X12_lose Γ a1 s ) h l
set_option maxRecDepth 100000 in
set_option maxHeartbeats 4000000 in
theorem e_X12_lacks (Γ : GT) (a1 : Int32) (a2 : Int32) (a3 : Int32) (s : St)  : E RX12 cX12_lacks 4 (some .int) 2 WM Γ (emI s) 0 [(0, .ref (Γ.2.1 0)), (1, .int a1), (2, .int a2), (3, .int a3)] [] s (f_X12_lacks a1 a2 a3 s) := by
  unfold f_X12_lacks
  refine E_aload_n 0 dX12_lacks_0 rfl rfl ?_
  refine E_getR 19 (j := 24) (ci := 12) (T := TX12) (C0 := RX12) (ref := "SameWrongModel") dX12_lacks_1 rfl (by decide) rfl inX12 (by decide) kw_898 rfl rfl rfl ?_
  refine E_iload_n 1 dX12_lacks_4 rfl rfl ?_
  refine E_zaload dX12_lacks_5 rfl (by decide) ?_
  refine E_ifne 13 dX12_lacks_6 (by decide) ?_ ?_
  · refine E_aload_n 0 dX12_lacks_13 rfl rfl ?_
    refine E_getR 20 (j := 25) (ci := 12) (T := TX12) (C0 := RX12) (ref := "SameWrongModel") dX12_lacks_14 rfl (by decide) rfl inX12 (by decide) kw_899 rfl rfl rfl ?_
    refine E_iload_n 1 dX12_lacks_17 rfl rfl ?_
    refine E_iaload dX12_lacks_18 rfl (by decide) ?_
    refine E_iload_n 2 dX12_lacks_19 rfl rfl ?_
    refine E_icmpeq 27 dX12_lacks_20 (by decide) ?_ ?_
    · refine E_iload_n 3 dX12_lacks_27 rfl rfl ?_
      refine E_iconst (v := 0) dX12_lacks_28 (by decide) ?_
      refine E_aload_n 0 dX12_lacks_29 rfl rfl ?_
      refine E_getR 21 (j := 26) (ci := 12) (T := TX12) (C0 := RX12) (ref := "SameWrongModel") dX12_lacks_30 rfl (by decide) rfl inX12 (by decide) kw_900 rfl rfl rfl ?_
      refine E_iload_n 1 dX12_lacks_33 rfl rfl ?_
      refine E_iaload dX12_lacks_34 rfl (by decide) ?_
      refine E_iconst (v := 1) dX12_lacks_35 (by decide) ?_
      refine E_isub dX12_lacks_36 ?_
      refine E_callSZ [.int a3, .int 0, .int ((s.1 21 a1.toNatClampNeg) - 1)] [] dX12_lacks_37 rfl kw_970 kw_971 kw_13 ko_X12_in hy_X12_in rfl (by decide) (Nat.le_of_ble_eq_true rfl) (c_X12_in Γ a3 0 ((s.1 21 a1.toNatClampNeg) - 1) s) (fun v1 => ?_)
      refine E_ifeqb 47 dX12_lacks_40 (by decide) ?_ ?_
      · refine E_iconst (v := 2) dX12_lacks_47 (by decide) ?_
        exact E_ireturn dX12_lacks_48 rfl rfl
      · refine E_iconst (v := 0) dX12_lacks_43 (by decide) ?_
        refine E_goto 48 dX12_lacks_44 (by decide) ?_
        exact E_ireturn dX12_lacks_48 rfl rfl
    · refine E_iconst (v := 3) dX12_lacks_23 (by decide) ?_
      refine E_goto 48 dX12_lacks_24 (by decide) ?_
      exact E_ireturn dX12_lacks_48 rfl rfl
  · refine E_iconst (v := 1) dX12_lacks_9 (by decide) ?_
    refine E_goto 48 dX12_lacks_10 (by decide) ?_
    exact E_ireturn dX12_lacks_48 rfl rfl
theorem c_X12_lacks (Γ : GT) (a1 : Int32) (a2 : Int32) (a3 : Int32) (s : St)  (x : Int32) (h : f_X12_lacks a1 a2 a3 s = some x) (l : Launch) : MC l yX12_lacks cX12_lacks 4 (some .int) 2 WM Γ [.ref (Γ.2.1 0), .int a1, .int a2, .int a3] s ((emI s) x) := MC_of (by decide +kernel) (Nat.le_of_ble_eq_true rfl) (e_X12_lacks Γ a1 a2 a3 s ) h l
set_option maxRecDepth 100000 in
set_option maxHeartbeats 4000000 in
theorem e_X12_keep (Γ : GT) (a1 : Int32) (a2 : Int32) (a3 : Int32) (s : St)  : E RX12 cX12_keep 4 none 1 WM Γ emV 0 [(0, .ref (Γ.2.1 0)), (1, .int a1), (2, .int a2), (3, .int a3)] [] s (f_X12_keep a1 a2 a3 s) := by
  unfold f_X12_keep
  refine E_aload_n 0 dX12_keep_0 rfl rfl ?_
  refine E_getR 22 (j := 27) (ci := 12) (T := TX12) (C0 := RX12) (ref := "SameWrongModel") dX12_keep_1 rfl (by decide) rfl inX12 (by decide) kw_901 rfl rfl rfl ?_
  refine E_bipush (v := 48) dX12_keep_4 (by decide) ?_
  refine E_iload_n 1 dX12_keep_6 rfl rfl ?_
  refine E_imul dX12_keep_7 ?_
  refine E_iload_n 2 dX12_keep_8 rfl rfl ?_
  refine E_iadd dX12_keep_9 ?_
  refine E_aload_n 0 dX12_keep_10 rfl rfl ?_
  refine E_getR 20 (j := 25) (ci := 12) (T := TX12) (C0 := RX12) (ref := "SameWrongModel") dX12_keep_11 rfl (by decide) rfl inX12 (by decide) kw_899 rfl rfl rfl ?_
  refine E_iload_n 1 dX12_keep_14 rfl rfl ?_
  refine E_iaload dX12_keep_15 rfl (by decide) ?_
  refine E_jn 40 (fun (y : Int32) => []) (fun (y : Int32) => [.int y, .int ((48 * a1) + a2), .ref (Γ.2.1 22)]) (fun (y : Int32) => s) ?_ ?_
  · intro y2
    refine E_iastore dX12_keep_40 rfl (by decide) ?_
    refine E_bd (fun s3 => ?_)
    exact E_return dX12_keep_41 rfl rfl
  · intro K1 hK1
    refine E_ifne 24 dX12_keep_16 (by decide) ?_ ?_
    · refine E_aload_n 0 dX12_keep_24 rfl rfl ?_
      refine E_getR 20 (j := 25) (ci := 12) (T := TX12) (C0 := RX12) (ref := "SameWrongModel") dX12_keep_25 rfl (by decide) rfl inX12 (by decide) kw_899 rfl rfl rfl ?_
      refine E_iload_n 1 dX12_keep_28 rfl rfl ?_
      refine E_iaload dX12_keep_29 rfl (by decide) ?_
      refine E_iconst (v := 1) dX12_keep_30 (by decide) ?_
      refine E_icmpne 39 dX12_keep_31 (by decide) ?_ ?_
      · refine E_iload_n 3 dX12_keep_39 rfl rfl ?_
        refine E_lvsub [] [] rfl ?_
        exact hK1 a3
      · refine E_iload_n 3 dX12_keep_34 rfl rfl ?_
        refine E_i2s dX12_keep_35 ?_
        refine E_goto 40 dX12_keep_36 (by decide) ?_
        refine E_lvsub [] [] rfl ?_
        exact hK1 a3.toInt16.toInt32
    · refine E_iload_n 3 dX12_keep_19 rfl rfl ?_
      refine E_i2b dX12_keep_20 ?_
      refine E_goto 40 dX12_keep_21 (by decide) ?_
      refine E_lvsub [] [] rfl ?_
      exact hK1 a3.toInt8.toInt32
theorem c_X12_keep (Γ : GT) (a1 : Int32) (a2 : Int32) (a3 : Int32) (s : St)  (x : St) (h : f_X12_keep a1 a2 a3 s = some x) (l : Launch) : MC l yX12_keep cX12_keep 4 none 1 WM Γ [.ref (Γ.2.1 0), .int a1, .int a2, .int a3] s (emV x) := MC_of (by decide +kernel) (Nat.le_of_ble_eq_true rfl) (e_X12_keep Γ a1 a2 a3 s ) h l
