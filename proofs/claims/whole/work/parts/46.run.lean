set_option maxRecDepth 100000 in
set_option maxHeartbeats 4000000 in
theorem e_X12_put (Γ : GT) (a1 : Int32) (a2 : Int32) (a3 : Int32) (a4 : Int32) (s : St)  : E RX12 cX12_put 6 (some .int) 3 WM Γ emIS 0 [(0, .ref (Γ.2.1 0)), (1, .int a1), (2, .int a2), (3, .int a3), (4, .int a4)] [] s (f_X12_put a1 a2 a3 a4 s) := by
  unfold f_X12_put
  refine E_iload_n 1 dX12_put_0 rfl rfl ?_
  refine E_callSZ [.int a1] [] dX12_put_1 rfl kw_1033 kw_1034 kw_13 ko_X12_isSheet hy_X12_isSheet rfl (by decide) (Nat.le_of_ble_eq_true rfl) (c_X12_isSheet Γ a1 s) (fun v1 => ?_)
  refine E_ifeqb 16 dX12_put_4 (by decide) ?_ ?_
  · refine E_bipush (v := (-2)) dX12_put_16 (by decide) ?_
    exact E_ireturn dX12_put_18 rfl rfl
  · refine E_iload_n 2 dX12_put_7 rfl rfl ?_
    refine E_iconst (v := 0) dX12_put_8 (by decide) ?_
    refine E_iconst (v := 2) dX12_put_9 (by decide) ?_
    refine E_callSZ [.int a2, .int 0, .int 2] [] dX12_put_10 rfl kw_970 kw_971 kw_13 ko_X12_in hy_X12_in rfl (by decide) (Nat.le_of_ble_eq_true rfl) (c_X12_in Γ a2 0 2 s) (fun v2 => ?_)
    refine E_ifneb 19 dX12_put_13 (by decide) ?_ ?_
    · refine E_aload_n 0 dX12_put_19 rfl rfl ?_
      refine E_iload_n 1 dX12_put_20 rfl rfl ?_
      refine E_iload_n 2 dX12_put_21 rfl rfl ?_
      refine E_iload_n 3 dX12_put_22 rfl rfl ?_
      refine E_callVI (T := TX12) (ci := 12) [.int a1, .int a2, .int a3] [] dX12_put_23 rfl kw_1282 kw_1284 kp_64 kw_13 ko_X12_lacks rfl hy_X12_lacks rfl (by decide) (Nat.le_of_ble_eq_true rfl) rfl (by decide) rfl (c_X12_lacks Γ a1 a2 a3 s) (fun v3 => ?_)
      refine E_istore [(5, .int v3), (0, .ref (Γ.2.1 0)), (1, .int a1), (2, .int a2), (3, .int a3), (4, .int a4)] dX12_put_26 (by decide) rfl ?_
      refine E_iload 0 dX12_put_28 rfl ?_
      refine E_ifle 40 dX12_put_30 (by decide) ?_ ?_
      · refine E_aload_n 1 dX12_put_40 rfl rfl ?_
        refine E_iload_n 2 dX12_put_41 rfl rfl ?_
        refine E_iload_n 4 dX12_put_42 rfl rfl ?_
        refine E_iload 5 dX12_put_43 rfl ?_
        refine E_callVV (T := TX12) (ci := 12) [.int a1, .int a3, .int a4] [] dX12_put_45 rfl kw_1286 kw_1288 kp_65 kw_13 ko_X12_keep rfl hy_X12_keep rfl (by decide) (Nat.le_of_ble_eq_true rfl) rfl (by decide) rfl (c_X12_keep Γ a1 a3 a4 s) (fun s4 => ?_)
        refine E_iconst (v := 1) dX12_put_48 (by decide) ?_
        exact E_ireturn dX12_put_49 rfl rfl
      · refine E_aload_n 1 dX12_put_33 rfl rfl ?_
        refine E_iload 0 dX12_put_34 rfl ?_
        refine E_callVIS (T := TX12) (ci := 12) [.int v3] [] dX12_put_36 rfl kw_1036 kw_1038 kp_30 kw_13 ko_X12_meets rfl hy_X12_meets rfl (by decide) (Nat.le_of_ble_eq_true rfl) rfl (by decide) rfl (c_X12_meets Γ v3 s) (fun p5 => ?_)
        exact E_ireturn dX12_put_39 rfl rfl
    · refine E_bipush (v := (-2)) dX12_put_16 (by decide) ?_
      exact E_ireturn dX12_put_18 rfl rfl
theorem c_X12_put (Γ : GT) (a1 : Int32) (a2 : Int32) (a3 : Int32) (a4 : Int32) (s : St)  (x : (Int32 × St)) (h : f_X12_put a1 a2 a3 a4 s = some x) (l : Launch) : MC l yX12_put cX12_put 6 (some .int) 3 WM Γ [.ref (Γ.2.1 0), .int a1, .int a2, .int a3, .int a4] s (emIS x) := MC_of (by decide +kernel) (Nat.le_of_ble_eq_true rfl) (e_X12_put Γ a1 a2 a3 a4 s ) h l
set_option maxRecDepth 100000 in
set_option maxHeartbeats 4000000 in
theorem e_X12_get (Γ : GT) (a1 : Int32) (a2 : Int32) (a3 : Int32) (s : St)  : E RX12 cX12_get 5 (some .int) 3 WM Γ emIS 0 [(0, .ref (Γ.2.1 0)), (1, .int a1), (2, .int a2), (3, .int a3)] [] s (f_X12_get a1 a2 a3 s) := by
  unfold f_X12_get
  refine E_iload_n 1 dX12_get_0 rfl rfl ?_
  refine E_callSZ [.int a1] [] dX12_get_1 rfl kw_1033 kw_1034 kw_13 ko_X12_isSheet hy_X12_isSheet rfl (by decide) (Nat.le_of_ble_eq_true rfl) (c_X12_isSheet Γ a1 s) (fun v1 => ?_)
  refine E_ifeqb 16 dX12_get_4 (by decide) ?_ ?_
  · refine E_ldcw (v := (-2147483648)) dX12_get_16 kw_1294 ?_
    exact E_ireturn dX12_get_19 rfl rfl
  · refine E_iload_n 2 dX12_get_7 rfl rfl ?_
    refine E_iconst (v := 0) dX12_get_8 (by decide) ?_
    refine E_iconst (v := 2) dX12_get_9 (by decide) ?_
    refine E_callSZ [.int a2, .int 0, .int 2] [] dX12_get_10 rfl kw_970 kw_971 kw_13 ko_X12_in hy_X12_in rfl (by decide) (Nat.le_of_ble_eq_true rfl) (c_X12_in Γ a2 0 2 s) (fun v2 => ?_)
    refine E_ifneb 20 dX12_get_13 (by decide) ?_ ?_
    · refine E_aload_n 0 dX12_get_20 rfl rfl ?_
      refine E_iload_n 1 dX12_get_21 rfl rfl ?_
      refine E_iload_n 2 dX12_get_22 rfl rfl ?_
      refine E_iload_n 3 dX12_get_23 rfl rfl ?_
      refine E_callVI (T := TX12) (ci := 12) [.int a1, .int a2, .int a3] [] dX12_get_24 rfl kw_1282 kw_1284 kp_64 kw_13 ko_X12_lacks rfl hy_X12_lacks rfl (by decide) (Nat.le_of_ble_eq_true rfl) rfl (by decide) rfl (c_X12_lacks Γ a1 a2 a3 s) (fun v3 => ?_)
      refine E_istore [(4, .int v3), (0, .ref (Γ.2.1 0)), (1, .int a1), (2, .int a2), (3, .int a3)] dX12_get_27 (by decide) rfl ?_
      refine E_iload 0 dX12_get_29 rfl ?_
      refine E_ifle 44 dX12_get_31 (by decide) ?_ ?_
      · refine E_aload_n 1 dX12_get_44 rfl rfl ?_
        refine E_getR 22 (j := 27) (ci := 12) (T := TX12) (C0 := RX12) (ref := "SameWrongModel") dX12_get_45 rfl (by decide) rfl inX12 (by decide) kw_901 rfl rfl rfl ?_
        refine E_bipush (v := 48) dX12_get_48 (by decide) ?_
        refine E_iload_n 2 dX12_get_50 rfl rfl ?_
        refine E_imul dX12_get_51 ?_
        refine E_iload_n 4 dX12_get_52 rfl rfl ?_
        refine E_iadd dX12_get_53 ?_
        refine E_iaload dX12_get_54 rfl (by decide) ?_
        exact E_ireturn dX12_get_55 rfl rfl
      · refine E_aload_n 1 dX12_get_34 rfl rfl ?_
        refine E_iload 0 dX12_get_35 rfl ?_
        refine E_putI (j := 29) (ci := 12) (T := TX12) (C0 := RX12) (ref := "SameWrongModel") dX12_get_37 rfl (by decide) rfl inX12 (by decide) kw_903 rfl tyX12_ok nmX12 rfl rfl ?_
        refine E_bd (fun s4 => ?_)
        refine E_ldcw (v := (-2147483648)) dX12_get_40 kw_1294 ?_
        exact E_ireturn dX12_get_43 rfl rfl
    · refine E_ldcw (v := (-2147483648)) dX12_get_16 kw_1294 ?_
      exact E_ireturn dX12_get_19 rfl rfl
theorem c_X12_get (Γ : GT) (a1 : Int32) (a2 : Int32) (a3 : Int32) (s : St)  (x : (Int32 × St)) (h : f_X12_get a1 a2 a3 s = some x) (l : Launch) : MC l yX12_get cX12_get 5 (some .int) 3 WM Γ [.ref (Γ.2.1 0), .int a1, .int a2, .int a3] s (emIS x) := MC_of (by decide +kernel) (Nat.le_of_ble_eq_true rfl) (e_X12_get Γ a1 a2 a3 s ) h l
set_option maxRecDepth 100000 in
set_option maxHeartbeats 4000000 in
theorem e_X12_copy (Γ : GT) (a1 : Int32) (a2 : Int32) (a3 : Int32) (a4 : Int32) (a5 : Int32) (s : St)  : E RX12 cX12_copy 7 (some .int) 3 WM Γ emIS 0 [(0, .ref (Γ.2.1 0)), (1, .int a1), (2, .int a2), (3, .int a3), (4, .int a4), (5, .int a5)] [] s (f_X12_copy a1 a2 a3 a4 a5 s) := by
  unfold f_X12_copy
  refine E_iload_n 1 dX12_copy_0 rfl rfl ?_
  refine E_callSZ [.int a1] [] dX12_copy_1 rfl kw_1033 kw_1034 kw_13 ko_X12_isSheet hy_X12_isSheet rfl (by decide) (Nat.le_of_ble_eq_true rfl) (c_X12_isSheet Γ a1 s) (fun v1 => ?_)
  refine E_ifeqb 14 dX12_copy_4 (by decide) ?_ ?_
  · refine E_bipush (v := (-2)) dX12_copy_14 (by decide) ?_
    exact E_ireturn dX12_copy_16 rfl rfl
  · refine E_iload_n 3 dX12_copy_7 rfl rfl ?_
    refine E_callSZ [.int a3] [] dX12_copy_8 rfl kw_1033 kw_1034 kw_13 ko_X12_isSheet hy_X12_isSheet rfl (by decide) (Nat.le_of_ble_eq_true rfl) (c_X12_isSheet Γ a3 s) (fun v2 => ?_)
    refine E_ifneb 17 dX12_copy_11 (by decide) ?_ ?_
    · refine E_aload_n 0 dX12_copy_17 rfl rfl ?_
      refine E_getR 19 (j := 24) (ci := 12) (T := TX12) (C0 := RX12) (ref := "SameWrongModel") dX12_copy_18 rfl (by decide) rfl inX12 (by decide) kw_898 rfl rfl rfl ?_
      refine E_iload_n 1 dX12_copy_21 rfl rfl ?_
      refine E_zaload dX12_copy_22 rfl (by decide) ?_
      refine E_jn 35 (fun (y : Unit) => [(0, .ref (Γ.2.1 0))]) (fun (y : Unit) => []) (fun (y : Unit) => s) ?_ ?_
      · intro y4
        refine E_aload_n 0 dX12_copy_35 rfl rfl ?_
        refine E_iconst (v := 1) dX12_copy_36 (by decide) ?_
        refine E_callVIS (T := TX12) (ci := 12) [.int 1] [] dX12_copy_37 rfl kw_1036 kw_1038 kp_30 kw_13 ko_X12_meets rfl hy_X12_meets rfl (by decide) (Nat.le_of_ble_eq_true rfl) rfl (by decide) rfl (c_X12_meets Γ 1 s) (fun p5 => ?_)
        exact E_ireturn dX12_copy_40 rfl rfl
      · intro K3 hK3
        refine E_ifeq 35 dX12_copy_23 (by decide) ?_ ?_
        · refine E_lvsub [0] [(0, .ref (Γ.2.1 0))] rfl ?_
          exact hK3 ()
        · refine E_aload_n 0 dX12_copy_26 rfl rfl ?_
          refine E_getR 19 (j := 24) (ci := 12) (T := TX12) (C0 := RX12) (ref := "SameWrongModel") dX12_copy_27 rfl (by decide) rfl inX12 (by decide) kw_898 rfl rfl rfl ?_
          refine E_iload_n 3 dX12_copy_30 rfl rfl ?_
          refine E_zaload dX12_copy_31 rfl (by decide) ?_
          refine E_ifne 41 dX12_copy_32 (by decide) ?_ ?_
          · refine E_aload_n 0 dX12_copy_41 rfl rfl ?_
            refine E_getR 20 (j := 25) (ci := 12) (T := TX12) (C0 := RX12) (ref := "SameWrongModel") dX12_copy_42 rfl (by decide) rfl inX12 (by decide) kw_899 rfl rfl rfl ?_
            refine E_iload_n 1 dX12_copy_45 rfl rfl ?_
            refine E_iaload dX12_copy_46 rfl (by decide) ?_
            refine E_aload_n 0 dX12_copy_47 rfl rfl ?_
            refine E_getR 20 (j := 25) (ci := 12) (T := TX12) (C0 := RX12) (ref := "SameWrongModel") dX12_copy_48 rfl (by decide) rfl inX12 (by decide) kw_899 rfl rfl rfl ?_
            refine E_iload_n 3 dX12_copy_51 rfl rfl ?_
            refine E_iaload dX12_copy_52 rfl (by decide) ?_
            refine E_icmpeq 62 dX12_copy_53 (by decide) ?_ ?_
            · refine E_iload_n 2 dX12_copy_62 rfl rfl ?_
              refine E_jn 111 (fun (y : Unit) => [(0, .ref (Γ.2.1 0))]) (fun (y : Unit) => []) (fun (y : Unit) => s) ?_ ?_
              · intro y7
                refine E_aload_n 0 dX12_copy_111 rfl rfl ?_
                refine E_iconst (v := 2) dX12_copy_112 (by decide) ?_
                refine E_callVIS (T := TX12) (ci := 12) [.int 2] [] dX12_copy_113 rfl kw_1036 kw_1038 kp_30 kw_13 ko_X12_meets rfl hy_X12_meets rfl (by decide) (Nat.le_of_ble_eq_true rfl) rfl (by decide) rfl (c_X12_meets Γ 2 s) (fun p8 => ?_)
                exact E_ireturn dX12_copy_116 rfl rfl
              · intro K6 hK6
                refine E_iflt 111 dX12_copy_63 (by decide) ?_ ?_
                · refine E_lvsub [0] [(0, .ref (Γ.2.1 0))] rfl ?_
                  exact hK6 ()
                · refine E_iload 4 dX12_copy_66 rfl ?_
                  refine E_iflt 111 dX12_copy_68 (by decide) ?_ ?_
                  · refine E_lvsub [0] [(0, .ref (Γ.2.1 0))] rfl ?_
                    exact hK6 ()
                  · refine E_iload 5 dX12_copy_71 rfl ?_
                    refine E_iflt 111 dX12_copy_73 (by decide) ?_ ?_
                    · refine E_lvsub [0] [(0, .ref (Γ.2.1 0))] rfl ?_
                      exact hK6 ()
                    · refine E_iload_n 2 dX12_copy_76 rfl rfl ?_
                      refine E_i2l dX12_copy_77 ?_
                      refine E_iload 5 dX12_copy_78 rfl ?_
                      refine E_i2l dX12_copy_80 ?_
                      refine E_ladd dX12_copy_81 ?_
                      refine E_aload_n 0 dX12_copy_82 rfl rfl ?_
                      refine E_getR 21 (j := 26) (ci := 12) (T := TX12) (C0 := RX12) (ref := "SameWrongModel") dX12_copy_83 rfl (by decide) rfl inX12 (by decide) kw_900 rfl rfl rfl ?_
                      refine E_iload_n 1 dX12_copy_86 rfl rfl ?_
                      refine E_iaload dX12_copy_87 rfl (by decide) ?_
                      refine E_i2l dX12_copy_88 ?_
                      refine E_lgt 111 dX12_copy_89 dX12_copy_90 (by decide) ?_ ?_
                      · refine E_lvsub [0] [(0, .ref (Γ.2.1 0))] rfl ?_
                        exact hK6 ()
                      · refine E_iload 4 dX12_copy_93 rfl ?_
                        refine E_i2l dX12_copy_95 ?_
                        refine E_iload 5 dX12_copy_96 rfl ?_
                        refine E_i2l dX12_copy_98 ?_
                        refine E_ladd dX12_copy_99 ?_
                        refine E_aload_n 0 dX12_copy_100 rfl rfl ?_
                        refine E_getR 21 (j := 26) (ci := 12) (T := TX12) (C0 := RX12) (ref := "SameWrongModel") dX12_copy_101 rfl (by decide) rfl inX12 (by decide) kw_900 rfl rfl rfl ?_
                        refine E_iload_n 3 dX12_copy_104 rfl rfl ?_
                        refine E_iaload dX12_copy_105 rfl (by decide) ?_
                        refine E_i2l dX12_copy_106 ?_
                        refine E_lle 117 dX12_copy_107 dX12_copy_108 (by decide) ?_ ?_
                        · refine E_iconst (v := 0) dX12_copy_117 (by decide) ?_
                          refine E_istore [(6, .int 0), (0, .ref (Γ.2.1 0)), (1, .int a1), (2, .int a2), (3, .int a3), (4, .int a4), (5, .int a5)] dX12_copy_118 (by decide) rfl ?_
                          refine E_jn 154 (fun (y : St) => [(0, .ref (Γ.2.1 0)), (3, .int a3), (4, .int a4), (5, .int a5)]) (fun (y : St) => []) (fun (y : St) => y) ?_ ?_
                          · intro y10
                            refine E_iconst (v := 0) dX12_copy_154 (by decide) ?_
                            refine E_istore [(6, .int 0), (0, .ref (Γ.2.1 0)), (3, .int a3), (4, .int a4), (5, .int a5)] dX12_copy_155 (by decide) rfl ?_
                            refine E_lp (F := L_X12_copy_157 a3 a4 a5) (fun (x : Int32 × St) => [(6, .int x.1), (0, .ref (Γ.2.1 0)), (3, .int a3), (4, .int a4), (5, .int a5)]) (fun (x : Int32 × St) => x.2) ?_ NN (0, y10)
                            intro r11 hr11 x12
                            show E _ _ _ _ _ _ _ _ _ _ _ _ (L_X12_copy_157 a3 a4 a5 r11 x12)
                            unfold L_X12_copy_157
                            refine E_iload 0 dX12_copy_157 rfl ?_
                            refine E_iload 4 dX12_copy_159 rfl ?_
                            refine E_icmpge 192 dX12_copy_161 (by decide) ?_ ?_
                            · refine E_iconst (v := 1) dX12_copy_192 (by decide) ?_
                              exact E_ireturn dX12_copy_193 rfl rfl
                            · refine E_aload_n 1 dX12_copy_164 rfl rfl ?_
                              refine E_getR 22 (j := 27) (ci := 12) (T := TX12) (C0 := RX12) (ref := "SameWrongModel") dX12_copy_165 rfl (by decide) rfl inX12 (by decide) kw_901 rfl rfl rfl ?_
                              refine E_bipush (v := 48) dX12_copy_168 (by decide) ?_
                              refine E_iload_n 2 dX12_copy_170 rfl rfl ?_
                              refine E_imul dX12_copy_171 ?_
                              refine E_iload 3 dX12_copy_172 rfl ?_
                              refine E_iadd dX12_copy_174 ?_
                              refine E_iload 0 dX12_copy_175 rfl ?_
                              refine E_iadd dX12_copy_177 ?_
                              refine E_aload_n 1 dX12_copy_178 rfl rfl ?_
                              refine E_getR 23 (j := 28) (ci := 12) (T := TX12) (C0 := RX12) (ref := "SameWrongModel") dX12_copy_179 rfl (by decide) rfl inX12 (by decide) kw_902 rfl rfl rfl ?_
                              refine E_iload 0 dX12_copy_182 rfl ?_
                              refine E_iaload dX12_copy_184 rfl (by decide) ?_
                              refine E_iastore dX12_copy_185 rfl (by decide) ?_
                              refine E_bd (fun s13 => ?_)
                              refine E_iinc 0 [(6, .int (x12.1 + 1)), (0, .ref (Γ.2.1 0)), (3, .int a3), (4, .int a4), (5, .int a5)] dX12_copy_186 rfl rfl (by decide) rfl ?_
                              refine E_goto 157 dX12_copy_189 (by decide) ?_
                              exact hr11 (x12.1 + 1, s13)
                          · intro K9 hK9
                            refine E_lp (F := L_X12_copy_120 a1 a2 a5 K9) (fun (x : Int32 × St) => [(6, .int x.1), (0, .ref (Γ.2.1 0)), (1, .int a1), (2, .int a2), (3, .int a3), (4, .int a4), (5, .int a5)]) (fun (x : Int32 × St) => x.2) ?_ NN (0, s)
                            intro r14 hr14 x15
                            show E _ _ _ _ _ _ _ _ _ _ _ _ (L_X12_copy_120 a1 a2 a5 K9 r14 x15)
                            unfold L_X12_copy_120
                            refine E_iload 0 dX12_copy_120 rfl ?_
                            refine E_iload 6 dX12_copy_122 rfl ?_
                            refine E_icmpge 154 dX12_copy_124 (by decide) ?_ ?_
                            · refine E_lvsub [1, 4, 5, 6] [(0, .ref (Γ.2.1 0)), (3, .int a3), (4, .int a4), (5, .int a5)] rfl ?_
                              exact hK9 x15.2
                            · refine E_aload_n 1 dX12_copy_127 rfl rfl ?_
                              refine E_getR 23 (j := 28) (ci := 12) (T := TX12) (C0 := RX12) (ref := "SameWrongModel") dX12_copy_128 rfl (by decide) rfl inX12 (by decide) kw_902 rfl rfl rfl ?_
                              refine E_iload 0 dX12_copy_131 rfl ?_
                              refine E_aload_n 1 dX12_copy_133 rfl rfl ?_
                              refine E_getR 22 (j := 27) (ci := 12) (T := TX12) (C0 := RX12) (ref := "SameWrongModel") dX12_copy_134 rfl (by decide) rfl inX12 (by decide) kw_901 rfl rfl rfl ?_
                              refine E_bipush (v := 48) dX12_copy_137 (by decide) ?_
                              refine E_iload_n 2 dX12_copy_139 rfl rfl ?_
                              refine E_imul dX12_copy_140 ?_
                              refine E_iload_n 3 dX12_copy_141 rfl rfl ?_
                              refine E_iadd dX12_copy_142 ?_
                              refine E_iload 0 dX12_copy_143 rfl ?_
                              refine E_iadd dX12_copy_145 ?_
                              refine E_iaload dX12_copy_146 rfl (by decide) ?_
                              refine E_iastore dX12_copy_147 rfl (by decide) ?_
                              refine E_bd (fun s16 => ?_)
                              refine E_iinc 0 [(6, .int (x15.1 + 1)), (0, .ref (Γ.2.1 0)), (1, .int a1), (2, .int a2), (3, .int a3), (4, .int a4), (5, .int a5)] dX12_copy_148 rfl rfl (by decide) rfl ?_
                              refine E_goto 120 dX12_copy_151 (by decide) ?_
                              exact hr14 (x15.1 + 1, s16)
                        · refine E_lvsub [0] [(0, .ref (Γ.2.1 0))] rfl ?_
                          exact hK6 ()
            · refine E_aload_n 0 dX12_copy_56 rfl rfl ?_
              refine E_iconst (v := 4) dX12_copy_57 (by decide) ?_
              refine E_callVIS (T := TX12) (ci := 12) [.int 4] [] dX12_copy_58 rfl kw_1036 kw_1038 kp_30 kw_13 ko_X12_meets rfl hy_X12_meets rfl (by decide) (Nat.le_of_ble_eq_true rfl) rfl (by decide) rfl (c_X12_meets Γ 4 s) (fun p17 => ?_)
              exact E_ireturn dX12_copy_61 rfl rfl
          · refine E_lvsub [0] [(0, .ref (Γ.2.1 0))] rfl ?_
            exact hK3 ()
    · refine E_bipush (v := (-2)) dX12_copy_14 (by decide) ?_
      exact E_ireturn dX12_copy_16 rfl rfl
theorem c_X12_copy (Γ : GT) (a1 : Int32) (a2 : Int32) (a3 : Int32) (a4 : Int32) (a5 : Int32) (s : St)  (x : (Int32 × St)) (h : f_X12_copy a1 a2 a3 a4 a5 s = some x) (l : Launch) : MC l yX12_copy cX12_copy 7 (some .int) 3 WM Γ [.ref (Γ.2.1 0), .int a1, .int a2, .int a3, .int a4, .int a5] s (emIS x) := MC_of (by decide +kernel) (Nat.le_of_ble_eq_true rfl) (e_X12_copy Γ a1 a2 a3 a4 a5 s ) h l
set_option maxRecDepth 100000 in
set_option maxHeartbeats 4000000 in
theorem e_X12_write (Γ : GT) (a1 : Int32) (a2 : Int32) (s : St)  : E RX12 cX12_write 4 (some .int) 5 WM Γ emIS 0 [(0, .ref (Γ.2.1 0)), (1, .int a1), (2, .int a2)] [] s (f_X12_write a1 a2 s) := by
  unfold f_X12_write
  refine E_aload_n 0 dX12_write_0 rfl rfl ?_
  refine E_iload_n 1 dX12_write_1 rfl rfl ?_
  refine E_callVZ (T := TX12) (ci := 12) [.int a1] [] dX12_write_2 rfl kw_1021 kw_1023 kp_28 kw_13 ko_X12_isPupil rfl hy_X12_isPupil rfl (by decide) (Nat.le_of_ble_eq_true rfl) rfl (by decide) rfl (c_X12_isPupil Γ a1 s) (fun v1 => ?_)
  refine E_ifeqb 15 dX12_write_5 (by decide) ?_ ?_
  · refine E_bipush (v := (-2)) dX12_write_15 (by decide) ?_
    exact E_ireturn dX12_write_17 rfl rfl
  · refine E_iload_n 2 dX12_write_8 rfl rfl ?_
    refine E_callSZ [.int a2] [] dX12_write_9 rfl kw_1033 kw_1034 kw_13 ko_X12_isSheet hy_X12_isSheet rfl (by decide) (Nat.le_of_ble_eq_true rfl) (c_X12_isSheet Γ a2 s) (fun v2 => ?_)
    refine E_ifneb 18 dX12_write_12 (by decide) ?_ ?_
    · refine E_aload_n 0 dX12_write_18 rfl rfl ?_
      refine E_getR 19 (j := 24) (ci := 12) (T := TX12) (C0 := RX12) (ref := "SameWrongModel") dX12_write_19 rfl (by decide) rfl inX12 (by decide) kw_898 rfl rfl rfl ?_
      refine E_iload_n 2 dX12_write_22 rfl rfl ?_
      refine E_zaload dX12_write_23 rfl (by decide) ?_
      refine E_ifne 33 dX12_write_24 (by decide) ?_ ?_
      · refine E_aload_n 0 dX12_write_33 rfl rfl ?_
        refine E_callVV (T := TX12) (ci := 12) [] [] dX12_write_34 rfl kw_1044 kw_1046 kp_31 kw_13 ko_X12_lays rfl hy_X12_lays rfl (by decide) (Nat.le_of_ble_eq_true rfl) rfl (by decide) rfl (c_X12_lays Γ s) (fun s3 => ?_)
        refine E_iconst (v := 0) dX12_write_37 (by decide) ?_
        refine E_istore_n [(3, .int 0), (0, .ref (Γ.2.1 0)), (1, .int a1), (2, .int a2)] dX12_write_38 rfl (by decide) rfl ?_
        refine E_lp (F := L_X12_write_39 a1 a2) (fun (x : Int32 × St) => [(3, .int x.1), (0, .ref (Γ.2.1 0)), (1, .int a1), (2, .int a2)]) (fun (x : Int32 × St) => x.2) ?_ NN (0, s3)
        intro r4 hr4 x5
        show E _ _ _ _ _ _ _ _ _ _ _ _ (L_X12_write_39 a1 a2 r4 x5)
        unfold L_X12_write_39
        refine E_iload_n 0 dX12_write_39 rfl rfl ?_
        refine E_aload_n 1 dX12_write_40 rfl rfl ?_
        refine E_getI (j := 0) (ci := 12) (T := TX12) (C0 := RX12) (ref := "SameWrongModel") dX12_write_41 rfl (by decide) rfl inX12 (by decide) kw_874 rfl rfl ?_
        refine E_icmpge 80 dX12_write_44 (by decide) ?_ ?_
        · refine E_iload_n 0 dX12_write_80 rfl rfl ?_
          exact E_ireturn dX12_write_81 rfl rfl
        · refine E_iload_n 0 dX12_write_47 rfl rfl ?_
          refine E_aload_n 1 dX12_write_48 rfl rfl ?_
          refine E_getR 21 (j := 26) (ci := 12) (T := TX12) (C0 := RX12) (ref := "SameWrongModel") dX12_write_49 rfl (by decide) rfl inX12 (by decide) kw_900 rfl rfl rfl ?_
          refine E_iload_n 3 dX12_write_52 rfl rfl ?_
          refine E_iaload dX12_write_53 rfl (by decide) ?_
          refine E_icmpge 80 dX12_write_54 (by decide) ?_ ?_
          · refine E_iload_n 0 dX12_write_80 rfl rfl ?_
            exact E_ireturn dX12_write_81 rfl rfl
          · refine E_aload_n 1 dX12_write_57 rfl rfl ?_
            refine E_iload_n 3 dX12_write_58 rfl rfl ?_
            refine E_iload_n 0 dX12_write_59 rfl rfl ?_
            refine E_aload_n 1 dX12_write_60 rfl rfl ?_
            refine E_getR 10 (j := 13) (ci := 12) (T := TX12) (C0 := RX12) (ref := "SameWrongModel") dX12_write_61 rfl (by decide) rfl inX12 (by decide) kw_887 rfl rfl rfl ?_
            refine E_bipush (v := 12) dX12_write_64 (by decide) ?_
            refine E_iload_n 2 dX12_write_66 rfl rfl ?_
            refine E_imul dX12_write_67 ?_
            refine E_iload_n 0 dX12_write_68 rfl rfl ?_
            refine E_iadd dX12_write_69 ?_
            refine E_iaload dX12_write_70 rfl (by decide) ?_
            refine E_callVV (T := TX12) (ci := 12) [.int a2, .int x5.1, .int (x5.2.1 10 ((12 * a1) + x5.1).toNatClampNeg)] [] dX12_write_71 rfl kw_1286 kw_1288 kp_65 kw_13 ko_X12_keep rfl hy_X12_keep rfl (by decide) (Nat.le_of_ble_eq_true rfl) rfl (by decide) rfl (c_X12_keep Γ a2 x5.1 (x5.2.1 10 ((12 * a1) + x5.1).toNatClampNeg) x5.2) (fun s6 => ?_)
            refine E_iinc 0 [(3, .int (x5.1 + 1)), (0, .ref (Γ.2.1 0)), (1, .int a1), (2, .int a2)] dX12_write_74 rfl rfl (by decide) rfl ?_
            refine E_goto 39 dX12_write_77 (by decide) ?_
            exact hr4 (x5.1 + 1, s6)
      · refine E_aload_n 0 dX12_write_27 rfl rfl ?_
        refine E_iconst (v := 1) dX12_write_28 (by decide) ?_
        refine E_callVIS (T := TX12) (ci := 12) [.int 1] [] dX12_write_29 rfl kw_1036 kw_1038 kp_30 kw_13 ko_X12_meets rfl hy_X12_meets rfl (by decide) (Nat.le_of_ble_eq_true rfl) rfl (by decide) rfl (c_X12_meets Γ 1 s) (fun p7 => ?_)
        exact E_ireturn dX12_write_32 rfl rfl
    · refine E_bipush (v := (-2)) dX12_write_15 (by decide) ?_
      exact E_ireturn dX12_write_17 rfl rfl
theorem c_X12_write (Γ : GT) (a1 : Int32) (a2 : Int32) (s : St)  (x : (Int32 × St)) (h : f_X12_write a1 a2 s = some x) (l : Launch) : MC l yX12_write cX12_write 4 (some .int) 5 WM Γ [.ref (Γ.2.1 0), .int a1, .int a2] s (emIS x) := MC_of (by decide +kernel) (Nat.le_of_ble_eq_true rfl) (e_X12_write Γ a1 a2 s ) h l
set_option maxRecDepth 100000 in
set_option maxHeartbeats 4000000 in
theorem e_X12_sumOf (Γ : GT) (a1 : Int32) (s : St)  : E RX12 cX12_sumOf 5 (some .int) 5 WM Γ emIS 0 [(0, .ref (Γ.2.1 0)), (1, .int a1)] [] s (f_X12_sumOf a1 s) := by
  unfold f_X12_sumOf
  refine E_aload_n 0 dX12_sumOf_0 rfl rfl ?_
  refine E_callVV (T := TX12) (ci := 12) [] [] dX12_sumOf_1 rfl kw_1044 kw_1046 kp_31 kw_13 ko_X12_lays rfl hy_X12_lays rfl (by decide) (Nat.le_of_ble_eq_true rfl) rfl (by decide) rfl (c_X12_lays Γ s) (fun s1 => ?_)
  refine E_iload_n 1 dX12_sumOf_4 rfl rfl ?_
  refine E_iconst (v := 1) dX12_sumOf_5 (by decide) ?_
  refine E_jn 18 (fun (y : Int32) => [(0, .ref (Γ.2.1 0)), (1, .int a1)]) (fun (y : Int32) => [.int y]) (fun (y : Int32) => s1) ?_ ?_
  · intro y3
    refine E_istore_n [(2, .int y3), (0, .ref (Γ.2.1 0)), (1, .int a1)] dX12_sumOf_18 rfl (by decide) rfl ?_
    refine E_iconst (v := 0) dX12_sumOf_19 (by decide) ?_
    refine E_istore_n [(3, .int 0), (2, .int y3), (0, .ref (Γ.2.1 0)), (1, .int a1)] dX12_sumOf_20 rfl (by decide) rfl ?_
    refine E_lp (F := L_X12_sumOf_21 a1) (fun (x : Int32 × Int32 × St) => [(3, .int x.1), (2, .int x.2.1), (0, .ref (Γ.2.1 0)), (1, .int a1)]) (fun (x : Int32 × Int32 × St) => x.2.2) ?_ NN (0, y3, s1)
    intro r4 hr4 x5
    show E _ _ _ _ _ _ _ _ _ _ _ _ (L_X12_sumOf_21 a1 r4 x5)
    unfold L_X12_sumOf_21
    refine E_iload_n 0 dX12_sumOf_21 rfl rfl ?_
    refine E_aload_n 2 dX12_sumOf_22 rfl rfl ?_
    refine E_getI (j := 5) (ci := 12) (T := TX12) (C0 := RX12) (ref := "SameWrongModel") dX12_sumOf_23 rfl (by decide) rfl inX12 (by decide) kw_879 rfl rfl ?_
    refine E_icmpge 153 dX12_sumOf_26 (by decide) ?_ ?_
    · refine E_iload_n 1 dX12_sumOf_153 rfl rfl ?_
      exact E_ireturn dX12_sumOf_154 rfl rfl
    · refine E_iconst (v := 0) dX12_sumOf_29 (by decide) ?_
      refine E_istore [(4, .int 0), (3, .int x5.1), (2, .int x5.2.1), (0, .ref (Γ.2.1 0)), (1, .int a1)] dX12_sumOf_30 (by decide) rfl ?_
      refine E_jn 75 (fun (y : Int32) => [(3, .int x5.1), (2, .int y), (0, .ref (Γ.2.1 0)), (1, .int a1)]) (fun (y : Int32) => []) (fun (y : Int32) => x5.2.2) ?_ ?_
      · intro y7
        refine E_iconst (v := 0) dX12_sumOf_75 (by decide) ?_
        refine E_istore [(4, .int 0), (3, .int x5.1), (2, .int y7), (0, .ref (Γ.2.1 0)), (1, .int a1)] dX12_sumOf_76 (by decide) rfl ?_
        refine E_jn 114 (fun (y : Int32 × St) => [(3, .int x5.1), (2, .int y.1), (0, .ref (Γ.2.1 0)), (1, .int a1)]) (fun (y : Int32 × St) => []) (fun (y : Int32 × St) => y.2) ?_ ?_
        · intro y9
          refine E_iload_n 1 dX12_sumOf_114 rfl rfl ?_
          refine E_iload_n 3 dX12_sumOf_115 rfl rfl ?_
          refine E_iconst (v := 5) dX12_sumOf_116 (by decide) ?_
          refine E_icmpne 129 dX12_sumOf_117 (by decide) ?_ ?_
          · refine E_iload_n 3 dX12_sumOf_129 rfl rfl ?_
            refine E_bipush (v := 7) dX12_sumOf_130 (by decide) ?_
            refine E_icmpne 144 dX12_sumOf_132 (by decide) ?_ ?_
            · refine E_iconst (v := 0) dX12_sumOf_144 (by decide) ?_
              refine E_iadd dX12_sumOf_145 ?_
              refine E_istore_n [(2, .int (y9.1 + 0)), (3, .int x5.1), (0, .ref (Γ.2.1 0)), (1, .int a1)] dX12_sumOf_146 rfl (by decide) rfl ?_
              refine E_bv (fun v10 => [(2, .int v10), (3, .int x5.1), (0, .ref (Γ.2.1 0)), (1, .int a1)]) (fun v10 => ?_) (y9.1 + 0)
              refine E_iinc 1 [(3, .int (x5.1 + 1)), (2, .int v10), (0, .ref (Γ.2.1 0)), (1, .int a1)] dX12_sumOf_147 rfl rfl (by decide) rfl ?_
              refine E_goto 21 dX12_sumOf_150 (by decide) ?_
              exact hr4 (x5.1 + 1, v10, y9.2)
            · refine E_aload_n 2 dX12_sumOf_135 rfl rfl ?_
              refine E_getR 11 (j := 14) (ci := 12) (T := TX12) (C0 := RX12) (ref := "SameWrongModel") dX12_sumOf_136 rfl (by decide) rfl inX12 (by decide) kw_888 rfl rfl rfl ?_
              refine E_iload_n 0 dX12_sumOf_139 rfl rfl ?_
              refine E_iaload dX12_sumOf_140 rfl (by decide) ?_
              refine E_goto 145 dX12_sumOf_141 (by decide) ?_
              refine E_iadd dX12_sumOf_145 ?_
              refine E_istore_n [(2, .int (y9.1 + (y9.2.1 11 x5.1.toNatClampNeg))), (3, .int x5.1), (0, .ref (Γ.2.1 0)), (1, .int a1)] dX12_sumOf_146 rfl (by decide) rfl ?_
              refine E_bv (fun v11 => [(2, .int v11), (3, .int x5.1), (0, .ref (Γ.2.1 0)), (1, .int a1)]) (fun v11 => ?_) (y9.1 + (y9.2.1 11 x5.1.toNatClampNeg))
              refine E_iinc 1 [(3, .int (x5.1 + 1)), (2, .int v11), (0, .ref (Γ.2.1 0)), (1, .int a1)] dX12_sumOf_147 rfl rfl (by decide) rfl ?_
              refine E_goto 21 dX12_sumOf_150 (by decide) ?_
              exact hr4 (x5.1 + 1, v11, y9.2)
          · refine E_aload_n 2 dX12_sumOf_120 rfl rfl ?_
            refine E_iload_n 0 dX12_sumOf_121 rfl rfl ?_
            refine E_iconst (v := (-1)) dX12_sumOf_122 (by decide) ?_
            refine E_callVI (T := TX12) (ci := 12) [.int x5.1, .int (-1)] [.int y9.1] dX12_sumOf_123 rfl kw_1071 kw_1073 kp_35 kw_13 ko_X12_markBut rfl hy_X12_markBut rfl (by decide) (Nat.le_of_ble_eq_true rfl) rfl (by decide) rfl (c_X12_markBut Γ x5.1 (-1) y9.2) (fun v12 => ?_)
            refine E_goto 145 dX12_sumOf_126 (by decide) ?_
            refine E_iadd dX12_sumOf_145 ?_
            refine E_istore_n [(2, .int (y9.1 + v12)), (3, .int x5.1), (0, .ref (Γ.2.1 0)), (1, .int a1)] dX12_sumOf_146 rfl (by decide) rfl ?_
            refine E_bv (fun v13 => [(2, .int v13), (3, .int x5.1), (0, .ref (Γ.2.1 0)), (1, .int a1)]) (fun v13 => ?_) (y9.1 + v12)
            refine E_iinc 1 [(3, .int (x5.1 + 1)), (2, .int v13), (0, .ref (Γ.2.1 0)), (1, .int a1)] dX12_sumOf_147 rfl rfl (by decide) rfl ?_
            refine E_goto 21 dX12_sumOf_150 (by decide) ?_
            exact hr4 (x5.1 + 1, v13, y9.2)
        · intro K8 hK8
          refine E_lp (F := L_X12_sumOf_78 a1 x5 K8) (fun (x : Int32 × Int32 × St) => [(4, .int x.1), (3, .int x5.1), (2, .int x.2.1), (0, .ref (Γ.2.1 0)), (1, .int a1)]) (fun (x : Int32 × Int32 × St) => x.2.2) ?_ NN (0, y7, x5.2.2)
          intro r14 hr14 x15
          show E _ _ _ _ _ _ _ _ _ _ _ _ (L_X12_sumOf_78 a1 x5 K8 r14 x15)
          unfold L_X12_sumOf_78
          refine E_iload 0 dX12_sumOf_78 rfl ?_
          refine E_iload_n 1 dX12_sumOf_80 rfl rfl ?_
          refine E_icmpge 114 dX12_sumOf_81 (by decide) ?_ ?_
          · refine E_lvsub [1, 2, 3, 4] [(3, .int x5.1), (2, .int x15.2.1), (0, .ref (Γ.2.1 0)), (1, .int a1)] rfl ?_
            exact hK8 (x15.2.1, x15.2.2)
          · refine E_iload_n 4 dX12_sumOf_84 rfl rfl ?_
            refine E_bipush (v := 6) dX12_sumOf_85 (by decide) ?_
            refine E_icmpne 114 dX12_sumOf_87 (by decide) ?_ ?_
            · refine E_lvsub [1, 2, 3, 4] [(3, .int x5.1), (2, .int x15.2.1), (0, .ref (Γ.2.1 0)), (1, .int a1)] rfl ?_
              exact hK8 (x15.2.1, x15.2.2)
            · refine E_iload_n 2 dX12_sumOf_90 rfl rfl ?_
              refine E_aload_n 3 dX12_sumOf_91 rfl rfl ?_
              refine E_iload_n 1 dX12_sumOf_92 rfl rfl ?_
              refine E_iload 0 dX12_sumOf_93 rfl ?_
              refine E_callVZS (T := TX12) (ci := 12) [.int x5.1, .int x15.1] [.int x15.2.1] dX12_sumOf_95 rfl kw_1111 kw_1113 kp_44 kw_13 ko_X12_areOdd rfl hy_X12_areOdd rfl (by decide) (Nat.le_of_ble_eq_true rfl) rfl (by decide) rfl (c_X12_areOdd Γ x5.1 x15.1 x15.2.2) (fun p16 => ?_)
              refine E_ifeqb 105 dX12_sumOf_98 (by decide) ?_ ?_
              · refine E_iconst (v := 0) dX12_sumOf_105 (by decide) ?_
                refine E_iadd dX12_sumOf_106 ?_
                refine E_istore_n [(2, .int (x15.2.1 + 0)), (4, .int x15.1), (3, .int x5.1), (0, .ref (Γ.2.1 0)), (1, .int a1)] dX12_sumOf_107 rfl (by decide) rfl ?_
                refine E_bv (fun v17 => [(2, .int v17), (4, .int x15.1), (3, .int x5.1), (0, .ref (Γ.2.1 0)), (1, .int a1)]) (fun v17 => ?_) (x15.2.1 + 0)
                refine E_iinc 1 [(4, .int (x15.1 + 1)), (2, .int v17), (3, .int x5.1), (0, .ref (Γ.2.1 0)), (1, .int a1)] dX12_sumOf_108 rfl rfl (by decide) rfl ?_
                refine E_goto 78 dX12_sumOf_111 (by decide) ?_
                refine E_lvsub [0, 2, 1, 3, 4] [(4, .int (x15.1 + 1)), (3, .int x5.1), (2, .int v17), (0, .ref (Γ.2.1 0)), (1, .int a1)] rfl ?_
                exact hr14 (x15.1 + 1, v17, p16.2)
              · refine E_iconst (v := 1) dX12_sumOf_101 (by decide) ?_
                refine E_goto 106 dX12_sumOf_102 (by decide) ?_
                refine E_iadd dX12_sumOf_106 ?_
                refine E_istore_n [(2, .int (x15.2.1 + 1)), (4, .int x15.1), (3, .int x5.1), (0, .ref (Γ.2.1 0)), (1, .int a1)] dX12_sumOf_107 rfl (by decide) rfl ?_
                refine E_bv (fun v18 => [(2, .int v18), (4, .int x15.1), (3, .int x5.1), (0, .ref (Γ.2.1 0)), (1, .int a1)]) (fun v18 => ?_) (x15.2.1 + 1)
                refine E_iinc 1 [(4, .int (x15.1 + 1)), (2, .int v18), (3, .int x5.1), (0, .ref (Γ.2.1 0)), (1, .int a1)] dX12_sumOf_108 rfl rfl (by decide) rfl ?_
                refine E_goto 78 dX12_sumOf_111 (by decide) ?_
                refine E_lvsub [0, 2, 1, 3, 4] [(4, .int (x15.1 + 1)), (3, .int x5.1), (2, .int v18), (0, .ref (Γ.2.1 0)), (1, .int a1)] rfl ?_
                exact hr14 (x15.1 + 1, v18, p16.2)
      · intro K6 hK6
        refine E_lp (F := L_X12_sumOf_32 a1 x5 K6) (fun (x : Int32 × Int32) => [(4, .int x.1), (3, .int x5.1), (2, .int x.2), (0, .ref (Γ.2.1 0)), (1, .int a1)]) (fun (x : Int32 × Int32) => x5.2.2) ?_ NN (0, x5.2.1)
        intro r19 hr19 x20
        show E _ _ _ _ _ _ _ _ _ _ _ _ (L_X12_sumOf_32 a1 x5 K6 r19 x20)
        unfold L_X12_sumOf_32
        refine E_iload 0 dX12_sumOf_32 rfl ?_
        refine E_aload_n 3 dX12_sumOf_34 rfl rfl ?_
        refine E_getI (j := 0) (ci := 12) (T := TX12) (C0 := RX12) (ref := "SameWrongModel") dX12_sumOf_35 rfl (by decide) rfl inX12 (by decide) kw_874 rfl rfl ?_
        refine E_icmpge 75 dX12_sumOf_38 (by decide) ?_ ?_
        · refine E_lvsub [1, 2, 3, 4] [(3, .int x5.1), (2, .int x20.2), (0, .ref (Γ.2.1 0)), (1, .int a1)] rfl ?_
          exact hK6 x20.2
        · refine E_iload_n 4 dX12_sumOf_41 rfl rfl ?_
          refine E_iconst (v := 4) dX12_sumOf_42 (by decide) ?_
          refine E_icmpne 75 dX12_sumOf_43 (by decide) ?_ ?_
          · refine E_lvsub [1, 2, 3, 4] [(3, .int x5.1), (2, .int x20.2), (0, .ref (Γ.2.1 0)), (1, .int a1)] rfl ?_
            exact hK6 x20.2
          · refine E_iload_n 2 dX12_sumOf_46 rfl rfl ?_
            refine E_aload_n 3 dX12_sumOf_47 rfl rfl ?_
            refine E_getR 10 (j := 13) (ci := 12) (T := TX12) (C0 := RX12) (ref := "SameWrongModel") dX12_sumOf_48 rfl (by decide) rfl inX12 (by decide) kw_887 rfl rfl rfl ?_
            refine E_bipush (v := 12) dX12_sumOf_51 (by decide) ?_
            refine E_iload_n 1 dX12_sumOf_53 rfl rfl ?_
            refine E_imul dX12_sumOf_54 ?_
            refine E_iload 0 dX12_sumOf_55 rfl ?_
            refine E_iadd dX12_sumOf_57 ?_
            refine E_iaload dX12_sumOf_58 rfl (by decide) ?_
            refine E_ifne 66 dX12_sumOf_59 (by decide) ?_ ?_
            · refine E_iconst (v := 1) dX12_sumOf_66 (by decide) ?_
              refine E_iadd dX12_sumOf_67 ?_
              refine E_istore_n [(2, .int (x20.2 + 1)), (4, .int x20.1), (3, .int x5.1), (0, .ref (Γ.2.1 0)), (1, .int a1)] dX12_sumOf_68 rfl (by decide) rfl ?_
              refine E_bv (fun v21 => [(2, .int v21), (4, .int x20.1), (3, .int x5.1), (0, .ref (Γ.2.1 0)), (1, .int a1)]) (fun v21 => ?_) (x20.2 + 1)
              refine E_iinc 1 [(4, .int (x20.1 + 1)), (2, .int v21), (3, .int x5.1), (0, .ref (Γ.2.1 0)), (1, .int a1)] dX12_sumOf_69 rfl rfl (by decide) rfl ?_
              refine E_goto 32 dX12_sumOf_72 (by decide) ?_
              refine E_lvsub [0, 2, 1, 3, 4] [(4, .int (x20.1 + 1)), (3, .int x5.1), (2, .int v21), (0, .ref (Γ.2.1 0)), (1, .int a1)] rfl ?_
              exact hr19 (x20.1 + 1, v21)
            · refine E_iconst (v := 0) dX12_sumOf_62 (by decide) ?_
              refine E_goto 67 dX12_sumOf_63 (by decide) ?_
              refine E_iadd dX12_sumOf_67 ?_
              refine E_istore_n [(2, .int (x20.2 + 0)), (4, .int x20.1), (3, .int x5.1), (0, .ref (Γ.2.1 0)), (1, .int a1)] dX12_sumOf_68 rfl (by decide) rfl ?_
              refine E_bv (fun v22 => [(2, .int v22), (4, .int x20.1), (3, .int x5.1), (0, .ref (Γ.2.1 0)), (1, .int a1)]) (fun v22 => ?_) (x20.2 + 0)
              refine E_iinc 1 [(4, .int (x20.1 + 1)), (2, .int v22), (3, .int x5.1), (0, .ref (Γ.2.1 0)), (1, .int a1)] dX12_sumOf_69 rfl rfl (by decide) rfl ?_
              refine E_goto 32 dX12_sumOf_72 (by decide) ?_
              refine E_lvsub [0, 2, 1, 3, 4] [(4, .int (x20.1 + 1)), (3, .int x5.1), (2, .int v22), (0, .ref (Γ.2.1 0)), (1, .int a1)] rfl ?_
              exact hr19 (x20.1 + 1, v22)
  · intro K2 hK2
    refine E_icmpne 17 dX12_sumOf_6 (by decide) ?_ ?_
    · refine E_iconst (v := 0) dX12_sumOf_17 (by decide) ?_
      exact hK2 0
    · refine E_aload_n 0 dX12_sumOf_9 rfl rfl ?_
      refine E_iconst (v := (-1)) dX12_sumOf_10 (by decide) ?_
      refine E_callVI (T := TX12) (ci := 12) [.int (-1)] [] dX12_sumOf_11 rfl kw_1087 kw_1089 kp_39 kw_13 ko_X12_openBut rfl hy_X12_openBut rfl (by decide) (Nat.le_of_ble_eq_true rfl) rfl (by decide) rfl (c_X12_openBut Γ (-1) s1) (fun v23 => ?_)
      refine E_goto 18 dX12_sumOf_14 (by decide) ?_
      exact hK2 v23
theorem c_X12_sumOf (Γ : GT) (a1 : Int32) (s : St)  (x : (Int32 × St)) (h : f_X12_sumOf a1 s = some x) (l : Launch) : MC l yX12_sumOf cX12_sumOf 5 (some .int) 5 WM Γ [.ref (Γ.2.1 0), .int a1] s (emIS x) := MC_of (by decide +kernel) (Nat.le_of_ble_eq_true rfl) (e_X12_sumOf Γ a1 s ) h l
set_option maxRecDepth 100000 in
set_option maxHeartbeats 4000000 in
theorem e_X12_count (Γ : GT) (a1 : Int32) (s : St)  : E RX12 cX12_count 2 (some .int) 6 WM Γ emIS 0 [(0, .ref (Γ.2.1 0)), (1, .int a1)] [] s (f_X12_count a1 s) := by
  unfold f_X12_count
  refine E_iload_n 1 dX12_count_0 rfl rfl ?_
  refine E_case 0 (fun hc0 => ?_) (fun hc0 => ?_)
  · refine E_tswIn (k := 0) 52 dX12_count_1 hc0 (by decide) (by decide) rfl (by decide) ?_
    refine E_aload_n 0 dX12_count_52 rfl rfl ?_
    refine E_getI (j := 0) (ci := 12) (T := TX12) (C0 := RX12) (ref := "SameWrongModel") dX12_count_53 rfl (by decide) rfl inX12 (by decide) kw_874 rfl rfl ?_
    exact E_ireturn dX12_count_56 rfl rfl
  refine E_case 1 (fun hc1 => ?_) (fun hc1 => ?_)
  · refine E_tswIn (k := 1) 57 dX12_count_1 hc1 (by decide) (by decide) rfl (by decide) ?_
    refine E_aload_n 0 dX12_count_57 rfl rfl ?_
    refine E_iload_n 1 dX12_count_58 rfl rfl ?_
    refine E_callVIS (T := TX12) (ci := 12) [.int a1] [] dX12_count_59 rfl kw_1307 kw_1309 kp_66 kw_13 ko_X12_sumOf rfl hy_X12_sumOf rfl (by decide) (Nat.le_of_ble_eq_true rfl) rfl (by decide) rfl (c_X12_sumOf Γ a1 s) (fun p1 => ?_)
    exact E_ireturn dX12_count_62 rfl rfl
  refine E_case 2 (fun hc2 => ?_) (fun hc2 => ?_)
  · refine E_tswIn (k := 2) 63 dX12_count_1 hc2 (by decide) (by decide) rfl (by decide) ?_
    refine E_aload_n 0 dX12_count_63 rfl rfl ?_
    refine E_getI (j := 5) (ci := 12) (T := TX12) (C0 := RX12) (ref := "SameWrongModel") dX12_count_64 rfl (by decide) rfl inX12 (by decide) kw_879 rfl rfl ?_
    exact E_ireturn dX12_count_67 rfl rfl
  refine E_case 3 (fun hc3 => ?_) (fun hc3 => ?_)
  · refine E_tswIn (k := 3) 68 dX12_count_1 hc3 (by decide) (by decide) rfl (by decide) ?_
    refine E_aload_n 0 dX12_count_68 rfl rfl ?_
    refine E_getI (j := 8) (ci := 12) (T := TX12) (C0 := RX12) (ref := "SameWrongModel") dX12_count_69 rfl (by decide) rfl inX12 (by decide) kw_882 rfl rfl ?_
    exact E_ireturn dX12_count_72 rfl rfl
  refine E_case 4 (fun hc4 => ?_) (fun hc4 => ?_)
  · refine E_tswIn (k := 4) 57 dX12_count_1 hc4 (by decide) (by decide) rfl (by decide) ?_
    refine E_aload_n 0 dX12_count_57 rfl rfl ?_
    refine E_iload_n 1 dX12_count_58 rfl rfl ?_
    refine E_callVIS (T := TX12) (ci := 12) [.int a1] [] dX12_count_59 rfl kw_1307 kw_1309 kp_66 kw_13 ko_X12_sumOf rfl hy_X12_sumOf rfl (by decide) (Nat.le_of_ble_eq_true rfl) rfl (by decide) rfl (c_X12_sumOf Γ a1 s) (fun p2 => ?_)
    exact E_ireturn dX12_count_62 rfl rfl
  refine E_case 5 (fun hc5 => ?_) (fun hc5 => ?_)
  · refine E_tswIn (k := 5) 57 dX12_count_1 hc5 (by decide) (by decide) rfl (by decide) ?_
    refine E_aload_n 0 dX12_count_57 rfl rfl ?_
    refine E_iload_n 1 dX12_count_58 rfl rfl ?_
    refine E_callVIS (T := TX12) (ci := 12) [.int a1] [] dX12_count_59 rfl kw_1307 kw_1309 kp_66 kw_13 ko_X12_sumOf rfl hy_X12_sumOf rfl (by decide) (Nat.le_of_ble_eq_true rfl) rfl (by decide) rfl (c_X12_sumOf Γ a1 s) (fun p3 => ?_)
    exact E_ireturn dX12_count_62 rfl rfl
  refine E_case 6 (fun hc6 => ?_) (fun hc6 => ?_)
  · refine E_tswIn (k := 6) 57 dX12_count_1 hc6 (by decide) (by decide) rfl (by decide) ?_
    refine E_aload_n 0 dX12_count_57 rfl rfl ?_
    refine E_iload_n 1 dX12_count_58 rfl rfl ?_
    refine E_callVIS (T := TX12) (ci := 12) [.int a1] [] dX12_count_59 rfl kw_1307 kw_1309 kp_66 kw_13 ko_X12_sumOf rfl hy_X12_sumOf rfl (by decide) (Nat.le_of_ble_eq_true rfl) rfl (by decide) rfl (c_X12_sumOf Γ a1 s) (fun p4 => ?_)
    exact E_ireturn dX12_count_62 rfl rfl
  refine E_case 7 (fun hc7 => ?_) (fun hc7 => ?_)
  · refine E_tswIn (k := 7) 57 dX12_count_1 hc7 (by decide) (by decide) rfl (by decide) ?_
    refine E_aload_n 0 dX12_count_57 rfl rfl ?_
    refine E_iload_n 1 dX12_count_58 rfl rfl ?_
    refine E_callVIS (T := TX12) (ci := 12) [.int a1] [] dX12_count_59 rfl kw_1307 kw_1309 kp_66 kw_13 ko_X12_sumOf rfl hy_X12_sumOf rfl (by decide) (Nat.le_of_ble_eq_true rfl) rfl (by decide) rfl (c_X12_sumOf Γ a1 s) (fun p5 => ?_)
    exact E_ireturn dX12_count_62 rfl rfl
  refine E_case 8 (fun hc8 => ?_) (fun hc8 => ?_)
  · refine E_tswIn (k := 8) 73 dX12_count_1 hc8 (by decide) (by decide) rfl (by decide) ?_
    refine E_aload_n 0 dX12_count_73 rfl rfl ?_
    refine E_getI (j := 29) (ci := 12) (T := TX12) (C0 := RX12) (ref := "SameWrongModel") dX12_count_74 rfl (by decide) rfl inX12 (by decide) kw_903 rfl rfl ?_
    exact E_ireturn dX12_count_77 rfl rfl
  refine E_tswOut (x0 := a1) (n := 9) 78 dX12_count_1 (by decide) (by decide) (fun k hk => match k, hk with | 0, _ => hc0 | 1, _ => hc1 | 2, _ => hc2 | 3, _ => hc3 | 4, _ => hc4 | 5, _ => hc5 | 6, _ => hc6 | 7, _ => hc7 | 8, _ => hc8 | z + 9, h => absurd h (by omega)) (by decide) ?_
  refine E_bipush (v := (-2)) dX12_count_78 (by decide) ?_
  exact E_ireturn dX12_count_80 rfl rfl
theorem c_X12_count (Γ : GT) (a1 : Int32) (s : St)  (x : (Int32 × St)) (h : f_X12_count a1 s = some x) (l : Launch) : MC l yX12_count cX12_count 2 (some .int) 6 WM Γ [.ref (Γ.2.1 0), .int a1] s (emIS x) := MC_of (by decide +kernel) (Nat.le_of_ble_eq_true rfl) (e_X12_count Γ a1 s ) h l
set_option maxRecDepth 100000 in
set_option maxHeartbeats 4000000 in
theorem e_X12_digest (Γ : GT)  (s : St)  : E RX12 cX12_digest 5 (some .long) 7 WM Γ emLS 0 [(0, .ref (Γ.2.1 0))] [] s (f_X12_digest  s) := by
  unfold f_X12_digest
  refine E_ldc2 (v := 17) dX12_digest_0 kw_1315 ?_
  refine E_lstore_n [(1, .long 17), (0, .ref (Γ.2.1 0))] dX12_digest_3 rfl (by decide) rfl ?_
  refine E_iconst (v := 0) dX12_digest_4 (by decide) ?_
  refine E_istore_n [(3, .int 0), (1, .long 17), (0, .ref (Γ.2.1 0))] dX12_digest_5 rfl (by decide) rfl ?_
  refine E_jn 31 (fun (y : Int64 × St) => [(1, .long y.1), (0, .ref (Γ.2.1 0))]) (fun (y : Int64 × St) => []) (fun (y : Int64 × St) => y.2) ?_ ?_
  · intro y2
    refine E_ldc2 (v := 31) dX12_digest_31 kw_1316 ?_
    refine E_lload_n 0 dX12_digest_34 rfl rfl ?_
    refine E_lmul dX12_digest_35 ?_
    refine E_aload_n 1 dX12_digest_36 rfl rfl ?_
    refine E_callVIS (T := TX12) (ci := 12) [] [.long (31 * y2.1)] dX12_digest_37 rfl kw_985 kw_987 kp_23 kw_13 ko_X12_faultNow rfl hy_X12_faultNow rfl (by decide) (Nat.le_of_ble_eq_true rfl) rfl (by decide) rfl (c_X12_faultNow Γ y2.2) (fun p3 => ?_)
    refine E_i2l dX12_digest_40 ?_
    refine E_ladd dX12_digest_41 ?_
    refine E_lstore_n [(1, .long ((31 * y2.1) + p3.1.toInt64)), (0, .ref (Γ.2.1 0))] dX12_digest_42 rfl (by decide) rfl ?_
    refine E_bl (fun v4 => [(1, .long v4), (0, .ref (Γ.2.1 0))]) (fun v4 => ?_) ((31 * y2.1) + p3.1.toInt64)
    refine E_aload_n 1 dX12_digest_43 rfl rfl ?_
    refine E_callVV (T := TX12) (ci := 12) [] [] dX12_digest_44 rfl kw_1044 kw_1046 kp_31 kw_13 ko_X12_lays rfl hy_X12_lays rfl (by decide) (Nat.le_of_ble_eq_true rfl) rfl (by decide) rfl (c_X12_lays Γ p3.2) (fun s5 => ?_)
    refine E_iconst (v := 0) dX12_digest_47 (by decide) ?_
    refine E_istore_n [(3, .int 0), (1, .long v4), (0, .ref (Γ.2.1 0))] dX12_digest_48 rfl (by decide) rfl ?_
    refine E_jn 123 (fun (y : Int64) => [(1, .long y), (0, .ref (Γ.2.1 0))]) (fun (y : Int64) => []) (fun (y : Int64) => s5) ?_ ?_
    · intro y7
      refine E_ldc2 (v := 31) dX12_digest_123 kw_1316 ?_
      refine E_lload_n 0 dX12_digest_126 rfl rfl ?_
      refine E_lmul dX12_digest_127 ?_
      refine E_aload_n 1 dX12_digest_128 rfl rfl ?_
      refine E_iconst (v := 0) dX12_digest_129 (by decide) ?_
      refine E_callVIS (T := TX12) (ci := 12) [.int 0] [.long (31 * y7)] dX12_digest_130 rfl kw_1136 kw_1138 kp_46 kw_13 ko_X12_seatsNow rfl hy_X12_seatsNow rfl (by decide) (Nat.le_of_ble_eq_true rfl) rfl (by decide) rfl (c_X12_seatsNow Γ 0 s5) (fun p8 => ?_)
      refine E_i2l dX12_digest_133 ?_
      refine E_ladd dX12_digest_134 ?_
      refine E_lstore_n [(1, .long ((31 * y7) + p8.1.toInt64)), (0, .ref (Γ.2.1 0))] dX12_digest_135 rfl (by decide) rfl ?_
      refine E_bl (fun v9 => [(1, .long v9), (0, .ref (Γ.2.1 0))]) (fun v9 => ?_) ((31 * y7) + p8.1.toInt64)
      refine E_ldc2 (v := 31) dX12_digest_136 kw_1316 ?_
      refine E_lload_n 0 dX12_digest_139 rfl rfl ?_
      refine E_lmul dX12_digest_140 ?_
      refine E_aload_n 1 dX12_digest_141 rfl rfl ?_
      refine E_callVIS (T := TX12) (ci := 12) [] [.long (31 * v9)] dX12_digest_142 rfl kw_1153 kw_1155 kp_49 kw_13 ko_X12_sourcesNow rfl hy_X12_sourcesNow rfl (by decide) (Nat.le_of_ble_eq_true rfl) rfl (by decide) rfl (c_X12_sourcesNow Γ p8.2) (fun p10 => ?_)
      refine E_i2l dX12_digest_145 ?_
      refine E_ladd dX12_digest_146 ?_
      refine E_lstore_n [(1, .long ((31 * v9) + p10.1.toInt64)), (0, .ref (Γ.2.1 0))] dX12_digest_147 rfl (by decide) rfl ?_
      refine E_bl (fun v11 => [(1, .long v11), (0, .ref (Γ.2.1 0))]) (fun v11 => ?_) ((31 * v9) + p10.1.toInt64)
      refine E_ldc2 (v := 31) dX12_digest_148 kw_1316 ?_
      refine E_lload_n 0 dX12_digest_151 rfl rfl ?_
      refine E_lmul dX12_digest_152 ?_
      refine E_aload_n 1 dX12_digest_153 rfl rfl ?_
      refine E_callVIS (T := TX12) (ci := 12) [] [.long (31 * v11)] dX12_digest_154 rfl kw_1183 kw_1185 kp_53 kw_13 ko_X12_chainNow rfl hy_X12_chainNow rfl (by decide) (Nat.le_of_ble_eq_true rfl) rfl (by decide) rfl (c_X12_chainNow Γ p10.2) (fun p12 => ?_)
      refine E_i2l dX12_digest_157 ?_
      refine E_ladd dX12_digest_158 ?_
      refine E_lstore_n [(1, .long ((31 * v11) + p12.1.toInt64)), (0, .ref (Γ.2.1 0))] dX12_digest_159 rfl (by decide) rfl ?_
      refine E_bl (fun v13 => [(1, .long v13), (0, .ref (Γ.2.1 0))]) (fun v13 => ?_) ((31 * v11) + p12.1.toInt64)
      refine E_ldc2 (v := 31) dX12_digest_160 kw_1316 ?_
      refine E_lload_n 0 dX12_digest_163 rfl rfl ?_
      refine E_lmul dX12_digest_164 ?_
      refine E_aload_n 1 dX12_digest_165 rfl rfl ?_
      refine E_iconst (v := 1) dX12_digest_166 (by decide) ?_
      refine E_iconst (v := 0) dX12_digest_167 (by decide) ?_
      refine E_callVL (T := TX12) (ci := 12) [.int 1, .int 0] [.long (31 * v13)] dX12_digest_168 rfl kw_1199 kw_1201 kp_55 kw_13 ko_X12_gainsNow rfl hy_X12_gainsNow rfl (by decide) (Nat.le_of_ble_eq_true rfl) rfl (by decide) rfl (c_X12_gainsNow Γ 1 0 p12.2) (fun v14 => ?_)
      refine E_ladd dX12_digest_171 ?_
      refine E_lstore_n [(1, .long ((31 * v13) + v14)), (0, .ref (Γ.2.1 0))] dX12_digest_172 rfl (by decide) rfl ?_
      refine E_bl (fun v15 => [(1, .long v15), (0, .ref (Γ.2.1 0))]) (fun v15 => ?_) ((31 * v13) + v14)
      refine E_ldc2 (v := 31) dX12_digest_173 kw_1316 ?_
      refine E_lload_n 0 dX12_digest_176 rfl rfl ?_
      refine E_lmul dX12_digest_177 ?_
      refine E_aload_n 1 dX12_digest_178 rfl rfl ?_
      refine E_iconst (v := 1) dX12_digest_179 (by decide) ?_
      refine E_iconst (v := 1) dX12_digest_180 (by decide) ?_
      refine E_callVL (T := TX12) (ci := 12) [.int 1, .int 1] [.long (31 * v15)] dX12_digest_181 rfl kw_1199 kw_1201 kp_55 kw_13 ko_X12_gainsNow rfl hy_X12_gainsNow rfl (by decide) (Nat.le_of_ble_eq_true rfl) rfl (by decide) rfl (c_X12_gainsNow Γ 1 1 p12.2) (fun v16 => ?_)
      refine E_ladd dX12_digest_184 ?_
      refine E_lstore_n [(1, .long ((31 * v15) + v16)), (0, .ref (Γ.2.1 0))] dX12_digest_185 rfl (by decide) rfl ?_
      refine E_bl (fun v17 => [(1, .long v17), (0, .ref (Γ.2.1 0))]) (fun v17 => ?_) ((31 * v15) + v16)
      refine E_iconst (v := 0) dX12_digest_186 (by decide) ?_
      refine E_istore_n [(3, .int 0), (1, .long v17), (0, .ref (Γ.2.1 0))] dX12_digest_187 rfl (by decide) rfl ?_
      refine E_jn 309 (fun (y : Int64 × St) => [(1, .long y.1), (0, .ref (Γ.2.1 0))]) (fun (y : Int64 × St) => []) (fun (y : Int64 × St) => y.2) ?_ ?_
      · intro y19
        refine E_ldc2 (v := 31) dX12_digest_309 kw_1316 ?_
        refine E_lload_n 0 dX12_digest_312 rfl rfl ?_
        refine E_lmul dX12_digest_313 ?_
        refine E_aload_n 1 dX12_digest_314 rfl rfl ?_
        refine E_callVI (T := TX12) (ci := 12) [] [.long (31 * y19.1)] dX12_digest_315 rfl kw_1242 kw_1244 kp_60 kw_13 ko_X12_badlyNow rfl hy_X12_badlyNow rfl (by decide) (Nat.le_of_ble_eq_true rfl) rfl (by decide) rfl (c_X12_badlyNow Γ y19.2) (fun v20 => ?_)
        refine E_i2l dX12_digest_318 ?_
        refine E_ladd dX12_digest_319 ?_
        exact E_lreturn dX12_digest_320 rfl rfl
      · intro K18 hK18
        refine E_lp (F := L_X12_digest_188 K18) (fun (x : Int32 × Int64 × St) => [(3, .int x.1), (1, .long x.2.1), (0, .ref (Γ.2.1 0))]) (fun (x : Int32 × Int64 × St) => x.2.2) ?_ NN (0, v17, p12.2)
        intro r21 hr21 x22
        show E _ _ _ _ _ _ _ _ _ _ _ _ (L_X12_digest_188 K18 r21 x22)
        unfold L_X12_digest_188
        refine E_iload_n 0 dX12_digest_188 rfl rfl ?_
        refine E_aload_n 2 dX12_digest_189 rfl rfl ?_
        refine E_getI (j := 0) (ci := 12) (T := TX12) (C0 := RX12) (ref := "SameWrongModel") dX12_digest_190 rfl (by decide) rfl inX12 (by decide) kw_874 rfl rfl ?_
        refine E_icmpge 309 dX12_digest_193 (by decide) ?_ ?_
        · refine E_lvsub [1, 2] [(1, .long x22.2.1), (0, .ref (Γ.2.1 0))] rfl ?_
          exact hK18 (x22.2.1, x22.2.2)
        · refine E_ldc2 (v := 31) dX12_digest_196 kw_1316 ?_
          refine E_lload_n 1 dX12_digest_199 rfl rfl ?_
          refine E_lmul dX12_digest_200 ?_
          refine E_aload_n 2 dX12_digest_201 rfl rfl ?_
          refine E_getR 2 (j := 3) (ci := 12) (T := TX12) (C0 := RX12) (ref := "SameWrongModel") dX12_digest_202 rfl (by decide) rfl inX12 (by decide) kw_877 rfl rfl rfl ?_
          refine E_iload_n 0 dX12_digest_205 rfl rfl ?_
          refine E_iaload dX12_digest_206 rfl (by decide) ?_
          refine E_i2l dX12_digest_207 ?_
          refine E_ladd dX12_digest_208 ?_
          refine E_lstore_n [(1, .long ((31 * x22.2.1) + ((x22.2.2.1 2 x22.1.toNatClampNeg).toInt64))), (3, .int x22.1), (0, .ref (Γ.2.1 0))] dX12_digest_209 rfl (by decide) rfl ?_
          refine E_bl (fun v23 => [(1, .long v23), (3, .int x22.1), (0, .ref (Γ.2.1 0))]) (fun v23 => ?_) ((31 * x22.2.1) + ((x22.2.2.1 2 x22.1.toNatClampNeg).toInt64))
          refine E_ldc2 (v := 31) dX12_digest_210 kw_1316 ?_
          refine E_lload_n 0 dX12_digest_213 rfl rfl ?_
          refine E_lmul dX12_digest_214 ?_
          refine E_aload_n 2 dX12_digest_215 rfl rfl ?_
          refine E_iload_n 1 dX12_digest_216 rfl rfl ?_
          refine E_callVI (T := TX12) (ci := 12) [.int x22.1] [.long (31 * v23)] dX12_digest_217 rfl kw_1234 kw_1236 kp_59 kw_13 ko_X12_shouldNow rfl hy_X12_shouldNow rfl (by decide) (Nat.le_of_ble_eq_true rfl) rfl (by decide) rfl (c_X12_shouldNow Γ x22.1 x22.2.2) (fun v24 => ?_)
          refine E_i2l dX12_digest_220 ?_
          refine E_ladd dX12_digest_221 ?_
          refine E_lstore_n [(1, .long ((31 * v23) + v24.toInt64)), (3, .int x22.1), (0, .ref (Γ.2.1 0))] dX12_digest_222 rfl (by decide) rfl ?_
          refine E_bl (fun v25 => [(1, .long v25), (3, .int x22.1), (0, .ref (Γ.2.1 0))]) (fun v25 => ?_) ((31 * v23) + v24.toInt64)
          refine E_ldc2 (v := 31) dX12_digest_223 kw_1316 ?_
          refine E_lload_n 0 dX12_digest_226 rfl rfl ?_
          refine E_lmul dX12_digest_227 ?_
          refine E_aload_n 2 dX12_digest_228 rfl rfl ?_
          refine E_iload_n 1 dX12_digest_229 rfl rfl ?_
          refine E_iconst (v := 0) dX12_digest_230 (by decide) ?_
          refine E_callVI (T := TX12) (ci := 12) [.int x22.1, .int 0] [.long (31 * v25)] dX12_digest_231 rfl kw_1250 kw_1252 kp_61 kw_13 ko_X12_withoutNow rfl hy_X12_withoutNow rfl (by decide) (Nat.le_of_ble_eq_true rfl) rfl (by decide) rfl (c_X12_withoutNow Γ x22.1 0 x22.2.2) (fun v26 => ?_)
          refine E_i2l dX12_digest_234 ?_
          refine E_ladd dX12_digest_235 ?_
          refine E_lstore_n [(1, .long ((31 * v25) + v26.toInt64)), (3, .int x22.1), (0, .ref (Γ.2.1 0))] dX12_digest_236 rfl (by decide) rfl ?_
          refine E_bl (fun v27 => [(1, .long v27), (3, .int x22.1), (0, .ref (Γ.2.1 0))]) (fun v27 => ?_) ((31 * v25) + v26.toInt64)
          refine E_ldc2 (v := 31) dX12_digest_237 kw_1316 ?_
          refine E_lload_n 0 dX12_digest_240 rfl rfl ?_
          refine E_lmul dX12_digest_241 ?_
          refine E_aload_n 2 dX12_digest_242 rfl rfl ?_
          refine E_iload_n 1 dX12_digest_243 rfl rfl ?_
          refine E_iconst (v := 1) dX12_digest_244 (by decide) ?_
          refine E_callVI (T := TX12) (ci := 12) [.int x22.1, .int 1] [.long (31 * v27)] dX12_digest_245 rfl kw_1250 kw_1252 kp_61 kw_13 ko_X12_withoutNow rfl hy_X12_withoutNow rfl (by decide) (Nat.le_of_ble_eq_true rfl) rfl (by decide) rfl (c_X12_withoutNow Γ x22.1 1 x22.2.2) (fun v28 => ?_)
          refine E_i2l dX12_digest_248 ?_
          refine E_ladd dX12_digest_249 ?_
          refine E_lstore_n [(1, .long ((31 * v27) + v28.toInt64)), (3, .int x22.1), (0, .ref (Γ.2.1 0))] dX12_digest_250 rfl (by decide) rfl ?_
          refine E_bl (fun v29 => [(1, .long v29), (3, .int x22.1), (0, .ref (Γ.2.1 0))]) (fun v29 => ?_) ((31 * v27) + v28.toInt64)
          refine E_ldc2 (v := 31) dX12_digest_251 kw_1316 ?_
          refine E_lload_n 0 dX12_digest_254 rfl rfl ?_
          refine E_lmul dX12_digest_255 ?_
          refine E_aload_n 2 dX12_digest_256 rfl rfl ?_
          refine E_iload_n 1 dX12_digest_257 rfl rfl ?_
          refine E_iconst (v := 0) dX12_digest_258 (by decide) ?_
          refine E_callVL (T := TX12) (ci := 12) [.int x22.1, .int 0] [.long (31 * v29)] dX12_digest_259 rfl kw_1258 kw_1260 kp_62 kw_13 ko_X12_hardNow rfl hy_X12_hardNow rfl (by decide) (Nat.le_of_ble_eq_true rfl) rfl (by decide) rfl (c_X12_hardNow Γ x22.1 0 x22.2.2) (fun v30 => ?_)
          refine E_ladd dX12_digest_262 ?_
          refine E_lstore_n [(1, .long ((31 * v29) + v30)), (3, .int x22.1), (0, .ref (Γ.2.1 0))] dX12_digest_263 rfl (by decide) rfl ?_
          refine E_bl (fun v31 => [(1, .long v31), (3, .int x22.1), (0, .ref (Γ.2.1 0))]) (fun v31 => ?_) ((31 * v29) + v30)
          refine E_ldc2 (v := 31) dX12_digest_264 kw_1316 ?_
          refine E_lload_n 0 dX12_digest_267 rfl rfl ?_
          refine E_lmul dX12_digest_268 ?_
          refine E_aload_n 2 dX12_digest_269 rfl rfl ?_
          refine E_iload_n 1 dX12_digest_270 rfl rfl ?_
          refine E_iconst (v := 1) dX12_digest_271 (by decide) ?_
          refine E_callVL (T := TX12) (ci := 12) [.int x22.1, .int 1] [.long (31 * v31)] dX12_digest_272 rfl kw_1258 kw_1260 kp_62 kw_13 ko_X12_hardNow rfl hy_X12_hardNow rfl (by decide) (Nat.le_of_ble_eq_true rfl) rfl (by decide) rfl (c_X12_hardNow Γ x22.1 1 x22.2.2) (fun v32 => ?_)
          refine E_ladd dX12_digest_275 ?_
          refine E_lstore_n [(1, .long ((31 * v31) + v32)), (3, .int x22.1), (0, .ref (Γ.2.1 0))] dX12_digest_276 rfl (by decide) rfl ?_
          refine E_bl (fun v33 => [(1, .long v33), (3, .int x22.1), (0, .ref (Γ.2.1 0))]) (fun v33 => ?_) ((31 * v31) + v32)
          refine E_ldc2 (v := 31) dX12_digest_277 kw_1316 ?_
          refine E_lload_n 0 dX12_digest_280 rfl rfl ?_
          refine E_lmul dX12_digest_281 ?_
          refine E_aload_n 2 dX12_digest_282 rfl rfl ?_
          refine E_iload_n 1 dX12_digest_283 rfl rfl ?_
          refine E_iconst (v := 0) dX12_digest_284 (by decide) ?_
          refine E_callVLS (T := TX12) (ci := 12) [.int x22.1, .int 0] [.long (31 * v33)] dX12_digest_285 rfl kw_1266 kw_1268 kp_63 kw_13 ko_X12_partsNow rfl hy_X12_partsNow rfl (by decide) (Nat.le_of_ble_eq_true rfl) rfl (by decide) rfl (c_X12_partsNow Γ x22.1 0 x22.2.2) (fun p34 => ?_)
          refine E_ladd dX12_digest_288 ?_
          refine E_lstore_n [(1, .long ((31 * v33) + p34.1)), (3, .int x22.1), (0, .ref (Γ.2.1 0))] dX12_digest_289 rfl (by decide) rfl ?_
          refine E_bl (fun v35 => [(1, .long v35), (3, .int x22.1), (0, .ref (Γ.2.1 0))]) (fun v35 => ?_) ((31 * v33) + p34.1)
          refine E_ldc2 (v := 31) dX12_digest_290 kw_1316 ?_
          refine E_lload_n 0 dX12_digest_293 rfl rfl ?_
          refine E_lmul dX12_digest_294 ?_
          refine E_aload_n 2 dX12_digest_295 rfl rfl ?_
          refine E_iload_n 1 dX12_digest_296 rfl rfl ?_
          refine E_iconst (v := 1) dX12_digest_297 (by decide) ?_
          refine E_callVLS (T := TX12) (ci := 12) [.int x22.1, .int 1] [.long (31 * v35)] dX12_digest_298 rfl kw_1266 kw_1268 kp_63 kw_13 ko_X12_partsNow rfl hy_X12_partsNow rfl (by decide) (Nat.le_of_ble_eq_true rfl) rfl (by decide) rfl (c_X12_partsNow Γ x22.1 1 p34.2) (fun p36 => ?_)
          refine E_ladd dX12_digest_301 ?_
          refine E_lstore_n [(1, .long ((31 * v35) + p36.1)), (3, .int x22.1), (0, .ref (Γ.2.1 0))] dX12_digest_302 rfl (by decide) rfl ?_
          refine E_bl (fun v37 => [(1, .long v37), (3, .int x22.1), (0, .ref (Γ.2.1 0))]) (fun v37 => ?_) ((31 * v35) + p36.1)
          refine E_iinc 1 [(3, .int (x22.1 + 1)), (1, .long v37), (0, .ref (Γ.2.1 0))] dX12_digest_303 rfl rfl (by decide) rfl ?_
          refine E_goto 188 dX12_digest_306 (by decide) ?_
          exact hr21 (x22.1 + 1, v37, p36.2)
    · intro K6 hK6
      refine E_lp (F := L_X12_digest_49 s5 K6) (fun (x : Int32 × Int64) => [(3, .int x.1), (1, .long x.2), (0, .ref (Γ.2.1 0))]) (fun (x : Int32 × Int64) => s5) ?_ NN (0, v4)
      intro r38 hr38 x39
      show E _ _ _ _ _ _ _ _ _ _ _ _ (L_X12_digest_49 s5 K6 r38 x39)
      unfold L_X12_digest_49
      refine E_iload_n 0 dX12_digest_49 rfl rfl ?_
      refine E_aload_n 2 dX12_digest_50 rfl rfl ?_
      refine E_getI (j := 5) (ci := 12) (T := TX12) (C0 := RX12) (ref := "SameWrongModel") dX12_digest_51 rfl (by decide) rfl inX12 (by decide) kw_879 rfl rfl ?_
      refine E_icmpge 123 dX12_digest_54 (by decide) ?_ ?_
      · refine E_lvsub [1, 2] [(1, .long x39.2), (0, .ref (Γ.2.1 0))] rfl ?_
        exact hK6 x39.2
      · refine E_iconst (v := 0) dX12_digest_57 (by decide) ?_
        refine E_istore [(4, .int 0), (3, .int x39.1), (1, .long x39.2), (0, .ref (Γ.2.1 0))] dX12_digest_58 (by decide) rfl ?_
        refine E_jn 87 (fun (y : Int64) => [(3, .int x39.1), (1, .long y), (0, .ref (Γ.2.1 0))]) (fun (y : Int64) => []) (fun (y : Int64) => s5) ?_ ?_
        · intro y41
          refine E_iconst (v := 0) dX12_digest_87 (by decide) ?_
          refine E_istore [(4, .int 0), (3, .int x39.1), (1, .long y41), (0, .ref (Γ.2.1 0))] dX12_digest_88 (by decide) rfl ?_
          refine E_lp (F := L_X12_digest_90 s5 r38 x39) (fun (x : Int32 × Int64) => [(4, .int x.1), (3, .int x39.1), (1, .long x.2), (0, .ref (Γ.2.1 0))]) (fun (x : Int32 × Int64) => s5) ?_ NN (0, y41)
          intro r42 hr42 x43
          show E _ _ _ _ _ _ _ _ _ _ _ _ (L_X12_digest_90 s5 r38 x39 r42 x43)
          unfold L_X12_digest_90
          refine E_iload 0 dX12_digest_90 rfl ?_
          refine E_iconst (v := 3) dX12_digest_92 (by decide) ?_
          refine E_icmpge 117 dX12_digest_93 (by decide) ?_ ?_
          · refine E_iinc 1 [(3, .int (x39.1 + 1)), (4, .int x43.1), (1, .long x43.2), (0, .ref (Γ.2.1 0))] dX12_digest_117 rfl rfl (by decide) rfl ?_
            refine E_goto 49 dX12_digest_120 (by decide) ?_
            refine E_lvsub [0, 2, 3] [(3, .int (x39.1 + 1)), (1, .long x43.2), (0, .ref (Γ.2.1 0))] rfl ?_
            exact hr38 (x39.1 + 1, x43.2)
          · refine E_ldc2 (v := 31) dX12_digest_96 kw_1316 ?_
            refine E_lload_n 2 dX12_digest_99 rfl rfl ?_
            refine E_lmul dX12_digest_100 ?_
            refine E_aload_n 3 dX12_digest_101 rfl rfl ?_
            refine E_iload_n 1 dX12_digest_102 rfl rfl ?_
            refine E_iload 0 dX12_digest_103 rfl ?_
            refine E_callVI (T := TX12) (ci := 12) [.int x39.1, .int x43.1] [.long (31 * x43.2)] dX12_digest_105 rfl kw_1191 kw_1193 kp_54 kw_13 ko_X12_rubbedOf rfl hy_X12_rubbedOf rfl (by decide) (Nat.le_of_ble_eq_true rfl) rfl (by decide) rfl (c_X12_rubbedOf Γ x39.1 x43.1 s5) (fun v44 => ?_)
            refine E_i2l dX12_digest_108 ?_
            refine E_ladd dX12_digest_109 ?_
            refine E_lstore_n [(1, .long ((31 * x43.2) + v44.toInt64)), (4, .int x43.1), (3, .int x39.1), (0, .ref (Γ.2.1 0))] dX12_digest_110 rfl (by decide) rfl ?_
            refine E_bl (fun v45 => [(1, .long v45), (4, .int x43.1), (3, .int x39.1), (0, .ref (Γ.2.1 0))]) (fun v45 => ?_) ((31 * x43.2) + v44.toInt64)
            refine E_iinc 1 [(4, .int (x43.1 + 1)), (1, .long v45), (3, .int x39.1), (0, .ref (Γ.2.1 0))] dX12_digest_111 rfl rfl (by decide) rfl ?_
            refine E_goto 90 dX12_digest_114 (by decide) ?_
            refine E_lvsub [0, 2, 1, 3] [(4, .int (x43.1 + 1)), (3, .int x39.1), (1, .long v45), (0, .ref (Γ.2.1 0))] rfl ?_
            exact hr42 (x43.1 + 1, v45)
        · intro K40 hK40
          refine E_lp (F := L_X12_digest_60 s5 x39 K40) (fun (x : Int32 × Int64) => [(4, .int x.1), (3, .int x39.1), (1, .long x.2), (0, .ref (Γ.2.1 0))]) (fun (x : Int32 × Int64) => s5) ?_ NN (0, x39.2)
          intro r46 hr46 x47
          show E _ _ _ _ _ _ _ _ _ _ _ _ (L_X12_digest_60 s5 x39 K40 r46 x47)
          unfold L_X12_digest_60
          refine E_iload 0 dX12_digest_60 rfl ?_
          refine E_iconst (v := 4) dX12_digest_62 (by decide) ?_
          refine E_icmpge 87 dX12_digest_63 (by decide) ?_ ?_
          · refine E_lvsub [1, 2, 3] [(3, .int x39.1), (1, .long x47.2), (0, .ref (Γ.2.1 0))] rfl ?_
            exact hK40 x47.2
          · refine E_ldc2 (v := 31) dX12_digest_66 kw_1316 ?_
            refine E_lload_n 2 dX12_digest_69 rfl rfl ?_
            refine E_lmul dX12_digest_70 ?_
            refine E_aload_n 3 dX12_digest_71 rfl rfl ?_
            refine E_iload_n 1 dX12_digest_72 rfl rfl ?_
            refine E_iload 0 dX12_digest_73 rfl ?_
            refine E_callVI (T := TX12) (ci := 12) [.int x39.1, .int x47.1] [.long (31 * x47.2)] dX12_digest_75 rfl kw_1067 kw_1069 kp_34 kw_13 ko_X12_markOf rfl hy_X12_markOf rfl (by decide) (Nat.le_of_ble_eq_true rfl) rfl (by decide) rfl (c_X12_markOf Γ x39.1 x47.1 s5) (fun v48 => ?_)
            refine E_i2l dX12_digest_78 ?_
            refine E_ladd dX12_digest_79 ?_
            refine E_lstore_n [(1, .long ((31 * x47.2) + v48.toInt64)), (4, .int x47.1), (3, .int x39.1), (0, .ref (Γ.2.1 0))] dX12_digest_80 rfl (by decide) rfl ?_
            refine E_bl (fun v49 => [(1, .long v49), (4, .int x47.1), (3, .int x39.1), (0, .ref (Γ.2.1 0))]) (fun v49 => ?_) ((31 * x47.2) + v48.toInt64)
            refine E_iinc 1 [(4, .int (x47.1 + 1)), (1, .long v49), (3, .int x39.1), (0, .ref (Γ.2.1 0))] dX12_digest_81 rfl rfl (by decide) rfl ?_
            refine E_goto 60 dX12_digest_84 (by decide) ?_
            refine E_lvsub [0, 2, 1, 3] [(4, .int (x47.1 + 1)), (3, .int x39.1), (1, .long v49), (0, .ref (Γ.2.1 0))] rfl ?_
            exact hr46 (x47.1 + 1, v49)
  · intro K1 hK1
    refine E_lp (F := L_X12_digest_6 K1) (fun (x : Int32 × Int64 × St) => [(3, .int x.1), (1, .long x.2.1), (0, .ref (Γ.2.1 0))]) (fun (x : Int32 × Int64 × St) => x.2.2) ?_ NN (0, 17, s)
    intro r50 hr50 x51
    show E _ _ _ _ _ _ _ _ _ _ _ _ (L_X12_digest_6 K1 r50 x51)
    unfold L_X12_digest_6
    refine E_iload_n 0 dX12_digest_6 rfl rfl ?_
    refine E_bipush (v := 8) dX12_digest_7 (by decide) ?_
    refine E_icmpge 31 dX12_digest_9 (by decide) ?_ ?_
    · refine E_lvsub [1, 2] [(1, .long x51.2.1), (0, .ref (Γ.2.1 0))] rfl ?_
      exact hK1 (x51.2.1, x51.2.2)
    · refine E_ldc2 (v := 31) dX12_digest_12 kw_1316 ?_
      refine E_lload_n 1 dX12_digest_15 rfl rfl ?_
      refine E_lmul dX12_digest_16 ?_
      refine E_aload_n 2 dX12_digest_17 rfl rfl ?_
      refine E_iload_n 0 dX12_digest_18 rfl rfl ?_
      refine E_callVIS (T := TX12) (ci := 12) [.int x51.1] [.long (31 * x51.2.1)] dX12_digest_19 rfl kw_1317 kw_1304 kw_1305 kw_13 ko_X12_count rfl hy_X12_count rfl (by decide) (Nat.le_of_ble_eq_true rfl) rfl (by decide) rfl (c_X12_count Γ x51.1 x51.2.2) (fun p52 => ?_)
      refine E_i2l dX12_digest_22 ?_
      refine E_ladd dX12_digest_23 ?_
      refine E_lstore_n [(1, .long ((31 * x51.2.1) + p52.1.toInt64)), (3, .int x51.1), (0, .ref (Γ.2.1 0))] dX12_digest_24 rfl (by decide) rfl ?_
      refine E_bl (fun v53 => [(1, .long v53), (3, .int x51.1), (0, .ref (Γ.2.1 0))]) (fun v53 => ?_) ((31 * x51.2.1) + p52.1.toInt64)
      refine E_iinc 1 [(3, .int (x51.1 + 1)), (1, .long v53), (0, .ref (Γ.2.1 0))] dX12_digest_25 rfl rfl (by decide) rfl ?_
      refine E_goto 6 dX12_digest_28 (by decide) ?_
      exact hr50 (x51.1 + 1, v53, p52.2)
theorem c_X12_digest (Γ : GT)  (s : St)  (x : (Int64 × St)) (h : f_X12_digest  s = some x) (l : Launch) : MC l yX12_digest cX12_digest 5 (some .long) 7 WM Γ [.ref (Γ.2.1 0)] s (emLS x) := MC_of (by decide +kernel) (Nat.le_of_ble_eq_true rfl) (e_X12_digest Γ  s ) h l
