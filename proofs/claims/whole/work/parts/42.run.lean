set_option maxRecDepth 100000 in
set_option maxHeartbeats 4000000 in
theorem e_X11_key (Γ : GT) (a1 : Int32) (s : St)  : E RX11 cX11_key 2 (some .int) 3 WC Γ (emI s) 0 [(0, .ref (Γ.2.1 0)), (1, .int a1)] [] s (f_X11_key a1 s) := by
  unfold f_X11_key
  refine E_aload_n 0 dX11_key_0 rfl rfl ?_
  refine E_iload_n 1 dX11_key_1 rfl rfl ?_
  refine E_callVZ (T := TX11) (ci := 11) [.int a1] [] dX11_key_2 rfl kw_400 kw_402 kp_2 kw_1 ko_X11_isQuestion rfl hy_X11_isQuestion rfl (by decide) (Nat.le_of_ble_eq_true rfl) rfl (by decide) rfl (c_X11_isQuestion Γ a1 s) (fun v1 => ?_)
  refine E_ifeqb 20 dX11_key_5 (by decide) ?_ ?_
  · refine E_bipush (v := (-2)) dX11_key_20 (by decide) ?_
    exact E_ireturn dX11_key_22 rfl rfl
  · refine E_aload_n 0 dX11_key_8 rfl rfl ?_
    refine E_getR 1 (j := 0) (ci := 11) (T := TX11) (C0 := RX11) (ref := "SameWrong") dX11_key_9 rfl (by decide) rfl inX11 (by decide) kw_316 rfl rfl rfl ?_
    refine E_getR 11 (j := 0) (ci := 4) (T := TX4) (C0 := RX4) (ref := "SameWrong$Key") dX11_key_12 rfl (by decide) rfl inX4 (by decide) kw_35 rfl rfl rfl ?_
    refine E_iload_n 1 dX11_key_15 rfl rfl ?_
    refine E_iaload dX11_key_16 rfl (by decide) ?_
    refine E_goto 22 dX11_key_17 (by decide) ?_
    exact E_ireturn dX11_key_22 rfl rfl
theorem c_X11_key (Γ : GT) (a1 : Int32) (s : St)  (x : Int32) (h : f_X11_key a1 s = some x) (l : Launch) : MC l yX11_key cX11_key 2 (some .int) 3 WC Γ [.ref (Γ.2.1 0), .int a1] s ((emI s) x) := MC_of (by decide +kernel) (Nat.le_of_ble_eq_true rfl) (e_X11_key Γ a1 s ) h l
set_option maxRecDepth 100000 in
set_option maxHeartbeats 4000000 in
theorem e_X11_set (Γ : GT) (a1 : Int32) (a2 : Int32) (s : St)  : E RX11 cX11_set 4 (some .int) 3 WC Γ emIS 0 [(0, .ref (Γ.2.1 0)), (1, .int a1), (2, .int a2)] [] s (f_X11_set a1 a2 s) := by
  unfold f_X11_set
  refine E_iload_n 1 dX11_set_0 rfl rfl ?_
  refine E_jn 33 (fun (y : Unit) => [(0, .ref (Γ.2.1 0)), (1, .int a1), (2, .int a2)]) (fun (y : Unit) => []) (fun (y : Unit) => s) ?_ ?_
  · intro y2
    refine E_iload_n 1 dX11_set_33 rfl rfl ?_
    refine E_iconst (v := 1) dX11_set_34 (by decide) ?_
    refine E_jn 66 (fun (y : Unit) => [(0, .ref (Γ.2.1 0)), (1, .int a1), (2, .int a2)]) (fun (y : Unit) => []) (fun (y : Unit) => s) ?_ ?_
    · intro y4
      refine E_iload_n 1 dX11_set_66 rfl rfl ?_
      refine E_iconst (v := 2) dX11_set_67 (by decide) ?_
      refine E_icmpne 100 dX11_set_68 (by decide) ?_ ?_
      · refine E_bipush (v := (-5)) dX11_set_100 (by decide) ?_
        exact E_ireturn dX11_set_102 rfl rfl
      · refine E_iload_n 2 dX11_set_71 rfl rfl ?_
        refine E_iconst (v := 0) dX11_set_72 (by decide) ?_
        refine E_sipush (v := 1000) dX11_set_73 (by decide) ?_
        refine E_callSZ [.int a2, .int 0, .int 1000] [] dX11_set_76 rfl kw_357 kw_358 kw_1 ko_X11_within hy_X11_within rfl (by decide) (Nat.le_of_ble_eq_true rfl) (c_X11_within Γ a2 0 1000 s) (fun v5 => ?_)
        refine E_ifeqb 100 dX11_set_79 (by decide) ?_ ?_
        · refine E_bipush (v := (-5)) dX11_set_100 (by decide) ?_
          exact E_ireturn dX11_set_102 rfl rfl
        · refine E_aload_n 0 dX11_set_82 rfl rfl ?_
          refine E_getR 6 (j := 5) (ci := 11) (T := TX11) (C0 := RX11) (ref := "SameWrong") dX11_set_83 rfl (by decide) rfl inX11 (by decide) kw_321 rfl rfl rfl ?_
          refine E_getI (j := 0) (ci := 6) (T := TX6) (C0 := RX6) (ref := "SameWrong$Pairs") dX11_set_86 rfl (by decide) rfl inX6 (by decide) kw_197 rfl rfl ?_
          refine E_istore_n [(3, .int (s.1 6 0)), (0, .ref (Γ.2.1 0)), (1, .int a1), (2, .int a2)] dX11_set_89 rfl (by decide) rfl ?_
          refine E_bv (fun v6 => [(3, .int v6), (0, .ref (Γ.2.1 0)), (1, .int a1), (2, .int a2)]) (fun v6 => ?_) (s.1 6 0)
          refine E_aload_n 1 dX11_set_90 rfl rfl ?_
          refine E_getR 6 (j := 5) (ci := 11) (T := TX11) (C0 := RX11) (ref := "SameWrong") dX11_set_91 rfl (by decide) rfl inX11 (by decide) kw_321 rfl rfl rfl ?_
          refine E_iload_n 3 dX11_set_94 rfl rfl ?_
          refine E_putI (j := 0) (ci := 6) (T := TX6) (C0 := RX6) (ref := "SameWrong$Pairs") dX11_set_95 rfl (by decide) rfl inX6 (by decide) kw_197 rfl tyX6_ok nmX6 rfl rfl ?_
          refine E_bd (fun s7 => ?_)
          refine E_iload_n 0 dX11_set_98 rfl rfl ?_
          exact E_ireturn dX11_set_99 rfl rfl
    · intro K3 hK3
      refine E_icmpne 66 dX11_set_35 (by decide) ?_ ?_
      · exact hK3 ()
      · refine E_iload_n 2 dX11_set_38 rfl rfl ?_
        refine E_iconst (v := 0) dX11_set_39 (by decide) ?_
        refine E_bipush (v := 100) dX11_set_40 (by decide) ?_
        refine E_callSZ [.int a2, .int 0, .int 100] [] dX11_set_42 rfl kw_357 kw_358 kw_1 ko_X11_within hy_X11_within rfl (by decide) (Nat.le_of_ble_eq_true rfl) (c_X11_within Γ a2 0 100 s) (fun v8 => ?_)
        refine E_ifeqb 66 dX11_set_45 (by decide) ?_ ?_
        · exact hK3 ()
        · refine E_aload_n 0 dX11_set_48 rfl rfl ?_
          refine E_getR 4 (j := 3) (ci := 11) (T := TX11) (C0 := RX11) (ref := "SameWrong") dX11_set_49 rfl (by decide) rfl inX11 (by decide) kw_319 rfl rfl rfl ?_
          refine E_getI (j := 0) (ci := 5) (T := TX5) (C0 := RX5) (ref := "SameWrong$Marks") dX11_set_52 rfl (by decide) rfl inX5 (by decide) kw_158 rfl rfl ?_
          refine E_istore_n [(3, .int (s.1 4 0)), (0, .ref (Γ.2.1 0)), (1, .int a1), (2, .int a2)] dX11_set_55 rfl (by decide) rfl ?_
          refine E_bv (fun v9 => [(3, .int v9), (0, .ref (Γ.2.1 0)), (1, .int a1), (2, .int a2)]) (fun v9 => ?_) (s.1 4 0)
          refine E_aload_n 1 dX11_set_56 rfl rfl ?_
          refine E_getR 4 (j := 3) (ci := 11) (T := TX11) (C0 := RX11) (ref := "SameWrong") dX11_set_57 rfl (by decide) rfl inX11 (by decide) kw_319 rfl rfl rfl ?_
          refine E_iload_n 3 dX11_set_60 rfl rfl ?_
          refine E_putI (j := 0) (ci := 5) (T := TX5) (C0 := RX5) (ref := "SameWrong$Marks") dX11_set_61 rfl (by decide) rfl inX5 (by decide) kw_158 rfl tyX5_ok nmX5 rfl rfl ?_
          refine E_bd (fun s10 => ?_)
          refine E_iload_n 0 dX11_set_64 rfl rfl ?_
          exact E_ireturn dX11_set_65 rfl rfl
  · intro K1 hK1
    refine E_ifne 33 dX11_set_1 (by decide) ?_ ?_
    · exact hK1 ()
    · refine E_iload_n 2 dX11_set_4 rfl rfl ?_
      refine E_iconst (v := 0) dX11_set_5 (by decide) ?_
      refine E_sipush (v := 999) dX11_set_6 (by decide) ?_
      refine E_callSZ [.int a2, .int 0, .int 999] [] dX11_set_9 rfl kw_357 kw_358 kw_1 ko_X11_within hy_X11_within rfl (by decide) (Nat.le_of_ble_eq_true rfl) (c_X11_within Γ a2 0 999 s) (fun v11 => ?_)
      refine E_ifeqb 33 dX11_set_12 (by decide) ?_ ?_
      · exact hK1 ()
      · refine E_aload_n 0 dX11_set_15 rfl rfl ?_
        refine E_getR 3 (j := 2) (ci := 11) (T := TX11) (C0 := RX11) (ref := "SameWrong") dX11_set_16 rfl (by decide) rfl inX11 (by decide) kw_318 rfl rfl rfl ?_
        refine E_getI (j := 2) (ci := 10) (T := TX10) (C0 := RX10) (ref := "SameWrong$Tellings") dX11_set_19 rfl (by decide) rfl inX10 (by decide) kw_99 rfl rfl ?_
        refine E_istore_n [(3, .int (s.1 3 2)), (0, .ref (Γ.2.1 0)), (1, .int a1), (2, .int a2)] dX11_set_22 rfl (by decide) rfl ?_
        refine E_bv (fun v12 => [(3, .int v12), (0, .ref (Γ.2.1 0)), (1, .int a1), (2, .int a2)]) (fun v12 => ?_) (s.1 3 2)
        refine E_aload_n 1 dX11_set_23 rfl rfl ?_
        refine E_getR 3 (j := 2) (ci := 11) (T := TX11) (C0 := RX11) (ref := "SameWrong") dX11_set_24 rfl (by decide) rfl inX11 (by decide) kw_318 rfl rfl rfl ?_
        refine E_iload_n 3 dX11_set_27 rfl rfl ?_
        refine E_callVV (T := TX10) (ci := 10) [.int a2] [] dX11_set_28 rfl kw_408 kw_409 kw_410 kw_4 ko_X10_lookAsOf rfl hy_X10_lookAsOf rfl (by decide) (Nat.le_of_ble_eq_true rfl) rfl (by decide) rfl (c_X10_lookAsOf Γ a2 s) (fun s13 => ?_)
        refine E_iload_n 0 dX11_set_31 rfl rfl ?_
        exact E_ireturn dX11_set_32 rfl rfl
theorem c_X11_set (Γ : GT) (a1 : Int32) (a2 : Int32) (s : St)  (x : (Int32 × St)) (h : f_X11_set a1 a2 s = some x) (l : Launch) : MC l yX11_set cX11_set 4 (some .int) 3 WC Γ [.ref (Γ.2.1 0), .int a1, .int a2] s (emIS x) := MC_of (by decide +kernel) (Nat.le_of_ble_eq_true rfl) (e_X11_set Γ a1 a2 s ) h l
set_option maxRecDepth 100000 in
set_option maxHeartbeats 4000000 in
theorem e_X11_pupil (Γ : GT) (a1 : Int32) (a2 : Int32) (s : St)  : E RX11 cX11_pupil 3 (some .int) 2 WC Γ emIS 0 [(0, .ref (Γ.2.1 0)), (1, .int a1), (2, .int a2)] [] s (f_X11_pupil a1 a2 s) := by
  unfold f_X11_pupil
  refine E_iload_n 1 dX11_pupil_0 rfl rfl ?_
  refine E_iconst (v := 0) dX11_pupil_1 (by decide) ?_
  refine E_iconst (v := 3) dX11_pupil_2 (by decide) ?_
  refine E_callSZ [.int a1, .int 0, .int 3] [] dX11_pupil_3 rfl kw_357 kw_358 kw_1 ko_X11_within hy_X11_within rfl (by decide) (Nat.le_of_ble_eq_true rfl) (c_X11_within Γ a1 0 3 s) (fun v1 => ?_)
  refine E_ifeqb 30 dX11_pupil_6 (by decide) ?_ ?_
  · refine E_bipush (v := (-2)) dX11_pupil_30 (by decide) ?_
    exact E_ireturn dX11_pupil_32 rfl rfl
  · refine E_iload_n 2 dX11_pupil_9 rfl rfl ?_
    refine E_iconst (v := 0) dX11_pupil_10 (by decide) ?_
    refine E_iconst (v := 4) dX11_pupil_11 (by decide) ?_
    refine E_callSZ [.int a2, .int 0, .int 4] [] dX11_pupil_12 rfl kw_357 kw_358 kw_1 ko_X11_within hy_X11_within rfl (by decide) (Nat.le_of_ble_eq_true rfl) (c_X11_within Γ a2 0 4 s) (fun v2 => ?_)
    refine E_ifeqb 30 dX11_pupil_15 (by decide) ?_ ?_
    · refine E_bipush (v := (-2)) dX11_pupil_30 (by decide) ?_
      exact E_ireturn dX11_pupil_32 rfl rfl
    · refine E_aload_n 0 dX11_pupil_18 rfl rfl ?_
      refine E_getR 2 (j := 1) (ci := 11) (T := TX11) (C0 := RX11) (ref := "SameWrong") dX11_pupil_19 rfl (by decide) rfl inX11 (by decide) kw_317 rfl rfl rfl ?_
      refine E_iload_n 1 dX11_pupil_22 rfl rfl ?_
      refine E_iload_n 2 dX11_pupil_23 rfl rfl ?_
      refine E_callVZ (T := TX7) (ci := 7) [.int a1, .int a2] [] dX11_pupil_24 rfl kw_423 kw_424 kw_425 kw_3 ko_X7_isTaken rfl hy_X7_isTaken rfl (by decide) (Nat.le_of_ble_eq_true rfl) rfl (by decide) rfl (c_X7_isTaken Γ a1 a2 s) (fun v3 => ?_)
      refine E_ifeqb 33 dX11_pupil_27 (by decide) ?_ ?_
      · refine E_aload_n 0 dX11_pupil_33 rfl rfl ?_
        refine E_getR 2 (j := 1) (ci := 11) (T := TX11) (C0 := RX11) (ref := "SameWrong") dX11_pupil_34 rfl (by decide) rfl inX11 (by decide) kw_317 rfl rfl rfl ?_
        refine E_getI (j := 0) (ci := 7) (T := TX7) (C0 := RX7) (ref := "SameWrong$Room") dX11_pupil_37 rfl (by decide) rfl inX7 (by decide) kw_76 rfl rfl ?_
        refine E_bipush (v := 10) dX11_pupil_40 (by decide) ?_
        refine E_icmplt 48 dX11_pupil_42 (by decide) ?_ ?_
        · refine E_aload_n 0 dX11_pupil_48 rfl rfl ?_
          refine E_getR 2 (j := 1) (ci := 11) (T := TX11) (C0 := RX11) (ref := "SameWrong") dX11_pupil_49 rfl (by decide) rfl inX11 (by decide) kw_317 rfl rfl rfl ?_
          refine E_iload_n 1 dX11_pupil_52 rfl rfl ?_
          refine E_iload_n 2 dX11_pupil_53 rfl rfl ?_
          refine E_callVV (T := TX7) (ci := 7) [.int a1, .int a2] [] dX11_pupil_54 rfl kw_427 kw_428 kw_429 kw_3 ko_X7_seat rfl hy_X7_seat rfl (by decide) (Nat.le_of_ble_eq_true rfl) rfl (by decide) rfl (c_X7_seat Γ a1 a2 s) (fun s4 => ?_)
          refine E_aload_n 0 dX11_pupil_57 rfl rfl ?_
          refine E_getR 2 (j := 1) (ci := 11) (T := TX11) (C0 := RX11) (ref := "SameWrong") dX11_pupil_58 rfl (by decide) rfl inX11 (by decide) kw_317 rfl rfl rfl ?_
          refine E_getI (j := 0) (ci := 7) (T := TX7) (C0 := RX7) (ref := "SameWrong$Room") dX11_pupil_61 rfl (by decide) rfl inX7 (by decide) kw_76 rfl rfl ?_
          refine E_iconst (v := 1) dX11_pupil_64 (by decide) ?_
          refine E_isub dX11_pupil_65 ?_
          exact E_ireturn dX11_pupil_66 rfl rfl
        · refine E_bipush (v := (-4)) dX11_pupil_45 (by decide) ?_
          exact E_ireturn dX11_pupil_47 rfl rfl
      · refine E_bipush (v := (-2)) dX11_pupil_30 (by decide) ?_
        exact E_ireturn dX11_pupil_32 rfl rfl
theorem c_X11_pupil (Γ : GT) (a1 : Int32) (a2 : Int32) (s : St)  (x : (Int32 × St)) (h : f_X11_pupil a1 a2 s = some x) (l : Launch) : MC l yX11_pupil cX11_pupil 3 (some .int) 2 WC Γ [.ref (Γ.2.1 0), .int a1, .int a2] s (emIS x) := MC_of (by decide +kernel) (Nat.le_of_ble_eq_true rfl) (e_X11_pupil Γ a1 a2 s ) h l
set_option maxRecDepth 100000 in
set_option maxHeartbeats 4000000 in
theorem e_X11_isPupil (Γ : GT) (a1 : Int32) (s : St)  : E RX11 cX11_isPupil 2 (some .boolean) 2 WC Γ (emZ s) 0 [(0, .ref (Γ.2.1 0)), (1, .int a1)] [] s (f_X11_isPupil a1 s) := by
  unfold f_X11_isPupil
  refine E_iload_n 1 dX11_isPupil_0 rfl rfl ?_
  refine E_iconst (v := 0) dX11_isPupil_1 (by decide) ?_
  refine E_aload_n 0 dX11_isPupil_2 rfl rfl ?_
  refine E_getR 2 (j := 1) (ci := 11) (T := TX11) (C0 := RX11) (ref := "SameWrong") dX11_isPupil_3 rfl (by decide) rfl inX11 (by decide) kw_317 rfl rfl rfl ?_
  refine E_getI (j := 0) (ci := 7) (T := TX7) (C0 := RX7) (ref := "SameWrong$Room") dX11_isPupil_6 rfl (by decide) rfl inX7 (by decide) kw_76 rfl rfl ?_
  refine E_iconst (v := 1) dX11_isPupil_9 (by decide) ?_
  refine E_isub dX11_isPupil_10 ?_
  refine E_callSZ [.int a1, .int 0, .int ((s.1 2 0) - 1)] [] dX11_isPupil_11 rfl kw_357 kw_358 kw_1 ko_X11_within hy_X11_within rfl (by decide) (Nat.le_of_ble_eq_true rfl) (c_X11_within Γ a1 0 ((s.1 2 0) - 1) s) (fun v1 => ?_)
  exact E_zreturn (b := v1) dX11_isPupil_14 rfl rfl
theorem c_X11_isPupil (Γ : GT) (a1 : Int32) (s : St)  (x : Bool) (h : f_X11_isPupil a1 s = some x) (l : Launch) : MC l yX11_isPupil cX11_isPupil 2 (some .boolean) 2 WC Γ [.ref (Γ.2.1 0), .int a1] s ((emZ s) x) := MC_of (by decide +kernel) (Nat.le_of_ble_eq_true rfl) (e_X11_isPupil Γ a1 s ) h l
set_option maxRecDepth 100000 in
set_option maxHeartbeats 4000000 in
theorem e_X11_isNextTime (Γ : GT) (a1 : Int32) (s : St)  : E RX11 cX11_isNextTime 2 (some .boolean) 2 WC Γ (emZ s) 0 [(0, .ref (Γ.2.1 0)), (1, .int a1)] [] s (f_X11_isNextTime a1 s) := by
  unfold f_X11_isNextTime
  refine E_iload_n 1 dX11_isNextTime_0 rfl rfl ?_
  refine E_aload_n 0 dX11_isNextTime_1 rfl rfl ?_
  refine E_getR 3 (j := 2) (ci := 11) (T := TX11) (C0 := RX11) (ref := "SameWrong") dX11_isNextTime_2 rfl (by decide) rfl inX11 (by decide) kw_318 rfl rfl rfl ?_
  refine E_callVI (T := TX10) (ci := 10) [] [.int a1] dX11_isNextTime_5 rfl kw_443 kw_444 kw_445 kw_4 ko_X10_latestTime rfl hy_X10_latestTime rfl (by decide) (Nat.le_of_ble_eq_true rfl) rfl (by decide) rfl (c_X10_latestTime Γ s) (fun v1 => ?_)
  refine E_sipush (v := 999) dX11_isNextTime_8 (by decide) ?_
  refine E_callSZ [.int a1, .int v1, .int 999] [] dX11_isNextTime_11 rfl kw_357 kw_358 kw_1 ko_X11_within hy_X11_within rfl (by decide) (Nat.le_of_ble_eq_true rfl) (c_X11_within Γ a1 v1 999 s) (fun v2 => ?_)
  exact E_zreturn (b := v2) dX11_isNextTime_14 rfl rfl
theorem c_X11_isNextTime (Γ : GT) (a1 : Int32) (s : St)  (x : Bool) (h : f_X11_isNextTime a1 s = some x) (l : Launch) : MC l yX11_isNextTime cX11_isNextTime 2 (some .boolean) 2 WC Γ [.ref (Γ.2.1 0), .int a1] s ((emZ s) x) := MC_of (by decide +kernel) (Nat.le_of_ble_eq_true rfl) (e_X11_isNextTime Γ a1 s ) h l
set_option maxRecDepth 100000 in
set_option maxHeartbeats 4000000 in
theorem e_X11_answer (Γ : GT) (a1 : Int32) (a2 : Int32) (a3 : Int32) (a4 : Int32) (s : St)  : E RX11 cX11_answer 5 (some .int) 3 WC Γ emIS 0 [(0, .ref (Γ.2.1 0)), (1, .int a1), (2, .int a2), (3, .int a3), (4, .int a4)] [] s (f_X11_answer a1 a2 a3 a4 s) := by
  unfold f_X11_answer
  refine E_aload_n 0 dX11_answer_0 rfl rfl ?_
  refine E_iload_n 1 dX11_answer_1 rfl rfl ?_
  refine E_callVZ (T := TX11) (ci := 11) [.int a1] [] dX11_answer_2 rfl kw_435 kw_437 kp_4 kw_1 ko_X11_isPupil rfl hy_X11_isPupil rfl (by decide) (Nat.le_of_ble_eq_true rfl) rfl (by decide) rfl (c_X11_isPupil Γ a1 s) (fun v1 => ?_)
  refine E_ifeqb 34 dX11_answer_5 (by decide) ?_ ?_
  · refine E_bipush (v := (-2)) dX11_answer_34 (by decide) ?_
    exact E_ireturn dX11_answer_36 rfl rfl
  · refine E_aload_n 0 dX11_answer_8 rfl rfl ?_
    refine E_iload_n 2 dX11_answer_9 rfl rfl ?_
    refine E_callVZ (T := TX11) (ci := 11) [.int a2] [] dX11_answer_10 rfl kw_400 kw_402 kp_2 kw_1 ko_X11_isQuestion rfl hy_X11_isQuestion rfl (by decide) (Nat.le_of_ble_eq_true rfl) rfl (by decide) rfl (c_X11_isQuestion Γ a2 s) (fun v2 => ?_)
    refine E_ifeqb 34 dX11_answer_13 (by decide) ?_ ?_
    · refine E_bipush (v := (-2)) dX11_answer_34 (by decide) ?_
      exact E_ireturn dX11_answer_36 rfl rfl
    · refine E_iload_n 3 dX11_answer_16 rfl rfl ?_
      refine E_iconst (v := 0) dX11_answer_17 (by decide) ?_
      refine E_iconst (v := 5) dX11_answer_18 (by decide) ?_
      refine E_callSZ [.int a3, .int 0, .int 5] [] dX11_answer_19 rfl kw_357 kw_358 kw_1 ko_X11_within hy_X11_within rfl (by decide) (Nat.le_of_ble_eq_true rfl) (c_X11_within Γ a3 0 5 s) (fun v3 => ?_)
      refine E_ifeqb 34 dX11_answer_22 (by decide) ?_ ?_
      · refine E_bipush (v := (-2)) dX11_answer_34 (by decide) ?_
        exact E_ireturn dX11_answer_36 rfl rfl
      · refine E_aload_n 0 dX11_answer_25 rfl rfl ?_
        refine E_iload 4 dX11_answer_26 rfl ?_
        refine E_callVZ (T := TX11) (ci := 11) [.int a4] [] dX11_answer_28 rfl kw_439 kw_441 kp_5 kw_1 ko_X11_isNextTime rfl hy_X11_isNextTime rfl (by decide) (Nat.le_of_ble_eq_true rfl) rfl (by decide) rfl (c_X11_isNextTime Γ a4 s) (fun v4 => ?_)
        refine E_ifneb 37 dX11_answer_31 (by decide) ?_ ?_
        · refine E_aload_n 0 dX11_answer_37 rfl rfl ?_
          refine E_getR 3 (j := 2) (ci := 11) (T := TX11) (C0 := RX11) (ref := "SameWrong") dX11_answer_38 rfl (by decide) rfl inX11 (by decide) kw_318 rfl rfl rfl ?_
          refine E_getI (j := 0) (ci := 10) (T := TX10) (C0 := RX10) (ref := "SameWrong$Tellings") dX11_answer_41 rfl (by decide) rfl inX10 (by decide) kw_95 rfl rfl ?_
          refine E_sipush (v := 150) dX11_answer_44 (by decide) ?_
          refine E_icmplt 53 dX11_answer_47 (by decide) ?_ ?_
          · refine E_aload_n 0 dX11_answer_53 rfl rfl ?_
            refine E_getR 3 (j := 2) (ci := 11) (T := TX11) (C0 := RX11) (ref := "SameWrong") dX11_answer_54 rfl (by decide) rfl inX11 (by decide) kw_318 rfl rfl rfl ?_
            refine E_iload_n 1 dX11_answer_57 rfl rfl ?_
            refine E_iload_n 2 dX11_answer_58 rfl rfl ?_
            refine E_iload_n 3 dX11_answer_59 rfl rfl ?_
            refine E_iload 4 dX11_answer_60 rfl ?_
            refine E_callVV (T := TX10) (ci := 10) [.int a1, .int a2, .int a3, .int a4] [] dX11_answer_62 rfl kw_447 kw_448 kw_449 kw_4 ko_X10_tell rfl hy_X10_tell rfl (by decide) (Nat.le_of_ble_eq_true rfl) rfl (by decide) rfl (c_X10_tell Γ a1 a2 a3 a4 s) (fun s5 => ?_)
            refine E_aload_n 0 dX11_answer_65 rfl rfl ?_
            refine E_getR 3 (j := 2) (ci := 11) (T := TX11) (C0 := RX11) (ref := "SameWrong") dX11_answer_66 rfl (by decide) rfl inX11 (by decide) kw_318 rfl rfl rfl ?_
            refine E_getI (j := 0) (ci := 10) (T := TX10) (C0 := RX10) (ref := "SameWrong$Tellings") dX11_answer_69 rfl (by decide) rfl inX10 (by decide) kw_95 rfl rfl ?_
            exact E_ireturn dX11_answer_72 rfl rfl
          · refine E_bipush (v := (-4)) dX11_answer_50 (by decide) ?_
            exact E_ireturn dX11_answer_52 rfl rfl
        · refine E_bipush (v := (-2)) dX11_answer_34 (by decide) ?_
          exact E_ireturn dX11_answer_36 rfl rfl
theorem c_X11_answer (Γ : GT) (a1 : Int32) (a2 : Int32) (a3 : Int32) (a4 : Int32) (s : St)  (x : (Int32 × St)) (h : f_X11_answer a1 a2 a3 a4 s = some x) (l : Launch) : MC l yX11_answer cX11_answer 5 (some .int) 3 WC Γ [.ref (Γ.2.1 0), .int a1, .int a2, .int a3, .int a4] s (emIS x) := MC_of (by decide +kernel) (Nat.le_of_ble_eq_true rfl) (e_X11_answer Γ a1 a2 a3 a4 s ) h l
set_option maxRecDepth 100000 in
set_option maxHeartbeats 4000000 in
theorem e_X11_isSheet (Γ : GT) (a0 : Int32) (s : St)  : E RX11 cX11_isSheet 1 (some .boolean) 2 WC Γ (emZ s) 0 [(0, .int a0)] [] s (f_X11_isSheet a0 s) := by
  unfold f_X11_isSheet
  refine E_iload_n 0 dX11_isSheet_0 rfl rfl ?_
  refine E_iconst (v := 0) dX11_isSheet_1 (by decide) ?_
  refine E_iconst (v := 3) dX11_isSheet_2 (by decide) ?_
  refine E_callSZ [.int a0, .int 0, .int 3] [] dX11_isSheet_3 rfl kw_357 kw_358 kw_1 ko_X11_within hy_X11_within rfl (by decide) (Nat.le_of_ble_eq_true rfl) (c_X11_within Γ a0 0 3 s) (fun v1 => ?_)
  exact E_zreturn (b := v1) dX11_isSheet_6 rfl rfl
theorem c_X11_isSheet (Γ : GT) (a0 : Int32) (s : St)  (x : Bool) (h : f_X11_isSheet a0 s = some x) (l : Launch) : MC l yX11_isSheet cX11_isSheet 1 (some .boolean) 2 WC Γ [.int a0] s ((emZ s) x) := MC_of (by decide +kernel) (Nat.le_of_ble_eq_true rfl) (e_X11_isSheet Γ a0 s ) h l
set_option maxRecDepth 100000 in
set_option maxHeartbeats 4000000 in
theorem e_X11_find (Γ : GT) (a1 : Int32) (s : St)  : E RX11 cX11_find 2 (some .int) 1 WC Γ emIS 0 [(0, .ref (Γ.2.1 0)), (1, .int a1)] [] s (f_X11_find a1 s) := by
  unfold f_X11_find
  refine E_aload_n 0 dX11_find_0 rfl rfl ?_
  refine E_iload_n 1 dX11_find_1 rfl rfl ?_
  refine E_putI (j := 11) (ci := 11) (T := TX11) (C0 := RX11) (ref := "SameWrong") dX11_find_2 rfl (by decide) rfl inX11 (by decide) kw_327 rfl tyX11_ok nmX11 rfl rfl ?_
  refine E_bd (fun s1 => ?_)
  refine E_bipush (v := (-10)) dX11_find_5 (by decide) ?_
  refine E_iload_n 1 dX11_find_7 rfl rfl ?_
  refine E_isub dX11_find_8 ?_
  exact E_ireturn dX11_find_9 rfl rfl
theorem c_X11_find (Γ : GT) (a1 : Int32) (s : St)  (x : (Int32 × St)) (h : f_X11_find a1 s = some x) (l : Launch) : MC l yX11_find cX11_find 2 (some .int) 1 WC Γ [.ref (Γ.2.1 0), .int a1] s (emIS x) := MC_of (by decide +kernel) (Nat.le_of_ble_eq_true rfl) (e_X11_find Γ a1 s ) h l
set_option maxRecDepth 100000 in
set_option maxHeartbeats 4000000 in
theorem e_X11_read (Γ : GT) (a1 : Int32) (a2 : Int32) (a3 : Int32) (s : St)  : E RX11 cX11_read 6 (some .int) 4 WC Γ emIS 0 [(0, .ref (Γ.2.1 0)), (1, .int a1), (2, .int a2), (3, .int a3)] [] s (f_X11_read a1 a2 a3 s) := by
  unfold f_X11_read
  refine E_iload_n 1 dX11_read_0 rfl rfl ?_
  refine E_callSZ [.int a1] [] dX11_read_1 rfl kw_455 kw_456 kw_1 ko_X11_isSheet hy_X11_isSheet rfl (by decide) (Nat.le_of_ble_eq_true rfl) (c_X11_isSheet Γ a1 s) (fun v1 => ?_)
  refine E_ifeqb 23 dX11_read_4 (by decide) ?_ ?_
  · refine E_bipush (v := (-2)) dX11_read_23 (by decide) ?_
    exact E_ireturn dX11_read_25 rfl rfl
  · refine E_aload_n 0 dX11_read_7 rfl rfl ?_
    refine E_iload_n 2 dX11_read_8 rfl rfl ?_
    refine E_callVZ (T := TX11) (ci := 11) [.int a2] [] dX11_read_9 rfl kw_435 kw_437 kp_4 kw_1 ko_X11_isPupil rfl hy_X11_isPupil rfl (by decide) (Nat.le_of_ble_eq_true rfl) rfl (by decide) rfl (c_X11_isPupil Γ a2 s) (fun v2 => ?_)
    refine E_ifeqb 23 dX11_read_12 (by decide) ?_ ?_
    · refine E_bipush (v := (-2)) dX11_read_23 (by decide) ?_
      exact E_ireturn dX11_read_25 rfl rfl
    · refine E_aload_n 0 dX11_read_15 rfl rfl ?_
      refine E_iload_n 3 dX11_read_16 rfl rfl ?_
      refine E_callVZ (T := TX11) (ci := 11) [.int a3] [] dX11_read_17 rfl kw_439 kw_441 kp_5 kw_1 ko_X11_isNextTime rfl hy_X11_isNextTime rfl (by decide) (Nat.le_of_ble_eq_true rfl) rfl (by decide) rfl (c_X11_isNextTime Γ a3 s) (fun v3 => ?_)
      refine E_ifneb 26 dX11_read_20 (by decide) ?_ ?_
      · refine E_aload_n 0 dX11_read_26 rfl rfl ?_
        refine E_getR 31 (j := 10) (ci := 11) (T := TX11) (C0 := RX11) (ref := "SameWrong") dX11_read_27 rfl (by decide) rfl inX11 (by decide) kw_326 rfl rfl rfl ?_
        refine E_iload_n 1 dX11_read_30 rfl rfl ?_
        refine E_aaload (t := 0) dX11_read_31 (by decide) rfl (by decide) ?_
        refine E_astore [(4, .ref (Γ.2.1 (WC.2.2 31 a1.toNatClampNeg))), (0, .ref (Γ.2.1 0)), (1, .int a1), (2, .int a2), (3, .int a3)] dX11_read_32 (by decide) rfl ?_
        refine E_aload 0 dX11_read_34 rfl ?_
        refine E_getZ (j := 0) (ci := 9) (T := TX9) (C0 := RX9) (ref := "SameWrong$Sheet") dX11_read_36 (sh_sheets _) (lt_sheets _) rfl inX9 (by decide) kw_300 rfl rfl ?_
        refine E_ifeq 48 dX11_read_39 (by decide) ?_ ?_
        · refine E_iconst (v := 0) dX11_read_48 (by decide) ?_
          refine E_istore [(5, .int 0), (4, .ref (Γ.2.1 (WC.2.2 31 a1.toNatClampNeg))), (0, .ref (Γ.2.1 0)), (1, .int a1), (2, .int a2), (3, .int a3)] dX11_read_49 (by decide) rfl ?_
          refine E_lvsub [0, 1, 2, 4, 5] [(5, .int 0), (4, .ref (Γ.2.1 (WC.2.2 31 a1.toNatClampNeg))), (0, .ref (Γ.2.1 0)), (2, .int a2), (3, .int a3)] rfl ?_
          refine E_lp (F := L_X11_read_51 a1 a2 a3) (fun (x : Int32 × St) => [(5, .int x.1), (4, .ref (Γ.2.1 (WC.2.2 31 a1.toNatClampNeg))), (0, .ref (Γ.2.1 0)), (2, .int a2), (3, .int a3)]) (fun (x : Int32 × St) => x.2) ?_ NN (0, s)
          intro r4 hr4 x5
          show E _ _ _ _ _ _ _ _ _ _ _ _ (L_X11_read_51 a1 a2 a3 r4 x5)
          unfold L_X11_read_51
          refine E_iload 0 dX11_read_51 rfl ?_
          refine E_aload 1 dX11_read_53 rfl ?_
          refine E_getI (j := 2) (ci := 9) (T := TX9) (C0 := RX9) (ref := "SameWrong$Sheet") dX11_read_55 (sh_sheets _) (lt_sheets _) rfl inX9 (by decide) kw_304 rfl rfl ?_
          refine E_icmpge 86 dX11_read_58 (by decide) ?_ ?_
          · refine E_iload 0 dX11_read_86 rfl ?_
            exact E_ireturn dX11_read_88 rfl rfl
          · refine E_aload_n 2 dX11_read_61 rfl rfl ?_
            refine E_iload_n 3 dX11_read_62 rfl rfl ?_
            refine E_iload 0 dX11_read_63 rfl ?_
            refine E_aload 1 dX11_read_65 rfl ?_
            refine E_getR (WC.2.2 (WC.2.2 31 a1.toNatClampNeg) 3) (j := 3) (ci := 9) (T := TX9) (C0 := RX9) (ref := "SameWrong$Sheet") dX11_read_67 (sh_sheets _) (lt_sheets _) rfl inX9 (by decide) kw_306 rfl rfl rfl ?_
            refine E_iload 0 dX11_read_70 rfl ?_
            refine E_iaload dX11_read_72 (sh_srow _ (sh_sheets _)).1 (sh_srow _ (sh_sheets _)).2 ?_
            refine E_iload_n 4 dX11_read_73 rfl rfl ?_
            refine E_callVIS (T := TX11) (ci := 11) [.int a2, .int x5.1, .int (x5.2.1 (WC.2.2 (WC.2.2 31 a1.toNatClampNeg) 3) x5.1.toNatClampNeg), .int a3] [] dX11_read_74 rfl kw_462 kw_432 kw_433 kw_1 ko_X11_answer rfl hy_X11_answer rfl (by decide) (Nat.le_of_ble_eq_true rfl) rfl (by decide) rfl (c_X11_answer Γ a2 x5.1 (x5.2.1 (WC.2.2 (WC.2.2 31 a1.toNatClampNeg) 3) x5.1.toNatClampNeg) a3 x5.2) (fun p6 => ?_)
            refine E_iflt 86 dX11_read_77 (by decide) ?_ ?_
            · refine E_iload 0 dX11_read_86 rfl ?_
              exact E_ireturn dX11_read_88 rfl rfl
            · refine E_iinc 0 [(5, .int (x5.1 + 1)), (4, .ref (Γ.2.1 (WC.2.2 31 a1.toNatClampNeg))), (0, .ref (Γ.2.1 0)), (2, .int a2), (3, .int a3)] dX11_read_80 rfl rfl (by decide) rfl ?_
              refine E_goto 51 dX11_read_83 (by decide) ?_
              exact hr4 (x5.1 + 1, p6.2)
        · refine E_aload_n 1 dX11_read_42 rfl rfl ?_
          refine E_iconst (v := 1) dX11_read_43 (by decide) ?_
          refine E_callVIS (T := TX11) (ci := 11) [.int 1] [] dX11_read_44 rfl kw_458 kw_460 kp_6 kw_1 ko_X11_find rfl hy_X11_find rfl (by decide) (Nat.le_of_ble_eq_true rfl) rfl (by decide) rfl (c_X11_find Γ 1 s) (fun p7 => ?_)
          exact E_ireturn dX11_read_47 rfl rfl
      · refine E_bipush (v := (-2)) dX11_read_23 (by decide) ?_
        exact E_ireturn dX11_read_25 rfl rfl
theorem c_X11_read (Γ : GT) (a1 : Int32) (a2 : Int32) (a3 : Int32) (s : St)  (x : (Int32 × St)) (h : f_X11_read a1 a2 a3 s = some x) (l : Launch) : MC l yX11_read cX11_read 6 (some .int) 4 WC Γ [.ref (Γ.2.1 0), .int a1, .int a2, .int a3] s (emIS x) := MC_of (by decide +kernel) (Nat.le_of_ble_eq_true rfl) (e_X11_read Γ a1 a2 a3 s ) h l
set_option maxRecDepth 100000 in
set_option maxHeartbeats 4000000 in
theorem e_X11_said (Γ : GT) (a1 : Int32) (a2 : Int32) (s : St)  : E RX11 cX11_said 3 (some .int) 3 WC Γ (emI s) 0 [(0, .ref (Γ.2.1 0)), (1, .int a1), (2, .int a2)] [] s (f_X11_said a1 a2 s) := by
  unfold f_X11_said
  refine E_aload_n 0 dX11_said_0 rfl rfl ?_
  refine E_iload_n 1 dX11_said_1 rfl rfl ?_
  refine E_callVZ (T := TX11) (ci := 11) [.int a1] [] dX11_said_2 rfl kw_435 kw_437 kp_4 kw_1 ko_X11_isPupil rfl hy_X11_isPupil rfl (by decide) (Nat.le_of_ble_eq_true rfl) rfl (by decide) rfl (c_X11_isPupil Γ a1 s) (fun v1 => ?_)
  refine E_ifeqb 30 dX11_said_5 (by decide) ?_ ?_
  · refine E_bipush (v := (-2)) dX11_said_30 (by decide) ?_
    exact E_ireturn dX11_said_32 rfl rfl
  · refine E_aload_n 0 dX11_said_8 rfl rfl ?_
    refine E_iload_n 2 dX11_said_9 rfl rfl ?_
    refine E_callVZ (T := TX11) (ci := 11) [.int a2] [] dX11_said_10 rfl kw_400 kw_402 kp_2 kw_1 ko_X11_isQuestion rfl hy_X11_isQuestion rfl (by decide) (Nat.le_of_ble_eq_true rfl) rfl (by decide) rfl (c_X11_isQuestion Γ a2 s) (fun v2 => ?_)
    refine E_ifeqb 30 dX11_said_13 (by decide) ?_ ?_
    · refine E_bipush (v := (-2)) dX11_said_30 (by decide) ?_
      exact E_ireturn dX11_said_32 rfl rfl
    · refine E_aload_n 0 dX11_said_16 rfl rfl ?_
      refine E_getR 3 (j := 2) (ci := 11) (T := TX11) (C0 := RX11) (ref := "SameWrong") dX11_said_17 rfl (by decide) rfl inX11 (by decide) kw_318 rfl rfl rfl ?_
      refine E_getR 32 (j := 3) (ci := 10) (T := TX10) (C0 := RX10) (ref := "SameWrong$Tellings") dX11_said_20 rfl (by decide) rfl inX10 (by decide) kw_104 rfl rfl rfl ?_
      refine E_iload_n 1 dX11_said_23 rfl rfl ?_
      refine E_aaload (t := 1) dX11_said_24 (by decide) rfl (by decide) ?_
      refine E_iload_n 2 dX11_said_25 rfl rfl ?_
      refine E_iaload dX11_said_26 (sh_cur _) (lt_cur _) ?_
      refine E_goto 32 dX11_said_27 (by decide) ?_
      exact E_ireturn dX11_said_32 rfl rfl
theorem c_X11_said (Γ : GT) (a1 : Int32) (a2 : Int32) (s : St)  (x : Int32) (h : f_X11_said a1 a2 s = some x) (l : Launch) : MC l yX11_said cX11_said 3 (some .int) 3 WC Γ [.ref (Γ.2.1 0), .int a1, .int a2] s ((emI s) x) := MC_of (by decide +kernel) (Nat.le_of_ble_eq_true rfl) (e_X11_said Γ a1 a2 s ) h l
set_option maxRecDepth 100000 in
set_option maxHeartbeats 4000000 in
theorem e_X11_isPair (Γ : GT) (a1 : Int32) (a2 : Int32) (s : St)  : E RX11 cX11_isPair 3 (some .boolean) 3 WC Γ (emZ s) 0 [(0, .ref (Γ.2.1 0)), (1, .int a1), (2, .int a2)] [] s (f_X11_isPair a1 a2 s) := by
  unfold f_X11_isPair
  refine E_aload_n 0 dX11_isPair_0 rfl rfl ?_
  refine E_iload_n 1 dX11_isPair_1 rfl rfl ?_
  refine E_callVZ (T := TX11) (ci := 11) [.int a1] [] dX11_isPair_2 rfl kw_435 kw_437 kp_4 kw_1 ko_X11_isPupil rfl hy_X11_isPupil rfl (by decide) (Nat.le_of_ble_eq_true rfl) rfl (by decide) rfl (c_X11_isPupil Γ a1 s) (fun v1 => ?_)
  refine E_ifeqb 25 dX11_isPair_5 (by decide) ?_ ?_
  · refine E_iconst (v := 0) dX11_isPair_25 (by decide) ?_
    exact E_zreturn (b := false) dX11_isPair_26 rfl rfl
  · refine E_aload_n 0 dX11_isPair_8 rfl rfl ?_
    refine E_iload_n 2 dX11_isPair_9 rfl rfl ?_
    refine E_callVZ (T := TX11) (ci := 11) [.int a2] [] dX11_isPair_10 rfl kw_435 kw_437 kp_4 kw_1 ko_X11_isPupil rfl hy_X11_isPupil rfl (by decide) (Nat.le_of_ble_eq_true rfl) rfl (by decide) rfl (c_X11_isPupil Γ a2 s) (fun v2 => ?_)
    refine E_ifeqb 25 dX11_isPair_13 (by decide) ?_ ?_
    · refine E_iconst (v := 0) dX11_isPair_25 (by decide) ?_
      exact E_zreturn (b := false) dX11_isPair_26 rfl rfl
    · refine E_iload_n 1 dX11_isPair_16 rfl rfl ?_
      refine E_iload_n 2 dX11_isPair_17 rfl rfl ?_
      refine E_icmpeq 25 dX11_isPair_18 (by decide) ?_ ?_
      · refine E_iconst (v := 0) dX11_isPair_25 (by decide) ?_
        exact E_zreturn (b := false) dX11_isPair_26 rfl rfl
      · refine E_iconst (v := 1) dX11_isPair_21 (by decide) ?_
        refine E_goto 26 dX11_isPair_22 (by decide) ?_
        exact E_zreturn (b := true) dX11_isPair_26 rfl rfl
theorem c_X11_isPair (Γ : GT) (a1 : Int32) (a2 : Int32) (s : St)  (x : Bool) (h : f_X11_isPair a1 a2 s = some x) (l : Launch) : MC l yX11_isPair cX11_isPair 3 (some .boolean) 3 WC Γ [.ref (Γ.2.1 0), .int a1, .int a2] s ((emZ s) x) := MC_of (by decide +kernel) (Nat.le_of_ble_eq_true rfl) (e_X11_isPair Γ a1 a2 s ) h l
set_option maxRecDepth 100000 in
set_option maxHeartbeats 4000000 in
theorem e_X11_beside (Γ : GT) (a1 : Int32) (a2 : Int32) (s : St)  : E RX11 cX11_beside 3 (some .int) 4 WC Γ (emI s) 0 [(0, .ref (Γ.2.1 0)), (1, .int a1), (2, .int a2)] [] s (f_X11_beside a1 a2 s) := by
  unfold f_X11_beside
  refine E_aload_n 0 dX11_beside_0 rfl rfl ?_
  refine E_iload_n 1 dX11_beside_1 rfl rfl ?_
  refine E_iload_n 2 dX11_beside_2 rfl rfl ?_
  refine E_callVZ (T := TX11) (ci := 11) [.int a1, .int a2] [] dX11_beside_3 rfl kw_471 kw_473 kp_7 kw_1 ko_X11_isPair rfl hy_X11_isPair rfl (by decide) (Nat.le_of_ble_eq_true rfl) rfl (by decide) rfl (c_X11_isPair Γ a1 a2 s) (fun v1 => ?_)
  refine E_ifneb 12 dX11_beside_6 (by decide) ?_ ?_
  · refine E_aload_n 0 dX11_beside_12 rfl rfl ?_
    refine E_getR 2 (j := 1) (ci := 11) (T := TX11) (C0 := RX11) (ref := "SameWrong") dX11_beside_13 rfl (by decide) rfl inX11 (by decide) kw_317 rfl rfl rfl ?_
    refine E_iload_n 1 dX11_beside_16 rfl rfl ?_
    refine E_iload_n 2 dX11_beside_17 rfl rfl ?_
    refine E_callVZ (T := TX7) (ci := 7) [.int a1, .int a2] [] dX11_beside_18 rfl kw_475 kw_476 kw_477 kw_3 ko_X7_areNear rfl hy_X7_areNear rfl (by decide) (Nat.le_of_ble_eq_true rfl) rfl (by decide) rfl (c_X7_areNear Γ a1 a2 s) (fun v2 => ?_)
    refine E_ifeqb 28 dX11_beside_21 (by decide) ?_ ?_
    · refine E_iconst (v := 0) dX11_beside_28 (by decide) ?_
      exact E_ireturn dX11_beside_29 rfl rfl
    · refine E_iconst (v := 1) dX11_beside_24 (by decide) ?_
      refine E_goto 29 dX11_beside_25 (by decide) ?_
      exact E_ireturn dX11_beside_29 rfl rfl
  · refine E_bipush (v := (-2)) dX11_beside_9 (by decide) ?_
    exact E_ireturn dX11_beside_11 rfl rfl
theorem c_X11_beside (Γ : GT) (a1 : Int32) (a2 : Int32) (s : St)  (x : Int32) (h : f_X11_beside a1 a2 s = some x) (l : Launch) : MC l yX11_beside cX11_beside 3 (some .int) 4 WC Γ [.ref (Γ.2.1 0), .int a1, .int a2] s ((emI s) x) := MC_of (by decide +kernel) (Nat.le_of_ble_eq_true rfl) (e_X11_beside Γ a1 a2 s ) h l
set_option maxRecDepth 100000 in
set_option maxHeartbeats 4000000 in
theorem e_X11_mark (Γ : GT) (a1 : Int32) (a2 : Int32) (s : St)  : E RX11 cX11_mark 3 (some .int) 5 WC Γ emIS 0 [(0, .ref (Γ.2.1 0)), (1, .int a1), (2, .int a2)] [] s (f_X11_mark a1 a2 s) := by
  unfold f_X11_mark
  refine E_aload_n 0 dX11_mark_0 rfl rfl ?_
  refine E_iload_n 1 dX11_mark_1 rfl rfl ?_
  refine E_callVZ (T := TX11) (ci := 11) [.int a1] [] dX11_mark_2 rfl kw_435 kw_437 kp_4 kw_1 ko_X11_isPupil rfl hy_X11_isPupil rfl (by decide) (Nat.le_of_ble_eq_true rfl) rfl (by decide) rfl (c_X11_isPupil Γ a1 s) (fun v1 => ?_)
  refine E_ifneb 11 dX11_mark_5 (by decide) ?_ ?_
  · refine E_iload_n 2 dX11_mark_11 rfl rfl ?_
    refine E_case 0 (fun hc0 => ?_) (fun hc0 => ?_)
    · refine E_tswIn (k := 0) 44 dX11_mark_12 hc0 (by decide) (by decide) rfl (by decide) ?_
      refine E_aload_n 0 dX11_mark_44 rfl rfl ?_
      refine E_getR 4 (j := 3) (ci := 11) (T := TX11) (C0 := RX11) (ref := "SameWrong") dX11_mark_45 rfl (by decide) rfl inX11 (by decide) kw_319 rfl rfl rfl ?_
      refine E_iload_n 1 dX11_mark_48 rfl rfl ?_
      refine E_callVI (T := TX5) (ci := 5) [.int a1] [] dX11_mark_49 rfl kw_486 kw_487 kw_488 kw_6 ko_X5_markOf rfl hy_X5_markOf rfl (by decide) (Nat.le_of_ble_eq_true rfl) rfl (by decide) rfl (c_X5_markOf Γ a1 s) (fun v2 => ?_)
      exact E_ireturn dX11_mark_52 rfl rfl
    refine E_case 1 (fun hc1 => ?_) (fun hc1 => ?_)
    · refine E_tswIn (k := 1) 53 dX11_mark_12 hc1 (by decide) (by decide) rfl (by decide) ?_
      refine E_aload_n 0 dX11_mark_53 rfl rfl ?_
      refine E_getR 4 (j := 3) (ci := 11) (T := TX11) (C0 := RX11) (ref := "SameWrong") dX11_mark_54 rfl (by decide) rfl inX11 (by decide) kw_319 rfl rfl rfl ?_
      refine E_iload_n 1 dX11_mark_57 rfl rfl ?_
      refine E_callVIS (T := TX5) (ci := 5) [.int a1] [] dX11_mark_58 rfl kw_498 kw_499 kw_500 kw_6 ko_X5_rankOf rfl hy_X5_rankOf rfl (by decide) (Nat.le_of_ble_eq_true rfl) rfl (by decide) rfl (c_X5_rankOf Γ a1 s) (fun p3 => ?_)
      exact E_ireturn dX11_mark_61 rfl rfl
    refine E_case 2 (fun hc2 => ?_) (fun hc2 => ?_)
    · refine E_tswIn (k := 2) 62 dX11_mark_12 hc2 (by decide) (by decide) rfl (by decide) ?_
      refine E_aload_n 0 dX11_mark_62 rfl rfl ?_
      refine E_getR 4 (j := 3) (ci := 11) (T := TX11) (C0 := RX11) (ref := "SameWrong") dX11_mark_63 rfl (by decide) rfl inX11 (by decide) kw_319 rfl rfl rfl ?_
      refine E_aload_n 0 dX11_mark_66 rfl rfl ?_
      refine E_getR 4 (j := 3) (ci := 11) (T := TX11) (C0 := RX11) (ref := "SameWrong") dX11_mark_67 rfl (by decide) rfl inX11 (by decide) kw_319 rfl rfl rfl ?_
      refine E_iload_n 1 dX11_mark_70 rfl rfl ?_
      refine E_callVI (T := TX5) (ci := 5) [.int a1] [.ref (Γ.2.1 4)] dX11_mark_71 rfl kw_486 kw_487 kw_488 kw_6 ko_X5_markOf rfl hy_X5_markOf rfl (by decide) (Nat.le_of_ble_eq_true rfl) rfl (by decide) rfl (c_X5_markOf Γ a1 s) (fun v4 => ?_)
      refine E_aload_n 0 dX11_mark_74 rfl rfl ?_
      refine E_getR 1 (j := 0) (ci := 11) (T := TX11) (C0 := RX11) (ref := "SameWrong") dX11_mark_75 rfl (by decide) rfl inX11 (by decide) kw_316 rfl rfl rfl ?_
      refine E_getI (j := 4) (ci := 4) (T := TX4) (C0 := RX4) (ref := "SameWrong$Key") dX11_mark_78 rfl (by decide) rfl inX4 (by decide) kw_48 rfl rfl ?_
      refine E_callVZ (T := TX5) (ci := 5) [.int v4, .int (s.1 1 4)] [] dX11_mark_81 rfl kw_510 kw_511 kw_512 kw_6 ko_X5_passes rfl hy_X5_passes rfl (by decide) (Nat.le_of_ble_eq_true rfl) rfl (by decide) rfl (c_X5_passes Γ v4 (s.1 1 4) s) (fun v5 => ?_)
      refine E_ifeqb 91 dX11_mark_84 (by decide) ?_ ?_
      · refine E_iconst (v := 0) dX11_mark_91 (by decide) ?_
        exact E_ireturn dX11_mark_92 rfl rfl
      · refine E_iconst (v := 1) dX11_mark_87 (by decide) ?_
        refine E_goto 92 dX11_mark_88 (by decide) ?_
        exact E_ireturn dX11_mark_92 rfl rfl
    refine E_case 3 (fun hc3 => ?_) (fun hc3 => ?_)
    · refine E_tswIn (k := 3) 93 dX11_mark_12 hc3 (by decide) (by decide) rfl (by decide) ?_
      refine E_aload_n 0 dX11_mark_93 rfl rfl ?_
      refine E_getR 4 (j := 3) (ci := 11) (T := TX11) (C0 := RX11) (ref := "SameWrong") dX11_mark_94 rfl (by decide) rfl inX11 (by decide) kw_319 rfl rfl rfl ?_
      refine E_iload_n 1 dX11_mark_97 rfl rfl ?_
      refine E_callVI (T := TX5) (ci := 5) [.int a1] [] dX11_mark_98 rfl kw_514 kw_515 kw_516 kw_6 ko_X5_wrongsOf rfl hy_X5_wrongsOf rfl (by decide) (Nat.le_of_ble_eq_true rfl) rfl (by decide) rfl (c_X5_wrongsOf Γ a1 s) (fun v6 => ?_)
      exact E_ireturn dX11_mark_101 rfl rfl
    refine E_tswOut (x0 := a2) (n := 4) 102 dX11_mark_12 (by decide) (by decide) (fun k hk => match k, hk with | 0, _ => hc0 | 1, _ => hc1 | 2, _ => hc2 | 3, _ => hc3 | z + 4, h => absurd h (by omega)) (by decide) ?_
    refine E_bipush (v := (-2)) dX11_mark_102 (by decide) ?_
    exact E_ireturn dX11_mark_104 rfl rfl
  · refine E_bipush (v := (-2)) dX11_mark_8 (by decide) ?_
    exact E_ireturn dX11_mark_10 rfl rfl
theorem c_X11_mark (Γ : GT) (a1 : Int32) (a2 : Int32) (s : St)  (x : (Int32 × St)) (h : f_X11_mark a1 a2 s = some x) (l : Launch) : MC l yX11_mark cX11_mark 3 (some .int) 5 WC Γ [.ref (Γ.2.1 0), .int a1, .int a2] s (emIS x) := MC_of (by decide +kernel) (Nat.le_of_ble_eq_true rfl) (e_X11_mark Γ a1 a2 s ) h l
set_option maxRecDepth 100000 in
set_option maxHeartbeats 4000000 in
theorem e_X11_shared (Γ : GT) (a1 : Int32) (a2 : Int32) (a3 : Int32) (s : St)  : E RX11 cX11_shared 4 (some .int) 6 WC Γ emIS 0 [(0, .ref (Γ.2.1 0)), (1, .int a1), (2, .int a2), (3, .int a3)] [] s (f_X11_shared a1 a2 a3 s) := by
  unfold f_X11_shared
  refine E_aload_n 0 dX11_shared_0 rfl rfl ?_
  refine E_iload_n 1 dX11_shared_1 rfl rfl ?_
  refine E_iload_n 2 dX11_shared_2 rfl rfl ?_
  refine E_callVZ (T := TX11) (ci := 11) [.int a1, .int a2] [] dX11_shared_3 rfl kw_471 kw_473 kp_7 kw_1 ko_X11_isPair rfl hy_X11_isPair rfl (by decide) (Nat.le_of_ble_eq_true rfl) rfl (by decide) rfl (c_X11_isPair Γ a1 a2 s) (fun v1 => ?_)
  refine E_ifneb 12 dX11_shared_6 (by decide) ?_ ?_
  · refine E_iload_n 3 dX11_shared_12 rfl rfl ?_
    refine E_case 0 (fun hc0 => ?_) (fun hc0 => ?_)
    · refine E_tswIn (k := 0) 40 dX11_shared_13 hc0 (by decide) (by decide) rfl (by decide) ?_
      refine E_aload_n 0 dX11_shared_40 rfl rfl ?_
      refine E_getR 6 (j := 5) (ci := 11) (T := TX11) (C0 := RX11) (ref := "SameWrong") dX11_shared_41 rfl (by decide) rfl inX11 (by decide) kw_321 rfl rfl rfl ?_
      refine E_iload_n 1 dX11_shared_44 rfl rfl ?_
      refine E_iload_n 2 dX11_shared_45 rfl rfl ?_
      refine E_callVI (T := TX6) (ci := 6) [.int a1, .int a2] [] dX11_shared_46 rfl kw_522 kw_523 kw_524 kw_8 ko_X6_sameWrongs rfl hy_X6_sameWrongs rfl (by decide) (Nat.le_of_ble_eq_true rfl) rfl (by decide) rfl (c_X6_sameWrongs Γ a1 a2 s) (fun v2 => ?_)
      exact E_ireturn dX11_shared_49 rfl rfl
    refine E_case 1 (fun hc1 => ?_) (fun hc1 => ?_)
    · refine E_tswIn (k := 1) 50 dX11_shared_13 hc1 (by decide) (by decide) rfl (by decide) ?_
      refine E_aload_n 0 dX11_shared_50 rfl rfl ?_
      refine E_getR 6 (j := 5) (ci := 11) (T := TX11) (C0 := RX11) (ref := "SameWrong") dX11_shared_51 rfl (by decide) rfl inX11 (by decide) kw_321 rfl rfl rfl ?_
      refine E_iload_n 1 dX11_shared_54 rfl rfl ?_
      refine E_iload_n 2 dX11_shared_55 rfl rfl ?_
      refine E_callVI (T := TX6) (ci := 6) [.int a1, .int a2] [] dX11_shared_56 rfl kw_530 kw_531 kw_532 kw_8 ko_X6_bothWrongs rfl hy_X6_bothWrongs rfl (by decide) (Nat.le_of_ble_eq_true rfl) rfl (by decide) rfl (c_X6_bothWrongs Γ a1 a2 s) (fun v3 => ?_)
      exact E_ireturn dX11_shared_59 rfl rfl
    refine E_case 2 (fun hc2 => ?_) (fun hc2 => ?_)
    · refine E_tswIn (k := 2) 60 dX11_shared_13 hc2 (by decide) (by decide) rfl (by decide) ?_
      refine E_aload_n 0 dX11_shared_60 rfl rfl ?_
      refine E_getR 6 (j := 5) (ci := 11) (T := TX11) (C0 := RX11) (ref := "SameWrong") dX11_shared_61 rfl (by decide) rfl inX11 (by decide) kw_321 rfl rfl rfl ?_
      refine E_iload_n 1 dX11_shared_64 rfl rfl ?_
      refine E_iload_n 2 dX11_shared_65 rfl rfl ?_
      refine E_callVZS (T := TX6) (ci := 6) [.int a1, .int a2] [] dX11_shared_66 rfl kw_534 kw_535 kw_536 kw_8 ko_X6_areOdd rfl hy_X6_areOdd rfl (by decide) (Nat.le_of_ble_eq_true rfl) rfl (by decide) rfl (c_X6_areOdd Γ a1 a2 s) (fun p4 => ?_)
      refine E_ifeqb 76 dX11_shared_69 (by decide) ?_ ?_
      · refine E_iconst (v := 0) dX11_shared_76 (by decide) ?_
        exact E_ireturn dX11_shared_77 rfl rfl
      · refine E_iconst (v := 1) dX11_shared_72 (by decide) ?_
        refine E_goto 77 dX11_shared_73 (by decide) ?_
        exact E_ireturn dX11_shared_77 rfl rfl
    refine E_tswOut (x0 := a3) (n := 3) 78 dX11_shared_13 (by decide) (by decide) (fun k hk => match k, hk with | 0, _ => hc0 | 1, _ => hc1 | 2, _ => hc2 | z + 3, h => absurd h (by omega)) (by decide) ?_
    refine E_bipush (v := (-2)) dX11_shared_78 (by decide) ?_
    exact E_ireturn dX11_shared_80 rfl rfl
  · refine E_bipush (v := (-2)) dX11_shared_9 (by decide) ?_
    exact E_ireturn dX11_shared_11 rfl rfl
theorem c_X11_shared (Γ : GT) (a1 : Int32) (a2 : Int32) (a3 : Int32) (s : St)  (x : (Int32 × St)) (h : f_X11_shared a1 a2 a3 s = some x) (l : Launch) : MC l yX11_shared cX11_shared 4 (some .int) 6 WC Γ [.ref (Γ.2.1 0), .int a1, .int a2, .int a3] s (emIS x) := MC_of (by decide +kernel) (Nat.le_of_ble_eq_true rfl) (e_X11_shared Γ a1 a2 a3 s ) h l
set_option maxRecDepth 100000 in
set_option maxHeartbeats 4000000 in
theorem e_X11_isPart (Γ : GT) (a0 : Int32) (s : St)  : E RX11 cX11_isPart 1 (some .boolean) 2 WC Γ (emZ s) 0 [(0, .int a0)] [] s (f_X11_isPart a0 s) := by
  unfold f_X11_isPart
  refine E_iload_n 0 dX11_isPart_0 rfl rfl ?_
  refine E_iconst (v := 0) dX11_isPart_1 (by decide) ?_
  refine E_iconst (v := 1) dX11_isPart_2 (by decide) ?_
  refine E_callSZ [.int a0, .int 0, .int 1] [] dX11_isPart_3 rfl kw_357 kw_358 kw_1 ko_X11_within hy_X11_within rfl (by decide) (Nat.le_of_ble_eq_true rfl) (c_X11_within Γ a0 0 1 s) (fun v1 => ?_)
  exact E_zreturn (b := v1) dX11_isPart_6 rfl rfl
theorem c_X11_isPart (Γ : GT) (a0 : Int32) (s : St)  (x : Bool) (h : f_X11_isPart a0 s = some x) (l : Launch) : MC l yX11_isPart cX11_isPart 1 (some .boolean) 2 WC Γ [.int a0] s ((emZ s) x) := MC_of (by decide +kernel) (Nat.le_of_ble_eq_true rfl) (e_X11_isPart Γ a0 s ) h l
set_option maxRecDepth 100000 in
set_option maxHeartbeats 4000000 in
theorem e_X11_refusal (Γ : GT) (a0 : Int32) (s : St)  : E RX11 cX11_refusal 1 (some .long) 1 WC Γ (emL s) 0 [(0, .int a0)] [] s (f_X11_refusal a0 s) := by
  unfold f_X11_refusal
  refine E_ldc2 (v := (-9223372036854775808)) dX11_refusal_0 kw_578 ?_
  refine E_iload_n 0 dX11_refusal_3 rfl rfl ?_
  refine E_i2l dX11_refusal_4 ?_
  refine E_lsub dX11_refusal_5 ?_
  exact E_lreturn dX11_refusal_6 rfl rfl
theorem c_X11_refusal (Γ : GT) (a0 : Int32) (s : St)  (x : Int64) (h : f_X11_refusal a0 s = some x) (l : Launch) : MC l yX11_refusal cX11_refusal 1 (some .long) 1 WC Γ [.int a0] s ((emL s) x) := MC_of (by decide +kernel) (Nat.le_of_ble_eq_true rfl) (e_X11_refusal Γ a0 s ) h l
set_option maxRecDepth 100000 in
set_option maxHeartbeats 4000000 in
theorem e_X11_chance (Γ : GT) (a1 : Int32) (a2 : Int32) (a3 : Int32) (s : St)  : E RX11 cX11_chance 4 (some .long) 5 WC Γ emLS 0 [(0, .ref (Γ.2.1 0)), (1, .int a1), (2, .int a2), (3, .int a3)] [] s (f_X11_chance a1 a2 a3 s) := by
  unfold f_X11_chance
  refine E_aload_n 0 dX11_chance_0 rfl rfl ?_
  refine E_iload_n 1 dX11_chance_1 rfl rfl ?_
  refine E_iload_n 2 dX11_chance_2 rfl rfl ?_
  refine E_callVZ (T := TX11) (ci := 11) [.int a1, .int a2] [] dX11_chance_3 rfl kw_471 kw_473 kp_7 kw_1 ko_X11_isPair rfl hy_X11_isPair rfl (by decide) (Nat.le_of_ble_eq_true rfl) rfl (by decide) rfl (c_X11_isPair Γ a1 a2 s) (fun v1 => ?_)
  refine E_jn 16 (fun (y : Unit) => []) (fun (y : Unit) => []) (fun (y : Unit) => s) ?_ ?_
  · intro y3
    refine E_bipush (v := (-2)) dX11_chance_16 (by decide) ?_
    refine E_callSL [.int (-2)] [] dX11_chance_18 rfl kw_575 kw_576 kw_1 ko_X11_refusal hy_X11_refusal rfl (by decide) (Nat.le_of_ble_eq_true rfl) (c_X11_refusal Γ (-2) s) (fun v4 => ?_)
    exact E_lreturn dX11_chance_21 rfl rfl
  · intro K2 hK2
    refine E_ifeqb 16 dX11_chance_6 (by decide) ?_ ?_
    · refine E_lvsub [] [] rfl ?_
      exact hK2 ()
    · refine E_iload_n 3 dX11_chance_9 rfl rfl ?_
      refine E_callSZ [.int a3] [] dX11_chance_10 rfl kw_572 kw_573 kw_1 ko_X11_isPart hy_X11_isPart rfl (by decide) (Nat.le_of_ble_eq_true rfl) (c_X11_isPart Γ a3 s) (fun v5 => ?_)
      refine E_ifneb 22 dX11_chance_13 (by decide) ?_ ?_
      · refine E_aload_n 0 dX11_chance_22 rfl rfl ?_
        refine E_getR 6 (j := 5) (ci := 11) (T := TX11) (C0 := RX11) (ref := "SameWrong") dX11_chance_23 rfl (by decide) rfl inX11 (by decide) kw_321 rfl rfl rfl ?_
        refine E_iload_n 1 dX11_chance_26 rfl rfl ?_
        refine E_iload_n 2 dX11_chance_27 rfl rfl ?_
        refine E_callVZS (T := TX6) (ci := 6) [.int a1, .int a2] [] dX11_chance_28 rfl kw_579 kw_540 kw_541 kw_8 ko_X6_reckonChance rfl hy_X6_reckonChance rfl (by decide) (Nat.le_of_ble_eq_true rfl) rfl (by decide) rfl (c_X6_reckonChance Γ a1 a2 s) (fun p6 => ?_)
        refine E_ifneb 40 dX11_chance_31 (by decide) ?_ ?_
        · refine E_aload_n 0 dX11_chance_40 rfl rfl ?_
          refine E_getR 10 (j := 9) (ci := 11) (T := TX11) (C0 := RX11) (ref := "SameWrong") dX11_chance_41 rfl (by decide) rfl inX11 (by decide) kw_325 rfl rfl rfl ?_
          refine E_iload_n 3 dX11_chance_44 rfl rfl ?_
          refine E_callVL (T := TX1) (ci := 1) [.int a3] [] dX11_chance_45 rfl kw_580 kw_581 kw_582 kw_5 ko_X1_part rfl hy_X1_part rfl (by decide) (Nat.le_of_ble_eq_true rfl) rfl (by decide) rfl (c_X1_part Γ a3 p6.2) (fun v7 => ?_)
          exact E_lreturn dX11_chance_48 rfl rfl
        · refine E_bipush (v := (-4)) dX11_chance_34 (by decide) ?_
          refine E_callSL [.int (-4)] [] dX11_chance_36 rfl kw_575 kw_576 kw_1 ko_X11_refusal hy_X11_refusal rfl (by decide) (Nat.le_of_ble_eq_true rfl) (c_X11_refusal Γ (-4) p6.2) (fun v8 => ?_)
          exact E_lreturn dX11_chance_39 rfl rfl
      · refine E_lvsub [] [] rfl ?_
        exact hK2 ()
theorem c_X11_chance (Γ : GT) (a1 : Int32) (a2 : Int32) (a3 : Int32) (s : St)  (x : (Int64 × St)) (h : f_X11_chance a1 a2 a3 s = some x) (l : Launch) : MC l yX11_chance cX11_chance 4 (some .long) 5 WC Γ [.ref (Γ.2.1 0), .int a1, .int a2, .int a3] s (emLS x) := MC_of (by decide +kernel) (Nat.le_of_ble_eq_true rfl) (e_X11_chance Γ a1 a2 a3 s ) h l
set_option maxRecDepth 100000 in
set_option maxHeartbeats 4000000 in
theorem e_X11_seats (Γ : GT) (a1 : Int32) (s : St)  : E RX11 cX11_seats 2 (some .int) 16 WC Γ emIS 0 [(0, .ref (Γ.2.1 0)), (1, .int a1)] [] s (f_X11_seats a1 s) := by
  unfold f_X11_seats
  refine E_iload_n 1 dX11_seats_0 rfl rfl ?_
  refine E_case 0 (fun hc0 => ?_) (fun hc0 => ?_)
  · refine E_lsw (off := 27) 28 dX11_seats_1 rfl (by first | (rw [hc0]; done) | (rw [hc0]; rfl)) (by decide) ?_
    refine E_aload_n 0 dX11_seats_28 rfl rfl ?_
    refine E_getR 6 (j := 5) (ci := 11) (T := TX11) (C0 := RX11) (ref := "SameWrong") dX11_seats_29 rfl (by decide) rfl inX11 (by decide) kw_321 rfl rfl rfl ?_
    refine E_callVI (T := TX6) (ci := 6) [] [] dX11_seats_32 rfl kw_588 kw_589 kw_590 kw_8 ko_X6_besideInAll rfl hy_X6_besideInAll rfl (by decide) (Nat.le_of_ble_eq_true rfl) rfl (by decide) rfl (c_X6_besideInAll Γ s) (fun v1 => ?_)
    exact E_ireturn dX11_seats_35 rfl rfl
  refine E_case 1 (fun hc1 => ?_) (fun hc1 => ?_)
  · refine E_lsw (off := 35) 36 dX11_seats_1 rfl (by first | (rw [hc1]; done) | (rw [hc1]; rfl)) (by decide) ?_
    refine E_aload_n 0 dX11_seats_36 rfl rfl ?_
    refine E_getR 8 (j := 7) (ci := 11) (T := TX11) (C0 := RX11) (ref := "SameWrong") dX11_seats_37 rfl (by decide) rfl inX11 (by decide) kw_323 rfl rfl rfl ?_
    refine E_callVIS (T := TX0) (ci := 0) [] [] dX11_seats_40 rfl kw_593 kw_594 kw_595 kw_10 ko_X0_millionths rfl hy_X0_millionths rfl (by decide) (Nat.le_of_ble_eq_true rfl) rfl (by decide) rfl (c_X0_millionths Γ s) (fun p2 => ?_)
    exact E_ireturn dX11_seats_43 rfl rfl
  refine E_lsw (off := 43) 44 dX11_seats_1 rfl (by first | (rw [lv_osw hc0 (by decide), lv_osw hc1 (by decide)]; done) | (rw [lv_osw hc0 (by decide), lv_osw hc1 (by decide)]; rfl)) (by decide) ?_
  refine E_bipush (v := (-2)) dX11_seats_44 (by decide) ?_
  exact E_ireturn dX11_seats_46 rfl rfl
theorem c_X11_seats (Γ : GT) (a1 : Int32) (s : St)  (x : (Int32 × St)) (h : f_X11_seats a1 s = some x) (l : Launch) : MC l yX11_seats cX11_seats 2 (some .int) 16 WC Γ [.ref (Γ.2.1 0), .int a1] s (emIS x) := MC_of (by decide +kernel) (Nat.le_of_ble_eq_true rfl) (e_X11_seats Γ a1 s ) h l
set_option maxRecDepth 100000 in
set_option maxHeartbeats 4000000 in
theorem e_X11_sources (Γ : GT)  (s : St)  : E RX11 cX11_sources 1 (some .int) 7 WC Γ emIS 0 [(0, .ref (Γ.2.1 0))] [] s (f_X11_sources  s) := by
  unfold f_X11_sources
  refine E_aload_n 0 dX11_sources_0 rfl rfl ?_
  refine E_getR 7 (j := 6) (ci := 11) (T := TX11) (C0 := RX11) (ref := "SameWrong") dX11_sources_1 rfl (by decide) rfl inX11 (by decide) kw_322 rfl rfl rfl ?_
  refine E_callVV (T := TX2) (ci := 2) [] [] dX11_sources_4 rfl kw_616 kw_617 kw_618 kw_9 ko_X2_link rfl hy_X2_link rfl (by decide) (Nat.le_of_ble_eq_true rfl) rfl (by decide) rfl (c_X2_link Γ s) (fun s1 => ?_)
  refine E_aload_n 0 dX11_sources_7 rfl rfl ?_
  refine E_getR 7 (j := 6) (ci := 11) (T := TX11) (C0 := RX11) (ref := "SameWrong") dX11_sources_8 rfl (by decide) rfl inX11 (by decide) kw_322 rfl rfl rfl ?_
  refine E_callVI (T := TX2) (ci := 2) [] [] dX11_sources_11 rfl kw_623 kw_624 kw_625 kw_9 ko_X2_fewest rfl hy_X2_fewest rfl (by decide) (Nat.le_of_ble_eq_true rfl) rfl (by decide) rfl (c_X2_fewest Γ s1) (fun v2 => ?_)
  exact E_ireturn dX11_sources_14 rfl rfl
theorem c_X11_sources (Γ : GT)  (s : St)  (x : (Int32 × St)) (h : f_X11_sources  s = some x) (l : Launch) : MC l yX11_sources cX11_sources 1 (some .int) 7 WC Γ [.ref (Γ.2.1 0)] s (emIS x) := MC_of (by decide +kernel) (Nat.le_of_ble_eq_true rfl) (e_X11_sources Γ  s ) h l
set_option maxRecDepth 100000 in
set_option maxHeartbeats 4000000 in
theorem e_X11_from (Γ : GT) (a1 : Int32) (a2 : Int32) (s : St)  : E RX11 cX11_from 3 (some .int) 6 WC Γ emIS 0 [(0, .ref (Γ.2.1 0)), (1, .int a1), (2, .int a2)] [] s (f_X11_from a1 a2 s) := by
  unfold f_X11_from
  refine E_aload_n 0 dX11_from_0 rfl rfl ?_
  refine E_iload_n 1 dX11_from_1 rfl rfl ?_
  refine E_iload_n 2 dX11_from_2 rfl rfl ?_
  refine E_callVZ (T := TX11) (ci := 11) [.int a1, .int a2] [] dX11_from_3 rfl kw_471 kw_473 kp_7 kw_1 ko_X11_isPair rfl hy_X11_isPair rfl (by decide) (Nat.le_of_ble_eq_true rfl) rfl (by decide) rfl (c_X11_isPair Γ a1 a2 s) (fun v1 => ?_)
  refine E_ifneb 12 dX11_from_6 (by decide) ?_ ?_
  · refine E_aload_n 0 dX11_from_12 rfl rfl ?_
    refine E_getR 2 (j := 1) (ci := 11) (T := TX11) (C0 := RX11) (ref := "SameWrong") dX11_from_13 rfl (by decide) rfl inX11 (by decide) kw_317 rfl rfl rfl ?_
    refine E_iload_n 1 dX11_from_16 rfl rfl ?_
    refine E_iload_n 2 dX11_from_17 rfl rfl ?_
    refine E_callVZ (T := TX7) (ci := 7) [.int a1, .int a2] [] dX11_from_18 rfl kw_475 kw_476 kw_477 kw_3 ko_X7_areNear rfl hy_X7_areNear rfl (by decide) (Nat.le_of_ble_eq_true rfl) rfl (by decide) rfl (c_X7_areNear Γ a1 a2 s) (fun v2 => ?_)
    refine E_ifeqb 36 dX11_from_21 (by decide) ?_ ?_
    · refine E_bipush (v := (-3)) dX11_from_36 (by decide) ?_
      exact E_ireturn dX11_from_38 rfl rfl
    · refine E_aload_n 0 dX11_from_24 rfl rfl ?_
      refine E_getR 6 (j := 5) (ci := 11) (T := TX11) (C0 := RX11) (ref := "SameWrong") dX11_from_25 rfl (by decide) rfl inX11 (by decide) kw_321 rfl rfl rfl ?_
      refine E_iload_n 1 dX11_from_28 rfl rfl ?_
      refine E_iload_n 2 dX11_from_29 rfl rfl ?_
      refine E_callVZS (T := TX6) (ci := 6) [.int a1, .int a2] [] dX11_from_30 rfl kw_534 kw_535 kw_536 kw_8 ko_X6_areOdd rfl hy_X6_areOdd rfl (by decide) (Nat.le_of_ble_eq_true rfl) rfl (by decide) rfl (c_X6_areOdd Γ a1 a2 s) (fun p3 => ?_)
      refine E_ifneb 39 dX11_from_33 (by decide) ?_ ?_
      · refine E_aload_n 0 dX11_from_39 rfl rfl ?_
        refine E_getR 7 (j := 6) (ci := 11) (T := TX11) (C0 := RX11) (ref := "SameWrong") dX11_from_40 rfl (by decide) rfl inX11 (by decide) kw_322 rfl rfl rfl ?_
        refine E_callVV (T := TX2) (ci := 2) [] [] dX11_from_43 rfl kw_645 kw_646 kw_647 kw_9 ko_X2_weigh rfl hy_X2_weigh rfl (by decide) (Nat.le_of_ble_eq_true rfl) rfl (by decide) rfl (c_X2_weigh Γ p3.2) (fun s4 => ?_)
        refine E_aload_n 0 dX11_from_46 rfl rfl ?_
        refine E_getR 7 (j := 6) (ci := 11) (T := TX11) (C0 := RX11) (ref := "SameWrong") dX11_from_47 rfl (by decide) rfl inX11 (by decide) kw_322 rfl rfl rfl ?_
        refine E_iload_n 1 dX11_from_50 rfl rfl ?_
        refine E_iload_n 2 dX11_from_51 rfl rfl ?_
        refine E_callVI (T := TX2) (ci := 2) [.int a1, .int a2] [] dX11_from_52 rfl kw_662 kw_663 kw_664 kw_9 ko_X2_giver rfl hy_X2_giver rfl (by decide) (Nat.le_of_ble_eq_true rfl) rfl (by decide) rfl (c_X2_giver Γ a1 a2 s4) (fun v5 => ?_)
        exact E_ireturn dX11_from_55 rfl rfl
      · refine E_bipush (v := (-3)) dX11_from_36 (by decide) ?_
        exact E_ireturn dX11_from_38 rfl rfl
  · refine E_bipush (v := (-2)) dX11_from_9 (by decide) ?_
    exact E_ireturn dX11_from_11 rfl rfl
theorem c_X11_from (Γ : GT) (a1 : Int32) (a2 : Int32) (s : St)  (x : (Int32 × St)) (h : f_X11_from a1 a2 s = some x) (l : Launch) : MC l yX11_from cX11_from 3 (some .int) 6 WC Γ [.ref (Γ.2.1 0), .int a1, .int a2] s (emIS x) := MC_of (by decide +kernel) (Nat.le_of_ble_eq_true rfl) (e_X11_from Γ a1 a2 s ) h l
set_option maxRecDepth 100000 in
set_option maxHeartbeats 4000000 in
theorem e_X11_chain (Γ : GT)  (s : St)  : E RX11 cX11_chain 1 (some .int) 7 WC Γ emIS 0 [(0, .ref (Γ.2.1 0))] [] s (f_X11_chain  s) := by
  unfold f_X11_chain
  refine E_aload_n 0 dX11_chain_0 rfl rfl ?_
  refine E_getR 7 (j := 6) (ci := 11) (T := TX11) (C0 := RX11) (ref := "SameWrong") dX11_chain_1 rfl (by decide) rfl inX11 (by decide) kw_322 rfl rfl rfl ?_
  refine E_callVV (T := TX2) (ci := 2) [] [] dX11_chain_4 rfl kw_616 kw_617 kw_618 kw_9 ko_X2_link rfl hy_X2_link rfl (by decide) (Nat.le_of_ble_eq_true rfl) rfl (by decide) rfl (c_X2_link Γ s) (fun s1 => ?_)
  refine E_aload_n 0 dX11_chain_7 rfl rfl ?_
  refine E_getR 7 (j := 6) (ci := 11) (T := TX11) (C0 := RX11) (ref := "SameWrong") dX11_chain_8 rfl (by decide) rfl inX11 (by decide) kw_322 rfl rfl rfl ?_
  refine E_callVV (T := TX2) (ci := 2) [] [] dX11_chain_11 rfl kw_645 kw_646 kw_647 kw_9 ko_X2_weigh rfl hy_X2_weigh rfl (by decide) (Nat.le_of_ble_eq_true rfl) rfl (by decide) rfl (c_X2_weigh Γ s1) (fun s2 => ?_)
  refine E_aload_n 0 dX11_chain_14 rfl rfl ?_
  refine E_getR 7 (j := 6) (ci := 11) (T := TX11) (C0 := RX11) (ref := "SameWrong") dX11_chain_15 rfl (by decide) rfl inX11 (by decide) kw_322 rfl rfl rfl ?_
  refine E_callVIS (T := TX2) (ci := 2) [] [] dX11_chain_18 rfl kw_670 kw_671 kw_672 kw_9 ko_X2_longestChain rfl hy_X2_longestChain rfl (by decide) (Nat.le_of_ble_eq_true rfl) rfl (by decide) rfl (c_X2_longestChain Γ s2) (fun p3 => ?_)
  exact E_ireturn dX11_chain_21 rfl rfl
theorem c_X11_chain (Γ : GT)  (s : St)  (x : (Int32 × St)) (h : f_X11_chain  s = some x) (l : Launch) : MC l yX11_chain cX11_chain 1 (some .int) 7 WC Γ [.ref (Γ.2.1 0)] s (emIS x) := MC_of (by decide +kernel) (Nat.le_of_ble_eq_true rfl) (e_X11_chain Γ  s ) h l
set_option maxRecDepth 100000 in
set_option maxHeartbeats 4000000 in
theorem e_X11_rubbed (Γ : GT) (a1 : Int32) (a2 : Int32) (s : St)  : E RX11 cX11_rubbed 3 (some .int) 3 WC Γ (emI s) 0 [(0, .ref (Γ.2.1 0)), (1, .int a1), (2, .int a2)] [] s (f_X11_rubbed a1 a2 s) := by
  unfold f_X11_rubbed
  refine E_aload_n 0 dX11_rubbed_0 rfl rfl ?_
  refine E_iload_n 1 dX11_rubbed_1 rfl rfl ?_
  refine E_callVZ (T := TX11) (ci := 11) [.int a1] [] dX11_rubbed_2 rfl kw_435 kw_437 kp_4 kw_1 ko_X11_isPupil rfl hy_X11_isPupil rfl (by decide) (Nat.le_of_ble_eq_true rfl) rfl (by decide) rfl (c_X11_isPupil Γ a1 s) (fun v1 => ?_)
  refine E_ifeqb 17 dX11_rubbed_5 (by decide) ?_ ?_
  · refine E_bipush (v := (-2)) dX11_rubbed_17 (by decide) ?_
    exact E_ireturn dX11_rubbed_19 rfl rfl
  · refine E_iload_n 2 dX11_rubbed_8 rfl rfl ?_
    refine E_iconst (v := 0) dX11_rubbed_9 (by decide) ?_
    refine E_iconst (v := 2) dX11_rubbed_10 (by decide) ?_
    refine E_callSZ [.int a2, .int 0, .int 2] [] dX11_rubbed_11 rfl kw_357 kw_358 kw_1 ko_X11_within hy_X11_within rfl (by decide) (Nat.le_of_ble_eq_true rfl) (c_X11_within Γ a2 0 2 s) (fun v2 => ?_)
    refine E_ifneb 20 dX11_rubbed_14 (by decide) ?_ ?_
    · refine E_aload_n 0 dX11_rubbed_20 rfl rfl ?_
      refine E_getR 5 (j := 4) (ci := 11) (T := TX11) (C0 := RX11) (ref := "SameWrong") dX11_rubbed_21 rfl (by decide) rfl inX11 (by decide) kw_320 rfl rfl rfl ?_
      refine E_iconst (v := 1) dX11_rubbed_24 (by decide) ?_
      refine E_iload_n 1 dX11_rubbed_25 rfl rfl ?_
      refine E_ishl dX11_rubbed_26 ?_
      refine E_iload_n 2 dX11_rubbed_27 rfl rfl ?_
      refine E_callVI (T := TX8) (ci := 8) [.int (1 <<< (a1 &&& 31)), .int a2] [] dX11_rubbed_28 rfl kw_687 kw_651 kw_652 kw_7 ko_X8_countOf rfl hy_X8_countOf rfl (by decide) (Nat.le_of_ble_eq_true rfl) rfl (by decide) rfl (c_X8_countOf Γ (1 <<< (a1 &&& 31)) a2 s) (fun v3 => ?_)
      exact E_ireturn dX11_rubbed_31 rfl rfl
    · refine E_bipush (v := (-2)) dX11_rubbed_17 (by decide) ?_
      exact E_ireturn dX11_rubbed_19 rfl rfl
theorem c_X11_rubbed (Γ : GT) (a1 : Int32) (a2 : Int32) (s : St)  (x : Int32) (h : f_X11_rubbed a1 a2 s = some x) (l : Launch) : MC l yX11_rubbed cX11_rubbed 3 (some .int) 3 WC Γ [.ref (Γ.2.1 0), .int a1, .int a2] s ((emI s) x) := MC_of (by decide +kernel) (Nat.le_of_ble_eq_true rfl) (e_X11_rubbed Γ a1 a2 s ) h l
set_option maxRecDepth 100000 in
set_option maxHeartbeats 4000000 in
theorem e_X11_gains (Γ : GT) (a1 : Int32) (a2 : Int32) (s : St)  : E RX11 cX11_gains 3 (some .long) 4 WC Γ emLS 0 [(0, .ref (Γ.2.1 0)), (1, .int a1), (2, .int a2)] [] s (f_X11_gains a1 a2 s) := by
  unfold f_X11_gains
  refine E_iload_n 1 dX11_gains_0 rfl rfl ?_
  refine E_iconst (v := 0) dX11_gains_1 (by decide) ?_
  refine E_sipush (v := 1023) dX11_gains_2 (by decide) ?_
  refine E_callSZ [.int a1, .int 0, .int 1023] [] dX11_gains_5 rfl kw_357 kw_358 kw_1 ko_X11_within hy_X11_within rfl (by decide) (Nat.le_of_ble_eq_true rfl) (c_X11_within Γ a1 0 1023 s) (fun v1 => ?_)
  refine E_jn 18 (fun (y : Unit) => []) (fun (y : Unit) => []) (fun (y : Unit) => s) ?_ ?_
  · intro y3
    refine E_bipush (v := (-2)) dX11_gains_18 (by decide) ?_
    refine E_callSL [.int (-2)] [] dX11_gains_20 rfl kw_575 kw_576 kw_1 ko_X11_refusal hy_X11_refusal rfl (by decide) (Nat.le_of_ble_eq_true rfl) (c_X11_refusal Γ (-2) s) (fun v4 => ?_)
    exact E_lreturn dX11_gains_23 rfl rfl
  · intro K2 hK2
    refine E_ifeqb 18 dX11_gains_8 (by decide) ?_ ?_
    · refine E_lvsub [] [] rfl ?_
      exact hK2 ()
    · refine E_iload_n 2 dX11_gains_11 rfl rfl ?_
      refine E_callSZ [.int a2] [] dX11_gains_12 rfl kw_572 kw_573 kw_1 ko_X11_isPart hy_X11_isPart rfl (by decide) (Nat.le_of_ble_eq_true rfl) (c_X11_isPart Γ a2 s) (fun v5 => ?_)
      refine E_ifneb 24 dX11_gains_15 (by decide) ?_ ?_
      · refine E_aload_n 0 dX11_gains_24 rfl rfl ?_
        refine E_getR 5 (j := 4) (ci := 11) (T := TX11) (C0 := RX11) (ref := "SameWrong") dX11_gains_25 rfl (by decide) rfl inX11 (by decide) kw_320 rfl rfl rfl ?_
        refine E_sipush (v := 1023) dX11_gains_28 (by decide) ?_
        refine E_iconst (v := 0) dX11_gains_31 (by decide) ?_
        refine E_callVI (T := TX8) (ci := 8) [.int 1023, .int 0] [] dX11_gains_32 rfl kw_687 kw_651 kw_652 kw_7 ko_X8_countOf rfl hy_X8_countOf rfl (by decide) (Nat.le_of_ble_eq_true rfl) rfl (by decide) rfl (c_X8_countOf Γ 1023 0 s) (fun v6 => ?_)
        refine E_bipush (v := 60) dX11_gains_35 (by decide) ?_
        refine E_icmple 46 dX11_gains_37 (by decide) ?_ ?_
        · refine E_aload_n 0 dX11_gains_46 rfl rfl ?_
          refine E_getR 5 (j := 4) (ci := 11) (T := TX11) (C0 := RX11) (ref := "SameWrong") dX11_gains_47 rfl (by decide) rfl inX11 (by decide) kw_320 rfl rfl rfl ?_
          refine E_iload_n 1 dX11_gains_50 rfl rfl ?_
          refine E_aload_n 0 dX11_gains_51 rfl rfl ?_
          refine E_getR 10 (j := 9) (ci := 11) (T := TX11) (C0 := RX11) (ref := "SameWrong") dX11_gains_52 rfl (by decide) rfl inX11 (by decide) kw_325 rfl rfl rfl ?_
          refine E_callVV (T := TX8) (ci := 8) [.int a1, .ref (Γ.2.1 10)] [] dX11_gains_55 rfl kw_692 kw_693 kw_694 kw_7 ko_X8_reckonGains rfl hy_X8_reckonGains rfl (by decide) (Nat.le_of_ble_eq_true rfl) rfl (by decide) rfl (c_X8_reckonGains Γ a1 s) (fun s7 => ?_)
          refine E_aload_n 0 dX11_gains_58 rfl rfl ?_
          refine E_getR 10 (j := 9) (ci := 11) (T := TX11) (C0 := RX11) (ref := "SameWrong") dX11_gains_59 rfl (by decide) rfl inX11 (by decide) kw_325 rfl rfl rfl ?_
          refine E_iload_n 2 dX11_gains_62 rfl rfl ?_
          refine E_callVL (T := TX1) (ci := 1) [.int a2] [] dX11_gains_63 rfl kw_580 kw_581 kw_582 kw_5 ko_X1_part rfl hy_X1_part rfl (by decide) (Nat.le_of_ble_eq_true rfl) rfl (by decide) rfl (c_X1_part Γ a2 s7) (fun v8 => ?_)
          exact E_lreturn dX11_gains_66 rfl rfl
        · refine E_bipush (v := (-4)) dX11_gains_40 (by decide) ?_
          refine E_callSL [.int (-4)] [] dX11_gains_42 rfl kw_575 kw_576 kw_1 ko_X11_refusal hy_X11_refusal rfl (by decide) (Nat.le_of_ble_eq_true rfl) (c_X11_refusal Γ (-4) s) (fun v9 => ?_)
          exact E_lreturn dX11_gains_45 rfl rfl
      · refine E_lvsub [] [] rfl ?_
        exact hK2 ()
theorem c_X11_gains (Γ : GT) (a1 : Int32) (a2 : Int32) (s : St)  (x : (Int64 × St)) (h : f_X11_gains a1 a2 s = some x) (l : Launch) : MC l yX11_gains cX11_gains 3 (some .long) 4 WC Γ [.ref (Γ.2.1 0), .int a1, .int a2] s (emLS x) := MC_of (by decide +kernel) (Nat.le_of_ble_eq_true rfl) (e_X11_gains Γ a1 a2 s ) h l
set_option maxRecDepth 100000 in
set_option maxHeartbeats 4000000 in
theorem e_X11_known (Γ : GT) (a1 : Int32) (a2 : Int32) (s : St)  : E RX11 cX11_known 9 (some .int) 3 WC Γ (emI s) 0 [(0, .ref (Γ.2.1 0)), (1, .int a1), (2, .int a2)] [] s (f_X11_known a1 a2 s) := by
  unfold f_X11_known
  refine E_iload_n 1 dX11_known_0 rfl rfl ?_
  refine E_iconst (v := 1) dX11_known_1 (by decide) ?_
  refine E_sipush (v := 1023) dX11_known_2 (by decide) ?_
  refine E_callSZ [.int a1, .int 1, .int 1023] [] dX11_known_5 rfl kw_357 kw_358 kw_1 ko_X11_within hy_X11_within rfl (by decide) (Nat.le_of_ble_eq_true rfl) (c_X11_within Γ a1 1 1023 s) (fun v1 => ?_)
  refine E_ifeqb 33 dX11_known_8 (by decide) ?_ ?_
  · refine E_bipush (v := (-2)) dX11_known_33 (by decide) ?_
    exact E_ireturn dX11_known_35 rfl rfl
  · refine E_iload_n 1 dX11_known_11 rfl rfl ?_
    refine E_aload_n 0 dX11_known_12 rfl rfl ?_
    refine E_getR 2 (j := 1) (ci := 11) (T := TX11) (C0 := RX11) (ref := "SameWrong") dX11_known_13 rfl (by decide) rfl inX11 (by decide) kw_317 rfl rfl rfl ?_
    refine E_callVI (T := TX7) (ci := 7) [] [.int a1] dX11_known_16 rfl kw_706 kw_628 kw_629 kw_3 ko_X7_allBits rfl hy_X7_allBits rfl (by decide) (Nat.le_of_ble_eq_true rfl) rfl (by decide) rfl (c_X7_allBits Γ s) (fun v2 => ?_)
    refine E_iand dX11_known_19 ?_
    refine E_ifeq 33 dX11_known_20 (by decide) ?_ ?_
    · refine E_bipush (v := (-2)) dX11_known_33 (by decide) ?_
      exact E_ireturn dX11_known_35 rfl rfl
    · refine E_iload_n 2 dX11_known_23 rfl rfl ?_
      refine E_iconst (v := 0) dX11_known_24 (by decide) ?_
      refine E_bipush (v := 100) dX11_known_25 (by decide) ?_
      refine E_callSZ [.int a2, .int 0, .int 100] [] dX11_known_27 rfl kw_357 kw_358 kw_1 ko_X11_within hy_X11_within rfl (by decide) (Nat.le_of_ble_eq_true rfl) (c_X11_within Γ a2 0 100 s) (fun v3 => ?_)
      refine E_ifneb 36 dX11_known_30 (by decide) ?_ ?_
      · refine E_iload_n 1 dX11_known_36 rfl rfl ?_
        refine E_aload_n 0 dX11_known_37 rfl rfl ?_
        refine E_getR 2 (j := 1) (ci := 11) (T := TX11) (C0 := RX11) (ref := "SameWrong") dX11_known_38 rfl (by decide) rfl inX11 (by decide) kw_317 rfl rfl rfl ?_
        refine E_callVI (T := TX7) (ci := 7) [] [.int a1] dX11_known_41 rfl kw_706 kw_628 kw_629 kw_3 ko_X7_allBits rfl hy_X7_allBits rfl (by decide) (Nat.le_of_ble_eq_true rfl) rfl (by decide) rfl (c_X7_allBits Γ s) (fun v4 => ?_)
        refine E_iand dX11_known_44 ?_
        refine E_istore_n [(3, .int (a1 &&& v4)), (0, .ref (Γ.2.1 0)), (1, .int a1), (2, .int a2)] dX11_known_45 rfl (by decide) rfl ?_
        refine E_bv (fun v5 => [(3, .int v5), (0, .ref (Γ.2.1 0)), (1, .int a1), (2, .int a2)]) (fun v5 => ?_) (a1 &&& v4)
        refine E_aload_n 1 dX11_known_46 rfl rfl ?_
        refine E_getR 2 (j := 1) (ci := 11) (T := TX11) (C0 := RX11) (ref := "SameWrong") dX11_known_47 rfl (by decide) rfl inX11 (by decide) kw_317 rfl rfl rfl ?_
        refine E_callVI (T := TX7) (ci := 7) [] [] dX11_known_50 rfl kw_706 kw_628 kw_629 kw_3 ko_X7_allBits rfl hy_X7_allBits rfl (by decide) (Nat.le_of_ble_eq_true rfl) rfl (by decide) rfl (c_X7_allBits Γ s) (fun v6 => ?_)
        refine E_iload_n 2 dX11_known_53 rfl rfl ?_
        refine E_iconst (v := (-1)) dX11_known_54 (by decide) ?_
        refine E_ixor dX11_known_55 ?_
        refine E_iand dX11_known_56 ?_
        refine E_istore [(4, .int (v6 &&& (a1 ^^^ (-1)))), (3, .int v5), (0, .ref (Γ.2.1 0)), (1, .int a1), (2, .int a2)] dX11_known_57 (by decide) rfl ?_
        refine E_bv (fun v7 => [(4, .int v7), (3, .int v5), (0, .ref (Γ.2.1 0)), (1, .int a1), (2, .int a2)]) (fun v7 => ?_) (v6 &&& (a1 ^^^ (-1)))
        refine E_iconst (v := 0) dX11_known_59 (by decide) ?_
        refine E_istore [(5, .int 0), (4, .int v7), (3, .int v5), (0, .ref (Γ.2.1 0)), (1, .int a1), (2, .int a2)] dX11_known_60 (by decide) rfl ?_
        refine E_iconst (v := 0) dX11_known_62 (by decide) ?_
        refine E_istore [(6, .int 0), (5, .int 0), (4, .int v7), (3, .int v5), (0, .ref (Γ.2.1 0)), (1, .int a1), (2, .int a2)] dX11_known_63 (by decide) rfl ?_
        refine E_lvsub [0, 1, 2, 3, 4, 6] [(6, .int 0), (5, .int 0), (4, .int v7), (3, .int v5), (0, .ref (Γ.2.1 0)), (2, .int a2)] rfl ?_
        refine E_lp (F := L_X11_known_65 a2 s v5 v7) (fun (x : Int32 × Int32) => [(6, .int x.1), (5, .int x.2), (4, .int v7), (3, .int v5), (0, .ref (Γ.2.1 0)), (2, .int a2)]) (fun (x : Int32 × Int32) => s) ?_ NN (0, 0)
        intro r8 hr8 x9
        show E _ _ _ _ _ _ _ _ _ _ _ _ (L_X11_known_65 a2 s v5 v7 r8 x9)
        unfold L_X11_known_65
        refine E_iload 0 dX11_known_65 rfl ?_
        refine E_aload_n 4 dX11_known_67 rfl rfl ?_
        refine E_getR 1 (j := 0) (ci := 11) (T := TX11) (C0 := RX11) (ref := "SameWrong") dX11_known_68 rfl (by decide) rfl inX11 (by decide) kw_316 rfl rfl rfl ?_
        refine E_getI (j := 2) (ci := 4) (T := TX4) (C0 := RX4) (ref := "SameWrong$Key") dX11_known_71 rfl (by decide) rfl inX4 (by decide) kw_41 rfl rfl ?_
        refine E_icmpge 170 dX11_known_74 (by decide) ?_ ?_
        · refine E_iload 1 dX11_known_170 rfl ?_
          exact E_ireturn dX11_known_172 rfl rfl
        · refine E_aload_n 4 dX11_known_77 rfl rfl ?_
          refine E_getR 4 (j := 3) (ci := 11) (T := TX11) (C0 := RX11) (ref := "SameWrong") dX11_known_78 rfl (by decide) rfl inX11 (by decide) kw_319 rfl rfl rfl ?_
          refine E_iload 0 dX11_known_81 rfl ?_
          refine E_iload_n 3 dX11_known_83 rfl rfl ?_
          refine E_callVI (T := TX5) (ci := 5) [.int x9.1, .int v5] [] dX11_known_84 rfl kw_707 kw_708 kw_709 kw_6 ko_X5_rightsTo rfl hy_X5_rightsTo rfl (by decide) (Nat.le_of_ble_eq_true rfl) rfl (by decide) rfl (c_X5_rightsTo Γ x9.1 v5 s) (fun v10 => ?_)
          refine E_iload_n 3 dX11_known_87 rfl rfl ?_
          refine E_callSI [.int v5] [.int v10] dX11_known_88 rfl kw_711 kw_632 kw_16 ko_J6_bitCount_0f7a4 hy_J6_bitCount_0f7a4 rfl (by decide) (Nat.le_of_ble_eq_true rfl) (c_J6_bitCount_0f7a4 Γ v5 s) (fun v11 => ?_)
          refine E_jn 99 (fun (y : Bool) => [(6, .int x9.1), (5, .int x9.2), (4, .int v7), (3, .int v5), (0, .ref (Γ.2.1 0)), (2, .int a2)]) (fun (y : Bool) => [.int (bI y)]) (fun (y : Bool) => s) ?_ ?_
          · intro y13
            refine E_istore [(7, .int (bI y13)), (6, .int x9.1), (5, .int x9.2), (4, .int v7), (3, .int v5), (0, .ref (Γ.2.1 0)), (2, .int a2)] dX11_known_99 (by decide) rfl ?_
            refine E_aload_n 5 dX11_known_101 rfl rfl ?_
            refine E_getR 4 (j := 3) (ci := 11) (T := TX11) (C0 := RX11) (ref := "SameWrong") dX11_known_102 rfl (by decide) rfl inX11 (by decide) kw_319 rfl rfl rfl ?_
            refine E_iload 1 dX11_known_105 rfl ?_
            refine E_iload 3 dX11_known_107 rfl ?_
            refine E_callVI (T := TX5) (ci := 5) [.int x9.1, .int v7] [] dX11_known_109 rfl kw_707 kw_708 kw_709 kw_6 ko_X5_rightsTo rfl hy_X5_rightsTo rfl (by decide) (Nat.le_of_ble_eq_true rfl) rfl (by decide) rfl (c_X5_rightsTo Γ x9.1 v7 s) (fun v14 => ?_)
            refine E_bipush (v := 100) dX11_known_112 (by decide) ?_
            refine E_imul dX11_known_114 ?_
            refine E_iload_n 6 dX11_known_115 rfl rfl ?_
            refine E_iload 3 dX11_known_116 rfl ?_
            refine E_callSI [.int v7] [.int a2, .int (v14 * 100)] dX11_known_118 rfl kw_711 kw_632 kw_16 ko_J6_bitCount_0f7a4 hy_J6_bitCount_0f7a4 rfl (by decide) (Nat.le_of_ble_eq_true rfl) (c_J6_bitCount_0f7a4 Γ v7 s) (fun v15 => ?_)
            refine E_imul dX11_known_121 ?_
            refine E_jn 130 (fun (y : Bool) => [(7, .int (bI y13)), (6, .int x9.1), (5, .int x9.2), (4, .int v7), (3, .int v5), (0, .ref (Γ.2.1 0)), (2, .int a2)]) (fun (y : Bool) => [.int (bI y)]) (fun (y : Bool) => s) ?_ ?_
            · intro y17
              refine E_istore [(8, .int (bI y17)), (7, .int (bI y13)), (6, .int x9.1), (5, .int x9.2), (4, .int v7), (3, .int v5), (0, .ref (Γ.2.1 0)), (2, .int a2)] dX11_known_130 (by decide) rfl ?_
              refine E_aload_n 6 dX11_known_132 rfl rfl ?_
              refine E_getR 1 (j := 0) (ci := 11) (T := TX11) (C0 := RX11) (ref := "SameWrong") dX11_known_133 rfl (by decide) rfl inX11 (by decide) kw_316 rfl rfl rfl ?_
              refine E_getR 11 (j := 0) (ci := 4) (T := TX4) (C0 := RX4) (ref := "SameWrong$Key") dX11_known_136 rfl (by decide) rfl inX4 (by decide) kw_35 rfl rfl rfl ?_
              refine E_iload 2 dX11_known_139 rfl ?_
              refine E_iaload dX11_known_141 rfl (by decide) ?_
              refine E_ifeq 164 dX11_known_142 (by decide) ?_ ?_
              · refine E_iinc 2 [(6, .int (x9.1 + 1)), (8, .int (bI y17)), (7, .int (bI y13)), (5, .int x9.2), (4, .int v7), (3, .int v5), (0, .ref (Γ.2.1 0)), (2, .int a2)] dX11_known_164 rfl rfl (by decide) rfl ?_
                refine E_goto 65 dX11_known_167 (by decide) ?_
                refine E_lvsub [0, 3, 4, 5, 6, 7] [(6, .int (x9.1 + 1)), (5, .int x9.2), (4, .int v7), (3, .int v5), (0, .ref (Γ.2.1 0)), (2, .int a2)] rfl ?_
                exact hr8 (x9.1 + 1, x9.2)
              · refine E_iload 1 dX11_known_145 rfl ?_
                refine E_ifeqb 164 dX11_known_147 (by decide) ?_ ?_
                · refine E_iinc 2 [(6, .int (x9.1 + 1)), (8, .int (bI y17)), (7, .int (bI y13)), (5, .int x9.2), (4, .int v7), (3, .int v5), (0, .ref (Γ.2.1 0)), (2, .int a2)] dX11_known_164 rfl rfl (by decide) rfl ?_
                  refine E_goto 65 dX11_known_167 (by decide) ?_
                  refine E_lvsub [0, 3, 4, 5, 6, 7] [(6, .int (x9.1 + 1)), (5, .int x9.2), (4, .int v7), (3, .int v5), (0, .ref (Γ.2.1 0)), (2, .int a2)] rfl ?_
                  exact hr8 (x9.1 + 1, x9.2)
                · refine E_iload 0 dX11_known_150 rfl ?_
                  refine E_ifeqb 164 dX11_known_152 (by decide) ?_ ?_
                  · refine E_iinc 2 [(6, .int (x9.1 + 1)), (8, .int (bI y17)), (7, .int (bI y13)), (5, .int x9.2), (4, .int v7), (3, .int v5), (0, .ref (Γ.2.1 0)), (2, .int a2)] dX11_known_164 rfl rfl (by decide) rfl ?_
                    refine E_goto 65 dX11_known_167 (by decide) ?_
                    refine E_lvsub [0, 3, 4, 5, 6, 7] [(6, .int (x9.1 + 1)), (5, .int x9.2), (4, .int v7), (3, .int v5), (0, .ref (Γ.2.1 0)), (2, .int a2)] rfl ?_
                    exact hr8 (x9.1 + 1, x9.2)
                  · refine E_iload 3 dX11_known_155 rfl ?_
                    refine E_iconst (v := 1) dX11_known_157 (by decide) ?_
                    refine E_iload 2 dX11_known_158 rfl ?_
                    refine E_ishl dX11_known_160 ?_
                    refine E_ior dX11_known_161 ?_
                    refine E_istore [(5, .int (x9.2 ||| (1 <<< (x9.1 &&& 31)))), (8, .int (bI y17)), (7, .int (bI y13)), (6, .int x9.1), (4, .int v7), (3, .int v5), (0, .ref (Γ.2.1 0)), (2, .int a2)] dX11_known_162 (by decide) rfl ?_
                    refine E_bv (fun v18 => [(5, .int v18), (8, .int (bI y17)), (7, .int (bI y13)), (6, .int x9.1), (4, .int v7), (3, .int v5), (0, .ref (Γ.2.1 0)), (2, .int a2)]) (fun v18 => ?_) (x9.2 ||| (1 <<< (x9.1 &&& 31)))
                    refine E_iinc 3 [(6, .int (x9.1 + 1)), (5, .int v18), (8, .int (bI y17)), (7, .int (bI y13)), (4, .int v7), (3, .int v5), (0, .ref (Γ.2.1 0)), (2, .int a2)] dX11_known_164 rfl rfl (by decide) rfl ?_
                    refine E_goto 65 dX11_known_167 (by decide) ?_
                    refine E_lvsub [0, 1, 4, 5, 6, 7] [(6, .int (x9.1 + 1)), (5, .int v18), (4, .int v7), (3, .int v5), (0, .ref (Γ.2.1 0)), (2, .int a2)] rfl ?_
                    exact hr8 (x9.1 + 1, v18)
            · intro K16 hK16
              refine E_icmpgt 129 dX11_known_122 (by decide) ?_ ?_
              · refine E_iconst (v := 0) dX11_known_129 (by decide) ?_
                exact hK16 false
              · refine E_iconst (v := 1) dX11_known_125 (by decide) ?_
                refine E_goto 130 dX11_known_126 (by decide) ?_
                exact hK16 true
          · intro K12 hK12
            refine E_icmpne 98 dX11_known_91 (by decide) ?_ ?_
            · refine E_iconst (v := 0) dX11_known_98 (by decide) ?_
              exact hK12 false
            · refine E_iconst (v := 1) dX11_known_94 (by decide) ?_
              refine E_goto 99 dX11_known_95 (by decide) ?_
              exact hK12 true
      · refine E_bipush (v := (-2)) dX11_known_33 (by decide) ?_
        exact E_ireturn dX11_known_35 rfl rfl
theorem c_X11_known (Γ : GT) (a1 : Int32) (a2 : Int32) (s : St)  (x : Int32) (h : f_X11_known a1 a2 s = some x) (l : Launch) : MC l yX11_known cX11_known 9 (some .int) 3 WC Γ [.ref (Γ.2.1 0), .int a1, .int a2] s ((emI s) x) := MC_of (by decide +kernel) (Nat.le_of_ble_eq_true rfl) (e_X11_known Γ a1 a2 s ) h l
set_option maxRecDepth 100000 in
set_option maxHeartbeats 4000000 in
theorem e_X11_lead (Γ : GT) (a1 : Int32) (a2 : Int32) (a3 : Int32) (s : St)  : E RX11 cX11_lead 8 (some .long) 3 WC Γ emLS 0 [(0, .ref (Γ.2.1 0)), (1, .int a1), (2, .int a2), (3, .int a3)] [] s (f_X11_lead a1 a2 a3 s) := by
  unfold f_X11_lead
  refine E_aload_n 0 dX11_lead_0 rfl rfl ?_
  refine E_iload_n 1 dX11_lead_1 rfl rfl ?_
  refine E_callVZ (T := TX11) (ci := 11) [.int a1] [] dX11_lead_2 rfl kw_400 kw_402 kp_2 kw_1 ko_X11_isQuestion rfl hy_X11_isQuestion rfl (by decide) (Nat.le_of_ble_eq_true rfl) rfl (by decide) rfl (c_X11_isQuestion Γ a1 s) (fun v1 => ?_)
  refine E_jn 26 (fun (y : Unit) => []) (fun (y : Unit) => []) (fun (y : Unit) => s) ?_ ?_
  · intro y3
    refine E_bipush (v := (-2)) dX11_lead_26 (by decide) ?_
    refine E_callSL [.int (-2)] [] dX11_lead_28 rfl kw_575 kw_576 kw_1 ko_X11_refusal hy_X11_refusal rfl (by decide) (Nat.le_of_ble_eq_true rfl) (c_X11_refusal Γ (-2) s) (fun v4 => ?_)
    exact E_lreturn dX11_lead_31 rfl rfl
  · intro K2 hK2
    refine E_ifeqb 26 dX11_lead_5 (by decide) ?_ ?_
    · refine E_lvsub [] [] rfl ?_
      exact hK2 ()
    · refine E_iload_n 2 dX11_lead_8 rfl rfl ?_
      refine E_iconst (v := 0) dX11_lead_9 (by decide) ?_
      refine E_sipush (v := 1023) dX11_lead_10 (by decide) ?_
      refine E_callSZ [.int a2, .int 0, .int 1023] [] dX11_lead_13 rfl kw_357 kw_358 kw_1 ko_X11_within hy_X11_within rfl (by decide) (Nat.le_of_ble_eq_true rfl) (c_X11_within Γ a2 0 1023 s) (fun v5 => ?_)
      refine E_ifeqb 26 dX11_lead_16 (by decide) ?_ ?_
      · refine E_lvsub [] [] rfl ?_
        exact hK2 ()
      · refine E_iload_n 3 dX11_lead_19 rfl rfl ?_
        refine E_callSZ [.int a3] [] dX11_lead_20 rfl kw_572 kw_573 kw_1 ko_X11_isPart hy_X11_isPart rfl (by decide) (Nat.le_of_ble_eq_true rfl) (c_X11_isPart Γ a3 s) (fun v6 => ?_)
        refine E_ifneb 32 dX11_lead_23 (by decide) ?_ ?_
        · refine E_iload_n 2 dX11_lead_32 rfl rfl ?_
          refine E_aload_n 0 dX11_lead_33 rfl rfl ?_
          refine E_getR 2 (j := 1) (ci := 11) (T := TX11) (C0 := RX11) (ref := "SameWrong") dX11_lead_34 rfl (by decide) rfl inX11 (by decide) kw_317 rfl rfl rfl ?_
          refine E_callVI (T := TX7) (ci := 7) [] [.int a2] dX11_lead_37 rfl kw_706 kw_628 kw_629 kw_3 ko_X7_allBits rfl hy_X7_allBits rfl (by decide) (Nat.le_of_ble_eq_true rfl) rfl (by decide) rfl (c_X7_allBits Γ s) (fun v7 => ?_)
          refine E_iand dX11_lead_40 ?_
          refine E_istore [(4, .int (a2 &&& v7)), (0, .ref (Γ.2.1 0)), (1, .int a1), (2, .int a2), (3, .int a3)] dX11_lead_41 (by decide) rfl ?_
          refine E_bv (fun v8 => [(4, .int v8), (0, .ref (Γ.2.1 0)), (1, .int a1), (2, .int a2), (3, .int a3)]) (fun v8 => ?_) (a2 &&& v7)
          refine E_aload_n 1 dX11_lead_43 rfl rfl ?_
          refine E_getR 2 (j := 1) (ci := 11) (T := TX11) (C0 := RX11) (ref := "SameWrong") dX11_lead_44 rfl (by decide) rfl inX11 (by decide) kw_317 rfl rfl rfl ?_
          refine E_callVI (T := TX7) (ci := 7) [] [] dX11_lead_47 rfl kw_706 kw_628 kw_629 kw_3 ko_X7_allBits rfl hy_X7_allBits rfl (by decide) (Nat.le_of_ble_eq_true rfl) rfl (by decide) rfl (c_X7_allBits Γ s) (fun v9 => ?_)
          refine E_iload_n 3 dX11_lead_50 rfl rfl ?_
          refine E_iconst (v := (-1)) dX11_lead_51 (by decide) ?_
          refine E_ixor dX11_lead_52 ?_
          refine E_iand dX11_lead_53 ?_
          refine E_istore [(5, .int (v9 &&& (a2 ^^^ (-1)))), (4, .int v8), (0, .ref (Γ.2.1 0)), (1, .int a1), (2, .int a2), (3, .int a3)] dX11_lead_54 (by decide) rfl ?_
          refine E_bv (fun v10 => [(5, .int v10), (4, .int v8), (0, .ref (Γ.2.1 0)), (1, .int a1), (2, .int a2), (3, .int a3)]) (fun v10 => ?_) (v9 &&& (a2 ^^^ (-1)))
          refine E_iload 1 dX11_lead_56 rfl ?_
          refine E_jn 78 (fun (y : Unit) => []) (fun (y : Unit) => []) (fun (y : Unit) => s) ?_ ?_
          · intro y12
            refine E_bipush (v := (-3)) dX11_lead_78 (by decide) ?_
            refine E_callSL [.int (-3)] [] dX11_lead_80 rfl kw_575 kw_576 kw_1 ko_X11_refusal hy_X11_refusal rfl (by decide) (Nat.le_of_ble_eq_true rfl) (c_X11_refusal Γ (-3) s) (fun v13 => ?_)
            exact E_lreturn dX11_lead_83 rfl rfl
          · intro K11 hK11
            refine E_ifeq 78 dX11_lead_58 (by decide) ?_ ?_
            · refine E_lvsub [] [] rfl ?_
              exact hK11 ()
            · refine E_iload 0 dX11_lead_61 rfl ?_
              refine E_ifeq 78 dX11_lead_63 (by decide) ?_ ?_
              · refine E_lvsub [] [] rfl ?_
                exact hK11 ()
              · refine E_aload_n 2 dX11_lead_66 rfl rfl ?_
                refine E_getR 1 (j := 0) (ci := 11) (T := TX11) (C0 := RX11) (ref := "SameWrong") dX11_lead_67 rfl (by decide) rfl inX11 (by decide) kw_316 rfl rfl rfl ?_
                refine E_getR 11 (j := 0) (ci := 4) (T := TX4) (C0 := RX4) (ref := "SameWrong$Key") dX11_lead_70 rfl (by decide) rfl inX4 (by decide) kw_35 rfl rfl rfl ?_
                refine E_iload_n 3 dX11_lead_73 rfl rfl ?_
                refine E_iaload dX11_lead_74 rfl (by decide) ?_
                refine E_ifne 84 dX11_lead_75 (by decide) ?_ ?_
                · refine E_aload_n 2 dX11_lead_84 rfl rfl ?_
                  refine E_getR 4 (j := 3) (ci := 11) (T := TX11) (C0 := RX11) (ref := "SameWrong") dX11_lead_85 rfl (by decide) rfl inX11 (by decide) kw_319 rfl rfl rfl ?_
                  refine E_iload_n 3 dX11_lead_88 rfl rfl ?_
                  refine E_iload 1 dX11_lead_89 rfl ?_
                  refine E_callVI (T := TX5) (ci := 5) [.int a1, .int v8] [] dX11_lead_91 rfl kw_707 kw_708 kw_709 kw_6 ko_X5_rightsTo rfl hy_X5_rightsTo rfl (by decide) (Nat.le_of_ble_eq_true rfl) rfl (by decide) rfl (c_X5_rightsTo Γ a1 v8 s) (fun v14 => ?_)
                  refine E_iload 0 dX11_lead_94 rfl ?_
                  refine E_callSI [.int v10] [.int v14] dX11_lead_96 rfl kw_711 kw_632 kw_16 ko_J6_bitCount_0f7a4 hy_J6_bitCount_0f7a4 rfl (by decide) (Nat.le_of_ble_eq_true rfl) (c_J6_bitCount_0f7a4 Γ v10 s) (fun v15 => ?_)
                  refine E_imul dX11_lead_99 ?_
                  refine E_aload_n 2 dX11_lead_100 rfl rfl ?_
                  refine E_getR 4 (j := 3) (ci := 11) (T := TX11) (C0 := RX11) (ref := "SameWrong") dX11_lead_101 rfl (by decide) rfl inX11 (by decide) kw_319 rfl rfl rfl ?_
                  refine E_iload_n 3 dX11_lead_104 rfl rfl ?_
                  refine E_iload 0 dX11_lead_105 rfl ?_
                  refine E_callVI (T := TX5) (ci := 5) [.int a1, .int v10] [.int (v14 * v15)] dX11_lead_107 rfl kw_707 kw_708 kw_709 kw_6 ko_X5_rightsTo rfl hy_X5_rightsTo rfl (by decide) (Nat.le_of_ble_eq_true rfl) rfl (by decide) rfl (c_X5_rightsTo Γ a1 v10 s) (fun v16 => ?_)
                  refine E_iload 1 dX11_lead_110 rfl ?_
                  refine E_callSI [.int v8] [.int v16, .int (v14 * v15)] dX11_lead_112 rfl kw_711 kw_632 kw_16 ko_J6_bitCount_0f7a4 hy_J6_bitCount_0f7a4 rfl (by decide) (Nat.le_of_ble_eq_true rfl) (c_J6_bitCount_0f7a4 Γ v8 s) (fun v17 => ?_)
                  refine E_imul dX11_lead_115 ?_
                  refine E_isub dX11_lead_116 ?_
                  refine E_i2l dX11_lead_117 ?_
                  refine E_lstore [(6, .long (((v14 * v15) - (v16 * v17)).toInt64)), (5, .int v10), (4, .int v8), (0, .ref (Γ.2.1 0)), (1, .int a1), (2, .int a2), (3, .int a3)] dX11_lead_118 (by decide) rfl ?_
                  refine E_bl (fun v18 => [(6, .long v18), (5, .int v10), (4, .int v8), (0, .ref (Γ.2.1 0)), (1, .int a1), (2, .int a2), (3, .int a3)]) (fun v18 => ?_) (((v14 * v15) - (v16 * v17)).toInt64)
                  refine E_aload_n 3 dX11_lead_120 rfl rfl ?_
                  refine E_getR 10 (j := 9) (ci := 11) (T := TX11) (C0 := RX11) (ref := "SameWrong") dX11_lead_121 rfl (by decide) rfl inX11 (by decide) kw_325 rfl rfl rfl ?_
                  refine E_lload 0 dX11_lead_124 rfl ?_
                  refine E_iload 2 dX11_lead_126 rfl ?_
                  refine E_callSI [.int v8] [.long v18, .ref (Γ.2.1 10)] dX11_lead_128 rfl kw_711 kw_632 kw_16 ko_J6_bitCount_0f7a4 hy_J6_bitCount_0f7a4 rfl (by decide) (Nat.le_of_ble_eq_true rfl) (c_J6_bitCount_0f7a4 Γ v8 s) (fun v19 => ?_)
                  refine E_iload 1 dX11_lead_131 rfl ?_
                  refine E_callSI [.int v10] [.int v19, .long v18, .ref (Γ.2.1 10)] dX11_lead_133 rfl kw_711 kw_632 kw_16 ko_J6_bitCount_0f7a4 hy_J6_bitCount_0f7a4 rfl (by decide) (Nat.le_of_ble_eq_true rfl) (c_J6_bitCount_0f7a4 Γ v10 s) (fun v20 => ?_)
                  refine E_imul dX11_lead_136 ?_
                  refine E_i2l dX11_lead_137 ?_
                  refine E_callVV (T := TX1) (ci := 1) [.long v18, .long ((v19 * v20).toInt64)] [] dX11_lead_138 rfl kw_716 kw_558 kw_559 kw_5 ko_X1_become rfl hy_X1_become rfl (by decide) (Nat.le_of_ble_eq_true rfl) rfl (by decide) rfl (c_X1_become Γ v18 ((v19 * v20).toInt64) s) (fun s21 => ?_)
                  refine E_aload_n 3 dX11_lead_141 rfl rfl ?_
                  refine E_getR 10 (j := 9) (ci := 11) (T := TX11) (C0 := RX11) (ref := "SameWrong") dX11_lead_142 rfl (by decide) rfl inX11 (by decide) kw_325 rfl rfl rfl ?_
                  refine E_iload_n 6 dX11_lead_145 rfl rfl ?_
                  refine E_callVL (T := TX1) (ci := 1) [.int a3] [] dX11_lead_146 rfl kw_580 kw_581 kw_582 kw_5 ko_X1_part rfl hy_X1_part rfl (by decide) (Nat.le_of_ble_eq_true rfl) rfl (by decide) rfl (c_X1_part Γ a3 s21) (fun v22 => ?_)
                  exact E_lreturn dX11_lead_149 rfl rfl
                · refine E_lvsub [] [] rfl ?_
                  exact hK11 ()
        · refine E_lvsub [] [] rfl ?_
          exact hK2 ()
theorem c_X11_lead (Γ : GT) (a1 : Int32) (a2 : Int32) (a3 : Int32) (s : St)  (x : (Int64 × St)) (h : f_X11_lead a1 a2 a3 s = some x) (l : Launch) : MC l yX11_lead cX11_lead 8 (some .long) 3 WC Γ [.ref (Γ.2.1 0), .int a1, .int a2, .int a3] s (emLS x) := MC_of (by decide +kernel) (Nat.le_of_ble_eq_true rfl) (e_X11_lead Γ a1 a2 a3 s ) h l
set_option maxRecDepth 100000 in
set_option maxHeartbeats 4000000 in
theorem e_X11_rest (Γ : GT) (a1 : Int32) (a2 : Int32) (a3 : Int32) (s : St)  : E RX11 cX11_rest 5 (some .long) 4 WC Γ emLS 0 [(0, .ref (Γ.2.1 0)), (1, .int a1), (2, .int a2), (3, .int a3)] [] s (f_X11_rest a1 a2 a3 s) := by
  unfold f_X11_rest
  refine E_aload_n 0 dX11_rest_0 rfl rfl ?_
  refine E_iload_n 1 dX11_rest_1 rfl rfl ?_
  refine E_callVZ (T := TX11) (ci := 11) [.int a1] [] dX11_rest_2 rfl kw_400 kw_402 kp_2 kw_1 ko_X11_isQuestion rfl hy_X11_isQuestion rfl (by decide) (Nat.le_of_ble_eq_true rfl) rfl (by decide) rfl (c_X11_isQuestion Γ a1 s) (fun v1 => ?_)
  refine E_jn 24 (fun (y : Unit) => []) (fun (y : Unit) => []) (fun (y : Unit) => s) ?_ ?_
  · intro y3
    refine E_bipush (v := (-2)) dX11_rest_24 (by decide) ?_
    refine E_callSL [.int (-2)] [] dX11_rest_26 rfl kw_575 kw_576 kw_1 ko_X11_refusal hy_X11_refusal rfl (by decide) (Nat.le_of_ble_eq_true rfl) (c_X11_refusal Γ (-2) s) (fun v4 => ?_)
    exact E_lreturn dX11_rest_29 rfl rfl
  · intro K2 hK2
    refine E_ifeqb 24 dX11_rest_5 (by decide) ?_ ?_
    · refine E_lvsub [] [] rfl ?_
      exact hK2 ()
    · refine E_iload_n 2 dX11_rest_8 rfl rfl ?_
      refine E_iconst (v := 1) dX11_rest_9 (by decide) ?_
      refine E_iconst (v := 5) dX11_rest_10 (by decide) ?_
      refine E_callSZ [.int a2, .int 1, .int 5] [] dX11_rest_11 rfl kw_357 kw_358 kw_1 ko_X11_within hy_X11_within rfl (by decide) (Nat.le_of_ble_eq_true rfl) (c_X11_within Γ a2 1 5 s) (fun v5 => ?_)
      refine E_ifeqb 24 dX11_rest_14 (by decide) ?_ ?_
      · refine E_lvsub [] [] rfl ?_
        exact hK2 ()
      · refine E_iload_n 3 dX11_rest_17 rfl rfl ?_
        refine E_callSZ [.int a3] [] dX11_rest_18 rfl kw_572 kw_573 kw_1 ko_X11_isPart hy_X11_isPart rfl (by decide) (Nat.le_of_ble_eq_true rfl) (c_X11_isPart Γ a3 s) (fun v6 => ?_)
        refine E_ifneb 30 dX11_rest_21 (by decide) ?_ ?_
        · refine E_aload_n 0 dX11_rest_30 rfl rfl ?_
          refine E_getR 9 (j := 8) (ci := 11) (T := TX11) (C0 := RX11) (ref := "SameWrong") dX11_rest_31 rfl (by decide) rfl inX11 (by decide) kw_324 rfl rfl rfl ?_
          refine E_iload_n 1 dX11_rest_34 rfl rfl ?_
          refine E_iload_n 2 dX11_rest_35 rfl rfl ?_
          refine E_callVI (T := TX3) (ci := 3) [.int a1, .int a2] [] dX11_rest_36 rfl kw_721 kw_722 kw_723 kw_11 ko_X3_choosersOf rfl hy_X3_choosersOf rfl (by decide) (Nat.le_of_ble_eq_true rfl) rfl (by decide) rfl (c_X3_choosersOf Γ a1 a2 s) (fun v7 => ?_)
          refine E_istore [(4, .int v7), (0, .ref (Γ.2.1 0)), (1, .int a1), (2, .int a2), (3, .int a3)] dX11_rest_39 (by decide) rfl ?_
          refine E_iload 0 dX11_rest_41 rfl ?_
          refine E_ifne 52 dX11_rest_43 (by decide) ?_ ?_
          · refine E_aload_n 1 dX11_rest_52 rfl rfl ?_
            refine E_getR 10 (j := 9) (ci := 11) (T := TX11) (C0 := RX11) (ref := "SameWrong") dX11_rest_53 rfl (by decide) rfl inX11 (by decide) kw_325 rfl rfl rfl ?_
            refine E_aload_n 1 dX11_rest_56 rfl rfl ?_
            refine E_getR 9 (j := 8) (ci := 11) (T := TX11) (C0 := RX11) (ref := "SameWrong") dX11_rest_57 rfl (by decide) rfl inX11 (by decide) kw_324 rfl rfl rfl ?_
            refine E_iload_n 2 dX11_rest_60 rfl rfl ?_
            refine E_iload_n 3 dX11_rest_61 rfl rfl ?_
            refine E_callVI (T := TX3) (ci := 3) [.int a1, .int a2] [.ref (Γ.2.1 10)] dX11_rest_62 rfl kw_725 kw_726 kw_727 kw_11 ko_X3_restsOf rfl hy_X3_restsOf rfl (by decide) (Nat.le_of_ble_eq_true rfl) rfl (by decide) rfl (c_X3_restsOf Γ a1 a2 s) (fun v8 => ?_)
            refine E_i2l dX11_rest_65 ?_
            refine E_iload 0 dX11_rest_66 rfl ?_
            refine E_i2l dX11_rest_68 ?_
            refine E_callVV (T := TX1) (ci := 1) [.long v8.toInt64, .long v7.toInt64] [] dX11_rest_69 rfl kw_716 kw_558 kw_559 kw_5 ko_X1_become rfl hy_X1_become rfl (by decide) (Nat.le_of_ble_eq_true rfl) rfl (by decide) rfl (c_X1_become Γ v8.toInt64 v7.toInt64 s) (fun s9 => ?_)
            refine E_aload_n 1 dX11_rest_72 rfl rfl ?_
            refine E_getR 10 (j := 9) (ci := 11) (T := TX11) (C0 := RX11) (ref := "SameWrong") dX11_rest_73 rfl (by decide) rfl inX11 (by decide) kw_325 rfl rfl rfl ?_
            refine E_iload_n 4 dX11_rest_76 rfl rfl ?_
            refine E_callVL (T := TX1) (ci := 1) [.int a3] [] dX11_rest_77 rfl kw_580 kw_581 kw_582 kw_5 ko_X1_part rfl hy_X1_part rfl (by decide) (Nat.le_of_ble_eq_true rfl) rfl (by decide) rfl (c_X1_part Γ a3 s9) (fun v10 => ?_)
            exact E_lreturn dX11_rest_80 rfl rfl
          · refine E_bipush (v := (-3)) dX11_rest_46 (by decide) ?_
            refine E_callSL [.int (-3)] [] dX11_rest_48 rfl kw_575 kw_576 kw_1 ko_X11_refusal hy_X11_refusal rfl (by decide) (Nat.le_of_ble_eq_true rfl) (c_X11_refusal Γ (-3) s) (fun v11 => ?_)
            exact E_lreturn dX11_rest_51 rfl rfl
        · refine E_lvsub [] [] rfl ?_
          exact hK2 ()
theorem c_X11_rest (Γ : GT) (a1 : Int32) (a2 : Int32) (a3 : Int32) (s : St)  (x : (Int64 × St)) (h : f_X11_rest a1 a2 a3 s = some x) (l : Launch) : MC l yX11_rest cX11_rest 5 (some .long) 4 WC Γ [.ref (Γ.2.1 0), .int a1, .int a2, .int a3] s (emLS x) := MC_of (by decide +kernel) (Nat.le_of_ble_eq_true rfl) (e_X11_rest Γ a1 a2 a3 s ) h l
set_option maxRecDepth 100000 in
set_option maxHeartbeats 4000000 in
theorem e_X11_should (Γ : GT) (a1 : Int32) (s : St)  : E RX11 cX11_should 2 (some .int) 5 WC Γ (emI s) 0 [(0, .ref (Γ.2.1 0)), (1, .int a1)] [] s (f_X11_should a1 s) := by
  unfold f_X11_should
  refine E_aload_n 0 dX11_should_0 rfl rfl ?_
  refine E_iload_n 1 dX11_should_1 rfl rfl ?_
  refine E_callVZ (T := TX11) (ci := 11) [.int a1] [] dX11_should_2 rfl kw_400 kw_402 kp_2 kw_1 ko_X11_isQuestion rfl hy_X11_isQuestion rfl (by decide) (Nat.le_of_ble_eq_true rfl) rfl (by decide) rfl (c_X11_isQuestion Γ a1 s) (fun v1 => ?_)
  refine E_ifeqb 19 dX11_should_5 (by decide) ?_ ?_
  · refine E_bipush (v := (-2)) dX11_should_19 (by decide) ?_
    exact E_ireturn dX11_should_21 rfl rfl
  · refine E_aload_n 0 dX11_should_8 rfl rfl ?_
    refine E_getR 9 (j := 8) (ci := 11) (T := TX11) (C0 := RX11) (ref := "SameWrong") dX11_should_9 rfl (by decide) rfl inX11 (by decide) kw_324 rfl rfl rfl ?_
    refine E_iload_n 1 dX11_should_12 rfl rfl ?_
    refine E_callVI (T := TX3) (ci := 3) [.int a1] [] dX11_should_13 rfl kw_734 kw_735 kw_736 kw_11 ko_X3_bestChoice rfl hy_X3_bestChoice rfl (by decide) (Nat.le_of_ble_eq_true rfl) rfl (by decide) rfl (c_X3_bestChoice Γ a1 s) (fun v2 => ?_)
    refine E_goto 21 dX11_should_16 (by decide) ?_
    exact E_ireturn dX11_should_21 rfl rfl
theorem c_X11_should (Γ : GT) (a1 : Int32) (s : St)  (x : Int32) (h : f_X11_should a1 s = some x) (l : Launch) : MC l yX11_should cX11_should 2 (some .int) 5 WC Γ [.ref (Γ.2.1 0), .int a1] s ((emI s) x) := MC_of (by decide +kernel) (Nat.le_of_ble_eq_true rfl) (e_X11_should Γ a1 s ) h l
set_option maxRecDepth 100000 in
set_option maxHeartbeats 4000000 in
theorem e_X11_badly (Γ : GT)  (s : St)  : E RX11 cX11_badly 4 (some .int) 5 WC Γ (emI s) 0 [(0, .ref (Γ.2.1 0))] [] s (f_X11_badly  s) := by
  unfold f_X11_badly
  refine E_iconst (v := 0) dX11_badly_0 (by decide) ?_
  refine E_istore_n [(1, .int 0), (0, .ref (Γ.2.1 0))] dX11_badly_1 rfl (by decide) rfl ?_
  refine E_iconst (v := 0) dX11_badly_2 (by decide) ?_
  refine E_istore_n [(2, .int 0), (1, .int 0), (0, .ref (Γ.2.1 0))] dX11_badly_3 rfl (by decide) rfl ?_
  refine E_lp (F := L_X11_badly_4 s) (fun (x : Int32 × Int32) => [(2, .int x.1), (1, .int x.2), (0, .ref (Γ.2.1 0))]) (fun (x : Int32 × Int32) => s) ?_ NN (0, 0)
  intro r1 hr1 x2
  show E _ _ _ _ _ _ _ _ _ _ _ _ (L_X11_badly_4 s r1 x2)
  unfold L_X11_badly_4
  refine E_iload_n 0 dX11_badly_4 rfl rfl ?_
  refine E_aload_n 2 dX11_badly_5 rfl rfl ?_
  refine E_getR 1 (j := 0) (ci := 11) (T := TX11) (C0 := RX11) (ref := "SameWrong") dX11_badly_6 rfl (by decide) rfl inX11 (by decide) kw_316 rfl rfl rfl ?_
  refine E_getI (j := 2) (ci := 4) (T := TX4) (C0 := RX4) (ref := "SameWrong$Key") dX11_badly_9 rfl (by decide) rfl inX4 (by decide) kw_41 rfl rfl ?_
  refine E_icmpge 70 dX11_badly_12 (by decide) ?_ ?_
  · refine E_iload_n 1 dX11_badly_70 rfl rfl ?_
    exact E_ireturn dX11_badly_71 rfl rfl
  · refine E_aload_n 2 dX11_badly_15 rfl rfl ?_
    refine E_getR 1 (j := 0) (ci := 11) (T := TX11) (C0 := RX11) (ref := "SameWrong") dX11_badly_16 rfl (by decide) rfl inX11 (by decide) kw_316 rfl rfl rfl ?_
    refine E_getR 11 (j := 0) (ci := 4) (T := TX4) (C0 := RX4) (ref := "SameWrong$Key") dX11_badly_19 rfl (by decide) rfl inX4 (by decide) kw_35 rfl rfl rfl ?_
    refine E_iload_n 0 dX11_badly_22 rfl rfl ?_
    refine E_iaload dX11_badly_23 rfl (by decide) ?_
    refine E_jn 39 (fun (y : Int32) => [(2, .int x2.1), (1, .int x2.2), (0, .ref (Γ.2.1 0))]) (fun (y : Int32) => [.int y]) (fun (y : Int32) => s) ?_ ?_
    · intro y4
      refine E_istore_n [(3, .int y4), (2, .int x2.1), (1, .int x2.2), (0, .ref (Γ.2.1 0))] dX11_badly_39 rfl (by decide) rfl ?_
      refine E_iload_n 0 dX11_badly_40 rfl rfl ?_
      refine E_iconst (v := (-1)) dX11_badly_41 (by decide) ?_
      refine E_icmpeq 64 dX11_badly_42 (by decide) ?_ ?_
      · refine E_iinc 1 [(2, .int (x2.1 + 1)), (3, .int y4), (1, .int x2.2), (0, .ref (Γ.2.1 0))] dX11_badly_64 rfl rfl (by decide) rfl ?_
        refine E_goto 4 dX11_badly_67 (by decide) ?_
        refine E_lvsub [0, 2, 3] [(2, .int (x2.1 + 1)), (1, .int x2.2), (0, .ref (Γ.2.1 0))] rfl ?_
        exact hr1 (x2.1 + 1, x2.2)
      · refine E_iload_n 0 dX11_badly_45 rfl rfl ?_
        refine E_aload_n 3 dX11_badly_46 rfl rfl ?_
        refine E_getR 1 (j := 0) (ci := 11) (T := TX11) (C0 := RX11) (ref := "SameWrong") dX11_badly_47 rfl (by decide) rfl inX11 (by decide) kw_316 rfl rfl rfl ?_
        refine E_getR 11 (j := 0) (ci := 4) (T := TX4) (C0 := RX4) (ref := "SameWrong$Key") dX11_badly_50 rfl (by decide) rfl inX4 (by decide) kw_35 rfl rfl rfl ?_
        refine E_iload_n 1 dX11_badly_53 rfl rfl ?_
        refine E_iaload dX11_badly_54 rfl (by decide) ?_
        refine E_icmpeq 64 dX11_badly_55 (by decide) ?_ ?_
        · refine E_iinc 1 [(2, .int (x2.1 + 1)), (3, .int y4), (1, .int x2.2), (0, .ref (Γ.2.1 0))] dX11_badly_64 rfl rfl (by decide) rfl ?_
          refine E_goto 4 dX11_badly_67 (by decide) ?_
          refine E_lvsub [0, 2, 3] [(2, .int (x2.1 + 1)), (1, .int x2.2), (0, .ref (Γ.2.1 0))] rfl ?_
          exact hr1 (x2.1 + 1, x2.2)
        · refine E_iload_n 2 dX11_badly_58 rfl rfl ?_
          refine E_iconst (v := 1) dX11_badly_59 (by decide) ?_
          refine E_iload_n 1 dX11_badly_60 rfl rfl ?_
          refine E_ishl dX11_badly_61 ?_
          refine E_ior dX11_badly_62 ?_
          refine E_istore_n [(1, .int (x2.2 ||| (1 <<< (x2.1 &&& 31)))), (3, .int y4), (2, .int x2.1), (0, .ref (Γ.2.1 0))] dX11_badly_63 rfl (by decide) rfl ?_
          refine E_bv (fun v5 => [(1, .int v5), (3, .int y4), (2, .int x2.1), (0, .ref (Γ.2.1 0))]) (fun v5 => ?_) (x2.2 ||| (1 <<< (x2.1 &&& 31)))
          refine E_iinc 2 [(2, .int (x2.1 + 1)), (1, .int v5), (3, .int y4), (0, .ref (Γ.2.1 0))] dX11_badly_64 rfl rfl (by decide) rfl ?_
          refine E_goto 4 dX11_badly_67 (by decide) ?_
          refine E_lvsub [0, 1, 3] [(2, .int (x2.1 + 1)), (1, .int v5), (0, .ref (Γ.2.1 0))] rfl ?_
          exact hr1 (x2.1 + 1, v5)
    · intro K3 hK3
      refine E_ifne 31 dX11_badly_24 (by decide) ?_ ?_
      · refine E_aload_n 2 dX11_badly_31 rfl rfl ?_
        refine E_getR 9 (j := 8) (ci := 11) (T := TX11) (C0 := RX11) (ref := "SameWrong") dX11_badly_32 rfl (by decide) rfl inX11 (by decide) kw_324 rfl rfl rfl ?_
        refine E_iload_n 0 dX11_badly_35 rfl rfl ?_
        refine E_callVI (T := TX3) (ci := 3) [.int x2.1] [] dX11_badly_36 rfl kw_734 kw_735 kw_736 kw_11 ko_X3_bestChoice rfl hy_X3_bestChoice rfl (by decide) (Nat.le_of_ble_eq_true rfl) rfl (by decide) rfl (c_X3_bestChoice Γ x2.1 s) (fun v6 => ?_)
        exact hK3 v6
      · refine E_iconst (v := (-1)) dX11_badly_27 (by decide) ?_
        refine E_goto 39 dX11_badly_28 (by decide) ?_
        exact hK3 (-1)
theorem c_X11_badly (Γ : GT)  (s : St)  (x : Int32) (h : f_X11_badly  s = some x) (l : Launch) : MC l yX11_badly cX11_badly 4 (some .int) 5 WC Γ [.ref (Γ.2.1 0)] s ((emI s) x) := MC_of (by decide +kernel) (Nat.le_of_ble_eq_true rfl) (e_X11_badly Γ  s ) h l
set_option maxRecDepth 100000 in
set_option maxHeartbeats 4000000 in
theorem e_X11_without (Γ : GT) (a1 : Int32) (a2 : Int32) (s : St)  : E RX11 cX11_without 3 (some .int) 5 WC Γ emIS 0 [(0, .ref (Γ.2.1 0)), (1, .int a1), (2, .int a2)] [] s (f_X11_without a1 a2 s) := by
  unfold f_X11_without
  refine E_aload_n 0 dX11_without_0 rfl rfl ?_
  refine E_iload_n 1 dX11_without_1 rfl rfl ?_
  refine E_callVZ (T := TX11) (ci := 11) [.int a1] [] dX11_without_2 rfl kw_400 kw_402 kp_2 kw_1 ko_X11_isQuestion rfl hy_X11_isQuestion rfl (by decide) (Nat.le_of_ble_eq_true rfl) rfl (by decide) rfl (c_X11_isQuestion Γ a1 s) (fun v1 => ?_)
  refine E_ifeqb 17 dX11_without_5 (by decide) ?_ ?_
  · refine E_bipush (v := (-2)) dX11_without_17 (by decide) ?_
    exact E_ireturn dX11_without_19 rfl rfl
  · refine E_iload_n 2 dX11_without_8 rfl rfl ?_
    refine E_iconst (v := 0) dX11_without_9 (by decide) ?_
    refine E_iconst (v := 1) dX11_without_10 (by decide) ?_
    refine E_callSZ [.int a2, .int 0, .int 1] [] dX11_without_11 rfl kw_357 kw_358 kw_1 ko_X11_within hy_X11_within rfl (by decide) (Nat.le_of_ble_eq_true rfl) (c_X11_within Γ a2 0 1 s) (fun v2 => ?_)
    refine E_ifneb 20 dX11_without_14 (by decide) ?_ ?_
    · refine E_iload_n 2 dX11_without_20 rfl rfl ?_
      refine E_ifne 35 dX11_without_21 (by decide) ?_ ?_
      · refine E_aload_n 0 dX11_without_35 rfl rfl ?_
        refine E_getR 4 (j := 3) (ci := 11) (T := TX11) (C0 := RX11) (ref := "SameWrong") dX11_without_36 rfl (by decide) rfl inX11 (by decide) kw_319 rfl rfl rfl ?_
        refine E_iload_n 1 dX11_without_39 rfl rfl ?_
        refine E_callVI (T := TX5) (ci := 5) [.int a1] [] dX11_without_40 rfl kw_752 kw_753 kw_754 kw_6 ko_X5_otherPasses rfl hy_X5_otherPasses rfl (by decide) (Nat.le_of_ble_eq_true rfl) rfl (by decide) rfl (c_X5_otherPasses Γ a1 s) (fun v3 => ?_)
        exact E_ireturn dX11_without_43 rfl rfl
      · refine E_aload_n 0 dX11_without_24 rfl rfl ?_
        refine E_getR 4 (j := 3) (ci := 11) (T := TX11) (C0 := RX11) (ref := "SameWrong") dX11_without_25 rfl (by decide) rfl inX11 (by decide) kw_319 rfl rfl rfl ?_
        refine E_iload_n 1 dX11_without_28 rfl rfl ?_
        refine E_callVIS (T := TX5) (ci := 5) [.int a1] [] dX11_without_29 rfl kw_748 kw_749 kw_750 kw_6 ko_X5_otherRanks rfl hy_X5_otherRanks rfl (by decide) (Nat.le_of_ble_eq_true rfl) rfl (by decide) rfl (c_X5_otherRanks Γ a1 s) (fun p4 => ?_)
        refine E_goto 43 dX11_without_32 (by decide) ?_
        exact E_ireturn dX11_without_43 rfl rfl
    · refine E_bipush (v := (-2)) dX11_without_17 (by decide) ?_
      exact E_ireturn dX11_without_19 rfl rfl
theorem c_X11_without (Γ : GT) (a1 : Int32) (a2 : Int32) (s : St)  (x : (Int32 × St)) (h : f_X11_without a1 a2 s = some x) (l : Launch) : MC l yX11_without cX11_without 3 (some .int) 5 WC Γ [.ref (Γ.2.1 0), .int a1, .int a2] s (emIS x) := MC_of (by decide +kernel) (Nat.le_of_ble_eq_true rfl) (e_X11_without Γ a1 a2 s ) h l
set_option maxRecDepth 100000 in
set_option maxHeartbeats 4000000 in
theorem e_X11_hard (Γ : GT) (a1 : Int32) (a2 : Int32) (s : St)  : E RX11 cX11_hard 3 (some .long) 3 WC Γ emLS 0 [(0, .ref (Γ.2.1 0)), (1, .int a1), (2, .int a2)] [] s (f_X11_hard a1 a2 s) := by
  unfold f_X11_hard
  refine E_aload_n 0 dX11_hard_0 rfl rfl ?_
  refine E_iload_n 1 dX11_hard_1 rfl rfl ?_
  refine E_callVZ (T := TX11) (ci := 11) [.int a1] [] dX11_hard_2 rfl kw_400 kw_402 kp_2 kw_1 ko_X11_isQuestion rfl hy_X11_isQuestion rfl (by decide) (Nat.le_of_ble_eq_true rfl) rfl (by decide) rfl (c_X11_isQuestion Γ a1 s) (fun v1 => ?_)
  refine E_jn 15 (fun (y : Unit) => []) (fun (y : Unit) => []) (fun (y : Unit) => s) ?_ ?_
  · intro y3
    refine E_bipush (v := (-2)) dX11_hard_15 (by decide) ?_
    refine E_callSL [.int (-2)] [] dX11_hard_17 rfl kw_575 kw_576 kw_1 ko_X11_refusal hy_X11_refusal rfl (by decide) (Nat.le_of_ble_eq_true rfl) (c_X11_refusal Γ (-2) s) (fun v4 => ?_)
    exact E_lreturn dX11_hard_20 rfl rfl
  · intro K2 hK2
    refine E_ifeqb 15 dX11_hard_5 (by decide) ?_ ?_
    · refine E_lvsub [] [] rfl ?_
      exact hK2 ()
    · refine E_iload_n 2 dX11_hard_8 rfl rfl ?_
      refine E_callSZ [.int a2] [] dX11_hard_9 rfl kw_572 kw_573 kw_1 ko_X11_isPart hy_X11_isPart rfl (by decide) (Nat.le_of_ble_eq_true rfl) (c_X11_isPart Γ a2 s) (fun v5 => ?_)
      refine E_ifneb 21 dX11_hard_12 (by decide) ?_ ?_
      · refine E_aload_n 0 dX11_hard_21 rfl rfl ?_
        refine E_getR 2 (j := 1) (ci := 11) (T := TX11) (C0 := RX11) (ref := "SameWrong") dX11_hard_22 rfl (by decide) rfl inX11 (by decide) kw_317 rfl rfl rfl ?_
        refine E_getI (j := 0) (ci := 7) (T := TX7) (C0 := RX7) (ref := "SameWrong$Room") dX11_hard_25 rfl (by decide) rfl inX7 (by decide) kw_76 rfl rfl ?_
        refine E_jn 43 (fun (y : Unit) => []) (fun (y : Unit) => []) (fun (y : Unit) => s) ?_ ?_
        · intro y7
          refine E_bipush (v := (-3)) dX11_hard_43 (by decide) ?_
          refine E_callSL [.int (-3)] [] dX11_hard_45 rfl kw_575 kw_576 kw_1 ko_X11_refusal hy_X11_refusal rfl (by decide) (Nat.le_of_ble_eq_true rfl) (c_X11_refusal Γ (-3) s) (fun v8 => ?_)
          exact E_lreturn dX11_hard_48 rfl rfl
        · intro K6 hK6
          refine E_ifeq 43 dX11_hard_28 (by decide) ?_ ?_
          · refine E_lvsub [] [] rfl ?_
            exact hK6 ()
          · refine E_aload_n 0 dX11_hard_31 rfl rfl ?_
            refine E_getR 1 (j := 0) (ci := 11) (T := TX11) (C0 := RX11) (ref := "SameWrong") dX11_hard_32 rfl (by decide) rfl inX11 (by decide) kw_316 rfl rfl rfl ?_
            refine E_getR 11 (j := 0) (ci := 4) (T := TX4) (C0 := RX4) (ref := "SameWrong$Key") dX11_hard_35 rfl (by decide) rfl inX4 (by decide) kw_35 rfl rfl rfl ?_
            refine E_iload_n 1 dX11_hard_38 rfl rfl ?_
            refine E_iaload dX11_hard_39 rfl (by decide) ?_
            refine E_ifne 49 dX11_hard_40 (by decide) ?_ ?_
            · refine E_aload_n 0 dX11_hard_49 rfl rfl ?_
              refine E_getR 10 (j := 9) (ci := 11) (T := TX11) (C0 := RX11) (ref := "SameWrong") dX11_hard_50 rfl (by decide) rfl inX11 (by decide) kw_325 rfl rfl rfl ?_
              refine E_aload_n 0 dX11_hard_53 rfl rfl ?_
              refine E_getR 4 (j := 3) (ci := 11) (T := TX11) (C0 := RX11) (ref := "SameWrong") dX11_hard_54 rfl (by decide) rfl inX11 (by decide) kw_319 rfl rfl rfl ?_
              refine E_iload_n 1 dX11_hard_57 rfl rfl ?_
              refine E_aload_n 0 dX11_hard_58 rfl rfl ?_
              refine E_getR 2 (j := 1) (ci := 11) (T := TX11) (C0 := RX11) (ref := "SameWrong") dX11_hard_59 rfl (by decide) rfl inX11 (by decide) kw_317 rfl rfl rfl ?_
              refine E_callVI (T := TX7) (ci := 7) [] [.int a1, .ref (Γ.2.1 4), .ref (Γ.2.1 10)] dX11_hard_62 rfl kw_706 kw_628 kw_629 kw_3 ko_X7_allBits rfl hy_X7_allBits rfl (by decide) (Nat.le_of_ble_eq_true rfl) rfl (by decide) rfl (c_X7_allBits Γ s) (fun v9 => ?_)
              refine E_callVI (T := TX5) (ci := 5) [.int a1, .int v9] [.ref (Γ.2.1 10)] dX11_hard_65 rfl kw_707 kw_708 kw_709 kw_6 ko_X5_rightsTo rfl hy_X5_rightsTo rfl (by decide) (Nat.le_of_ble_eq_true rfl) rfl (by decide) rfl (c_X5_rightsTo Γ a1 v9 s) (fun v10 => ?_)
              refine E_i2l dX11_hard_68 ?_
              refine E_aload_n 0 dX11_hard_69 rfl rfl ?_
              refine E_getR 2 (j := 1) (ci := 11) (T := TX11) (C0 := RX11) (ref := "SameWrong") dX11_hard_70 rfl (by decide) rfl inX11 (by decide) kw_317 rfl rfl rfl ?_
              refine E_getI (j := 0) (ci := 7) (T := TX7) (C0 := RX7) (ref := "SameWrong$Room") dX11_hard_73 rfl (by decide) rfl inX7 (by decide) kw_76 rfl rfl ?_
              refine E_i2l dX11_hard_76 ?_
              refine E_callVV (T := TX1) (ci := 1) [.long v10.toInt64, .long ((s.1 2 0).toInt64)] [] dX11_hard_77 rfl kw_716 kw_558 kw_559 kw_5 ko_X1_become rfl hy_X1_become rfl (by decide) (Nat.le_of_ble_eq_true rfl) rfl (by decide) rfl (c_X1_become Γ v10.toInt64 ((s.1 2 0).toInt64) s) (fun s11 => ?_)
              refine E_aload_n 0 dX11_hard_80 rfl rfl ?_
              refine E_getR 10 (j := 9) (ci := 11) (T := TX11) (C0 := RX11) (ref := "SameWrong") dX11_hard_81 rfl (by decide) rfl inX11 (by decide) kw_325 rfl rfl rfl ?_
              refine E_iload_n 2 dX11_hard_84 rfl rfl ?_
              refine E_callVL (T := TX1) (ci := 1) [.int a2] [] dX11_hard_85 rfl kw_580 kw_581 kw_582 kw_5 ko_X1_part rfl hy_X1_part rfl (by decide) (Nat.le_of_ble_eq_true rfl) rfl (by decide) rfl (c_X1_part Γ a2 s11) (fun v12 => ?_)
              exact E_lreturn dX11_hard_88 rfl rfl
            · refine E_lvsub [] [] rfl ?_
              exact hK6 ()
      · refine E_lvsub [] [] rfl ?_
        exact hK2 ()
theorem c_X11_hard (Γ : GT) (a1 : Int32) (a2 : Int32) (s : St)  (x : (Int64 × St)) (h : f_X11_hard a1 a2 s = some x) (l : Launch) : MC l yX11_hard cX11_hard 3 (some .long) 3 WC Γ [.ref (Γ.2.1 0), .int a1, .int a2] s (emLS x) := MC_of (by decide +kernel) (Nat.le_of_ble_eq_true rfl) (e_X11_hard Γ a1 a2 s ) h l
set_option maxRecDepth 100000 in
set_option maxHeartbeats 4000000 in
theorem e_X11_parts (Γ : GT) (a1 : Int32) (a2 : Int32) (s : St)  : E RX11 cX11_parts 3 (some .long) 5 WC Γ emLS 0 [(0, .ref (Γ.2.1 0)), (1, .int a1), (2, .int a2)] [] s (f_X11_parts a1 a2 s) := by
  unfold f_X11_parts
  refine E_aload_n 0 dX11_parts_0 rfl rfl ?_
  refine E_iload_n 1 dX11_parts_1 rfl rfl ?_
  refine E_callVZ (T := TX11) (ci := 11) [.int a1] [] dX11_parts_2 rfl kw_400 kw_402 kp_2 kw_1 ko_X11_isQuestion rfl hy_X11_isQuestion rfl (by decide) (Nat.le_of_ble_eq_true rfl) rfl (by decide) rfl (c_X11_isQuestion Γ a1 s) (fun v1 => ?_)
  refine E_jn 15 (fun (y : Unit) => []) (fun (y : Unit) => []) (fun (y : Unit) => s) ?_ ?_
  · intro y3
    refine E_bipush (v := (-2)) dX11_parts_15 (by decide) ?_
    refine E_callSL [.int (-2)] [] dX11_parts_17 rfl kw_575 kw_576 kw_1 ko_X11_refusal hy_X11_refusal rfl (by decide) (Nat.le_of_ble_eq_true rfl) (c_X11_refusal Γ (-2) s) (fun v4 => ?_)
    exact E_lreturn dX11_parts_20 rfl rfl
  · intro K2 hK2
    refine E_ifeqb 15 dX11_parts_5 (by decide) ?_ ?_
    · refine E_lvsub [] [] rfl ?_
      exact hK2 ()
    · refine E_iload_n 2 dX11_parts_8 rfl rfl ?_
      refine E_callSZ [.int a2] [] dX11_parts_9 rfl kw_572 kw_573 kw_1 ko_X11_isPart hy_X11_isPart rfl (by decide) (Nat.le_of_ble_eq_true rfl) (c_X11_isPart Γ a2 s) (fun v5 => ?_)
      refine E_ifneb 21 dX11_parts_12 (by decide) ?_ ?_
      · refine E_aload_n 0 dX11_parts_21 rfl rfl ?_
        refine E_getR 2 (j := 1) (ci := 11) (T := TX11) (C0 := RX11) (ref := "SameWrong") dX11_parts_22 rfl (by decide) rfl inX11 (by decide) kw_317 rfl rfl rfl ?_
        refine E_getI (j := 0) (ci := 7) (T := TX7) (C0 := RX7) (ref := "SameWrong$Room") dX11_parts_25 rfl (by decide) rfl inX7 (by decide) kw_76 rfl rfl ?_
        refine E_iconst (v := 2) dX11_parts_28 (by decide) ?_
        refine E_jn 44 (fun (y : Unit) => []) (fun (y : Unit) => []) (fun (y : Unit) => s) ?_ ?_
        · intro y7
          refine E_bipush (v := (-3)) dX11_parts_44 (by decide) ?_
          refine E_callSL [.int (-3)] [] dX11_parts_46 rfl kw_575 kw_576 kw_1 ko_X11_refusal hy_X11_refusal rfl (by decide) (Nat.le_of_ble_eq_true rfl) (c_X11_refusal Γ (-3) s) (fun v8 => ?_)
          exact E_lreturn dX11_parts_49 rfl rfl
        · intro K6 hK6
          refine E_icmplt 44 dX11_parts_29 (by decide) ?_ ?_
          · refine E_lvsub [] [] rfl ?_
            exact hK6 ()
          · refine E_aload_n 0 dX11_parts_32 rfl rfl ?_
            refine E_getR 1 (j := 0) (ci := 11) (T := TX11) (C0 := RX11) (ref := "SameWrong") dX11_parts_33 rfl (by decide) rfl inX11 (by decide) kw_316 rfl rfl rfl ?_
            refine E_getR 11 (j := 0) (ci := 4) (T := TX4) (C0 := RX4) (ref := "SameWrong$Key") dX11_parts_36 rfl (by decide) rfl inX4 (by decide) kw_35 rfl rfl rfl ?_
            refine E_iload_n 1 dX11_parts_39 rfl rfl ?_
            refine E_iaload dX11_parts_40 rfl (by decide) ?_
            refine E_ifne 50 dX11_parts_41 (by decide) ?_ ?_
            · refine E_aload_n 0 dX11_parts_50 rfl rfl ?_
              refine E_getR 10 (j := 9) (ci := 11) (T := TX11) (C0 := RX11) (ref := "SameWrong") dX11_parts_51 rfl (by decide) rfl inX11 (by decide) kw_325 rfl rfl rfl ?_
              refine E_aload_n 0 dX11_parts_54 rfl rfl ?_
              refine E_getR 9 (j := 8) (ci := 11) (T := TX11) (C0 := RX11) (ref := "SameWrong") dX11_parts_55 rfl (by decide) rfl inX11 (by decide) kw_324 rfl rfl rfl ?_
              refine E_iload_n 1 dX11_parts_58 rfl rfl ?_
              refine E_callVIS (T := TX3) (ci := 3) [.int a1] [.ref (Γ.2.1 10)] dX11_parts_59 rfl kw_766 kw_767 kw_768 kw_11 ko_X3_betterLessWorse rfl hy_X3_betterLessWorse rfl (by decide) (Nat.le_of_ble_eq_true rfl) rfl (by decide) rfl (c_X3_betterLessWorse Γ a1 s) (fun p9 => ?_)
              refine E_i2l dX11_parts_62 ?_
              refine E_aload_n 0 dX11_parts_63 rfl rfl ?_
              refine E_getR 2 (j := 1) (ci := 11) (T := TX11) (C0 := RX11) (ref := "SameWrong") dX11_parts_64 rfl (by decide) rfl inX11 (by decide) kw_317 rfl rfl rfl ?_
              refine E_getI (j := 0) (ci := 7) (T := TX7) (C0 := RX7) (ref := "SameWrong$Room") dX11_parts_67 rfl (by decide) rfl inX7 (by decide) kw_76 rfl rfl ?_
              refine E_iconst (v := 2) dX11_parts_70 (by decide) ?_
              refine E_idiv dX11_parts_71 ?_
              refine E_i2l dX11_parts_72 ?_
              refine E_callVV (T := TX1) (ci := 1) [.long p9.1.toInt64, .long (((p9.2.1 2 0) / 2).toInt64)] [] dX11_parts_73 rfl kw_716 kw_558 kw_559 kw_5 ko_X1_become rfl hy_X1_become rfl (by decide) (Nat.le_of_ble_eq_true rfl) rfl (by decide) rfl (c_X1_become Γ p9.1.toInt64 (((p9.2.1 2 0) / 2).toInt64) p9.2) (fun s10 => ?_)
              refine E_aload_n 0 dX11_parts_76 rfl rfl ?_
              refine E_getR 10 (j := 9) (ci := 11) (T := TX11) (C0 := RX11) (ref := "SameWrong") dX11_parts_77 rfl (by decide) rfl inX11 (by decide) kw_325 rfl rfl rfl ?_
              refine E_iload_n 2 dX11_parts_80 rfl rfl ?_
              refine E_callVL (T := TX1) (ci := 1) [.int a2] [] dX11_parts_81 rfl kw_580 kw_581 kw_582 kw_5 ko_X1_part rfl hy_X1_part rfl (by decide) (Nat.le_of_ble_eq_true rfl) rfl (by decide) rfl (c_X1_part Γ a2 s10) (fun v11 => ?_)
              exact E_lreturn dX11_parts_84 rfl rfl
            · refine E_lvsub [] [] rfl ?_
              exact hK6 ()
      · refine E_lvsub [] [] rfl ?_
        exact hK2 ()
theorem c_X11_parts (Γ : GT) (a1 : Int32) (a2 : Int32) (s : St)  (x : (Int64 × St)) (h : f_X11_parts a1 a2 s = some x) (l : Launch) : MC l yX11_parts cX11_parts 3 (some .long) 5 WC Γ [.ref (Γ.2.1 0), .int a1, .int a2] s (emLS x) := MC_of (by decide +kernel) (Nat.le_of_ble_eq_true rfl) (e_X11_parts Γ a1 a2 s ) h l
set_option maxRecDepth 100000 in
set_option maxHeartbeats 4000000 in
theorem e_X11_sheet (Γ : GT) (a1 : Int32) (a2 : Int32) (a3 : Int32) (s : St)  : E RX11 cX11_sheet 4 (some .int) 3 WC Γ emIS 0 [(0, .ref (Γ.2.1 0)), (1, .int a1), (2, .int a2), (3, .int a3)] [] s (f_X11_sheet a1 a2 a3 s) := by
  unfold f_X11_sheet
  refine E_iload_n 1 dX11_sheet_0 rfl rfl ?_
  refine E_callSZ [.int a1] [] dX11_sheet_1 rfl kw_455 kw_456 kw_1 ko_X11_isSheet hy_X11_isSheet rfl (by decide) (Nat.le_of_ble_eq_true rfl) (c_X11_isSheet Γ a1 s) (fun v1 => ?_)
  refine E_ifeqb 22 dX11_sheet_4 (by decide) ?_ ?_
  · refine E_bipush (v := (-2)) dX11_sheet_22 (by decide) ?_
    exact E_ireturn dX11_sheet_24 rfl rfl
  · refine E_iload_n 2 dX11_sheet_7 rfl rfl ?_
    refine E_iconst (v := 0) dX11_sheet_8 (by decide) ?_
    refine E_iconst (v := 2) dX11_sheet_9 (by decide) ?_
    refine E_callSZ [.int a2, .int 0, .int 2] [] dX11_sheet_10 rfl kw_357 kw_358 kw_1 ko_X11_within hy_X11_within rfl (by decide) (Nat.le_of_ble_eq_true rfl) (c_X11_within Γ a2 0 2 s) (fun v2 => ?_)
    refine E_ifeqb 22 dX11_sheet_13 (by decide) ?_ ?_
    · refine E_bipush (v := (-2)) dX11_sheet_22 (by decide) ?_
      exact E_ireturn dX11_sheet_24 rfl rfl
    · refine E_iload_n 3 dX11_sheet_16 rfl rfl ?_
      refine E_bipush (v := 48) dX11_sheet_17 (by decide) ?_
      refine E_icmple 25 dX11_sheet_19 (by decide) ?_ ?_
      · refine E_iload_n 3 dX11_sheet_25 rfl rfl ?_
        refine E_ifge 35 dX11_sheet_26 (by decide) ?_ ?_
        · refine E_aload_n 0 dX11_sheet_35 rfl rfl ?_
          refine E_getR 31 (j := 10) (ci := 11) (T := TX11) (C0 := RX11) (ref := "SameWrong") dX11_sheet_36 rfl (by decide) rfl inX11 (by decide) kw_326 rfl rfl rfl ?_
          refine E_iload_n 1 dX11_sheet_39 rfl rfl ?_
          refine E_aaload (t := 0) dX11_sheet_40 (by decide) rfl (by decide) ?_
          refine E_iload_n 2 dX11_sheet_41 rfl rfl ?_
          refine E_iload_n 3 dX11_sheet_42 rfl rfl ?_
          refine E_callVV (T := TX9) (ci := 9) [.int a2, .int a3] [] dX11_sheet_43 rfl kw_779 kw_780 kw_781 kw_12 ko_X9_renew rfl hy_X9_renew rfl (by decide) (Nat.le_of_ble_eq_true rfl) (sh_sheets _) (lt_sheets _) rfl (c_X9_renew Γ (WC.2.2 31 a1.toNatClampNeg) a2 a3 s (sh_sheets _)) (fun s3 => ?_)
          refine E_iload_n 3 dX11_sheet_46 rfl rfl ?_
          exact E_ireturn dX11_sheet_47 rfl rfl
        · refine E_aload_n 0 dX11_sheet_29 rfl rfl ?_
          refine E_iconst (v := 5) dX11_sheet_30 (by decide) ?_
          refine E_callVIS (T := TX11) (ci := 11) [.int 5] [] dX11_sheet_31 rfl kw_458 kw_460 kp_6 kw_1 ko_X11_find rfl hy_X11_find rfl (by decide) (Nat.le_of_ble_eq_true rfl) rfl (by decide) rfl (c_X11_find Γ 5 s) (fun p4 => ?_)
          exact E_ireturn dX11_sheet_34 rfl rfl
      · refine E_bipush (v := (-2)) dX11_sheet_22 (by decide) ?_
        exact E_ireturn dX11_sheet_24 rfl rfl
theorem c_X11_sheet (Γ : GT) (a1 : Int32) (a2 : Int32) (a3 : Int32) (s : St)  (x : (Int32 × St)) (h : f_X11_sheet a1 a2 a3 s = some x) (l : Launch) : MC l yX11_sheet cX11_sheet 4 (some .int) 3 WC Γ [.ref (Γ.2.1 0), .int a1, .int a2, .int a3] s (emIS x) := MC_of (by decide +kernel) (Nat.le_of_ble_eq_true rfl) (e_X11_sheet Γ a1 a2 a3 s ) h l
set_option maxRecDepth 100000 in
set_option maxHeartbeats 4000000 in
theorem e_X11_lose (Γ : GT) (a1 : Int32) (s : St)  : E RX11 cX11_lose 2 (some .int) 3 WC Γ emIS 0 [(0, .ref (Γ.2.1 0)), (1, .int a1)] [] s (f_X11_lose a1 s) := by
  unfold f_X11_lose
  refine E_iload_n 1 dX11_lose_0 rfl rfl ?_
  refine E_callSZ [.int a1] [] dX11_lose_1 rfl kw_455 kw_456 kw_1 ko_X11_isSheet hy_X11_isSheet rfl (by decide) (Nat.le_of_ble_eq_true rfl) (c_X11_isSheet Γ a1 s) (fun v1 => ?_)
  refine E_ifneb 10 dX11_lose_4 (by decide) ?_ ?_
  · refine E_aload_n 0 dX11_lose_10 rfl rfl ?_
    refine E_getR 31 (j := 10) (ci := 11) (T := TX11) (C0 := RX11) (ref := "SameWrong") dX11_lose_11 rfl (by decide) rfl inX11 (by decide) kw_326 rfl rfl rfl ?_
    refine E_iload_n 1 dX11_lose_14 rfl rfl ?_
    refine E_aaload (t := 0) dX11_lose_15 (by decide) rfl (by decide) ?_
    refine E_getZ (j := 0) (ci := 9) (T := TX9) (C0 := RX9) (ref := "SameWrong$Sheet") dX11_lose_16 (sh_sheets _) (lt_sheets _) rfl inX9 (by decide) kw_300 rfl rfl ?_
    refine E_ifeq 28 dX11_lose_19 (by decide) ?_ ?_
    · refine E_aload_n 0 dX11_lose_28 rfl rfl ?_
      refine E_getR 31 (j := 10) (ci := 11) (T := TX11) (C0 := RX11) (ref := "SameWrong") dX11_lose_29 rfl (by decide) rfl inX11 (by decide) kw_326 rfl rfl rfl ?_
      refine E_iload_n 1 dX11_lose_32 rfl rfl ?_
      refine E_aaload (t := 0) dX11_lose_33 (by decide) rfl (by decide) ?_
      refine E_iconst (v := 1) dX11_lose_34 (by decide) ?_
      refine E_putZ (j := 0) (ci := 9) (T := TX9) (C0 := RX9) (ref := "SameWrong$Sheet") dX11_lose_35 (sh_sheets _) (lt_sheets _) rfl inX9 (by decide) kw_300 rfl tyX9_ok nmX9 rfl rfl rfl rfl ?_
      refine E_bd (fun s2 => ?_)
      refine E_aload_n 0 dX11_lose_38 rfl rfl ?_
      refine E_getR 31 (j := 10) (ci := 11) (T := TX11) (C0 := RX11) (ref := "SameWrong") dX11_lose_39 rfl (by decide) rfl inX11 (by decide) kw_326 rfl rfl rfl ?_
      refine E_iload_n 1 dX11_lose_42 rfl rfl ?_
      refine E_aaload (t := 0) dX11_lose_43 (by decide) rfl (by decide) ?_
      refine E_getI (j := 2) (ci := 9) (T := TX9) (C0 := RX9) (ref := "SameWrong$Sheet") dX11_lose_44 (sh_sheets _) (lt_sheets _) rfl inX9 (by decide) kw_304 rfl rfl ?_
      exact E_ireturn dX11_lose_47 rfl rfl
    · refine E_aload_n 0 dX11_lose_22 rfl rfl ?_
      refine E_iconst (v := 1) dX11_lose_23 (by decide) ?_
      refine E_callVIS (T := TX11) (ci := 11) [.int 1] [] dX11_lose_24 rfl kw_458 kw_460 kp_6 kw_1 ko_X11_find rfl hy_X11_find rfl (by decide) (Nat.le_of_ble_eq_true rfl) rfl (by decide) rfl (c_X11_find Γ 1 s) (fun p3 => ?_)
      exact E_ireturn dX11_lose_27 rfl rfl
  · refine E_bipush (v := (-2)) dX11_lose_7 (by decide) ?_
    exact E_ireturn dX11_lose_9 rfl rfl
theorem c_X11_lose (Γ : GT) (a1 : Int32) (s : St)  (x : (Int32 × St)) (h : f_X11_lose a1 s = some x) (l : Launch) : MC l yX11_lose cX11_lose 2 (some .int) 3 WC Γ [.ref (Γ.2.1 0), .int a1] s (emIS x) := MC_of (by decide +kernel) (Nat.le_of_ble_eq_true rfl) (e_X11_lose Γ a1 s ) h l
set_option maxRecDepth 100000 in
set_option maxHeartbeats 4000000 in
theorem e_X11_put (Γ : GT) (a1 : Int32) (a2 : Int32) (a3 : Int32) (a4 : Int32) (s : St)  : E RX11 cX11_put 6 (some .int) 3 WC Γ emIS 0 [(0, .ref (Γ.2.1 0)), (1, .int a1), (2, .int a2), (3, .int a3), (4, .int a4)] [] s (f_X11_put a1 a2 a3 a4 s) := by
  unfold f_X11_put
  refine E_iload_n 1 dX11_put_0 rfl rfl ?_
  refine E_callSZ [.int a1] [] dX11_put_1 rfl kw_455 kw_456 kw_1 ko_X11_isSheet hy_X11_isSheet rfl (by decide) (Nat.le_of_ble_eq_true rfl) (c_X11_isSheet Γ a1 s) (fun v1 => ?_)
  refine E_ifeqb 16 dX11_put_4 (by decide) ?_ ?_
  · refine E_bipush (v := (-2)) dX11_put_16 (by decide) ?_
    exact E_ireturn dX11_put_18 rfl rfl
  · refine E_iload_n 2 dX11_put_7 rfl rfl ?_
    refine E_iconst (v := 0) dX11_put_8 (by decide) ?_
    refine E_iconst (v := 2) dX11_put_9 (by decide) ?_
    refine E_callSZ [.int a2, .int 0, .int 2] [] dX11_put_10 rfl kw_357 kw_358 kw_1 ko_X11_within hy_X11_within rfl (by decide) (Nat.le_of_ble_eq_true rfl) (c_X11_within Γ a2 0 2 s) (fun v2 => ?_)
    refine E_ifneb 19 dX11_put_13 (by decide) ?_ ?_
    · refine E_aload_n 0 dX11_put_19 rfl rfl ?_
      refine E_getR 31 (j := 10) (ci := 11) (T := TX11) (C0 := RX11) (ref := "SameWrong") dX11_put_20 rfl (by decide) rfl inX11 (by decide) kw_326 rfl rfl rfl ?_
      refine E_iload_n 1 dX11_put_23 rfl rfl ?_
      refine E_aaload (t := 0) dX11_put_24 (by decide) rfl (by decide) ?_
      refine E_iload_n 2 dX11_put_25 rfl rfl ?_
      refine E_iload_n 3 dX11_put_26 rfl rfl ?_
      refine E_callVI (T := TX9) (ci := 9) [.int a2, .int a3] [] dX11_put_27 rfl kw_793 kw_794 kw_795 kw_12 ko_X9_findingAt rfl hy_X9_findingAt rfl (by decide) (Nat.le_of_ble_eq_true rfl) (sh_sheets _) (lt_sheets _) rfl (c_X9_findingAt Γ (WC.2.2 31 a1.toNatClampNeg) a2 a3 s (sh_sheets _)) (fun v3 => ?_)
      refine E_istore [(5, .int v3), (0, .ref (Γ.2.1 0)), (1, .int a1), (2, .int a2), (3, .int a3), (4, .int a4)] dX11_put_30 (by decide) rfl ?_
      refine E_iload 0 dX11_put_32 rfl ?_
      refine E_ifeq 44 dX11_put_34 (by decide) ?_ ?_
      · refine E_aload_n 1 dX11_put_44 rfl rfl ?_
        refine E_getR 31 (j := 10) (ci := 11) (T := TX11) (C0 := RX11) (ref := "SameWrong") dX11_put_45 rfl (by decide) rfl inX11 (by decide) kw_326 rfl rfl rfl ?_
        refine E_iload_n 2 dX11_put_48 rfl rfl ?_
        refine E_aaload (t := 0) dX11_put_49 (by decide) rfl (by decide) ?_
        refine E_iload_n 4 dX11_put_50 rfl rfl ?_
        refine E_iload 5 dX11_put_51 rfl ?_
        refine E_callVV (T := TX9) (ci := 9) [.int a3, .int a4] [] dX11_put_53 rfl kw_798 kw_799 kw_800 kw_12 ko_X9_store rfl hy_X9_store rfl (by decide) (Nat.le_of_ble_eq_true rfl) (sh_sheets _) (lt_sheets _) rfl (c_X9_store Γ (WC.2.2 31 a1.toNatClampNeg) a3 a4 s (sh_sheets _)) (fun s4 => ?_)
        refine E_iconst (v := 1) dX11_put_56 (by decide) ?_
        exact E_ireturn dX11_put_57 rfl rfl
      · refine E_aload_n 1 dX11_put_37 rfl rfl ?_
        refine E_iload 0 dX11_put_38 rfl ?_
        refine E_callVIS (T := TX11) (ci := 11) [.int v3] [] dX11_put_40 rfl kw_458 kw_460 kp_6 kw_1 ko_X11_find rfl hy_X11_find rfl (by decide) (Nat.le_of_ble_eq_true rfl) rfl (by decide) rfl (c_X11_find Γ v3 s) (fun p5 => ?_)
        exact E_ireturn dX11_put_43 rfl rfl
    · refine E_bipush (v := (-2)) dX11_put_16 (by decide) ?_
      exact E_ireturn dX11_put_18 rfl rfl
theorem c_X11_put (Γ : GT) (a1 : Int32) (a2 : Int32) (a3 : Int32) (a4 : Int32) (s : St)  (x : (Int32 × St)) (h : f_X11_put a1 a2 a3 a4 s = some x) (l : Launch) : MC l yX11_put cX11_put 6 (some .int) 3 WC Γ [.ref (Γ.2.1 0), .int a1, .int a2, .int a3, .int a4] s (emIS x) := MC_of (by decide +kernel) (Nat.le_of_ble_eq_true rfl) (e_X11_put Γ a1 a2 a3 a4 s ) h l
set_option maxRecDepth 100000 in
set_option maxHeartbeats 4000000 in
theorem e_X11_get (Γ : GT) (a1 : Int32) (a2 : Int32) (a3 : Int32) (s : St)  : E RX11 cX11_get 5 (some .int) 3 WC Γ emIS 0 [(0, .ref (Γ.2.1 0)), (1, .int a1), (2, .int a2), (3, .int a3)] [] s (f_X11_get a1 a2 a3 s) := by
  unfold f_X11_get
  refine E_iload_n 1 dX11_get_0 rfl rfl ?_
  refine E_callSZ [.int a1] [] dX11_get_1 rfl kw_455 kw_456 kw_1 ko_X11_isSheet hy_X11_isSheet rfl (by decide) (Nat.le_of_ble_eq_true rfl) (c_X11_isSheet Γ a1 s) (fun v1 => ?_)
  refine E_ifeqb 16 dX11_get_4 (by decide) ?_ ?_
  · refine E_ldcw (v := (-2147483648)) dX11_get_16 kw_806 ?_
    exact E_ireturn dX11_get_19 rfl rfl
  · refine E_iload_n 2 dX11_get_7 rfl rfl ?_
    refine E_iconst (v := 0) dX11_get_8 (by decide) ?_
    refine E_iconst (v := 2) dX11_get_9 (by decide) ?_
    refine E_callSZ [.int a2, .int 0, .int 2] [] dX11_get_10 rfl kw_357 kw_358 kw_1 ko_X11_within hy_X11_within rfl (by decide) (Nat.le_of_ble_eq_true rfl) (c_X11_within Γ a2 0 2 s) (fun v2 => ?_)
    refine E_ifneb 20 dX11_get_13 (by decide) ?_ ?_
    · refine E_aload_n 0 dX11_get_20 rfl rfl ?_
      refine E_getR 31 (j := 10) (ci := 11) (T := TX11) (C0 := RX11) (ref := "SameWrong") dX11_get_21 rfl (by decide) rfl inX11 (by decide) kw_326 rfl rfl rfl ?_
      refine E_iload_n 1 dX11_get_24 rfl rfl ?_
      refine E_aaload (t := 0) dX11_get_25 (by decide) rfl (by decide) ?_
      refine E_iload_n 2 dX11_get_26 rfl rfl ?_
      refine E_iload_n 3 dX11_get_27 rfl rfl ?_
      refine E_callVI (T := TX9) (ci := 9) [.int a2, .int a3] [] dX11_get_28 rfl kw_793 kw_794 kw_795 kw_12 ko_X9_findingAt rfl hy_X9_findingAt rfl (by decide) (Nat.le_of_ble_eq_true rfl) (sh_sheets _) (lt_sheets _) rfl (c_X9_findingAt Γ (WC.2.2 31 a1.toNatClampNeg) a2 a3 s (sh_sheets _)) (fun v3 => ?_)
      refine E_istore [(4, .int v3), (0, .ref (Γ.2.1 0)), (1, .int a1), (2, .int a2), (3, .int a3)] dX11_get_31 (by decide) rfl ?_
      refine E_iload 0 dX11_get_33 rfl ?_
      refine E_ifeq 49 dX11_get_35 (by decide) ?_ ?_
      · refine E_aload_n 1 dX11_get_49 rfl rfl ?_
        refine E_getR 31 (j := 10) (ci := 11) (T := TX11) (C0 := RX11) (ref := "SameWrong") dX11_get_50 rfl (by decide) rfl inX11 (by decide) kw_326 rfl rfl rfl ?_
        refine E_iload_n 2 dX11_get_53 rfl rfl ?_
        refine E_aaload (t := 0) dX11_get_54 (by decide) rfl (by decide) ?_
        refine E_getR (WC.2.2 (WC.2.2 31 a1.toNatClampNeg) 3) (j := 3) (ci := 9) (T := TX9) (C0 := RX9) (ref := "SameWrong$Sheet") dX11_get_55 (sh_sheets _) (lt_sheets _) rfl inX9 (by decide) kw_306 rfl rfl rfl ?_
        refine E_iload_n 4 dX11_get_58 rfl rfl ?_
        refine E_iaload dX11_get_59 (sh_srow _ (sh_sheets _)).1 (sh_srow _ (sh_sheets _)).2 ?_
        exact E_ireturn dX11_get_60 rfl rfl
      · refine E_aload_n 1 dX11_get_38 rfl rfl ?_
        refine E_iload 0 dX11_get_39 rfl ?_
        refine E_callVIS (T := TX11) (ci := 11) [.int v3] [] dX11_get_41 rfl kw_458 kw_460 kp_6 kw_1 ko_X11_find rfl hy_X11_find rfl (by decide) (Nat.le_of_ble_eq_true rfl) rfl (by decide) rfl (c_X11_find Γ v3 s) (fun p4 => ?_)
        refine E_pop dX11_get_44 rfl ?_
        refine E_ldcw (v := (-2147483648)) dX11_get_45 kw_806 ?_
        exact E_ireturn dX11_get_48 rfl rfl
    · refine E_ldcw (v := (-2147483648)) dX11_get_16 kw_806 ?_
      exact E_ireturn dX11_get_19 rfl rfl
theorem c_X11_get (Γ : GT) (a1 : Int32) (a2 : Int32) (a3 : Int32) (s : St)  (x : (Int32 × St)) (h : f_X11_get a1 a2 a3 s = some x) (l : Launch) : MC l yX11_get cX11_get 5 (some .int) 3 WC Γ [.ref (Γ.2.1 0), .int a1, .int a2, .int a3] s (emIS x) := MC_of (by decide +kernel) (Nat.le_of_ble_eq_true rfl) (e_X11_get Γ a1 a2 a3 s ) h l
set_option maxRecDepth 100000 in
set_option maxHeartbeats 4000000 in
theorem e_X11_copy (Γ : GT) (a1 : Int32) (a2 : Int32) (a3 : Int32) (a4 : Int32) (a5 : Int32) (s : St)  : E RX11 cX11_copy 8 (some .int) 3 WC Γ emIS 0 [(0, .ref (Γ.2.1 0)), (1, .int a1), (2, .int a2), (3, .int a3), (4, .int a4), (5, .int a5)] [] s (f_X11_copy a1 a2 a3 a4 a5 s) := by
  unfold f_X11_copy
  refine E_iload_n 1 dX11_copy_0 rfl rfl ?_
  refine E_callSZ [.int a1] [] dX11_copy_1 rfl kw_455 kw_456 kw_1 ko_X11_isSheet hy_X11_isSheet rfl (by decide) (Nat.le_of_ble_eq_true rfl) (c_X11_isSheet Γ a1 s) (fun v1 => ?_)
  refine E_ifeqb 14 dX11_copy_4 (by decide) ?_ ?_
  · refine E_bipush (v := (-2)) dX11_copy_14 (by decide) ?_
    exact E_ireturn dX11_copy_16 rfl rfl
  · refine E_iload_n 3 dX11_copy_7 rfl rfl ?_
    refine E_callSZ [.int a3] [] dX11_copy_8 rfl kw_455 kw_456 kw_1 ko_X11_isSheet hy_X11_isSheet rfl (by decide) (Nat.le_of_ble_eq_true rfl) (c_X11_isSheet Γ a3 s) (fun v2 => ?_)
    refine E_ifneb 17 dX11_copy_11 (by decide) ?_ ?_
    · refine E_aload_n 0 dX11_copy_17 rfl rfl ?_
      refine E_getR 31 (j := 10) (ci := 11) (T := TX11) (C0 := RX11) (ref := "SameWrong") dX11_copy_18 rfl (by decide) rfl inX11 (by decide) kw_326 rfl rfl rfl ?_
      refine E_iload_n 1 dX11_copy_21 rfl rfl ?_
      refine E_aaload (t := 0) dX11_copy_22 (by decide) rfl (by decide) ?_
      refine E_astore [(6, .ref (Γ.2.1 (WC.2.2 31 a1.toNatClampNeg))), (0, .ref (Γ.2.1 0)), (1, .int a1), (2, .int a2), (3, .int a3), (4, .int a4), (5, .int a5)] dX11_copy_23 (by decide) rfl ?_
      refine E_aload_n 1 dX11_copy_25 rfl rfl ?_
      refine E_getR 31 (j := 10) (ci := 11) (T := TX11) (C0 := RX11) (ref := "SameWrong") dX11_copy_26 rfl (by decide) rfl inX11 (by decide) kw_326 rfl rfl rfl ?_
      refine E_iload_n 4 dX11_copy_29 rfl rfl ?_
      refine E_aaload (t := 0) dX11_copy_30 (by decide) rfl (by decide) ?_
      refine E_astore [(7, .ref (Γ.2.1 (WC.2.2 31 a3.toNatClampNeg))), (6, .ref (Γ.2.1 (WC.2.2 31 a1.toNatClampNeg))), (0, .ref (Γ.2.1 0)), (1, .int a1), (2, .int a2), (3, .int a3), (4, .int a4), (5, .int a5)] dX11_copy_31 (by decide) rfl ?_
      refine E_aload 1 dX11_copy_33 rfl ?_
      refine E_getZ (j := 0) (ci := 9) (T := TX9) (C0 := RX9) (ref := "SameWrong$Sheet") dX11_copy_35 (sh_sheets _) (lt_sheets _) rfl inX9 (by decide) kw_300 rfl rfl ?_
      refine E_jn 49 (fun (y : Unit) => [(0, .ref (Γ.2.1 0))]) (fun (y : Unit) => []) (fun (y : Unit) => s) ?_ ?_
      · intro y4
        refine E_aload_n 0 dX11_copy_49 rfl rfl ?_
        refine E_iconst (v := 1) dX11_copy_50 (by decide) ?_
        refine E_callVIS (T := TX11) (ci := 11) [.int 1] [] dX11_copy_51 rfl kw_458 kw_460 kp_6 kw_1 ko_X11_find rfl hy_X11_find rfl (by decide) (Nat.le_of_ble_eq_true rfl) rfl (by decide) rfl (c_X11_find Γ 1 s) (fun p5 => ?_)
        exact E_ireturn dX11_copy_54 rfl rfl
      · intro K3 hK3
        refine E_ifne 49 dX11_copy_38 (by decide) ?_ ?_
        · refine E_lvsub [2] [(0, .ref (Γ.2.1 0))] rfl ?_
          exact hK3 ()
        · refine E_aload 0 dX11_copy_41 rfl ?_
          refine E_getZ (j := 0) (ci := 9) (T := TX9) (C0 := RX9) (ref := "SameWrong$Sheet") dX11_copy_43 (sh_sheets _) (lt_sheets _) rfl inX9 (by decide) kw_300 rfl rfl ?_
          refine E_ifeq 55 dX11_copy_46 (by decide) ?_ ?_
          · refine E_aload 1 dX11_copy_55 rfl ?_
            refine E_getI (j := 1) (ci := 9) (T := TX9) (C0 := RX9) (ref := "SameWrong$Sheet") dX11_copy_57 (sh_sheets _) (lt_sheets _) rfl inX9 (by decide) kw_302 rfl rfl ?_
            refine E_aload 0 dX11_copy_60 rfl ?_
            refine E_getI (j := 1) (ci := 9) (T := TX9) (C0 := RX9) (ref := "SameWrong$Sheet") dX11_copy_62 (sh_sheets _) (lt_sheets _) rfl inX9 (by decide) kw_302 rfl rfl ?_
            refine E_icmpeq 74 dX11_copy_65 (by decide) ?_ ?_
            · refine E_aload 1 dX11_copy_74 rfl ?_
              refine E_iload_n 4 dX11_copy_76 rfl rfl ?_
              refine E_iload 7 dX11_copy_77 rfl ?_
              refine E_callVZ (T := TX9) (ci := 9) [.int a2, .int a5] [] dX11_copy_79 rfl kw_811 kw_812 kw_813 kw_12 ko_X9_holds rfl hy_X9_holds rfl (by decide) (Nat.le_of_ble_eq_true rfl) (sh_sheets _) (lt_sheets _) rfl (c_X9_holds Γ (WC.2.2 31 a1.toNatClampNeg) a2 a5 s (sh_sheets _)) (fun v6 => ?_)
              refine E_jn 97 (fun (y : Unit) => [(0, .ref (Γ.2.1 0))]) (fun (y : Unit) => []) (fun (y : Unit) => s) ?_ ?_
              · intro y8
                refine E_aload_n 0 dX11_copy_97 rfl rfl ?_
                refine E_iconst (v := 2) dX11_copy_98 (by decide) ?_
                refine E_callVIS (T := TX11) (ci := 11) [.int 2] [] dX11_copy_99 rfl kw_458 kw_460 kp_6 kw_1 ko_X11_find rfl hy_X11_find rfl (by decide) (Nat.le_of_ble_eq_true rfl) rfl (by decide) rfl (c_X11_find Γ 2 s) (fun p9 => ?_)
                exact E_ireturn dX11_copy_102 rfl rfl
              · intro K7 hK7
                refine E_ifeqb 97 dX11_copy_82 (by decide) ?_ ?_
                · refine E_lvsub [2] [(0, .ref (Γ.2.1 0))] rfl ?_
                  exact hK7 ()
                · refine E_aload 0 dX11_copy_85 rfl ?_
                  refine E_iload 6 dX11_copy_87 rfl ?_
                  refine E_iload 7 dX11_copy_89 rfl ?_
                  refine E_callVZ (T := TX9) (ci := 9) [.int a4, .int a5] [] dX11_copy_91 rfl kw_811 kw_812 kw_813 kw_12 ko_X9_holds rfl hy_X9_holds rfl (by decide) (Nat.le_of_ble_eq_true rfl) (sh_sheets _) (lt_sheets _) rfl (c_X9_holds Γ (WC.2.2 31 a3.toNatClampNeg) a4 a5 s (sh_sheets _)) (fun v10 => ?_)
                  refine E_ifneb 103 dX11_copy_94 (by decide) ?_ ?_
                  · refine E_aload 1 dX11_copy_103 rfl ?_
                    refine E_getR (WC.2.2 (WC.2.2 31 a1.toNatClampNeg) 3) (j := 3) (ci := 9) (T := TX9) (C0 := RX9) (ref := "SameWrong$Sheet") dX11_copy_105 (sh_sheets _) (lt_sheets _) rfl inX9 (by decide) kw_306 rfl rfl rfl ?_
                    refine E_iload_n 4 dX11_copy_108 rfl rfl ?_
                    refine E_aload 0 dX11_copy_109 rfl ?_
                    refine E_getR (WC.2.2 (WC.2.2 31 a3.toNatClampNeg) 3) (j := 3) (ci := 9) (T := TX9) (C0 := RX9) (ref := "SameWrong$Sheet") dX11_copy_111 (sh_sheets _) (lt_sheets _) rfl inX9 (by decide) kw_306 rfl rfl rfl ?_
                    refine E_iload 6 dX11_copy_114 rfl ?_
                    refine E_iload 7 dX11_copy_116 rfl ?_
                    refine E_copy dX11_copy_118 kw_815 kw_817 kw_816 kw_17 (sh_srow _ (sh_sheets _)).1 (sh_srow _ (sh_sheets _)).1 (sh_srow _ (sh_sheets _)).2 (sh_srow _ (sh_sheets _)).2 (by decide) rfl ?_
                    refine E_bd (fun s11 => ?_)
                    refine E_iconst (v := 1) dX11_copy_121 (by decide) ?_
                    exact E_ireturn dX11_copy_122 rfl rfl
                  · refine E_lvsub [2] [(0, .ref (Γ.2.1 0))] rfl ?_
                    exact hK7 ()
            · refine E_aload_n 2 dX11_copy_68 rfl rfl ?_
              refine E_iconst (v := 4) dX11_copy_69 (by decide) ?_
              refine E_callVIS (T := TX11) (ci := 11) [.int 4] [] dX11_copy_70 rfl kw_458 kw_460 kp_6 kw_1 ko_X11_find rfl hy_X11_find rfl (by decide) (Nat.le_of_ble_eq_true rfl) rfl (by decide) rfl (c_X11_find Γ 4 s) (fun p12 => ?_)
              exact E_ireturn dX11_copy_73 rfl rfl
          · refine E_lvsub [2] [(0, .ref (Γ.2.1 0))] rfl ?_
            exact hK3 ()
    · refine E_bipush (v := (-2)) dX11_copy_14 (by decide) ?_
      exact E_ireturn dX11_copy_16 rfl rfl
theorem c_X11_copy (Γ : GT) (a1 : Int32) (a2 : Int32) (a3 : Int32) (a4 : Int32) (a5 : Int32) (s : St)  (x : (Int32 × St)) (h : f_X11_copy a1 a2 a3 a4 a5 s = some x) (l : Launch) : MC l yX11_copy cX11_copy 8 (some .int) 3 WC Γ [.ref (Γ.2.1 0), .int a1, .int a2, .int a3, .int a4, .int a5] s (emIS x) := MC_of (by decide +kernel) (Nat.le_of_ble_eq_true rfl) (e_X11_copy Γ a1 a2 a3 a4 a5 s ) h l
set_option maxRecDepth 100000 in
set_option maxHeartbeats 4000000 in
theorem e_X11_write (Γ : GT) (a1 : Int32) (a2 : Int32) (s : St)  : E RX11 cX11_write 6 (some .int) 3 WC Γ emIS 0 [(0, .ref (Γ.2.1 0)), (1, .int a1), (2, .int a2)] [] s (f_X11_write a1 a2 s) := by
  unfold f_X11_write
  refine E_aload_n 0 dX11_write_0 rfl rfl ?_
  refine E_iload_n 1 dX11_write_1 rfl rfl ?_
  refine E_callVZ (T := TX11) (ci := 11) [.int a1] [] dX11_write_2 rfl kw_435 kw_437 kp_4 kw_1 ko_X11_isPupil rfl hy_X11_isPupil rfl (by decide) (Nat.le_of_ble_eq_true rfl) rfl (by decide) rfl (c_X11_isPupil Γ a1 s) (fun v1 => ?_)
  refine E_ifeqb 15 dX11_write_5 (by decide) ?_ ?_
  · refine E_bipush (v := (-2)) dX11_write_15 (by decide) ?_
    exact E_ireturn dX11_write_17 rfl rfl
  · refine E_iload_n 2 dX11_write_8 rfl rfl ?_
    refine E_callSZ [.int a2] [] dX11_write_9 rfl kw_455 kw_456 kw_1 ko_X11_isSheet hy_X11_isSheet rfl (by decide) (Nat.le_of_ble_eq_true rfl) (c_X11_isSheet Γ a2 s) (fun v2 => ?_)
    refine E_ifneb 18 dX11_write_12 (by decide) ?_ ?_
    · refine E_aload_n 0 dX11_write_18 rfl rfl ?_
      refine E_getR 31 (j := 10) (ci := 11) (T := TX11) (C0 := RX11) (ref := "SameWrong") dX11_write_19 rfl (by decide) rfl inX11 (by decide) kw_326 rfl rfl rfl ?_
      refine E_iload_n 2 dX11_write_22 rfl rfl ?_
      refine E_aaload (t := 0) dX11_write_23 (by decide) rfl (by decide) ?_
      refine E_astore_n [(3, .ref (Γ.2.1 (WC.2.2 31 a2.toNatClampNeg))), (0, .ref (Γ.2.1 0)), (1, .int a1), (2, .int a2)] dX11_write_24 rfl (by decide) rfl ?_
      refine E_aload_n 0 dX11_write_25 rfl rfl ?_
      refine E_getZ (j := 0) (ci := 9) (T := TX9) (C0 := RX9) (ref := "SameWrong$Sheet") dX11_write_26 (sh_sheets _) (lt_sheets _) rfl inX9 (by decide) kw_300 rfl rfl ?_
      refine E_ifeq 38 dX11_write_29 (by decide) ?_ ?_
      · refine E_aload_n 0 dX11_write_38 rfl rfl ?_
        refine E_getI (j := 2) (ci := 9) (T := TX9) (C0 := RX9) (ref := "SameWrong$Sheet") dX11_write_39 (sh_sheets _) (lt_sheets _) rfl inX9 (by decide) kw_304 rfl rfl ?_
        refine E_aload_n 1 dX11_write_42 rfl rfl ?_
        refine E_getR 1 (j := 0) (ci := 11) (T := TX11) (C0 := RX11) (ref := "SameWrong") dX11_write_43 rfl (by decide) rfl inX11 (by decide) kw_316 rfl rfl rfl ?_
        refine E_getI (j := 2) (ci := 4) (T := TX4) (C0 := RX4) (ref := "SameWrong$Key") dX11_write_46 rfl (by decide) rfl inX4 (by decide) kw_41 rfl rfl ?_
        refine E_callSI [.int (s.1 (WC.2.2 31 a2.toNatClampNeg) 2), .int (s.1 1 2)] [] dX11_write_49 rfl kw_822 kw_373 kw_14 ko_J9_min_7cf53 hy_J9_min_7cf53 rfl (by decide) (Nat.le_of_ble_eq_true rfl) (c_J9_min_7cf53 Γ (s.1 (WC.2.2 31 a2.toNatClampNeg) 2) (s.1 1 2) s) (fun v3 => ?_)
        refine E_istore [(4, .int v3), (3, .ref (Γ.2.1 (WC.2.2 31 a2.toNatClampNeg))), (0, .ref (Γ.2.1 0)), (1, .int a1), (2, .int a2)] dX11_write_52 (by decide) rfl ?_
        refine E_iconst (v := 0) dX11_write_54 (by decide) ?_
        refine E_istore [(5, .int 0), (4, .int v3), (3, .ref (Γ.2.1 (WC.2.2 31 a2.toNatClampNeg))), (0, .ref (Γ.2.1 0)), (1, .int a1), (2, .int a2)] dX11_write_55 (by decide) rfl ?_
        refine E_lvsub [0, 1, 2, 3, 4] [(5, .int 0), (4, .int v3), (3, .ref (Γ.2.1 (WC.2.2 31 a2.toNatClampNeg))), (0, .ref (Γ.2.1 0)), (1, .int a1)] rfl ?_
        refine E_lp (F := L_X11_write_57 a1 a2 v3) (fun (x : Int32 × St) => [(5, .int x.1), (4, .int v3), (3, .ref (Γ.2.1 (WC.2.2 31 a2.toNatClampNeg))), (0, .ref (Γ.2.1 0)), (1, .int a1)]) (fun (x : Int32 × St) => x.2) ?_ NN (0, s)
        intro r4 hr4 x5
        show E _ _ _ _ _ _ _ _ _ _ _ _ (L_X11_write_57 a1 a2 v3 r4 x5)
        unfold L_X11_write_57
        refine E_iload 0 dX11_write_57 rfl ?_
        refine E_iload 1 dX11_write_59 rfl ?_
        refine E_icmpge 88 dX11_write_61 (by decide) ?_ ?_
        · refine E_iload 1 dX11_write_88 rfl ?_
          exact E_ireturn dX11_write_90 rfl rfl
        · refine E_aload_n 2 dX11_write_64 rfl rfl ?_
          refine E_iload 0 dX11_write_65 rfl ?_
          refine E_aload_n 3 dX11_write_67 rfl rfl ?_
          refine E_getR 3 (j := 2) (ci := 11) (T := TX11) (C0 := RX11) (ref := "SameWrong") dX11_write_68 rfl (by decide) rfl inX11 (by decide) kw_318 rfl rfl rfl ?_
          refine E_getR 32 (j := 3) (ci := 10) (T := TX10) (C0 := RX10) (ref := "SameWrong$Tellings") dX11_write_71 rfl (by decide) rfl inX10 (by decide) kw_104 rfl rfl rfl ?_
          refine E_iload_n 4 dX11_write_74 rfl rfl ?_
          refine E_aaload (t := 1) dX11_write_75 (by decide) rfl (by decide) ?_
          refine E_iload 0 dX11_write_76 rfl ?_
          refine E_iaload dX11_write_78 (sh_cur _) (lt_cur _) ?_
          refine E_callVV (T := TX9) (ci := 9) [.int x5.1, .int (x5.2.1 (WC.2.2 32 a1.toNatClampNeg) x5.1.toNatClampNeg)] [] dX11_write_79 rfl kw_798 kw_799 kw_800 kw_12 ko_X9_store rfl hy_X9_store rfl (by decide) (Nat.le_of_ble_eq_true rfl) (sh_sheets _) (lt_sheets _) rfl (c_X9_store Γ (WC.2.2 31 a2.toNatClampNeg) x5.1 (x5.2.1 (WC.2.2 32 a1.toNatClampNeg) x5.1.toNatClampNeg) x5.2 (sh_sheets _)) (fun s6 => ?_)
          refine E_iinc 0 [(5, .int (x5.1 + 1)), (4, .int v3), (3, .ref (Γ.2.1 (WC.2.2 31 a2.toNatClampNeg))), (0, .ref (Γ.2.1 0)), (1, .int a1)] dX11_write_82 rfl rfl (by decide) rfl ?_
          refine E_goto 57 dX11_write_85 (by decide) ?_
          exact hr4 (x5.1 + 1, s6)
      · refine E_aload_n 1 dX11_write_32 rfl rfl ?_
        refine E_iconst (v := 1) dX11_write_33 (by decide) ?_
        refine E_callVIS (T := TX11) (ci := 11) [.int 1] [] dX11_write_34 rfl kw_458 kw_460 kp_6 kw_1 ko_X11_find rfl hy_X11_find rfl (by decide) (Nat.le_of_ble_eq_true rfl) rfl (by decide) rfl (c_X11_find Γ 1 s) (fun p7 => ?_)
        exact E_ireturn dX11_write_37 rfl rfl
    · refine E_bipush (v := (-2)) dX11_write_15 (by decide) ?_
      exact E_ireturn dX11_write_17 rfl rfl
theorem c_X11_write (Γ : GT) (a1 : Int32) (a2 : Int32) (s : St)  (x : (Int32 × St)) (h : f_X11_write a1 a2 s = some x) (l : Launch) : MC l yX11_write cX11_write 6 (some .int) 3 WC Γ [.ref (Γ.2.1 0), .int a1, .int a2] s (emIS x) := MC_of (by decide +kernel) (Nat.le_of_ble_eq_true rfl) (e_X11_write Γ a1 a2 s ) h l
set_option maxRecDepth 100000 in
set_option maxHeartbeats 4000000 in
theorem e_X11_answersGiven (Γ : GT)  (s : St)  : E RX11 cX11_answersGiven 4 (some .int) 1 WC Γ (emI s) 0 [(0, .ref (Γ.2.1 0))] [] s (f_X11_answersGiven  s) := by
  unfold f_X11_answersGiven
  refine E_iconst (v := 0) dX11_answersGiven_0 (by decide) ?_
  refine E_istore_n [(1, .int 0), (0, .ref (Γ.2.1 0))] dX11_answersGiven_1 rfl (by decide) rfl ?_
  refine E_iconst (v := 0) dX11_answersGiven_2 (by decide) ?_
  refine E_istore_n [(2, .int 0), (1, .int 0), (0, .ref (Γ.2.1 0))] dX11_answersGiven_3 rfl (by decide) rfl ?_
  refine E_lp (F := L_X11_answersGiven_4 s) (fun (x : Int32 × Int32) => [(2, .int x.1), (1, .int x.2), (0, .ref (Γ.2.1 0))]) (fun (x : Int32 × Int32) => s) ?_ NN (0, 0)
  intro r1 hr1 x2
  show E _ _ _ _ _ _ _ _ _ _ _ _ (L_X11_answersGiven_4 s r1 x2)
  unfold L_X11_answersGiven_4
  refine E_iload_n 0 dX11_answersGiven_4 rfl rfl ?_
  refine E_aload_n 2 dX11_answersGiven_5 rfl rfl ?_
  refine E_getR 2 (j := 1) (ci := 11) (T := TX11) (C0 := RX11) (ref := "SameWrong") dX11_answersGiven_6 rfl (by decide) rfl inX11 (by decide) kw_317 rfl rfl rfl ?_
  refine E_getI (j := 0) (ci := 7) (T := TX7) (C0 := RX7) (ref := "SameWrong$Room") dX11_answersGiven_9 rfl (by decide) rfl inX7 (by decide) kw_76 rfl rfl ?_
  refine E_icmpge 57 dX11_answersGiven_12 (by decide) ?_ ?_
  · refine E_iload_n 1 dX11_answersGiven_57 rfl rfl ?_
    exact E_ireturn dX11_answersGiven_58 rfl rfl
  · refine E_iconst (v := 0) dX11_answersGiven_15 (by decide) ?_
    refine E_istore_n [(3, .int 0), (2, .int x2.1), (1, .int x2.2), (0, .ref (Γ.2.1 0))] dX11_answersGiven_16 rfl (by decide) rfl ?_
    refine E_lp (F := L_X11_answersGiven_17 s r1 x2) (fun (x : Int32 × Int32) => [(3, .int x.1), (2, .int x2.1), (1, .int x.2), (0, .ref (Γ.2.1 0))]) (fun (x : Int32 × Int32) => s) ?_ NN (0, x2.2)
    intro r3 hr3 x4
    show E _ _ _ _ _ _ _ _ _ _ _ _ (L_X11_answersGiven_17 s r1 x2 r3 x4)
    unfold L_X11_answersGiven_17
    refine E_iload_n 0 dX11_answersGiven_17 rfl rfl ?_
    refine E_aload_n 3 dX11_answersGiven_18 rfl rfl ?_
    refine E_getR 1 (j := 0) (ci := 11) (T := TX11) (C0 := RX11) (ref := "SameWrong") dX11_answersGiven_19 rfl (by decide) rfl inX11 (by decide) kw_316 rfl rfl rfl ?_
    refine E_getI (j := 2) (ci := 4) (T := TX4) (C0 := RX4) (ref := "SameWrong$Key") dX11_answersGiven_22 rfl (by decide) rfl inX4 (by decide) kw_41 rfl rfl ?_
    refine E_icmpge 51 dX11_answersGiven_25 (by decide) ?_ ?_
    · refine E_iinc 1 [(2, .int (x2.1 + 1)), (3, .int x4.1), (1, .int x4.2), (0, .ref (Γ.2.1 0))] dX11_answersGiven_51 rfl rfl (by decide) rfl ?_
      refine E_goto 4 dX11_answersGiven_54 (by decide) ?_
      refine E_lvsub [0, 2, 3] [(2, .int (x2.1 + 1)), (1, .int x4.2), (0, .ref (Γ.2.1 0))] rfl ?_
      exact hr1 (x2.1 + 1, x4.2)
    · refine E_aload_n 3 dX11_answersGiven_28 rfl rfl ?_
      refine E_getR 3 (j := 2) (ci := 11) (T := TX11) (C0 := RX11) (ref := "SameWrong") dX11_answersGiven_29 rfl (by decide) rfl inX11 (by decide) kw_318 rfl rfl rfl ?_
      refine E_getR 32 (j := 3) (ci := 10) (T := TX10) (C0 := RX10) (ref := "SameWrong$Tellings") dX11_answersGiven_32 rfl (by decide) rfl inX10 (by decide) kw_104 rfl rfl rfl ?_
      refine E_iload_n 1 dX11_answersGiven_35 rfl rfl ?_
      refine E_aaload (t := 1) dX11_answersGiven_36 (by decide) rfl (by decide) ?_
      refine E_iload_n 0 dX11_answersGiven_37 rfl rfl ?_
      refine E_iaload dX11_answersGiven_38 (sh_cur _) (lt_cur _) ?_
      refine E_ifeq 45 dX11_answersGiven_39 (by decide) ?_ ?_
      · refine E_iinc 0 [(3, .int (x4.1 + 1)), (2, .int x2.1), (1, .int x4.2), (0, .ref (Γ.2.1 0))] dX11_answersGiven_45 rfl rfl (by decide) rfl ?_
        refine E_goto 17 dX11_answersGiven_48 (by decide) ?_
        exact hr3 (x4.1 + 1, x4.2)
      · refine E_iinc 2 [(1, .int (x4.2 + 1)), (3, .int x4.1), (2, .int x2.1), (0, .ref (Γ.2.1 0))] dX11_answersGiven_42 rfl rfl (by decide) rfl ?_
        refine E_iinc 1 [(3, .int (x4.1 + 1)), (1, .int (x4.2 + 1)), (2, .int x2.1), (0, .ref (Γ.2.1 0))] dX11_answersGiven_45 rfl rfl (by decide) rfl ?_
        refine E_goto 17 dX11_answersGiven_48 (by decide) ?_
        refine E_lvsub [0, 2, 1, 3] [(3, .int (x4.1 + 1)), (2, .int x2.1), (1, .int (x4.2 + 1)), (0, .ref (Γ.2.1 0))] rfl ?_
        exact hr3 (x4.1 + 1, x4.2 + 1)
theorem c_X11_answersGiven (Γ : GT)  (s : St)  (x : Int32) (h : f_X11_answersGiven  s = some x) (l : Launch) : MC l yX11_answersGiven cX11_answersGiven 4 (some .int) 1 WC Γ [.ref (Γ.2.1 0)] s ((emI s) x) := MC_of (by decide +kernel) (Nat.le_of_ble_eq_true rfl) (e_X11_answersGiven Γ  s ) h l
