/-! the law from its entry -/
theorem va_P_l {D : va_G} {cl : List vw_C} {u v : va_W} {H : Heap} (h : va_P D cl (u ++ v) H) : va_P D cl u H := fun k q hk => h k q (by rw [List.getElem?_append_left (List.getElem?_eq_some_iff.mp hk).1]; exact hk)
theorem app_r {u v : va_W} {k : Nat} {q : Nat × va_E} (hk : v[k]? = some q) : (u ++ v)[u.length + k]? = some q := by
  rw [List.getElem?_append_right (by omega), Nat.add_sub_cancel_left]; exact hk
theorem app_l {u v : va_W} {k : Nat} {q : Nat × va_E} (hk : u[k]? = some q) : (u ++ v)[k]? = some q := by
  rw [List.getElem?_append_left (List.getElem?_eq_some_iff.mp hk).1]; exact hk
theorem va_P_r {D : va_G} {cl : List vw_C} {u v : va_W} {H : Heap} (h : va_P D cl (u ++ v) H) : va_P D cl v H := fun k q hk => h _ q (app_r hk)
theorem va_D_l {A : Nat → Prop} {u v : va_W} (h : va_D A (u ++ v)) : va_D A u := ⟨fun i j p q hi hj e => h.1 i j p q (app_l hi) (app_l hj) e, fun k q hk => h.2 k q (app_l hk)⟩
theorem va_D_r {A : Nat → Prop} {u v : va_W} (h : va_D A (u ++ v)) : va_D A v := ⟨fun i j p q hi hj e => by
  have := h.1 _ _ p q (app_r hi) (app_r hj) e
  omega, fun k q hk => h.2 _ q (app_r hk)⟩
theorem va_D_x {A : Nat → Prop} {u v : va_W} (h : va_D A (u ++ v)) {i j : Nat} {p q : Nat × va_E} (hi : u[i]? = some p) (hj : v[j]? = some q) : p.1 ≠ q.1 := fun e => by
  have h1 := h.1 _ _ p q (app_l hi) (app_r hj) e
  have h2 := (List.getElem?_eq_some_iff.mp hi).1
  omega
theorem W_ctor {p : Program} {l : Launch} {e : Jvm.Env} {R : Room} {s : State} {m : MethodId} {args : Array Value} {below : List Frame} {meth : Method} {c : Code} {H : Heap} {locs : List Loc} {k n : Nat} {Q : State → Prop} {own : String} {cc : ByteArray} {nL pc : Nat} {ls : Array Slot} {rest : List Value} {D : va_G} {g : Nat → ClassId} {A : Nat → Prop} {y : MethodName} {bytes : ByteArray} {maxL d2 idx b ci mc2 ms2 : Nat} {fs0 : List Value} {W2 : (Nat → Nat) → va_W} {wr : va_W} (hS5 : CallFix p m c cc nL s args lw_good own) (hM : MN l y bytes maxL d2 D g [] b ci fs0 W2 mc2 ms2) (hP : va_P D vwCl (wr ++ [(b, .inr (ci, fs0))]) H) (hD : va_D A (wr ++ [(b, .inr (ci, fs0))])) (hS : va_S A s.heap H locs) (hA : ∀ q, s.heap.size ≤ q → A q) (hK : va_K D vwCl (atyL g) s) (hN : NX s) (hlk : Cond.methodLink own idx y ∈ lw_good) (hco : Cond.code y bytes maxL none ∈ lw_good) (hini : Cond.initialized y.cls ∈ lw_good) (hinm : Cond.instanceMethod y ∈ lw_good) (hyn : y.name = "<init>") (hy : y.cls ≠ "java/lang/invoke/MethodHandle" ∧ y.cls ≠ "java/lang/invoke/VarHandle" ∧ (parseMethodDescriptor y.desc).map (fun d => d.parameters.length) = some 0) (hR : d2 + 1 ≤ R.frames ∧ 8 + (maxL + 11) + 64 * d2 ≤ R.locals) (hcat : (rest.map fun v => v.category).sum ≤ 8) (hk : k + mc2 ≤ R.cells ∧ n + ms2 ≤ R.slots) (hls : ls.size = nL) (hd : decode cc pc = .ok (.invokespecial idx, 3)) (kk : ∀ (qs : Nat → Nat) (H1 : Heap) (locs1 : List Loc), va_P D vwCl (wr ++ W2 qs) H1 → va_D A (wr ++ W2 qs) → va_S A s.heap H1 locs1 → W p l e R s m args below meth c H1 locs1 (k + mc2) (n + ms2) Q (F0 m (pc + 3) ls rest)) : W p l e R s m args below meth c H locs k n Q (F0 m pc ls (.ref b :: rest)) := by
  have hA' : ∀ q, H.size ≤ q → A q := fun q hq => hA q (Nat.le_trans hS.1 hq)
  have hb : (wr ++ [(b, (.inr (ci, fs0) : va_E))])[wr.length]? = some (b, .inr (ci, fs0)) := by simp
  have hts := hS5.2.2.2.2
  have hpre : PreS s H (va_Pc [.ref b] (PN D g b ci fs0 H.size)) [.ref b] := ⟨PN_blind, fun U hU hW => ⟨rfl, by rw [hU], by rw [hU]; exact va_P_one (hP _ _ hb), va_K.moved hW.alike hK, ⟨fun i j x y hx hy e => by
    have h1 := (List.getElem?_eq_some_iff.mp hx).1
    have h2 := (List.getElem?_eq_some_iff.mp hy).1
    simp at h1 h2
    omega, fun _ _ _ => trivial⟩, NX_warm hW hN⟩⟩
  have hr : va_Run p l e R s m args below meth c H locs k n mc2 ms2 (F0 m pc ls (.ref b :: rest)) rest (QN D (va_A [(b, .inr (ci, fs0))] H.size) W2 ([Value.ref b] : List Value).toArray) (va_A [(b, .inr (ci, fs0))] H.size) :=
    va_runI (As := []) (rest := rest) hS5 (hM H.size) (cwI 0 hts (lw_goodIn hco) rfl rfl rfl (hts _ hini) (hts _ hlk) (hts _ hinm) hyn hy hR) hpre rfl rfl hls rfl (lv_room hcat) hd hk
  have hf : ∀ q, va_A [(b, (.inr (ci, fs0) : va_E))] H.size q → A q := by
    rintro q (⟨i, x, hx⟩ | hx)
    · have hz : i < 1 := (List.getElem?_eq_some_iff.mp hx).1
      rw [show i = 0 by omega] at hx
      cases hx
      exact hD.2 _ _ hb
    · exact hA' q hx
  refine va_callv hr hS (fun q _ hq => hf q hq) hf (fun qs t H1 locs1 ht hvm _ hB hz1 hk1 hS1 => ?_)
  obtain ⟨hP1, hD1⟩ := hB
  rw [ht] at hP1
  obtain ⟨hP2, hD2⟩ := n_join hP hD hA' hk1 hP1 hD1
  exact kk qs H1 locs1 hP2 hD2 hS1
theorem arr_of {s : State} {args : Array Value} {ty : FieldType} (h : (Cond.arrayClass ty).before args s = true) : ∃ c, ArrOfT s c ty ∧ s.vm.findClass ("[" ++ ty.toString) = some c := by
  obtain ⟨c, kA, comp, h1, h2, h3⟩ := Cond.arrayClass_spec h
  exact ⟨c, fun n z => ⟨fun k h => (by cases h), kA, h2, comp, h3⟩, h1⟩
theorem law_K {s : State} {args : Array Value} (hts0 : ∀ w ∈ lw_tbl, w.before args s = true) : ∃ (D : va_G) (g : Nat → ClassId), va_K D vwCl (atyL g) s ∧ NX s := by
  have hts : ∀ w ∈ lw_good, w.before args s = true := fun w hw => hts0 w (List.mem_filter.mp hw).1
  obtain ⟨c0, i0_, hk0⟩ := u_known (C := RX0) (T := TX0) (N := 5) (n := 5) hts inX0 (hts _ kw_249)
  obtain ⟨c1, i1, hk1⟩ := u_known (C := RX1) (T := TX1) (N := 2) (n := 2) hts inX1 (hts _ kw_137)
  obtain ⟨c2, i2, hk2⟩ := u_known (C := RX2) (T := TX2) (N := 7) (n := 7) hts inX2 (hts _ kw_221)
  obtain ⟨c3, i3, hk3⟩ := u_known (C := RX3) (T := TX3) (N := 5) (n := 5) hts inX3 (hts _ kw_271)
  obtain ⟨c4, i4, hk4⟩ := u_known (C := RX4) (T := TX4) (N := 6) (n := 6) hts inX4 (hts _ kw_27)
  obtain ⟨c5, i5, hk5⟩ := u_known (C := RX5) (T := TX5) (N := 6) (n := 6) hts inX5 (hts _ kw_152)
  obtain ⟨c6, i6, hk6⟩ := u_known (C := RX6) (T := TX6) (N := 7) (n := 7) hts inX6 (hts _ kw_191)
  obtain ⟨c7, i7, hk7⟩ := u_known (C := RX7) (T := TX7) (N := 3) (n := 3) hts inX7 (hts _ kw_65)
  obtain ⟨c8, i8, hk8⟩ := u_known (C := RX8) (T := TX8) (N := 2) (n := 2) hts inX8 (hts _ kw_178)
  obtain ⟨c9, i9, hk9⟩ := u_known (C := RX9) (T := TX9) (N := 4) (n := 4) hts inX9 (hts _ kw_294)
  obtain ⟨c10, i10, hk10⟩ := u_known (C := RX10) (T := TX10) (N := 10) (n := 10) hts inX10 (hts _ kw_87)
  obtain ⟨c11, i11, hk11⟩ := u_known (C := RX11) (T := TX11) (N := 12) (n := 12) hts inX11 (hts _ kw_19)
  obtain ⟨c12, i12, hk12⟩ := u_known (C := RX12) (T := TX12) (N := 30) (n := 30) hts inX12 (hts _ kw_869)
  obtain ⟨g0, x0, y0⟩ := arr_of (ty := .int) (hts _ kw_63)
  obtain ⟨g1, x1, y1⟩ := arr_of (ty := .long) (hts _ kw_219)
  obtain ⟨g2, x2, y2⟩ := arr_of (ty := .boolean) (hts _ kw_965)
  obtain ⟨p3, g3, k3, u1, u2, u3, u4, u5⟩ := Cond.arrayOver_spec (hts0 _ kn_293)
  obtain ⟨p4, g4, k4, v1, v2, v3, v4, v5⟩ := arrayOverA_spec (hts0 _ kn_93)
  refine ⟨(fun k => ([c0, c1, c2, c3, c4, c5, c6, c7, c8, c9, c10, c11, c12] : List ClassId).getD k c0, fun k => ([i0_, i1, i2, i3, i4, i5, i6, i7, i8, i9, i10, i11, i12] : List (Nat → Nat)).getD k i0_), fun k => ([g0, g1, g2, g3, g4] : List ClassId).getD k g0, ⟨fun k q hq => ?_, fun k q hq => ?_⟩, ?_⟩
  · match k, hq with
    | 0, hq => cases hq; exact hk0
    | 1, hq => cases hq; exact hk1
    | 2, hq => cases hq; exact hk2
    | 3, hq => cases hq; exact hk3
    | 4, hq => cases hq; exact hk4
    | 5, hq => cases hq; exact hk5
    | 6, hq => cases hq; exact hk6
    | 7, hq => cases hq; exact hk7
    | 8, hq => cases hq; exact hk8
    | 9, hq => cases hq; exact hk9
    | 10, hq => cases hq; exact hk10
    | 11, hq => cases hq; exact hk11
    | 12, hq => cases hq; exact hk12
    | k + 13, hq => simp [vwCl] at hq
  · match k, hq with
    | 0, hq => cases hq; exact ⟨x0, y0⟩
    | 1, hq => cases hq; exact ⟨x1, y1⟩
    | 2, hq => cases hq; exact ⟨x2, y2⟩
    | 3, hq => cases hq; exact ⟨fun n z => ⟨fun k h => (by cases h), k3, u3, p3, u4⟩, k3, p3, u3, u4, u1, u5⟩
    | 4, hq => cases hq; exact ⟨fun n z => ⟨fun k h => (by cases h), k4, v3, p4, v4⟩, v5⟩
    | k + 5, hq => simp [atyL] at hq
  · exact ⟨⟨va_Nw.of rfl (hts0 _ kn_375), va_Nw.of rfl (hts0 _ kn_797)⟩, va_Nw.of rfl (hts0 _ kn_28), va_Nw.of rfl (hts0 _ kn_66), va_Nw.of rfl (hts0 _ kn_88), va_Nw.of rfl (hts0 _ kn_138), va_Nw.of rfl (hts0 _ kn_295), va_AO.of (hts0 _ kn_293), AI_of (hts0 _ kn_93)⟩
set_option maxRecDepth 100000 in
theorem whole_start {p : Program} {e : Env} {s : State} {m : MethodId} {below : List Frame} {meth : Method} {c : Code} (l : Launch) (hflags : l.flags = flags0) {b L : Nat} {xs : Nat → Int32} (hL : L ≤ 3072) (C0 : lw_At p s m meth c b L xs) : W p l e room_1 s m #[Value.ref b] below meth c s.heap [] 0 0 (lw_Z below #[Value.ref b] s) (entryFrame m ([Value.ref b] : List Value).toArray 4) := by
  obtain ⟨hx, hb, hr, hml, hown0, hts0, hX, hbl, hlocks, hgv⟩ := id C0
  have hown : s.vm.findClass "SameWrongLaw" = some m.cls := hown0
  have hts : ∀ w ∈ lw_good, w.before #[Value.ref b] s = true := fun w hw => hts0 w (List.mem_filter.mp hw).1
  obtain ⟨D, g, hK, hN⟩ := law_K hts0
  have hA : ∀ q : Nat, s.heap.size ≤ q → (fun q : Nat => s.heap.size ≤ q) q := fun _ h => h
  have hS5 : CallFix p m c code 4 s #[Value.ref b] lw_good "SameWrongLaw" := ⟨hx, hb, hml, hown, hts⟩
  have hS : va_S (fun q : Nat => s.heap.size ≤ q) s.heap s.heap [] := va_S.rf
  have hP : va_P D vwCl [] s.heap := fun k q h => by simp at h
  have hD : va_D (fun q : Nat => s.heap.size ≤ q) [] := ⟨fun i j p q h => by simp at h, fun k q h => by simp at h⟩
  have hl := lv_entry ([.ref b]) (n := 4) (Nat.le_of_ble_eq_true rfl)
  rw [lg_entry_eq]
  generalize (lg_sl ([.ref b]) ++ List.replicate (4 - (lg_sl ([.ref b])).length) Slot.unset).toArray = ls at hl ⊢
  have hl : lv_has ls 4 [(0, .ref b)] := hl
  refine va_new (ci := 11) (fs := [.null, .null, .null, .null, .null, .null, .null, .null, .null, .null, .null, .int 0]) (C := RX11) (T := TX11) (N := 12) hx hb hts inX11 tyX11 tyX11_ok hown (hts _ kw_18) (hts _ kw_19) (hts _ kw_1) hK hP hD hS hA rfl (by decide) (Nat.le_of_ble_eq_true rfl) (Nat.le_of_ble_eq_true rfl) dL_law_0 (fun q0 H hP hD hS => ?_)
  refine lv_dup hx hb dL_law_3 rfl ?_
  refine W_ctor (wr := []) hS5 (n_X11 l D g q0) hP hD hS hA hK hN kw_20 kw_22 kw_1 kw_21 rfl ⟨by decide +kernel, by decide +kernel, by decide +kernel⟩ ⟨Nat.le_of_ble_eq_true rfl, Nat.le_of_ble_eq_true rfl⟩ (Nat.le_of_ble_eq_true rfl) ⟨Nat.le_of_ble_eq_true rfl, Nat.le_of_ble_eq_true rfl⟩ hl.1 dL_law_4 (fun qs H locs hP hD hS => ?_)
  refine lv_astore_n (lv' := [(1, .ref q0), (0, .ref b)]) hx hb dL_law_7 rfl hl (by decide) rfl (fun ls hl => ?_)
  refine va_new (ci := 12) (fs := [.int 0, .int 0, .null, .null, .null, .int 0, .null, .null, .int 0, .null, .null, .null, .null, .null, .null, .null, .null, .null, .long 0, .long 0, .null, .null, .null, .null, .null, .null, .null, .null, .null, .int 0]) (C := RX12) (T := TX12) (N := 30) hx hb hts inX12 tyX12 tyX12_ok hown (hts _ kw_868) (hts _ kw_869) (hts _ kw_13) hK hP hD hS hA rfl (by decide) (Nat.le_of_ble_eq_true rfl) (Nat.le_of_ble_eq_true rfl) dL_law_8 (fun q1 H hP hD hS => ?_)
  refine lv_dup hx hb dL_law_11 rfl ?_
  refine W_ctor (wr := [] ++ wn_X11 g q0 qs) hS5 (n_X12 l D g q1) hP hD hS hA hK hN kw_870 kw_872 kw_13 kw_871 rfl ⟨by decide +kernel, by decide +kernel, by decide +kernel⟩ ⟨Nat.le_of_ble_eq_true rfl, Nat.le_of_ble_eq_true rfl⟩ (Nat.le_of_ble_eq_true rfl) ⟨Nat.le_of_ble_eq_true rfl, Nat.le_of_ble_eq_true rfl⟩ hl.1 dL_law_12 (fun qt H locs hP hD hS => ?_)
  refine lv_astore_n (lv' := [(2, .ref q1), (1, .ref q0), (0, .ref b)]) hx hb dL_law_15 rfl hl (by decide) rfl (fun ls hl => ?_)
  refine lv_iconst (v := nI 0) hx hb dL_law_16 (by decide) ?_
  refine lv_istore_n (lv' := [(3, .int (nI 0)), (2, .ref q1), (1, .ref q0), (0, .ref b)]) hx hb dL_law_17 rfl hl (by decide) rfl (fun ls hl => ?_)
  have hP : va_P D vwCl (wn_X11 g q0 qs ++ wn_X12 g q1 qt) H := hP
  have hD : va_D (fun q : Nat => s.heap.size ≤ q) (wn_X11 g q0 qs ++ wn_X12 g q1 qt) := hD
  obtain ⟨I1, A1⟩ := wC_I (D := D) (va_D_l hD)
  obtain ⟨I2, A2⟩ := wM_I (D := D) (va_D_r hD)
  exact law_loop (Γc := (D, aC q0 qs, g)) (Γm := (D, aM q1 qt, g)) hL ⟨Nat.le_of_ble_eq_true rfl, Nat.le_of_ble_eq_true rfl⟩ (L + 1) 0 σC σM (Nat.zero_le L) (by omega) rel0 p l e s m below meth c ls H locs ⟨hx, hb, hml, hown, hts, hX, hbl, ⟨hK, hK⟩, hN.1, ⟨I1, I2⟩, ⟨A1, A2⟩, fun i hi j hj => by
    obtain ⟨e1, a1, _⟩ := wC_at D g q0 qs i hi
    obtain ⟨e2, a2, _⟩ := wM_at D g q1 qt j hj
    exact va_D_x hD a1 a2, hr, hlocks⟩ hl (wC_P (va_P_l hP)) (wM_P (va_P_r hP)) hS
