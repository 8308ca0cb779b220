/-! digest: what each call gives where the model is laid -/
def DG (σ τ : St) (n t P T pass lim : Nat) (rw_ pl tp tq : Nat → Nat) (ta tt : Nat → Int32) (as : Int32) : Prop :=
  RD σ τ n t P T pass lim rw_ pl tp tq ta tt as ∧ MW τ n P (kcF n t (σ.1 12)) (sayF tp tq ta (cntN tt as T)) rw_ pl lim ∧ RbM τ tp tq ta n (kcF n t (σ.1 12)) (cntN tt as T)
theorem wi_q {q n : Nat} (hq : q < n) (hn : n ≤ 12) : wiB (nI q) 0 (nI n - 1) = true := by
  rw [show nI n - 1 = nI (n - 1) by rw [show (1 : Int32) = nI 1 from rfl, pk_sub (by omega)]]
  exact wi_t (by omega) (by omega)
theorem wi_q' {q n : Nat} (hq : q < n) (hn : n ≤ 10) : wiB (nI q) 0 (nI n - 1) = true := wi_q hq (by omega)
section M31
variable {σ τ σ' τ' : St} {n t P T pass lim : Nat} {rw_ pl tp tq : Nat → Nat} {ta tt : Nat → Int32} {as : Int32}
theorem DG_Fr (h : DG σ τ n t P T pass lim rw_ pl tp tq ta tt as) (f : Fr σ σ') (g : FrL τ τ') : DG σ' τ' n t P T pass lim rw_ pl tp tq ta tt as := by
  obtain ⟨h1, h2, h3⟩ := h
  refine ⟨RD_Fr h1 f (FrL_M g), ?_, ?_⟩
  · rw [f 12 (by omega)]; exact MW_Fr h2 g
  · rw [f 12 (by omega)]
    intro p hp
    rw [g 11 (by omega), g 12 (by omega), g 13 (by omega)]
    exact h3 p hp
def mkW (n P : Nat) (kc : Nat → Int32) (sy : Nat → Nat → Int32) (pass p w : Nat) : Int32 := if w = 0 then nI (mkB n kc sy p (-1)) else if w = 1 then nI (rkN n P kc sy p (-1)) else if w = 2 then (if paB pass (mkB n kc sy p (-1)) (opN n kc (-1)) = true then 1 else 0) else nI (wrN n kc sy p)
theorem d_mark (h : DG σ τ n t P T pass lim rw_ pl tp tq ta tt as) {p w : Nat} (hp : p < P) (hw : w < 4) : (∃ s, f_X11_mark (nI p) (nI w) σ = some (mkW n P (kcF n t (σ.1 12)) (sayF tp tq ta (cntN tt as T)) pass p w, s) ∧ Fr σ s) ∧ f_X12_markOf (nI p) (nI w) τ = some (mkW n P (kcF n t (σ.1 12)) (sayF tp tq ta (cntN tt as T)) pass p w) := by
  obtain ⟨h, hM, hR⟩ := h
  obtain ⟨hC, hD⟩ := rd_C h
  have hn := hD.1
  have hP := hD.2.1
  have hp2 : p < 10 := by omega
  have s31 : τ.1 3 1 = nI pass := h.2.2.1.2.2.2.1
  unfold f_X11_mark f_X12_markOf mkW
  rw [p_c h, Option.bind_some, if_pos (wi_q' hp hP)]
  rcases (show w = 0 ∨ w = 1 ∨ w = 2 ∨ w = 3 by omega) with g | g | g | g <;> subst g
  · simp only [l00, l11, l22, l33, d10, d20, d21, d30, d31, d32, if_true, if_false]
    rw [c_markOf hC.1 hn hp2, m_markBut hM.1 hn hp2]
    exact ⟨⟨σ, rfl, Fr_rf⟩, rfl⟩
  · obtain ⟨s, ec, fc⟩ := c_rankOf hC.1 hn hP hp
    simp only [l00, l11, l22, l33, d10, d20, d21, d30, d31, d32, if_true, if_false, Nat.one_ne_zero]
    rw [ec, m_rankBut hM.1 hn hP hp]
    exact ⟨⟨s, rfl, fc⟩, rfl⟩
  · simp only [l00, l11, l22, l33, d10, d20, d21, d30, d31, d32, if_true, if_false, show ¬ (2 : Nat) = 0 by omega, show ¬ (2 : Nat) = 1 by omega]
    rw [c_markOf hC.1 hn hp2, Option.bind_some, h.1.2.2.2.2.2.2.2.2.1, c_passes h.2.2.1.2.2.1 h.2.2.1.1 (mk_le12 hn p _) (op_le12 hn _), m_passesBut hM.1 hn s31 h.2.2.1.1 hp2]
    cases paB pass (mkB n (kcF n t (σ.1 12)) (sayF tp tq ta (cntN tt as T)) p (-1)) (opN n (kcF n t (σ.1 12)) (-1))
    · exact ⟨⟨σ, rfl, Fr_rf⟩, rfl⟩
    · exact ⟨⟨σ, rfl, Fr_rf⟩, rfl⟩
  · simp only [l00, l11, l22, l33, d10, d20, d21, d30, d31, d32, if_true, if_false, show ¬ (3 : Nat) = 0 by omega, show ¬ (3 : Nat) = 1 by omega, show ¬ (3 : Nat) = 2 by omega]
    rw [c_wrongs hC.1 hn hp2, m_wrongs hM.1 hn hp2]
    exact ⟨⟨σ, rfl, Fr_rf⟩, rfl⟩
theorem d_rub (h : DG σ τ n t P T pass lim rw_ pl tp tq ta tt as) {p w : Nat} (hp : p < P) (hw : w < 3) : f_X11_rubbed (nI p) (nI w) σ = some (nI (rbP tp tq ta n (kcF n t (σ.1 12)) p (nI w) (cntN tt as T))) ∧ f_X12_rubbedOf (nI p) (nI w) τ = some (nI (rbP tp tq ta n (kcF n t (σ.1 12)) p (nI w) (cntN tt as T))) := by
  obtain ⟨h, hM, hR⟩ := h
  obtain ⟨hC, hD⟩ := rd_C h
  have hP := hD.2.1
  have hp2 : p < 10 := by omega
  obtain ⟨⟨k1, k2, k3, k4, k5, k6, k7, k8, k9, k10⟩, _, _, ⟨t1, t2, t3, t4, t5, t6⟩, _, _⟩ := id h
  have hle := cnt_le (tt := tt) (as := as) T
  obtain ⟨w0, w1, w2⟩ := hR p hp2
  unfold f_X11_rubbed f_X12_rubbedOf
  rw [p_c h, Option.bind_some, if_pos (wi_q' hp hP), c_within, Option.bind_some, if_pos (show wiB (nI w) 0 2 = true from wi_t (m := 2) (show w ≤ 2 by omega) (by omega)), c_rubOf t2 t1 t5.1 hle k3 k1 k10 hp2, Option.bind_some, inb_t (by omega) (by omega), gd_t, gd_t, gd_t, nI_clamp (by omega), w0, w1, w2]
  rcases (show w = 0 ∨ w = 1 ∨ w = 2 by omega) with g | g | g <;> subst g
  · exact ⟨rfl, rfl⟩
  · exact ⟨rfl, rfl⟩
  · exact ⟨rfl, rfl⟩
theorem d_seats (h : DG σ τ n t P T pass lim rw_ pl tp tq ta tt as) : ∃ r τ', f_X11_seats 0 σ = some (r, σ) ∧ f_X12_seatsNow 0 τ = some (r, τ') ∧ FrL τ τ' := by
  obtain ⟨h, hM, hR⟩ := h
  obtain ⟨hC, hD⟩ := rd_C h
  obtain ⟨τ', em, fm⟩ := m_seats hM hD 0
  unfold f_X11_seats
  rw [if_pos rfl, c_beside hC hD, Option.bind_some, em, if_pos rfl]
  exact ⟨_, τ', rfl, rfl, fm⟩
theorem d_sources (h : DG σ τ n t P T pass lim rw_ pl tp tq ta tt as) : ∃ r σ' τ', f_X11_sources σ = some (r, σ') ∧ f_X12_sourcesNow τ = some (r, τ') ∧ Fr σ σ' ∧ FrL τ τ' := by
  obtain ⟨h, hM, hR⟩ := h
  obtain ⟨hC, hD⟩ := rd_C h
  obtain ⟨σ', ec, fc⟩ := c_sources hC hD
  obtain ⟨τ', em, fm⟩ := m_sources hM hD
  exact ⟨_, σ', τ', ec, em, fc, fm⟩
theorem d_chain (h : DG σ τ n t P T pass lim rw_ pl tp tq ta tt as) : ∃ r σ' τ', f_X11_chain σ = some (r, σ') ∧ f_X12_chainNow τ = some (r, τ') ∧ Fr σ σ' ∧ FrL τ τ' := by
  obtain ⟨h, hM, hR⟩ := h
  obtain ⟨hC, hD⟩ := rd_C h
  obtain ⟨r1, r2⟩ := rd_rb h
  obtain ⟨σ', ec, fc⟩ := c_chain hC hD r1 r2
  obtain ⟨τ', em, fm⟩ := m_chain hM hD r2 (fun p hp => (hR p (Nat.lt_of_lt_of_le hp hD.2.1)).1)
  exact ⟨_, σ', τ', ec, em, fc, fm⟩
theorem d_gains (h : DG σ τ n t P T pass lim rw_ pl tp tq ta tt as) {k : Nat} (hk : k < 1024) {b : Int32} (hb : wiB b 0 1 = true) : ∃ r σ', f_X11_gains (nI k) b σ = some (r, σ') ∧ f_X12_gainsNow (nI k) b τ = some r ∧ Fr σ σ' := by
  obtain ⟨h, hM, hR⟩ := h
  obtain ⟨hC, hD⟩ := rd_C h
  unfold f_X11_gains
  rw [c_within, Option.bind_some, jn_e, if_pos (show wiB (nI k) 0 1023 = true from wi_t (m := 1023) (show k ≤ 1023 by omega) (by omega))]
  unfold f_X11_isPart
  rw [c_within, Option.bind_some, Option.bind_some, if_pos hb]
  obtain ⟨⟨k1, k2, k3, k4, k5, k6, k7, k8, k9, k10⟩, ⟨r1, _, _, _⟩, _, ⟨t1, t2, t3, t4, t5, t6⟩, _, _⟩ := id h
  have hle := cnt_le (tt := tt) (as := as) T
  have tP : ∀ i, i < cntN tt as T → tp i < P := fun i hi => (t6 i (by omega)).1
  have t10 : ∀ i, i < cntN tt as T → tp i < 10 := fun i hi => by have := tP i hi; omega
  have cA : ∀ w, f_X8_countOf 1023 w σ = some (nI (rbA tp tq ta n (kcF n t (σ.1 12)) 1023 w (cntN tt as T))) := fun w => c_countOf (a := 1023) t2 t1 t5.1 hle k3 k1 k10 (by omega)
  have cK : ∀ w, f_X8_countOf (nI k) w σ = some (nI (rbA tp tq ta n (kcF n t (σ.1 12)) k w (cntN tt as T))) := fun w => c_countOf t2 t1 t5.1 hle k3 k1 k10 (by omega)
  have m := m_gains b hR hM.1.2.1 hD.2.1 (by omega) tP (show k < 1024 by omega)
  have l0 := rbA_le (tp := tp) (tq := tq) (ta := ta) (n := n) (kc := kcF n t (σ.1 12)) 1023 0 (cntN tt as T)
  rw [cA 0, Option.bind_some, m]
  by_cases c : 60 < rbA tp tq ta n (kcF n t (σ.1 12)) 1023 0 (cntN tt as T)
  · rw [if_pos (show (60 : Int32) < nI _ by rw [show (60 : Int32) = nI 60 from rfl, nI_ltI (by omega) (by omega)]; exact c), if_pos c]
    exact ⟨_, σ, rfl, rfl, Fr_rf⟩
  · rw [if_neg (show ¬ (60 : Int32) < nI _ by rw [show (60 : Int32) = nI 60 from rfl, nI_ltI (by omega) (by omega)]; exact c), if_neg c]
    have v2 := rb_01 (tp := tp) (tq := tq) (ta := ta) (n := n) (kc := kcF n t (σ.1 12)) 1023 (cntN tt as T)
    have v3 := rb_sub (tq := tq) (ta := ta) (n := n) (kc := kcF n t (σ.1 12)) k 0 (cntN tt as T) t10
    have v5 := rb_01 (tp := tp) (tq := tq) (ta := ta) (n := n) (kc := kcF n t (σ.1 12)) k (cntN tt as T)
    have v6 := rb_sub (tq := tq) (ta := ta) (n := n) (kc := kcF n t (σ.1 12)) k 1 (cntN tt as T) t10
    rw [c_reckon (cA 0) (cA 1) (cK 0) (cK 1) (by omega) v2 v3 v5 v6]
    have hB : 0 < bnN (rbA tp tq ta n (kcF n t (σ.1 12)) 1023 0 (cntN tt as T)) (rbA tp tq ta n (kcF n t (σ.1 12)) k 0 (cntN tt as T)) := by
      unfold bnN; rw [if_pos v3]; exact (cN_ok _ (by omega) _ (by omega)).1
    have hB2 : bnN (rbA tp tq ta n (kcF n t (σ.1 12)) 1023 0 (cntN tt as T)) (rbA tp tq ta n (kcF n t (σ.1 12)) k 0 (cntN tt as T)) < 2 ^ 63 := Nat.lt_of_le_of_lt (bn_le (by omega)) (Nat.pow_lt_pow_right (by omega) (by omega))
    have hG : gaN (rbA tp tq ta n (kcF n t (σ.1 12)) 1023 0 (cntN tt as T)) (rbA tp tq ta n (kcF n t (σ.1 12)) 1023 1 (cntN tt as T)) (rbA tp tq ta n (kcF n t (σ.1 12)) k 0 (cntN tt as T)) (rbA tp tq ta n (kcF n t (σ.1 12)) k 1 (cntN tt as T)) < 2 ^ 63 := gs_lt (by omega)
    rw [c_frac (lN_abs hG) hG hB hB2 b (fun v s => some (v, s)), m_lowest (lN_abs hG) hG hB hB2 b]
    exact ⟨_, _, rfl, rfl, fun _ _ => rfl⟩
theorem d_key (h : DG σ τ n t P T pass lim rw_ pl tp tq ta tt as) {q : Nat} (hq : q < n) : ∃ r, f_X11_key (nI q) σ = some r ∧ τ.1 2 q = r := by
  obtain ⟨h, hM, hR⟩ := h
  have hn := h.1.1
  unfold f_X11_key
  rw [q_c h, Option.bind_some, if_pos (wi_q hq hn), inb_t (by omega) (by omega), gd_t, nI_clamp (by omega), h.1.2.2.2.2.2.2.2.2.2 q (by omega)]
  exact ⟨_, rfl, hM.1.2.2.1 q (by omega)⟩
theorem d_should (h : DG σ τ n t P T pass lim rw_ pl tp tq ta tt as) {q : Nat} (hq : q < n) : ∃ r, f_X11_should (nI q) σ = some r ∧ f_X12_shouldNow (nI q) τ = some r := by
  obtain ⟨h, hM, hR⟩ := h
  obtain ⟨hC, hD⟩ := rd_C h
  have hn := hD.1
  unfold f_X11_should
  rw [q_c h, Option.bind_some, if_pos (wi_q hq hn), c_best hC.1 hD.1 hD.2.1 (by omega), m_should hM.1 hD.1 hD.2.1 (by omega)]
  exact ⟨_, rfl, rfl⟩
theorem d_without (h : DG σ τ n t P T pass lim rw_ pl tp tq ta tt as) {q : Nat} (hq : q < n) {w : Nat} (hw : w < 2) : ∃ r σ', f_X11_without (nI q) (nI w) σ = some (r, σ') ∧ f_X12_withoutNow (nI q) (nI w) τ = some r ∧ Fr σ σ' := by
  obtain ⟨h, hM, hR⟩ := h
  obtain ⟨hC, hD⟩ := rd_C h
  have hn := hD.1
  have hP := hD.2.1
  have s31 : τ.1 3 1 = nI pass := h.2.2.1.2.2.2.1
  obtain ⟨w0, w1⟩ := m_without hM.1 hn hP s31 h.2.2.1.1 q
  unfold f_X11_without
  rw [q_c h, Option.bind_some, if_pos (wi_q hq hn), c_within, Option.bind_some, if_pos (show wiB (nI w) 0 1 = true from wi_t (m := 1) (show w ≤ 1 by omega) (by omega))]
  rcases (show w = 0 ∨ w = 1 by omega) with g | g <;> subst g
  · obtain ⟨σ', ec, fc⟩ := c_otherRanks hC.1 hn hP q
    simp only [l00, if_true]
    rw [ec, w0]
    exact ⟨_, σ', rfl, rfl, fc⟩
  · simp only [l11, d10, if_false]
    rw [c_otherPasses hC.1 hn hP h.2.2.1.2.2.1 h.2.2.1.1 h.1.2.2.2.2.2.2.2.2.1 hq, w1]
    exact ⟨_, σ, rfl, rfl, Fr_rf⟩
theorem d_hard (h : DG σ τ n t P T pass lim rw_ pl tp tq ta tt as) {q : Nat} (hq : q < n) {b : Int32} (hb : wiB b 0 1 = true) : ∃ r σ', f_X11_hard (nI q) b σ = some (r, σ') ∧ f_X12_hardNow (nI q) b τ = some r ∧ Fr σ σ' := by
  obtain ⟨h, hM, hR⟩ := h
  obtain ⟨hC, hD⟩ := rd_C h
  have hn := hD.1
  have hP := hD.2.1
  have hq2 : q < 12 := by omega
  unfold f_X11_hard f_X12_hardNow f_X11_isPart
  have cP : σ.1 2 0 = nI P := hC.1.2.1
  have mP : τ.1 0 5 = nI P := hM.1.2.1
  have i1 : inb (nI q) 12 = true := inb_t (by omega) (by omega)
  have j1 : (nI q).toNatClampNeg = q := nI_clamp (by omega)
  simp only [q_c h, Option.bind_some, wi_q hq hn, c_within, hb, if_true, jn_e, cP, mP, i1, gd_q, j1, hC.1.2.2.1 q hq2, hM.1.2.2.1 q hq2]
  by_cases c0 : P = 0
  · have g0 : nI P = 0 := by rw [c0]; rfl
    rw [if_pos g0, if_pos g0]
    exact ⟨_, σ, rfl, rfl, Fr_rf⟩
  · have g0 : ¬ nI P = 0 := by rw [show (0 : Int32) = nI 0 from rfl, nI_eq (by omega) (by omega)]; exact c0
    rw [if_neg g0, if_neg g0]
    by_cases c1 : kcF n t (σ.1 12) q = 0
    · rw [if_pos c1, if_pos c1]
      exact ⟨_, σ, rfl, rfl, Fr_rf⟩
    · rw [if_neg c1, if_neg c1, c_allBits cP hP, Option.bind_some]
      have p2 := p2le P (by omega)
      rw [c_rightsTo hC.1 hP hq2 (show 2 ^ P - 1 < 2 ^ 31 by omega) (f := fun _ => true) (fun p hp => bit_a (by omega) hp), Option.bind_some]
      have mc := m_countOf hM.1 hP hq2 (show 1023 < 2 ^ 31 by omega) true
      rw [show (1023 : Int32) = nI 1023 from rfl, mc, Option.bind_some]
      have er : riN P (kcF n t (σ.1 12)) (sayF tp tq ta (cntN tt as T)) q (fun p => bitN 1023 p == true) = riN P (kcF n t (σ.1 12)) (sayF tp tq ta (cntN tt as T)) q (fun _ => true) := by
        unfold riN
        exact sm_congr (fun p hp => by simp only [bit_all p (show p < 10 by omega)]; rfl)
      have hle := riN_le (P := P) (kc := kcF n t (σ.1 12)) (sy := sayF tp tq ta (cntN tt as T)) q (fun _ => true)
      have hA : riN P (kcF n t (σ.1 12)) (sayF tp tq ta (cntN tt as T)) q (fun _ => true) < 2 ^ 63 := by omega
      rw [er, nI_toL (by omega), nI_toL (by omega), c_frac (lN_abs hA) hA (by omega) (by omega) b (fun v s => some (v, s)), m_lowest (lN_abs hA) hA (by omega) (by omega) b, Option.bind_some]
      exact ⟨_, _, rfl, rfl, fun _ _ => rfl⟩
theorem d_parts (h : DG σ τ n t P T pass lim rw_ pl tp tq ta tt as) {q : Nat} (hq : q < n) {b : Int32} (hb : wiB b 0 1 = true) : ∃ r σ' τ', f_X11_parts (nI q) b σ = some (r, σ') ∧ f_X12_partsNow (nI q) b τ = some (r, τ') ∧ Fr σ σ' ∧ FrL τ τ' := by
  obtain ⟨h, hM, hR⟩ := h
  obtain ⟨hC, hD⟩ := rd_C h
  have hn := hD.1
  have hP := hD.2.1
  have hq2 : q < 12 := by omega
  obtain ⟨τ2, f2, em⟩ := m_parts hM.1 hn hP hq2 b
  have cP : σ.1 2 0 = nI P := hC.1.2.1
  have i1 : inb (nI q) 12 = true := inb_t (by omega) (by omega)
  have j1 : (nI q).toNatClampNeg = q := nI_clamp (by omega)
  unfold f_X11_parts f_X11_isPart
  rw [em]
  simp only [q_c h, Option.bind_some, wi_q hq hn, c_within, hb, if_true, jn_e, cP, i1, gd_q, j1, hC.1.2.2.1 q hq2]
  by_cases c0 : P < 2
  · have g0 : nI P < 2 := nI_lt (b := 2) c0 (by omega)
    rw [if_pos g0, if_pos (Or.inl c0)]
    exact ⟨_, σ, τ, rfl, rfl, Fr_rf, FrL_rf⟩
  · have g0 : ¬ nI P < 2 := by rw [show (2 : Int32) = nI 2 from rfl, nI_ltI (by omega) (by omega)]; exact c0
    rw [if_neg g0]
    by_cases c1 : kcF n t (σ.1 12) q = 0
    · rw [if_pos c1, if_pos (Or.inr c1)]
      exact ⟨_, σ, τ, rfl, rfl, Fr_rf, FrL_rf⟩
    · rw [if_neg c1, if_neg (fun g => g.elim c0 c1)]
      obtain ⟨σ1, ec, fc⟩ := c_better hC.1 hn hP hq2
      have c2 : σ1.1 2 0 = nI P := by rw [fc 2 (by omega)]; exact cP
      rw [ec, Option.bind_some]
      obtain ⟨A, hA, eA⟩ := abs32 (ptV n P (kcF n t (σ.1 12)) (sayF tp tq ta (cntN tt as T)) q)
      have h2 : ∀ P, P ≤ 10 → nI P / 2 = nI (P / 2) := by decide
      simp only [c2, show ((2 : Int32) != 0) = true by decide, gd_q, h2 P hP]
      rw [nI_toL (show P / 2 < 2 ^ 31 by omega), m_lowest eA (by omega) (by omega) (by omega) b]
      show ∃ r σ' τ', (f_X1_become (ptV n P (kcF n t (σ.1 12)) (sayF tp tq ta (cntN tt as T)) q).toInt64 (lN (P / 2)) σ1).bind _ = _ ∧ _
      rw [c_frac eA (by omega) (by omega) (by omega) b (fun v s => some (v, s))]
      exact ⟨_, _, τ2, rfl, rfl, fun k hk => fc k hk, f2⟩
theorem d_badly (h : DG σ τ n t P T pass lim rw_ pl tp tq ta tt as) : ∃ r, f_X11_badly σ = some r ∧ f_X12_badlyNow τ = some r := by
  obtain ⟨h, hM, hR⟩ := h
  obtain ⟨hC, hD⟩ := rd_C h
  exact ⟨_, c_badly hC.1 hD.1 hD.2.1, m_badly hM.1 hD.1 hD.2.1⟩
end M31
