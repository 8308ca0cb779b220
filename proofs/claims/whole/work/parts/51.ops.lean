/-! calls that only look -/
theorem i_of {a : Int32} (h : ¬ a < 0) : ∃ k, k < 2 ^ 31 ∧ a = nI k := by
  have h0 : 0 ≤ a.toInt := by
    rw [Int32.lt_iff_toInt_lt] at h
    have : (0 : Int32).toInt = 0 := by decide
    omega
  have h1 : a.toInt < 2 ^ 31 := Int32.toInt_lt a
  refine ⟨a.toInt.toNat, by omega, ?_⟩
  apply Int32.toInt_inj.mp
  rw [nI_toInt (by omega)]
  omega
theorem wi_of {a : Int32} {m : Nat} (hm : m < 2 ^ 31) (h : wiB a 0 (nI m) = true) : ∃ k, k ≤ m ∧ a = nI k := by
  unfold wiB at h
  simp only [Bool.and_eq_true, Bool.not_eq_true', decide_eq_false_iff_not] at h
  obtain ⟨k, hk, e⟩ := i_of h.1
  refine ⟨k, ?_, e⟩
  have := h.2
  rw [e, nI_ltI hm hk] at this
  omega
theorem wi_of1 {a : Int32} {m : Nat} (hm : m < 1000) (h : wiB a 0 (nI m - 1) = true) : ∃ k, k < m ∧ a = nI k := by
  cases m with
  | zero =>
    unfold wiB at h
    simp only [Bool.and_eq_true, Bool.not_eq_true', decide_eq_false_iff_not] at h
    have h1 := h.1
    have h2 := h.2
    rw [Int32.lt_iff_toInt_lt] at h1 h2
    have e1 : (0 : Int32).toInt = 0 := by decide
    have e2 : (nI 0 - 1).toInt = -1 := by decide
    omega
  | succ m =>
    rw [show nI (m + 1) - 1 = nI m by rw [show (1 : Int32) = nI 1 from rfl, pk_sub (by omega)]; rfl] at h
    obtain ⟨k, hk, e⟩ := wi_of (by omega) h
    exact ⟨k, by omega, e⟩
def Op {R : Type} (f g : St → Option (R × St)) : Prop := ∀ σ τ, Rel σ τ → ∃ r σ' τ', f σ = some (r, σ') ∧ g τ = some (r, τ') ∧ Rel σ' τ'
def OpP {R : Type} (f : St → Option R) (g : St → Option (R × St)) : Prop := ∀ σ τ, Rel σ τ → ∃ r τ', f σ = some r ∧ g τ = some (r, τ') ∧ Rel σ τ'
theorem rel_of {σ τ σ' τ' : St} {n t P T pass lim : Nat} {rw_ pl tp tq : Nat → Nat} {ta tt : Nat → Int32} {as : Int32} (h : RD σ τ n t P T pass lim rw_ pl tp tq ta tt as) (f : Fr σ σ') (g : FrM τ τ') : Rel σ' τ' := ⟨n, t, P, T, pass, lim, rw_, pl, tp, tq, ta, tt, as, RD_Fr h f g⟩
theorem o_sources : Op f_X11_sources f_X12_sources := by
  intro σ τ ⟨n, t, P, T, pass, lim, rw_, pl, tp, tq, ta, tt, as, h⟩
  obtain ⟨hC, hD⟩ := rd_C h
  obtain ⟨τ1, e1, f1, _, hM, _⟩ := rd_M h
  obtain ⟨σ', ec, fc⟩ := c_sources hC hD
  obtain ⟨τ', em, fm⟩ := m_sources hM hD
  refine ⟨_, σ', τ', ec, ?_, rel_of h fc (FrM_tr f1 (FrL_M fm))⟩
  unfold f_X12_sources
  rw [e1, Option.bind_some, em]; rfl
theorem rd_rb {σ τ : St} {n t P T pass lim : Nat} {rw_ pl tp tq : Nat → Nat} {ta tt : Nat → Int32} {as : Int32} (h : RD σ τ n t P T pass lim rw_ pl tp tq ta tt as) : CR σ P (fun p => rbP tp tq ta n (kcF n t (σ.1 12)) p 0 (cntN tt as T)) ∧ ∀ p, rbP tp tq ta n (kcF n t (σ.1 12)) p 0 (cntN tt as T) ≤ 150 := by
  obtain ⟨⟨k1, k2, k3, k4, k5, k6, k7, k8, k9, k10⟩, ⟨r1, r2, r3, r4⟩, _, ⟨t1, t2, t3, t4, t5, t6⟩, h5, h6⟩ := h
  have hle := cnt_le (tt := tt) (as := as) T
  exact ⟨c_CR t2 t1 t5.1 hle k3 k1 k10 r1, fun p => Nat.le_trans (rbP_le p 0 _) (by omega)⟩
theorem o_chain : Op f_X11_chain f_X12_chain := by
  intro σ τ ⟨n, t, P, T, pass, lim, rw_, pl, tp, tq, ta, tt, as, h⟩
  obtain ⟨hC, hD⟩ := rd_C h
  obtain ⟨τ1, e1, f1, _, hM, hR⟩ := rd_M h
  obtain ⟨r1, r2⟩ := rd_rb h
  obtain ⟨σ', ec, fc⟩ := c_chain hC hD r1 r2
  obtain ⟨τ', em, fm⟩ := m_chain hM hD r2 (fun p hp => (hR p (Nat.lt_of_lt_of_le hp hD.2.1)).1)
  refine ⟨_, σ', τ', ec, ?_, rel_of h fc (FrM_tr f1 (FrL_M fm))⟩
  unfold f_X12_chain
  rw [e1, Option.bind_some, em]; rfl
theorem o_badly : OpP f_X11_badly f_X12_badly := by
  intro σ τ ⟨n, t, P, T, pass, lim, rw_, pl, tp, tq, ta, tt, as, h⟩
  obtain ⟨hC, hD⟩ := rd_C h
  obtain ⟨τ1, e1, f1, _, hM, hR⟩ := rd_M h
  refine ⟨_, τ1, c_badly hC.1 hD.1 hD.2.1, ?_, rel_of h Fr_rf f1⟩
  unfold f_X12_badly
  rw [e1, Option.bind_some, m_badly hM.1 hD.1 hD.2.1]; rfl
theorem o_seats (a : Int32) : Op (f_X11_seats a) (f_X12_seats a) := by
  intro σ τ ⟨n, t, P, T, pass, lim, rw_, pl, tp, tq, ta, tt, as, h⟩
  obtain ⟨hC, hD⟩ := rd_C h
  obtain ⟨τ1, e1, f1, _, hM, hR⟩ := rd_M h
  obtain ⟨τ', em, fm⟩ := m_seats hM hD a
  unfold f_X11_seats f_X12_seats
  rw [m_in, Option.bind_some]
  by_cases c0 : a = 0
  · subst c0
    rw [if_pos rfl, c_beside hC hD, Option.bind_some, if_pos (by decide), e1, Option.bind_some, em, if_pos rfl, Option.bind_some]
    exact ⟨_, σ, τ', rfl, rfl, rel_of h Fr_rf (FrM_tr f1 (FrL_M fm))⟩
  · by_cases c1 : a = 1
    · subst c1
      obtain ⟨σ', ec, fc⟩ := c_mill hC hD
      rw [if_neg c0, if_pos rfl, ec, Option.bind_some, if_pos (by decide), e1, Option.bind_some, em, if_neg c0, Option.bind_some]
      exact ⟨_, σ', τ', rfl, rfl, rel_of h fc (FrM_tr f1 (FrL_M fm))⟩
    · rw [if_neg c0, if_neg c1, if_neg (fun w => by
        obtain ⟨k, hk, e⟩ := wi_of (m := 1) (by omega) w
        rcases (show k = 0 ∨ k = 1 by omega) with e2 | e2
        · exact c0 (by rw [e, e2]; rfl)
        · exact c1 (by rw [e, e2]; rfl))]
      exact ⟨_, σ, τ, rfl, rfl, rel_of h Fr_rf FrM_rf⟩
theorem o_should (a : Int32) : OpP (f_X11_should a) (f_X12_should a) := by
  intro σ τ ⟨n, t, P, T, pass, lim, rw_, pl, tp, tq, ta, tt, as, h⟩
  obtain ⟨hC, hD⟩ := rd_C h
  obtain ⟨τ1, e1, f1, _, hM, hR⟩ := rd_M h
  have q1 : f_X11_isQuestion a σ = some (wiB a 0 (nI n - 1)) := by
    unfold f_X11_isQuestion; rw [c_within, hC.1.1]; rfl
  have q2 : f_X12_isQuestion a τ = some (wiB a 0 (nI n - 1)) := by
    unfold f_X12_isQuestion; rw [m_in, h.1.2.2.2.2.1]; rfl
  unfold f_X11_should f_X12_should
  rw [q1, q2, Option.bind_some, Option.bind_some]
  cases z : wiB a 0 (nI n - 1)
  · exact ⟨_, τ, rfl, rfl, rel_of h Fr_rf FrM_rf⟩
  · obtain ⟨k, hk, e⟩ := wi_of1 (by have := hD.1; omega) z
    have hk2 : k < 12 := Nat.lt_of_lt_of_le hk hD.1
    rw [e, if_pos rfl, if_pos rfl, c_best hC.1 hD.1 hD.2.1 hk2, e1, Option.bind_some, Option.bind_some, m_should hM.1 hD.1 hD.2.1 hk2, Option.bind_some]
    exact ⟨_, τ1, rfl, rfl, rel_of h Fr_rf f1⟩
