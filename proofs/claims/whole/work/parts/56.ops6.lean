/-! calls that change the key -/
theorem k_settle {σ τ s τ' : St} {n t P T pass lim n' t' : Nat} {rw_ pl tp tq : Nat → Nat} {ta tt : Nat → Int32} {as : Int32} (h : RD σ τ n t P T pass lim rw_ pl tp tq ta tt as) (hs : ∀ k, k ≠ 1 → k ≠ 12 → s.1 k = σ.1 k) (hn : n' ≤ 12) (ht : t' ≤ 12) (s2 : s.1 1 2 = nI n') (s1 : s.1 1 1 = nI t') (m0 : τ'.1 0 0 = nI n') (m1 : τ'.1 0 1 = nI t') (mt : τ'.1 1 = s.1 12) (mo : ∀ j, j ≠ 0 → j ≠ 1 → τ'.1 0 j = τ.1 0 j) (mk : ∀ k, k ≠ 0 → k ≠ 1 → τ'.1 k = τ.1 k) : ∃ σ', f_X4_settle s = some σ' ∧ Rel σ' τ' ∧ σ'.1 1 1 = nI t' := by
  obtain ⟨σ', e, f, _, g1, g2, g3, g4, g5⟩ := c_settle s2 hn s1 ht
  have f2 : ∀ k, k ≠ 1 → k ≠ 11 → k ≠ 12 → σ'.1 k = σ.1 k := fun k a b c => by rw [f k a b, hs k a c]
  have e12 : σ'.1 12 = s.1 12 := f 12 (by omega) (by omega)
  obtain ⟨h1, h2, h3, h4, h5, h6⟩ := h
  refine ⟨σ', e, ⟨n', t', P, T, pass, lim, rw_, pl, tp, tq, ta, tt, as, ⟨hn, ht, g2, g1, m0, m1, by rw [e12]; exact mt, by rw [e12]; exact g3, by rw [e12]; exact g4, fun q hq => by rw [e12]; exact g5 q hq⟩, ?_, ?_, ?_, ?_, ?_⟩, g1⟩
  · exact RRoom_f h2 (f2 2 (by omega) (by omega) (by omega)) (f2 13 (by omega) (by omega) (by omega)) (f2 14 (by omega) (by omega) (by omega)) (mo 5 (by omega) (by omega)) (mk 4 (by omega) (by omega)) (mk 5 (by omega) (by omega))
  · exact RSet_f h3 (by rw [f2 4 (by omega) (by omega) (by omega)]) (by rw [f2 6 (by omega) (by omega) (by omega)]) (by rw [f2 3 (by omega) (by omega) (by omega)]) (mk 3 (by omega) (by omega))
  · exact RTold_f h4 (fun k hk => f2 k (by omega) (by omega) (by omega)) (mo 8 (by omega) (by omega)) (by rw [mk 3 (by omega) (by omega)]) (fun k hk => mk k (by omega) (by omega))
  · exact RSh_f h5 (fun k hk => f2 k (by omega) (by omega) (by omega)) (fun k hk => mk k (by omega) (by omega))
  · rw [f2 0 (by omega) (by omega) (by omega), mo 29 (by omega) (by omega)]; exact h6
theorem o_wipe : Op f_X11_wipe f_X12_wipe := by
  intro σ τ ⟨n, t, P, T, pass, lim, rw_, pl, tp, tq, ta, tt, as, h⟩
  obtain ⟨k1, k2, k3, k4, k5, k6, k7, k8, k9, k10⟩ := h.1
  obtain ⟨σ', e, r, _⟩ := k_settle (s := wI σ 1 1 0) (τ' := wI τ 0 1 0) (n' := n) (t' := 0) h (fun k a b => wI_f a) k1 (by omega) (by rw [wI_e, if_neg (by omega)]; exact k3) (by rw [wI_e, if_pos ⟨rfl, rfl⟩]; rfl) (by rw [wI_e, if_neg (by omega)]; exact k5) (by rw [wI_e, if_pos ⟨rfl, rfl⟩]; rfl) (by rw [wI_f (by omega), wI_f (by omega)]; exact k7) (fun j a b => by rw [wI_e, if_neg (by omega)]) (fun k a b => wI_f a)
  unfold f_X11_wipe f_X12_wipe f_X4_empty
  rw [bv_e, bv_e, bd_e, bd_e, e, k4, k6]
  exact ⟨_, σ', _, rfl, rfl, r⟩
theorem o_questions (a : Int32) : Op (f_X11_questions a) (f_X12_questions a) := by
  intro σ τ ⟨n, t, P, T, pass, lim, rw_, pl, tp, tq, ta, tt, as, h⟩
  obtain ⟨k1, k2, k3, k4, k5, k6, k7, k8, k9, k10⟩ := h.1
  unfold f_X11_questions f_X12_questions
  rw [c_within, m_in, Option.bind_some, Option.bind_some]
  cases z : wiB a 1 12
  · exact ⟨_, σ, τ, rfl, rfl, rel_of h Fr_rf FrM_rf⟩
  · have z2 : wiB a 0 (nI 12) = true := by
      unfold wiB at z ⊢
      simp only [Bool.and_eq_true, Bool.not_eq_true', decide_eq_false_iff_not] at z ⊢
      refine ⟨fun l => z.1 ?_, z.2⟩
      rw [Int32.lt_iff_toInt_lt] at l ⊢
      have e0 : (0 : Int32).toInt = 0 := by decide
      have e1 : (1 : Int32).toInt = 1 := by decide
      omega
    obtain ⟨m, hm, e⟩ := wi_of (by omega) z2
    subst e
    obtain ⟨σ', e, r, _⟩ := k_settle (s := wI σ 1 2 (nI m)) (τ' := wI τ 0 0 (nI m)) (n' := m) (t' := t) h (fun k a b => wI_f a) hm k2 (by rw [wI_e, if_pos ⟨rfl, rfl⟩]) (by rw [wI_e, if_neg (by omega)]; exact k4) (by rw [wI_e, if_pos ⟨rfl, rfl⟩]) (by rw [wI_e, if_neg (by omega)]; exact k6) (by rw [wI_f (by omega), wI_f (by omega)]; exact k7) (fun j a b => by rw [wI_e, if_neg (by omega)]) (fun k a b => wI_f a)
    unfold f_X4_ask
    rw [if_pos rfl, if_pos rfl, bv_e, bv_e, bd_e, bd_e, e, k3, k5]
    exact ⟨_, σ', _, rfl, rfl, r⟩
theorem o_type (a : Int32) : Op (f_X11_type a) (f_X12_type a) := by
  intro σ τ ⟨n, t, P, T, pass, lim, rw_, pl, tp, tq, ta, tt, as, h⟩
  obtain ⟨k1, k2, k3, k4, k5, k6, k7, k8, k9, k10⟩ := h.1
  unfold f_X11_type f_X12_type
  rw [c_within, m_in, Option.bind_some, Option.bind_some]
  cases z : wiB a 0 255
  · exact ⟨_, σ, τ, rfl, rfl, rel_of h Fr_rf FrM_rf⟩
  · rw [if_pos rfl, if_pos rfl, k4, k6]
    by_cases c : t = 12
    · have g1 : ¬ nI t < 12 := by rw [c]; decide
      have g2 : nI t = 12 := by rw [c]; rfl
      rw [if_neg g1, if_pos g2]
      exact ⟨_, σ, τ, rfl, rfl, rel_of h Fr_rf FrM_rf⟩
    · have g1 : nI t < 12 := nI_lt (b := 12) (by omega) (by omega)
      have g2 : ¬ nI t = 12 := by rw [show (12 : Int32) = nI 12 from rfl, nI_eq (by omega) (by omega)]; exact c
      have i1 : inb (nI t) 12 = true := inb_t (by omega) (by omega)
      have j1 : (nI t).toNatClampNeg = t := nI_clamp (by omega)
      obtain ⟨σ', e, r, ft⟩ := k_settle (s := wI (wI σ 12 t a) 1 1 (nI (t + 1))) (τ' := wI (wI τ 1 t a) 0 1 (nI (t + 1))) (n' := n) (t' := t + 1) h (fun k a b => by rw [wI_f a, wI_f b]) k1 (by omega) (by rw [wI_e, if_neg (by omega), wI_f (by omega)]; exact k3) (by rw [wI_e, if_pos ⟨rfl, rfl⟩]) (by rw [wI_e, if_neg (by omega), wI_f (by omega)]; exact k5) (by rw [wI_e, if_pos ⟨rfl, rfl⟩]) (by
        funext j
        simp only [wI_e, k7]
        by_cases e : j = t <;> simp [e]) (fun j a b => by rw [wI_e, if_neg (by omega), wI_f (by omega)]) (fun k a b => by rw [wI_f a, wI_f b])
      have c11 : (wI σ 12 t a).1 1 1 = nI t := by rw [wI_f (by omega)]; exact k4
      have m01 : (wI τ 1 t a).1 0 1 = nI t := by rw [wI_f (by omega)]; exact k6
      have m02 : (wI (wI τ 1 t a) 0 1 (nI (t + 1))).1 0 1 = nI (t + 1) := by rw [wI_e, if_pos ⟨rfl, rfl⟩]
      unfold f_X4_append
      rw [if_pos g1, if_neg g2, k4, if_pos g1]
      simp only [i1, gd_q, j1, bd_e, c11, m01, nI_1, e, Option.bind_some, ft, m02]
      exact ⟨_, σ', _, rfl, rfl, r⟩
