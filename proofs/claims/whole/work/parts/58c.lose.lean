/-! finding, lose -/
theorem rel_find {σ τ : St} (a : Int32) (h : Rel σ τ) : Rel (wI σ 0 11 a) (wI τ 0 29 a) := by
  obtain ⟨n, t, P, T, pass, lim, rw_, pl, tp, tq, ta, tt, as, h1, h2, h3, h4, h5, h6⟩ := h
  refine ⟨n, t, P, T, pass, lim, rw_, pl, tp, tq, ta, tt, as, ?_, ?_, ?_, ?_, ?_, ?_⟩
  · exact RKey_f h1 (wI_f (by omega)) (wI_f (by omega)) (wI_f (by omega)) (by rw [wI_e, if_neg (by omega)]) (by rw [wI_e, if_neg (by omega)]) (wI_f (by omega))
  · exact RRoom_f h2 (wI_f (by omega)) (wI_f (by omega)) (wI_f (by omega)) (by rw [wI_e, if_neg (by omega)]) (wI_f (by omega)) (wI_f (by omega))
  · exact RSet_f h3 (by rw [wI_f (by omega)]) (by rw [wI_f (by omega)]) (by rw [wI_f (by omega)]) (wI_f (by omega))
  · exact RTold_f h4 (fun k hk => wI_f (by omega)) (by rw [wI_e, if_neg (by omega)]) (by rw [wI_f (by omega)]) (fun k hk => wI_f (by omega))
  · exact RSh_f h5 (fun k hk => wI_f (by omega)) (fun k hk => wI_f (by omega))
  · rw [wI_e, wI_e, if_pos ⟨rfl, rfl⟩, if_pos ⟨rfl, rfl⟩]
theorem rel_sh {σ τ σ' τ' : St} (h : Rel σ τ) (f : ∀ k, ¬ (34 ≤ k ∧ k < 42) → σ'.1 k = σ.1 k) (g : ∀ k, ¬ (19 ≤ k ∧ k < 23) → τ'.1 k = τ.1 k) (r : RSh σ' τ') : Rel σ' τ' := by
  obtain ⟨n, t, P, T, pass, lim, rw_, pl, tp, tq, ta, tt, as, h1, h2, h3, h4, h5, h6⟩ := h
  refine ⟨n, t, P, T, pass, lim, rw_, pl, tp, tq, ta, tt, as, ?_, ?_, ?_, ?_, r, ?_⟩
  · exact RKey_f h1 (f 1 (by omega)) (f 11 (by omega)) (f 12 (by omega)) (by rw [g 0 (by omega)]) (by rw [g 0 (by omega)]) (g 1 (by omega))
  · exact RRoom_f h2 (f 2 (by omega)) (f 13 (by omega)) (f 14 (by omega)) (by rw [g 0 (by omega)]) (g 4 (by omega)) (g 5 (by omega))
  · exact RSet_f h3 (by rw [f 4 (by omega)]) (by rw [f 6 (by omega)]) (by rw [f 3 (by omega)]) (g 3 (by omega))
  · exact RTold_f h4 (fun k hk => f k (by omega)) (by rw [g 0 (by omega)]) (by rw [g 3 (by omega)]) (fun k hk => g k (by omega))
  · rw [f 0 (by omega), g 0 (by omega)]; exact h6
theorem rel_RSh {σ τ : St} (h : Rel σ τ) : RSh σ τ := by
  obtain ⟨n, t, P, T, pass, lim, rw_, pl, tp, tq, ta, tt, as, h1, h2, h3, h4, h5, h6⟩ := h
  exact h5
theorem o_lose (a : Int32) : Op (f_X11_lose a) (f_X12_lose a) := by
  intro σ τ h
  unfold f_X11_lose f_X12_lose f_X11_isSheet f_X12_isSheet
  simp only [c_within, m_in, Option.bind_some]
  cases z : wiB a 0 3
  · exact ⟨_, σ, τ, rfl, rfl, h⟩
  · obtain ⟨k, hk, ea⟩ := wi_of (m := 3) (by omega) z
    subst ea
    have i1 : inb (nI k) 4 = true := inb_t (by omega) (by omega)
    have j1 : (nI k).toNatClampNeg = k := nI_clamp (by omega)
    have hS := rel_RSh h
    obtain ⟨⟨y, y1, y2, y3, y4⟩, x2, x3, x4⟩ := hS k (by omega)
    simp only [if_true, i1, gd_q, j1, she_id (show k < 4 by omega), bd_e]
    rcases x4 with ⟨a1, a2⟩ | ⟨a1, a2⟩
    · rw [if_pos a1, if_neg (by rw [a2]; decide), wI_e, if_neg (by omega), y2, wI_f (by omega), y3]
      refine ⟨_, _, _, rfl, rfl, rel_sh h (fun j hj => wI_f (by omega)) (fun j hj => wI_f (by omega)) (fun m hm => ?_)⟩
      obtain ⟨⟨u, u1, u2, u3, u4⟩, v2, v3, v4⟩ := hS m hm
      refine ⟨⟨u, u1, by rw [wI_e, if_neg (by omega)]; exact u2, by rw [wI_f (by omega)]; exact u3, fun i hi => by rw [wI_f (by omega), wI_f (by omega)]; exact u4 i hi⟩, by rw [wI_f (by omega), wI_e, if_neg (by omega)]; exact v2, by rw [wI_e, if_neg (by omega)]; exact v3, ?_⟩
      rw [wI_e, wI_e]
      by_cases e : m = k
      · rw [if_pos (by omega), if_pos (by omega)]; exact Or.inr ⟨rfl, rfl⟩
      · rw [if_neg (by omega), if_neg (by omega)]; exact v4
    · rw [if_neg (by rw [a1]; decide), if_pos a2]
      exact ⟨_, _, _, rfl, rfl, rel_find 1 h⟩
