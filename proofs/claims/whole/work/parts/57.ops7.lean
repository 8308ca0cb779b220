/-! set -/
theorem o_set (a b : Int32) : Op (f_X11_set a b) (f_X12_set a b) := by
  intro σ τ ⟨n, t, P, T, pass, lim, rw_, pl, tp, tq, ta, tt, as, h⟩
  unfold f_X11_set f_X12_set
  simp only [jn_e, c_within, m_in, Option.bind_some, bv_e, bd_e]
  have no : Rel σ τ := rel_of h Fr_rf FrM_rf
  obtain ⟨h1, h2, h3, h4, h5, h6⟩ := h
  cases z : wiB a 0 2
  · have nb : ∀ k, k ≤ 2 → ¬ a = nI k := fun k hk e => by
      have : ∀ k, k < 3 → wiB (nI k) 0 2 = true := by decide
      rw [e, this k (by omega)] at z
      exact absurd z (by decide)
    have n0 : ¬ a = 0 := nb 0 (by omega)
    have n1 : ¬ a = 1 := nb 1 (by omega)
    have n2 : ¬ a = 2 := nb 2 (by omega)
    simp only [n0, n1, n2, if_false, Bool.false_eq_true]
    exact ⟨_, σ, τ, rfl, rfl, no⟩
  · obtain ⟨k, hk, ea⟩ := wi_of (m := 2) (by omega) z
    obtain ⟨s1, s2, s3, s4, s5, s6, s7⟩ := id h3
    rcases (show k = 0 ∨ k = 1 ∨ k = 2 by omega) with g | g | g
    · subst g; subst ea
      cases z2 : wiB b 0 999
      · simp only [l00, show ¬ (0 : Int32) = 1 by decide, show ¬ (0 : Int32) = 2 by decide, if_true, if_false, Bool.false_eq_true, z2]
        exact ⟨_, σ, τ, rfl, rfl, no⟩
      · obtain ⟨t1, t2, t3, t4, t5, t6⟩ := id h4
        obtain ⟨σ', e, f, _, g0, g2, g3⟩ := c_lookAsOf (as := b) t2 t1
        simp only [l00, if_true, z2, e, Option.bind_some, inb03, gd_q, clamp0, s7, t3.2.1]
        refine ⟨_, σ', wI τ 3 0 b, rfl, rfl, n, t, P, T, pass, lim, rw_, pl, tp, tq, ta, tt, b, ?_, ?_, ?_, ?_, ?_, ?_⟩
        · exact RKey_f h1 (f 1 (by omega) (by omega)) (f 11 (by omega) (by omega)) (f 12 (by omega) (by omega)) (by rw [wI_f (by omega)]) (by rw [wI_f (by omega)]) (wI_f (by omega))
        · exact RRoom_f h2 (f 2 (by omega) (by omega)) (f 13 (by omega) (by omega)) (f 14 (by omega) (by omega)) (by rw [wI_f (by omega)]) (wI_f (by omega)) (wI_f (by omega))
        · exact ⟨s1, s2, by rw [f 4 (by omega) (by omega)]; exact s3, by rw [wI_e, if_neg (by omega)]; exact s4, by rw [f 6 (by omega) (by omega)]; exact s5, by rw [wI_e, if_neg (by omega)]; exact s6, g2⟩
        · refine ⟨t1, ⟨g0, fun i hi => ?_⟩, ⟨by rw [wI_f (by omega)]; exact t3.1, by rw [wI_e, if_pos ⟨rfl, rfl⟩], fun i hi => ?_⟩, fun p q hp hq => ?_, g3, t6⟩
          · rw [f 15 (by omega) (by omega), f 16 (by omega) (by omega), f 17 (by omega) (by omega), f 18 (by omega) (by omega), f 19 (by omega) (by omega)]; exact t2.2 i hi
          · rw [wI_f (by omega), wI_f (by omega), wI_f (by omega), wI_f (by omega)]; exact t3.2.2 i hi
          · rw [f (52 + p) (by omega) (by omega)]; exact t4 p q hp hq
        · exact RSh_f h5 (fun k hk => f k (by omega) (by omega)) (fun k hk => wI_f (by omega))
        · rw [f 0 (by omega) (by omega), wI_f (by omega)]; exact h6
    · subst g; subst ea
      have i1 : inb 1 3 = true := by decide
      have j1 : (1 : Int32).toNatClampNeg = 1 := by decide
      cases z2 : wiB b 0 100
      · simp only [l11, d10, show ¬ (1 : Int32) = 2 by decide, if_true, if_false, Bool.false_eq_true, z2]
        exact ⟨_, σ, τ, rfl, rfl, no⟩
      · obtain ⟨m, hm, eb⟩ := wi_of (m := 100) (by omega) z2
        simp only [l11, d10, if_true, if_false, z2, i1, gd_q, j1, s3, s4]
        refine ⟨_, wI σ 4 0 b, wI τ 3 1 b, rfl, rfl, n, t, P, T, m, lim, rw_, pl, tp, tq, ta, tt, as, ?_, ?_, ?_, ?_, ?_, ?_⟩
        · exact RKey_f h1 (wI_f (by omega)) (wI_f (by omega)) (wI_f (by omega)) (by rw [wI_f (by omega)]) (by rw [wI_f (by omega)]) (wI_f (by omega))
        · exact RRoom_f h2 (wI_f (by omega)) (wI_f (by omega)) (wI_f (by omega)) (by rw [wI_f (by omega)]) (wI_f (by omega)) (wI_f (by omega))
        · exact ⟨hm, s2, by rw [wI_e, if_pos ⟨rfl, rfl⟩, eb], by rw [wI_e, if_pos ⟨rfl, rfl⟩, eb], by rw [wI_f (by omega)]; exact s5, by rw [wI_e, if_neg (by omega)]; exact s6, by rw [wI_f (by omega)]; exact s7⟩
        · exact RTold_f h4 (fun k hk => wI_f (by omega)) (by rw [wI_f (by omega)]) (by rw [wI_e, if_neg (by omega)]) (fun k hk => wI_f (by omega))
        · exact RSh_f h5 (fun k hk => wI_f (by omega)) (fun k hk => wI_f (by omega))
        · rw [wI_f (by omega), wI_f (by omega)]; exact h6
    · subst g; subst ea
      have i1 : inb 2 3 = true := by decide
      have j1 : (2 : Int32).toNatClampNeg = 2 := by decide
      cases z2 : wiB b 0 1000
      · simp only [l22, d20, d21, if_true, if_false, Bool.false_eq_true, z2]
        exact ⟨_, σ, τ, rfl, rfl, no⟩
      · obtain ⟨m, hm, eb⟩ := wi_of (m := 1000) (by omega) z2
        simp only [l22, d20, d21, if_true, if_false, z2, i1, gd_q, j1, s5, s6]
        refine ⟨_, wI σ 6 0 b, wI τ 3 2 b, rfl, rfl, n, t, P, T, pass, m, rw_, pl, tp, tq, ta, tt, as, ?_, ?_, ?_, ?_, ?_, ?_⟩
        · exact RKey_f h1 (wI_f (by omega)) (wI_f (by omega)) (wI_f (by omega)) (by rw [wI_f (by omega)]) (by rw [wI_f (by omega)]) (wI_f (by omega))
        · exact RRoom_f h2 (wI_f (by omega)) (wI_f (by omega)) (wI_f (by omega)) (by rw [wI_f (by omega)]) (wI_f (by omega)) (wI_f (by omega))
        · exact ⟨s1, hm, by rw [wI_f (by omega)]; exact s3, by rw [wI_e, if_neg (by omega)]; exact s4, by rw [wI_e, if_pos ⟨rfl, rfl⟩, eb], by rw [wI_e, if_pos ⟨rfl, rfl⟩, eb], by rw [wI_f (by omega)]; exact s7⟩
        · exact RTold_f h4 (fun k hk => wI_f (by omega)) (by rw [wI_f (by omega)]) (by rw [wI_e, if_neg (by omega)]) (fun k hk => wI_f (by omega))
        · exact RSh_f h5 (fun k hk => wI_f (by omega)) (fun k hk => wI_f (by omega))
        · rw [wI_f (by omega), wI_f (by omega)]; exact h6
