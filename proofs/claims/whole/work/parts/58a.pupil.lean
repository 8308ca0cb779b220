/-! pupil -/
theorem o_pupil (a b : Int32) : Op (f_X11_pupil a b) (f_X12_pupil a b) := by
  intro σ τ ⟨n, t, P, T, pass, lim, rw_, pl, tp, tq, ta, tt, as, h⟩
  have no : Rel σ τ := rel_of h Fr_rf FrM_rf
  unfold f_X11_pupil f_X12_pupil
  simp only [c_within, m_in, Option.bind_some]
  cases z : wiB a 0 3
  · exact ⟨_, σ, τ, rfl, rfl, no⟩
  · rw [if_pos rfl, if_pos rfl]
    cases z2 : wiB b 0 4
    · exact ⟨_, σ, τ, rfl, rfl, no⟩
    · obtain ⟨r, hr, ea⟩ := wi_of (m := 3) (by omega) z
      obtain ⟨c, hc, eb⟩ := wi_of (m := 4) (by omega) z2
      subst ea; subst eb
      obtain ⟨h1, ⟨r1, r2, r3, r4⟩, h3, h4, h5, h6⟩ := h
      have tk : f_X7_isTaken (nI r) (nI c) σ = if alB P (fun k => !(decide (rw_ k = r) && decide (pl k = c))) = true then some false else some true := by
        unfold f_X7_isTaken
        refine lp_all (fun k => nI k) P _ rfl (by omega) (fun k hk rec => ?_) (fun rec => ?_)
        · obtain ⟨⟨a1, a2⟩, _, a3, a4⟩ := r4 k hk
          unfold L_X7_isTaken_2
          have lt : nI k < nI P := by rw [nI_ltI (by omega) (by omega)]; exact hk
          have i1 : inb (nI k) 10 = true := inb_t (by omega) (by omega)
          have j1 : (nI k).toNatClampNeg = k := nI_clamp (by omega)
          simp only [r2, lt, if_true, i1, gd_q, j1, a1, a2, nI_1, nI_eq (show rw_ k < 2 ^ 31 by omega) (show r < 2 ^ 31 by omega), nI_eq (show pl k < 2 ^ 31 by omega) (show c < 2 ^ 31 by omega)]
          by_cases g1 : rw_ k = r <;> by_cases g2 : pl k = c <;> simp [g1, g2]
        · unfold L_X7_isTaken_2
          have lt : ¬ nI P < nI P := by rw [nI_ltI (by omega) (by omega)]; omega
          simp only [r2, lt, if_false]
      have mk : ∀ K : Unit → Option (Int32 × St), lp (L_X12_pupil_23 (nI r) (nI c) τ K) NN 0 = if alB P (fun k => !(decide (rw_ k = r) && decide (pl k = c))) = true then K () else some (-2, τ) := by
        intro K
        refine lp_all (fun k => nI k) P _ rfl (by omega) (fun k hk rec => ?_) (fun rec => ?_)
        · obtain ⟨_, ⟨a1, a2⟩, a3, a4⟩ := r4 k hk
          unfold L_X12_pupil_23
          have lt : nI k < nI P := by rw [nI_ltI (by omega) (by omega)]; exact hk
          have i1 : inb (nI k) 10 = true := inb_t (by omega) (by omega)
          have j1 : (nI k).toNatClampNeg = k := nI_clamp (by omega)
          simp only [r3, lt, if_true, i1, gd_q, j1, a1, a2, nI_1, nI_eq (show rw_ k < 2 ^ 31 by omega) (show r < 2 ^ 31 by omega), nI_eq (show pl k < 2 ^ 31 by omega) (show c < 2 ^ 31 by omega)]
          by_cases g1 : rw_ k = r <;> by_cases g2 : pl k = c <;> simp [g1, g2]
        · unfold L_X12_pupil_23
          have lt : ¬ nI P < nI P := by rw [nI_ltI (by omega) (by omega)]; omega
          simp only [r3, lt, if_false]
      rw [if_pos rfl, if_pos rfl, tk, jn_e, mk]
      cases alB P (fun k => !(decide (rw_ k = r) && decide (pl k = c)))
      · exact ⟨_, σ, τ, rfl, rfl, no⟩
      · simp only [if_true, Option.bind_some, Bool.false_eq_true, if_false, r2, r3]
        by_cases c0 : P = 10
        · have g1 : ¬ nI P < 10 := by rw [c0]; decide
          have g2 : nI P = 10 := by rw [c0]; rfl
          rw [if_neg g1, if_pos g2]
          exact ⟨_, σ, τ, rfl, rfl, no⟩
        · have g1 : nI P < 10 := nI_lt (b := 10) (by omega) (by omega)
          have g2 : ¬ nI P = 10 := by rw [show (10 : Int32) = nI 10 from rfl, nI_eq (by omega) (by omega)]; exact c0
          have i1 : inb (nI P) 10 = true := inb_t (by omega) (by omega)
          have j1 : (nI P).toNatClampNeg = P := nI_clamp (by omega)
          have q1 : (wI σ 13 P (nI r)).1 2 0 = nI P := by rw [wI_f (by omega)]; exact r2
          have q2 : (wI (wI σ 13 P (nI r)) 14 P (nI c)).1 2 0 = nI P := by rw [wI_f (by omega), wI_f (by omega)]; exact r2
          have q3 : (wI (wI (wI σ 13 P (nI r)) 14 P (nI c)) 2 0 (nI (P + 1))).1 2 0 = nI (P + 1) := by rw [wI_e, if_pos ⟨rfl, rfl⟩]
          have w1 : (wI τ 4 P (nI r)).1 0 5 = nI P := by rw [wI_f (by omega)]; exact r3
          have w2 : (wI (wI τ 4 P (nI r)) 5 P (nI c)).1 0 5 = nI P := by rw [wI_f (by omega), wI_f (by omega)]; exact r3
          have w3 : (wI (wI (wI τ 4 P (nI r)) 5 P (nI c)) 0 5 (nI (P + 1))).1 0 5 = nI (P + 1) := by rw [wI_e, if_pos ⟨rfl, rfl⟩]
          unfold f_X7_seat
          rw [if_pos g1, if_neg g2, r2, if_pos g1]
          simp only [i1, gd_q, j1, bd_e, q1, q2, w1, w2, nI_1, Option.bind_some, q3, w3]
          refine ⟨_, _, _, rfl, rfl, n, t, P + 1, T, pass, lim, nx rw_ P r, nx pl P c, tp, tq, ta, tt, as, ?_, ?_, ?_, ?_, ?_, ?_⟩
          · exact RKey_f h1 (by rw [wI_f (by omega), wI_f (by omega), wI_f (by omega)]) (by rw [wI_f (by omega), wI_f (by omega), wI_f (by omega)]) (by rw [wI_f (by omega), wI_f (by omega), wI_f (by omega)]) (by rw [wI_e, if_neg (by omega), wI_f (by omega), wI_f (by omega)]) (by rw [wI_e, if_neg (by omega), wI_f (by omega), wI_f (by omega)]) (by rw [wI_f (by omega), wI_f (by omega), wI_f (by omega)])
          · refine ⟨by omega, q3, w3, fun p hp => ?_⟩
            simp only [wI_e]
            by_cases e : p = P
            · subst e; simp [nx_s]; omega
            · rw [nx_l (show p < P by omega), nx_l (show p < P by omega)]
              simpa [e] using r4 p (by omega)
          · exact RSet_f h3 (by rw [wI_f (by omega), wI_f (by omega), wI_f (by omega)]) (by rw [wI_f (by omega), wI_f (by omega), wI_f (by omega)]) (by rw [wI_f (by omega), wI_f (by omega), wI_f (by omega)]) (by rw [wI_f (by omega), wI_f (by omega), wI_f (by omega)])
          · obtain ⟨t1, t2, t3, t4, t5, t6⟩ := RTold_f (σ' := wI (wI (wI σ 13 P (nI r)) 14 P (nI c)) 2 0 (nI (P + 1))) (τ' := wI (wI (wI τ 4 P (nI r)) 5 P (nI c)) 0 5 (nI (P + 1))) h4 (fun k hk => by rw [wI_f (by omega), wI_f (by omega), wI_f (by omega)]) (by rw [wI_e, if_neg (by omega), wI_f (by omega), wI_f (by omega)]) (by rw [wI_f (by omega), wI_f (by omega), wI_f (by omega)]) (fun k hk => by rw [wI_f (by omega), wI_f (by omega), wI_f (by omega)])
            exact ⟨t1, t2, t3, t4, t5, fun i hi => ⟨Nat.lt_succ_of_lt (t6 i hi).1, (t6 i hi).2⟩⟩
          · exact RSh_f h5 (fun k hk => by rw [wI_f (by omega), wI_f (by omega), wI_f (by omega)]) (fun k hk => by rw [wI_f (by omega), wI_f (by omega), wI_f (by omega)])
          · rw [wI_f (by omega), wI_f (by omega), wI_f (by omega), wI_e, if_neg (by omega), wI_f (by omega), wI_f (by omega)]; exact h6
