/-! answer -/
theorem t_last {σ τ : St} {P T : Nat} {tp tq : Nat → Nat} {ta tt : Nat → Int32} {as : Int32} (h : RTold σ τ P T tp tq ta tt as) : ∃ v, f_X10_latestTime σ = some v ∧ f_X12_lastTime τ = some v := by
  obtain ⟨t1, t2, t3, t4, t5, t6⟩ := h
  unfold f_X10_latestTime f_X12_lastTime
  rw [t2.1, t3.1]
  by_cases c : T = 0
  · have g : nI T = 0 := by rw [c]; rfl
    rw [if_pos g, if_pos g]; exact ⟨_, rfl, rfl⟩
  · have g : ¬ nI T = 0 := by rw [show (0 : Int32) = nI 0 from rfl, nI_eq (by omega) (by omega)]; exact c
    have e : nI T - 1 = nI (T - 1) := by rw [show (1 : Int32) = nI 1 from rfl, pk_sub (by omega)]
    have i1 : inb (nI (T - 1)) 150 = true := inb_t (by omega) (by omega)
    have j1 : (nI (T - 1)).toNatClampNeg = T - 1 := nI_clamp (by omega)
    rw [if_neg g, if_neg g, e, i1, gd_t, gd_t, j1, (t2.2 (T - 1) (by omega)).2.2.2.2.2.2, (t3.2.2 (T - 1) (by omega)).2.2.2.2.2]
    exact ⟨_, rfl, rfl⟩
theorem o_answer (a b c d : Int32) : Op (f_X11_answer a b c d) (f_X12_answer a b c d) := by
  intro σ τ ⟨n, t, P, T, pass, lim, rw_, pl, tp, tq, ta, tt, as, h⟩
  have no : Rel σ τ := rel_of h Fr_rf FrM_rf
  obtain ⟨v, l1, l2⟩ := t_last h.2.2.2.1
  unfold f_X11_answer f_X12_answer f_X12_more f_X11_isNextTime
  simp only [p_c h, p_m h, q_c h, q_m h, c_within, m_in, Option.bind_some, l1, l2]
  cases z1 : wiB a 0 (nI P - 1)
  · exact ⟨_, σ, τ, rfl, rfl, no⟩
  · cases z2 : wiB b 0 (nI n - 1)
    · exact ⟨_, σ, τ, rfl, rfl, no⟩
    · cases z3 : wiB c 0 5
      · exact ⟨_, σ, τ, rfl, rfl, no⟩
      · cases z4 : wiB d v 999
        · exact ⟨_, σ, τ, rfl, rfl, no⟩
        · obtain ⟨p, hp, hp2, ea⟩ := p_of h z1
          obtain ⟨q, hq, hq2, eb⟩ := q_of h z2
          obtain ⟨w, hw, ec⟩ := wi_of (m := 5) (by omega) z3
          subst ea; subst eb
          obtain ⟨h1, h2, h3, ⟨t1, t2, t3, t4, t5, t6⟩, h5, h6⟩ := h
          simp only [if_true, t2.1, t3.1]
          by_cases cT : T = 150
          · have g1 : ¬ nI T < 150 := by rw [cT]; decide
            have g2 : nI T = 150 := by rw [cT]; rfl
            rw [if_neg g1, if_pos g2]
            exact ⟨_, σ, τ, rfl, rfl, no⟩
          · have g1 : nI T < 150 := nI_lt (b := 150) (by omega) (by omega)
            have g2 : ¬ nI T = 150 := by rw [show (150 : Int32) = nI 150 from rfl, nI_eq (by omega) (by omega)]; exact cT
            obtain ⟨σ', e, f, _, g3, g4, g5, g6⟩ := c_tell (v := c) (t := d) t2 (by omega) t4 t5 h3.2.2.2.2.2.2 hp2 hq2
            have i1 : inb (nI T) 150 = true := inb_t (by omega) (by omega)
            have j1 : (nI T).toNatClampNeg = T := nI_clamp (by omega)
            have w6 : (wI τ 6 T (nI p)).1 0 8 = nI T := by rw [wI_f (by omega)]; exact t3.1
            have w7 : (wI (wI τ 6 T (nI p)) 7 T (nI q)).1 0 8 = nI T := by rw [wI_f (by omega)]; exact w6
            have w8 : (wI (wI (wI τ 6 T (nI p)) 7 T (nI q)) 8 T c).1 0 8 = nI T := by rw [wI_f (by omega)]; exact w7
            have w9 : (wI (wI (wI (wI τ 6 T (nI p)) 7 T (nI q)) 8 T c) 9 T d).1 0 8 = nI T := by rw [wI_f (by omega)]; exact w8
            have wf : (wI (wI (wI (wI (wI τ 6 T (nI p)) 7 T (nI q)) 8 T c) 9 T d) 0 8 (nI (T + 1))).1 0 8 = nI (T + 1) := by rw [wI_e, if_pos ⟨rfl, rfl⟩]
            rw [if_pos g1, if_neg g2, e]
            simp only [i1, gd_q, j1, bd_e, w6, w7, w8, w9, nI_1, wf, Option.bind_some, g4.1]
            refine ⟨_, σ', _, rfl, rfl, n, t, P, T + 1, pass, lim, rw_, pl, _, _, _, _, as, ?_, ?_, ?_, ⟨by omega, g4, ?_, g5, g6, ?_⟩, ?_, ?_⟩
            · exact RKey_f h1 (f 1 (by omega) (by omega) (by omega)) (f 11 (by omega) (by omega) (by omega)) (f 12 (by omega) (by omega) (by omega)) (by rw [wI_e, if_neg (by omega), wI_f (by omega), wI_f (by omega), wI_f (by omega), wI_f (by omega)]) (by rw [wI_e, if_neg (by omega), wI_f (by omega), wI_f (by omega), wI_f (by omega), wI_f (by omega)]) (by rw [wI_f (by omega), wI_f (by omega), wI_f (by omega), wI_f (by omega), wI_f (by omega)])
            · exact RRoom_f h2 (f 2 (by omega) (by omega) (by omega)) (f 13 (by omega) (by omega) (by omega)) (f 14 (by omega) (by omega) (by omega)) (by rw [wI_e, if_neg (by omega), wI_f (by omega), wI_f (by omega), wI_f (by omega), wI_f (by omega)]) (by rw [wI_f (by omega), wI_f (by omega), wI_f (by omega), wI_f (by omega), wI_f (by omega)]) (by rw [wI_f (by omega), wI_f (by omega), wI_f (by omega), wI_f (by omega), wI_f (by omega)])
            · exact RSet_f h3 (by rw [f 4 (by omega) (by omega) (by omega)]) (by rw [f 6 (by omega) (by omega) (by omega)]) (by rw [g3]; exact h3.2.2.2.2.2.2.symm) (by rw [wI_f (by omega), wI_f (by omega), wI_f (by omega), wI_f (by omega), wI_f (by omega)])
            · refine ⟨wf, by rw [wI_f (by omega), wI_f (by omega), wI_f (by omega), wI_f (by omega), wI_f (by omega)]; exact t3.2.1, fun i hi => ?_⟩
              simp only [wI_e]
              by_cases e2 : i = T
              · subst e2; simp [nx_s, hp2, hq2]
              · rw [nx_l (show i < T by omega), nx_l (show i < T by omega), nx_l (show i < T by omega), nx_l (show i < T by omega)]
                simpa [e2] using t3.2.2 i (by omega)
            · intro i hi
              by_cases e2 : i = T
              · subst e2; rw [nx_s, nx_s]; exact ⟨hp, w, hw, ec⟩
              · rw [nx_l (show i < T by omega), nx_l (show i < T by omega)]; exact t6 i (by omega)
            · exact RSh_f h5 (fun k hk => f k (by omega) (by omega) (by omega)) (fun k hk => by rw [wI_f (by omega), wI_f (by omega), wI_f (by omega), wI_f (by omega), wI_f (by omega)])
            · rw [f 0 (by omega) (by omega) (by omega), wI_e, if_neg (by omega), wI_f (by omega), wI_f (by omega), wI_f (by omega), wI_f (by omega)]; exact h6
