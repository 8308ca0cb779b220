/-! fractions: chance, hard, parts -/
theorem o_hard (a b : Int32) : Op (f_X11_hard a b) (f_X12_hard a b) := by
  intro σ τ ⟨n, t, P, T, pass, lim, rw_, pl, tp, tq, ta, tt, as, h⟩
  obtain ⟨hC, hD⟩ := rd_C h
  obtain ⟨τ1, e1, f1, _, hM, hR⟩ := rd_M h
  have hn := hD.1
  have hP := hD.2.1
  unfold f_X11_hard f_X12_hard
  rw [q_c h, q_m h, Option.bind_some, Option.bind_some]
  simp only [jn_e]
  cases z : wiB a 0 (nI n - 1)
  · exact ⟨_, σ, τ, rfl, rfl, rel_of h Fr_rf FrM_rf⟩
  · obtain ⟨q, hq, hq2, e⟩ := q_of h z
    unfold f_X11_isPart
    rw [if_pos rfl, if_pos rfl, c_within, m_in, Option.bind_some, Option.bind_some, e]
    cases z2 : wiB b 0 1
    · exact ⟨_, σ, τ, rfl, rfl, rel_of h Fr_rf FrM_rf⟩
    · rw [Option.bind_some, if_pos rfl, if_pos rfl, e1, Option.bind_some]
      unfold f_X12_hardNow
      have cP : σ.1 2 0 = nI P := hC.1.2.1
      have mP : τ1.1 0 5 = nI P := hM.1.2.1
      have i1 : inb (nI q) 12 = true := inb_t (by omega) (by omega)
      have j1 : (nI q).toNatClampNeg = q := nI_clamp (by omega)
      simp only [jn_e, cP, mP, i1, gd_q, j1, hC.1.2.2.1 q hq2, hM.1.2.2.1 q hq2]
      by_cases c0 : P = 0
      · have g0 : nI P = 0 := by rw [c0]; rfl
        rw [if_pos g0, if_pos g0]
        exact ⟨_, σ, τ1, rfl, rfl, rel_of h Fr_rf f1⟩
      · have g0 : ¬ nI P = 0 := by rw [show (0 : Int32) = nI 0 from rfl, nI_eq (by omega) (by omega)]; exact c0
        rw [if_neg g0, if_neg g0]
        by_cases c1 : kcF n t (σ.1 12) q = 0
        · rw [if_pos c1, if_pos c1]
          exact ⟨_, σ, τ1, rfl, rfl, rel_of h Fr_rf f1⟩
        · rw [if_neg c1, if_neg c1, c_allBits cP hP, Option.bind_some]
          have p2 := p2le P (by omega)
          rw [c_rightsTo hC.1 hP hq2 (show 2 ^ P - 1 < 2 ^ 31 by omega) (f := fun _ => true) (fun p hp => bit_a (by omega) hp), Option.bind_some]
          have mc := m_countOf hM.1 hP hq2 (show 1023 < 2 ^ 31 by omega) true
          rw [show (1023 : Int32) = nI 1023 from rfl, mc, Option.bind_some]
          have er : riN P (kcF n t (σ.1 12)) (sayF tp tq ta (cntN tt as T)) q (fun p => bitN 1023 p == true) = riN P (kcF n t (σ.1 12)) (sayF tp tq ta (cntN tt as T)) q (fun _ => true) := by
            unfold riN
            exact sm_congr (fun p hp => by simp only [bit_all p (show p < 10 by omega)]; rfl)
          have hle := riN_le (P := P) (kc := kcF n t (σ.1 12)) (sy := sayF tp tq ta (cntN tt as T)) q (fun _ => true)
          have hA : riN P (kcF n t (σ.1 12)) (sayF tp tq ta (cntN tt as T)) q (fun _ => true) < 2 ^ 63 := by omega
          rw [er, nI_toL (by omega), nI_toL (by omega), c_frac (lN_abs hA) hA (by omega) (by omega) b (fun v s => some (v, s)), m_lowest (lN_abs hA) hA (by omega) (by omega) b, Option.bind_some, Option.bind_some]
          exact ⟨_, _, τ1, rfl, rfl, rel_of h (fun _ _ => rfl) f1⟩
theorem o_chance (a b c : Int32) : Op (f_X11_chance a b c) (f_X12_chance a b c) := by
  intro σ τ ⟨n, t, P, T, pass, lim, rw_, pl, tp, tq, ta, tt, as, h⟩
  obtain ⟨hC, hD⟩ := rd_C h
  obtain ⟨τ1, e1, f1, _, hM, hR⟩ := rd_M h
  have hn := hD.1
  have hP := hD.2.1
  unfold f_X11_chance f_X12_chance
  rw [tw_c h, tw_m h, Option.bind_some, Option.bind_some, jn_e, jn_e]
  cases z : twB P a b
  · exact ⟨_, σ, τ, rfl, rfl, rel_of h Fr_rf FrM_rf⟩
  · obtain ⟨i, j, hi, hj, hij, ea, eb⟩ := tw_of h z
    unfold f_X11_isPart
    rw [if_pos rfl, if_pos rfl, c_within, m_in, Option.bind_some, Option.bind_some, ea, eb]
    cases z2 : wiB c 0 1
    · exact ⟨_, σ, τ, rfl, rfl, rel_of h Fr_rf FrM_rf⟩
    · rw [Option.bind_some, if_pos rfl, if_pos rfl, e1, Option.bind_some]
      obtain ⟨x1, x2⟩ := c_chance hC.1 hn hP hD.2.2.1 hD.2.2.2.1 hi hj hij
      obtain ⟨y1, y2⟩ := m_chance hM.1 hn hP hD.2.2.2.1 (show i < 10 by omega) (show j < 10 by omega)
      by_cases g : 7 < boN n (kcF n t (σ.1 12)) (sayF tp tq ta (cntN tt as T)) i j
      · rw [x1 g, y1 g]
        exact ⟨_, σ, τ1, rfl, rfl, rel_of h Fr_rf f1⟩
      · obtain ⟨s0, fr, ec⟩ := x2 g
        obtain ⟨s', em, fm, m18, m19⟩ := y2 g
        have hbb := b_bound (sy := sayF tp tq ta (cntN tt as T)) hi hj hij hP hD.2.2.2.1 n hn
        have htl := top_le (P := P) (show boN n (kcF n t (σ.1 12)) (sayF tp tq ta (cntN tt as T)) i j ≤ 7 by omega)
        have hB2 : bN P (kcF n t (σ.1 12)) (sayF tp tq ta (cntN tt as T)) i j n < 2 ^ 63 := by
          have hb3 := hbb.2
          rw [me_bo] at hb3
          have hbb2 := p144 (boN n (kcF n t (σ.1 12)) (sayF tp tq ta (cntN tt as T)) i j) (by omega)
          rw [p144b] at hbb2
          omega
        have hA := Nat.lt_of_le_of_lt htl hB2
        rw [ec, em, Option.bind_some, Option.bind_some]
        simp only [if_true, m18, m19]
        rw [m_lowest (lN_abs hA) hA hbb.1 hB2 c, c_part, Option.bind_some, Option.bind_some]
        exact ⟨_, _, s', rfl, rfl, rel_of h (fun k hk => Fr2_Fr fr k hk) (FrM_tr f1 (fun k _ => by rw [fm]))⟩
theorem o_parts (a b : Int32) : Op (f_X11_parts a b) (f_X12_parts a b) := by
  intro σ τ ⟨n, t, P, T, pass, lim, rw_, pl, tp, tq, ta, tt, as, h⟩
  obtain ⟨hC, hD⟩ := rd_C h
  obtain ⟨τ1, e1, f1, _, hM, hR⟩ := rd_M h
  have hn := hD.1
  have hP := hD.2.1
  unfold f_X11_parts f_X12_parts
  rw [q_c h, q_m h, Option.bind_some, Option.bind_some]
  simp only [jn_e]
  cases z : wiB a 0 (nI n - 1)
  · exact ⟨_, σ, τ, rfl, rfl, rel_of h Fr_rf FrM_rf⟩
  · obtain ⟨q, hq, hq2, e⟩ := q_of h z
    unfold f_X11_isPart
    rw [if_pos rfl, if_pos rfl, c_within, m_in, Option.bind_some, Option.bind_some, e]
    cases z2 : wiB b 0 1
    · exact ⟨_, σ, τ, rfl, rfl, rel_of h Fr_rf FrM_rf⟩
    · rw [Option.bind_some, if_pos rfl, if_pos rfl, e1, Option.bind_some]
      obtain ⟨τ2, f2, em⟩ := m_parts hM.1 hn hP hq2 b
      have cP : σ.1 2 0 = nI P := hC.1.2.1
      have i1 : inb (nI q) 12 = true := inb_t (by omega) (by omega)
      have j1 : (nI q).toNatClampNeg = q := nI_clamp (by omega)
      rw [em]
      simp only [cP, i1, gd_q, j1, hC.1.2.2.1 q hq2]
      by_cases c0 : P < 2
      · have g0 : nI P < 2 := nI_lt (b := 2) c0 (by omega)
        rw [if_pos g0, if_pos (Or.inl c0)]
        exact ⟨_, σ, τ1, rfl, rfl, rel_of h Fr_rf f1⟩
      · have g0 : ¬ nI P < 2 := by rw [show (2 : Int32) = nI 2 from rfl, nI_ltI (by omega) (by omega)]; exact c0
        rw [if_neg g0]
        by_cases c1 : kcF n t (σ.1 12) q = 0
        · rw [if_pos c1, if_pos (Or.inr c1)]
          exact ⟨_, σ, τ1, rfl, rfl, rel_of h Fr_rf f1⟩
        · rw [if_neg c1, if_neg (fun g => g.elim c0 c1)]
          obtain ⟨σ1, ec, fc⟩ := c_better hC.1 hn hP hq2
          have c2 : σ1.1 2 0 = nI P := by rw [fc 2 (by omega)]; exact cP
          rw [ec, Option.bind_some]
          obtain ⟨A, hA, eA⟩ := abs32 (ptV n P (kcF n t (σ.1 12)) (sayF tp tq ta (cntN tt as T)) q)
          have h2 : ∀ P, P ≤ 10 → nI P / 2 = nI (P / 2) := by decide
          simp only [c2, show ((2 : Int32) != 0) = true by decide, gd_q, h2 P hP]
          rw [nI_toL (show P / 2 < 2 ^ 31 by omega), m_lowest eA (by omega) (by omega) (by omega) b]
          show ∃ r σ' τ', (f_X1_become (ptV n P (kcF n t (σ.1 12)) (sayF tp tq ta (cntN tt as T)) q).toInt64 (lN (P / 2)) σ1).bind _ = _ ∧ _
          rw [c_frac eA (by omega) (by omega) (by omega) b (fun v s => some (v, s))]
          exact ⟨_, _, τ2, rfl, rfl, rel_of h (fun k hk => fc k hk) (FrM_tr f1 (FrL_M f2))⟩
