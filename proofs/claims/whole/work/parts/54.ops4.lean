/-! marks, without, shared -/
theorem l00 : nI 0 = (0 : Int32) := rfl
theorem l11 : nI 1 = (1 : Int32) := rfl
theorem l22 : nI 2 = (2 : Int32) := rfl
theorem l33 : nI 3 = (3 : Int32) := rfl
theorem d10 : ¬ (1 : Int32) = 0 := by decide
theorem d20 : ¬ (2 : Int32) = 0 := by decide
theorem d21 : ¬ (2 : Int32) = 1 := by decide
theorem d30 : ¬ (3 : Int32) = 0 := by decide
theorem d31 : ¬ (3 : Int32) = 1 := by decide
theorem d32 : ¬ (3 : Int32) = 2 := by decide
theorem mk_le12 {n : Nat} {kc : Nat → Int32} {sy : Nat → Nat → Int32} (hn : n ≤ 12) (p : Nat) (o : Int32) : mkB n kc sy p o ≤ 12 := by
  unfold mkB
  have := sm_le (n := n) (b := 1) (f := fun q => (!(decide (nI q = o)) && isR kc sy p q).toNat) (fun k _ => Bool.toNat_le _)
  omega
theorem op_le12 {n : Nat} {kc : Nat → Int32} (hn : n ≤ 12) (o : Int32) : opN n kc o ≤ 12 := by
  unfold opN
  have := sm_le (n := n) (b := 1) (f := fun q => (!(decide (nI q = o)) && !(decide (kc q = 0))).toNat) (fun k _ => Bool.toNat_le _)
  omega
theorem o_mark (a b : Int32) : Op (f_X11_mark a b) (f_X12_mark a b) := by
  intro σ τ ⟨n, t, P, T, pass, lim, rw_, pl, tp, tq, ta, tt, as, h⟩
  obtain ⟨hC, hD⟩ := rd_C h
  obtain ⟨τ1, e1, f1, _, hM, hR⟩ := rd_M h
  have hn := hD.1
  have hP := hD.2.1
  unfold f_X11_mark f_X12_mark
  rw [p_c h, p_m h, Option.bind_some, Option.bind_some]
  cases z : wiB a 0 (nI P - 1)
  · exact ⟨_, σ, τ, rfl, rfl, rel_of h Fr_rf FrM_rf⟩
  · obtain ⟨p, hp, hp2, e⟩ := p_of h z
    rw [if_pos rfl, if_pos rfl, m_in, Option.bind_some, e]
    cases z2 : wiB b 0 3
    · have nb : ∀ k, k ≤ 3 → ¬ b = nI k := fun k hk e => by
        have : ∀ k, k < 4 → wiB (nI k) 0 3 = true := by decide
        rw [e, this k (by omega)] at z2
        exact absurd z2 (by decide)
      have n0 : ¬ b = 0 := nb 0 (by omega)
      have n1 : ¬ b = 1 := nb 1 (by omega)
      have n2 : ¬ b = 2 := nb 2 (by omega)
      have n3 : ¬ b = 3 := nb 3 (by omega)
      rw [if_neg n0, if_neg n1, if_neg n2, if_neg n3]
      exact ⟨_, σ, τ, rfl, rfl, rel_of h Fr_rf FrM_rf⟩
    · obtain ⟨k, hk, eb⟩ := wi_of (m := 3) (by omega) z2
      rw [if_pos rfl, e1, Option.bind_some]
      unfold f_X12_markOf
      rcases (show k = 0 ∨ k = 1 ∨ k = 2 ∨ k = 3 by omega) with g | g | g | g
      · rw [eb, g]
        simp only [l00, l11, l22, l33, d10, d20, d21, d30, d31, d32, if_true, if_false]
        rw [c_markOf hC.1 hn hp2, m_markBut hM.1 hn hp2]
        exact ⟨_, σ, τ1, rfl, rfl, rel_of h Fr_rf f1⟩
      · obtain ⟨σ', ec, fc⟩ := c_rankOf hC.1 hn hP hp
        rw [eb, g]
        simp only [l00, l11, l22, l33, d10, d20, d21, d30, d31, d32, if_true, if_false]
        rw [ec, m_rankBut hM.1 hn hP hp]
        exact ⟨_, σ', τ1, rfl, rfl, rel_of h fc f1⟩
      · have s31 : τ1.1 3 1 = nI pass := by rw [f1 3 (by omega)]; exact h.2.2.1.2.2.2.1
        rw [eb, g]
        simp only [l00, l11, l22, l33, d10, d20, d21, d30, d31, d32, if_true, if_false]
        rw [c_markOf hC.1 hn hp2, Option.bind_some, h.1.2.2.2.2.2.2.2.2.1, c_passes h.2.2.1.2.2.1 h.2.2.1.1 (mk_le12 hn p _) (op_le12 hn _), m_passesBut hM.1 hn s31 h.2.2.1.1 hp2]
        cases paB pass (mkB n (kcF n t (σ.1 12)) (sayF tp tq ta (cntN tt as T)) p (-1)) (opN n (kcF n t (σ.1 12)) (-1))
        · exact ⟨_, σ, τ1, rfl, rfl, rel_of h Fr_rf f1⟩
        · exact ⟨_, σ, τ1, rfl, rfl, rel_of h Fr_rf f1⟩
      · rw [eb, g]
        simp only [l00, l11, l22, l33, d10, d20, d21, d30, d31, d32, if_true, if_false]
        rw [c_wrongs hC.1 hn hp2, m_wrongs hM.1 hn hp2]
        exact ⟨_, σ, τ1, rfl, rfl, rel_of h Fr_rf f1⟩
theorem o_without (a b : Int32) : Op (f_X11_without a b) (f_X12_without a b) := by
  intro σ τ ⟨n, t, P, T, pass, lim, rw_, pl, tp, tq, ta, tt, as, h⟩
  obtain ⟨hC, hD⟩ := rd_C h
  obtain ⟨τ1, e1, f1, _, hM, hR⟩ := rd_M h
  have hn := hD.1
  have hP := hD.2.1
  unfold f_X11_without f_X12_without
  rw [q_c h, q_m h, Option.bind_some, Option.bind_some]
  cases z : wiB a 0 (nI n - 1)
  · exact ⟨_, σ, τ, rfl, rfl, rel_of h Fr_rf FrM_rf⟩
  · obtain ⟨q, hq, hq2, e⟩ := q_of h z
    rw [if_pos rfl, if_pos rfl, c_within, m_in, Option.bind_some, Option.bind_some, e]
    cases z2 : wiB b 0 1
    · exact ⟨_, σ, τ, rfl, rfl, rel_of h Fr_rf FrM_rf⟩
    · obtain ⟨k, hk, eb⟩ := wi_of (m := 1) (by omega) z2
      have s31 : τ1.1 3 1 = nI pass := by rw [f1 3 (by omega)]; exact h.2.2.1.2.2.2.1
      obtain ⟨w0, w1⟩ := m_without hM.1 hn hP s31 h.2.2.1.1 q
      rw [if_pos rfl, if_pos rfl, e1, Option.bind_some]
      rcases (show k = 0 ∨ k = 1 by omega) with g | g
      · obtain ⟨σ', ec, fc⟩ := c_otherRanks hC.1 hn hP q
        rw [eb, g]
        simp only [l00, l11, l22, l33, d10, d20, d21, d30, d31, d32, if_true, if_false]
        rw [ec, w0]
        exact ⟨_, σ', τ1, rfl, rfl, rel_of h fc f1⟩
      · rw [eb, g]
        simp only [l00, l11, l22, l33, d10, d20, d21, d30, d31, d32, if_true, if_false]
        rw [c_otherPasses hC.1 hn hP h.2.2.1.2.2.1 h.2.2.1.1 h.1.2.2.2.2.2.2.2.2.1 hq, w1]
        exact ⟨_, σ, τ1, rfl, rfl, rel_of h Fr_rf f1⟩
theorem o_shared (a b c : Int32) : Op (f_X11_shared a b c) (f_X12_shared a b c) := by
  intro σ τ ⟨n, t, P, T, pass, lim, rw_, pl, tp, tq, ta, tt, as, h⟩
  obtain ⟨hC, hD⟩ := rd_C h
  obtain ⟨τ1, e1, f1, _, hM, hR⟩ := rd_M h
  have hn := hD.1
  have hP := hD.2.1
  unfold f_X11_shared f_X12_shared
  rw [tw_c h, tw_m h, Option.bind_some, Option.bind_some]
  cases z : twB P a b
  · exact ⟨_, σ, τ, rfl, rfl, rel_of h Fr_rf FrM_rf⟩
  · obtain ⟨i, j, hi, hj, hij, ea, eb⟩ := tw_of h z
    rw [if_pos rfl, if_pos rfl, m_in, Option.bind_some, ea, eb]
    cases z2 : wiB c 0 2
    · have nb : ∀ k, k ≤ 2 → ¬ c = nI k := fun k hk e => by
        have : ∀ k, k < 3 → wiB (nI k) 0 2 = true := by decide
        rw [e, this k (by omega)] at z2
        exact absurd z2 (by decide)
      have n0 : ¬ c = 0 := nb 0 (by omega)
      have n1 : ¬ c = 1 := nb 1 (by omega)
      have n2 : ¬ c = 2 := nb 2 (by omega)
      rw [if_neg n0, if_neg n1, if_neg n2]
      exact ⟨_, σ, τ, rfl, rfl, rel_of h Fr_rf FrM_rf⟩
    · obtain ⟨k, hk, ec⟩ := wi_of (m := 2) (by omega) z2
      rw [if_pos rfl, e1, Option.bind_some]
      rcases (show k = 0 ∨ k = 1 ∨ k = 2 by omega) with g | g | g
      · rw [ec, g]
        simp only [l00, l11, l22, l33, d10, d20, d21, d30, d31, d32, if_true, if_false]
        rw [c_same hC.1 hn (by omega) (by omega), m_same hM.1 hn (by omega) (by omega)]
        exact ⟨_, σ, τ1, rfl, rfl, rel_of h Fr_rf f1⟩
      · rw [ec, g]
        simp only [l00, l11, l22, l33, d10, d20, d21, d30, d31, d32, if_true, if_false]
        rw [c_bothN hC.1 hn (by omega) (by omega), m_bothN hM.1 hn (by omega) (by omega)]
        exact ⟨_, σ, τ1, rfl, rfl, rel_of h Fr_rf f1⟩
      · obtain ⟨σ', eo, fo⟩ := cw_odd hC hD hi hj hij
        obtain ⟨τ', em, fm⟩ := mw_odd hM hD hi hj hij
        rw [ec, g]
        simp only [l00, l11, l22, l33, d10, d20, d21, d30, d31, d32, if_true, if_false]
        rw [eo, em, Option.bind_some, Option.bind_some]
        have fM : FrM τ τ' := FrM_tr f1 (fun k _ => by rw [fm])
        cases odB n P (kcF n t (σ.1 12)) (sayF tp tq ta (cntN tt as T)) lim i j
        · exact ⟨_, σ', τ', rfl, rfl, rel_of h (Fr2_Fr fo) fM⟩
        · exact ⟨_, σ', τ', rfl, rfl, rel_of h (Fr2_Fr fo) fM⟩
