/-! count -/
theorem sm_z {n : Nat} {f : Nat → Nat} (h : ∀ k, k < n → f k = 0) : sm n f = 0 := by
  induction n with
  | zero => rfl
  | succ n ih => rw [sm_s, ih (fun k hk => h k (by omega)), h n (by omega)]
section M30
variable {σ τ : St} {n t P T pass lim : Nat} {rw_ pl tp tq : Nat → Nat} {ta tt : Nat → Int32} {as : Int32}
theorem m_sumOf (h : RD σ τ n t P T pass lim rw_ pl tp tq ta tt as) {w : Nat} (hw : w < 100) : ∃ τ', f_X12_sumOf (nI w) τ = some (nI ((if w = 1 then opN n (kcF n t (σ.1 12)) (-1) else 0) + sm P (incN n P (kcF n t (σ.1 12)) (sayF tp tq ta (cntN tt as T)) lim (fun p => rbP tp tq ta n (kcF n t (σ.1 12)) p 0 (cntN tt as T)) w)), τ') ∧ FrM τ τ' := by
  obtain ⟨hC, hD⟩ := rd_C h
  obtain ⟨τ1, e1, f1, _, hM, hR⟩ := rd_M h
  have hn := hD.1
  have hP := hD.2.1
  unfold f_X12_sumOf
  rw [e1, Option.bind_some, jn_e]
  by_cases c : w = 1
  · subst c
    obtain ⟨τ', e, f⟩ := m_sumLoop (rb := fun p => rbP tp tq ta n (kcF n t (σ.1 12)) p 0 (cntN tt as T)) hM hD (fun p hp => (hR p (by omega)).1) (w := 1) (by omega) (opN n (kcF n t (σ.1 12)) (-1))
    rw [if_pos (show nI 1 = 1 from rfl), if_pos rfl, m_openBut hM.1 hn (-1), Option.bind_some]
    exact ⟨τ', e, FrM_tr f1 (fun k _ => by rw [f])⟩
  · obtain ⟨τ', e, f⟩ := m_sumLoop (rb := fun p => rbP tp tq ta n (kcF n t (σ.1 12)) p 0 (cntN tt as T)) hM hD (fun p hp => (hR p (by omega)).1) (w := w) hw 0
    rw [show nI 0 = (0 : Int32) from rfl] at e
    rw [if_neg (show ¬ nI w = 1 by rw [show (1 : Int32) = nI 1 from rfl, nI_eq (by omega) (by omega)]; exact c), if_neg c]
    exact ⟨τ', e, FrM_tr f1 (fun k _ => by rw [f])⟩
end M30
theorem o_count (a : Int32) : Op (f_X11_count a) (f_X12_count a) := by
  intro σ τ ⟨n, t, P, T, pass, lim, rw_, pl, tp, tq, ta, tt, as, h⟩
  have no : Rel σ τ := rel_of h Fr_rf FrM_rf
  obtain ⟨hC, hD⟩ := rd_C h
  have hn := hD.1
  have hP := hD.2.1
  obtain ⟨⟨k1, k2, k3, k4, k5, k6, k7, k8, k9, k10⟩, ⟨r1, r2, r3, r4⟩, _, ⟨t1, t2, t3, t4, t5, t6⟩, h5, h6⟩ := id h
  unfold f_X11_count f_X12_count
  by_cases c0 : a = 0
  · subst c0
    rw [if_pos rfl, if_pos rfl, k3, k5]
    exact ⟨_, σ, τ, rfl, rfl, no⟩
  rw [if_neg c0, if_neg c0]
  by_cases c1 : a = 1
  · subst c1
    obtain ⟨τ', e, f⟩ := m_sumOf h (w := 1) (by omega)
    rw [if_pos rfl, if_pos rfl, show (1 : Int32) = nI 1 from rfl, e, k9, Option.bind_some, if_pos rfl, sm_z (fun p _ => by unfold incN; simp), Nat.add_zero]
    exact ⟨_, σ, τ', rfl, rfl, rel_of h Fr_rf f⟩
  rw [if_neg c1, if_neg c1]
  by_cases c2 : a = 2
  · subst c2
    rw [if_pos rfl, if_pos rfl, r2, r3]
    exact ⟨_, σ, τ, rfl, rfl, no⟩
  rw [if_neg c2, if_neg c2]
  by_cases c3 : a = 3
  · subst c3
    rw [if_pos rfl, if_pos rfl, t2.1, t3.1]
    exact ⟨_, σ, τ, rfl, rfl, no⟩
  rw [if_neg c3, if_neg c3]
  by_cases c4 : a = 4
  · subst c4
    obtain ⟨τ', e, f⟩ := m_sumOf h (w := 4) (by omega)
    rw [if_pos rfl, if_pos rfl, show (4 : Int32) = nI 4 from rfl, e, c_answers hC.1 hn hP, Option.bind_some, Option.bind_some, if_neg (by omega), Nat.zero_add, show sm P (incN n P (kcF n t (σ.1 12)) (sayF tp tq ta (cntN tt as T)) lim (fun p => rbP tp tq ta n (kcF n t (σ.1 12)) p 0 (cntN tt as T)) 4) = anG n P (sayF tp tq ta (cntN tt as T)) from sm_congr (fun p _ => by unfold incN; rw [if_pos rfl])]
    exact ⟨_, σ, τ', rfl, rfl, rel_of h Fr_rf f⟩
  rw [if_neg c4, if_neg c4]
  by_cases c5 : a = 5
  · subst c5
    obtain ⟨τ', e, f⟩ := m_sumOf h (w := 5) (by omega)
    rw [if_pos rfl, if_pos rfl, show (5 : Int32) = nI 5 from rfl, e, c_together hC.1 hn hP, Option.bind_some, Option.bind_some, if_neg (by omega), Nat.zero_add, show sm P (incN n P (kcF n t (σ.1 12)) (sayF tp tq ta (cntN tt as T)) lim (fun p => rbP tp tq ta n (kcF n t (σ.1 12)) p 0 (cntN tt as T)) 5) = tgN n P (kcF n t (σ.1 12)) (sayF tp tq ta (cntN tt as T)) from sm_congr (fun p _ => by unfold incN; rw [if_neg (by omega), if_pos rfl])]
    exact ⟨_, σ, τ', rfl, rfl, rel_of h Fr_rf f⟩
  rw [if_neg c5, if_neg c5]
  by_cases c6 : a = 6
  · subst c6
    obtain ⟨τ', e, f⟩ := m_sumOf h (w := 6) (by omega)
    obtain ⟨σ', ec, fc⟩ := c_oddPairs hC hD
    rw [if_pos rfl, if_pos rfl, show (6 : Int32) = nI 6 from rfl, e, ec, Option.bind_some, Option.bind_some, if_neg (by omega), Nat.zero_add, show sm P (incN n P (kcF n t (σ.1 12)) (sayF tp tq ta (cntN tt as T)) lim (fun p => rbP tp tq ta n (kcF n t (σ.1 12)) p 0 (cntN tt as T)) 6) = opc n P (kcF n t (σ.1 12)) (sayF tp tq ta (cntN tt as T)) lim from sm_congr (fun p _ => by
      unfold incN
      rw [if_neg (by omega), if_neg (by omega), if_pos rfl]
      exact sm_congr (fun k _ => by rw [odB_comm]))]
    exact ⟨_, σ', τ', rfl, rfl, rel_of h fc f⟩
  rw [if_neg c6, if_neg c6]
  by_cases c7 : a = 7
  · subst c7
    obtain ⟨τ', e, f⟩ := m_sumOf h (w := 7) (by omega)
    have hle := cnt_le (tt := tt) (as := as) T
    have tP : ∀ i, i < cntN tt as T → tp i < P := fun i hi => (t6 i (by omega)).1
    have cA : f_X8_countOf 1023 0 σ = some (nI (rbA tp tq ta n (kcF n t (σ.1 12)) 1023 0 (cntN tt as T))) := c_countOf (a := 1023) t2 t1 t5.1 hle k3 k1 k10 (by omega)
    rw [if_pos rfl, if_pos rfl, show (7 : Int32) = nI 7 from rfl, e, cA, Option.bind_some, Option.bind_some, if_neg (by omega), Nat.zero_add, show sm P (incN n P (kcF n t (σ.1 12)) (sayF tp tq ta (cntN tt as T)) lim (fun p => rbP tp tq ta n (kcF n t (σ.1 12)) p 0 (cntN tt as T)) 7) = rbA tp tq ta n (kcF n t (σ.1 12)) 1023 0 (cntN tt as T) from by
      rw [← rb_all 0 hP tP]
      exact sm_congr (fun p _ => by unfold incN; rw [if_neg (by omega), if_neg (by omega), if_neg (by omega), if_pos rfl])]
    exact ⟨_, σ, τ', rfl, rfl, rel_of h Fr_rf f⟩
  rw [if_neg c7, if_neg c7]
  by_cases c8 : a = 8
  · subst c8
    rw [if_pos rfl, if_pos rfl, h6]
    exact ⟨_, σ, τ, rfl, rfl, no⟩
  rw [if_neg c8, if_neg c8]
  exact ⟨_, σ, τ, rfl, rfl, no⟩
