/-! more calls that only look -/
section M21
variable {σ τ : St} {n t P T pass lim : Nat} {rw_ pl tp tq : Nat → Nat} {ta tt : Nat → Int32} {as : Int32}
theorem q_c (h : RD σ τ n t P T pass lim rw_ pl tp tq ta tt as) (a : Int32) : f_X11_isQuestion a σ = some (wiB a 0 (nI n - 1)) := by
  unfold f_X11_isQuestion; rw [c_within, h.1.2.2.1]; rfl
theorem q_m (h : RD σ τ n t P T pass lim rw_ pl tp tq ta tt as) (a : Int32) : f_X12_isQuestion a τ = some (wiB a 0 (nI n - 1)) := by
  unfold f_X12_isQuestion; rw [m_in, h.1.2.2.2.2.1]; rfl
theorem p_c (h : RD σ τ n t P T pass lim rw_ pl tp tq ta tt as) (a : Int32) : f_X11_isPupil a σ = some (wiB a 0 (nI P - 1)) := by
  unfold f_X11_isPupil; rw [c_within, h.2.1.2.1]; rfl
theorem p_m (h : RD σ τ n t P T pass lim rw_ pl tp tq ta tt as) (a : Int32) : f_X12_isPupil a τ = some (wiB a 0 (nI P - 1)) := by
  unfold f_X12_isPupil; rw [m_in, h.2.1.2.2.1]; rfl
theorem q_of (h : RD σ τ n t P T pass lim rw_ pl tp tq ta tt as) {a : Int32} (z : wiB a 0 (nI n - 1) = true) : ∃ k, k < n ∧ k < 12 ∧ a = nI k := by
  have := h.1.1
  obtain ⟨k, hk, e⟩ := wi_of1 (by omega) z
  exact ⟨k, hk, by omega, e⟩
theorem p_of (h : RD σ τ n t P T pass lim rw_ pl tp tq ta tt as) {a : Int32} (z : wiB a 0 (nI P - 1) = true) : ∃ k, k < P ∧ k < 10 ∧ a = nI k := by
  have := h.2.1.1
  obtain ⟨k, hk, e⟩ := wi_of1 (by omega) z
  exact ⟨k, hk, by omega, e⟩
end M21
theorem FrM_w2 {τ : St} {f : Nat → Int32} : FrM τ (wA τ 2 f) := fun k hk => wA_1 (by omega)
theorem o_fault : OpP f_X11_fault f_X12_fault := by
  intro σ τ ⟨n, t, P, T, pass, lim, rw_, pl, tp, tq, ta, tt, as, h⟩
  obtain ⟨k1, k2, k3, k4, k5, k6, k7, k8, k9, k10⟩ := h.1
  unfold f_X11_fault f_X12_fault
  rw [m_fault k5 k1 k6 k2, Option.bind_some, k8, k7]
  exact ⟨_, _, rfl, rfl, rel_of h Fr_rf FrM_w2⟩
theorem o_key (a : Int32) : OpP (f_X11_key a) (f_X12_key a) := by
  intro σ τ ⟨n, t, P, T, pass, lim, rw_, pl, tp, tq, ta, tt, as, h⟩
  obtain ⟨k1, k2, k3, k4, k5, k6, k7, k8, k9, k10⟩ := h.1
  unfold f_X11_key f_X12_key
  rw [q_c h, q_m h, Option.bind_some, Option.bind_some]
  cases z : wiB a 0 (nI n - 1)
  · exact ⟨_, τ, rfl, rfl, rel_of h Fr_rf FrM_rf⟩
  · obtain ⟨k, hk, hk2, e⟩ := q_of h z
    rw [e, if_pos rfl, if_pos rfl]
    unfold f_X12_keyOf
    rw [m_keyNow k5 k1 k6 k2, Option.bind_some, inb_t (by omega) (by omega), gd_t, gd_t, nI_clamp (by omega), k10 k hk2]
    simp only [wA_s, rwk_lt hk2, k7, Option.bind_some]
    exact ⟨_, _, rfl, rfl, rel_of h Fr_rf FrM_w2⟩
theorem o_said (a b : Int32) : OpP (f_X11_said a b) (f_X12_said a b) := by
  intro σ τ ⟨n, t, P, T, pass, lim, rw_, pl, tp, tq, ta, tt, as, h⟩
  obtain ⟨hC, hD⟩ := rd_C h
  obtain ⟨τ1, e1, f1, _, hM, hR⟩ := rd_M h
  unfold f_X11_said f_X12_said
  rw [p_c h, p_m h, Option.bind_some, Option.bind_some]
  cases z : wiB a 0 (nI P - 1)
  · exact ⟨_, τ, rfl, rfl, rel_of h Fr_rf FrM_rf⟩
  · rw [if_pos rfl, if_pos rfl, q_c h, q_m h, Option.bind_some, Option.bind_some]
    cases z2 : wiB b 0 (nI n - 1)
    · exact ⟨_, τ, rfl, rfl, rel_of h Fr_rf FrM_rf⟩
    · obtain ⟨p, hp, hp2, e⟩ := p_of h z
      obtain ⟨q, hq, hq2, e'⟩ := q_of h z2
      rw [e, e', if_pos rfl, if_pos rfl, e1, Option.bind_some, m_ix hp2 hq2, inb_t (by omega) (by omega), inb_t (by omega) (by omega), inb_t (by omega) (by omega), gd_t, gd_t, gd_t, nI_clamp (by omega), nI_clamp (by omega), nI_clamp (by omega), cur_id hp2, hC.1.2.2.2 p q hp2 hq2, hM.1.2.2.2 p q hp2 hq2]
      exact ⟨_, τ1, rfl, rfl, rel_of h Fr_rf f1⟩
theorem o_rubbed (a b : Int32) : OpP (f_X11_rubbed a b) (f_X12_rubbed a b) := by
  intro σ τ ⟨n, t, P, T, pass, lim, rw_, pl, tp, tq, ta, tt, as, h⟩
  obtain ⟨hC, hD⟩ := rd_C h
  obtain ⟨τ1, e1, f1, _, hM, hR⟩ := rd_M h
  unfold f_X11_rubbed f_X12_rubbed
  rw [p_c h, p_m h, Option.bind_some, Option.bind_some]
  cases z : wiB a 0 (nI P - 1)
  · exact ⟨_, τ, rfl, rfl, rel_of h Fr_rf FrM_rf⟩
  · rw [if_pos rfl, if_pos rfl, c_within, m_in, Option.bind_some, Option.bind_some]
    cases z2 : wiB b 0 2
    · exact ⟨_, τ, rfl, rfl, rel_of h Fr_rf FrM_rf⟩
    · obtain ⟨p, hp, hp2, e⟩ := p_of h z
      obtain ⟨⟨k1, k2, k3, k4, k5, k6, k7, k8, k9, k10⟩, _, _, ⟨t1, t2, t3, t4, t5, t6⟩, _, _⟩ := id h
      have hle := cnt_le (tt := tt) (as := as) T
      obtain ⟨w0, w1, w2⟩ := hR p hp2
      rw [e, if_pos rfl, if_pos rfl, c_rubOf t2 t1 t5.1 hle k3 k1 k10 hp2, e1, Option.bind_some, Option.bind_some]
      unfold f_X12_rubbedOf
      rw [inb_t (by omega) (by omega), gd_t, gd_t, gd_t, nI_clamp (by omega), w0, w1, w2]
      obtain ⟨w, hw, eb⟩ := wi_of (m := 2) (by omega) z2
      rcases (show w = 0 ∨ w = 1 ∨ w = 2 by omega) with g | g | g
      · subst g; subst eb; exact ⟨_, τ1, rfl, rfl, rel_of h Fr_rf f1⟩
      · subst g; subst eb; exact ⟨_, τ1, rfl, rfl, rel_of h Fr_rf f1⟩
      · subst g; subst eb; exact ⟨_, τ1, rfl, rfl, rel_of h Fr_rf f1⟩
