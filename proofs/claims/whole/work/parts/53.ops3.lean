/-! pairs, marks, gains -/
def OpQ {R : Type} (f g : St → Option R) : Prop := ∀ σ τ, Rel σ τ → ∃ r, f σ = some r ∧ g τ = some r
section M22
variable {σ τ : St} {n t P T pass lim : Nat} {rw_ pl tp tq : Nat → Nat} {ta tt : Nat → Int32} {as : Int32}
def twB (P : Nat) (a b : Int32) : Bool := wiB a 0 (nI P - 1) && wiB b 0 (nI P - 1) && !(decide (a = b))
theorem tw_c (h : RD σ τ n t P T pass lim rw_ pl tp tq ta tt as) (a b : Int32) : f_X11_isPair a b σ = some (twB P a b) := by
  unfold f_X11_isPair twB
  rw [p_c h, p_c h, Option.bind_some, Option.bind_some]
  cases wiB a 0 (nI P - 1)
  · rfl
  · cases wiB b 0 (nI P - 1)
    · rfl
    · by_cases c : a = b <;> simp [c]
theorem tw_m (h : RD σ τ n t P T pass lim rw_ pl tp tq ta tt as) (a b : Int32) : f_X12_areTwo a b τ = some (twB P a b) := by
  unfold f_X12_areTwo twB
  rw [p_m h, p_m h, Option.bind_some, Option.bind_some]
  cases wiB a 0 (nI P - 1)
  · rfl
  · cases wiB b 0 (nI P - 1)
    · rfl
    · by_cases c : a = b <;> simp [c]
theorem tw_of (h : RD σ τ n t P T pass lim rw_ pl tp tq ta tt as) {a b : Int32} (z : twB P a b = true) : ∃ i j, i < P ∧ j < P ∧ i ≠ j ∧ a = nI i ∧ b = nI j := by
  unfold twB at z
  simp only [Bool.and_eq_true, Bool.not_eq_true', decide_eq_false_iff_not] at z
  obtain ⟨⟨z1, z2⟩, z3⟩ := z
  obtain ⟨i, hi, _, e1⟩ := p_of h z1
  obtain ⟨j, hj, _, e2⟩ := p_of h z2
  exact ⟨i, j, hi, hj, fun e => z3 (by rw [e1, e2, e]), e1, e2⟩
end M22
theorem o_beside (a b : Int32) : OpQ (f_X11_beside a b) (f_X12_beside a b) := by
  intro σ τ ⟨n, t, P, T, pass, lim, rw_, pl, tp, tq, ta, tt, as, h⟩
  obtain ⟨hC, hD⟩ := rd_C h
  unfold f_X11_beside f_X12_beside
  rw [tw_c h, tw_m h, Option.bind_some, Option.bind_some]
  cases z : twB P a b
  · exact ⟨_, rfl, rfl⟩
  · obtain ⟨i, j, hi, hj, _, e1, e2⟩ := tw_of h z
    have hP := hD.2.1
    obtain ⟨_, ⟨a1, a2⟩, a3, a4⟩ := h.2.1.2.2.2 i hi
    obtain ⟨_, ⟨b1, b2⟩, b3, b4⟩ := h.2.1.2.2.2 j hj
    rw [e1, e2, if_pos rfl, if_pos rfl, cw_near hC hD hi hj, m_near (rw_ := rw_) (pl := pl) (by omega) (by omega) a1 b1 a2 b2 a3 b3 a4 b4]
    cases nrB rw_ pl i j
    · exact ⟨_, rfl, rfl⟩
    · exact ⟨_, rfl, rfl⟩
theorem o_gains (a b : Int32) : Op (f_X11_gains a b) (f_X12_gains a b) := by
  intro σ τ ⟨n, t, P, T, pass, lim, rw_, pl, tp, tq, ta, tt, as, h⟩
  obtain ⟨hC, hD⟩ := rd_C h
  obtain ⟨τ1, e1, f1, _, hM, hR⟩ := rd_M h
  have no : f_X11_refusal (-2) σ = some (noL (-2)) := rfl
  have no2 : f_X12_no (-2) τ = some (noL (-2)) := rfl
  unfold f_X11_gains f_X12_gains
  rw [c_within, m_in, Option.bind_some, Option.bind_some, jn_e, jn_e]
  cases z : wiB a 0 1023
  · exact ⟨_, σ, τ, rfl, rfl, rel_of h Fr_rf FrM_rf⟩
  · unfold f_X11_isPart
    rw [if_pos rfl, if_pos rfl, c_within, m_in, Option.bind_some, Option.bind_some]
    cases z2 : wiB b 0 1
    · exact ⟨_, σ, τ, rfl, rfl, rel_of h Fr_rf FrM_rf⟩
    · obtain ⟨k, hk, e⟩ := wi_of (m := 1023) (by omega) z
      obtain ⟨⟨k1, k2, k3, k4, k5, k6, k7, k8, k9, k10⟩, ⟨r1, _, _, _⟩, _, ⟨t1, t2, t3, t4, t5, t6⟩, _, _⟩ := id h
      have hle := cnt_le (tt := tt) (as := as) T
      have tP : ∀ i, i < cntN tt as T → tp i < P := fun i hi => (t6 i (by omega)).1
      have t10 : ∀ i, i < cntN tt as T → tp i < 10 := fun i hi => by have := tP i hi; omega
      have cA : ∀ w, f_X8_countOf 1023 w σ = some (nI (rbA tp tq ta n (kcF n t (σ.1 12)) 1023 w (cntN tt as T))) := fun w => c_countOf (a := 1023) t2 t1 t5.1 hle k3 k1 k10 (by omega)
      have cK : ∀ w, f_X8_countOf (nI k) w σ = some (nI (rbA tp tq ta n (kcF n t (σ.1 12)) k w (cntN tt as T))) := fun w => c_countOf t2 t1 t5.1 hle k3 k1 k10 (by omega)
      have m := m_gains b hR hM.1.2.1 hD.2.1 (by omega) tP (show k < 1024 by omega)
      have l0 := rbA_le (tp := tp) (tq := tq) (ta := ta) (n := n) (kc := kcF n t (σ.1 12)) 1023 0 (cntN tt as T)
      rw [e, Option.bind_some, if_pos rfl, if_pos rfl, cA 0, e1, Option.bind_some, Option.bind_some, m]
      by_cases c : 60 < rbA tp tq ta n (kcF n t (σ.1 12)) 1023 0 (cntN tt as T)
      · rw [if_pos (show (60 : Int32) < nI _ by rw [show (60 : Int32) = nI 60 from rfl, nI_ltI (by omega) (by omega)]; exact c), if_pos c]
        exact ⟨_, σ, τ1, rfl, rfl, rel_of h Fr_rf f1⟩
      · rw [if_neg (show ¬ (60 : Int32) < nI _ by rw [show (60 : Int32) = nI 60 from rfl, nI_ltI (by omega) (by omega)]; exact c), if_neg c]
        have v2 := rb_01 (tp := tp) (tq := tq) (ta := ta) (n := n) (kc := kcF n t (σ.1 12)) 1023 (cntN tt as T)
        have v3 := rb_sub (tq := tq) (ta := ta) (n := n) (kc := kcF n t (σ.1 12)) k 0 (cntN tt as T) t10
        have v5 := rb_01 (tp := tp) (tq := tq) (ta := ta) (n := n) (kc := kcF n t (σ.1 12)) k (cntN tt as T)
        have v6 := rb_sub (tq := tq) (ta := ta) (n := n) (kc := kcF n t (σ.1 12)) k 1 (cntN tt as T) t10
        rw [c_reckon (cA 0) (cA 1) (cK 0) (cK 1) (by omega) v2 v3 v5 v6]
        have hB : 0 < bnN (rbA tp tq ta n (kcF n t (σ.1 12)) 1023 0 (cntN tt as T)) (rbA tp tq ta n (kcF n t (σ.1 12)) k 0 (cntN tt as T)) := by
          unfold bnN; rw [if_pos v3]; exact (cN_ok _ (by omega) _ (by omega)).1
        have hB2 : bnN (rbA tp tq ta n (kcF n t (σ.1 12)) 1023 0 (cntN tt as T)) (rbA tp tq ta n (kcF n t (σ.1 12)) k 0 (cntN tt as T)) < 2 ^ 63 := Nat.lt_of_le_of_lt (bn_le (by omega)) (Nat.pow_lt_pow_right (by omega) (by omega))
        have hG : gaN (rbA tp tq ta n (kcF n t (σ.1 12)) 1023 0 (cntN tt as T)) (rbA tp tq ta n (kcF n t (σ.1 12)) 1023 1 (cntN tt as T)) (rbA tp tq ta n (kcF n t (σ.1 12)) k 0 (cntN tt as T)) (rbA tp tq ta n (kcF n t (σ.1 12)) k 1 (cntN tt as T)) < 2 ^ 63 := gs_lt (by omega)
        rw [c_frac (lN_abs hG) hG hB hB2 b (fun v s => some (v, s)), m_lowest (lN_abs hG) hG hB hB2 b, Option.bind_some]
        exact ⟨_, _, τ1, rfl, rfl, rel_of h (fun _ _ => rfl) f1⟩
