/-! get -/
theorem row_id {k : Nat} (h : k < 4) : WC.2.2 (34 + k) 3 = 38 + k := by
  rcases (show k = 0 ∨ k = 1 ∨ k = 2 ∨ k = 3 by omega) with g | g | g | g <;> subst g <;> rfl
theorem sh_lacks {σ τ : St} (h : RSh σ τ) {k : Nat} (hk : k < 4) (b c : Int32) : ∃ v, f_X9_findingAt (34 + k) b c σ = some v ∧ f_X12_lacks (nI k) b c τ = some v ∧ ((v = 0 ∧ ∃ i, i < 48 ∧ c = nI i ∧ τ.1 22 (48 * k + i) = σ.1 (38 + k) i ∧ σ.1 (34 + k) 1 = b) ∨ (¬ v = 0 ∧ 0 < v)) := by
  have i1 : inb (nI k) 4 = true := inb_t (by omega) (by omega)
  have j1 : (nI k).toNatClampNeg = k := nI_clamp (by omega)
  obtain ⟨⟨y, y1, y2, y3, y4⟩, x2, x3, x4⟩ := h k hk
  unfold f_X9_findingAt f_X12_lacks
  simp only [i1, gd_q, j1, c_within, m_in, Option.bind_some, x2, y2, y3]
  rcases x4 with ⟨a1, a2⟩ | ⟨a1, a2⟩
  · have n19 : ¬ τ.1 19 k = 0 := by rw [a2]; decide
    rw [if_pos a1, if_neg n19]
    by_cases e : σ.1 (34 + k) 1 = b
    · rw [if_pos e]
      cases z : wiB c 0 (nI y - 1)
      · exact ⟨2, rfl, rfl, Or.inr ⟨by decide, by decide⟩⟩
      · obtain ⟨i, hi, ei⟩ := wi_of1 (by omega) z
        exact ⟨0, rfl, rfl, Or.inl ⟨rfl, i, by omega, ei, y4 i hi, e⟩⟩
    · rw [if_neg e]
      exact ⟨3, rfl, rfl, Or.inr ⟨by decide, by decide⟩⟩
  · have n0 : ¬ σ.1 (34 + k) 0 = 0 := by rw [a1]; decide
    rw [if_neg n0, if_pos a2]
    exact ⟨1, rfl, rfl, Or.inr ⟨by decide, by decide⟩⟩
theorem ix48 {a b : Nat} : (48 : Int32) * nI a + nI b = nI (48 * a + b) := by
  rw [show (48 : Int32) = nI 48 from rfl, pk_mul, nI_add]
theorem o_get (a b c : Int32) : Op (f_X11_get a b c) (f_X12_get a b c) := by
  intro σ τ h
  unfold f_X11_get f_X12_get f_X11_isSheet f_X12_isSheet
  simp only [c_within, m_in, Option.bind_some]
  cases z : wiB a 0 3
  · exact ⟨_, σ, τ, rfl, rfl, h⟩
  · cases z2 : wiB b 0 2
    · exact ⟨_, σ, τ, rfl, rfl, h⟩
    · obtain ⟨k, hk, ea⟩ := wi_of (m := 3) (by omega) z
      subst ea
      have i1 : inb (nI k) 4 = true := inb_t (by omega) (by omega)
      have j1 : (nI k).toNatClampNeg = k := nI_clamp (by omega)
      obtain ⟨v, e1, e2, hv⟩ := sh_lacks (rel_RSh h) (show k < 4 by omega) b c
      simp only [if_true, i1, gd_q, j1, she_id (show k < 4 by omega), e1, e2, Option.bind_some, bd_e]
      rcases hv with ⟨g, i, hi, ei, eq, _⟩ | ⟨g, g'⟩
      · subst g; subst ei
        have i2 : inb (nI i) 48 = true := inb_t (by omega) (by omega)
        have i3 : inb (nI (48 * k + i)) 192 = true := inb_t (by omega) (by omega)
        have j2 : (nI i).toNatClampNeg = i := nI_clamp (by omega)
        have j3 : (nI (48 * k + i)).toNatClampNeg = 48 * k + i := nI_clamp (by omega)
        rw [if_pos rfl, if_neg (by decide), i2, gd_t, ix48, i3, gd_t, j2, j3, row_id (by omega), eq]
        exact ⟨_, σ, τ, rfl, rfl, h⟩
      · rw [if_neg g, if_pos g']
        exact ⟨_, _, _, rfl, rfl, rel_find v h⟩
