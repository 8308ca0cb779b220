/-! gains: drawing so many of so many -/
def cN (n : Nat) : Nat → Nat
  | 0 => 1
  | i + 1 => cN n i * (n - i) / (i + 1)
def dN (n m : Nat) : Nat → Nat
  | 0 => 1
  | r + 1 => dN n m r * (n - m + (r + 1)) / (r + 1)
def bnN (n k : Nat) : Nat := if k ≤ n then cN n k else 0
theorem cN_ok : ∀ n, n < 61 → ∀ i, i < n + 1 → 0 < cN n i ∧ cN n i * (n - i) < 2 ^ 63 ∧ cN n i ≤ 2 ^ n := by decide +kernel
theorem dN_ok : ∀ n, n < 61 → ∀ m, m < 31 → 2 * m ≤ n → (dN n m m = cN n m ∧ dN n m m = cN n (n - m)) ∧ ∀ r, r < m → dN n m r * (n - m + (r + 1)) < 2 ^ 63 := by decide +kernel
theorem cN_sm : ∀ n, n < 61 → sm (n + 1) (cN n) = 2 ^ n := by decide +kernel
theorem c_ways {n k : Nat} (hn : n ≤ 60) (hk : k ≤ 1000) (σ : St) : f_X8_waysToDraw (nI n) (nI k) σ = some (lN (bnN n k)) := by
  unfold f_X8_waysToDraw bnN
  rw [if_neg (show ¬ nI k < 0 by rw [show (0 : Int32) = nI 0 from rfl, nI_ltI (by omega) (by omega)]; omega)]
  simp (disch := omega) only [nI_ltI]
  by_cases h : n < k
  · rw [if_pos h, if_neg (by omega)]; rfl
  · rw [if_neg h, if_pos (by omega), pk_sub (by omega)]
    have hm : ∃ m, f_J9_min_7cf53 (nI k) (nI (n - k)) σ = some (nI m) ∧ 2 * m ≤ n ∧ (m = k ∨ k = n - m) := by
      unfold f_J9_min_7cf53
      simp (disch := omega) only [nI_ltI]
      by_cases c : n - k < k
      · exact ⟨n - k, by rw [if_pos c], by omega, by omega⟩
      · exact ⟨k, by rw [if_neg c], by omega, by omega⟩
    obtain ⟨m, e, hm1, hm2⟩ := hm
    rw [e, Option.bind_some]
    obtain ⟨⟨d1, d2⟩, d3⟩ := dN_ok n (by omega) m (by omega) hm1
    have hd : dN n m m = cN n k := by
      rcases hm2 with h2 | h2
      · rw [d1, h2]
      · rw [d2, h2]
    rw [← hd]
    refine lp_count (fun j => (nI (j + 1), lN (dN n m j))) m rfl (by omega) (fun j hj rec => ?_) (fun rec => ?_)
    · unfold L_X8_waysToDraw_24
      have hb := d3 j hj
      simp only
      rw [if_neg (by rw [nI_ltI (by omega) (by omega)]; omega), nI_toL (by omega), lN_bne (by omega) (by omega), gd_t, bl_e, pk_sub (by omega), nI_add, nI_toL (by omega), lN_mul, pk_lDiv hb (by omega) (by omega), nI_1]
      rfl
    · unfold L_X8_waysToDraw_24
      simp only
      rw [if_pos (by rw [nI_ltI (by omega) (by omega)]; omega)]
theorem m_choose {n k : Nat} (hn : n ≤ 60) (hk : k ≤ 1000) (σ : St) : f_X12_choose (nI n) (nI k) σ = some (lN (bnN n k)) := by
  unfold f_X12_choose bnN
  rw [m_in, Option.bind_some, jn_e]
  have hw : wiB (nI k) 0 (nI n) = decide (k ≤ n) := by
    unfold wiB
    rw [show (0 : Int32) = nI 0 from rfl]
    simp (disch := omega) only [nI_ltI]
    by_cases c : k ≤ n
    · simp [c]; try omega
    · simp [c]; try omega
  rw [hw]
  by_cases h : k ≤ n
  · rw [if_pos (by simp [h]), if_pos h]
    refine lp_count (fun j => (nI j, lN (cN n j))) k rfl (by omega) (fun j hj rec => ?_) (fun rec => ?_)
    · obtain ⟨b1, b2, b3⟩ := cN_ok n (by omega) j (by omega)
      have b4 : cN n j < 2 ^ 63 := Nat.lt_of_le_of_lt b3 (Nat.pow_lt_pow_right (by omega) (by omega))
      unfold L_X12_choose_18
      simp only
      rw [if_pos (by rw [nI_ltI (by omega) (by omega)]; omega), if_pos (by rw [lN_0, pk_lLT (by omega) b4]; exact b1), nI_toL (by omega), lN_1, lN_bne (by omega) (by omega), gd_t, bl_e, pk_sub (by omega), nI_toL (by omega), lN_mul, pk_lDiv b2 (by omega) (by omega), nI_1]
      rfl
    · unfold L_X12_choose_18
      simp only
      rw [if_neg (by rw [nI_ltI (by omega) (by omega)]; omega)]
  · rw [if_neg (by simp [h]), if_neg h]
    obtain ⟨N, e⟩ : ∃ N, NN = N + 1 := ⟨9999, NN_eq⟩
    rw [e]
    show L_X12_choose_18 (nI n) (nI k) _ (0, 0) = _
    unfold L_X12_choose_18
    simp only
    rw [if_pos (by rw [show (0 : Int32) = nI 0 from rfl, nI_ltI (by omega) (by omega)]; omega), if_neg (by decide)]
    rfl
