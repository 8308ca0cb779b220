/-! gains: drawing so many of so many -/
def cN (n : Nat) : Nat → Nat
  | 0 => 1
  | i + 1 => cN n i * (n - i) / (i + 1)
def dN (n m : Nat) : Nat → Nat
  | 0 => 1
  | r + 1 => dN n m r * (n - m + (r + 1)) / (r + 1)
def bnN (n k : Nat) : Nat := if k ≤ n then cN n k else 0
theorem cN_ok : ∀ n, n < 61 → ∀ i, i < n + 1 → 0 < cN n i ∧ cN n i * (n - i) < 2 ^ 63 ∧ cN n i ≤ 2 ^ n := by decide +kernel
theorem dN_ok : ∀ n, n < 61 → ∀ m, m < 31 → 2 * m ≤ n → (dN n m m = cN n m ∧ dN n m m = cN n (n - m)) ∧ ∀ r, r < m → dN n m r * (n - m + (r + 1)) < 2 ^ 63 := by decide +kernel
theorem cN_sm : ∀ n, n < 61 → sm (n + 1) (cN n) = 2 ^ n := by decide +kernel
theorem c_ways {n k : Nat} (hn : n ≤ 60) (hk : k ≤ 1000) (σ : St) : f_X8_waysToDraw (nI n) (nI k) σ = some (lN (bnN n k)) := by
  unfold f_X8_waysToDraw bnN
  rw [if_neg (show ¬ nI k < 0 by rw [show (0 : Int32) = nI 0 from rfl, nI_ltI (by omega) (by omega)]; omega)]
  simp (disch := omega) only [nI_ltI]
  by_cases h : n < k
  · rw [if_pos h, if_neg (by omega)]; rfl
  · rw [if_neg h, if_pos (by omega), pk_sub (by omega)]
    have hm : ∃ m, f_J9_min_7cf53 (nI k) (nI (n - k)) σ = some (nI m) ∧ 2 * m ≤ n ∧ (m = k ∨ k = n - m) := by
      unfold f_J9_min_7cf53
      simp (disch := omega) only [nI_ltI]
      by_cases c : n - k < k
      · exact ⟨n - k, by rw [if_pos c], by omega, by omega⟩
      · exact ⟨k, by rw [if_neg c], by omega, by omega⟩
    obtain ⟨m, e, hm1, hm2⟩ := hm
    rw [e, Option.bind_some]
    obtain ⟨⟨d1, d2⟩, d3⟩ := dN_ok n (by omega) m (by omega) hm1
    have hd : dN n m m = cN n k := by
      rcases hm2 with h2 | h2
      · rw [d1, h2]
      · rw [d2, h2]
    rw [← hd]
    refine lp_count (fun j => (nI (j + 1), lN (dN n m j))) m rfl (by omega) (fun j hj rec => ?_) (fun rec => ?_)
    · unfold L_X8_waysToDraw_24
      have hb := d3 j hj
      simp only
      rw [if_neg (by rw [nI_ltI (by omega) (by omega)]; omega), nI_toL (by omega), lN_bne (by omega) (by omega), gd_t, bl_e, pk_sub (by omega), nI_add, nI_toL (by omega), lN_mul, pk_lDiv hb (by omega) (by omega), nI_1]
      rfl
    · unfold L_X8_waysToDraw_24
      simp only
      rw [if_pos (by rw [nI_ltI (by omega) (by omega)]; omega)]
theorem m_choose {n k : Nat} (hn : n ≤ 60) (hk : k ≤ 1000) (σ : St) : f_X12_choose (nI n) (nI k) σ = some (lN (bnN n k)) := by
  unfold f_X12_choose bnN
  rw [m_in, Option.bind_some, jn_e]
  have hw : wiB (nI k) 0 (nI n) = decide (k ≤ n) := by
    unfold wiB
    rw [show (0 : Int32) = nI 0 from rfl]
    simp (disch := omega) only [nI_ltI]
    by_cases c : k ≤ n
    · simp [c]; try omega
    · simp [c]; try omega
  rw [hw]
  by_cases h : k ≤ n
  · rw [if_pos (by simp [h]), if_pos h]
    refine lp_count (fun j => (nI j, lN (cN n j))) k rfl (by omega) (fun j hj rec => ?_) (fun rec => ?_)
    · obtain ⟨b1, b2, b3⟩ := cN_ok n (by omega) j (by omega)
      have b4 : cN n j < 2 ^ 63 := Nat.lt_of_le_of_lt b3 (Nat.pow_lt_pow_right (by omega) (by omega))
      unfold L_X12_choose_18
      simp only
      rw [if_pos (by rw [nI_ltI (by omega) (by omega)]; omega), if_pos (by rw [lN_0, pk_lLT (by omega) b4]; exact b1), nI_toL (by omega), lN_1, lN_bne (by omega) (by omega), gd_t, bl_e, pk_sub (by omega), nI_toL (by omega), lN_mul, pk_lDiv b2 (by omega) (by omega), nI_1]
      rfl
    · unfold L_X12_choose_18
      simp only
      rw [if_neg (by rw [nI_ltI (by omega) (by omega)]; omega)]
  · rw [if_neg (by simp [h]), if_neg h]
    obtain ⟨N, e⟩ : ∃ N, NN = N + 1 := ⟨9999, NN_eq⟩
    rw [e]
    show L_X12_choose_18 (nI n) (nI k) _ (0, 0) = _
    unfold L_X12_choose_18
    simp only
    rw [if_pos (by rw [show (0 : Int32) = nI 0 from rfl, nI_ltI (by omega) (by omega)]; omega), if_neg (by decide)]
    rfl
def gsN (a b m v j : Nat) : Nat := sm j (fun t => bnN a (v + t) * bnN b (m - (v + t)))
theorem gs_s {a b m v j : Nat} : lN (gsN a b m v j) + lN (bnN a (v + j)) * lN (bnN b (m - (v + j))) = lN (gsN a b m v (j + 1)) := by
  rw [lN_mul, lN_add]; rfl
theorem bn_le {n k : Nat} (hn : n ≤ 60) : bnN n k ≤ 2 ^ n := by
  unfold bnN
  by_cases h : k ≤ n
  · rw [if_pos h]; exact (cN_ok n (by omega) k (by omega)).2.2
  · rw [if_neg h]; exact Nat.zero_le _
theorem sm_mono {m k : Nat} {f : Nat → Nat} (h : k ≤ m) : sm k f ≤ sm m f := by
  induction m with
  | zero => rw [show k = 0 by omega]; exact Nat.le_refl _
  | succ m ih =>
    by_cases e : k = m + 1
    · rw [e]; exact Nat.le_refl _
    · rw [sm_s]; have := ih (by omega); omega
theorem bn_sm {n : Nat} (hn : n ≤ 60) (m : Nat) : sm m (bnN n) ≤ 2 ^ n := by
  have e : sm (n + 1) (bnN n) = 2 ^ n := by
    rw [← cN_sm n (by omega)]
    exact sm_congr (fun k hk => if_pos (by omega))
  by_cases h : m ≤ n + 1
  · rw [← e]; exact sm_mono h
  · rw [show sm m (bnN n) = sm (n + 1) (bnN n) from sm_cut (by omega) (fun k h1 h2 => if_neg (by omega)), e]; exact Nat.le_refl _
theorem sm_sh {f : Nat → Nat} (v : Nat) : ∀ j, sm j (fun t => f (v + t)) ≤ sm (v + j) f
  | 0 => Nat.zero_le _
  | j + 1 => by
    rw [sm_s, ← Nat.add_assoc, sm_s]
    have := sm_sh (f := f) v j
    omega
theorem sm_mul {f g : Nat → Nat} {B : Nat} (h : ∀ t, g t ≤ B) : ∀ j, sm j (fun t => f t * g t) ≤ sm j f * B
  | 0 => Nat.zero_le _
  | j + 1 => by
    rw [sm_s, sm_s, Nat.add_mul]
    exact Nat.add_le_add (sm_mul h j) (Nat.mul_le_mul_left _ (h j))
theorem gs_lt {a b m v j : Nat} (h : a + b ≤ 60) : gsN a b m v j < 2 ^ 63 := by
  have h1 : gsN a b m v j ≤ sm j (fun t => bnN a (v + t)) * 2 ^ b := sm_mul (f := fun t => bnN a (v + t)) (g := fun t => bnN b (m - (v + t))) (fun t => bn_le (by omega)) j
  have h2 : sm j (fun t => bnN a (v + t)) ≤ 2 ^ a := Nat.le_trans (sm_sh v j) (bn_sm (by omega) _)
  have h3 : 2 ^ a * 2 ^ b ≤ 2 ^ 60 := by rw [← Nat.pow_add]; exact Nat.pow_le_pow_right (by omega) h
  have h4 := Nat.mul_le_mul_right (2 ^ b) h2
  exact Nat.lt_of_le_of_lt (Nat.le_trans h1 (Nat.le_trans h4 h3)) (by decide)
theorem gs_cut {a b m v j k : Nat} (hj : j ≤ k) (h : a < v + j) : gsN a b m v k = gsN a b m v j :=
  sm_cut hj (fun t h1 h2 => by rw [show bnN a (v + t) = 0 from if_neg (by omega), Nat.zero_mul])
def gaN (v1 v2 v3 v5 : Nat) : Nat := gsN v2 (v1 - v2) v3 v5 (v3 + 1 - v5)
theorem c_reckon {σ : St} {a v1 v2 v3 v5 : Nat} (h1 : f_X8_countOf 1023 0 σ = some (nI v1)) (h2 : f_X8_countOf 1023 1 σ = some (nI v2)) (h3 : f_X8_countOf (nI a) 0 σ = some (nI v3)) (h5 : f_X8_countOf (nI a) 1 σ = some (nI v5)) (l1 : v1 ≤ 60) (l2 : v2 ≤ v1) (l3 : v3 ≤ v1) (l5 : v5 ≤ v3) (l6 : v5 ≤ v2) : f_X8_reckonGains (nI a) σ = f_X1_become (lN (gaN v1 v2 v3 v5)) (lN (bnN v1 v3)) σ := by
  have hm : f_J9_min_7cf53 (nI v2) (nI v3) σ = some (nI (min v2 v3)) := by
    unfold f_J9_min_7cf53
    simp (disch := omega) only [nI_ltI]
    by_cases c : v3 < v2
    · rw [if_pos c, show min v2 v3 = v3 by omega]
    · rw [if_neg c, show min v2 v3 = v2 by omega]
  have hg : gaN v1 v2 v3 v5 = gsN v2 (v1 - v2) v3 v5 (min v2 v3 + 1 - v5) := by
    unfold gaN
    by_cases c : v3 ≤ v2
    · rw [show min v2 v3 = v3 by omega]
    · exact gs_cut (by omega) (by omega)
  unfold f_X8_reckonGains
  rw [h1, Option.bind_some, h2, Option.bind_some, h3, Option.bind_some, hm, Option.bind_some, h5, Option.bind_some, jn_e]
  rw [show f_X1_become (lN (gaN v1 v2 v3 v5)) (lN (bnN v1 v3)) σ = (f_X8_waysToDraw (nI v1) (nI v3) σ).bind (fun v8 => (f_X1_become (lN (gaN v1 v2 v3 v5)) v8 σ).bind (fun s9 => some s9)) by rw [c_ways l1 (by omega), Option.bind_some]; cases f_X1_become (lN (gaN v1 v2 v3 v5)) (lN (bnN v1 v3)) σ <;> rfl, hg]
  refine lp_count (fun j => (nI (v5 + j), lN (gsN v2 (v1 - v2) v3 v5 j))) (min v2 v3 + 1 - v5) rfl (by omega) (fun j hj rec => ?_) (fun rec => ?_)
  · unfold L_X8_reckonGains_47
    simp only
    rw [if_neg (by rw [nI_ltI (by omega) (by omega)]; omega), c_ways (by omega) (by omega), Option.bind_some, pk_sub (by omega), pk_sub (by omega), c_ways (by omega) (by omega), Option.bind_some, bl_e, gs_s, nI_1]
    rfl
  · unfold L_X8_reckonGains_47
    simp only
    rw [if_pos (by rw [nI_ltI (by omega) (by omega)]; omega)]
theorem m_gainsT {σ : St} {v1 v2 v3 v5 : Nat} (what : Int32) (l1 : v1 ≤ 150) (l2 : v2 ≤ v1) (l3 : v3 ≤ v1) (l5 : v5 ≤ v3) (l6 : v5 ≤ v2) : (if (60 : Int32) < nI v1 then (f_X12_no (-4) σ).bind (fun v12 => some v12) else jn (fun (y4 : Int64) => (f_X12_choose (nI v1) (nI v3) σ).bind (fun v5 => (f_X12_lowest y4 v5 what σ).bind (fun v6 => some v6))) (fun K3 => lp (L_X12_gainsNow_120 σ (nI v5, nI v3, nI v2, nI v1) K3) NN (nI v5, 0))) = if 60 < v1 then some (noL (-4)) else f_X12_lowest (lN (gaN v1 v2 v3 v5)) (lN (bnN v1 v3)) what σ := by
  rw [show (60 : Int32) = nI 60 from rfl]
  simp (disch := omega) only [nI_ltI]
  by_cases h : 60 < v1
  · rw [if_pos h, if_pos h]; rfl
  · rw [if_neg h, if_neg h, jn_e]
    rw [show f_X12_lowest (lN (gaN v1 v2 v3 v5)) (lN (bnN v1 v3)) what σ = (f_X12_choose (nI v1) (nI v3) σ).bind (fun v8 => (f_X12_lowest (lN (gaN v1 v2 v3 v5)) v8 what σ).bind (fun s9 => some s9)) by rw [m_choose (by omega) (by omega), Option.bind_some]; cases f_X12_lowest (lN (gaN v1 v2 v3 v5)) (lN (bnN v1 v3)) what σ <;> rfl]
    unfold gaN
    refine lp_count (fun j => (nI (v5 + j), lN (gsN v2 (v1 - v2) v3 v5 j))) (v3 + 1 - v5) rfl (by omega) (fun j hj rec => ?_) (fun rec => ?_)
    · unfold L_X12_gainsNow_120
      simp only
      rw [if_neg (by rw [nI_ltI (by omega) (by omega)]; omega), m_choose (by omega) (by omega), Option.bind_some, pk_sub (by omega), pk_sub (by omega), m_choose (by omega) (by omega), Option.bind_some, bl_e, gs_s, nI_1]
      rfl
    · unfold L_X12_gainsNow_120
      simp only
      rw [if_pos (by rw [nI_ltI (by omega) (by omega)]; omega)]
theorem sm_pick {t : Nat} {b : Nat → Bool} {x : Bool} : ∀ P, sm P (fun p => (b p && (decide (t = p) && x)).toNat) = (decide (t < P) && (b t && x)).toNat
  | 0 => by simp [sm]
  | P + 1 => by
    rw [sm_s, sm_pick P]
    by_cases e : t = P
    · subst e; cases b t <;> cases x <;> simp
    · by_cases h : t < P
      · simp [e, h, show t < P + 1 by omega]
      · simp [e, h, show ¬ t < P + 1 by omega]
theorem sm_add2 {f g : Nat → Nat} : ∀ n, sm n (fun k => f k + g k) = sm n f + sm n g
  | 0 => rfl
  | n + 1 => by rw [sm_s, sm_s, sm_s, sm_add2 n]; omega
section M14
variable {tp tq : Nat → Nat} {ta : Nat → Int32} {n P : Nat} {kc : Nat → Int32}
theorem rb_sum (a : Nat) (w : Int32) : ∀ c, (∀ i, i < c → tp i < P) → sm P (fun p => if bitN a p then rbP tp tq ta n kc p w c else 0) = rbA tp tq ta n kc a w c
  | 0, _ => by
    rw [show rbA tp tq ta n kc a w 0 = 0 from rfl]
    have : ∀ m, sm m (fun p => if bitN a p then rbP tp tq ta n kc p w 0 else 0) = 0 := fun m => by
      induction m with
      | zero => rfl
      | succ m ih => rw [sm_s, ih, rbP_0]; simp
    exact this P
  | c + 1, h => by
    rw [show rbA tp tq ta n kc a w (c + 1) = rbA tp tq ta n kc a w c + (bitN a (tp c) && rkB tp tq ta n kc w c).toNat from rfl, ← rb_sum a w c (fun i hi => h i (by omega))]
    have e := sm_pick (t := tp c) (b := bitN a) (x := rkB tp tq ta n kc w c) P
    rw [decide_eq_true (h c (by omega)), Bool.true_and] at e
    rw [← e, ← sm_add2]
    refine sm_congr (fun k hk => ?_)
    rw [rbP_s]
    cases bitN a k <;> simp
theorem bit_all : ∀ p, p < 10 → bitN 1023 p = true := by decide +kernel
theorem rb_all (w : Int32) {c : Nat} (hP : P ≤ 10) (h : ∀ i, i < c → tp i < P) : sm P (fun p => rbP tp tq ta n kc p w c) = rbA tp tq ta n kc 1023 w c := by
  rw [← rb_sum 1023 w c h]
  exact sm_congr (fun k hk => by rw [bit_all k (by omega)]; rfl)
theorem rb_01 (a c : Nat) : rbA tp tq ta n kc a 1 c ≤ rbA tp tq ta n kc a 0 c := by
  unfold rbA
  induction c with
  | zero => exact Nat.le_refl _
  | succ c ih =>
    rw [sm_s, sm_s]
    have : (bitN a (tp c) && rkB tp tq ta n kc 1 c).toNat ≤ (bitN a (tp c) && rkB tp tq ta n kc 0 c).toNat := by
      unfold rkB
      rw [show kdB tp tq ta kc 0 c = true from if_pos rfl]
      cases bitN a (tp c) <;> cases rubB tp tq ta n c <;> cases kdB tp tq ta kc 1 c <;> decide
    omega
theorem rb_sub (a : Nat) (w : Int32) (c : Nat) (h : ∀ i, i < c → tp i < 10) : rbA tp tq ta n kc a w c ≤ rbA tp tq ta n kc 1023 w c := by
  unfold rbA
  induction c with
  | zero => exact Nat.le_refl _
  | succ c ih =>
    rw [sm_s, sm_s]
    have := ih (fun i hi => h i (by omega))
    have : (bitN a (tp c) && rkB tp tq ta n kc w c).toNat ≤ (bitN 1023 (tp c) && rkB tp tq ta n kc w c).toNat := by
      rw [bit_all _ (h c (by omega))]
      cases bitN a (tp c) <;> cases rkB tp tq ta n kc w c <;> decide
    omega
theorem m_gains {τ : St} {c a : Nat} (what : Int32) (h : RbM τ tp tq ta n kc c) (hP : τ.1 0 5 = nI P) (hP2 : P ≤ 10) (hc : c ≤ 150) (ht : ∀ i, i < c → tp i < P) (ha : a < 1024) : f_X12_gainsNow (nI a) what τ = if 60 < rbA tp tq ta n kc 1023 0 c then some (noL (-4)) else f_X12_lowest (lN (gaN (rbA tp tq ta n kc 1023 0 c) (rbA tp tq ta n kc 1023 1 c) (rbA tp tq ta n kc a 0 c) (rbA tp tq ta n kc a 1 c))) (lN (bnN (rbA tp tq ta n kc 1023 0 c) (rbA tp tq ta n kc a 0 c))) what τ := by
  rw [← m_gainsT what (Nat.le_trans (rbA_le 1023 0 c) hc) (rb_01 1023 c) (rb_sub a 0 c (fun i hi => Nat.lt_of_lt_of_le (ht i hi) hP2)) (rb_01 a c) (rb_sub a 1 c (fun i hi => Nat.lt_of_lt_of_le (ht i hi) hP2))]
  unfold f_X12_gainsNow
  rw [jn_e]
  have key : ∀ K : (Int32 × Int32 × Int32 × Int32) → Option Int64, lp (L_X12_gainsNow_14 (nI a) τ K) NN (0, 0, 0, 0, 0) = K (nI (rbA tp tq ta n kc a 1 c), nI (rbA tp tq ta n kc a 0 c), nI (rbA tp tq ta n kc 1023 1 c), nI (rbA tp tq ta n kc 1023 0 c)) := by
    intro K
    rw [← rb_all (P := P) 0 hP2 ht, ← rb_all (P := P) 1 hP2 ht, ← rb_sum a 0 c ht, ← rb_sum a 1 c ht]
    refine lp_count (fun k => (nI k, nI (sm k (fun p => if bitN a p then rbP tp tq ta n kc p 1 c else 0)), nI (sm k (fun p => if bitN a p then rbP tp tq ta n kc p 0 c else 0)), nI (sm k (fun p => rbP tp tq ta n kc p 1 c)), nI (sm k (fun p => rbP tp tq ta n kc p 0 c)))) P rfl (by omega) (fun k hk rec => ?_) (fun rec => ?_)
    · obtain ⟨r0, r1, r2⟩ := h k (by omega)
      unfold L_X12_gainsNow_14
      have i1 : inb (nI k) 10 = true := inb_t (by omega) (by omega)
      have j1 : (nI k).toNatClampNeg = k := nI_clamp (by omega)
      have lt : nI k < nI P := by rw [nI_ltI (by omega) (by omega)]; exact hk
      simp only [hP, lt, if_true, i1, gd_q, j1, r0, r1, bv_q, m_isIn (σ := τ) (show a < 2 ^ 31 by omega) (show k < 32 by omega), Option.bind_some, jn_e, sm_s]
      cases z : bitN a k
      · simp only [Bool.false_eq_true, if_false, nI_add, nI_1, Nat.add_zero]
        simp [show (0 : Int32) = nI 0 from rfl, nI_add]
      · simp only [if_true, nI_add, nI_1]
    · unfold L_X12_gainsNow_14
      have lt : ¬ nI P < nI P := by rw [nI_ltI (by omega) (by omega)]; omega
      simp only [hP, lt, if_false]
  rw [key]
end M14
