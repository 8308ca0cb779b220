/-! FRACTIONS: Euclid's steps, both ways -/
def fbn : Nat → Nat
  | 0 => 0
  | 1 => 1
  | k + 2 => fbn k + fbn (k + 1)
def fb2 : Nat → Nat × Nat
  | 0 => (0, 1)
  | k + 1 => ((fb2 k).2, (fb2 k).1 + (fb2 k).2)
theorem fb2_eq : ∀ k, fb2 k = (fbn k, fbn (k + 1))
  | 0 => rfl
  | k + 1 => by rw [show fb2 (k + 1) = ((fb2 k).2, (fb2 k).1 + (fb2 k).2) from rfl, fb2_eq k]; rfl
theorem fbn_93 : 2 ^ 63 < fbn 93 := by
  have h : fb2 92 = (fbn 92, fbn 93) := fb2_eq 92
  have h2 : (fb2 92).2 = 12200160415121876738 := by decide +kernel
  rw [h] at h2
  have h3 : fbn 93 = 12200160415121876738 := h2
  rw [h3]
  decide
theorem fbn_pos : ∀ k, 0 < fbn (k + 1)
  | 0 => by decide
  | k + 1 => by
    have := fbn_pos k
    show 0 < fbn k + fbn (k + 1)
    omega
/-- Euclid's steps from (x, y) come to 0 within k -/
def tE : Nat → Nat → Nat → Prop
  | 0, _, y => y = 0
  | k + 1, x, y => y = 0 ∨ tE k y (x % y)
theorem tE_fb : ∀ k, (∀ x y, y < fbn (k + 1) → tE k x y) ∧ (∀ x y, y < fbn (k + 2) → tE (k + 1) x y) := by
  intro k
  induction k with
  | zero =>
    refine ⟨fun x y h => ?_, fun x y h => ?_⟩
    · have : fbn (0 + 1) = 1 := rfl
      show y = 0
      omega
    · have : fbn (0 + 2) = 1 := rfl
      exact Or.inl (by omega)
  | succ k ih =>
    refine ⟨ih.2, fun x y h => ?_⟩
    by_cases h0 : y = 0
    · exact Or.inl h0
    · refine Or.inr ?_
      have hr : x % y < y := Nat.mod_lt _ (by omega)
      by_cases h1 : x % y < fbn (k + 2)
      · exact ih.2 y (x % y) h1
      · have hp := fbn_pos (k + 1)
        refine Or.inr (ih.1 _ _ ?_)
        have hf : fbn (k + 1 + 2) = fbn (k + 1) + fbn (k + 2) := rfl
        have h2 : y % (x % y) ≤ y - x % y := by
          rw [Nat.mod_eq_sub_mod (by omega)]
          exact Nat.mod_le _ _
        omega
theorem tE_63 {x y : Nat} (h : y < 2 ^ 63) : tE 92 x y := (tE_fb 92).1 x y (Nat.lt_trans h fbn_93)
theorem lN_0 : (0 : Int64) = lN 0 := rfl
theorem lN_ne {a : Nat} (h0 : 0 < a) (h : a < 2 ^ 63) : ¬ lN a = 0 := by
  rw [lN_0, pk_lEQ h (by omega)]
  omega
theorem lN_bne {a : Nat} (h0 : 0 < a) (h : a < 2 ^ 63) : (lN a != (0 : Int64)) = true := by
  simpa using lN_ne h0 h
theorem gcd_step {x y : Nat} : Nat.gcd x y = Nat.gcd y (x % y) := by rw [Nat.gcd_comm x y, Nat.gcd_rec, Nat.gcd_comm]
theorem c_gcd_lp : ∀ (k x y i N : Nat), tE k x y → x < 2 ^ 63 → y < 2 ^ 63 → i + k < 100 → k < N → lp L_X1_commonDivisor_9 N (nI i, lN y, lN x) = some (lN (Nat.gcd x y)) := by
  intro k
  induction k with
  | zero =>
    intro x y i N ht hx hy hi hN
    obtain ⟨N, rfl⟩ : ∃ z, N = z + 1 := ⟨N - 1, by omega⟩
    have : y = 0 := ht
    subst this
    show L_X1_commonDivisor_9 _ _ = _
    unfold L_X1_commonDivisor_9
    rw [Nat.gcd_zero_right]
    simp [← lN_0]
  | succ k ih =>
    intro x y i N ht hx hy hi hN
    obtain ⟨N, rfl⟩ : ∃ z, N = z + 1 := ⟨N - 1, by omega⟩
    show L_X1_commonDivisor_9 _ _ = _
    unfold L_X1_commonDivisor_9
    by_cases h0 : y = 0
    · subst h0
      rw [Nat.gcd_zero_right]
      simp [← lN_0]
    · have hp : 0 < y := by omega
      have ht2 : tE k y (x % y) := ht.resolve_left h0
      have hm : x % y < y := Nat.mod_lt _ hp
      simp (disch := omega) only [show (100 : Int32) = nI 100 from rfl, nI_ltI, show i < 100 by omega, if_true, lN_ne, if_false, lN_bne, gd_t, pk_lRem, bl_e, nI_1]
      rw [gcd_step]
      exact ih y (x % y) (i + 1) N ht2 hy (by omega) (by omega) (by omega)
theorem m_gcd_lp (K : Int64 → Option Int64) : ∀ (k x y N : Nat), tE k x y → x < 2 ^ 63 → y < 2 ^ 63 → k < N → lp (L_X12_lowest_17 K) N (lN y, lN x) = K (lN (Nat.gcd x y)) := by
  intro k
  induction k with
  | zero =>
    intro x y N ht hx hy hN
    obtain ⟨N, rfl⟩ : ∃ z, N = z + 1 := ⟨N - 1, by omega⟩
    have : y = 0 := ht
    subst this
    show L_X12_lowest_17 _ _ _ = _
    unfold L_X12_lowest_17
    rw [Nat.gcd_zero_right]
    simp [← lN_0]
  | succ k ih =>
    intro x y N ht hx hy hN
    obtain ⟨N, rfl⟩ : ∃ z, N = z + 1 := ⟨N - 1, by omega⟩
    show L_X12_lowest_17 _ _ _ = _
    unfold L_X12_lowest_17
    by_cases h0 : y = 0
    · subst h0
      rw [Nat.gcd_zero_right]
      simp [← lN_0]
    · have hp : 0 < y := by omega
      have ht2 : tE k y (x % y) := ht.resolve_left h0
      have hm : x % y < y := Nat.mod_lt _ hp
      simp (disch := omega) only [lN_ne, if_false, lN_bne, gd_t, pk_lRem, bl_e]
      rw [gcd_step]
      exact ih y (x % y) N ht2 hy (by omega) (by omega)
theorem c_gcd {x y : Nat} {σ : St} (hx : x < 2 ^ 63) (hy : y < 2 ^ 63) : f_X1_commonDivisor (lN x) (lN y) σ = some (lN (Nat.gcd x y)) := c_gcd_lp 92 x y 0 NN (tE_63 hy) hx hy (by omega) (by rw [NN_eq]; decide)
/-- the fraction of a (its amount A) by B: above (what 0), below -/
def frV (a : Int64) (A B : Nat) (what : Int32) : Int64 := if what = 0 then a / lN (Nat.gcd A B) else lN B / lN (Nat.gcd A B)
theorem gcd_b {A B : Nat} (hB : 0 < B) (hB2 : B < 2 ^ 63) : 0 < Nat.gcd A B ∧ Nat.gcd A B < 2 ^ 63 := ⟨Nat.gcd_pos_of_pos_right A hB, Nat.lt_of_le_of_lt (Nat.gcd_le_right A hB) hB2⟩
theorem c_become {a : Int64} {A B : Nat} {σ : St} (hA : (if a < 0 then 0 - a else a) = lN A) (hA2 : A < 2 ^ 63) (hB : 0 < B) (hB2 : B < 2 ^ 63) : f_X1_become a (lN B) σ = some (wL (wL σ 10 0 (a / lN (Nat.gcd A B))) 10 1 (lN B / lN (Nat.gcd A B))) := by
  have hg := gcd_b (A := A) hB hB2
  have h1 : f_J9_abs_067f4 a σ = some (lN A) := by
    unfold f_J9_abs_067f4
    rw [← hA]
    by_cases h : a < 0 <;> simp [h]
  unfold f_X1_become
  simp (disch := omega) only [h1, Option.bind_some, c_gcd hA2 hB2, jn_e, bd_e, lN_ne hg.1 hg.2, if_false, lN_bne hg.1 hg.2, gd_t]
theorem m_lowest {a : Int64} {A B : Nat} {σ : St} (hA : (if a < 0 then 0 - a else a) = lN A) (hA2 : A < 2 ^ 63) (hB : 0 < B) (hB2 : B < 2 ^ 63) (what : Int32) : f_X12_lowest a (lN B) what σ = some (frV a A B what) := by
  have hg := gcd_b (A := A) hB hB2
  unfold f_X12_lowest frV
  simp only [jn_e]
  have h1 : ∀ F : Int64 → Option Int64, (if a < 0 then F (0 - a) else F a) = F (lN A) := by
    intro K
    rw [← hA]
    by_cases h : a < 0 <;> simp [h]
  have h2 := h1 (fun z => lp (L_X12_lowest_17 fun y4 => if what = 0 then gd (y4 != 0) (some (a / y4)) else gd (y4 != 0) (some (lN B / y4))) NN (lN B, z))
  refine h2.trans ?_
  show lp _ NN (lN B, lN A) = _
  rw [m_gcd_lp _ 92 A B NN (tE_63 hB2) hA2 hB2 (by rw [NN_eq]; decide)]
  simp only [lN_bne hg.1 hg.2, gd_t]
  by_cases h : what = 0 <;> simp [h]
theorem c_part {σ : St} {x y : Int64} (what : Int32) : f_X1_part what (wL (wL σ 10 0 x) 10 1 y) = some (if what = 0 then x else y) := by
  unfold f_X1_part
  by_cases h : what = 0
  · simp [h, wL, wB, vp_updL]
  · simp [h, wL, wB, vp_updL]
theorem c_frac {a : Int64} {A B : Nat} {σ : St} (hA : (if a < 0 then 0 - a else a) = lN A) (hA2 : A < 2 ^ 63) (hB : 0 < B) (hB2 : B < 2 ^ 63) (what : Int32) {R : Type} (k : Int64 → St → Option R) : (f_X1_become a (lN B) σ).bind (fun s => (f_X1_part what s).bind (fun v => k v s)) = k (frV a A B what) (wL (wL σ 10 0 (a / lN (Nat.gcd A B))) 10 1 (lN B / lN (Nat.gcd A B))) := by
  rw [c_become hA hA2 hB hB2, Option.bind_some, c_part, Option.bind_some]
  rfl
theorem Fr_wLL {σ : St} {x y : Int64} : Fr σ (wL (wL σ 10 0 x) 10 1 y) := fun _ _ => rfl
theorem lN_abs {A : Nat} (h : A < 2 ^ 63) : (if lN A < 0 then 0 - lN A else lN A) = lN A := by
  rw [if_neg]
  rw [lN_0, pk_lLT h (by omega)]
  omega
/-- the amount of an int, as a long -/
theorem abs32 (x : Int32) : ∃ A, A ≤ 2 ^ 31 ∧ (if x.toInt64 < 0 then 0 - x.toInt64 else x.toInt64) = lN A := by
  have h1 := Int32.toInt_lt x
  have h2 := Int32.le_toInt x
  have e : x.toInt64.toInt = x.toInt := Int32.toInt_toInt64 x
  refine ⟨x.toInt.natAbs, by omega, ?_⟩
  apply Int64.toInt_inj.mp
  rw [pk_lT (by omega)]
  by_cases h : x.toInt64 < 0
  · rw [if_pos h]
    rw [Int64.lt_iff_toInt_lt, e] at h
    have h0 : (0 : Int64).toInt = 0 := by decide
    rw [h0] at h
    rw [Int64.toInt_sub, e, h0]
    have e0 : ((2 ^ 64 : Nat) : Int) = 18446744073709551616 := by decide
    have e1 : ((0 : Int) - x.toInt) % ((2 ^ 64 : Nat) : Int) = 0 - x.toInt := Int.emod_eq_of_lt (by omega) (by rw [e0]; omega)
    have e2 : Int.bmod ((0 : Int) - x.toInt) (2 ^ 64) = 0 - x.toInt := by
      show (if ((0 : Int) - x.toInt) % ((2 ^ 64 : Nat) : Int) < (((2 ^ 64 : Nat) : Int) + 1) / 2 then ((0 : Int) - x.toInt) % ((2 ^ 64 : Nat) : Int) else ((0 : Int) - x.toInt) % ((2 ^ 64 : Nat) : Int) - ((2 ^ 64 : Nat) : Int)) = _
      rw [e1, if_pos]
      have : (((2 ^ 64 : Nat) : Int) + 1) / 2 = 9223372036854775808 := by decide
      omega
    rw [e2]
    omega
  · rw [if_neg h]
    rw [Int64.lt_iff_toInt_lt, e] at h
    have h0 : (0 : Int64).toInt = 0 := by decide
    rw [h0] at h
    rw [e]
    omega
theorem nI_toL {n : Nat} (h : n < 2 ^ 31) : (nI n).toInt64 = lN n := nI_l h
