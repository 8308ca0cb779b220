/-! WHO IS ODD, who sits beside -/
theorem ocN_comm (sy : Nat → Nat → Int32) (a b q k c : Nat) : ocN sy a b q k c = ocN sy b a q k c := by
  unfold ocN
  exact sm_congr (fun p _ => by rw [Bool.and_comm (!(decide (p = a)))])
section M8
variable {n P : Nat} {kc : Nat → Int32} {sy : Nat → Nat → Int32}
theorem paN_comm (a b q m : Nat) : paN P kc sy a b q m = paN P kc sy b a q m := by
  unfold paN
  exact sm_congr (fun c _ => by rw [ocN_comm])
theorem sqN_comm (a b q m : Nat) : sqN P kc sy a b q m = sqN P kc sy b a q m := by
  unfold sqN
  exact sm_congr (fun c _ => by rw [ocN_comm])
theorem bth_comm (a b q : Nat) : bth kc sy a b q = bth kc sy b a q := by unfold bth; rw [Bool.and_comm]
theorem wN_comm (a b : Nat) : ∀ k, wN P kc sy a b k = wN P kc sy b a k
  | 0 => rfl
  | k + 1 => by rw [wN, wN, bth_comm, wN_comm a b k, sqN_comm, show aaN P kc sy a b k = aaN P kc sy b a k from by unfold aaN; rw [paN_comm]]
theorem bN_comm (a b : Nat) : ∀ k, bN P kc sy a b k = bN P kc sy b a k
  | 0 => rfl
  | k + 1 => by rw [bN, bN, bth_comm, bN_comm a b k, show aaN P kc sy a b k = aaN P kc sy b a k from by unfold aaN; rw [paN_comm]]
theorem shN_comm (a b : Nat) : shN n kc sy a b = shN n kc sy b a := by
  unfold shN
  refine sm_congr (fun q _ => ?_)
  by_cases e : sy a q = sy b q
  · have : isW kc sy b q = isW kc sy a q := by unfold isW; rw [e]
    rw [this]
    simp [e]
  · have e2 : ¬ sy b q = sy a q := fun z => e z.symm
    simp [e, e2]
theorem boN_comm (a b : Nat) : boN n kc sy a b = boN n kc sy b a := by
  unfold boN
  exact sm_congr (fun q _ => by rw [Bool.and_comm])
theorem tpV_comm (a b : Nat) : tpV n P kc sy a b = tpV n P kc sy b a := by unfold tpV; rw [wN_comm, shN_comm]
/-- whether two are odd -/
def odB (n P : Nat) (kc : Nat → Int32) (sy : Nat → Nat → Int32) (lim a b : Nat) : Bool := decide (0 < shN n kc sy a b) && (!(decide (7 < boN n kc sy a b)) && !(decide (lim * bN P kc sy a b n < 1000 * tpV n P kc sy a b)))
theorem odB_comm (lim a b : Nat) : odB n P kc sy lim a b = odB n P kc sy lim b a := by unfold odB; rw [shN_comm, boN_comm, bN_comm, tpV_comm]
theorem sh_le (a b : Nat) (hn : n ≤ 12) : shN n kc sy a b ≤ 12 := by
  have := sm_le (n := n) (b := 1) (f := fun q => (isW kc sy a q && decide (sy a q = sy b q)).toNat) (fun k _ => toNat_le1 _)
  unfold shN
  omega
theorem odd_cmp {lim A B : Nat} (hB : 0 < B) : (lim * (B / Nat.gcd A B) < (A / Nat.gcd A B) * 1000) ↔ lim * B < 1000 * A := by
  have hg : 0 < Nat.gcd A B := Nat.gcd_pos_of_pos_right A hB
  have h1 : A / Nat.gcd A B * Nat.gcd A B = A := Nat.div_mul_cancel (Nat.gcd_dvd_left A B)
  have h2 : B / Nat.gcd A B * Nat.gcd A B = B := Nat.div_mul_cancel (Nat.gcd_dvd_right A B)
  generalize A / Nat.gcd A B = x at *
  generalize B / Nat.gcd A B = y at *
  generalize Nat.gcd A B = g at *
  subst h1; subst h2
  have e1 : lim * (y * g) = (lim * y) * g := by rw [Nat.mul_assoc]
  have e2 : 1000 * (x * g) = (x * 1000) * g := by rw [← Nat.mul_assoc, Nat.mul_comm 1000 x]
  rw [e1, e2]
  exact ⟨fun h => Nat.mul_lt_mul_of_pos_right h hg, fun h => Nat.lt_of_mul_lt_mul_right h⟩
theorem c_odd {σ : St} (h : CV σ n P kc sy) (hn : n ≤ 12) (hP : P ≤ 10) (hsy : ∀ p q, p < 10 → q < 12 → ∃ v, v ≤ 5 ∧ sy p q = nI v) (hkc : ∀ q, q < 12 → ∃ v, v ≤ 5 ∧ kc q = nI v) {lim : Nat} (hl : σ.1 6 0 = nI lim) (hl2 : lim ≤ 1000) {a b : Nat} (ha : a < P) (hb : b < P) (hab : a ≠ b) :
    ∃ σ', f_X6_areOdd (nI a) (nI b) σ = some (odB n P kc sy lim a b, σ') ∧ Fr2 σ σ' := by
  have hs := sh_le (kc := kc) (sy := sy) a b hn
  have z0 : (0 < nI (shN n kc sy a b)) ↔ 0 < shN n kc sy a b := nI_ltI (a := 0) (by omega) (by omega)
  unfold f_X6_areOdd odB
  rw [c_same h hn (by omega) (by omega), Option.bind_some]
  simp only [z0]
  by_cases h0 : 0 < shN n kc sy a b
  · rw [if_pos h0]
    obtain ⟨k1, k2⟩ := c_chance h hn hP hsy hkc ha hb hab
    by_cases h7 : 7 < boN n kc sy a b
    · rw [k1 h7, Option.bind_some]
      exact ⟨σ, by simp [h0, h7], Fr2_rf⟩
    · obtain ⟨s0, hF, e⟩ := k2 h7
      rw [e, Option.bind_some]
      have hbb := b_bound (sy := sy) ha hb hab hP hkc n hn
      rw [me_bo] at hbb
      have hbb2 := p144 (boN n kc sy a b) (by omega)
      rw [p144b] at hbb2
      have htl := top_le (P := P) (by omega : boN n kc sy a b ≤ 7)
      have hg := gcd_b (A := tpV n P kc sy a b) hbb.1 (show bN P kc sy a b n < 2 ^ 63 by omega)
      have d1 : tpV n P kc sy a b / Nat.gcd (tpV n P kc sy a b) (bN P kc sy a b n) ≤ tpV n P kc sy a b := Nat.div_le_self _ _
      have d2 : bN P kc sy a b n / Nat.gcd (tpV n P kc sy a b) (bN P kc sy a b n) ≤ bN P kc sy a b n := Nat.div_le_self _ _
      have m1 : lim * (bN P kc sy a b n / Nat.gcd (tpV n P kc sy a b) (bN P kc sy a b n)) ≤ 1000 * 1283918464548864 := Nat.mul_le_mul hl2 (by omega)
      have hcmp := odd_cmp (lim := lim) (A := tpV n P kc sy a b) hbb.1
      rw [pk_lDiv (show tpV n P kc sy a b < 2 ^ 63 by omega) hg.1 hg.2, pk_lDiv (show bN P kc sy a b n < 2 ^ 63 by omega) hg.1 hg.2]
      generalize tpV n P kc sy a b / Nat.gcd (tpV n P kc sy a b) (bN P kc sy a b n) = x at *
      generalize bN P kc sy a b n / Nat.gcd (tpV n P kc sy a b) (bN P kc sy a b n) = y at *
      have e1 : (wL (wL s0 10 0 (lN x)) 10 1 (lN y)).2 10 1 = lN y := by unfold wL; rw [wB_s]; simp [vp_updL]
      have e2 : (wL (wL s0 10 0 (lN x)) 10 1 (lN y)).2 10 0 = lN x := by unfold wL; rw [wB_s]; simp [vp_updL, wB_s]
      have e3 : (wL (wL s0 10 0 (lN x)) 10 1 (lN y)).1 6 0 = nI lim := by show s0.1 6 0 = _; rw [hF 6 (by omega)]; exact hl
      simp (disch := omega) only [if_true, e1, e2, e3, nI_toL, show (1000 : Int64) = lN 1000 from rfl, lN_mul, pk_lLT, hcmp]
      refine ⟨wL (wL s0 10 0 (lN x)) 10 1 (lN y), ?_, Fr2_tr hF (fun _ _ => rfl)⟩
      by_cases hc : lim * bN P kc sy a b n < 1000 * tpV n P kc sy a b <;> simp [h0, h7, hc]
  · rw [if_neg h0]
    exact ⟨σ, by simp [h0], Fr2_rf⟩
theorem m_odd {σ : St} (h : MV σ n P kc sy) (hn : n ≤ 12) (hP : P ≤ 10) (hkc : ∀ q, q < 12 → ∃ v, v ≤ 5 ∧ kc q = nI v) {lim : Nat} (hl : σ.1 3 2 = nI lim) (hl2 : lim ≤ 1000) {a b : Nat} (ha : a < P) (hb : b < P) (hab : a ≠ b) :
    ∃ σ', f_X12_areOdd (nI a) (nI b) σ = some (odB n P kc sy lim a b, σ') ∧ σ'.1 = σ.1 := by
  have hs := sh_le (kc := kc) (sy := sy) a b hn
  have z0 : (0 < nI (shN n kc sy a b)) ↔ 0 < shN n kc sy a b := nI_ltI (a := 0) (by omega) (by omega)
  unfold f_X12_areOdd odB
  rw [m_same h hn (by omega) (by omega), Option.bind_some]
  simp only [z0]
  by_cases h0 : 0 < shN n kc sy a b
  · rw [if_pos h0]
    obtain ⟨k1, k2⟩ := m_chance h hn hP hkc (show a < 10 by omega) (show b < 10 by omega)
    by_cases h7 : 7 < boN n kc sy a b
    · rw [k1 h7, Option.bind_some]
      exact ⟨σ, by simp [h0, h7], rfl⟩
    · obtain ⟨s0, e, hF, e18, e19⟩ := k2 h7
      rw [e, Option.bind_some]
      have hbb := b_bound (sy := sy) ha hb hab hP hkc n hn
      rw [me_bo] at hbb
      have hbb2 := p144 (boN n kc sy a b) (by omega)
      rw [p144b] at hbb2
      have htl := top_le (P := P) (by omega : boN n kc sy a b ≤ 7)
      have m1 : lim * bN P kc sy a b n ≤ 1000 * 1283918464548864 := Nat.mul_le_mul hl2 (by omega)
      have e3 : s0.1 3 2 = nI lim := by rw [hF]; exact hl
      simp (disch := omega) only [if_true, show (2 : Int32) = nI 2 from rfl, inb_t, gd_t, nI_clamp, e18, e19, e3, nI_toL, show (1000 : Int64) = lN 1000 from rfl, lN_mul, pk_lLT]
      refine ⟨s0, ?_, hF⟩
      by_cases hc : lim * bN P kc sy a b n < 1000 * tpV n P kc sy a b <;> simp [h0, h7, hc]
  · rw [if_neg h0]
    exact ⟨σ, by simp [h0], rfl⟩
/-- whether two sit beside -/
def nrB (rw_ pl : Nat → Nat) (a b : Nat) : Bool := decide (rw_ a ≤ rw_ b + 1 ∧ rw_ b ≤ rw_ a + 1) && decide (pl a ≤ pl b + 1 ∧ pl b ≤ pl a + 1)
theorem nrB_comm (rw_ pl : Nat → Nat) (a b : Nat) : nrB rw_ pl a b = nrB rw_ pl b a := by
  unfold nrB
  rw [decide_eq_decide.mpr (And.comm (a := rw_ a ≤ rw_ b + 1)), decide_eq_decide.mpr (And.comm (a := pl a ≤ pl b + 1))]
def ab32 (x : Int32) : Int32 := if x < 0 then 0 - x else x
theorem ab_1 : ∀ x, x < 5 → ∀ y, y < 5 → (decide (x ≤ y + 1 ∧ y ≤ x + 1) = !(decide (1 < ab32 (nI x - nI y)))) ∧ (decide (ab32 (nI x - nI y) < 2) = decide (x ≤ y + 1 ∧ y ≤ x + 1)) := by decide +kernel
theorem c_near {σ : St} {rw_ pl : Nat → Nat} {a b : Nat} (ha : a < 10) (hb : b < 10) (h1 : σ.1 13 a = nI (rw_ a)) (h2 : σ.1 13 b = nI (rw_ b)) (h3 : σ.1 14 a = nI (pl a)) (h4 : σ.1 14 b = nI (pl b)) (b1 : rw_ a < 5) (b2 : rw_ b < 5) (b3 : pl a < 5) (b4 : pl b < 5) : f_X7_areNear (nI a) (nI b) σ = some (nrB rw_ pl a b) := by
  have hab : ∀ x : Int32, f_J9_abs_0f7a4 x σ = some (ab32 x) := fun x => by
    unfold f_J9_abs_0f7a4 ab32
    by_cases h : x < 0 <;> simp [h]
  have q1 := (ab_1 _ b1 _ b2).1
  have q2 := (ab_1 _ b3 _ b4).1
  unfold f_X7_areNear nrB
  simp (disch := omega) only [inb_t, gd_t, nI_clamp, h1, h2, h3, h4, hab, Option.bind_some]
  rw [q1, q2]
  by_cases e1 : 1 < ab32 (nI (rw_ a) - nI (rw_ b)) <;> by_cases e2 : 1 < ab32 (nI (pl a) - nI (pl b)) <;> simp [e1, e2]
theorem m_near {σ : St} {rw_ pl : Nat → Nat} {a b : Nat} (ha : a < 10) (hb : b < 10) (h1 : σ.1 4 a = nI (rw_ a)) (h2 : σ.1 4 b = nI (rw_ b)) (h3 : σ.1 5 a = nI (pl a)) (h4 : σ.1 5 b = nI (pl b)) (b1 : rw_ a < 5) (b2 : rw_ b < 5) (b3 : pl a < 5) (b4 : pl b < 5) : f_X12_areBeside (nI a) (nI b) σ = some (nrB rw_ pl a b) := by
  have hab : ∀ x : Int32, f_X12_amount x σ = some (ab32 x) := fun x => by
    unfold f_X12_amount ab32
    by_cases h : x < 0 <;> simp [h]
  have q1 := (ab_1 _ b1 _ b2).2
  have q2 := (ab_1 _ b3 _ b4).2
  unfold f_X12_areBeside nrB
  simp (disch := omega) only [inb_t, gd_t, nI_clamp, h1, h2, h3, h4, hab, Option.bind_some]
  rw [← q1, ← q2]
  by_cases e1 : ab32 (nI (rw_ a) - nI (rw_ b)) < 2 <;> by_cases e2 : ab32 (nI (pl a) - nI (pl b)) < 2 <;> simp [e1, e2]
end M8
