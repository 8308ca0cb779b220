/-! THE CHANCE whole, and who is odd -/
section M7
variable {n P : Nat} {kc : Nat → Int32} {sy : Nat → Nat → Int32}
def anN (P : Nat) (kc : Nat → Int32) (sy : Nat → Nat → Int32) (a b q m : Nat) : Nat := 4 + sm m (fun c => if nI (c + 1) = kc q then 0 else ocN sy a b q P (c + 1))
theorem an_pa {a b q v : Nat} (hv : kc q = nI v) (hv1 : 1 ≤ v) (hv5 : v ≤ 5) : anN P kc sy a b q 5 = paN P kc sy a b q 5 := by
  unfold anN paN
  have hd : ∀ i j, i < 6 → j < 6 → (nI i = nI j ↔ i = j) := fun i j hi hj => nI_eq (by omega) (by omega)
  simp only [sm, hv, hd 1 v (by omega) (by omega), hd 2 v (by omega) (by omega), hd 3 v (by omega) (by omega), hd 4 v (by omega) (by omega), hd 5 v (by omega) (by omega)]
  rcases (show v = 1 ∨ v = 2 ∨ v = 3 ∨ v = 4 ∨ v = 5 by omega) with rfl | rfl | rfl | rfl | rfl <;> simp <;> omega
theorem m_row {σ : St} {S T : Nat} (hS : S ≤ T * T) (w : Nat → Nat) (hw : ∀ j, j < 9 → σ.2 14 j = lN (w j)) (K : St → Option (Bool × St)) : lp (L_X12_laysChance_212 (lN S, lN T) K) NN (8, σ) = K (wB σ 14 (rlk 9 (fun j => lN (wnx (T * T) S w j)) (σ.2 14))) := by
  refine lp_count (fun t => (nI (9 - t) - 1, wB σ 14 (rlk 9 (fun j => lN (if 9 - t ≤ j then wnx (T * T) S w j else w j)) (σ.2 14)))) 9 ?_ (by omega) (fun t ht rec => ?_) (fun rec => ?_)
  · refine Prod.ext (by show (8 : Int32) = nI 9 - 1; decide) ?_
    show σ = _
    rw [← rlk_own (fun j hj => ?_), wB_self]
    rw [if_neg (by omega)]
    exact hw j hj
  · obtain ⟨i, hi⟩ : ∃ i, 9 - t = i + 1 := ⟨8 - t, by omega⟩
    have hi2 : 9 - (t + 1) = i := by omega
    rw [hi, hi2, nI_pred]
    unfold L_X12_laysChance_212
    have n0 : ¬ nI i < 0 := nI_pos (by omega)
    have e1 : rlk 9 (fun j => lN (if i + 1 ≤ j then wnx (T * T) S w j else w j)) (σ.2 14) i = lN (w i) := by
      rw [rlk_lt (by omega), if_neg (by omega)]
    simp (disch := omega) only [n0, if_false, inb_t, gd_t, nI_clamp, bd_e, wB_s, jn_e, e1, wL_wB, lN_mul, lN_sub hS]
    by_cases h0 : i = 0
    · subst h0
      have z : ¬ (0 : Int32) < nI 0 := by decide
      rw [if_neg z, show (0 : Int64) = lN 0 from rfl, lN_add, updL_g (show 0 < 9 by omega), addm1]
      congr 2
      congr 1
      refine rlk_congr (fun j hj => ?_)
      congr 1
      by_cases h1 : j = 0
      · subst h1
        rw [if_pos rfl, if_pos (by omega)]
        unfold wnx
        simp
      · rw [if_neg h1, if_pos (by omega), if_pos (by omega)]
    · obtain ⟨z, rfl⟩ : ∃ z, i = z + 1 := ⟨i - 1, by omega⟩
      have zz : (0 : Int32) < nI (z + 1) := (nI_ltI (a := 0) (by omega) (by omega)).mpr (by omega)
      have e2 : rlk 9 (fun j => lN (if z + 1 + 1 ≤ j then wnx (T * T) S w j else w j)) (σ.2 14) z = lN (w z) := by
        rw [rlk_lt (by omega), if_neg (by omega)]
      simp (disch := omega) only [zz, if_true, nI_pred, inb_t, gd_t, nI_clamp, e2, lN_mul, lN_add]
      rw [updL_g (show z + 1 < 9 by omega), m1_nI]
      congr 2
      congr 1
      refine rlk_congr (fun j hj => ?_)
      congr 1
      by_cases h1 : j = z + 1
      · subst h1
        rw [if_pos rfl, if_pos (by omega)]
        unfold wnx
        rw [if_neg (by omega)]
        rfl
      · rw [if_neg h1]
        by_cases h2 : z + 1 + 1 ≤ j
        · rw [if_pos h2, if_pos (by omega)]
        · rw [if_neg h2, if_neg (by omega)]
  · unfold L_X12_laysChance_212
    have n0 : nI (9 - 9) - 1 < 0 := by decide
    simp only [n0, if_true]
    refine congrArg K (congrArg (wB σ 14) (rlk_congr (fun j hj => ?_)))
    rw [if_pos (by omega)]
theorem m_cnt {σ : St} (h : MV σ n P kc sy) (hP : P ≤ 10) {a b q c : Nat} (ha : a < 10) (hb : b < 10) (hq : q < 12) (y z : Int64) (K : Int64 → Option (Bool × St)) : lp (L_X12_laysChance_99 (nI a) (nI b) (nI q, σ) (nI c, y, z) K) NN (0, 1) = K (lN (1 + ocN sy a b q P c)) := by
  refine lp_count (fun k => (nI k, lN (1 + ocN sy a b q k c))) P rfl (by omega) (fun k hk rec => ?_) (fun rec => ?_)
  · unfold L_X12_laysChance_99
    simp (disch := omega) only [h.2.1, nI_ltI, hk, if_true, nI_eq, m_ix (show k < 10 by omega) hq, inb_t, gd_t, nI_clamp, h.2.2.2 k q (by omega) hq, bl_e, nI_1, show ∀ u : Nat, lN u + 0 = lN u from fun u => lN_add u 0, lN_1]
    have e0 : ocN sy a b q (k + 1) c = ocN sy a b q k c + (!(decide (k = a)) && !(decide (k = b)) && decide (sy k q = nI c)).toNat := rfl
    rw [e0]
    by_cases e1 : k = a
    · simp [e1]
    · by_cases e2 : k = b
      · simp [e2, show ¬ b = a by omega]
      · by_cases e3 : sy k q = nI c <;> simp [e1, e2, e3, Nat.add_assoc]
  · unfold L_X12_laysChance_99
    simp (disch := omega) only [h.2.1, nI_ltI, Nat.lt_irrefl, if_false]
theorem m_86 {σ : St} (h : MV σ n P kc sy) (hP : P ≤ 10) {a b q : Nat} (ha : a < 10) (hb : b < 10) (hq : q < 12) (K : Int64 × Int64 → Option (Bool × St)) : lp (L_X12_laysChance_86 (nI a) (nI b) (nI q, σ) K) NN (1, 0, 4) = K (lN (sqN P kc sy a b q 5), lN (anN P kc sy a b q 5)) := by
  refine lp_count (fun k => (nI (k + 1), lN (sqN P kc sy a b q k), lN (anN P kc sy a b q k))) 5 rfl (by omega) (fun k hk rec => ?_) (fun rec => ?_)
  · unfold L_X12_laysChance_86
    simp (disch := omega) only [show (6 : Int32) = nI 6 from rfl, nI_ltI, show k + 1 < 6 by omega, if_true, jn_e, m_cnt h hP ha hb hq, inb_t, gd_t, nI_clamp, h.2.2.1 q hq, bl_e, nI_1]
    have e5 : lN (1 + ocN sy a b q P (k + 1)) - 1 = lN (ocN sy a b q P (k + 1)) := by
      rw [show (1 : Int64) = lN 1 from rfl, lN_sub (by omega)]
      congr 1
      omega
    rw [e5, lN_mul, show (0 : Int64) = lN 0 from rfl]
    simp only [lN_add]
    rw [show anN P kc sy a b q (k + 1) = anN P kc sy a b q k + (if nI (k + 1) = kc q then 0 else ocN sy a b q P (k + 1)) from by unfold anN; rw [sm_s]; omega, show sqN P kc sy a b q (k + 1) = sqN P kc sy a b q k + (if nI (k + 1) = kc q then 0 else (1 + ocN sy a b q P (k + 1)) * (1 + ocN sy a b q P (k + 1))) from rfl]
    by_cases e : nI (k + 1) = kc q <;> simp [e]
  · unfold L_X12_laysChance_86
    simp (disch := omega) only [show (6 : Int32) = nI 6 from rfl, nI_ltI, show ¬ 5 + 1 < 6 by omega, if_false]
theorem me_bo (a b : Nat) : meN kc sy a b n = boN n kc sy a b := rfl
theorem me_mono {a b k m : Nat} (h : k ≤ m) : meN kc sy a b k ≤ meN kc sy a b m := by
  induction m with
  | zero =>
    have : k = 0 := by omega
    subst this
    exact Nat.le_refl _
  | succ m ih =>
    by_cases e : k = m + 1
    · subst e; exact Nat.le_refl _
    · have := ih (by omega)
      have e2 : meN kc sy a b (m + 1) = meN kc sy a b m + (bth kc sy a b m).toNat := rfl
      omega
theorem wN_0 {a b : Nat} : ∀ k j, meN kc sy a b k < j → wN P kc sy a b k j = 0
  | 0, j, h => by
    have : meN kc sy a b 0 = 0 := rfl
    show (if j = 0 then 1 else 0) = 0
    rw [if_neg (by omega)]
  | k + 1, j, h => by
    have e2 : meN kc sy a b (k + 1) = meN kc sy a b k + (bth kc sy a b k).toNat := rfl
    rw [wN]
    by_cases e : bth kc sy a b k = true
    · rw [if_pos e]
      rw [e] at e2
      have e3 : (true).toNat = 1 := rfl
      unfold wnx
      rw [wN_0 k j (by omega), wN_0 k (j - 1) (by omega)]
      simp
    · rw [if_neg e]
      exact wN_0 k j (by omega)
theorem sh_bo (a b : Nat) : shN n kc sy a b ≤ boN n kc sy a b := by
  unfold shN boN
  refine sm_le2 (fun q _ => ?_)
  by_cases e : sy a q = sy b q
  · have : isW kc sy b q = isW kc sy a q := by unfold isW; rw [e]
    rw [this]
    cases isW kc sy a q <;> simp [e]
  · simp [e]
/-- the sum of the ways from lo on -/
def tpN (w : Nat → Nat) (lo m : Nat) : Nat := sm m (fun i => w (lo + i))
theorem tp_le (w : Nat → Nat) (lo m : Nat) : tpN w lo m ≤ sm (lo + m) w := by
  unfold tpN
  induction m with
  | zero => exact Nat.zero_le _
  | succ m ih =>
    rw [sm_s, show lo + (m + 1) = (lo + m) + 1 by omega, sm_s]
    omega
theorem sm_wnx {A S : Nat} (hS : S ≤ A) (w : Nat → Nat) : ∀ m, sm m (wnx A S w) + (if m = 0 then 0 else w (m - 1) * S) = sm m w * A
  | 0 => by simp [sm]
  | m + 1 => by
    have ih := sm_wnx hS w m
    rw [sm_s, sm_s, if_neg (by omega), Nat.add_sub_cancel, Nat.add_mul, ← ih]
    unfold wnx
    have e : w m * (A - S) + w m * S = w m * A := by rw [← Nat.mul_add]; congr 1; omega
    omega
theorem w_total {a b : Nat} : ∀ k, meN kc sy a b k ≤ 7 → sm 9 (wN P kc sy a b k) = bN P kc sy a b k
  | 0, _ => by simp [wN, sm, bN]
  | k + 1, h => by
    have e2 : meN kc sy a b (k + 1) = meN kc sy a b k + (bth kc sy a b k).toNat := rfl
    have ih := w_total (a := a) (b := b) k (by omega)
    rw [wN, bN]
    by_cases e : bth kc sy a b k = true
    · rw [if_pos e, if_pos e]
      have h1 := sm_wnx (A := aaN P kc sy a b k) (sq_le (P := P) (kc := kc) (sy := sy) a b k 5) (wN P kc sy a b k) 9
      rw [if_neg (by omega), wN_0 k (9 - 1) (by omega)] at h1
      rw [← ih]
      simpa using h1
    · rw [if_neg e, if_neg e]
      exact ih
theorem isW_kc {q p : Nat} (h : isW kc sy p q = true) : ¬ kc q = 0 := by
  unfold isW at h
  simp only [Bool.and_eq_true, Bool.not_eq_true', decide_eq_false_iff_not] at h
  exact h.1.1
theorem b_bound {a b : Nat} (ha : a < P) (hb : b < P) (hab : a ≠ b) (hP : P ≤ 10) (hkc : ∀ q, q < 12 → ∃ v, v ≤ 5 ∧ kc q = nI v) : ∀ k, k ≤ 12 → 0 < bN P kc sy a b k ∧ bN P kc sy a b k ≤ 144 ^ meN kc sy a b k
  | 0, _ => ⟨Nat.one_pos, Nat.le_refl _⟩
  | k + 1, hk => by
    have ih := b_bound ha hb hab hP hkc k (by omega)
    have e2 : meN kc sy a b (k + 1) = meN kc sy a b k + (bth kc sy a b k).toNat := rfl
    rw [bN]
    by_cases e : bth kc sy a b k = true
    · rw [if_pos e, e2, e]
      obtain ⟨v, hv5, hv⟩ := hkc k (by omega)
      have hv1 : 1 ≤ v := by
        have h0 : isW kc sy a k = true := by
          unfold bth at e
          exact (Bool.and_eq_true _ _ ▸ e : _ ∧ _).1
        have := isW_kc h0
        rw [hv] at this
        by_cases z : v = 0
        · subst z; exact absurd rfl this
        · omega
      have hp := pa_le (sy := sy) ha hb hab hP hv hv1 hv5
      have h3 : aaN P kc sy a b k ≤ 144 := Nat.mul_le_mul hp.2 hp.2
      have h4 : 0 < aaN P kc sy a b k := Nat.mul_pos (by omega) (by omega)
      refine ⟨Nat.mul_pos ih.1 h4, ?_⟩
      rw [show (true).toNat = 1 from rfl, Nat.pow_succ]
      exact Nat.mul_le_mul ih.2 h3
    · have e3 : bth kc sy a b k = false := by
        cases z : bth kc sy a b k
        · rfl
        · exact absurd z e
      rw [if_neg e, e2, e3]
      exact ih
set_option maxRecDepth 100000 in
theorem m_49 {σ : St} (h : MV σ n P kc sy) (hn : n ≤ 12) (hP : P ≤ 10) (hkc : ∀ q, q < 12 → ∃ v, v ≤ 5 ∧ kc q = nI v) {a b : Nat} (ha : a < 10) (hb : b < 10) (h14 : ∀ j, j < 9 → σ.2 14 j = lN (wN P kc sy a b 0 j)) (h19 : σ.2 0 19 = lN 1) :
    ∃ s', (s'.1 = σ.1 ∧ (∀ j, j < 9 → s'.2 14 j = lN (wN P kc sy a b n j)) ∧ s'.2 0 19 = lN (bN P kc sy a b n)) ∧ ∀ K : St → Option (Bool × St), lp (L_X12_laysChance_49 (nI a) (nI b) K) NN (0, σ) = K s' := by
  have key := lp_invK (F := L_X12_laysChance_49 (nI a) (nI b)) (fun k (x : Int32 × St) => x.1 = nI k ∧ x.2.1 = σ.1 ∧ (∀ j, j < 9 → x.2.2 14 j = lN (wN P kc sy a b k j)) ∧ x.2.2 0 19 = lN (bN P kc sy a b k)) n (fun x => x.2) (x0 := (0, σ)) ⟨rfl, rfl, h14, h19⟩ (by omega)
    (by
      intro k x hk hI
      obtain ⟨x1, x2⟩ := x
      obtain ⟨hx1, hF, hr, hB⟩ := hI
      simp only at hx1 hF hr hB
      subst hx1
      have hv : MV x2 n P kc sy := MV_Fr h (fun j _ => by rw [hF])
      by_cases e : bth kc sy a b k = true
      · have e' : isW kc sy a k = true ∧ isW kc sy b k = true := by
          unfold bth at e
          exact (Bool.and_eq_true _ _ ▸ e : _ ∧ _)
        obtain ⟨v, hv5, hkv⟩ := hkc k (by omega)
        have hv1 : 1 ≤ v := by
          have := isW_kc e'.1
          rw [hkv] at this
          by_cases z : v = 0
          · subst z; exact absurd rfl this
          · omega
        have hs := sq_le (P := P) (kc := kc) (sy := sy) a b k 5
        refine ⟨(nI (k + 1), wL (wB x2 14 (rlk 9 (fun j => lN (wnx (paN P kc sy a b k 5 * paN P kc sy a b k 5) (sqN P kc sy a b k 5) (wN P kc sy a b k) j)) (x2.2 14))) 0 19 (lN (bN P kc sy a b k * aaN P kc sy a b k))), ⟨rfl, hF, fun j hj => ?_, ?_⟩, fun K rec => ?_⟩
        · show (wL _ 0 19 _).2 14 j = _
          unfold wL
          rw [wB_2 (by omega), wB_s, rlk_lt hj, wN, if_pos e]
          rfl
        · show (wL _ 0 19 _).2 0 19 = _
          unfold wL
          rw [wB_s, bN, if_pos e]
          simp [vp_updL]
        · unfold L_X12_laysChance_49
          simp (disch := omega) only [hv.1, nI_ltI, hk, if_true, m_isW hv ha (show k < 12 by omega), m_isW hv hb (show k < 12 by omega), e'.1, e'.2, Option.bind_some, jn_e, m_86 hv hP ha hb (show k < 12 by omega), an_pa hkv hv1 hv5, m_row hs (wN P kc sy a b k) hr, bd_e, wB_2 (show 0 ≠ 14 by omega), hB, lN_mul, nI_1, aaN]
      · refine ⟨(nI (k + 1), x2), ⟨rfl, hF, fun j hj => by rw [wN, if_neg e]; exact hr j hj, by rw [bN, if_neg e]; exact hB⟩, fun K rec => ?_⟩
        unfold L_X12_laysChance_49
        simp (disch := omega) only [hv.1, nI_ltI, hk, if_true, m_isW hv ha (show k < 12 by omega), m_isW hv hb (show k < 12 by omega), Option.bind_some, nI_1]
        have e3 : (isW kc sy a k && isW kc sy b k) = false := by
          cases z : bth kc sy a b k
          · exact z
          · exact absurd z e
        generalize isW kc sy a k = u1 at e3
        generalize isW kc sy b k = u2 at e3
        cases u1
        · rfl
        · cases u2
          · rfl
          · exact absurd e3 (by decide))
    (by
      intro x hI K rec
      obtain ⟨x1, x2⟩ := x
      obtain ⟨hx1, hF, hr, hB⟩ := hI
      simp only at hx1 hF hr hB
      subst hx1
      have hv : MV x2 n P kc sy := MV_Fr h (fun j _ => by rw [hF])
      unfold L_X12_laysChance_49
      simp (disch := omega) only [hv.1, nI_ltI, Nat.lt_irrefl, if_false])
  obtain ⟨x, hx, e⟩ := key
  exact ⟨x.2, hx.2, e⟩
/-- CHANCE's top and bottom -/
def tpV (n P : Nat) (kc : Nat → Int32) (sy : Nat → Nat → Int32) (a b : Nat) : Nat := tpN (wN P kc sy a b n) (shN n kc sy a b) (9 - shN n kc sy a b)
set_option maxRecDepth 100000 in
theorem m_chance {σ : St} (h : MV σ n P kc sy) (hn : n ≤ 12) (hP : P ≤ 10) (hkc : ∀ q, q < 12 → ∃ v, v ≤ 5 ∧ kc q = nI v) {a b : Nat} (ha : a < 10) (hb : b < 10) :
    (7 < boN n kc sy a b → f_X12_laysChance (nI a) (nI b) σ = some (false, σ)) ∧ (¬ 7 < boN n kc sy a b → ∃ s', f_X12_laysChance (nI a) (nI b) σ = some (true, s') ∧ s'.1 = σ.1 ∧ s'.2 0 18 = lN (tpV n P kc sy a b) ∧ s'.2 0 19 = lN (bN P kc sy a b n)) := by
  have hb1 : boN n kc sy a b ≤ 12 := by
    have := sm_le (n := n) (b := 1) (f := fun q => (isW kc sy a q && isW kc sy b q).toNat) (fun k _ => toNat_le1 _)
    unfold boN
    omega
  have hsb := sh_bo (n := n) (kc := kc) (sy := sy) a b
  unfold f_X12_laysChance
  simp (disch := omega) only [m_bothN h hn ha hb, Option.bind_some, show (7 : Int32) = nI 7 from rfl, nI_ltI]
  refine ⟨fun c => by rw [if_pos c], fun c => ?_⟩
  rw [if_neg c]
  have k1 : ∀ K : St → Option (Bool × St), lp (L_X12_laysChance_15 K) NN (0, σ) = K (wB σ 14 (rlk 9 (fun j => lN (if j = 0 then 1 else 0)) (σ.2 14))) := by
    intro K
    refine lp_count (fun k => (nI k, wB σ 14 (rlk k (fun j => lN (if j = 0 then 1 else 0)) (σ.2 14)))) 9 (by rw [rlk_0, wB_self]; rfl) (by omega) (fun k hk rec => ?_) (fun rec => ?_)
    · unfold L_X12_laysChance_15
      simp (disch := omega) only [show (9 : Int32) = nI 9 from rfl, nI_ltI, hk, if_true, jn_e, inb_t, gd_t, nI_clamp, bd_e, wL_wB, nI_1]
      have e : (nI k = 0) ↔ k = 0 := nI_eq (b := 0) (by omega) (by omega)
      rw [← rlk_s (g := fun j => lN (if j = 0 then 1 else 0))]
      by_cases e1 : k = 0
      · rw [if_pos (e.mpr e1)]
        simp only [e1, if_true]
        rfl
      · rw [if_neg (fun z => e1 (e.mp z))]
        simp only [e1, if_false]
        rfl
    · unfold L_X12_laysChance_15
      simp (disch := omega) only [show (9 : Int32) = nI 9 from rfl, nI_ltI, Nat.lt_irrefl, if_false]
  simp only [jn_e, bd_e]
  rw [k1]
  have g1 : (wL (wB σ 14 (rlk 9 (fun j => lN (if j = 0 then 1 else 0)) (σ.2 14))) 0 19 1).1 = σ.1 := rfl
  have g2 : ∀ j, j < 9 → (wL (wB σ 14 (rlk 9 (fun j => lN (if j = 0 then 1 else 0)) (σ.2 14))) 0 19 1).2 14 j = lN (wN P kc sy a b 0 j) := fun j hj => by
    unfold wL
    rw [wB_2 (by omega), wB_s, rlk_lt hj]
    rfl
  have g3 : (wL (wB σ 14 (rlk 9 (fun j => lN (if j = 0 then 1 else 0)) (σ.2 14))) 0 19 1).2 0 19 = lN 1 := by
    unfold wL
    rw [wB_s]
    simp [vp_updL]
    rfl
  generalize wL (wB σ 14 (rlk 9 (fun j => lN (if j = 0 then 1 else 0)) (σ.2 14))) 0 19 1 = s4 at g1 g2 g3
  have v4 : MV s4 n P kc sy := MV_Fr h (fun j _ => by rw [g1])
  obtain ⟨s5, ⟨p1, p2, p3⟩, k2⟩ := m_49 v4 hn hP hkc ha hb g2 g3
  rw [k2]
  have v5 : MV (wL s5 0 18 0) n P kc sy := MV_Fr v4 (fun j _ => by show s5.1 j = _; rw [p1])
  rw [m_same v5 hn ha hb, Option.bind_some]
  unfold tpV tpN
  refine ⟨wL s5 0 18 (lN (sm (9 - shN n kc sy a b) (fun i => wN P kc sy a b n (shN n kc sy a b + i)))), ?_, by show s5.1 = _; rw [p1, g1], by unfold wL; rw [wB_s]; simp [vp_updL], by unfold wL; rw [wB_s]; simp [vp_updL, p3]⟩
  generalize shN n kc sy a b = sh at *
  refine lp_count (fun t => (nI (sh + t), wL s5 0 18 (lN (sm t (fun i => wN P kc sy a b n (sh + i)))))) (9 - sh) rfl (by omega) (fun t ht rec => ?_) (fun rec => ?_)
  · unfold L_X12_laysChance_300
    have e1 : ∀ x : Int64, (wL s5 0 18 x).2 14 (sh + t) = lN (wN P kc sy a b n (sh + t)) := fun x => by
      unfold wL
      rw [wB_2 (by omega)]
      exact p2 _ (by omega)
    have e2 : ∀ x : Int64, (wL s5 0 18 x).2 0 18 = x := fun x => by unfold wL; rw [wB_s]; simp [vp_updL]
    have e3 : ∀ x y : Int64, wL (wL s5 0 18 x) 0 18 y = wL s5 0 18 y := fun x y => by
      unfold wL
      rw [wB_s, wB_wB]
      congr 1
      funext j
      unfold vp_updL
      by_cases z : j = 18 <;> simp [z]
    simp (disch := omega) only [show (9 : Int32) = nI 9 from rfl, nI_ltI, show sh + t < 9 by omega, if_true, inb_t, gd_t, nI_clamp, bd_e, e1, e2, e3, lN_add, nI_1]
    rfl
  · unfold L_X12_laysChance_300
    simp (disch := omega) only [show (9 : Int32) = nI 9 from rfl, nI_ltI, show ¬ sh + (9 - sh) < 9 by omega, if_false]
theorem tp_cut {a b : Nat} (h : boN n kc sy a b ≤ 7) : tpN (wN P kc sy a b n) (shN n kc sy a b) (boN n kc sy a b + 1 - shN n kc sy a b) = tpV n P kc sy a b := by
  have hsb := sh_bo (n := n) (kc := kc) (sy := sy) a b
  unfold tpV tpN
  symm
  refine sm_cut (by omega) (fun k h1 h2 => wN_0 n _ ?_)
  rw [me_bo]
  omega
theorem top_le {a b : Nat} (h : boN n kc sy a b ≤ 7) : tpV n P kc sy a b ≤ bN P kc sy a b n := by
  have hsb := sh_bo (n := n) (kc := kc) (sy := sy) a b
  have h1 := tp_le (wN P kc sy a b n) (shN n kc sy a b) (9 - shN n kc sy a b)
  rw [show shN n kc sy a b + (9 - shN n kc sy a b) = 9 by omega, w_total n (by rw [me_bo]; exact h)] at h1
  exact h1
theorem p144 : ∀ m, m ≤ 7 → 144 ^ m ≤ 144 ^ 7 := fun m h => Nat.pow_le_pow_right (by omega) h
theorem p144b : 144 ^ 7 = 1283918464548864 := by decide
set_option maxRecDepth 100000 in
theorem c_chance {σ : St} (h : CV σ n P kc sy) (hn : n ≤ 12) (hP : P ≤ 10) (hsy : ∀ p q, p < 10 → q < 12 → ∃ v, v ≤ 5 ∧ sy p q = nI v) (hkc : ∀ q, q < 12 → ∃ v, v ≤ 5 ∧ kc q = nI v) {a b : Nat} (ha : a < P) (hb : b < P) (hab : a ≠ b) :
    (7 < boN n kc sy a b → f_X6_reckonChance (nI a) (nI b) σ = some (false, σ)) ∧ (¬ 7 < boN n kc sy a b → ∃ s0, Fr2 σ s0 ∧ f_X6_reckonChance (nI a) (nI b) σ = some (true, wL (wL s0 10 0 (lN (tpV n P kc sy a b) / lN (Nat.gcd (tpV n P kc sy a b) (bN P kc sy a b n)))) 10 1 (lN (bN P kc sy a b n) / lN (Nat.gcd (tpV n P kc sy a b) (bN P kc sy a b n))))) := by
  have hb1 : boN n kc sy a b ≤ 12 := by
    have := sm_le (n := n) (b := 1) (f := fun q => (isW kc sy a q && isW kc sy b q).toNat) (fun k _ => toNat_le1 _)
    unfold boN
    omega
  have hsb := sh_bo (n := n) (kc := kc) (sy := sy) a b
  unfold f_X6_reckonChance
  simp (disch := omega) only [c_bothN h hn (show a < 10 by omega) (show b < 10 by omega), Option.bind_some, show (7 : Int32) = nI 7 from rfl, nI_ltI]
  refine ⟨fun c => by rw [if_pos c], fun c => ?_⟩
  rw [if_neg c, c_fillL (by omega), Option.bind_some]
  simp (disch := omega) only [i0, inb_t, gd_t, nI_clamp, bd_e, jn_e]
  have g2 : ∀ j, j < 8 → (wL (wB σ 23 (rlk 8 (fun _ => 0) (σ.2 23))) 23 0 1).2 23 j = lN (wN P kc sy a b 0 j) := fun j hj => by
    rw [wL_wB, wB_s]
    unfold vp_updL
    by_cases z : j = 0
    · simp [z, wN]
      rfl
    · simp [z, rlk_lt hj, wN]
      rfl
  have f1 : Fr2 σ (wL (wB σ 23 (rlk 8 (fun _ => 0) (σ.2 23))) 23 0 1) := fun _ _ => rfl
  generalize wL (wB σ 23 (rlk 8 (fun _ => 0) (σ.2 23))) 23 0 1 = s3 at f1 g2
  have v3 := CV_Fr h (Fr2_Fr f1)
  have key := lp_invK (F := L_X6_reckonChance_36 (nI a) (nI b)) (fun k (x : Int32 × Int32 × Int64 × St) => x.1 = nI k ∧ x.2.1 = nI (meN kc sy a b k) ∧ x.2.2.1 = lN (bN P kc sy a b k) ∧ Fr2 s3 x.2.2.2 ∧ ∀ j, j < 8 → x.2.2.2.2 23 j = lN (wN P kc sy a b k j)) n (fun x => (x.2.1, x.2.2.1, x.2.2.2)) (x0 := (nI 0, nI 0, 1, s3)) ⟨rfl, rfl, rfl, Fr2_rf, g2⟩ (by omega)
    (by
      intro k x hk hI
      obtain ⟨x1, x2, x3, x4⟩ := x
      obtain ⟨hx1, hx2, hx3, hF, hr⟩ := hI
      simp only at hx1 hx2 hx3 hF hr
      subst hx1; subst hx2; subst hx3
      have hv := CV_Fr v3 (Fr2_Fr hF)
      have e2 : meN kc sy a b (k + 1) = meN kc sy a b k + (bth kc sy a b k).toNat := rfl
      by_cases e : bth kc sy a b k = true
      · have hm : meN kc sy a b k ≤ 6 := by
          have h1 := me_mono (kc := kc) (sy := sy) (a := a) (b := b) (show k + 1 ≤ n by omega)
          have h2 : meN kc sy a b n = boN n kc sy a b := rfl
          rw [e2, e, h2] at h1
          have : (true).toNat = 1 := rfl
          omega
        obtain ⟨s', q1, q2, q3⟩ := c_meet hv hP hsy (a := a) (b := b) (q := k) (met := meN kc sy a b k) (by omega) (by omega) (by omega) hm (wN P kc sy a b k) hr (wN_0 k)
        refine ⟨(nI (k + 1), nI (meN kc sy a b (k + 1)), lN (bN P kc sy a b (k + 1)), s'), ⟨rfl, rfl, rfl, Fr2_tr hF q2, fun j hj => ?_⟩, fun K rec => ?_⟩
        · show s'.2 23 j = _
          rw [q3 j hj, wN, if_pos e]
        · unfold L_X6_reckonChance_36
          have e3 : (isW kc sy a k && isW kc sy b k) = true := e
          simp (disch := omega) only [hv.1, nI_ltI, hk, if_true, c_both1 hv (show a < 10 by omega) (show b < 10 by omega) (show k < 12 by omega), e3, Option.bind_some, q1, bl_e, lN_mul, nI_1]
          rw [e2, e, bN, if_pos e]
          rfl
      · have e3 : (isW kc sy a k && isW kc sy b k) = false := by
          cases z : bth kc sy a b k
          · exact z
          · exact absurd z e
        refine ⟨(nI (k + 1), nI (meN kc sy a b (k + 1)), lN (bN P kc sy a b (k + 1)), x4), ⟨rfl, rfl, rfl, hF, fun j hj => by rw [wN, if_neg e]; exact hr j hj⟩, fun K rec => ?_⟩
        unfold L_X6_reckonChance_36
        simp (disch := omega) only [hv.1, nI_ltI, hk, if_true, c_both1 hv (show a < 10 by omega) (show b < 10 by omega) (show k < 12 by omega), e3, Option.bind_some, nI_1]
        rw [e2, show bth kc sy a b k = false from e3, bN, if_neg e]
        simp)
    (by
      intro x hI K rec
      obtain ⟨x1, x2, x3, x4⟩ := x
      obtain ⟨hx1, hx2, hx3, hF, hr⟩ := hI
      simp only at hx1 hx2 hx3 hF hr
      subst hx1
      have hv := CV_Fr v3 (Fr2_Fr hF)
      unfold L_X6_reckonChance_36
      simp (disch := omega) only [hv.1, nI_ltI, Nat.lt_irrefl, if_false])
  obtain ⟨⟨x1, x2, x3, x4⟩, hI, k2⟩ := key
  obtain ⟨hx1, hx2, hx3, hF, hr⟩ := hI
  simp only at hx1 hx2 hx3 hF hr k2
  subst hx2; subst hx3
  rw [k2]
  have hv := CV_Fr v3 (Fr2_Fr hF)
  simp only [c_same hv hn (show a < 10 by omega) (show b < 10 by omega), Option.bind_some]
  have k3 : ∀ K : Int64 → Option (Bool × St), lp (L_X6_reckonChance_92 (nI (meN kc sy a b n), lN (bN P kc sy a b n), x4) K) NN (nI (shN n kc sy a b), nI 0 |>.toInt64) = K (lN (tpV n P kc sy a b)) := by
    intro K
    rw [← tp_cut (P := P) (by omega : boN n kc sy a b ≤ 7), me_bo]
    unfold tpN
    generalize shN n kc sy a b = sh at *
    generalize boN n kc sy a b = bo at *
    refine lp_count (fun t => (nI (sh + t), lN (sm t (fun i => wN P kc sy a b n (sh + i))))) (bo + 1 - sh) rfl (by omega) (fun t ht rec => ?_) (fun rec => ?_)
    · unfold L_X6_reckonChance_92
      simp (disch := omega) only [nI_ltI, show ¬ bo < sh + t by omega, if_false, inb_t, gd_t, nI_clamp, hr (sh + t) (by omega), bl_e, lN_add, nI_1]
      rfl
    · unfold L_X6_reckonChance_92
      simp (disch := omega) only [nI_ltI, show bo < sh + (bo + 1 - sh) by omega, if_true]
  have hbb := b_bound (sy := sy) ha hb hab hP hkc n hn
  rw [me_bo] at hbb
  have hbb2 := p144 (boN n kc sy a b) (by omega)
  rw [p144b] at hbb2
  have htl := top_le (P := P) (by omega : boN n kc sy a b ≤ 7)
  refine ⟨x4, Fr2_tr f1 hF, ?_⟩
  rw [show ((nI (shN n kc sy a b), (0 : Int64))) = (nI (shN n kc sy a b), nI 0 |>.toInt64) from rfl, k3]
  simp only [c_become (lN_abs (show tpV n P kc sy a b < 2 ^ 63 by omega)) (show tpV n P kc sy a b < 2 ^ 63 by omega) hbb.1 (show bN P kc sy a b n < 2 ^ 63 by omega), Option.bind_some]
end M7
