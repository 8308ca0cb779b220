/-! CHANCE: how all others went wrong; the ways -/
theorem c_fill {σ : St} {a n : Nat} {v : Int32} (hn : n < 1000) : f_J7_fill_53178 a n v σ = some (wA σ a (rwk n (fun _ => v) (σ.1 a))) := by
  unfold f_J7_fill_53178
  rw [bv_e]
  refine lp_count (fun k => (nI k, wA σ a (rwk k (fun _ => v) (σ.1 a)))) n (by rw [rwk_0, wA_self]; rfl) (by omega) (fun k hk rec => ?_) (fun rec => ?_)
  · unfold L_J7_fill_53178_5
    simp (disch := omega) only [nI_ltI, hk, if_true, inb_t, gd_t, nI_clamp, bd_e, wI_wA, nI_1]
    rw [rwk_s (g := fun _ => v)]
  · unfold L_J7_fill_53178_5
    simp (disch := omega) only [nI_ltI, Nat.lt_irrefl, if_false]
theorem c_fillL {σ : St} {a n : Nat} {v : Int64} (hn : n < 1000) : f_J7_fill_d0a16 a n v σ = some (wB σ a (rlk n (fun _ => v) (σ.2 a))) := by
  unfold f_J7_fill_d0a16
  rw [bv_e]
  refine lp_count (fun k => (nI k, wB σ a (rlk k (fun _ => v) (σ.2 a)))) n (by rw [rlk_0, wB_self]; rfl) (by omega) (fun k hk rec => ?_) (fun rec => ?_)
  · unfold L_J7_fill_d0a16_6
    simp (disch := omega) only [nI_ltI, hk, if_true, inb_t, gd_t, nI_clamp, bd_e, wL_wB, nI_1]
    rw [rlk_s (g := fun _ => v)]
  · unfold L_J7_fill_d0a16_6
    simp (disch := omega) only [nI_ltI, Nat.lt_irrefl, if_false]
/-- of others than a, b, below k, how many chose c at q -/
def ocN (sy : Nat → Nat → Int32) (a b q : Nat) (k c : Nat) : Nat := sm k (fun p => (!(decide (p = a)) && !(decide (p = b)) && decide (sy p q = nI c)).toNat)
def paN (P : Nat) (kc : Nat → Int32) (sy : Nat → Nat → Int32) (a b q : Nat) (m : Nat) : Nat := sm m (fun c => if nI (c + 1) = kc q then 0 else 1 + ocN sy a b q P (c + 1))
def sqN (P : Nat) (kc : Nat → Int32) (sy : Nat → Nat → Int32) (a b q : Nat) (m : Nat) : Nat := sm m (fun c => if nI (c + 1) = kc q then 0 else (1 + ocN sy a b q P (c + 1)) * (1 + ocN sy a b q P (c + 1)))
theorem sm_add {n : Nat} {f g : Nat → Nat} : sm n (fun k => f k + g k) = sm n f + sm n g := by
  induction n with
  | zero => rfl
  | succ n ih => rw [sm_s, sm_s, sm_s, ih]; omega
theorem sm_swap {n m : Nat} {f : Nat → Nat → Nat} : sm n (fun i => sm m (fun j => f i j)) = sm m (fun j => sm n (fun i => f i j)) := by
  induction n with
  | zero =>
    induction m with
    | zero => rfl
    | succ m ih => rw [sm_s, ← ih]; rfl
  | succ n ih =>
    rw [sm_s, ih, ← sm_add]
    rfl
theorem sm_le2 {n : Nat} {f g : Nat → Nat} (h : ∀ k, k < n → f k ≤ g k) : sm n f ≤ sm n g := by
  induction n with
  | zero => exact Nat.le_refl _
  | succ n ih =>
    rw [sm_s, sm_s]
    have := ih (fun k hk => h k (by omega))
    have := h n (by omega)
    omega
theorem sm_pt {n a : Nat} (h : a < n) : sm n (fun p => (decide (p = a)).toNat) = 1 := by
  induction n with
  | zero => omega
  | succ n ih =>
    rw [sm_s]
    by_cases e : a = n
    · subst e
      have : sm a (fun p => (decide (p = a)).toNat) = sm a (fun _ => 0) := sm_congr (fun k hk => by simp [show k ≠ a by omega])
      rw [this]
      have : ∀ m, sm m (fun _ => 0) = 0 := fun m => by induction m with
        | zero => rfl
        | succ m ih => rw [sm_s, ih]
      rw [this]
      simp
    · rw [ih (by omega)]
      simp [show n ≠ a by omega]
theorem sm_c1 (n : Nat) : sm n (fun _ => 1) = n := by
  induction n with
  | zero => rfl
  | succ n ih => rw [sm_s, ih]
theorem sm_ne {P a b : Nat} (ha : a < P) (hb : b < P) (hab : a ≠ b) : sm P (fun p => (!(decide (p = a)) && !(decide (p = b))).toNat) + 2 = P := by
  have h := sm_pt ha
  have h2 := sm_pt hb
  have h3 : sm P (fun p => ((!(decide (p = a)) && !(decide (p = b))).toNat + (decide (p = a)).toNat) + (decide (p = b)).toNat) = sm P (fun _ => 1) := sm_congr (fun k _ => by
    by_cases e1 : k = a
    · have : ¬ k = b := by omega
      simp [e1, show ¬ a = b from hab]
    · by_cases e2 : k = b
      · simp [e2, show ¬ b = a by omega]
      · simp [e1, e2])
  rw [sm_add, sm_add, sm_c1] at h3
  omega
section M5
variable {n P : Nat} {kc : Nat → Int32} {sy : Nat → Nat → Int32}
theorem oc_sum {a b q : Nat} (ha : a < P) (hb : b < P) (hab : a ≠ b) : sm 5 (fun c => ocN sy a b q P (c + 1)) + 2 ≤ P := by
  unfold ocN
  rw [sm_swap]
  have h1 : sm P (fun p => sm 5 (fun c => (!(decide (p = a)) && !(decide (p = b)) && decide (sy p q = nI (c + 1))).toNat)) ≤ sm P (fun p => (!(decide (p = a)) && !(decide (p = b))).toNat) := sm_le2 (fun p _ => by
    by_cases e1 : p = a
    · simp [sm, e1]
    · by_cases e2 : p = b
      · simp [sm, e2]
      · simp only [e1, e2, decide_false, Bool.not_false, Bool.true_and]
        have hd : ∀ i j, i < 6 → j < 6 → i ≠ j → ¬ nI i = nI j := fun i j hi hj hij e => hij ((nI_eq (by omega) (by omega)).mp e)
        have one : ∀ i j, i < 6 → j < 6 → i ≠ j → sy p q = nI i → ¬ sy p q = nI j := fun i j hi hj hij e h => hd i j hi hj hij (e.symm.trans h)
        show (((((0 + (decide (sy p q = nI 1)).toNat) + (decide (sy p q = nI 2)).toNat) + (decide (sy p q = nI 3)).toNat) + (decide (sy p q = nI 4)).toNat) + (decide (sy p q = nI 5)).toNat) ≤ 1
        by_cases f1 : sy p q = nI 1
        · simp [f1, hd 1 2 (by omega) (by omega) (by omega), hd 1 3 (by omega) (by omega) (by omega), hd 1 4 (by omega) (by omega) (by omega), hd 1 5 (by omega) (by omega) (by omega)]
        · by_cases f2 : sy p q = nI 2
          · simp [f2, hd 2 1 (by omega) (by omega) (by omega), hd 2 3 (by omega) (by omega) (by omega), hd 2 4 (by omega) (by omega) (by omega), hd 2 5 (by omega) (by omega) (by omega)]
          · by_cases f3 : sy p q = nI 3
            · simp [f3, hd 3 1 (by omega) (by omega) (by omega), hd 3 2 (by omega) (by omega) (by omega), hd 3 4 (by omega) (by omega) (by omega), hd 3 5 (by omega) (by omega) (by omega)]
            · by_cases f4 : sy p q = nI 4
              · simp [f4, hd 4 1 (by omega) (by omega) (by omega), hd 4 2 (by omega) (by omega) (by omega), hd 4 3 (by omega) (by omega) (by omega), hd 4 5 (by omega) (by omega) (by omega)]
              · by_cases f5 : sy p q = nI 5
                · simp [f5, hd 5 1 (by omega) (by omega) (by omega), hd 5 2 (by omega) (by omega) (by omega), hd 5 3 (by omega) (by omega) (by omega), hd 5 4 (by omega) (by omega) (by omega)]
                · simp [f1, f2, f3, f4, f5])
  have := sm_ne ha hb hab
  omega
/-- the key's choice is one of five: four are wrong -/
theorem pa_four {a b q v : Nat} (hv : kc q = nI v) (hv1 : 1 ≤ v) (hv5 : v ≤ 5) : paN P kc sy a b q 5 + ocN sy a b q P v = 4 + sm 5 (fun c => ocN sy a b q P (c + 1)) := by
  unfold paN
  have hd : ∀ i j, i < 6 → j < 6 → (nI i = nI j ↔ i = j) := fun i j hi hj => nI_eq (by omega) (by omega)
  simp only [sm, hv, hd 1 v (by omega) (by omega), hd 2 v (by omega) (by omega), hd 3 v (by omega) (by omega), hd 4 v (by omega) (by omega), hd 5 v (by omega) (by omega)]
  rcases (show v = 1 ∨ v = 2 ∨ v = 3 ∨ v = 4 ∨ v = 5 by omega) with rfl | rfl | rfl | rfl | rfl <;> simp <;> omega
theorem pa_le {a b q v : Nat} (ha : a < P) (hb : b < P) (hab : a ≠ b) (hP : P ≤ 10) (hv : kc q = nI v) (hv1 : 1 ≤ v) (hv5 : v ≤ 5) : 4 ≤ paN P kc sy a b q 5 ∧ paN P kc sy a b q 5 ≤ 12 := by
  have h1 := oc_sum (P := P) (sy := sy) (q := q) ha hb hab
  have h2 := pa_four (P := P) (sy := sy) (a := a) (b := b) hv hv1 hv5
  have h3 : ocN sy a b q P v ≤ sm 5 (fun c => ocN sy a b q P (c + 1)) := by
    simp only [sm]
    rcases (show v = 1 ∨ v = 2 ∨ v = 3 ∨ v = 4 ∨ v = 5 by omega) with rfl | rfl | rfl | rfl | rfl <;> simp <;> omega
  omega
theorem sq_le (a b q m : Nat) : sqN P kc sy a b q m ≤ paN P kc sy a b q m * paN P kc sy a b q m := by
  unfold sqN paN
  induction m with
  | zero => exact Nat.zero_le _
  | succ m ih =>
    rw [sm_s, sm_s]
    generalize sm m (fun c => if nI (c + 1) = kc q then 0 else (1 + ocN sy a b q P (c + 1)) * (1 + ocN sy a b q P (c + 1))) = S at *
    generalize sm m (fun c => if nI (c + 1) = kc q then 0 else 1 + ocN sy a b q P (c + 1)) = T at *
    split
    · simpa using ih
    · generalize 1 + ocN sy a b q P (m + 1) = u
      have : (T + u) * (T + u) = T * T + (T * u + u * T) + u * u := by rw [Nat.add_mul, Nat.mul_add, Nat.mul_add]; omega
      omega
theorem upd_inc {g : Nat → Nat} {f : Nat → Int32} {c : Nat} (hc : c < 6) : upd (rwk 6 (fun j => nI (g j)) f) c (nI (g c) + 1) = rwk 6 (fun j => nI (g j + (decide (c = j)).toNat)) f := by
  funext j
  unfold upd rwk
  by_cases h : j = c
  · subst h
    simp [hc, nI_1]
  · by_cases h2 : j < 6
    · have h3 : ¬ c = j := fun e => h e.symm
      simp [h, h2, h3]
    · simp [h, h2]
theorem c_countCh {σ : St} (h : CV σ n P kc sy) (hP : P ≤ 10) (hsy : ∀ p q, p < 10 → q < 12 → ∃ v, v ≤ 5 ∧ sy p q = nI v) {a b q : Nat} (ha : a < 10) (hb : b < 10) (hq : q < 12) : f_X6_countChoosers (nI a) (nI b) (nI q) σ = some (wA σ 22 (rwk 6 (fun j => nI (ocN sy a b q P j)) (σ.1 22))) := by
  unfold f_X6_countChoosers
  rw [c_fill (by omega), Option.bind_some]
  refine lp_count (fun k => (nI k, wA σ 22 (rwk 6 (fun j => nI (ocN sy a b q k j)) (σ.1 22)))) P rfl (by omega) (fun k hk rec => ?_) (fun rec => ?_)
  · have hv := CV_Fr h (Fr_wA (σ := σ) (k := 22) (f := rwk 6 (fun j => nI (ocN sy a b q k j)) (σ.1 22)) (by omega))
    obtain ⟨v, hv5, hsv⟩ := hsy k q (by omega) hq
    unfold L_X6_countChoosers_11
    simp (disch := omega) only [hv.2.1, nI_ltI, hk, if_true, nI_eq, nI_1]
    by_cases e1 : k = a
    · simp only [e1, if_true]
      have : ∀ j, ocN sy a b q (a + 1) j = ocN sy a b q a j := fun j => by unfold ocN; rw [sm_s]; simp
      simp only [this]
    · by_cases e2 : k = b
      · have e3 : ¬ b = a := by omega
        simp only [e2, e3, if_true, if_false]
        have : ∀ j, ocN sy a b q (b + 1) j = ocN sy a b q b j := fun j => by unfold ocN; rw [sm_s]; simp
        simp only [this]
      · simp (disch := omega) only [e1, e2, if_false, inb_t, gd_t, nI_clamp, cur_id, hv.2.2.2 k q (by omega) hq, hsv, bd_e, wI_wA, wA_s]
        rw [rwk_lt (show v < 6 by omega), upd_inc (by omega)]
        have : ∀ j, j < 6 → ocN sy a b q (k + 1) j = ocN sy a b q k j + (decide (v = j)).toNat := fun j hj => by
          unfold ocN
          rw [sm_s]
          simp only [e1, e2, hsv, decide_false, Bool.not_false, Bool.true_and]
          rw [show (decide (nI v = nI j)) = decide (v = j) by simp [nI_eq (show v < 2 ^ 31 by omega) (show j < 2 ^ 31 by omega)]]
        have e4 : rwk 6 (fun j => nI (ocN sy a b q k j + (decide (v = j)).toNat)) (σ.1 22) = rwk 6 (fun j => nI (ocN sy a b q (k + 1) j)) (σ.1 22) := by
          funext j
          unfold rwk
          by_cases hj : j < 6
          · rw [if_pos hj, if_pos hj]
            show nI _ = nI _
            rw [this j hj]
          · rw [if_neg hj, if_neg hj]
        rw [e4]
  · have hv := CV_Fr h (Fr_wA (σ := σ) (k := 22) (f := rwk 6 (fun j => nI (ocN sy a b q P j)) (σ.1 22)) (by omega))
    unfold L_X6_countChoosers_11
    simp (disch := omega) only [hv.2.1, nI_ltI, Nat.lt_irrefl, if_false]
end M5
