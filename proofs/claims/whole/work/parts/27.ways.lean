/-! THE WAYS: one question more, in both -/
def aaN (P : Nat) (kc : Nat → Int32) (sy : Nat → Nat → Int32) (a b q : Nat) : Nat := paN P kc sy a b q 5 * paN P kc sy a b q 5
def bth (kc : Nat → Int32) (sy : Nat → Nat → Int32) (a b q : Nat) : Bool := isW kc sy a q && isW kc sy b q
def wnx (A S : Nat) (w : Nat → Nat) : Nat → Nat := fun j => w j * (A - S) + (if j = 0 then 0 else w (j - 1) * S)
def wN (P : Nat) (kc : Nat → Int32) (sy : Nat → Nat → Int32) (a b : Nat) : Nat → Nat → Nat
  | 0 => fun j => if j = 0 then 1 else 0
  | k + 1 => if bth kc sy a b k = true then wnx (aaN P kc sy a b k) (sqN P kc sy a b k 5) (wN P kc sy a b k) else wN P kc sy a b k
def bN (P : Nat) (kc : Nat → Int32) (sy : Nat → Nat → Int32) (a b : Nat) : Nat → Nat
  | 0 => 1
  | k + 1 => if bth kc sy a b k = true then bN P kc sy a b k * aaN P kc sy a b k else bN P kc sy a b k
def meN (kc : Nat → Int32) (sy : Nat → Nat → Int32) (a b k : Nat) : Nat := sm k (fun q => (bth kc sy a b q).toNat)
theorem updL_g {g : Nat → Nat} {f : Nat → Int64} {c m v : Nat} (hc : c < m) : vp_updL (rlk m (fun j => lN (g j)) f) c (lN v) = rlk m (fun j => lN (if j = c then v else g j)) f := by
  funext j
  unfold vp_updL rlk
  by_cases h : j = c
  · subst h
    simp [hc]
  · simp [h]
theorem rlk_congr {g g' f : Nat → Int64} {m : Nat} (h : ∀ j, j < m → g j = g' j) : rlk m g f = rlk m g' f := by
  funext j
  unfold rlk
  by_cases hj : j < m
  · rw [if_pos hj, if_pos hj, h j hj]
  · rw [if_neg hj, if_neg hj]
theorem rlk_own {f g : Nat → Int64} {m : Nat} (h : ∀ j, j < m → f j = g j) : f = rlk m g f := by
  funext j
  unfold rlk
  by_cases hj : j < m
  · rw [if_pos hj, h j hj]
  · rw [if_neg hj]
theorem small_mul {u : Nat} (h : u ≤ 100) : (nI u * nI u).toInt64 = lN (u * u) := by
  have : u * u ≤ 100 * 100 := Nat.mul_le_mul h h
  rw [pk_mul, nI_l (by omega)]
/-- only the choosers' row has changed, of ints -/
def Fr2 (σ σ' : St) : Prop := ∀ k, k ≠ 22 → σ'.1 k = σ.1 k
theorem Fr2_rf {σ : St} : Fr2 σ σ := fun _ _ => rfl
theorem Fr2_tr {a b c : St} (h : Fr2 a b) (g : Fr2 b c) : Fr2 a c := fun k hk => (g k hk).trans (h k hk)
theorem Fr2_Fr {a b : St} (h : Fr2 a b) : Fr a b := fun k hk => h k (by omega)
theorem Fr2_wB {σ : St} {k : Nat} {f : Nat → Int64} : Fr2 σ (wB σ k f) := fun _ _ => rfl
theorem Fr2_wA {σ : St} {f : Nat → Int32} : Fr2 σ (wA σ 22 f) := fun j hj => wA_1 hj
section M6
variable {n P : Nat} {kc : Nat → Int32} {sy : Nat → Nat → Int32}
theorem oc_le {a b q k c : Nat} : ocN sy a b q k c ≤ k := by
  have := sm_le (n := k) (b := 1) (f := fun p => (!(decide (p = a)) && !(decide (p = b)) && decide (sy p q = nI c)).toNat) (fun k _ => toNat_le1 _)
  unfold ocN
  omega
theorem pa_m {a b q m : Nat} (hP : P ≤ 10) (hm : m ≤ 5) : paN P kc sy a b q m ≤ 55 := by
  have := sm_le (n := m) (b := 11) (f := fun c => if nI (c + 1) = kc q then 0 else 1 + ocN sy a b q P (c + 1)) (fun k _ => by
    have := oc_le (sy := sy) (a := a) (b := b) (q := q) (k := P) (c := k + 1)
    split <;> omega)
  unfold paN
  omega
theorem c_meet {σ : St} (h : CV σ n P kc sy) (hP : P ≤ 10) (hsy : ∀ p q, p < 10 → q < 12 → ∃ v, v ≤ 5 ∧ sy p q = nI v) {a b q met : Nat} (ha : a < 10) (hb : b < 10) (hq : q < 12) (hmet : met ≤ 6) (w : Nat → Nat) (hw : ∀ j, j < 8 → σ.2 23 j = lN (w j)) (hw0 : ∀ j, met < j → w j = 0) :
    ∃ σ', f_X6_meet (nI a) (nI b) (nI q) (nI met) σ = some (lN (aaN P kc sy a b q), σ') ∧ Fr2 σ σ' ∧ ∀ j, j < 8 → σ'.2 23 j = lN (wnx (aaN P kc sy a b q) (sqN P kc sy a b q 5) w j) := by
  unfold f_X6_meet
  rw [c_countCh h hP hsy ha hb hq, Option.bind_some]
  have f1 : Fr2 σ (wA σ 22 (rwk 6 (fun j => nI (ocN sy a b q P j)) (σ.1 22))) := Fr2_wA
  have r1 : ∀ j, j < 6 → (wA σ 22 (rwk 6 (fun j => nI (ocN sy a b q P j)) (σ.1 22))).1 22 j = nI (ocN sy a b q P j) := fun j hj => by rw [wA_s, rwk_lt hj]
  have r2 : (wA σ 22 (rwk 6 (fun j => nI (ocN sy a b q P j)) (σ.1 22))).2 = σ.2 := rfl
  generalize wA σ 22 (rwk 6 (fun j => nI (ocN sy a b q P j)) (σ.1 22)) = s1 at f1 r1 r2
  have v1 := CV_Fr h (Fr2_Fr f1)
  have hS := sq_le (P := P) (kc := kc) (sy := sy) a b q 5
  have hpa := pa_m (P := P) (kc := kc) (sy := sy) (a := a) (b := b) (q := q) hP (Nat.le_refl 5)
  have key1 : ∀ K : Int32 × Int64 → Option (Int64 × St), lp (L_X6_meet_16 (nI q) s1 K) NN (1, 0, 0) = K (nI (paN P kc sy a b q 5), lN (sqN P kc sy a b q 5)) := by
    intro K
    refine lp_count (fun k => (nI (k + 1), nI (paN P kc sy a b q k), lN (sqN P kc sy a b q k))) 5 rfl (by omega) (fun k hk rec => ?_) (fun rec => ?_)
    · have b1 := oc_le (sy := sy) (a := a) (b := b) (q := q) (k := P) (c := k + 1)
      unfold L_X6_meet_16
      simp (disch := omega) only [show (5 : Int32) = nI 5 from rfl, nI_ltI, show ¬ 5 < k + 1 by omega, if_false, inb_t, gd_t, nI_clamp, v1.2.2.1 q hq, r1 (k + 1) (by omega), bv_e, bl_e, nI_1]
      rw [show (1 : Int32) + nI (ocN sy a b q P (k + 1)) = nI (1 + ocN sy a b q P (k + 1)) from nI_add 1 _, small_mul (by omega), lN_add, nI_add]
      rw [show paN P kc sy a b q (k + 1) = paN P kc sy a b q k + (if nI (k + 1) = kc q then 0 else 1 + ocN sy a b q P (k + 1)) from rfl, show sqN P kc sy a b q (k + 1) = sqN P kc sy a b q k + (if nI (k + 1) = kc q then 0 else (1 + ocN sy a b q P (k + 1)) * (1 + ocN sy a b q P (k + 1))) from rfl]
      by_cases e : nI (k + 1) = kc q <;> simp [e]
    · unfold L_X6_meet_16
      simp (disch := omega) only [show (5 : Int32) = nI 5 from rfl, nI_ltI, show 5 < 5 + 1 by omega, if_true]
  simp only [jn_e]
  rw [key1]
  rw [show f_J9_min_7cf53 (nI met) 6 s1 = some (nI met) by
    unfold f_J9_min_7cf53
    simp (disch := omega) only [show (6 : Int32) = nI 6 from rfl, nI_ltI, show ¬ 6 < met by omega, if_false]]
  simp only [Option.bind_some, bl_e, small_mul (show paN P kc sy a b q 5 ≤ 100 by omega)]
  unfold aaN
  generalize hA : paN P kc sy a b q 5 * paN P kc sy a b q 5 = A at hS
  generalize sqN P kc sy a b q 5 = S at hS
  generalize paN P kc sy a b q 5 = pp
  have hz : ∀ j, met + 1 < j → wnx A S w j = w j := fun j hj => by
    unfold wnx
    rw [hw0 j (by omega), hw0 (j - 1) (by omega)]
    simp
  refine ⟨wB s1 23 (rlk 8 (fun j => lN (wnx A S w j)) (s1.2 23)), ?_, Fr2_tr f1 Fr2_wB, fun j hj => by rw [wB_s, rlk_lt hj]⟩
  have e0 : s1 = wB s1 23 (rlk 8 (fun j => lN (w j)) (s1.2 23)) := by
    rw [← rlk_own (fun j hj => by rw [r2]; exact hw j hj), wB_self]
  refine lp_count (fun t => (nI (met + 1 - t) - 1, wB s1 23 (rlk 8 (fun j => lN (if met + 1 - t < j then wnx A S w j else if j = met + 1 - t then w j * (A - S) else w j)) (s1.2 23)))) (met + 1) ?_ (by omega) (fun t ht rec => ?_) (fun rec => ?_)
  · refine Prod.ext (by show nI met = nI (met + 1 - 0) - 1; rw [Nat.sub_zero, nI_pred]) ?_
    show s1 = _
    conv => lhs; rw [e0]
    congr 1
    refine rlk_congr (fun j hj => ?_)
    rw [Nat.sub_zero]
    by_cases h1 : met + 1 < j
    · rw [if_pos h1, hz j h1]
    · rw [if_neg h1]
      by_cases h2 : j = met + 1
      · rw [if_pos h2, hw0 j (by omega)]
        simp
      · rw [if_neg h2]
  · obtain ⟨i, hi⟩ : ∃ i, met + 1 - t = i + 1 := ⟨met - t, by omega⟩
    have hi2 : met + 1 - (t + 1) = i := by omega
    rw [hi, hi2, nI_pred]
    unfold L_X6_meet_88
    have n0 : ¬ nI i < 0 := nI_pos (by omega)
    have e1 : (if i + 1 < i + 1 then wnx A S w (i + 1) else if i + 1 = i + 1 then w (i + 1) * (A - S) else w (i + 1)) = w (i + 1) * (A - S) := by simp
    have e2 : (if i + 1 < i then wnx A S w i else if i = i + 1 then w i * (A - S) else w i) = w i := by
      rw [if_neg (by omega), if_neg (by omega)]
    simp (disch := omega) only [n0, if_false, nI_1, inb_t, gd_t, nI_clamp, bd_e, wB_s, rlk_lt (show i + 1 < 8 by omega), rlk_lt (show i < 8 by omega), wL_wB]
    simp only [Nat.lt_irrefl, if_true, if_false]
    rw [e2, lN_mul, lN_add, updL_g (show i + 1 < 8 by omega)]
    have e3 : rlk 8 (fun j => lN (if j = i + 1 then w (i + 1) * (A - S) + w i * S else if i + 1 < j then wnx A S w j else if j = i + 1 then w j * (A - S) else w j)) (s1.2 23) i = lN (w i) := by
      rw [rlk_lt (by omega)]
      show lN (if i = i + 1 then _ else if i + 1 < i then _ else if i = i + 1 then _ else w i) = _
      rw [if_neg (by omega), if_neg (by omega), if_neg (by omega)]
    rw [e3, lN_sub hS, lN_mul, updL_g (show i < 8 by omega), addm1]
    congr 2
    congr 1
    refine rlk_congr (fun j hj => ?_)
    congr 1
    by_cases h1 : j = i
    · subst h1
      rw [if_pos rfl, if_neg (by omega), if_pos rfl]
    · rw [if_neg h1, if_neg h1]
      by_cases h2 : j = i + 1
      · subst h2
        rw [if_pos rfl, if_pos (by omega)]
        unfold wnx
        rw [if_neg (by omega)]
        rfl
      · rw [if_neg h2, if_neg h2]
        by_cases h3 : i + 1 < j
        · rw [if_pos h3, if_pos (by omega)]
        · rw [if_neg h3, if_neg (by omega)]
  · unfold L_X6_meet_88
    rw [Nat.sub_self]
    have n0 : nI 0 - 1 < 0 := by decide
    simp only [n0, if_true]
    refine congrArg some ?_
    refine Prod.ext (by show lN _ = lN _; rfl) ?_
    show wB _ _ _ = wB _ _ _
    congr 1
    refine rlk_congr (fun j hj => ?_)
    congr 1
    by_cases h1 : 0 < j
    · rw [if_pos h1]
    · have : j = 0 := by omega
      subst this
      rw [if_neg (by omega), if_pos rfl]
      unfold wnx
      simp
end M6
