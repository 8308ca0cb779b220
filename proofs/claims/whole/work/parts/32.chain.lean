/-! WHO GAVE; the chain -/
def updN (l : Nat → Nat) (b v : Nat) : Nat → Nat := fun j => if j = b then v else l j
def stp (g : Nat → Nat → Bool) (l : Nat → Nat) (a b : Nat) : Nat → Nat := if g a b = true then updN l b (max (l b) (l a + 1)) else l
def lenB (g : Nat → Nat → Bool) (a : Nat) (l : Nat → Nat) : Nat → Nat → Nat
  | 0 => l
  | k + 1 => stp g (lenB g a l k) a k
def lenA (P : Nat) (g : Nat → Nat → Bool) (l : Nat → Nat) : Nat → Nat → Nat
  | 0 => l
  | k + 1 => lenB g k (lenA P g l k) P
def lenR (P : Nat) (g : Nat → Nat → Bool) : Nat → Nat → Nat
  | 0 => fun _ => 1
  | k + 1 => lenA P g (lenR P g k) P
def mxN (l : Nat → Nat) : Nat → Nat
  | 0 => 0
  | k + 1 => max (mxN l k) (l k)
theorem mx_ge {l : Nat → Nat} {P p : Nat} (h : p < P) : l p ≤ mxN l P := by
  induction P with
  | zero => omega
  | succ P ih =>
    rw [mxN]
    by_cases e : p = P
    · subst e; omega
    · have := ih (by omega)
      omega
theorem mx_upd {l : Nat → Nat} {P b v : Nat} (hb : b < P) (hv : l b ≤ v) : mxN (updN l b v) P = max (mxN l P) v := by
  have h0 : ∀ k, k ≤ b → mxN (updN l b v) k = mxN l k := by
    intro k
    induction k with
    | zero => intro _; rfl
    | succ k ih =>
      intro hk
      rw [mxN, mxN, ih (by omega)]
      simp [updN, show k ≠ b by omega]
  have h1 : ∀ k, b < k → mxN (updN l b v) k = max (mxN l k) v := by
    intro k
    induction k with
    | zero => intro h; omega
    | succ k ih =>
      intro hk
      rw [mxN, mxN]
      by_cases e : k = b
      · subst e
        rw [h0 k (Nat.le_refl k)]
        simp only [updN, if_true]
        omega
      · rw [ih (by omega)]
        simp only [updN, e, if_false]
        omega
  exact h1 P hb
theorem mx_le {l : Nat → Nat} {P M : Nat} (h : ∀ p, l p ≤ M) : mxN l P ≤ M := by
  induction P with
  | zero => exact Nat.zero_le _
  | succ P ih => rw [mxN]; have := h P; omega
theorem mx_one (P : Nat) : mxN (fun _ => 1) P = min P 1 := by
  induction P with
  | zero => rfl
  | succ P ih => rw [mxN, ih]; omega
theorem lenB_a {g : Nat → Nat → Bool} {a : Nat} (hg : g a a = false) (l : Nat → Nat) : ∀ k, lenB g a l k a = l a
  | 0 => rfl
  | k + 1 => by
    rw [lenB, stp]
    by_cases e : g a k = true
    · rw [if_pos e]
      have : ¬ a = k := fun z => by subst z; rw [hg] at e; exact absurd e (by decide)
      simp only [updN, this, if_false]
      exact lenB_a hg l k
    · rw [if_neg e]
      exact lenB_a hg l k
theorem lenB_ge {g : Nat → Nat → Bool} {a : Nat} (l : Nat → Nat) : ∀ k p, k ≤ p → lenB g a l k p = l p
  | 0, p, _ => rfl
  | k + 1, p, h => by
    rw [lenB, stp]
    have : ¬ p = k := by omega
    split
    · simp only [updN, this, if_false]
      exact lenB_ge l k p (by omega)
    · exact lenB_ge l k p (by omega)
theorem lenB_le {g : Nat → Nat → Bool} {a : Nat} (hg : g a a = false) {l : Nat → Nat} {M : Nat} (h : ∀ p, l p ≤ M) : ∀ k p, lenB g a l k p ≤ M + 1
  | 0, p => Nat.le_succ_of_le (h p)
  | k + 1, p => by
    rw [lenB, stp]
    split
    · unfold updN
      by_cases e : p = k
      · rw [if_pos e, lenB_ge l k k (Nat.le_refl k), lenB_a hg l k]
        have h1 := h k
        have h2 := h a
        omega
      · rw [if_neg e]
        exact lenB_le hg h k p
    · exact lenB_le hg h k p
theorem lenA_le {P : Nat} {g : Nat → Nat → Bool} (hg : ∀ a, g a a = false) {l : Nat → Nat} {M : Nat} (h : ∀ p, l p ≤ M) : ∀ k p, lenA P g l k p ≤ M + k
  | 0, p => h p
  | k + 1, p => by
    rw [lenA]
    have := lenB_le (l := lenA P g l k) (hg k) (fun p => lenA_le (P := P) hg h k p) P p
    omega
theorem lenR_le {P : Nat} {g : Nat → Nat → Bool} (hg : ∀ a, g a a = false) : ∀ k p, lenR P g k p ≤ 1 + k * P
  | 0, p => by show 1 ≤ _; omega
  | k + 1, p => by
    rw [lenR]
    have := lenA_le (P := P) (l := lenR P g k) hg (fun p => lenR_le (P := P) hg k p) P p
    rw [Nat.succ_mul]
    omega
theorem c_max {a b : Nat} (ha : a < 2 ^ 31) (hb : b < 2 ^ 31) (σ : St) : f_J9_max_7cf53 (nI a) (nI b) σ = some (nI (max a b)) := by
  unfold f_J9_max_7cf53
  simp (disch := omega) only [nI_ltI]
  by_cases h : a < b
  · rw [if_pos h, Nat.max_eq_right (by omega)]
  · rw [if_neg h, Nat.max_eq_left (by omega)]
def gvB (mk rb : Nat → Nat) (a b : Nat) : Bool := decide (mk b < mk a ∨ (mk a = mk b ∧ rb a < rb b))
def gvI (mk rb : Nat → Nat) (a b : Nat) : Int32 := if gvB mk rb a b = true then nI a else if gvB mk rb b a = true then nI b else -1
section M11
variable {n P : Nat} {kc : Nat → Int32} {sy : Nat → Nat → Int32} {rw_ pl : Nat → Nat} {lim : Nat} {rb : Nat → Nat}
def CR (σ : St) (P : Nat) (rb : Nat → Nat) : Prop := ∀ σ', Fr σ σ' → ∀ p, p < P → f_X8_countOf (1 <<< (nI p &&& 31)) 0 σ' = some (nI (rb p))
theorem CR_Fr {σ σ' : St} (h : CR σ P rb) (f : Fr σ σ') : CR σ' P rb := fun s hs => h s (Fr_tr f hs)
def Fr25 (σ σ' : St) : Prop := ∀ k, k ≠ 25 → σ'.1 k = σ.1 k
theorem Fr25_Fr {σ σ' : St} (h : Fr25 σ σ') : Fr σ σ' := fun k hk => h k (by omega)
theorem c_weigh {σ : St} (h : CV σ n P kc sy) (hn : n ≤ 12) (hP : P ≤ 10) (hr : CR σ P rb) : ∃ σ', f_X2_weigh σ = some σ' ∧ Fr25 σ σ' ∧ ∀ p, p < P → σ'.1 25 p = nI (mkB n kc sy p (-1) * 151) - nI (rb p) := by
  unfold f_X2_weigh
  have key : ∃ x : Int32 × St, (x.1 = nI P ∧ Fr25 σ x.2 ∧ ∀ p, p < P → x.2.1 25 p = nI (mkB n kc sy p (-1) * 151) - nI (rb p)) ∧ lp L_X2_weigh_2 NN (0, σ) = some x.2 := by
    refine lp_inv (fun k (x : Int32 × St) => x.1 = nI k ∧ Fr25 σ x.2 ∧ ∀ p, p < k → x.2.1 25 p = nI (mkB n kc sy p (-1) * 151) - nI (rb p)) P (fun x => some x.2) ⟨rfl, fun _ _ => rfl, fun p hp => by omega⟩ (by omega) (fun k x hk hI => ?_) (fun x hI rec => ?_)
    · obtain ⟨x1, x2⟩ := x
      obtain ⟨hx1, hF, hA⟩ := hI
      simp only at hx1 hF hA
      subst hx1
      have hv := CV_Fr h (Fr25_Fr hF)
      refine ⟨(nI (k + 1), wI x2 25 k (nI (mkB n kc sy k (-1) * 151) - nI (rb k))), ⟨rfl, fun j hj => by unfold wI; rw [wA_1 hj]; exact hF j hj, fun p hp => ?_⟩, fun rec => ?_⟩
      · unfold wI
        show (wA x2 25 _).1 25 p = _
        rw [wA_s]
        unfold upd
        by_cases e : p = k
        · subst e; rw [if_pos rfl]
        · rw [if_neg e]; exact hA p (by omega)
      · unfold L_X2_weigh_2
        simp (disch := omega) only [hv.2.1, nI_ltI, hk, if_true, c_markOf hv hn (show k < 10 by omega), hr x2 (Fr25_Fr hF) k hk, Option.bind_some, inb_t, gd_t, nI_clamp, bd_e, show (151 : Int32) = nI 151 from rfl, pk_mul, nI_1]
    · obtain ⟨x1, x2⟩ := x
      obtain ⟨hx1, hF, hA⟩ := hI
      simp only at hx1 hF hA
      subst hx1
      have hv := CV_Fr h (Fr25_Fr hF)
      unfold L_X2_weigh_2
      simp (disch := omega) only [hv.2.1, nI_ltI, Nat.lt_irrefl, if_false]
  obtain ⟨x, ⟨_, hF, hA⟩, e⟩ := key
  exact ⟨x.2, e, hF, hA⟩
theorem c_giver {σ : St} {mk : Nat → Nat} (hmk : ∀ p, mk p ≤ 12) (hrb : ∀ p, rb p ≤ 150) {a b : Nat} (ha : a < 10) (hb : b < 10) (h1 : σ.1 25 a = nI (mk a * 151) - nI (rb a)) (h2 : σ.1 25 b = nI (mk b * 151) - nI (rb b)) : f_X2_giver (nI a) (nI b) σ = some (gvI mk rb a b) := by
  have a1 := hmk a; have a2 := hmk b; have a3 := hrb a; have a4 := hrb b
  have t1 : (nI (mk a * 151) - nI (rb a)).toInt = ((mk a * 151 : Nat) : Int) - rb a := pk_sub_toInt (by omega) (by omega)
  have t2 : (nI (mk b * 151) - nI (rb b)).toInt = ((mk b * 151 : Nat) : Int) - rb b := pk_sub_toInt (by omega) (by omega)
  have q1 : (nI (mk a * 151) - nI (rb a) = nI (mk b * 151) - nI (rb b)) ↔ (mk a = mk b ∧ rb a = rb b) := by
    rw [← Int32.toInt_inj, t1, t2]
    omega
  have q2 : (nI (mk b * 151) - nI (rb b) < nI (mk a * 151) - nI (rb a)) ↔ (mk b < mk a ∨ (mk a = mk b ∧ rb a < rb b)) := by
    rw [Int32.lt_iff_toInt_lt, t1, t2]
    omega
  unfold f_X2_giver gvI gvB
  simp (disch := omega) only [inb_t, gd_t, nI_clamp, h1, h2, q1, q2]
  by_cases e1 : mk a = mk b ∧ rb a = rb b
  · rw [if_pos e1, if_neg (by simp only [decide_eq_true_eq]; omega), if_neg (by simp only [decide_eq_true_eq]; omega)]
  · rw [if_neg e1]
    by_cases e2 : mk b < mk a ∨ (mk a = mk b ∧ rb a < rb b)
    · rw [if_pos e2, if_pos (by simpa only [decide_eq_true_eq] using e2)]
    · rw [if_neg e2, if_neg (by simpa only [decide_eq_true_eq] using e2), if_pos (by simp only [decide_eq_true_eq]; omega)]
theorem m_gave {σ : St} (h : MV σ n P kc sy) (hn : n ≤ 12) (hrb : ∀ p, rb p ≤ 150) {a b : Nat} (ha : a < 10) (hb : b < 10) (h1 : σ.1 11 a = nI (rb a)) (h2 : σ.1 11 b = nI (rb b)) : f_X12_gave (nI a) (nI b) σ = some (gvI (fun p => mkB n kc sy p (-1)) rb a b) := by
  have b1 : mkB n kc sy a (-1) ≤ n := mkB_le _ _
  have b2 : mkB n kc sy b (-1) ≤ n := mkB_le _ _
  have a3 := hrb a; have a4 := hrb b
  unfold f_X12_gave gvI gvB
  simp (disch := omega) only [m_markBut h hn ha, m_markBut h hn hb, Option.bind_some, nI_ltI, inb_t, gd_t, nI_clamp, h1, h2]
  simp only [decide_eq_true_eq]
  generalize mkB n kc sy a (-1) = u at *
  generalize mkB n kc sy b (-1) = v at *
  generalize rb a = r at *
  generalize rb b = t at *
  by_cases e1 : v < u
  · rw [if_pos e1, if_pos (Or.inl e1)]
  · rw [if_neg e1]
    by_cases e2 : u < v
    · rw [if_pos e2, if_neg (by omega), if_pos (Or.inl e2)]
    · rw [if_neg e2]
      by_cases e3 : r < t
      · rw [if_pos e3, if_pos (Or.inr ⟨by omega, e3⟩)]
      · rw [if_neg e3, if_neg (show ¬ (v < u ∨ u = v ∧ r < t) by omega)]
        by_cases e4 : t < r
        · rw [if_pos e4, if_pos (Or.inr ⟨by omega, e4⟩)]
        · rw [if_neg e4, if_neg (show ¬ (u < v ∨ v = u ∧ t < r) by omega)]
theorem gv_self {mk : Nat → Nat} (a : Nat) : gvB mk rb a a = false := by
  unfold gvB
  simp
theorem gvI_a {mk : Nat → Nat} {a b : Nat} (ha : a < 10) (hb : b < 10) (hab : a ≠ b) : (gvI mk rb a b = nI a) ↔ gvB mk rb a b = true := by
  unfold gvI
  by_cases e : gvB mk rb a b = true
  · rw [if_pos e]; exact ⟨fun _ => e, fun _ => rfl⟩
  · rw [if_neg e]
    refine ⟨fun z => ?_, fun z => absurd z e⟩
    by_cases e2 : gvB mk rb b a = true
    · rw [if_pos e2] at z
      exact absurd ((nI_eq (by omega) (by omega)).mp z).symm hab
    · rw [if_neg e2] at z
      exact absurd z.symm (nIm1 a (by omega))
/-- gave, being linked -/
def gB (lk : Nat → Nat → Bool) (mk rb : Nat → Nat) (a b : Nat) : Bool := (!(decide (a = b)) && lk a b) && gvB mk rb a b
theorem gB_self {lk : Nat → Nat → Bool} {mk : Nat → Nat} (a : Nat) : gB lk mk rb a a = false := by unfold gB; simp
theorem rowN_upd {r : Nat → Int32} {l : Nat → Nat} {b v : Nat} (h : ∀ p, p < P → r p = nI (l p)) : ∀ p, p < P → upd r b (nI v) p = nI (updN l b v p) := fun p hp => by
  unfold upd updN
  by_cases e : p = b
  · rw [if_pos e, if_pos e]
  · rw [if_neg e, if_neg e]; exact h p hp
/-- class: one's lengthening -/
theorem c_lengthen {σ : St} (hp : σ.1 2 0 = nI P) (hP : P ≤ 10) {lk : Nat → Nat → Bool} {mk : Nat → Nat} (hmk : ∀ p, mk p ≤ 12) (hrb : ∀ p, rb p ≤ 150) (hL : ∀ i, i < P → ∃ L, L < 1024 ∧ σ.1 24 i = nI L ∧ ∀ j, bitN L j = true ↔ ((j < P ∧ i ≠ j) ∧ lk i j = true)) (hW : ∀ p, p < P → σ.1 25 p = nI (mk p * 151) - nI (rb p)) {a : Nat} (ha : a < P) {l : Nat → Nat} {M : Nat} (hM : ∀ p, l p ≤ M) (hM2 : M < 1000) (hl : ∀ p, p < P → σ.1 26 p = nI (l p)) :
    ∃ v s', f_X2_lengthen (nI a) σ = some (nI v, s') ∧ (∀ k, k ≠ 26 → s'.1 k = σ.1 k) ∧ (∀ p, p < P → s'.1 26 p = nI (lenB (gB lk mk rb) a l P p)) ∧ v ≤ mxN (lenB (gB lk mk rb) a l P) P ∧ max (mxN l P) v = mxN (lenB (gB lk mk rb) a l P) P := by
  have hg : gB lk mk rb a a = false := gB_self a
  obtain ⟨L, hL1, hL2, hL3⟩ := hL a ha
  have la := hM a
  have hub : ∀ k p, lenB (gB lk mk rb) a l k p ≤ M + 1 := lenB_le hg hM
  have key : ∃ x : Int32 × Int32 × St, (x.1 = nI P ∧ (∀ k, k ≠ 26 → x.2.2.1 k = σ.1 k) ∧ (∀ p, p < P → x.2.2.1 26 p = nI (lenB (gB lk mk rb) a l P p)) ∧ ∃ v, x.2.1 = nI v ∧ v ≤ mxN (lenB (gB lk mk rb) a l P) P ∧ max (mxN l P) v = mxN (lenB (gB lk mk rb) a l P) P) ∧ lp (L_X2_lengthen_9 (nI a)) NN (0, nI (l a), σ) = some (x.2.1, x.2.2) := by
    refine lp_inv (fun k (x : Int32 × Int32 × St) => x.1 = nI k ∧ (∀ j, j ≠ 26 → x.2.2.1 j = σ.1 j) ∧ (∀ p, p < P → x.2.2.1 26 p = nI (lenB (gB lk mk rb) a l k p)) ∧ ∃ v, x.2.1 = nI v ∧ v ≤ mxN (lenB (gB lk mk rb) a l k) P ∧ max (mxN l P) v = mxN (lenB (gB lk mk rb) a l k) P) P (fun x => some (x.2.1, x.2.2)) ⟨rfl, fun _ _ => rfl, hl, l a, rfl, mx_ge ha, by show max (mxN l P) (l a) = mxN l P; have := mx_ge (l := l) ha; omega⟩ (by omega) (fun k x hk hI => ?_) (fun x hI rec => ?_)
    · obtain ⟨x1, x2, x3⟩ := x
      obtain ⟨hx1, hF, hA, v, hx2, hv1, hv2⟩ := hI
      simp only at hx1 hF hA hx2
      subst hx1; subst hx2
      have hmx : mxN (lenB (gB lk mk rb) a l k) P ≤ M + 1 := mx_le (hub k)
      by_cases e : gB lk mk rb a k = true
      · have e' : (¬ a = k ∧ lk a k = true) ∧ gvB mk rb a k = true := by
          unfold gB at e
          simpa using e
        have hbit : bitN L k = true := (hL3 k).mpr ⟨⟨hk, e'.1.1⟩, e'.1.2⟩
        have e3 : lenB (gB lk mk rb) a l (k + 1) = updN (lenB (gB lk mk rb) a l k) k (max (lenB (gB lk mk rb) a l k k) (lenB (gB lk mk rb) a l k a + 1)) := by rw [lenB, stp, if_pos e]
        have u1 := hub k k
        have u2 := hub k a
        refine ⟨(nI (k + 1), nI (max v (max (lenB (gB lk mk rb) a l k k) (lenB (gB lk mk rb) a l k a + 1))), wI x3 26 k (nI (max (lenB (gB lk mk rb) a l k k) (lenB (gB lk mk rb) a l k a + 1)))), ⟨rfl, fun j hj => by unfold wI; rw [wA_1 hj]; exact hF j hj, fun p hp => ?_, _, rfl, ?_, ?_⟩, fun rec => ?_⟩
        · unfold wI
          show (wA x3 26 _).1 26 p = _
          rw [wA_s, e3]
          exact rowN_upd hA p hp
        · rw [e3, mx_upd hk (by omega)]
          omega
        · rw [e3, mx_upd hk (by omega)]
          omega
        · unfold L_X2_lengthen_9
          have hne : ¬ bitN L k = false := by rw [hbit]; decide
          simp (disch := omega) only [hF 2 (by omega), hp, nI_ltI, hk, if_true, inb_t, gd_t, nI_clamp, hF 24 (by omega), hL2, bt_0 (show L < 2 ^ 31 by omega) (show k < 32 by omega), hne, if_false]
          rw [c_giver hmk hrb (by omega) (by omega) (by rw [hF 25 (by omega)]; exact hW a ha) (by rw [hF 25 (by omega)]; exact hW k hk), Option.bind_some, if_pos ((gvI_a (by omega) (by omega) e'.1.1).mpr e'.2)]
          simp (disch := omega) only [hA k hk, hA a ha, nI_1, c_max, Option.bind_some, bd_e]
          have e6 : (wI x3 26 k (nI (max (lenB (gB lk mk rb) a l k k) (lenB (gB lk mk rb) a l k a + 1)))).1 26 k = nI (max (lenB (gB lk mk rb) a l k k) (lenB (gB lk mk rb) a l k a + 1)) := by unfold wI; rw [wA_s]; simp [upd]
          rw [e6, c_max (by omega) (by omega), Option.bind_some]
          simp
      · have e3 : lenB (gB lk mk rb) a l (k + 1) = lenB (gB lk mk rb) a l k := by rw [lenB, stp, if_neg e]
        refine ⟨(nI (k + 1), nI v, x3), ⟨rfl, hF, by rw [e3]; exact hA, v, rfl, by rw [e3]; exact hv1, by rw [e3]; exact hv2⟩, fun rec => ?_⟩
        unfold L_X2_lengthen_9
        simp (disch := omega) only [hF 2 (by omega), hp, nI_ltI, hk, if_true, inb_t, gd_t, nI_clamp, hF 24 (by omega), hL2, bt_0 (show L < 2 ^ 31 by omega) (show k < 32 by omega), nI_1]
        by_cases eb : bitN L k = false
        · rw [if_pos eb]
        · have eb' : bitN L k = true := by
            cases z : bitN L k
            · exact absurd z eb
            · rfl
          obtain ⟨⟨_, q2⟩, q3⟩ := (hL3 k).mp eb'
          have hng : ¬ gvI mk rb a k = nI a := fun z => by
            have := (gvI_a (by omega) (by omega) q2).mp z
            apply e
            unfold gB
            simp [q2, q3, this]
          rw [if_neg eb, c_giver hmk hrb (by omega) (by omega) (by rw [hF 25 (by omega)]; exact hW a ha) (by rw [hF 25 (by omega)]; exact hW k hk), Option.bind_some, if_neg hng]
    · obtain ⟨x1, x2, x3⟩ := x
      obtain ⟨hx1, hF, hA, v, hx2, hv1, hv2⟩ := hI
      simp only at hx1 hF hA hx2
      subst hx1
      unfold L_X2_lengthen_9
      simp (disch := omega) only [hF 2 (by omega), hp, nI_ltI, Nat.lt_irrefl, if_false]
  obtain ⟨⟨x1, x2, x3⟩, ⟨_, hF, hA, v, hx2, hv1, hv2⟩, e⟩ := key
  simp only at hF hA hx2 hv1 hv2 e
  refine ⟨v, x3, ?_, hF, hA, hv1, hv2⟩
  unfold f_X2_lengthen
  simp (disch := omega) only [inb_t, gd_t, nI_clamp, bv_e, hl a ha]
  rw [← hx2]
  exact e
theorem c_min1 (hP : P ≤ 10) (σ : St) : f_J9_min_7cf53 (nI P) 1 σ = some (nI (min P 1)) := by
  unfold f_J9_min_7cf53
  simp (disch := omega) only [show (1 : Int32) = nI 1 from rfl, nI_ltI]
  by_cases h : 1 < P
  · rw [if_pos h, Nat.min_eq_right (by omega)]
  · rw [if_neg h, Nat.min_eq_left (by omega)]
theorem c_longest {σ : St} (hp : σ.1 2 0 = nI P) (hP : P ≤ 10) {lk : Nat → Nat → Bool} {mk : Nat → Nat} (hmk : ∀ p, mk p ≤ 12) (hrb : ∀ p, rb p ≤ 150) (hL : ∀ i, i < P → ∃ L, L < 1024 ∧ σ.1 24 i = nI L ∧ ∀ j, bitN L j = true ↔ ((j < P ∧ i ≠ j) ∧ lk i j = true)) (hW : ∀ p, p < P → σ.1 25 p = nI (mk p * 151) - nI (rb p)) :
    ∃ s', f_X2_longestChain σ = some (nI (mxN (lenR P (gB lk mk rb) P) P), s') ∧ ∀ k, k ≠ 26 → s'.1 k = σ.1 k := by
  have hg : ∀ a, gB lk mk rb a a = false := fun a => gB_self a
  unfold f_X2_longestChain
  rw [c_fill (by omega), Option.bind_some]
  have f1 : ∀ k, k ≠ 26 → (wA σ 26 (rwk 10 (fun _ => 1) (σ.1 26))).1 k = σ.1 k := fun k hk => wA_1 hk
  have r1 : ∀ p, p < P → (wA σ 26 (rwk 10 (fun _ => 1) (σ.1 26))).1 26 p = nI (lenR P (gB lk mk rb) 0 p) := fun p hp => by rw [wA_s, rwk_lt (by omega)]; rfl
  generalize wA σ 26 (rwk 10 (fun _ => 1) (σ.1 26)) = s1 at f1 r1
  rw [f1 2 (by omega), hp, c_min1 hP, Option.bind_some]
  have inner : ∀ (r : Nat) (x4 : Int32 × Int32 × St), r < P → x4.1 = nI r → ∀ s : St, (∀ k, k ≠ 26 → s.1 k = σ.1 k) → (∀ p, p < P → s.1 26 p = nI (lenR P (gB lk mk rb) r p)) → ∃ s', ((∀ k, k ≠ 26 → s'.1 k = σ.1 k) ∧ (∀ p, p < P → s'.1 26 p = nI (lenR P (gB lk mk rb) (r + 1) p))) ∧ ∀ K : Int32 × Int32 × St → Option (Int32 × St), lp (L_X2_longestChain_35 K x4) NN (0, nI (mxN (lenR P (gB lk mk rb) r) P), s) = K (nI (r + 1), nI (mxN (lenR P (gB lk mk rb) (r + 1)) P), s') := by
    intro r x4 hr hx4 s hF hA
    have hl1 : ∀ p, lenR P (gB lk mk rb) r p ≤ 1 + r * P := lenR_le hg r
    have hrP : r * P ≤ 10 * 10 := Nat.mul_le_mul (by omega) hP
    have key := lp_invK (F := fun K => L_X2_longestChain_35 K x4) (fun k (x : Int32 × Int32 × St) => x.1 = nI k ∧ x.2.1 = nI (mxN (lenA P (gB lk mk rb) (lenR P (gB lk mk rb) r) k) P) ∧ (∀ j, j ≠ 26 → x.2.2.1 j = σ.1 j) ∧ ∀ p, p < P → x.2.2.1 26 p = nI (lenA P (gB lk mk rb) (lenR P (gB lk mk rb) r) k p)) P (fun x => (nI (r + 1), x.2.1, x.2.2)) (x0 := (0, nI (mxN (lenR P (gB lk mk rb) r) P), s)) ⟨rfl, rfl, hF, hA⟩ (by omega)
      (by
        intro k x hk hI
        obtain ⟨x1, x2, x3⟩ := x
        obtain ⟨hx1, hx2, hF, hA⟩ := hI
        simp only at hx1 hx2 hF hA
        subst hx1; subst hx2
        have hl2 : ∀ p, lenA P (gB lk mk rb) (lenR P (gB lk mk rb) r) k p ≤ (1 + r * P) + k := lenA_le hg hl1 k
        obtain ⟨v, s', q1, q2, q3, q4, q5⟩ := c_lengthen (σ := x3) (lk := lk) (by rw [hF 2 (by omega)]; exact hp) hP hmk hrb (by intro i hi; rw [hF 24 (by omega)]; exact hL i hi) (by intro p hp; rw [hF 25 (by omega)]; exact hW p hp) hk hl2 (by omega) hA
        have hmx : mxN (lenB (gB lk mk rb) k (lenA P (gB lk mk rb) (lenR P (gB lk mk rb) r) k) P) P ≤ (1 + r * P) + k + 1 := mx_le (lenB_le (hg k) hl2 P)
        have hmx2 : mxN (lenA P (gB lk mk rb) (lenR P (gB lk mk rb) r) k) P ≤ (1 + r * P) + k := mx_le hl2
        refine ⟨(nI (k + 1), nI (mxN (lenA P (gB lk mk rb) (lenR P (gB lk mk rb) r) (k + 1)) P), s'), ⟨rfl, rfl, fun j hj => (q2 j hj).trans (hF j hj), q3⟩, fun K rec => ?_⟩
        show L_X2_longestChain_35 K x4 rec _ = _
        unfold L_X2_longestChain_35
        simp (disch := omega) only [hF 2 (by omega), hp, nI_ltI, hk, if_true, q1, Option.bind_some, nI_1]
        rw [c_max (by omega) (by omega), q5, Option.bind_some, lenA])
      (by
        intro x hI K rec
        obtain ⟨x1, x2, x3⟩ := x
        obtain ⟨hx1, hx2, hF, hA⟩ := hI
        simp only at hx1 hx2 hF hA
        subst hx1
        show L_X2_longestChain_35 K x4 rec _ = _
        unfold L_X2_longestChain_35
        simp (disch := omega) only [hF 2 (by omega), hp, nI_ltI, Nat.lt_irrefl, if_false, hx4, nI_1])
    obtain ⟨⟨x1, x2, x3⟩, ⟨_, hx2, hF, hA⟩, e⟩ := key
    simp only at hx2 hF hA e
    refine ⟨x3, ⟨hF, hA⟩, fun K => ?_⟩
    rw [e K, hx2]
    rfl
  have outer : ∃ x : Int32 × Int32 × St, (x.1 = nI P ∧ x.2.1 = nI (mxN (lenR P (gB lk mk rb) P) P) ∧ (∀ j, j ≠ 26 → x.2.2.1 j = σ.1 j) ∧ ∀ p, p < P → x.2.2.1 26 p = nI (lenR P (gB lk mk rb) P p)) ∧ lp L_X2_longestChain_22 NN (0, nI (min P 1), s1) = some (x.2.1, x.2.2) := by
    refine lp_inv (fun k (x : Int32 × Int32 × St) => x.1 = nI k ∧ x.2.1 = nI (mxN (lenR P (gB lk mk rb) k) P) ∧ (∀ j, j ≠ 26 → x.2.2.1 j = σ.1 j) ∧ ∀ p, p < P → x.2.2.1 26 p = nI (lenR P (gB lk mk rb) k p)) P (fun x => some (x.2.1, x.2.2)) ⟨rfl, by show nI (min P 1) = nI (mxN (fun _ => 1) P); rw [mx_one], f1, r1⟩ (by omega) (fun k x hk hI => ?_) (fun x hI rec => ?_)
    · obtain ⟨x1, x2, x3⟩ := x
      obtain ⟨hx1, hx2, hF, hA⟩ := hI
      simp only at hx1 hx2 hF hA
      subst hx1; subst hx2
      obtain ⟨s', ⟨q1, q2⟩, q3⟩ := inner k (nI k, nI (mxN (lenR P (gB lk mk rb) k) P), x3) hk rfl x3 hF hA
      refine ⟨(nI (k + 1), nI (mxN (lenR P (gB lk mk rb) (k + 1)) P), s'), ⟨rfl, rfl, q1, q2⟩, fun rec => ?_⟩
      unfold L_X2_longestChain_22
      simp (disch := omega) only [hF 2 (by omega), hp, nI_ltI, hk, if_true, q3]
    · obtain ⟨x1, x2, x3⟩ := x
      obtain ⟨hx1, hx2, hF, hA⟩ := hI
      simp only at hx1 hx2 hF hA
      subst hx1
      unfold L_X2_longestChain_22
      simp (disch := omega) only [hF 2 (by omega), hp, nI_ltI, Nat.lt_irrefl, if_false]
  obtain ⟨⟨x1, x2, x3⟩, ⟨_, hx2, hF, hA⟩, e⟩ := outer
  simp only at hx2 hF hA e
  exact ⟨x3, by rw [e, hx2], hF⟩
theorem c_chain {σ : St} (h : CW σ n P kc sy rw_ pl lim) (d : DB n P kc sy rw_ pl lim) (hr : CR σ P rb) (hrb : ∀ p, rb p ≤ 150) : ∃ σ', f_X11_chain σ = some (nI (mxN (lenR P (gB (lkB n P kc sy rw_ pl lim) (fun p => mkB n kc sy p (-1)) rb) P) P), σ') ∧ Fr σ σ' := by
  obtain ⟨s1, e1, F1, hL⟩ := c_link h d
  have w1 := CW_Fr h F1
  obtain ⟨s2, e2, F2, hW⟩ := c_weigh w1.1 d.1 d.2.1 (CR_Fr hr F1)
  have w2 := CW_Fr w1 (Fr25_Fr F2)
  obtain ⟨s3, e3, F3⟩ := c_longest (σ := s2) (lk := lkB n P kc sy rw_ pl lim) (mk := fun p => mkB n kc sy p (-1)) (rb := rb) w2.1.2.1 d.2.1 (fun p => Nat.le_trans (mkB_le _ _) d.1) hrb (by intro i hi; rw [F2 24 (by omega)]; exact hL i hi) hW
  unfold f_X11_chain
  rw [e1, Option.bind_some, e2, Option.bind_some, e3, Option.bind_some]
  exact ⟨s3, rfl, Fr_tr F1 (Fr_tr (Fr25_Fr F2) (fun k hk => F3 k (by omega)))⟩
end M11
