/-! RIGHTS of some; what the key should have had -/
section M3
variable {σ : St} {n P : Nat} {kc : Nat → Int32} {sy : Nat → Nat → Int32}
def riN (P : Nat) (kc : Nat → Int32) (sy : Nat → Nat → Int32) (q : Nat) (f : Nat → Bool) : Nat := sm P (fun p => (f p && isR kc sy p q).toNat)
def cnN (P : Nat) (f : Nat → Bool) : Nat := sm P (fun p => (f p).toNat)
theorem cnN_le (f : Nat → Bool) : cnN P f ≤ P := by
  have := sm_le (n := P) (b := 1) (f := fun p => (f p).toNat) (fun k _ => toNat_le1 _)
  unfold cnN
  omega
theorem riN_le (q : Nat) (f : Nat → Bool) : riN P kc sy q f ≤ P := by
  have := sm_le (n := P) (b := 1) (f := fun p => (f p && isR kc sy p q).toNat) (fun k _ => toNat_le1 _)
  unfold riN
  omega
theorem c_rightsTo (h : CV σ n P kc sy) (hP : P ≤ 10) {q x : Nat} (hq : q < 12) (hx : x < 2 ^ 31) {f : Nat → Bool} (hf : ∀ p, p < P → bitN x p = f p) : f_X5_rightsTo (nI q) (nI x) σ = some (nI (riN P kc sy q f)) := by
  unfold f_X5_rightsTo riN
  refine lp_count (fun k => (nI k, nI (sm k (fun p => (f p && isR kc sy p q).toNat)))) P rfl (by omega) (fun k hk rec => ?_) (fun rec => ?_)
  · unfold L_X5_rightsTo_5
    simp (disch := omega) only [h.2.1, nI_ltI, hk, if_true, bt_0 hx (show k < 32 by omega), hf k hk, c_isR h (show k < 10 by omega) hq, Option.bind_some, nI_1, sm_s]
    cases f k <;> cases isR kc sy k q <;> simp
  · unfold L_X5_rightsTo_5
    simp (disch := omega) only [h.2.1, nI_ltI, Nat.lt_irrefl, if_false]
theorem nIm1 : ∀ k, k < 12 → ¬ nI k = -1 := by decide +kernel
theorem m_countOf (h : MV σ n P kc sy) (hP : P ≤ 10) {q a : Nat} (hq : q < 12) (ha : a < 2 ^ 31) (b : Bool) : f_X12_countOf (nI a) b (nI q) σ = some (nI (riN P kc sy q (fun p => bitN a p == b))) := by
  unfold f_X12_countOf riN
  refine lp_count (fun k => (nI k, nI (sm k (fun p => ((bitN a p == b) && isR kc sy p q).toNat)))) P rfl (by omega) (fun k hk rec => ?_) (fun rec => ?_)
  · unfold L_X12_countOf_6
    simp (disch := omega) only [h.2.1, nI_ltI, hk, if_true, m_isIn ha (show k < 32 by omega), m_isR h (show k < 10 by omega) hq, Option.bind_some, nI_1, sm_s, bv_e, add0, bI_eq, nIm1 q hq, if_false]
    cases bitN a k <;> cases b <;> cases isR kc sy k q <;> simp
  · unfold L_X12_countOf_6
    simp (disch := omega) only [h.2.1, nI_ltI, Nat.lt_irrefl, if_false]
theorem m_countAll (h : σ.1 0 5 = nI P) (hP : P ≤ 10) {a : Nat} (ha : a < 2 ^ 31) (b : Bool) : f_X12_countOf (nI a) b (-1) σ = some (nI (cnN P (fun p => bitN a p == b))) := by
  unfold f_X12_countOf cnN
  refine lp_count (fun k => (nI k, nI (sm k (fun p => (bitN a p == b).toNat)))) P rfl (by omega) (fun k hk rec => ?_) (fun rec => ?_)
  · unfold L_X12_countOf_6
    simp (disch := omega) only [h, nI_ltI, hk, if_true, m_isIn ha (show k < 32 by omega), Option.bind_some, nI_1, sm_s, bv_e, add0, bI_eq]
    cases bitN a k <;> cases b <;> simp
  · unfold L_X12_countOf_6
    simp (disch := omega) only [h, nI_ltI, Nat.lt_irrefl, if_false]
/-- the best choice, 1 to k looked at: rests, choosers, choice (0: none yet) -/
def bst (n P : Nat) (kc : Nat → Int32) (sy : Nat → Nat → Int32) (q : Nat) : Nat → Nat × Nat × Nat
  | 0 => (0, 0, 0)
  | k + 1 => if 0 < chN P sy q (nI (k + 1)) ∧ ((bst n P kc sy q k).2.2 = 0 ∨ (bst n P kc sy q k).1 * chN P sy q (nI (k + 1)) < reN n P kc sy q (nI (k + 1)) * (bst n P kc sy q k).2.1 ∨ (reN n P kc sy q (nI (k + 1)) * (bst n P kc sy q k).2.1 = (bst n P kc sy q k).1 * chN P sy q (nI (k + 1)) ∧ (bst n P kc sy q k).2.1 < chN P sy q (nI (k + 1)))) then (reN n P kc sy q (nI (k + 1)), chN P sy q (nI (k + 1)), k + 1) else bst n P kc sy q k
def b0I (b : Nat) : Int32 := if b = 0 then -1 else nI b
def shI (n P : Nat) (kc : Nat → Int32) (sy : Nat → Nat → Int32) (q : Nat) : Int32 := b0I (bst n P kc sy q 5).2.2
theorem chN_le (q : Nat) (c : Int32) : chN P sy q c ≤ P := by
  have := sm_le (n := P) (b := 1) (f := fun p => (decide (sy p q = c)).toNat) (fun k _ => toNat_le1 _)
  unfold chN
  omega
theorem reN_le (q : Nat) (c : Int32) : reN n P kc sy q c ≤ P * n := by
  unfold reN
  refine sm_le (fun k _ => ?_)
  by_cases h : sy k q = c
  · rw [if_pos h]; exact mkB_le k _
  · rw [if_neg h]; exact Nat.zero_le _
theorem bst_le (q : Nat) : ∀ k, (bst n P kc sy q k).1 ≤ P * n ∧ (bst n P kc sy q k).2.1 ≤ P ∧ (bst n P kc sy q k).2.2 ≤ k
  | 0 => ⟨Nat.zero_le _, Nat.zero_le _, Nat.le_refl 0⟩
  | k + 1 => by
    have ih := bst_le q k
    rw [bst]
    split
    · exact ⟨reN_le q _, chN_le q _, Nat.le_refl _⟩
    · exact ⟨ih.1, ih.2.1, by omega⟩
theorem b0I_m1 {b : Nat} (h : b < 12) : b0I b = -1 ↔ b = 0 := by
  unfold b0I
  by_cases hb : b = 0
  · simp [hb]
  · rw [if_neg hb]
    exact ⟨fun e => absurd e (nIm1 b h), fun e => absurd e hb⟩
theorem pos_sub {a b : Nat} (ha : a < 2 ^ 30) (hb : b < 2 ^ 30) : (0 < nI a - nI b) ↔ b < a := by
  rw [Int32.lt_iff_toInt_lt, pk_sub_toInt ha hb]
  have : (0 : Int32).toInt = 0 := by decide
  rw [this]
  omega
theorem zer_sub {a b : Nat} (ha : a < 2 ^ 30) (hb : b < 2 ^ 30) : (nI a - nI b = 0) ↔ a = b := by
  rw [← Int32.toInt_inj, pk_sub_toInt ha hb]
  have : (0 : Int32).toInt = 0 := by decide
  rw [this]
  omega
theorem c_best (h : CV σ n P kc sy) (hn : n ≤ 12) (hP : P ≤ 10) {q : Nat} (hq : q < 12) : f_X3_bestChoice (nI q) σ = some (shI n P kc sy q) := by
  unfold f_X3_bestChoice shI
  refine lp_count (fun k => (nI (k + 1), nI (bst n P kc sy q k).1, nI (bst n P kc sy q k).2.1, b0I (bst n P kc sy q k).2.2)) 5 rfl (by omega) (fun k hk rec => ?_) (fun rec => ?_)
  · have l1 := bst_le (n := n) (P := P) (kc := kc) (sy := sy) q k
    have l2 : chN P sy q (nI (k + 1)) ≤ P := chN_le q _
    have l3 : reN n P kc sy q (nI (k + 1)) ≤ P * n := reN_le q _
    have l4 : P * n ≤ 10 * 12 := Nat.mul_le_mul hP hn
    rw [bst]
    generalize hr : reN n P kc sy q (nI (k + 1)) = r at *
    generalize hc : chN P sy q (nI (k + 1)) = c at *
    generalize bst n P kc sy q k = B at *
    obtain ⟨br, bc, b⟩ := B
    simp only at l1 ⊢
    have m1 : r * bc ≤ 120 * 10 := Nat.mul_le_mul (by omega) (by omega)
    have m2 : br * c ≤ 120 * 10 := Nat.mul_le_mul (by omega) (by omega)
    unfold L_X3_bestChoice_10
    have z0 : (0 < nI c) ↔ 0 < c := nI_ltI (a := 0) (by omega) (by omega)
    simp (disch := omega) only [show (5 : Int32) = nI 5 from rfl, nI_ltI, show ¬ 5 < k + 1 by omega, if_false, c_choosers h hP hq, c_rests h hn hP hq, Option.bind_some, hr, hc, bv_e, pk_mul, z0, pos_sub, zer_sub, nI_1]
    by_cases e1 : 0 < c
    · by_cases e2 : b = 0
      · have : b0I b = -1 := (b0I_m1 (by omega)).mpr e2
        simp [e1, e2, this, b0I]
      · have : ¬ b0I b = -1 := fun e => e2 ((b0I_m1 (by omega)).mp e)
        by_cases e3 : br * c < r * bc
        · simp [e1, e2, this, e3, b0I]
        · by_cases e4 : r * bc = br * c
          · by_cases e5 : bc < c
            · simp [e1, e2, this, e4, e5, b0I]
            · simp [e1, e2, this, e4, e5]
          · simp [e1, e2, this, e3, e4]
    · simp [e1]
  · unfold L_X3_bestChoice_10
    simp (disch := omega) only [show (5 : Int32) = nI 5 from rfl, nI_ltI, show 5 < 5 + 1 by omega, if_true]
theorem m_sh_cond {R : Type} {K : Bool → Option R} {c br bc b r : Nat} (hc : c ≤ 10) (hbr : br ≤ 120) (hbc : bc ≤ 10) (hr : r ≤ 120) (hb : b < 12) :
    jn K (fun K5 => (if 0 < nI c then (if b0I b = (-1) then K5 true else (if (nI br * nI c) < (nI r * nI (if b = 0 then 1 else bc)) then K5 true else (if (nI r * nI (if b = 0 then 1 else bc)) = (nI br * nI c) then (if nI (if b = 0 then 1 else bc) < nI c then K5 true else K5 false) else K5 false))) else K5 false)) = K (decide (0 < c ∧ (b = 0 ∨ br * c < r * bc ∨ (r * bc = br * c ∧ bc < c)))) := by
  have m1 : r * bc ≤ 120 * 10 := Nat.mul_le_mul hr hbc
  have m2 : br * c ≤ 120 * 10 := Nat.mul_le_mul hbr hc
  have z0 : (0 < nI c) ↔ 0 < c := nI_ltI (a := 0) (by omega) (by omega)
  simp only [jn_e, z0]
  by_cases e1 : 0 < c
  · by_cases e2 : b = 0
    · have : b0I b = -1 := (b0I_m1 hb).mpr e2
      simp [e1, e2, b0I]
    · have hm : ¬ b0I b = -1 := fun e => e2 ((b0I_m1 hb).mp e)
      simp (disch := omega) only [if_neg e2, pk_mul, nI_ltI, nI_eq]
      by_cases e3 : br * c < r * bc
      · simp [e1, e2, hm, e3]
      · by_cases e4 : r * bc = br * c
        · by_cases e5 : bc < c <;> simp [e1, e2, hm, e4, e5]
        · simp [e1, e2, hm, e3, e4]
  · simp [e1]
theorem m_should (h : MV σ n P kc sy) (hn : n ≤ 12) (hP : P ≤ 10) {q : Nat} (hq : q < 12) : f_X12_shouldNow (nI q) σ = some (shI n P kc sy q) := by
  unfold f_X12_shouldNow shI
  refine lp_count (fun k => (nI (k + 1), nI (if (bst n P kc sy q k).2.2 = 0 then 1 else (bst n P kc sy q k).2.1), nI (bst n P kc sy q k).1, b0I (bst n P kc sy q k).2.2)) 5 rfl (by omega) (fun k hk rec => ?_) (fun rec => ?_)
  · have l1 := bst_le (n := n) (P := P) (kc := kc) (sy := sy) q k
    have l2 : chN P sy q (nI (k + 1)) ≤ P := chN_le q _
    have l3 : reN n P kc sy q (nI (k + 1)) ≤ P * n := reN_le q _
    have l4 : P * n ≤ 10 * 12 := Nat.mul_le_mul hP hn
    rw [bst]
    generalize hr : reN n P kc sy q (nI (k + 1)) = r at *
    generalize hc : chN P sy q (nI (k + 1)) = c at *
    generalize bst n P kc sy q k = B at *
    obtain ⟨br, bc, b⟩ := B
    simp only at l1 ⊢
    have m1 : r * bc ≤ 120 * 10 := Nat.mul_le_mul (by omega) (by omega)
    have m2 : br * c ≤ 120 * 10 := Nat.mul_le_mul (by omega) (by omega)
    unfold L_X12_shouldNow_10
    simp (disch := omega) only [show (6 : Int32) = nI 6 from rfl, nI_ltI, show k + 1 < 6 by omega, if_true, m_choosers h hP hq, m_rests h hn hP hq, Option.bind_some, hr, hc]
    rw [m_sh_cond (by omega) (by omega) (by omega) (by omega) (by omega)]
    simp only [jn_e, nI_1]
    by_cases e : 0 < c ∧ (b = 0 ∨ br * c < r * bc ∨ (r * bc = br * c ∧ bc < c))
    · simp only [e, decide_true, if_true]
      simp [b0I]
    · simp only [e, decide_false, if_false]
      simp
  · unfold L_X12_shouldNow_10
    simp (disch := omega) only [show (6 : Int32) = nI 6 from rfl, nI_ltI, show ¬ 5 + 1 < 6 by omega, if_false]
/-- badly keyed, as bits -/
def baI (n P : Nat) (kc : Nat → Int32) (sy : Nat → Nat → Int32) : Nat → Int32
  | 0 => 0
  | k + 1 => if kc k = 0 ∨ shI n P kc sy k = -1 ∨ shI n P kc sy k = kc k then baI n P kc sy k else baI n P kc sy k ||| (1 <<< (nI k &&& 31))
theorem c_badly (h : CV σ n P kc sy) (hn : n ≤ 12) (hP : P ≤ 10) : f_X11_badly σ = some (baI n P kc sy n) := by
  unfold f_X11_badly
  refine lp_count (fun k => (nI k, baI n P kc sy k)) n rfl (by omega) (fun k hk rec => ?_) (fun rec => ?_)
  · unfold L_X11_badly_4
    simp (disch := omega) only [h.1, nI_ltI, hk, if_true, inb_t, gd_t, nI_clamp, h.2.2.1 k (by omega), jn_e, c_best h hn hP (show k < 12 by omega), Option.bind_some, bv_e, nI_1, baI]
    by_cases e1 : kc k = 0
    · simp [e1]
    · by_cases e2 : shI n P kc sy k = -1
      · simp [e1, e2]
      · by_cases e3 : shI n P kc sy k = kc k <;> simp [e1, e2, e3]
  · unfold L_X11_badly_4
    simp (disch := omega) only [h.1, nI_ltI, Nat.lt_irrefl, if_false]
theorem or0 (x : Int32) : x ||| 0 = x := by simp
theorem m_badly (h : MV σ n P kc sy) (hn : n ≤ 12) (hP : P ≤ 10) : f_X12_badlyNow σ = some (baI n P kc sy n) := by
  unfold f_X12_badlyNow
  refine lp_count (fun k => (nI k, baI n P kc sy k)) n rfl (by omega) (fun k hk rec => ?_) (fun rec => ?_)
  · unfold L_X12_badlyNow_4
    simp (disch := omega) only [h.1, nI_ltI, hk, if_true, inb_t, gd_t, nI_clamp, h.2.2.1 k (by omega), m_should h hn hP (show k < 12 by omega), Option.bind_some, bv_e, nI_1, baI, or0]
    by_cases e1 : kc k = 0
    · simp [e1]
    · by_cases e2 : shI n P kc sy k = -1
      · simp [e1, e2]
      · by_cases e3 : shI n P kc sy k = kc k <;> simp [e1, e2, e3]
  · unfold L_X12_badlyNow_4
    simp (disch := omega) only [h.1, nI_ltI, Nat.lt_irrefl, if_false]
end M3
