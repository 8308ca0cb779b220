/-! SOURCES -/
def alB (n : Nat) (f : Nat → Bool) : Bool := match n with
  | 0 => true
  | n + 1 => alB n f && f n
theorem alB_iff {n : Nat} {f : Nat → Bool} : alB n f = true ↔ ∀ k, k < n → f k = true := by
  induction n with
  | zero => exact ⟨fun _ k hk => by omega, fun _ => rfl⟩
  | succ n ih =>
    rw [alB, Bool.and_eq_true, ih]
    constructor
    · rintro ⟨h1, h2⟩ k hk
      by_cases e : k = n
      · subst e; exact h2
      · exact h1 k (by omega)
    · intro h
      exact ⟨fun k hk => h k (by omega), h n (by omega)⟩
theorem lp_allN {X R : Type} {F : (X → Option R) → X → Option R} (x : Nat → X) {n : Nat} (f : Nat → Bool) {rt rf : Option R} (step : ∀ k, k < n → ∀ rec : X → Option R, F rec (x k) = if f k = true then rec (x (k + 1)) else rf) (exit : ∀ rec : X → Option R, F rec (x n) = rt) : ∀ (m k N : Nat), k + m = n → m < N → ((∀ j, k ≤ j → j < n → f j = true) → lp F N (x k) = rt) ∧ (¬ (∀ j, k ≤ j → j < n → f j = true) → lp F N (x k) = rf) := by
  intro m
  induction m with
  | zero =>
    intro k N hk hN
    obtain ⟨N, rfl⟩ : ∃ z, N = z + 1 := ⟨N - 1, by omega⟩
    have : k = n := by omega
    subst this
    exact ⟨fun _ => exit _, fun h => absurd (fun j h1 h2 => by omega) h⟩
  | succ m ih =>
    intro k N hk hN
    obtain ⟨N, rfl⟩ : ∃ z, N = z + 1 := ⟨N - 1, by omega⟩
    obtain ⟨i1, i2⟩ := ih (k + 1) N (by omega) (by omega)
    have e0 : lp F (N + 1) (x k) = F (lp F N) (x k) := rfl
    rw [e0, step k (by omega)]
    by_cases e : f k = true
    · rw [if_pos e]
      refine ⟨fun h => i1 (fun j h1 h2 => h j (by omega) h2), fun h => i2 (fun g => h (fun j h1 h2 => ?_))⟩
      by_cases ej : j = k
      · subst ej; exact e
      · exact g j (by omega) h2
    · rw [if_neg e]
      exact ⟨fun h => absurd (h k (Nat.le_refl k) (by omega)) e, fun _ => rfl⟩
theorem lp_all {X R : Type} {F : (X → Option R) → X → Option R} (x : Nat → X) (n : Nat) (f : Nat → Bool) {x0 : X} {rt rf : Option R} (h0 : x0 = x 0) (hn : n < 10000) (step : ∀ k, k < n → ∀ rec : X → Option R, F rec (x k) = if f k = true then rec (x (k + 1)) else rf) (exit : ∀ rec : X → Option R, F rec (x n) = rt) : lp F NN x0 = if alB n f = true then rt else rf := by
  subst h0
  obtain ⟨i1, i2⟩ := lp_allN x f step exit n 0 NN (by omega) (by rw [NN_eq]; exact hn)
  by_cases h : alB n f = true
  · rw [if_pos h]
    exact i1 (fun j _ hj => alB_iff.mp h j hj)
  · rw [if_neg h]
    exact i2 (fun g => h (alB_iff.mpr (fun k hk => g k (Nat.zero_le k) hk)))
theorem lp_stopN {X R : Type} {F : (X → Option R) → X → Option R} (x : Nat → X) {n : Nat} (c : Nat → Prop) {r : Option R} (step : ∀ k, k < n → c k → ∀ rec : X → Option R, F rec (x k) = rec (x (k + 1))) (stop : ∀ k, k < n → ¬ c k → ∀ rec : X → Option R, F rec (x k) = r) (exit : ∀ rec : X → Option R, F rec (x n) = r) : ∀ (m k N : Nat), k + m = n → m < N → lp F N (x k) = r := by
  intro m
  induction m with
  | zero =>
    intro k N hk hN
    obtain ⟨N, rfl⟩ : ∃ z, N = z + 1 := ⟨N - 1, by omega⟩
    have : k = n := by omega
    subst this
    exact exit _
  | succ m ih =>
    intro k N hk hN
    obtain ⟨N, rfl⟩ : ∃ z, N = z + 1 := ⟨N - 1, by omega⟩
    have e0 : lp F (N + 1) (x k) = F (lp F N) (x k) := rfl
    rw [e0]
    by_cases e : c k
    · rw [step k (by omega) e]
      exact ih (k + 1) N (by omega) (by omega)
    · exact stop k (by omega) e _
/-- a loop that may stop on its way, always with r -/
theorem lp_stop {X R : Type} {F : (X → Option R) → X → Option R} (x : Nat → X) (n : Nat) (c : Nat → Prop) {x0 : X} {r : Option R} (h0 : x0 = x 0) (hn : n < 10000) (step : ∀ k, k < n → c k → ∀ rec : X → Option R, F rec (x k) = rec (x (k + 1))) (stop : ∀ k, k < n → ¬ c k → ∀ rec : X → Option R, F rec (x k) = r) (exit : ∀ rec : X → Option R, F rec (x n) = r) : lp F NN x0 = r := by
  subst h0
  exact lp_stopN x c step stop exit n 0 NN (by omega) (by rw [NN_eq]; exact hn)
theorem sub_bits {L x : Nat} (hL : L < 1024) (hx : x < 1024) : (nI L &&& (nI x ^^^ (-1)) = 0) ↔ ∀ j, bitN L j = true → bitN x j = true := by
  have e1 : ∀ m : Nat, (nI m).toBitVec = BitVec.ofNat 32 m := fun m => rfl
  have e2 : (-1 : Int32).toBitVec = BitVec.allOnes 32 := by decide
  have hbig : ∀ m, m < 1024 → ∀ j, 32 ≤ j → m.testBit j = false := fun m hm j hj => Nat.testBit_lt_two_pow (Nat.lt_of_lt_of_le hm (Nat.le_trans (show 1024 ≤ 2 ^ 32 by decide) (Nat.pow_le_pow_right (by omega) hj)))
  rw [← Int32.toBitVec_inj, Int32.toBitVec_and, Int32.toBitVec_xor, e1, e1, e2]
  constructor
  · intro h j hj
    rw [bit_tb] at hj ⊢
    by_cases hj2 : j < 32
    · have h2 := congrArg (fun z => BitVec.getLsbD z j) h
      simp only [BitVec.getLsbD_and, BitVec.getLsbD_xor, BitVec.getLsbD_ofNat, BitVec.getLsbD_allOnes, hj2, decide_true, Bool.true_and, hj] at h2
      have h3 : (0 : Int32).toBitVec.getLsbD j = false := by
        show (BitVec.ofNat 32 0).getLsbD j = false
        simp
      rw [h3] at h2
      cases z : x.testBit j
      · rw [z] at h2; exact absurd h2 (by decide)
      · rfl
    · rw [hbig L hL j (by omega)] at hj
      exact absurd hj (by decide)
  · intro h
    apply BitVec.eq_of_getLsbD_eq
    intro j hj
    simp only [BitVec.getLsbD_and, BitVec.getLsbD_xor, BitVec.getLsbD_ofNat, BitVec.getLsbD_allOnes, hj, decide_true, Bool.true_and]
    have h3 : (0 : Int32).toBitVec.getLsbD j = false := by
      show (BitVec.ofNat 32 0).getLsbD j = false
      simp
    rw [h3]
    have := h j
    rw [bit_tb, bit_tb] at this
    cases z : L.testBit j
    · rfl
    · rw [this z]; rfl
/-- whether some cover all links -/
def cvB (P : Nat) (lk : Nat → Nat → Bool) (x : Nat) : Bool := alB P (fun p => bitN x p || alB P (fun j => decide (p = j) || (!(lk p j) || bitN x j)))
def popN (x : Nat) : Nat := sm 10 (fun p => (bitN x p).toNat)
def bsN (P : Nat) (lk : Nat → Nat → Bool) : Nat → Nat
  | 0 => 2 ^ P - 1
  | k + 1 => if popN k < popN (bsN P lk k) ∧ cvB P lk k = true then k else bsN P lk k
theorem bs_lt {P : Nat} {lk : Nat → Nat → Bool} (hP : P ≤ 10) : ∀ k, k ≤ 2 ^ P → bsN P lk k < 1024
  | 0, _ => by
    have := p2le P (by omega)
    show 2 ^ P - 1 < 1024
    omega
  | k + 1, hk => by
    have h1 := p2le P (by omega)
    rw [bsN]
    split
    · omega
    · exact bs_lt hP k (by omega)
theorem pop_le (x : Nat) : popN x ≤ 10 := by
  have := sm_le (n := 10) (b := 1) (f := fun p => (bitN x p).toNat) (fun k _ => toNat_le1 _)
  unfold popN
  omega
theorem c_pop {x : Nat} (hx : x < 1024) (σ : St) : f_J6_bitCount_0f7a4 (nI x) σ = some (nI (popN x)) := by rw [f_bc, bc_ok x hx]; rfl
theorem m_ones {x : Nat} (hx : x < 1024) (σ : St) : f_X12_ones (nI x) σ = some (nI (popN x)) := by
  have h12 : sm 12 (fun p => (bitN x p).toNat) = popN x := sm_cut (by omega) (fun k h1 h2 => by
    rw [bit_tb, Nat.testBit_lt_two_pow (Nat.lt_of_lt_of_le hx (Nat.le_trans (show 1024 ≤ 2 ^ 10 by decide) (Nat.pow_le_pow_right (by omega) h1)))]
    rfl)
  rw [← h12]
  unfold f_X12_ones
  refine lp_count (fun k => (nI k, nI (sm k (fun p => (bitN x p).toNat)))) 12 rfl (by omega) (fun k hk rec => ?_) (fun rec => ?_)
  · unfold L_X12_ones_4
    simp (disch := omega) only [show (12 : Int32) = nI 12 from rfl, nI_ltI, hk, if_true, bt_nI (show x < 2 ^ 31 by omega) (show k < 32 by omega), bv_e, nI_add, nI_1, sm_s]
    have e : x / 2 ^ k % 2 = (bitN x k).toNat := by
      unfold bitN
      rcases Nat.mod_two_eq_zero_or_one (x / 2 ^ k) with h | h <;> simp [h]
    rw [e]
  · unfold L_X12_ones_4
    simp (disch := omega) only [show (12 : Int32) = nI 12 from rfl, nI_ltI, Nat.lt_irrefl, if_false]
theorem pop_all : ∀ P, P < 11 → ∀ k, k < 2 ^ P - 1 → popN k < popN (2 ^ P - 1) := by decide +kernel
section M10
variable {n P : Nat} {kc : Nat → Int32} {sy : Nat → Nat → Int32} {rw_ pl : Nat → Nat} {lim : Nat}
theorem c_covers {σ : St} (hp : σ.1 2 0 = nI P) (hP : P ≤ 10) {lk : Nat → Nat → Bool} (hL : ∀ i, i < P → ∃ L, L < 1024 ∧ σ.1 24 i = nI L ∧ ∀ j, bitN L j = true ↔ ((j < P ∧ i ≠ j) ∧ lk i j = true)) {x : Nat} (hx : x < 1024) : f_X2_covers (nI x) σ = some (cvB P lk x) := by
  unfold f_X2_covers cvB
  rw [lp_all (x0 := (0 : Int32)) (fun k => nI k) P (fun p => bitN x p || alB P (fun j => decide (p = j) || (!(lk p j) || bitN x j))) (rt := some true) (rf := some false) rfl (by omega) (fun k hk rec => ?_) (fun rec => ?_)]
  · cases alB P (fun p => bitN x p || alB P (fun j => decide (p = j) || (!(lk p j) || bitN x j))) <;> rfl
  · obtain ⟨L, h1, h2, h3⟩ := hL k hk
    unfold L_X2_covers_2
    simp (disch := omega) only [hp, nI_ltI, hk, if_true, bt_0 (show x < 2 ^ 31 by omega) (show k < 32 by omega), inb_t, gd_t, nI_clamp, h2, nI_1]
    cases z : bitN x k
    · simp only [if_true, Bool.false_or]
      by_cases c : ∀ j, bitN L j = true → bitN x j = true
      · rw [if_pos ((sub_bits h1 hx).mpr c), if_pos]
        rw [alB_iff]
        intro j hj
        by_cases e : k = j
        · simp [e]
        · cases zl : lk k j
          · simp
          · have := c j ((h3 j).mpr ⟨⟨hj, e⟩, zl⟩)
            simp [this]
      · rw [if_neg (fun z => c ((sub_bits h1 hx).mp z)), if_neg]
        intro g
        apply c
        intro j hj
        obtain ⟨⟨q1, q2⟩, q3⟩ := (h3 j).mp hj
        have := alB_iff.mp g j q1
        simpa [q2, q3] using this
    · simp
  · unfold L_X2_covers_2
    simp (disch := omega) only [hp, nI_ltI, Nat.lt_irrefl, if_false]
theorem c_fewest {σ : St} (hp : σ.1 2 0 = nI P) (hP : P ≤ 10) {lk : Nat → Nat → Bool} (hL : ∀ i, i < P → ∃ L, L < 1024 ∧ σ.1 24 i = nI L ∧ ∀ j, bitN L j = true ↔ ((j < P ∧ i ≠ j) ∧ lk i j = true)) : f_X2_fewest σ = some (nI (bsN P lk (2 ^ P))) := by
  have h2 := p2le P (by omega)
  have h3 := p2pos P
  unfold f_X2_fewest
  rw [c_allBits hp hP, Option.bind_some]
  refine lp_count (fun k => (nI k, nI (bsN P lk k))) (2 ^ P) rfl (by omega) (fun k hk rec => ?_) (fun rec => ?_)
  · have hb := bs_lt (lk := lk) hP k (by omega)
    have q1 := pop_le k
    have q2 := pop_le (bsN P lk k)
    unfold L_X2_fewest_10
    simp (disch := omega) only [c_allBits hp hP, Option.bind_some, nI_ltI, show ¬ 2 ^ P - 1 < k by omega, if_false, c_pop (show k < 1024 by omega), c_pop hb, c_covers hp hP hL (show k < 1024 by omega), nI_1, bsN]
    by_cases e1 : popN k < popN (bsN P lk k)
    · cases z : cvB P lk k <;> simp [e1]
    · simp [e1]
  · unfold L_X2_fewest_10
    simp (disch := omega) only [c_allBits hp hP, Option.bind_some, nI_ltI, show 2 ^ P - 1 < 2 ^ P by omega, if_true]
theorem m_pairs {σ : St} (h : MW σ n P kc sy rw_ pl lim) (d : DB n P kc sy rw_ pl lim) : ∃ σ', f_X12_laysPairs σ = some σ' ∧ FrL σ σ' ∧ ∀ i, i < P → ∀ j, j < i → σ'.1 17 (10 * i + j) = bI (lkB n P kc sy rw_ pl lim i j) := by
  have hP := d.2.1
  have inner : ∀ (a : Nat) (x2 : Int32 × St), a < P → x2.1 = nI a → ∀ (s : St), FrL σ s → (∀ i, i < a → ∀ j, j < i → s.1 17 (10 * i + j) = bI (lkB n P kc sy rw_ pl lim i j)) → ∃ s', (FrL σ s' ∧ ∀ i, i < a + 1 → ∀ j, j < i → s'.1 17 (10 * i + j) = bI (lkB n P kc sy rw_ pl lim i j)) ∧ ∀ K : Int32 × St → Option St, lp (L_X12_laysPairs_12 K x2) NN (0, s) = K (nI (a + 1), s') := by
    intro a x2 ha hx2 s hF hI
    have key := lp_invK (F := fun K => L_X12_laysPairs_12 K x2) (fun k (x : Int32 × St) => x.1 = nI k ∧ FrL σ x.2 ∧ (∀ i, i < a → ∀ j, j < i → x.2.1 17 (10 * i + j) = bI (lkB n P kc sy rw_ pl lim i j)) ∧ ∀ j, j < k → x.2.1 17 (10 * a + j) = bI (lkB n P kc sy rw_ pl lim a j)) a (fun x => (nI (a + 1), x.2)) (x0 := (0, s)) ⟨rfl, hF, hI, fun j hj => by omega⟩ (by omega)
      (by
        intro k x hk hI
        obtain ⟨x1, s1⟩ := x
        obtain ⟨hx1, hF, hA, hB⟩ := hI
        simp only at hx1 hF hA hB
        subst hx1
        have hw := MW_Fr h hF
        have fin : ∀ s2 : St, s2.1 = s1.1 → (FrL σ (wI s2 17 (10 * a + k) (bI (lkB n P kc sy rw_ pl lim a k))) ∧ (∀ i, i < a → ∀ j, j < i → (wI s2 17 (10 * a + k) (bI (lkB n P kc sy rw_ pl lim a k))).1 17 (10 * i + j) = bI (lkB n P kc sy rw_ pl lim i j)) ∧ ∀ j, j < k + 1 → (wI s2 17 (10 * a + k) (bI (lkB n P kc sy rw_ pl lim a k))).1 17 (10 * a + j) = bI (lkB n P kc sy rw_ pl lim a j)) := by
          intro s2 e2
          refine ⟨FrL_tr hF (FrL_tr (fun j _ => by rw [e2]) (FrL_wI (by omega))), fun i hi j hj => ?_, fun j hj => ?_⟩
          · unfold wI
            rw [wA_s]
            unfold upd
            rw [if_neg (by omega), e2]
            exact hA i hi j hj
          · unfold wI
            rw [wA_s]
            unfold upd
            by_cases e : j = k
            · subst e; rw [if_pos rfl]
            · rw [if_neg (by omega), e2]
              exact hB j (by omega)
        have ix : (10 : Int32) * nI a + nI k = nI (10 * a + k) := by rw [show (10 : Int32) = nI 10 from rfl, pk_mul, nI_add]
        by_cases e1 : nrB rw_ pl a k = true
        · obtain ⟨s2, q1, q2⟩ := mw_odd hw d ha (show k < P by omega) (by omega)
          refine ⟨(nI (k + 1), wI s2 17 (10 * a + k) (bI (lkB n P kc sy rw_ pl lim a k))), ⟨rfl, fin s2 q2⟩, fun K rec => ?_⟩
          show L_X12_laysPairs_12 K x2 rec _ = _
          unfold L_X12_laysPairs_12
          have e5 : lkB n P kc sy rw_ pl lim a k = odB n P kc sy lim a k := by unfold lkB; rw [e1]; rfl
          simp (disch := omega) only [hx2, nI_ltI, hk, if_true, mw_near hw d ha (show k < P by omega), e1, Option.bind_some, q1, jn_e, ix, inb_t, gd_t, nI_clamp, bd_e, nI_1, e5]
          cases odB n P kc sy lim a k <;> rfl
        · have e1' : nrB rw_ pl a k = false := by
            cases z : nrB rw_ pl a k
            · rfl
            · exact absurd z e1
          refine ⟨(nI (k + 1), wI s1 17 (10 * a + k) (bI (lkB n P kc sy rw_ pl lim a k))), ⟨rfl, fin s1 rfl⟩, fun K rec => ?_⟩
          show L_X12_laysPairs_12 K x2 rec _ = _
          unfold L_X12_laysPairs_12
          have e5 : lkB n P kc sy rw_ pl lim a k = false := by unfold lkB; rw [e1']; rfl
          simp (disch := omega) only [hx2, nI_ltI, hk, if_true, mw_near hw d ha (show k < P by omega), e1', Option.bind_some, jn_e, ix, inb_t, gd_t, nI_clamp, bd_e, nI_1, e5]
          rfl)
      (by
        intro x hI K rec
        obtain ⟨x1, s1⟩ := x
        obtain ⟨hx1, hF, hA, hB⟩ := hI
        simp only at hx1 hF hA hB
        subst hx1
        show L_X12_laysPairs_12 K x2 rec _ = _
        unfold L_X12_laysPairs_12
        simp (disch := omega) only [hx2, nI_ltI, Nat.lt_irrefl, if_false, nI_1])
    obtain ⟨x, ⟨_, hF, hA, hB⟩, e⟩ := key
    refine ⟨x.2, ⟨hF, fun i hi j hj => ?_⟩, e⟩
    by_cases ei : i = a
    · subst ei; exact hB j hj
    · exact hA i (by omega) j hj
  unfold f_X12_laysPairs
  have outer : ∃ x : Int32 × St, (x.1 = nI P ∧ FrL σ x.2 ∧ ∀ i, i < P → ∀ j, j < i → x.2.1 17 (10 * i + j) = bI (lkB n P kc sy rw_ pl lim i j)) ∧ lp L_X12_laysPairs_2 NN (0, σ) = some x.2 := by
    refine lp_inv (fun k (x : Int32 × St) => x.1 = nI k ∧ FrL σ x.2 ∧ ∀ i, i < k → ∀ j, j < i → x.2.1 17 (10 * i + j) = bI (lkB n P kc sy rw_ pl lim i j)) P (fun x => some x.2) ⟨rfl, FrL_rf, fun i hi => by omega⟩ (by omega) (fun k x hk hI => ?_) (fun x hI rec => ?_)
    · obtain ⟨x1, x2⟩ := x
      obtain ⟨hx1, hF, hA⟩ := hI
      simp only at hx1 hF hA
      subst hx1
      have hw := MW_Fr h hF
      obtain ⟨s', ⟨q1, q2⟩, q3⟩ := inner k (nI k, x2) hk rfl x2 hF hA
      refine ⟨(nI (k + 1), s'), ⟨rfl, q1, q2⟩, fun rec => ?_⟩
      unfold L_X12_laysPairs_2
      simp (disch := omega) only [hw.1.2.1, nI_ltI, hk, if_true, q3]
    · obtain ⟨x1, x2⟩ := x
      obtain ⟨hx1, hF, hA⟩ := hI
      simp only at hx1 hF hA
      subst hx1
      have hw := MW_Fr h hF
      unfold L_X12_laysPairs_2
      simp (disch := omega) only [hw.1.2.1, nI_ltI, Nat.lt_irrefl, if_false]
  obtain ⟨x, ⟨_, hF, hA⟩, e⟩ := outer
  exact ⟨x.2, e, hF, hA⟩
theorem m_isPair {σ : St} {lk : Nat → Nat → Bool} (hc : ∀ i j, lk i j = lk j i) (hP : P ≤ 10) (hr : ∀ i, i < P → ∀ j, j < i → σ.1 17 (10 * i + j) = bI (lk i j)) {a b : Nat} (ha : a < P) (hb : b < P) : f_X12_isPair (nI a) (nI b) σ = some (!(decide (a = b)) && lk a b) := by
  have ix : ∀ a b : Nat, (10 : Int32) * nI a + nI b = nI (10 * a + b) := fun a b => by rw [show (10 : Int32) = nI 10 from rfl, pk_mul, nI_add]
  have b1 : ∀ u : Bool, (if bI u = 1 then some true else some false) = some u := fun u => by cases u <;> rfl
  unfold f_X12_isPair
  simp (disch := omega) only [nI_ltI, ix, inb_t, gd_t, nI_clamp]
  by_cases e1 : b < a
  · rw [if_pos e1, hr a ha b e1, b1]
    simp [show ¬ a = b by omega]
  · rw [if_neg e1]
    by_cases e2 : a < b
    · rw [if_pos e2, hr b hb a e2, b1, hc b a]
      simp [show ¬ a = b by omega]
    · rw [if_neg e2]
      simp [show a = b by omega]
/-- the model's own check of a set -/
def cmB (P : Nat) (lk : Nat → Nat → Bool) (x : Nat) : Bool := alB P (fun a => alB a (fun b => !(lk a b) || (bitN x a || bitN x b)))
theorem cm_cv {lk : Nat → Nat → Bool} (hc : ∀ i j, lk i j = lk j i) (x : Nat) : cmB P lk x = cvB P lk x := by
  rw [Bool.eq_iff_iff]
  unfold cmB cvB
  rw [alB_iff, alB_iff]
  constructor
  · intro h p hp
    rw [Bool.or_eq_true]
    by_cases e : bitN x p = true
    · exact Or.inl e
    · refine Or.inr (alB_iff.mpr (fun j hj => ?_))
      by_cases ej : p = j
      · simp [ej]
      · cases zl : lk p j
        · simp
        · have : bitN x j = true := by
            by_cases e3 : j < p
            · have := alB_iff.mp (h p hp) j e3
              rw [zl] at this
              simpa [e] using this
            · have := alB_iff.mp (h j hj) p (by omega)
              rw [hc j p, zl] at this
              simpa [e] using this
          simp [this]
  · intro h a ha
    rw [alB_iff]
    intro b hb
    cases zl : lk a b
    · rfl
    · have := h a ha
      rw [Bool.or_eq_true] at this
      rcases this with h1 | h1
      · simp [h1]
      · have := alB_iff.mp h1 b (by omega)
        rw [zl] at this
        have e : ¬ a = b := by omega
        simp [e] at this
        simp [this]
theorem m_check {σ : St} {lk : Nat → Nat → Bool} (hp : σ.1 0 5 = nI P) (hc : ∀ i j, lk i j = lk j i) (hP : P ≤ 10) (hr : ∀ i, i < P → ∀ j, j < i → σ.1 17 (10 * i + j) = bI (lk i j)) {x : Nat} (hx : x < 1024) (best : Int32) (u : Bool) (K : Int32 → Option (Int32 × St)) : lp (L_X12_sourcesNow_43 σ (nI x, best) K) NN (0, bI u) = K (bI (u && cmB P lk x)) := by
  have inner : ∀ (a : Nat) (K2 : Int32 × Int32 → Option (Int32 × St)) (w : Int32), a < P → lp (L_X12_sourcesNow_59 σ (nI x, best) K2 (nI a, w)) NN (0, bI true) = K2 (nI (a + 1), bI (alB a (fun b => !(lk a b) || (bitN x a || bitN x b)))) := by
    intro a K2 w ha
    refine lp_count (fun k => (nI k, bI (alB k (fun b => !(lk a b) || (bitN x a || bitN x b))))) a rfl (by omega) (fun k hk rec => ?_) (fun rec => ?_)
    · unfold L_X12_sourcesNow_59
      simp (disch := omega) only [nI_ltI, hk, if_true, m_isPair hc hP hr ha (show k < P by omega), Option.bind_some, m_isIn (show x < 2 ^ 31 by omega) (show a < 32 by omega), m_isIn (show x < 2 ^ 31 by omega) (show k < 32 by omega), nI_1, alB, show ¬ a = k by omega, decide_false, Bool.not_false, Bool.true_and]
      cases alB k (fun b => !(lk a b) || (bitN x a || bitN x b))
      · rfl
      · rw [if_neg (by decide)]
        cases lk a k
        · rfl
        · cases bitN x a
          · cases bitN x k <;> rfl
          · rfl
    · unfold L_X12_sourcesNow_59
      simp (disch := omega) only [nI_ltI, Nat.lt_irrefl, if_false, nI_1]
  refine lp_stop (fun k => (nI k, bI (u && alB k (fun a => alB a (fun b => !(lk a b) || (bitN x a || bitN x b)))))) P (fun k => (u && alB k (fun a => alB a (fun b => !(lk a b) || (bitN x a || bitN x b)))) = true) (by cases u <;> rfl) (by omega) (fun k hk hc rec => ?_) (fun k hk hc rec => ?_) (fun rec => ?_)
  · unfold L_X12_sourcesNow_43
    simp (disch := omega) only [hp, nI_ltI, hk, if_true]
    rw [hc, if_neg (by decide), inner k rec _ hk]
    obtain ⟨h1, h2⟩ := (Bool.and_eq_true _ _ ▸ hc : _ ∧ _)
    rw [alB, h1, h2]
    rfl
  · have hf : (u && alB k (fun a => alB a (fun b => !(lk a b) || (bitN x a || bitN x b)))) = false := by
      cases z : (u && alB k (fun a => alB a (fun b => !(lk a b) || (bitN x a || bitN x b))))
      · rfl
      · exact absurd z hc
    have hf2 : (u && cmB P lk x) = false := by
      cases zu : u
      · rfl
      · rw [zu] at hf
        have h1 : alB k (fun a => alB a (fun b => !(lk a b) || (bitN x a || bitN x b))) = false := hf
        cases zc : cmB P lk x
        · rfl
        · have := alB_iff.mpr (fun j (hj : j < k) => alB_iff.mp zc j (by omega))
          rw [this] at h1
          exact absurd h1 (by decide)
    unfold L_X12_sourcesNow_43
    simp (disch := omega) only [hp, nI_ltI, hk, if_true]
    rw [hf, hf2, if_pos (by decide)]
  · unfold L_X12_sourcesNow_43
    simp (disch := omega) only [hp, nI_ltI, Nat.lt_irrefl, if_false]
    rfl
/-- whether a cover is among the first k -/
def fnB (P : Nat) (lk : Nat → Nat → Bool) (k : Nat) : Bool := !(alB k (fun j => !(cvB P lk j)))
theorem fn_s {lk : Nat → Nat → Bool} (k : Nat) : fnB P lk (k + 1) = (fnB P lk k || cvB P lk k) := by
  unfold fnB
  rw [alB]
  cases alB k (fun j => !(cvB P lk j)) <;> cases cvB P lk k <;> rfl
theorem bs_nf {lk : Nat → Nat → Bool} : ∀ k, fnB P lk k = false → bsN P lk k = 2 ^ P - 1
  | 0, _ => rfl
  | k + 1, h => by
    rw [fn_s, Bool.or_eq_false_iff] at h
    rw [bsN, if_neg (fun z => by rw [h.2] at z; exact absurd z.2 (by decide))]
    exact bs_nf k h.1
theorem cv_all {lk : Nat → Nat → Bool} (hP : P ≤ 10) : cvB P lk (2 ^ P - 1) = true := by
  unfold cvB
  rw [alB_iff]
  intro p hp
  rw [bit_a (by omega) hp]
  rfl
theorem m_sources {σ : St} (h : MW σ n P kc sy rw_ pl lim) (d : DB n P kc sy rw_ pl lim) : ∃ σ', f_X12_sourcesNow σ = some (nI (bsN P (lkB n P kc sy rw_ pl lim) (2 ^ P)), σ') ∧ FrL σ σ' := by
  have hP := d.2.1
  obtain ⟨s1, e1, hF, hr⟩ := m_pairs h d
  have hw := MW_Fr h hF
  have hc : ∀ i j, lkB n P kc sy rw_ pl lim i j = lkB n P kc sy rw_ pl lim j i := lkB_comm
  refine ⟨s1, ?_, hF⟩
  unfold f_X12_sourcesNow
  rw [e1, Option.bind_some]
  generalize lkB n P kc sy rw_ pl lim = lk at hr hc
  have h2 := p2le P (by omega)
  have h3 := p2pos P
  have hs : (1 : Int32) <<< (nI P &&& 31) = nI (2 ^ P) := shl1 P (by omega)
  have fin : fnB P lk (2 ^ P) = true := by
    unfold fnB
    cases z : alB (2 ^ P) (fun j => !(cvB P lk j))
    · rfl
    · have := alB_iff.mp z (2 ^ P - 1) (by omega)
      simp only [cv_all hP] at this
      exact absurd this (by decide)
  have hm1 : ∀ k, k < 1024 → ¬ nI k = -1 := fun k hk e => by
    have := congrArg Int32.toInt e
    rw [nI_toInt (by omega)] at this
    have h9 : (-1 : Int32).toInt = -1 := by decide
    omega
  refine lp_count (fun k => (nI k, if fnB P lk k = true then nI (bsN P lk k) else -1)) (2 ^ P) rfl (by omega) (fun k hk rec => ?_) (fun rec => ?_)
  · have hb := bs_lt (lk := lk) hP k (by omega)
    have q1 := pop_le k
    have q2 := pop_le (bsN P lk k)
    unfold L_X12_sourcesNow_8
    simp (disch := omega) only [hw.1.2.1, hs, nI_ltI, hk, if_true, jn_e, m_check hw.1.2.1 hc hP hr (show k < 1024 by omega), cm_cv hc, m_ones (show k < 1024 by omega), Option.bind_some, nI_1, fn_s]
    cases zf : fnB P lk k
    · have e5 := bs_nf k zf
      simp only [Bool.false_eq_true, if_false, if_true, Bool.true_and, Bool.false_or]
      cases zc : cvB P lk k
      · rfl
      · show rec (nI (k + 1), nI k) = _
        simp only [if_true]
        rw [bsN, e5]
        by_cases ek : k = 2 ^ P - 1
        · rw [if_neg (by rw [ek]; omega), ek]
        · rw [if_pos ⟨pop_all P (by omega) k (by omega), zc⟩]
    · simp (disch := omega) only [if_true, hm1 _ hb, if_false, m_ones hb, Option.bind_some, nI_ltI, Bool.true_or, bsN]
      by_cases e7 : popN k < popN (bsN P lk k)
      · cases zc : cvB P lk k
        · simp [e7, bI]
        · simp [e7, bI]
      · simp [e7, bI]
  · unfold L_X12_sourcesNow_8
    simp (disch := omega) only [hw.1.2.1, hs, nI_ltI, Nat.lt_irrefl, if_false, fin, if_true]
theorem c_sources {σ : St} (h : CW σ n P kc sy rw_ pl lim) (d : DB n P kc sy rw_ pl lim) : ∃ σ', f_X11_sources σ = some (nI (bsN P (lkB n P kc sy rw_ pl lim) (2 ^ P)), σ') ∧ Fr σ σ' := by
  obtain ⟨s1, e1, hF, hr⟩ := c_link h d
  refine ⟨s1, ?_, hF⟩
  unfold f_X11_sources
  rw [e1, Option.bind_some, c_fewest (CW_Fr h hF).1.2.1 d.2.1 hr]
  rfl
end M10
