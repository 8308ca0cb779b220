/-! MATHEMATICS over the lifted functions: loops by their trajectory, sums, the views of the two memories -/
theorem lp_to {X R : Type} {F : (X → Option R) → X → Option R} (x : Nat → X) {n : Nat} {r : Option R} (step : ∀ k, k < n → ∀ rec : X → Option R, F rec (x k) = rec (x (k + 1))) (exit : ∀ rec : X → Option R, F rec (x n) = r) : ∀ (m k N : Nat), k + m = n → m < N → lp F N (x k) = r := by
  intro m
  induction m with
  | zero =>
    intro k N hk hN
    obtain ⟨N, rfl⟩ : ∃ z, N = z + 1 := ⟨N - 1, by omega⟩
    have : k = n := by omega
    subst this
    exact exit _
  | succ m ih =>
    intro k N hk hN
    obtain ⟨N, rfl⟩ : ∃ z, N = z + 1 := ⟨N - 1, by omega⟩
    show F (lp F N) (x k) = r
    rw [step k (by omega)]
    exact ih (k + 1) N (by omega) (by omega)
/-- a loop whose states are x 0, x 1 .. x n, and that ends at x n with r -/
theorem lp_count {X R : Type} {F : (X → Option R) → X → Option R} (x : Nat → X) (n : Nat) {x0 : X} {r : Option R} (h0 : x0 = x 0) (hn : n < 10000) (step : ∀ k, k < n → ∀ rec : X → Option R, F rec (x k) = rec (x (k + 1))) (exit : ∀ rec : X → Option R, F rec (x n) = r) : lp F NN x0 = r := by
  subst h0
  exact lp_to x step exit n 0 NN (by omega) (by rw [NN_eq]; exact hn)
/-- sum over k < n -/
def sm (n : Nat) (f : Nat → Nat) : Nat := match n with
  | 0 => 0
  | n + 1 => sm n f + f n
theorem sm_0 (f : Nat → Nat) : sm 0 f = 0 := rfl
theorem sm_s (n : Nat) (f : Nat → Nat) : sm (n + 1) f = sm n f + f n := rfl
theorem sm_le {n b : Nat} {f : Nat → Nat} (h : ∀ k, k < n → f k ≤ b) : sm n f ≤ n * b := by
  induction n with
  | zero => simp [sm]
  | succ n ih =>
    have h1 := ih (fun k hk => h k (by omega))
    have h2 := h n (by omega)
    rw [sm_s, Nat.succ_mul]
    omega
theorem sm_congr {n : Nat} {f g : Nat → Nat} (h : ∀ k, k < n → f k = g k) : sm n f = sm n g := by
  induction n with
  | zero => rfl
  | succ n ih => rw [sm_s, sm_s, ih (fun k hk => h k (by omega)), h n (by omega)]
theorem toNat_le1 (b : Bool) : b.toNat ≤ 1 := by cases b <;> decide
theorem gd_t {α : Type} {o : Option α} : gd true o = o := rfl
theorem inb_t {k n : Nat} (h : k < n) (hn : n < 2 ^ 31) : inb (nI k) n = true := by
  unfold inb
  rw [nI_clamp (by omega)]
  simp [h, nI_pos (show k < 2 ^ 31 by omega)]
theorem bd_e {R : Type} {σ : St} {k : St → Option R} : bd σ k = k σ := rfl
theorem bv_e {R : Type} {v : Int32} {k : Int32 → Option R} : bv v k = k v := rfl
theorem bl_e {R : Type} {v : Int64} {k : Int64 → Option R} : bl v k = k v := rfl
theorem jn_e {X R : Type} {K : X → Option R} {B : (X → Option R) → Option R} : jn K B = B K := rfl
theorem i0 : (0 : Int32) = nI 0 := rfl
theorem nIm {a b : Nat} : nI a * nI b = nI (a * b) := pk_mul a b
theorem cur_id {p : Nat} (h : p < 10) : WC.2.2 32 p = 42 + p := by show (if p < 10 then 42 + p else 42) = 42 + p; rw [if_pos h]
theorem lat_id {p : Nat} (h : p < 10) : WC.2.2 33 p = 52 + p := by show (if p < 10 then 52 + p else 52) = 52 + p; rw [if_pos h]
theorem she_id {p : Nat} (h : p < 4) : WC.2.2 31 p = 34 + p := by show (if p < 4 then 34 + p else 34) = 34 + p; rw [if_pos h]
def CV (σ : St) (n P : Nat) (kc : Nat → Int32) (sy : Nat → Nat → Int32) : Prop :=
  σ.1 1 2 = nI n ∧ σ.1 2 0 = nI P ∧ (∀ q, q < 12 → σ.1 11 q = kc q) ∧ (∀ p q, p < 10 → q < 12 → σ.1 (42 + p) q = sy p q)
def MV (σ : St) (n P : Nat) (kc : Nat → Int32) (sy : Nat → Nat → Int32) : Prop :=
  σ.1 0 0 = nI n ∧ σ.1 0 5 = nI P ∧ (∀ q, q < 12 → σ.1 2 q = kc q) ∧ (∀ p q, p < 10 → q < 12 → σ.1 10 (12 * p + q) = sy p q)
def isR (kc : Nat → Int32) (sy : Nat → Nat → Int32) (p q : Nat) : Bool := !(decide (kc q = 0)) && decide (sy p q = kc q)
def isW (kc : Nat → Int32) (sy : Nat → Nat → Int32) (p q : Nat) : Bool := !(decide (kc q = 0)) && !(decide (sy p q = 0)) && !(decide (sy p q = kc q))
def mkB (n : Nat) (kc : Nat → Int32) (sy : Nat → Nat → Int32) (p : Nat) (out : Int32) : Nat := sm n (fun q => (!(decide (nI q = out)) && isR kc sy p q).toNat)
section M1
variable {σ : St} {n P : Nat} {kc : Nat → Int32} {sy : Nat → Nat → Int32}
theorem c_isR (h : CV σ n P kc sy) {p q : Nat} (hp : p < 10) (hq : q < 12) : f_X5_isRight (nI p) (nI q) σ = some (isR kc sy p q) := by
  obtain ⟨h1, h2, h3, h4⟩ := h
  unfold f_X5_isRight isR
  simp (disch := omega) only [inb_t, nI_clamp, gd_t, cur_id, h3 q hq, h4 p q hp hq]
  by_cases hk : kc q = 0 <;> by_cases hs : sy p q = kc q <;> simp [hk, hs]
theorem c_restOf (h : CV σ n P kc sy) (hn : n ≤ 12) {p : Nat} (hp : p < 10) (out : Int32) : f_X5_restOf (nI p) out σ = some (nI (mkB n kc sy p out)) := by
  unfold f_X5_restOf mkB
  refine lp_count (fun k => (nI k, nI (sm k (fun q => (!(decide (nI q = out)) && isR kc sy p q).toNat)))) n rfl (by omega) (fun k hk rec => ?_) (fun rec => ?_)
  · unfold L_X5_restOf_5
    simp (disch := omega) only [h.1, nI_ltI, hk, if_true, c_isR h hp (show k < 12 by omega), Option.bind_some, nI_1, sm_s]
    by_cases h1 : nI k = out
    · simp [h1]
    · cases isR kc sy p k <;> simp [h1, nI_1]
  · unfold L_X5_restOf_5
    simp (disch := omega) only [h.1, nI_ltI, Nat.lt_irrefl, if_false]
theorem m_ix {p q : Nat} (hp : p < 10) (hq : q < 12) : (12 : Int32) * nI p + nI q = nI (12 * p + q) := by
  rw [show (12 : Int32) = nI 12 from rfl, pk_mul, nI_add]
theorem m_isR (h : MV σ n P kc sy) {p q : Nat} (hp : p < 10) (hq : q < 12) : f_X12_isRight (nI p) (nI q) σ = some (isR kc sy p q) := by
  obtain ⟨h1, h2, h3, h4⟩ := h
  unfold f_X12_isRight isR
  simp (disch := omega) only [m_ix hp hq, inb_t, nI_clamp, gd_t, h3 q hq, h4 p q hp hq]
  by_cases hk : kc q = 0 <;> by_cases hs : sy p q = kc q <;> simp [hk, hs]
theorem m_isW (h : MV σ n P kc sy) {p q : Nat} (hp : p < 10) (hq : q < 12) : f_X12_isWrong (nI p) (nI q) σ = some (isW kc sy p q) := by
  obtain ⟨h1, h2, h3, h4⟩ := h
  unfold f_X12_isWrong isW
  simp (disch := omega) only [m_ix hp hq, inb_t, nI_clamp, gd_t, h3 q hq, h4 p q hp hq]
  by_cases hk : kc q = 0 <;> by_cases h0 : sy p q = 0 <;> by_cases hs : sy p q = kc q <;> simp [hk, hs, h0]
theorem add0 (x : Int32) : x + 0 = x := by simp
theorem m_markBut (h : MV σ n P kc sy) (hn : n ≤ 12) {p : Nat} (hp : p < 10) (out : Int32) : f_X12_markBut (nI p) out σ = some (nI (mkB n kc sy p out)) := by
  unfold f_X12_markBut mkB
  refine lp_count (fun k => (nI k, nI (sm k (fun q => (!(decide (nI q = out)) && isR kc sy p q).toNat)))) n rfl (by omega) (fun k hk rec => ?_) (fun rec => ?_)
  · unfold L_X12_markBut_5
    simp (disch := omega) only [h.1, nI_ltI, hk, if_true, m_isR h hp (show k < 12 by omega), Option.bind_some, nI_1, sm_s, bv_e, add0]
    by_cases h1 : nI k = out
    · simp [h1]
    · cases isR kc sy p k <;> simp [h1]
  · unfold L_X12_markBut_5
    simp (disch := omega) only [h.1, nI_ltI, Nat.lt_irrefl, if_false]
def wrN (n : Nat) (kc : Nat → Int32) (sy : Nat → Nat → Int32) (p : Nat) : Nat := sm n (fun q => (isW kc sy p q).toNat)
def shN (n : Nat) (kc : Nat → Int32) (sy : Nat → Nat → Int32) (a b : Nat) : Nat := sm n (fun q => (isW kc sy a q && decide (sy a q = sy b q)).toNat)
def boN (n : Nat) (kc : Nat → Int32) (sy : Nat → Nat → Int32) (a b : Nat) : Nat := sm n (fun q => (isW kc sy a q && isW kc sy b q).toNat)
theorem c_wrongs (h : CV σ n P kc sy) (hn : n ≤ 12) {p : Nat} (hp : p < 10) : f_X5_wrongsOf (nI p) σ = some (nI (wrN n kc sy p)) := by
  unfold f_X5_wrongsOf wrN
  refine lp_count (fun k => (nI k, nI (sm k (fun q => (isW kc sy p q).toNat)))) n rfl (by omega) (fun k hk rec => ?_) (fun rec => ?_)
  · unfold L_X5_wrongsOf_4
    simp (disch := omega) only [h.1, nI_ltI, hk, if_true, c_isR h hp (show k < 12 by omega), Option.bind_some, nI_1, sm_s, inb_t, gd_t, nI_clamp, h.2.2.1 k (by omega), cur_id, h.2.2.2 p k hp (by omega), isR, isW]
    by_cases h1 : kc k = 0
    · simp [h1]
    · by_cases h2 : sy p k = 0 <;> by_cases h3 : sy p k = kc k <;> simp [h1, h2, h3]
  · unfold L_X5_wrongsOf_4
    simp (disch := omega) only [h.1, nI_ltI, Nat.lt_irrefl, if_false]
theorem m_wrongs (h : MV σ n P kc sy) (hn : n ≤ 12) {p : Nat} (hp : p < 10) : f_X12_wrongs (nI p) σ = some (nI (wrN n kc sy p)) := by
  unfold f_X12_wrongs wrN
  refine lp_count (fun k => (nI k, nI (sm k (fun q => (isW kc sy p q).toNat)))) n rfl (by omega) (fun k hk rec => ?_) (fun rec => ?_)
  · unfold L_X12_wrongs_4
    simp (disch := omega) only [h.1, nI_ltI, hk, if_true, m_isW h hp (show k < 12 by omega), Option.bind_some, nI_1, sm_s, bv_e, add0]
    cases isW kc sy p k <;> simp
  · unfold L_X12_wrongs_4
    simp (disch := omega) only [h.1, nI_ltI, Nat.lt_irrefl, if_false]
theorem c_both1 (h : CV σ n P kc sy) {a b q : Nat} (ha : a < 10) (hb : b < 10) (hq : q < 12) : f_X6_areBothWrong (nI a) (nI b) (nI q) σ = some (isW kc sy a q && isW kc sy b q) := by
  obtain ⟨h1, h2, h3, h4⟩ := h
  unfold f_X6_areBothWrong isW
  simp (disch := omega) only [inb_t, nI_clamp, gd_t, cur_id, h3 q hq, h4 a q ha hq, h4 b q hb hq, bv_e]
  by_cases h1 : kc q = 0 <;> by_cases h2 : sy a q = 0 <;> by_cases h3 : sy b q = 0 <;> by_cases h4 : sy a q = kc q <;> by_cases h5 : sy b q = kc q <;> simp [h1, h2, h3, h4, h5]
theorem c_same (h : CV σ n P kc sy) (hn : n ≤ 12) {a b : Nat} (ha : a < 10) (hb : b < 10) : f_X6_sameWrongs (nI a) (nI b) σ = some (nI (shN n kc sy a b)) := by
  unfold f_X6_sameWrongs shN
  refine lp_count (fun k => (nI k, nI (sm k (fun q => (isW kc sy a q && decide (sy a q = sy b q)).toNat)))) n rfl (by omega) (fun k hk rec => ?_) (fun rec => ?_)
  · unfold L_X6_sameWrongs_5
    simp (disch := omega) only [h.1, nI_ltI, hk, if_true, c_both1 h ha hb (show k < 12 by omega), Option.bind_some, nI_1, sm_s, inb_t, gd_t, nI_clamp, cur_id, h.2.2.2 a k ha (by omega), h.2.2.2 b k hb (by omega)]
    by_cases h1 : sy a k = sy b k
    · rw [show isW kc sy b k = isW kc sy a k by unfold isW; rw [h1]]
      cases isW kc sy a k <;> simp [h1]
    · cases isW kc sy a k <;> cases isW kc sy b k <;> simp [h1]
  · unfold L_X6_sameWrongs_5
    simp (disch := omega) only [h.1, nI_ltI, Nat.lt_irrefl, if_false]
theorem m_same (h : MV σ n P kc sy) (hn : n ≤ 12) {a b : Nat} (ha : a < 10) (hb : b < 10) : f_X12_sharedOf (nI a) (nI b) σ = some (nI (shN n kc sy a b)) := by
  unfold f_X12_sharedOf shN
  refine lp_count (fun k => (nI k, nI (sm k (fun q => (isW kc sy a q && decide (sy a q = sy b q)).toNat)))) n rfl (by omega) (fun k hk rec => ?_) (fun rec => ?_)
  · unfold L_X12_sharedOf_5
    simp (disch := omega) only [h.1, nI_ltI, hk, if_true, m_isW h ha (show k < 12 by omega), Option.bind_some, nI_1, sm_s, bv_e, add0, m_ix ha (show k < 12 by omega), m_ix hb (show k < 12 by omega), inb_t, gd_t, nI_clamp, h.2.2.2 a k ha (by omega), h.2.2.2 b k hb (by omega)]
    by_cases h1 : sy a k = sy b k <;> cases isW kc sy a k <;> simp [h1]
  · unfold L_X12_sharedOf_5
    simp (disch := omega) only [h.1, nI_ltI, Nat.lt_irrefl, if_false]
theorem c_bothN (h : CV σ n P kc sy) (hn : n ≤ 12) {a b : Nat} (ha : a < 10) (hb : b < 10) : f_X6_bothWrongs (nI a) (nI b) σ = some (nI (boN n kc sy a b)) := by
  unfold f_X6_bothWrongs boN
  refine lp_count (fun k => (nI k, nI (sm k (fun q => (isW kc sy a q && isW kc sy b q).toNat)))) n rfl (by omega) (fun k hk rec => ?_) (fun rec => ?_)
  · unfold L_X6_bothWrongs_5
    simp (disch := omega) only [h.1, nI_ltI, hk, if_true, c_both1 h ha hb (show k < 12 by omega), Option.bind_some, nI_1, sm_s]
    cases isW kc sy a k <;> cases isW kc sy b k <;> simp
  · unfold L_X6_bothWrongs_5
    simp (disch := omega) only [h.1, nI_ltI, Nat.lt_irrefl, if_false]
theorem m_bothN (h : MV σ n P kc sy) (hn : n ≤ 12) {a b : Nat} (ha : a < 10) (hb : b < 10) : f_X12_bothOf (nI a) (nI b) σ = some (nI (boN n kc sy a b)) := by
  unfold f_X12_bothOf boN
  refine lp_count (fun k => (nI k, nI (sm k (fun q => (isW kc sy a q && isW kc sy b q).toNat)))) n rfl (by omega) (fun k hk rec => ?_) (fun rec => ?_)
  · unfold L_X12_bothOf_5
    simp (disch := omega) only [h.1, nI_ltI, hk, if_true, m_isW h ha (show k < 12 by omega), m_isW h hb (show k < 12 by omega), Option.bind_some, nI_1, sm_s, bv_e, add0]
    cases isW kc sy a k <;> cases isW kc sy b k <;> simp
  · unfold L_X12_bothOf_5
    simp (disch := omega) only [h.1, nI_ltI, Nat.lt_irrefl, if_false]
/-- who chose c at q, and their rests together -/
def chN (P : Nat) (sy : Nat → Nat → Int32) (q : Nat) (c : Int32) : Nat := sm P (fun p => (decide (sy p q = c)).toNat)
def reN (n P : Nat) (kc : Nat → Int32) (sy : Nat → Nat → Int32) (q : Nat) (c : Int32) : Nat := sm P (fun p => if sy p q = c then mkB n kc sy p (nI q) else 0)
theorem c_choosers (h : CV σ n P kc sy) (hP : P ≤ 10) {q : Nat} (hq : q < 12) (c : Int32) : f_X3_choosersOf (nI q) c σ = some (nI (chN P sy q c)) := by
  unfold f_X3_choosersOf chN
  refine lp_count (fun k => (nI k, nI (sm k (fun p => (decide (sy p q = c)).toNat)))) P rfl (by omega) (fun k hk rec => ?_) (fun rec => ?_)
  · unfold L_X3_choosersOf_5
    simp (disch := omega) only [h.2.1, nI_ltI, hk, if_true, Option.bind_some, nI_1, sm_s, inb_t, gd_t, nI_clamp, cur_id, h.2.2.2 k q (by omega) hq]
    by_cases h1 : sy k q = c <;> simp [h1]
  · unfold L_X3_choosersOf_5
    simp (disch := omega) only [h.2.1, nI_ltI, Nat.lt_irrefl, if_false]
theorem m_choosers (h : MV σ n P kc sy) (hP : P ≤ 10) {q : Nat} (hq : q < 12) (c : Int32) : f_X12_choseMany (nI q) c σ = some (nI (chN P sy q c)) := by
  unfold f_X12_choseMany chN
  refine lp_count (fun k => (nI k, nI (sm k (fun p => (decide (sy p q = c)).toNat)))) P rfl (by omega) (fun k hk rec => ?_) (fun rec => ?_)
  · unfold L_X12_choseMany_5
    simp (disch := omega) only [h.2.1, nI_ltI, hk, if_true, Option.bind_some, nI_1, sm_s, inb_t, gd_t, nI_clamp, m_ix (show k < 10 by omega) hq, bv_e, add0, h.2.2.2 k q (by omega) hq]
    by_cases h1 : sy k q = c <;> simp [h1]
  · unfold L_X12_choseMany_5
    simp (disch := omega) only [h.2.1, nI_ltI, Nat.lt_irrefl, if_false]
theorem c_rests (h : CV σ n P kc sy) (hn : n ≤ 12) (hP : P ≤ 10) {q : Nat} (hq : q < 12) (c : Int32) : f_X3_restsOf (nI q) c σ = some (nI (reN n P kc sy q c)) := by
  unfold f_X3_restsOf reN
  refine lp_count (fun k => (nI k, nI (sm k (fun p => if sy p q = c then mkB n kc sy p (nI q) else 0)))) P rfl (by omega) (fun k hk rec => ?_) (fun rec => ?_)
  · unfold L_X3_restsOf_5
    simp (disch := omega) only [h.2.1, nI_ltI, hk, if_true, nI_1, sm_s, inb_t, gd_t, nI_clamp, cur_id, h.2.2.2 k q (by omega) hq, c_restOf h hn (show k < 10 by omega), Option.bind_some, bv_e]
    by_cases h1 : sy k q = c <;> simp [h1, nI_add]
  · unfold L_X3_restsOf_5
    simp (disch := omega) only [h.2.1, nI_ltI, Nat.lt_irrefl, if_false]
theorem m_rests (h : MV σ n P kc sy) (hn : n ≤ 12) (hP : P ≤ 10) {q : Nat} (hq : q < 12) (c : Int32) : f_X12_restSum (nI q) c σ = some (nI (reN n P kc sy q c)) := by
  unfold f_X12_restSum reN
  refine lp_count (fun k => (nI k, nI (sm k (fun p => if sy p q = c then mkB n kc sy p (nI q) else 0)))) P rfl (by omega) (fun k hk rec => ?_) (fun rec => ?_)
  · unfold L_X12_restSum_5
    simp (disch := omega) only [h.2.1, nI_ltI, hk, if_true, nI_1, sm_s, inb_t, gd_t, nI_clamp, m_ix (show k < 10 by omega) hq, h.2.2.2 k q (by omega) hq, m_markBut h hn (show k < 10 by omega), Option.bind_some, bv_e, add0]
    by_cases h1 : sy k q = c <;> simp [h1, nI_add]
  · unfold L_X12_restSum_5
    simp (disch := omega) only [h.2.1, nI_ltI, Nat.lt_irrefl, if_false]
end M1
