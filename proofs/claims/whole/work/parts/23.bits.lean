/-! BITS of pupils; rights of some; what the key should have had -/
def bitN (a p : Nat) : Bool := decide (a / 2 ^ p % 2 = 1)
theorem sh_l : ∀ n, n < 32 → ((nI n &&& 31).toBitVec.smod 32).toNat = n := by decide +kernel
theorem bt_nI {a p : Nat} (ha : a < 2 ^ 31) (hp : p < 32) : (nI a >>> (nI p &&& 31)) &&& 1 = nI (a / 2 ^ p % 2) := by
  rw [pk_shrN ha _ p (sh_l p hp), pk_andN (Nat.lt_of_le_of_lt (Nat.div_le_self _ _) (by omega)) 1 (by decide)]
theorem bt_0 {a p : Nat} (ha : a < 2 ^ 31) (hp : p < 32) : ((nI a >>> (nI p &&& 31)) &&& 1 = 0) ↔ bitN a p = false := by
  rw [bt_nI ha hp, i0, nI_eq (by omega) (by omega)]
  unfold bitN
  simp only [decide_eq_false_iff_not]
  omega
theorem m_isIn {a p : Nat} {σ : St} (ha : a < 2 ^ 31) (hp : p < 32) : f_X12_isIn (nI a) (nI p) σ = some (bitN a p) := by
  unfold f_X12_isIn bitN
  rw [bt_nI ha hp, show (1 : Int32) = nI 1 from rfl]
  simp (disch := omega) only [nI_eq]
  by_cases h : a / 2 ^ p % 2 = 1 <;> simp [h]
theorem allb : ∀ P, P < 11 → ((1 : Int32) <<< (nI P &&& 31)) - 1 = nI (2 ^ P - 1) := by decide +kernel
theorem c_allBits {σ : St} {P : Nat} (h : σ.1 2 0 = nI P) (hP : P ≤ 10) : f_X7_allBits σ = some (nI (2 ^ P - 1)) := by
  unfold f_X7_allBits
  rw [h, allb P (by omega)]
theorem p2le : ∀ P, P < 11 → 2 ^ P ≤ 1024 := by decide
theorem p2pos (P : Nat) : 0 < 2 ^ P := Nat.pos_of_ne_zero (by simp)
theorem mask_s {a P : Nat} (ha : a < 1024) (hP : P ≤ 10) : nI a &&& nI (2 ^ P - 1) = nI (a % 2 ^ P) := by
  have h := p2le P (by omega)
  exact pk_andN (by omega) P (pk_tn (by omega))
theorem bit_tb (a p : Nat) : bitN a p = a.testBit p := by rw [Nat.testBit_eq_decide_div_mod_eq]; rfl
theorem bit_s {P : Nat} (_ : P < 11) {a : Nat} (_ : a < 1024) {p : Nat} (hp : p < P) : bitN (a % 2 ^ P) p = bitN a p := by
  rw [bit_tb, bit_tb, Nat.testBit_mod_two_pow]
  simp [hp]
theorem bit_s2 {P a p : Nat} (hp : ¬ p < P) : bitN (a % 2 ^ P) p = false := by
  rw [bit_tb, Nat.testBit_mod_two_pow]
  simp [hp]
theorem cmp_e (P a : Nat) : 2 ^ P - 1 - a % 2 ^ P = 2 ^ P - (a % 2 ^ P + 1) := by omega
theorem bit_o {P : Nat} (_ : P < 11) {a : Nat} (_ : a < 1024) {p : Nat} (hp : p < P) : bitN (2 ^ P - 1 - a % 2 ^ P) p = !(bitN a p) := by
  rw [cmp_e, bit_tb, bit_tb, Nat.testBit_two_pow_sub_succ (Nat.mod_lt _ (p2pos P)), Nat.testBit_mod_two_pow]
  simp [hp]
theorem bit_o2 {P a p : Nat} (hp : ¬ p < P) : bitN (2 ^ P - 1 - a % 2 ^ P) p = false := by
  rw [cmp_e, bit_tb, Nat.testBit_two_pow_sub_succ (Nat.mod_lt _ (p2pos P))]
  simp [hp]
theorem bit_a {P : Nat} (_ : P < 11) {p : Nat} (hp : p < P) : bitN (2 ^ P - 1) p = true := by
  rw [bit_tb, Nat.testBit_two_pow_sub_one]
  simp [hp]
theorem mask_o {P : Nat} (hP : P < 11) {a : Nat} (_ : a < 1024) : nI (2 ^ P - 1) &&& (nI a ^^^ (-1)) = nI (2 ^ P - 1 - a % 2 ^ P) := by
  apply Int32.toBitVec_inj.mp
  apply BitVec.eq_of_getLsbD_eq
  intro i hi
  have e1 : ∀ m : Nat, (nI m).toBitVec = BitVec.ofNat 32 m := fun m => rfl
  have e2 : (-1 : Int32).toBitVec = BitVec.allOnes 32 := by decide
  rw [Int32.toBitVec_and, Int32.toBitVec_xor, e1, e1, e1, e2]
  simp only [BitVec.getLsbD_and, BitVec.getLsbD_xor, BitVec.getLsbD_ofNat, BitVec.getLsbD_allOnes, hi, decide_true, Bool.true_and]
  rw [Nat.testBit_two_pow_sub_one, cmp_e, Nat.testBit_two_pow_sub_succ (Nat.mod_lt _ (p2pos P)), Nat.testBit_mod_two_pow]
  by_cases h : i < P <;> simp [h]
def bcI (a0 : Int32) : Int32 :=
  let v1 := a0 - (((a0.toUInt32 >>> (Int32.toUInt32 1 &&& Int32.toUInt32 31)).toInt32) &&& 1431655765)
  let v2 := (v1 &&& 858993459) + (((v1.toUInt32 >>> (Int32.toUInt32 2 &&& Int32.toUInt32 31)).toInt32) &&& 858993459)
  let v3 := (v2 + ((v2.toUInt32 >>> (Int32.toUInt32 4 &&& Int32.toUInt32 31)).toInt32)) &&& 252645135
  let v4 := v3 + ((v3.toUInt32 >>> (Int32.toUInt32 8 &&& Int32.toUInt32 31)).toInt32)
  let v5 := v4 + ((v4.toUInt32 >>> (Int32.toUInt32 16 &&& Int32.toUInt32 31)).toInt32)
  v5 &&& 63
theorem f_bc (a : Int32) (σ : St) : f_J6_bitCount_0f7a4 a σ = some (bcI a) := rfl
theorem bc_ok : ∀ x, x < 1024 → bcI (nI x) = nI (sm 10 (fun p => (bitN x p).toNat)) := by decide +kernel
theorem sm_cut {P m : Nat} {f : Nat → Nat} (hP : P ≤ m) (h : ∀ k, P ≤ k → k < m → f k = 0) : sm m f = sm P f := by
  induction m with
  | zero =>
    have : P = 0 := by omega
    subst this
    rfl
  | succ m ih =>
    by_cases e : P = m + 1
    · rw [e]
    · rw [sm_s, ih (by omega) (fun k h1 h2 => h k h1 (by omega)), h m (by omega) (by omega)]
      rfl
theorem pop_s {P : Nat} (hP : P < 11) {a : Nat} (ha : a < 1024) : sm 10 (fun p => (bitN (a % 2 ^ P) p).toNat) = sm P (fun p => (bitN a p).toNat) := by
  rw [sm_cut (show P ≤ 10 by omega) (fun k h1 _ => by rw [bit_s2 (by omega)]; rfl)]
  exact sm_congr (fun k hk => by rw [bit_s hP ha hk])
theorem pop_o {P : Nat} (hP : P < 11) {a : Nat} (ha : a < 1024) : sm 10 (fun p => (bitN (2 ^ P - 1 - a % 2 ^ P) p).toNat) = sm P (fun p => (!(bitN a p)).toNat) := by
  rw [sm_cut (show P ≤ 10 by omega) (fun k h1 _ => by rw [bit_o2 (by omega)]; rfl)]
  exact sm_congr (fun k hk => by rw [bit_o hP ha hk])
