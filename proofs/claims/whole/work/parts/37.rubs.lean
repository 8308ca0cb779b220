/-! rubbings: the class counts them, the model lays them -/
def befF (tp tq : Nat → Nat) (ta : Nat → Int32) (i : Nat) : Int32 := sayF tp tq ta i (tp i) (tq i)
def rubB (tp tq : Nat → Nat) (ta : Nat → Int32) (n i : Nat) : Bool := decide (tq i < n) && !(decide (befF tp tq ta i = 0)) && !(decide (befF tp tq ta i = ta i))
def kdB (tp tq : Nat → Nat) (ta : Nat → Int32) (kc : Nat → Int32) (w : Int32) (i : Nat) : Bool :=
  if w = 0 then true else if kc (tq i) = 0 then false else if w = 1 then decide (ta i = kc (tq i)) else decide (befF tp tq ta i = kc (tq i)) && !(decide (ta i = 0))
def rkB (tp tq : Nat → Nat) (ta : Nat → Int32) (n : Nat) (kc : Nat → Int32) (w : Int32) (i : Nat) : Bool := rubB tp tq ta n i && kdB tp tq ta kc w i
def rbA (tp tq : Nat → Nat) (ta : Nat → Int32) (n : Nat) (kc : Nat → Int32) (a : Nat) (w : Int32) (c : Nat) : Nat := sm c (fun i => (bitN a (tp i) && rkB tp tq ta n kc w i).toNat)
def rbP (tp tq : Nat → Nat) (ta : Nat → Int32) (n : Nat) (kc : Nat → Int32) (p : Nat) (w : Int32) (c : Nat) : Nat := sm c (fun i => (decide (tp i = p) && rkB tp tq ta n kc w i).toNat)
section M13
variable {tp tq : Nat → Nat} {ta tt : Nat → Int32} {as : Int32} {T n P : Nat} {kc : Nat → Int32}
theorem rbA_le (a : Nat) (w : Int32) (c : Nat) : rbA tp tq ta n kc a w c ≤ c := by
  unfold rbA
  have := sm_le (n := c) (b := 1) (f := fun i => (bitN a (tp i) && rkB tp tq ta n kc w i).toNat) (fun k _ => Bool.toNat_le _)
  omega
theorem rbP_le (a : Nat) (w : Int32) (c : Nat) : rbP tp tq ta n kc a w c ≤ c := by
  unfold rbP
  have := sm_le (n := c) (b := 1) (f := fun i => (decide (tp i = a) && rkB tp tq ta n kc w i).toNat) (fun k _ => Bool.toNat_le _)
  omega
theorem c_wasR {σ : St} {i : Nat} (h : TT σ tp tq ta tt T) (hT : T ≤ 150) (hi : i < T) (hn : σ.1 1 2 = nI n) (hn2 : n ≤ 12) : f_X8_wasRubbed (nI i) σ = some (rubB tp tq ta n i) := by
  obtain ⟨a1, a2, a3, a4, a5, a6, a7⟩ := h.2 i hi
  unfold f_X8_wasRubbed rubB befF
  simp (disch := omega) only [inb_t, gd_t, nI_clamp, a3, a5, a6, hn, nI_ltI]
  by_cases c1 : tq i < n
  · by_cases c2 : sayF tp tq ta i (tp i) (tq i) = 0
    · simp [c1, c2]
    · by_cases c3 : sayF tp tq ta i (tp i) (tq i) = ta i <;> simp [c1, c2, c3]
  · simp [c1]
theorem c_kind {σ : St} {i : Nat} {w : Int32} (h : TT σ tp tq ta tt T) (hT : T ≤ 150) (hi : i < T) (hk : ∀ q, q < 12 → σ.1 11 q = kc q) : f_X8_isKind (nI i) w σ = some (kdB tp tq ta kc w i) := by
  obtain ⟨a1, a2, a3, a4, a5, a6, a7⟩ := h.2 i hi
  unfold f_X8_isKind kdB befF
  simp (disch := omega) only [inb_t, gd_t, nI_clamp, a3, a5, a6, bv_e, hk (tq i) a4]
  by_cases c1 : w = 0
  · simp [c1]
  · by_cases c2 : kc (tq i) = 0
    · simp [c1, c2]
    · by_cases c3 : w = 1
      · by_cases c4 : ta i = kc (tq i) <;> simp [c2, c3, c4]
      · by_cases c4 : sayF tp tq ta i (tp i) (tq i) = kc (tq i)
        · by_cases c5 : ta i = 0 <;> simp [c1, c2, c3, c4, c5]
        · simp [c1, c2, c3, c4]
theorem c_countOf {σ : St} {c a : Nat} {w : Int32} (h : TT σ tp tq ta tt T) (hT : T ≤ 150) (hc : σ.1 3 1 = nI c) (hcT : c ≤ T) (hn : σ.1 1 2 = nI n) (hn2 : n ≤ 12) (hk : ∀ q, q < 12 → σ.1 11 q = kc q) (ha : a < 1024) : f_X8_countOf (nI a) w σ = some (nI (rbA tp tq ta n kc a w c)) := by
  unfold f_X8_countOf
  refine lp_count (fun k => (nI k, nI (rbA tp tq ta n kc a w k))) c rfl (by omega) (fun k hk' rec => ?_) (fun rec => ?_)
  · obtain ⟨a1, a2, a3, a4, a5, a6, a7⟩ := h.2 k (by omega)
    have hbt := bt_0 (a := a) (p := tp k) (by omega) (by omega)
    unfold L_X8_countOf_5
    simp (disch := omega) only [hc, nI_ltI, hk', if_true, inb_t, gd_t, nI_clamp, a1, c_wasR h hT (show k < T by omega) hn hn2, c_kind (w := w) h hT (show k < T by omega) hk, Option.bind_some, nI_1]
    unfold rbA
    rw [sm_s]
    unfold rkB
    cases z : bitN a (tp k)
    · rw [if_pos (hbt.mpr z)]; rfl
    · rw [if_neg (fun e => by rw [hbt.mp e] at z; exact absurd z (by decide))]
      cases rubB tp tq ta n k
      · rfl
      · cases kdB tp tq ta kc w k <;> rfl
  · unfold L_X8_countOf_5
    simp (disch := omega) only [hc, nI_ltI, Nat.lt_irrefl, if_false]
theorem one_sh : ∀ p, p < 10 → (1 : Int32) <<< (nI p &&& 31) = nI (2 ^ p) := by decide +kernel
theorem bit_one : ∀ p, p < 10 → ∀ x, x < 10 → bitN (2 ^ p) x = decide (x = p) := by decide +kernel
theorem rbA_P {p c : Nat} {w : Int32} (hp : p < 10) (hc : ∀ i, i < c → tp i < 10) : rbA tp tq ta n kc (2 ^ p) w c = rbP tp tq ta n kc p w c := by
  unfold rbA rbP
  exact sm_congr (fun k hk => by rw [bit_one p hp _ (hc k hk)])
theorem c_rubOf {σ : St} {c p : Nat} {w : Int32} (h : TT σ tp tq ta tt T) (hT : T ≤ 150) (hc : σ.1 3 1 = nI c) (hcT : c ≤ T) (hn : σ.1 1 2 = nI n) (hn2 : n ≤ 12) (hk : ∀ q, q < 12 → σ.1 11 q = kc q) (hp : p < 10) : f_X8_countOf (1 <<< (nI p &&& 31)) w σ = some (nI (rbP tp tq ta n kc p w c)) := by
  have h2 : ∀ p, p < 10 → 2 ^ p < 1024 := by decide
  rw [one_sh p hp, c_countOf h hT hc hcT hn hn2 hk (h2 p hp), rbA_P hp (fun i hi => (h.2 i (by omega)).2.1)]
theorem TT_Fr {σ σ' : St} (h : TT σ tp tq ta tt T) (f : Fr σ σ') : TT σ' tp tq ta tt T := by
  obtain ⟨h1, h2⟩ := h
  refine ⟨by rw [f 3 (by omega)]; exact h1, fun i hi => ?_⟩
  rw [f 15 (by omega), f 16 (by omega), f 17 (by omega), f 18 (by omega), f 19 (by omega)]
  exact h2 i hi
theorem c_CR {σ : St} {c : Nat} (h : TT σ tp tq ta tt T) (hT : T ≤ 150) (hc : σ.1 3 1 = nI c) (hcT : c ≤ T) (hn : σ.1 1 2 = nI n) (hn2 : n ≤ 12) (hk : ∀ q, q < 12 → σ.1 11 q = kc q) (hP : P ≤ 10) : CR σ P (fun p => rbP tp tq ta n kc p 0 c) := by
  intro σ' f p hp
  exact c_rubOf (TT_Fr h f) hT (by rw [f 3 (by omega)]; exact hc) hcT (by rw [f 1 (by omega)]; exact hn) hn2 (fun q hq => by rw [f 11 (by omega)]; exact hk q hq) (by omega)
/-- the model -/
def TM (τ : St) (tp tq : Nat → Nat) (ta tt : Nat → Int32) (T : Nat) (as : Int32) : Prop :=
  τ.1 0 8 = nI T ∧ τ.1 3 0 = as ∧ ∀ i, i < T → τ.1 6 i = nI (tp i) ∧ tp i < 10 ∧ τ.1 7 i = nI (tq i) ∧ tq i < 12 ∧ τ.1 8 i = ta i ∧ τ.1 9 i = tt i
def RbM (τ : St) (tp tq : Nat → Nat) (ta : Nat → Int32) (n : Nat) (kc : Nat → Int32) (c : Nat) : Prop :=
  ∀ p, p < 10 → τ.1 11 p = nI (rbP tp tq ta n kc p 0 c) ∧ τ.1 12 p = nI (rbP tp tq ta n kc p 1 c) ∧ τ.1 13 p = nI (rbP tp tq ta n kc p 2 c)
def FK (τ x : St) : Prop := (∀ k, ¬ (10 ≤ k ∧ k < 14) → x.1 k = τ.1 k) ∧ x.2 = τ.2
theorem rbP_s {p c : Nat} {w : Int32} : rbP tp tq ta n kc p w (c + 1) = rbP tp tq ta n kc p w c + (decide (tp c = p) && rkB tp tq ta n kc w c).toNat := rfl
theorem rbP_0 {p : Nat} {w : Int32} : rbP tp tq ta n kc p w 0 = 0 := rfl
theorem bv_q {R : Type} {v : Int32} {k : Int32 → Option R} : bv v k = k v := by
  have h : ∀ r, r = k v → bv v k = r := fun r e => by rw [e]; exact bv_e
  exact h _ rfl
theorem gd_q {R : Type} {k : Option R} : gd true k = k := by
  have h : ∀ r, r = k → gd true k = r := fun r e => by rw [e]; exact gd_t
  exact h _ rfl
theorem inb03 : inb 0 3 = true := by decide
theorem clamp0 : (0 : Int32).toNatClampNeg = 0 := by decide
theorem bI_n {b : Bool} : bI b = nI b.toNat := by cases b <;> rfl
theorem m_lays7 {τ : St} : ∃ x : Int32 × St, (FK τ x.2 ∧ ∀ j, j < 120 → x.2.1 10 j = 0) ∧ ∀ K : St → Option St, lp (L_X12_lays_7 K) NN ((0 : Int32), τ) = K x.2 := by
  have key : ∃ x : Int32 × St, (x.1 = nI 120 ∧ FK τ x.2 ∧ ∀ j, j < 120 → x.2.1 10 j = 0) ∧ ∀ K : St → Option St, lp (L_X12_lays_7 K) NN ((0 : Int32), τ) = K x.2 := by
    refine lp_invK (fun k (x : Int32 × St) => x.1 = nI k ∧ FK τ x.2 ∧ ∀ j, j < k → x.2.1 10 j = 0) 120 (fun x => x.2) ⟨rfl, ⟨fun _ _ => rfl, rfl⟩, fun j hj => by omega⟩ (by omega) (fun k x hk hI => ?_) (fun x hI K rec => ?_)
    · obtain ⟨x1, x2⟩ := x
      obtain ⟨hx1, hF, hA⟩ := hI
      simp only at hx1 hF hA
      subst hx1
      refine ⟨(nI (k + 1), wI x2 10 k 0), ⟨rfl, ⟨fun j h1 => ?_, hF.2⟩, fun j hj => ?_⟩, fun K rec => ?_⟩
      · show (wI x2 10 k 0).1 j = _
        rw [wI_f (by omega)]; exact hF.1 j h1
      · show (wI x2 10 k 0).1 10 j = _
        rw [wI_e]
        by_cases e : j = k
        · rw [if_pos ⟨rfl, e⟩]
        · rw [if_neg (by omega)]; exact hA j (by omega)
      · unfold L_X12_lays_7
        simp (disch := omega) only [inb_t, gd_t, nI_clamp, bd_e, nI_1]
        rw [if_pos (show nI k < 120 from nI_lt (b := 120) hk (by omega))]
    · obtain ⟨x1, x2⟩ := x
      obtain ⟨hx1, _⟩ := hI
      simp only at hx1
      subst hx1
      unfold L_X12_lays_7
      rw [if_neg (show ¬ nI 120 < 120 by decide)]
  obtain ⟨x, ⟨_, f, g⟩, e⟩ := key
  exact ⟨x, ⟨f, g⟩, e⟩
theorem m_lays28 {τ : St} : ∃ x : Int32 × St, (FK τ x.2 ∧ x.2.1 10 = τ.1 10 ∧ ∀ p, p < 10 → x.2.1 11 p = 0 ∧ x.2.1 12 p = 0 ∧ x.2.1 13 p = 0) ∧ ∀ K : St → Option St, lp (L_X12_lays_28 K) NN ((0 : Int32), τ) = K x.2 := by
  have key : ∃ x : Int32 × St, (x.1 = nI 10 ∧ FK τ x.2 ∧ x.2.1 10 = τ.1 10 ∧ ∀ p, p < 10 → x.2.1 11 p = 0 ∧ x.2.1 12 p = 0 ∧ x.2.1 13 p = 0) ∧ ∀ K : St → Option St, lp (L_X12_lays_28 K) NN ((0 : Int32), τ) = K x.2 := by
    refine lp_invK (fun k (x : Int32 × St) => x.1 = nI k ∧ FK τ x.2 ∧ x.2.1 10 = τ.1 10 ∧ ∀ p, p < k → x.2.1 11 p = 0 ∧ x.2.1 12 p = 0 ∧ x.2.1 13 p = 0) 10 (fun x => x.2) ⟨rfl, ⟨fun _ _ => rfl, rfl⟩, rfl, fun j hj => by omega⟩ (by omega) (fun k x hk hI => ?_) (fun x hI K rec => ?_)
    · obtain ⟨x1, x2⟩ := x
      obtain ⟨hx1, hF, h10, hA⟩ := hI
      simp only at hx1 hF h10 hA
      subst hx1
      refine ⟨(nI (k + 1), wI (wI (wI x2 11 k 0) 12 k 0) 13 k 0), ⟨rfl, ⟨fun j h1 => ?_, hF.2⟩, ?_, fun j hj => ?_⟩, fun K rec => ?_⟩
      · show (wI (wI (wI x2 11 k 0) 12 k 0) 13 k 0).1 j = _
        rw [wI_f (by omega), wI_f (by omega), wI_f (by omega)]; exact hF.1 j h1
      · show (wI (wI (wI x2 11 k 0) 12 k 0) 13 k 0).1 10 = _
        rw [wI_f (by omega), wI_f (by omega), wI_f (by omega)]; exact h10
      · show (wI (wI (wI x2 11 k 0) 12 k 0) 13 k 0).1 11 j = 0 ∧ (wI (wI (wI x2 11 k 0) 12 k 0) 13 k 0).1 12 j = 0 ∧ (wI (wI (wI x2 11 k 0) 12 k 0) 13 k 0).1 13 j = 0
        simp only [wI_e]
        by_cases e : j = k
        · simp [e]
        · simp [e]; exact hA j (by omega)
      · unfold L_X12_lays_28
        simp (disch := omega) only [inb_t, gd_t, nI_clamp, bd_e, nI_1]
        rw [if_pos (show nI k < 10 from nI_lt (b := 10) hk (by omega))]
    · obtain ⟨x1, x2⟩ := x
      obtain ⟨hx1, _⟩ := hI
      simp only at hx1
      subst hx1
      unfold L_X12_lays_28
      rw [if_neg (show ¬ nI 10 < 10 by decide)]
  obtain ⟨x, ⟨_, f, g⟩, e⟩ := key
  exact ⟨x, ⟨f, g⟩, e⟩
theorem m_lays63 {τ : St} (h : TM τ tp tq ta tt T as) (hT : T ≤ 150) (hn : τ.1 0 0 = nI n) (hn2 : n ≤ 12) (hk : ∀ q, q < 12 → τ.1 2 q = kc q) (h10 : ∀ j, j < 120 → τ.1 10 j = 0) (h11 : ∀ p, p < 10 → τ.1 11 p = 0 ∧ τ.1 12 p = 0 ∧ τ.1 13 p = 0) : ∃ τ', lp L_X12_lays_63 NN ((0 : Int32), τ) = some τ' ∧ FK τ τ' ∧ (∀ p q, p < 10 → q < 12 → τ'.1 10 (12 * p + q) = sayF tp tq ta (cntN tt as T) p q) ∧ RbM τ' tp tq ta n kc (cntN tt as T) := by
  have hle := cnt_le (tt := tt) (as := as) T
  have key : ∃ x : Int32 × St, (x.1 = nI (cntN tt as T) ∧ FK τ x.2 ∧ (∀ p q, p < 10 → q < 12 → x.2.1 10 (12 * p + q) = sayF tp tq ta (cntN tt as T) p q) ∧ RbM x.2 tp tq ta n kc (cntN tt as T)) ∧ lp L_X12_lays_63 NN ((0 : Int32), τ) = some x.2 := by
    refine lp_inv (fun k (x : Int32 × St) => x.1 = nI k ∧ FK τ x.2 ∧ (∀ p q, p < 10 → q < 12 → x.2.1 10 (12 * p + q) = sayF tp tq ta k p q) ∧ RbM x.2 tp tq ta n kc k) (cntN tt as T) (fun x => some x.2) ⟨rfl, ⟨fun _ _ => rfl, rfl⟩, fun p q hp hq => h10 _ (by omega), fun p hp => by rw [rbP_0, rbP_0, rbP_0]; exact h11 p hp⟩ (by omega) (fun k x hk' hI => ?_) (fun x hI rec => ?_)
    · obtain ⟨x1, x2⟩ := x
      obtain ⟨hx1, hF, hS, hR⟩ := hI
      simp only at hx1 hF hS hR
      subst hx1
      obtain ⟨t1, t2, t3⟩ := h
      obtain ⟨a1, a2, a3, a4, a5, a6⟩ := t3 k (by omega)
      obtain ⟨r0, r1, r2⟩ := hR (tp k) a2
      have hno := cnt_ok (tt := tt) (as := as) T k hk'
      have e08 : x2.1 0 8 = nI T := by rw [hF.1 0 (by omega)]; exact t1
      have e00 : x2.1 0 0 = nI n := by rw [hF.1 0 (by omega)]; exact hn
      have e30 : x2.1 3 0 = as := by rw [hF.1 3 (by omega)]; exact t2
      have e6 : x2.1 6 k = nI (tp k) := by rw [hF.1 6 (by omega)]; exact a1
      have e7 : x2.1 7 k = nI (tq k) := by rw [hF.1 7 (by omega)]; exact a3
      have e8 : x2.1 8 k = ta k := by rw [hF.1 8 (by omega)]; exact a5
      have e9 : x2.1 9 k = tt k := by rw [hF.1 9 (by omega)]; exact a6
      have e2 : x2.1 2 (tq k) = kc (tq k) := by rw [hF.1 2 (by omega)]; exact hk _ a4
      have es : x2.1 10 (12 * tp k + tq k) = befF tp tq ta k := hS _ _ a2 a4
      have hsay : ∀ Y : St, (∀ j, Y.1 10 j = x2.1 10 j) → ∀ p q, p < 10 → q < 12 → (wI Y 10 (12 * tp k + tq k) (ta k)).1 10 (12 * p + q) = sayF tp tq ta (k + 1) p q := by
        intro Y hY p q hp hq
        show _ = if p = tp k ∧ q = tq k then ta k else sayF tp tq ta k p q
        rw [wI_e]
        by_cases e : p = tp k ∧ q = tq k
        · rw [if_pos e, if_pos (by rw [e.1, e.2]; exact ⟨rfl, rfl⟩)]
        · rw [if_neg e, if_neg (by omega), hY]; exact hS p q hp hq
      have lt : nI k < nI T := by rw [nI_ltI (by omega) (by omega)]; omega
      have i1 : inb (nI k) 150 = true := inb_t (by omega) (by omega)
      have i2 := inb03
      have i3 : inb (nI (12 * tp k + tq k)) 120 = true := inb_t (by omega) (by omega)
      have i4 : inb (nI (tp k)) 10 = true := inb_t (by omega) (by omega)
      have i5 : inb (nI (tq k)) 12 = true := inb_t (by omega) (by omega)
      have j1 : (nI k).toNatClampNeg = k := nI_clamp (by omega)
      have j3 : (nI (12 * tp k + tq k)).toNatClampNeg = 12 * tp k + tq k := nI_clamp (by omega)
      have j4 : (nI (tp k)).toNatClampNeg = tp k := nI_clamp (by omega)
      have j5 : (nI (tq k)).toNatClampNeg = tq k := nI_clamp (by omega)
      have j6 := clamp0
      have ix := m_ix a2 a4
      cases z : rubB tp tq ta n k
      · refine ⟨(nI (k + 1), wI x2 10 (12 * tp k + tq k) (ta k)), ⟨rfl, ⟨fun j hj => ?_, hF.2⟩, hsay x2 (fun _ => rfl), fun p hp => ?_⟩, fun rec => ?_⟩
        · show (wI x2 10 _ _).1 j = _
          rw [wI_f (by omega)]; exact hF.1 j hj
        · show (wI x2 10 _ _).1 11 p = _ ∧ (wI x2 10 _ _).1 12 p = _ ∧ (wI x2 10 _ _).1 13 p = _
          rw [wI_f (by omega), wI_f (by omega), wI_f (by omega), rbP_s, rbP_s, rbP_s]
          unfold rkB
          rw [z]
          simp only [Bool.false_and, Bool.and_false, Bool.toNat_false, Nat.add_zero]
          exact hR p hp
        · unfold L_X12_lays_63
          simp only [e08, i1, i2, gd_q, j1, j6, e30, e9]
          rw [if_pos lt, if_neg hno]
          simp only [bv_q, e6, e7, e8, ix, i3, i4, i5, gd_q, j3, j4, j5, es, e00, jn_e]
          unfold rubB at z
          by_cases c1 : befF tp tq ta k = 0
          · rw [if_pos c1, bd_e, nI_1]
          · by_cases c2 : befF tp tq ta k = ta k
            · rw [if_neg c1, if_pos c2, bd_e, nI_1]
            · have c3 : ¬ tq k < n := fun c3 => by simp [c1, c2, c3] at z
              rw [if_neg c1, if_neg c2, if_neg (by rw [nI_ltI (by omega) (by omega)]; exact c3), bd_e, nI_1]
      · unfold rubB at z
        have z0 := z
        simp only [Bool.and_eq_true, decide_eq_true_eq, Bool.not_eq_true', decide_eq_false_iff_not] at z
        obtain ⟨⟨c3, c1⟩, c2⟩ := z
        have zr : rubB tp tq ta n k = true := z0
        let Y : St := wI (wI (wI x2 11 (tp k) (nI (rbP tp tq ta n kc (tp k) 0 (k + 1)))) 12 (tp k) (nI (rbP tp tq ta n kc (tp k) 1 (k + 1)))) 13 (tp k) (nI (rbP tp tq ta n kc (tp k) 2 (k + 1)))
        have q0 : nI (rbP tp tq ta n kc (tp k) 0 k) + 1 = nI (rbP tp tq ta n kc (tp k) 0 (k + 1)) := by
          rw [rbP_s]; unfold rkB kdB; rw [zr]; simp [nI_1]
        have q1 : nI (rbP tp tq ta n kc (tp k) 1 k) + bI (kdB tp tq ta kc 1 k) = nI (rbP tp tq ta n kc (tp k) 1 (k + 1)) := by
          rw [rbP_s]; unfold rkB; rw [zr, bI_n, nI_add]; simp
        have q2 : nI (rbP tp tq ta n kc (tp k) 2 k) + bI (kdB tp tq ta kc 2 k) = nI (rbP tp tq ta n kc (tp k) 2 (k + 1)) := by
          rw [rbP_s]; unfold rkB; rw [zr, bI_n, nI_add]; simp
        refine ⟨(nI (k + 1), wI Y 10 (12 * tp k + tq k) (ta k)), ⟨rfl, ⟨fun j hj => ?_, hF.2⟩, hsay Y (fun j => ?_), fun p hp => ?_⟩, fun rec => ?_⟩
        · show (wI Y 10 _ _).1 j = _
          simp only [Y]
          rw [wI_f (by omega), wI_f (by omega), wI_f (by omega), wI_f (by omega)]; exact hF.1 j hj
        · simp only [Y]
          rw [wI_f (by omega), wI_f (by omega), wI_f (by omega)]
        · show (wI Y 10 _ _).1 11 p = _ ∧ (wI Y 10 _ _).1 12 p = _ ∧ (wI Y 10 _ _).1 13 p = _
          rw [wI_f (by omega), wI_f (by omega), wI_f (by omega)]
          simp only [Y, wI_e]
          by_cases e : p = tp k
          · simp [e]
          · simp only [e, and_false, if_false, and_true]
            rw [rbP_s, rbP_s, rbP_s, show decide (tp k = p) = false from decide_eq_false (fun g => e g.symm)]
            simp only [Bool.false_and, Bool.toNat_false, Nat.add_zero]
            simpa using hR p hp
        · have l17 : ∀ K : Bool → Option St, jn K (fun K17 => if kc (tq k) = 0 then K17 false else if befF tp tq ta k = kc (tq k) then K17 false else if ta k = kc (tq k) then K17 true else K17 false) = K (kdB tp tq ta kc 1 k) := by
            intro K
            rw [jn_e]
            unfold kdB
            rw [if_neg (show ¬ (1 : Int32) = 0 by decide), if_pos (show (1 : Int32) = 1 from rfl)]
            by_cases d1 : kc (tq k) = 0
            · simp [d1]
            · by_cases d2 : ta k = kc (tq k)
              · have : ¬ befF tp tq ta k = kc (tq k) := fun e => c2 (e.trans d2.symm)
                simp [d1, d2, this]
              · simp [d1, d2]
          have l20 : ∀ K : Bool → Option St, jn K (fun K20 => if kc (tq k) = 0 then K20 false else if befF tp tq ta k = kc (tq k) then (if ta k = 0 then K20 false else K20 true) else K20 false) = K (kdB tp tq ta kc 2 k) := by
            intro K
            rw [jn_e]
            unfold kdB
            rw [if_neg (show ¬ (2 : Int32) = 0 by decide), if_neg (show ¬ (2 : Int32) = 1 by decide)]
            by_cases d1 : kc (tq k) = 0
            · simp [d1]
            · by_cases d2 : befF tp tq ta k = kc (tq k)
              · by_cases d3 : ta k = 0 <;> simp [d1, d2, d3]
              · simp [d1, d2]
          unfold L_X12_lays_63
          simp only [e08, i1, i2, gd_q, j1, j6, e30, e9]
          rw [if_pos lt, if_neg hno]
          simp only [bv_q, e6, e7, e8, ix, i3, i4, i5, gd_q, j3, j4, j5, es, e00, c1, c2, if_false]
          have lq : nI (tq k) < nI n := by rw [nI_ltI (by omega) (by omega)]; exact c3
          simp only [lq, if_true, bd_e, r0, q0]
          rw [jn_e, wI_f (show (2 : Nat) ≠ 11 by decide), e2, l17, wI_f (show (12 : Nat) ≠ 11 by decide), r1, q1]
          rw [wI_f (show (2 : Nat) ≠ 12 by decide), wI_f (show (2 : Nat) ≠ 11 by decide), e2, l20, wI_f (show (13 : Nat) ≠ 12 by decide), wI_f (show (13 : Nat) ≠ 11 by decide), r2, q2]
          rw [nI_1]
    · obtain ⟨x1, x2⟩ := x
      obtain ⟨hx1, hF, _⟩ := hI
      simp only at hx1 hF
      subst hx1
      obtain ⟨t1, t2, t3⟩ := h
      have e08 : x2.1 0 8 = nI T := by rw [hF.1 0 (by omega)]; exact t1
      have e30 : x2.1 3 0 = as := by rw [hF.1 3 (by omega)]; exact t2
      unfold L_X12_lays_63
      simp only [e08]
      by_cases e : cntN tt as T < T
      · obtain ⟨a1, a2, a3, a4, a5, a6⟩ := t3 _ e
        have e9 : x2.1 9 (cntN tt as T) = tt (cntN tt as T) := by rw [hF.1 9 (by omega)]; exact a6
        rw [if_pos (by rw [nI_ltI (by omega) (by omega)]; exact e), nI_clamp (by omega), e9, clamp0, e30, if_pos (cnt_bad T e)]
        simp (disch := omega) only [inb_t, gd_q, inb03]
      · rw [if_neg (by rw [nI_ltI (by omega) (by omega)]; exact e)]
  obtain ⟨x, ⟨_, f, g1, g2⟩, e⟩ := key
  exact ⟨x.2, e, f, g1, g2⟩
theorem m_lays {τ : St} {t : Nat} (h : TM τ tp tq ta tt T as) (hT : T ≤ 150) (hn : τ.1 0 0 = nI n) (hn2 : n ≤ 12) (ht : τ.1 0 1 = nI t) (ht2 : t ≤ 12) (hP : τ.1 0 5 = nI P) : ∃ τ', f_X12_lays τ = some τ' ∧ FrM τ τ' ∧ τ'.2 = τ.2 ∧ MV τ' n P (kcF n t (τ.1 1)) (sayF tp tq ta (cntN tt as T)) ∧ RbM τ' tp tq ta n (kcF n t (τ.1 1)) (cntN tt as T) := by
  let τ1 := wA τ 2 (rwk 12 (kcF n t (τ.1 1)) (τ.1 2))
  obtain ⟨x, ⟨f1, z1⟩, e1⟩ := m_lays7 (τ := τ1)
  obtain ⟨y, ⟨f2, y10, z2⟩, e2⟩ := m_lays28 (τ := x.2)
  have ff : ∀ k, ¬ (10 ≤ k ∧ k < 14) → k ≠ 2 → y.2.1 k = τ.1 k := fun k h1 h2 => by
    rw [f2.1 k h1, f1.1 k h1]; exact wA_1 h2
  have fk : ∀ q, q < 12 → y.2.1 2 q = kcF n t (τ.1 1) q := fun q hq => by
    rw [f2.1 2 (by omega), f1.1 2 (by omega)]
    show (wA τ 2 _).1 2 q = _
    rw [wA_s, rwk_lt hq]
  have hTM : TM y.2 tp tq ta tt T as := by
    obtain ⟨t1, t2, t3⟩ := h
    refine ⟨by rw [ff 0 (by omega) (by omega)]; exact t1, by rw [ff 3 (by omega) (by omega)]; exact t2, fun i hi => ?_⟩
    rw [ff 6 (by omega) (by omega), ff 7 (by omega) (by omega), ff 8 (by omega) (by omega), ff 9 (by omega) (by omega)]
    exact t3 i hi
  obtain ⟨τ', e3, f3, g1, g2⟩ := m_lays63 (n := n) (kc := kcF n t (τ.1 1)) hTM hT (by rw [ff 0 (by omega) (by omega)]; exact hn) hn2 fk (fun j hj => by rw [y10]; exact z1 j hj) z2
  refine ⟨τ', ?_, fun k hk => ?_, ?_, ⟨?_, ?_, fun q hq => ?_, g1⟩, g2⟩
  · unfold f_X12_lays
    rw [m_keyNow hn hn2 ht ht2]
    simp only [Option.bind_some, jn_e]
    rw [show wA τ 2 (rwk 12 (kcF n t (τ.1 1)) (τ.1 2)) = τ1 from rfl, e1, e2, e3]
  · rw [f3.1 k (by omega), ff k (by omega) (by omega)]
  · rw [f3.2, f2.2, f1.2]; rfl
  · rw [f3.1 0 (by omega), ff 0 (by omega) (by omega)]; exact hn
  · rw [f3.1 0 (by omega), ff 0 (by omega) (by omega)]; exact hP
  · rw [f3.1 2 (by omega)]; exact fk q hq
end M13
