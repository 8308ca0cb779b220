/-! LINKS: who is odd and beside whom -/
theorem bit_or (L b j : Nat) : bitN (L ||| 2 ^ b) j = (bitN L j || decide (b = j)) := by
  rw [bit_tb, bit_tb, Nat.testBit_or, Nat.testBit_two_pow]
theorem shl1 : ∀ b, b < 12 → (1 : Int32) <<< (nI b &&& 31) = nI (2 ^ b) := by decide +kernel
theorem or_nI (a b : Nat) : nI a ||| nI b = nI (a ||| b) := by
  apply Int32.toBitVec_inj.mp
  show BitVec.ofNat 32 a ||| BitVec.ofNat 32 b = BitVec.ofNat 32 (a ||| b)
  rw [BitVec.ofNat_or]
theorem or_lt {L b : Nat} (hL : L < 1024) (hb : b < 10) : L ||| 2 ^ b < 1024 := Nat.or_lt_two_pow (n := 10) hL (Nat.pow_lt_pow_right (by omega) hb)
def DB (n P : Nat) (kc : Nat → Int32) (sy : Nat → Nat → Int32) (rw_ pl : Nat → Nat) (lim : Nat) : Prop :=
  n ≤ 12 ∧ P ≤ 10 ∧ (∀ p q, p < 10 → q < 12 → ∃ v, v ≤ 5 ∧ sy p q = nI v) ∧ (∀ q, q < 12 → ∃ v, v ≤ 5 ∧ kc q = nI v) ∧ lim ≤ 1000 ∧ ∀ p, p < P → rw_ p < 5 ∧ pl p < 5
def CW (σ : St) (n P : Nat) (kc : Nat → Int32) (sy : Nat → Nat → Int32) (rw_ pl : Nat → Nat) (lim : Nat) : Prop :=
  CV σ n P kc sy ∧ σ.1 6 0 = nI lim ∧ ∀ p, p < P → σ.1 13 p = nI (rw_ p) ∧ σ.1 14 p = nI (pl p)
def MW (σ : St) (n P : Nat) (kc : Nat → Int32) (sy : Nat → Nat → Int32) (rw_ pl : Nat → Nat) (lim : Nat) : Prop :=
  MV σ n P kc sy ∧ σ.1 3 2 = nI lim ∧ ∀ p, p < P → σ.1 4 p = nI (rw_ p) ∧ σ.1 5 p = nI (pl p)
section M9
variable {n P : Nat} {kc : Nat → Int32} {sy : Nat → Nat → Int32} {rw_ pl : Nat → Nat} {lim : Nat}
theorem CW_Fr {σ σ' : St} (h : CW σ n P kc sy rw_ pl lim) (f : Fr σ σ') : CW σ' n P kc sy rw_ pl lim :=
  ⟨CV_Fr h.1 f, by rw [f 6 (by omega)]; exact h.2.1, fun p hp => ⟨by rw [f 13 (by omega)]; exact (h.2.2 p hp).1, by rw [f 14 (by omega)]; exact (h.2.2 p hp).2⟩⟩
theorem MW_Fr {σ σ' : St} (h : MW σ n P kc sy rw_ pl lim) (f : FrL σ σ') : MW σ' n P kc sy rw_ pl lim :=
  ⟨MV_Fr h.1 f, by rw [f 3 (by omega)]; exact h.2.1, fun p hp => ⟨by rw [f 4 (by omega)]; exact (h.2.2 p hp).1, by rw [f 5 (by omega)]; exact (h.2.2 p hp).2⟩⟩
def lkB (n P : Nat) (kc : Nat → Int32) (sy : Nat → Nat → Int32) (rw_ pl : Nat → Nat) (lim a b : Nat) : Bool := nrB rw_ pl a b && odB n P kc sy lim a b
theorem lkB_comm (a b : Nat) : lkB n P kc sy rw_ pl lim a b = lkB n P kc sy rw_ pl lim b a := by unfold lkB; rw [nrB_comm, odB_comm]
theorem cw_near {σ : St} (h : CW σ n P kc sy rw_ pl lim) (d : DB n P kc sy rw_ pl lim) {a b : Nat} (ha : a < P) (hb : b < P) : f_X7_areNear (nI a) (nI b) σ = some (nrB rw_ pl a b) :=
  c_near (by have := d.2.1; omega) (by have := d.2.1; omega) (h.2.2 a ha).1 (h.2.2 b hb).1 (h.2.2 a ha).2 (h.2.2 b hb).2 (d.2.2.2.2.2 a ha).1 (d.2.2.2.2.2 b hb).1 (d.2.2.2.2.2 a ha).2 (d.2.2.2.2.2 b hb).2
theorem mw_near {σ : St} (h : MW σ n P kc sy rw_ pl lim) (d : DB n P kc sy rw_ pl lim) {a b : Nat} (ha : a < P) (hb : b < P) : f_X12_areBeside (nI a) (nI b) σ = some (nrB rw_ pl a b) :=
  m_near (by have := d.2.1; omega) (by have := d.2.1; omega) (h.2.2 a ha).1 (h.2.2 b hb).1 (h.2.2 a ha).2 (h.2.2 b hb).2 (d.2.2.2.2.2 a ha).1 (d.2.2.2.2.2 b hb).1 (d.2.2.2.2.2 a ha).2 (d.2.2.2.2.2 b hb).2
theorem cw_odd {σ : St} (h : CW σ n P kc sy rw_ pl lim) (d : DB n P kc sy rw_ pl lim) {a b : Nat} (ha : a < P) (hb : b < P) (hab : a ≠ b) : ∃ σ', f_X6_areOdd (nI a) (nI b) σ = some (odB n P kc sy lim a b, σ') ∧ Fr2 σ σ' := c_odd h.1 d.1 d.2.1 d.2.2.1 d.2.2.2.1 h.2.1 d.2.2.2.2.1 ha hb hab
theorem mw_odd {σ : St} (h : MW σ n P kc sy rw_ pl lim) (d : DB n P kc sy rw_ pl lim) {a b : Nat} (ha : a < P) (hb : b < P) (hab : a ≠ b) : ∃ σ', f_X12_areOdd (nI a) (nI b) σ = some (odB n P kc sy lim a b, σ') ∧ σ'.1 = σ.1 := m_odd h.1 d.1 d.2.1 d.2.2.2.1 h.2.1 d.2.2.2.2.1 ha hb hab
/-- the links laid so far: those of pairs ahead of (a, b) -/
def lkI (P : Nat) (lk : Nat → Nat → Bool) (a b : Nat) (r : Nat → Int32) : Prop :=
  ∀ i, i < P → ∃ L, L < 1024 ∧ r i = nI L ∧ ∀ j, bitN L j = true ↔ ((j < P ∧ i ≠ j ∧ ((i < j ∧ (i < a ∨ (i = a ∧ j < b))) ∨ (j < i ∧ (j < a ∨ (j = a ∧ i < b))))) ∧ lk i j = true)
theorem lkI_skip {lk : Nat → Nat → Bool} {a b : Nat} {r : Nat → Int32} (h : lkI P lk a b r) (hc : ∀ i j, lk i j = lk j i) (hf : lk a b = false) : lkI P lk a (b + 1) r := by
  intro i hi
  obtain ⟨L, h1, h2, h3⟩ := h i hi
  refine ⟨L, h1, h2, fun j => ?_⟩
  rw [h3 j]
  constructor
  · rintro ⟨⟨c1, c2, c3⟩, c4⟩
    exact ⟨⟨c1, c2, by omega⟩, c4⟩
  · rintro ⟨⟨c1, c2, c3⟩, c4⟩
    refine ⟨⟨c1, c2, ?_⟩, c4⟩
    by_cases e1 : i = a ∧ j = b
    · obtain ⟨rfl, rfl⟩ := e1
      rw [hf] at c4
      exact absurd c4 (by decide)
    · by_cases e2 : j = a ∧ i = b
      · obtain ⟨rfl, rfl⟩ := e2
        rw [hc, hf] at c4
        exact absurd c4 (by decide)
      · omega
theorem lkI_set {lk : Nat → Nat → Bool} {a b : Nat} {r : Nat → Int32} (h : lkI P lk a b r) (hc : ∀ i j, lk i j = lk j i) (ht : lk a b = true) (hab : a < b) (hb : b < P) (hP : P ≤ 10) : lkI P lk a (b + 1) (upd (upd r a (r a ||| (1 <<< (nI b &&& 31)))) b (upd r a (r a ||| (1 <<< (nI b &&& 31))) b ||| (1 <<< (nI a &&& 31)))) := by
  intro i hi
  obtain ⟨L, h1, h2, h3⟩ := h i hi
  by_cases e1 : i = a
  · subst e1
    have hne : ¬ i = b := by omega
    refine ⟨L ||| 2 ^ b, or_lt h1 (by omega), ?_, fun j => ?_⟩
    · simp only [upd, hne, if_false, if_true]
      rw [h2, shl1 b (by omega), or_nI]
    · rw [bit_or, Bool.or_eq_true, h3 j, decide_eq_true_eq]
      constructor
      · rintro (⟨⟨c1, c2, c3⟩, c4⟩ | rfl)
        · exact ⟨⟨c1, c2, by omega⟩, c4⟩
        · exact ⟨⟨hb, by omega, by omega⟩, ht⟩
      · rintro ⟨⟨c1, c2, c3⟩, c4⟩
        by_cases e : b = j
        · exact Or.inr e
        · exact Or.inl ⟨⟨c1, c2, by omega⟩, c4⟩
  · by_cases e2 : i = b
    · subst e2
      have hne : ¬ i = a := e1
      refine ⟨L ||| 2 ^ a, or_lt h1 (by omega), ?_, fun j => ?_⟩
      · simp only [upd, hne, if_false, if_true]
        rw [h2, shl1 a (by omega), or_nI]
      · rw [bit_or, Bool.or_eq_true, h3 j, decide_eq_true_eq]
        constructor
        · rintro (⟨⟨c1, c2, c3⟩, c4⟩ | rfl)
          · exact ⟨⟨c1, c2, by omega⟩, c4⟩
          · exact ⟨⟨by omega, by omega, by omega⟩, by rw [hc]; exact ht⟩
        · rintro ⟨⟨c1, c2, c3⟩, c4⟩
          by_cases e : a = j
          · exact Or.inr e
          · exact Or.inl ⟨⟨c1, c2, by omega⟩, c4⟩
    · refine ⟨L, h1, ?_, fun j => ?_⟩
      · simp only [upd, e1, e2, if_false]
        exact h2
      · rw [h3 j]
        constructor
        · rintro ⟨⟨c1, c2, c3⟩, c4⟩
          exact ⟨⟨c1, c2, by omega⟩, c4⟩
        · rintro ⟨⟨c1, c2, c3⟩, c4⟩
          exact ⟨⟨c1, c2, by omega⟩, c4⟩
theorem lkI_next {lk : Nat → Nat → Bool} {a : Nat} {r : Nat → Int32} (h : lkI P lk a P r) : lkI P lk (a + 1) (a + 2) r := by
  intro i hi
  obtain ⟨L, h1, h2, h3⟩ := h i hi
  refine ⟨L, h1, h2, fun j => ?_⟩
  rw [h3 j]
  constructor
  · rintro ⟨⟨c1, c2, c3⟩, c4⟩
    exact ⟨⟨c1, c2, by omega⟩, c4⟩
  · rintro ⟨⟨c1, c2, c3⟩, c4⟩
    exact ⟨⟨c1, c2, by omega⟩, c4⟩
theorem wA_other {σ : St} {k j : Nat} {f : Nat → Int32} : (wA σ k f).1 j = if j = k then f else σ.1 j := rfl
set_option maxRecDepth 100000 in
theorem c_link {σ : St} (h : CW σ n P kc sy rw_ pl lim) (d : DB n P kc sy rw_ pl lim) : ∃ σ', f_X2_link σ = some σ' ∧ Fr σ σ' ∧ ∀ i, i < P → ∃ L, L < 1024 ∧ σ'.1 24 i = nI L ∧ ∀ j, bitN L j = true ↔ ((j < P ∧ i ≠ j) ∧ lkB n P kc sy rw_ pl lim i j = true) := by
  have hP := d.2.1
  have hc : ∀ i j, lkB n P kc sy rw_ pl lim i j = lkB n P kc sy rw_ pl lim j i := lkB_comm
  unfold f_X2_link
  rw [c_fill (by omega), Option.bind_some]
  have f1 : Fr σ (wA σ 24 (rwk 10 (fun _ => 0) (σ.1 24))) := Fr_wA (by omega)
  have r1 : lkI P (lkB n P kc sy rw_ pl lim) 0 1 ((wA σ 24 (rwk 10 (fun _ => 0) (σ.1 24))).1 24) := by
    intro i hi
    refine ⟨0, by omega, by rw [wA_s, rwk_lt (by omega)]; rfl, fun j => ?_⟩
    constructor
    · intro e
      rw [bit_tb, Nat.zero_testBit] at e
      exact absurd e (by decide)
    · rintro ⟨⟨c1, c2, c3⟩, c4⟩
      omega
  generalize wA σ 24 (rwk 10 (fun _ => 0) (σ.1 24)) = s1 at f1 r1
  have inner : ∀ (a : Nat) (x3 : Int32 × St), a < P → x3.1 = nI a → ∀ (s : St), Fr σ s → lkI P (lkB n P kc sy rw_ pl lim) a (a + 1) (s.1 24) → ∃ s', (Fr σ s' ∧ lkI P (lkB n P kc sy rw_ pl lim) a P (s'.1 24)) ∧ ∀ K : Int32 × St → Option St, lp (L_X2_link_25 K x3) NN (nI (a + 1), s) = K (nI (a + 1), s') := by
    intro a x3 ha hx3 s hF hI
    have key := lp_invK (F := fun K => L_X2_link_25 K x3) (fun k (x : Int32 × St) => x.1 = nI (a + 1 + k) ∧ Fr σ x.2 ∧ lkI P (lkB n P kc sy rw_ pl lim) a (a + 1 + k) (x.2.1 24)) (P - (a + 1)) (fun x => (nI (a + 1), x.2)) (x0 := (nI (a + 1), s)) ⟨rfl, hF, hI⟩ (by omega)
      (by
        intro k x hk hI
        obtain ⟨x1, x2⟩ := x
        obtain ⟨hx1, hF, hL⟩ := hI
        simp only at hx1 hF hL
        subst hx1
        have hw := CW_Fr h hF
        obtain ⟨b, hb⟩ : ∃ b, a + 1 + k = b := ⟨_, rfl⟩
        rw [hb] at hL ⊢
        have hbP : b < P := by omega
        rw [show a + 1 + (k + 1) = b + 1 by omega]
        have hlk : ∀ u v, nrB rw_ pl a b = u → odB n P kc sy lim a b = v → lkB n P kc sy rw_ pl lim a b = (u && v) := fun u v hu hv => by unfold lkB; rw [hu, hv]
        by_cases e1 : nrB rw_ pl a b = true
        · obtain ⟨s2, q1, q2⟩ := cw_odd hw d ha hbP (by omega)
          by_cases e2 : odB n P kc sy lim a b = true
          · refine ⟨(nI (b + 1), wI (wI s2 24 a (s2.1 24 a ||| (1 <<< (nI b &&& 31)))) 24 b ((wI s2 24 a (s2.1 24 a ||| (1 <<< (nI b &&& 31)))).1 24 b ||| (1 <<< (nI a &&& 31)))), ⟨rfl, Fr_tr hF (Fr_tr (Fr2_Fr q2) (Fr_tr (Fr_wI (by omega)) (Fr_wI (by omega)))), ?_⟩, fun K rec => ?_⟩
            · have := lkI_set (r := x2.1 24) hL hc (by rw [hlk _ _ e1 e2]; rfl) (by omega) hbP hP
              show lkI P _ a (b + 1) ((wI (wI s2 24 a _) 24 b _).1 24)
              unfold wI
              rw [wA_s, wA_s, q2 24 (by omega)]
              exact this
            · show L_X2_link_25 K x3 rec _ = _
              unfold L_X2_link_25
              simp (disch := omega) only [hw.1.2.1, nI_ltI, hbP, if_true, hx3, cw_near hw d ha hbP, e1, Option.bind_some, q1, e2, inb_t, gd_t, nI_clamp, bd_e, nI_1]
          · have e2' : odB n P kc sy lim a b = false := by
              cases z : odB n P kc sy lim a b
              · rfl
              · exact absurd z e2
            refine ⟨(nI (b + 1), s2), ⟨rfl, Fr_tr hF (Fr2_Fr q2), ?_⟩, fun K rec => ?_⟩
            · show lkI P _ a (b + 1) (s2.1 24)
              rw [q2 24 (by omega)]
              exact lkI_skip hL hc (by rw [hlk _ _ e1 e2']; rfl)
            · show L_X2_link_25 K x3 rec _ = _
              unfold L_X2_link_25
              simp (disch := omega) only [hw.1.2.1, nI_ltI, hbP, if_true, hx3, cw_near hw d ha hbP, e1, Option.bind_some, q1, e2', nI_1]
              rfl
        · have e1' : nrB rw_ pl a b = false := by
            cases z : nrB rw_ pl a b
            · rfl
            · exact absurd z e1
          refine ⟨(nI (b + 1), x2), ⟨rfl, hF, lkI_skip hL hc (by rw [hlk _ _ e1' rfl]; rfl)⟩, fun K rec => ?_⟩
          show L_X2_link_25 K x3 rec _ = _
          unfold L_X2_link_25
          simp (disch := omega) only [hw.1.2.1, nI_ltI, hbP, if_true, hx3, cw_near hw d ha hbP, e1', Option.bind_some, nI_1]
          rfl)
      (by
        intro x hI K rec
        obtain ⟨x1, x2⟩ := x
        obtain ⟨hx1, hF, hL⟩ := hI
        simp only at hx1 hF hL
        subst hx1
        have hw := CW_Fr h hF
        show L_X2_link_25 K x3 rec _ = _
        unfold L_X2_link_25
        simp (disch := omega) only [hw.1.2.1, nI_ltI, show ¬ a + 1 + (P - (a + 1)) < P by omega, if_false, hx3, nI_1])
    obtain ⟨x, hx, e⟩ := key
    have hz : a + 1 + (P - (a + 1)) = P := by omega
    rw [hz] at hx
    exact ⟨x.2, ⟨hx.2.1, hx.2.2⟩, e⟩
  have outer : ∃ x : Int32 × St, (x.1 = nI P ∧ Fr σ x.2 ∧ lkI P (lkB n P kc sy rw_ pl lim) P (P + 1) (x.2.1 24)) ∧ lp L_X2_link_10 NN (0, s1) = some x.2 := by
    refine lp_inv (fun k (x : Int32 × St) => x.1 = nI k ∧ Fr σ x.2 ∧ lkI P (lkB n P kc sy rw_ pl lim) k (k + 1) (x.2.1 24)) P (fun x => some x.2) ⟨rfl, f1, r1⟩ (by omega) (fun k x hk hI => ?_) (fun x hI rec => ?_)
    · obtain ⟨x1, x2⟩ := x
      obtain ⟨hx1, hF, hL⟩ := hI
      simp only at hx1 hF hL
      subst hx1
      have hw := CW_Fr h hF
      obtain ⟨s', ⟨q1, q2⟩, q3⟩ := inner k (nI k, x2) hk rfl x2 hF hL
      refine ⟨(nI (k + 1), s'), ⟨rfl, q1, lkI_next q2⟩, fun rec => ?_⟩
      unfold L_X2_link_10
      simp (disch := omega) only [hw.1.2.1, nI_ltI, hk, if_true, bv_e, nI_1, q3]
    · obtain ⟨x1, x2⟩ := x
      obtain ⟨hx1, hF, hL⟩ := hI
      simp only at hx1 hF hL
      subst hx1
      have hw := CW_Fr h hF
      unfold L_X2_link_10
      simp (disch := omega) only [hw.1.2.1, nI_ltI, Nat.lt_irrefl, if_false]
  obtain ⟨x, ⟨_, hF, hL⟩, e⟩ := outer
  refine ⟨x.2, e, hF, fun i hi => ?_⟩
  obtain ⟨L, h1, h2, h3⟩ := hL i hi
  refine ⟨L, h1, h2, fun j => ?_⟩
  rw [h3 j]
  constructor
  · rintro ⟨⟨c1, c2, c3⟩, c4⟩
    exact ⟨⟨c1, c2⟩, c4⟩
  · rintro ⟨⟨c1, c2⟩, c4⟩
    exact ⟨⟨c1, c2, by omega⟩, c4⟩
end M9
