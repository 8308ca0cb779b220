/-! THE MODEL'S chain -/
section M12
variable {n P : Nat} {kc : Nat → Int32} {sy : Nat → Nat → Int32} {rw_ pl : Nat → Nat} {lim : Nat} {rb : Nat → Nat}
def Fr18 (σ σ' : St) : Prop := ∀ k, k ≠ 18 → σ'.1 k = σ.1 k
theorem Fr18_L {σ σ' : St} (h : Fr18 σ σ') : FrL σ σ' := fun k hk => h k (by omega)
theorem m_chain_b {σ : St} (h : MV σ n P kc sy) (hn : n ≤ 12) (hP : P ≤ 10) (hrb : ∀ p, rb p ≤ 150) (h11 : ∀ p, p < P → σ.1 11 p = nI (rb p)) {lk : Nat → Nat → Bool} (hc : ∀ i j, lk i j = lk j i) (hr : ∀ i, i < P → ∀ j, j < i → σ.1 17 (10 * i + j) = bI (lk i j)) {a : Nat} (ha : a < P) {l : Nat → Nat} {M : Nat} (hM : ∀ p, l p ≤ M) (hM2 : M < 1000) (x7 : Int32 × Int32 × St) (hx7 : x7.1 = nI a) (s : St) (hF : Fr18 σ s) (hA : ∀ p, p < P → s.1 18 p = nI (l p)) :
    ∃ s', (Fr18 σ s' ∧ ∀ p, p < P → s'.1 18 p = nI (lenB (gB lk (fun p => mkB n kc sy p (-1)) rb) a l P p)) ∧ ∀ K : Int32 × Int32 × St → Option (Int32 × St), lp (L_X12_chainNow_54 K x7) NN (0, nI (mxN l P), s) = K (nI (a + 1), nI (mxN (lenB (gB lk (fun p => mkB n kc sy p (-1)) rb) a l P) P), s') := by
  have hg : gB lk (fun p => mkB n kc sy p (-1)) rb a a = false := gB_self a
  generalize hG : gB lk (fun p => mkB n kc sy p (-1)) rb = G at hg
  have hub : ∀ k p, lenB G a l k p ≤ M + 1 := lenB_le hg hM
  have key := lp_invK (F := fun K => L_X12_chainNow_54 K x7) (fun k (x : Int32 × Int32 × St) => x.1 = nI k ∧ x.2.1 = nI (mxN (lenB G a l k) P) ∧ Fr18 σ x.2.2 ∧ ∀ p, p < P → x.2.2.1 18 p = nI (lenB G a l k p)) P (fun x => (nI (a + 1), x.2.1, x.2.2)) (x0 := (0, nI (mxN l P), s)) ⟨rfl, rfl, hF, hA⟩ (by omega)
    (by
      intro k x hk hI
      obtain ⟨x1, x2, x3⟩ := x
      obtain ⟨hx1, hx2, hF, hA⟩ := hI
      simp only at hx1 hx2 hF hA
      subst hx1; subst hx2
      have hv := MV_Fr h (Fr18_L hF)
      have hr3 : ∀ i, i < P → ∀ j, j < i → x3.1 17 (10 * i + j) = bI (lk i j) := fun i hi j hj => by rw [hF 17 (by omega)]; exact hr i hi j hj
      have hmx : mxN (lenB G a l k) P ≤ M + 1 := mx_le (hub k)
      have u1 := hub k k
      have u2 := hub k a
      have hgave : f_X12_gave (nI a) (nI k) x3 = some (gvI (fun p => mkB n kc sy p (-1)) rb a k) := m_gave hv hn hrb (by omega) (by omega) (by rw [hF 11 (by omega)]; exact h11 a ha) (by rw [hF 11 (by omega)]; exact h11 k hk)
      by_cases e : G a k = true
      · have e' : (¬ a = k ∧ lk a k = true) ∧ gvB (fun p => mkB n kc sy p (-1)) rb a k = true := by
          rw [← hG] at e
          unfold gB at e
          simpa using e
        have e3 : lenB G a l (k + 1) = updN (lenB G a l k) k (max (lenB G a l k k) (lenB G a l k a + 1)) := by rw [lenB, stp, if_pos e]
        have gI := (gvI_a (mk := fun p => mkB n kc sy p (-1)) (rb := rb) (show a < 10 by omega) (show k < 10 by omega) e'.1.1).mpr e'.2
        by_cases e4 : lenB G a l k k < lenB G a l k a + 1
        · have e5 : max (lenB G a l k k) (lenB G a l k a + 1) = lenB G a l k a + 1 := by omega
          rw [e5] at e3
          refine ⟨(nI (k + 1), nI (mxN (lenB G a l (k + 1)) P), wI x3 18 k (nI (lenB G a l k a + 1))), ⟨rfl, rfl, fun j hj => by unfold wI; rw [wA_1 hj]; exact hF j hj, fun p hp => ?_⟩, fun K rec => ?_⟩
          · unfold wI
            show (wA x3 18 _).1 18 p = _
            rw [wA_s, e3]
            exact rowN_upd hA p hp
          · show L_X12_chainNow_54 K x7 rec _ = _
            unfold L_X12_chainNow_54
            have e6 : (wI x3 18 k (nI (lenB G a l k a + 1))).1 18 k = nI (lenB G a l k a + 1) := by unfold wI; rw [wA_s]; simp [upd]
            simp (disch := omega) only [hv.2.1, nI_ltI, hk, if_true, hx7, m_isPair hc hP hr3 ha hk, Option.bind_some, e'.1.1, e'.1.2, decide_false, Bool.not_false, Bool.and_self, hgave, gI, inb_t, gd_t, nI_clamp, hA k hk, hA a ha, nI_1, e4, bd_e, e6, bv_e]
            rw [e3, mx_upd hk (by omega)]
            by_cases e7 : mxN (lenB G a l k) P < lenB G a l k a + 1
            · rw [if_pos e7, Nat.max_eq_right (by omega)]
            · rw [if_neg e7, Nat.max_eq_left (by omega)]
        · have e5 : max (lenB G a l k k) (lenB G a l k a + 1) = lenB G a l k k := by omega
          have e8 : updN (lenB G a l k) k (lenB G a l k k) = lenB G a l k := by
            funext j
            unfold updN
            by_cases z : j = k
            · rw [if_pos z, z]
            · rw [if_neg z]
          rw [e5, e8] at e3
          refine ⟨(nI (k + 1), nI (mxN (lenB G a l (k + 1)) P), x3), ⟨rfl, rfl, hF, by rw [e3]; exact hA⟩, fun K rec => ?_⟩
          show L_X12_chainNow_54 K x7 rec _ = _
          unfold L_X12_chainNow_54
          simp (disch := omega) only [hv.2.1, nI_ltI, hk, if_true, hx7, m_isPair hc hP hr3 ha hk, Option.bind_some, e'.1.1, e'.1.2, decide_false, Bool.not_false, Bool.and_self, hgave, gI, inb_t, gd_t, nI_clamp, hA k hk, hA a ha, nI_1, e4, if_false, e3]
      · have e3 : lenB G a l (k + 1) = lenB G a l k := by rw [lenB, stp, if_neg e]
        refine ⟨(nI (k + 1), nI (mxN (lenB G a l (k + 1)) P), x3), ⟨rfl, rfl, hF, by rw [e3]; exact hA⟩, fun K rec => ?_⟩
        show L_X12_chainNow_54 K x7 rec _ = _
        unfold L_X12_chainNow_54
        simp (disch := omega) only [hv.2.1, nI_ltI, hk, if_true, hx7, m_isPair hc hP hr3 ha hk, Option.bind_some, hgave, nI_1, e3]
        cases zp : (!(decide (a = k)) && lk a k)
        · rfl
        · have hab : ¬ a = k := fun z => by rw [z] at zp; simp at zp
          have hng : ¬ gvI (fun p => mkB n kc sy p (-1)) rb a k = nI a := fun z => by
            have := (gvI_a (by omega) (by omega) hab).mp z
            apply e
            rw [← hG]
            unfold gB
            rw [zp, this]
            rfl
          rw [if_pos rfl, if_neg hng])
    (by
      intro x hI K rec
      obtain ⟨x1, x2, x3⟩ := x
      obtain ⟨hx1, hx2, hF, hA⟩ := hI
      simp only at hx1 hx2 hF hA
      subst hx1
      have hv := MV_Fr h (Fr18_L hF)
      show L_X12_chainNow_54 K x7 rec _ = _
      unfold L_X12_chainNow_54
      simp (disch := omega) only [hv.2.1, nI_ltI, Nat.lt_irrefl, if_false, hx7, nI_1])
  obtain ⟨⟨x1, x2, x3⟩, ⟨_, hx2, hF, hA⟩, e⟩ := key
  simp only at hx2 hF hA e
  refine ⟨x3, ⟨hF, hA⟩, fun K => ?_⟩
  rw [e K, hx2]
theorem m_chain {σ : St} (h : MW σ n P kc sy rw_ pl lim) (d : DB n P kc sy rw_ pl lim) (hrb : ∀ p, rb p ≤ 150) (h11 : ∀ p, p < P → σ.1 11 p = nI (rb p)) : ∃ σ', f_X12_chainNow σ = some (nI (mxN (lenR P (gB (lkB n P kc sy rw_ pl lim) (fun p => mkB n kc sy p (-1)) rb) P) P), σ') ∧ FrL σ σ' := by
  have hn := d.1
  have hP := d.2.1
  obtain ⟨s1, e1, F1, hr⟩ := m_pairs h d
  have hw := MW_Fr h F1
  have hc : ∀ i j, lkB n P kc sy rw_ pl lim i j = lkB n P kc sy rw_ pl lim j i := lkB_comm
  have g11 : ∀ p, p < P → s1.1 11 p = nI (rb p) := fun p hp => by rw [F1 11 (by omega)]; exact h11 p hp
  unfold f_X12_chainNow
  rw [e1, Option.bind_some]
  generalize lkB n P kc sy rw_ pl lim = lk at hr hc
  have hg : ∀ a, gB lk (fun p => mkB n kc sy p (-1)) rb a a = false := fun a => gB_self a
  have hv1 := hw.1
  have init : ∃ x : Int32 × Int32 × St, (x.1 = nI P ∧ x.2.1 = nI (min P 1) ∧ Fr18 s1 x.2.2 ∧ ∀ p, p < P → x.2.2.1 18 p = nI 1) ∧ ∀ K : Int32 × St → Option (Int32 × St), lp (L_X12_chainNow_8 K) NN (0, 0, s1) = K (x.2.1, x.2.2) := by
    refine lp_invK (fun k (x : Int32 × Int32 × St) => x.1 = nI k ∧ x.2.1 = nI (min k 1) ∧ Fr18 s1 x.2.2 ∧ ∀ p, p < k → x.2.2.1 18 p = nI 1) P (fun x => (x.2.1, x.2.2)) ⟨rfl, rfl, fun _ _ => rfl, fun p hp => by omega⟩ (by omega) (fun k x hk hI => ?_) (fun x hI K rec => ?_)
    · obtain ⟨x1, x2, x3⟩ := x
      obtain ⟨hx1, hx2, hF, hA⟩ := hI
      simp only at hx1 hx2 hF hA
      subst hx1
      have hv := MV_Fr hv1 (Fr18_L hF)
      refine ⟨(nI (k + 1), nI (min (k + 1) 1), wI x3 18 k (nI 1)), ⟨rfl, rfl, fun j hj => by unfold wI; rw [wA_1 hj]; exact hF j hj, fun p hp => ?_⟩, fun K rec => ?_⟩
      · unfold wI
        show (wA x3 18 _).1 18 p = _
        rw [wA_s]
        unfold upd
        by_cases z : p = k
        · rw [if_pos z]
        · rw [if_neg z]; exact hA p (by omega)
      · unfold L_X12_chainNow_8
        simp (disch := omega) only [hv.2.1, nI_ltI, hk, if_true, inb_t, gd_t, nI_clamp, bd_e, nI_1]
        rw [Nat.min_eq_right (by omega)]
        rfl
    · obtain ⟨x1, x2, x3⟩ := x
      obtain ⟨hx1, hx2, hF, hA⟩ := hI
      simp only at hx1 hx2 hF hA
      subst hx1
      have hv := MV_Fr hv1 (Fr18_L hF)
      unfold L_X12_chainNow_8
      simp (disch := omega) only [hv.2.1, nI_ltI, Nat.lt_irrefl, if_false]
  obtain ⟨⟨y1, y2, y3⟩, ⟨_, hy2, F3, A3⟩, k3⟩ := init
  simp only at hy2 F3 A3 k3
  simp only [jn_e]
  rw [k3, hy2]
  generalize hG : gB lk (fun p => mkB n kc sy p (-1)) rb = G at hg
  have mid : ∀ (r : Nat) (x5 : Int32 × Int32 × St), r < P → x5.1 = nI r → ∀ s : St, Fr18 s1 s → (∀ p, p < P → s.1 18 p = nI (lenR P G r p)) → ∃ s', (Fr18 s1 s' ∧ (∀ p, p < P → s'.1 18 p = nI (lenR P G (r + 1) p))) ∧ ∀ K : Int32 × Int32 × St → Option (Int32 × St), lp (L_X12_chainNow_43 K x5) NN (0, nI (mxN (lenR P G r) P), s) = K (nI (r + 1), nI (mxN (lenR P G (r + 1)) P), s') := by
    intro r x5 hrP hx5 s hF hA
    have hl1 : ∀ p, lenR P G r p ≤ 1 + r * P := lenR_le hg r
    have hrP2 : r * P ≤ 10 * 10 := Nat.mul_le_mul (by omega) hP
    have key := lp_invK (F := fun K => L_X12_chainNow_43 K x5) (fun k (x : Int32 × Int32 × St) => x.1 = nI k ∧ x.2.1 = nI (mxN (lenA P G (lenR P G r) k) P) ∧ Fr18 s1 x.2.2 ∧ ∀ p, p < P → x.2.2.1 18 p = nI (lenA P G (lenR P G r) k p)) P (fun x => (nI (r + 1), x.2.1, x.2.2)) (x0 := (0, nI (mxN (lenR P G r) P), s)) ⟨rfl, rfl, hF, hA⟩ (by omega)
      (by
        intro k x hk hI
        obtain ⟨x1, x2, x3⟩ := x
        obtain ⟨hx1, hx2, hF, hA⟩ := hI
        simp only at hx1 hx2 hF hA
        subst hx1; subst hx2
        have hv := MV_Fr hv1 (Fr18_L hF)
        have hl2 : ∀ p, lenA P G (lenR P G r) k p ≤ (1 + r * P) + k := lenA_le hg hl1 k
        obtain ⟨s', ⟨q1, q2⟩, q3⟩ := m_chain_b (rb := rb) (lk := lk) hv1 hn hP hrb g11 hc hr hk hl2 (by omega) (nI k, nI (mxN (lenA P G (lenR P G r) k) P), x3) rfl x3 hF hA
        rw [hG] at q2 q3
        refine ⟨(nI (k + 1), nI (mxN (lenA P G (lenR P G r) (k + 1)) P), s'), ⟨rfl, rfl, q1, q2⟩, fun K rec => ?_⟩
        show L_X12_chainNow_43 K x5 rec _ = _
        unfold L_X12_chainNow_43
        simp (disch := omega) only [hv.2.1, nI_ltI, hk, if_true, q3, lenA])
      (by
        intro x hI K rec
        obtain ⟨x1, x2, x3⟩ := x
        obtain ⟨hx1, hx2, hF, hA⟩ := hI
        simp only at hx1 hx2 hF hA
        subst hx1
        have hv := MV_Fr hv1 (Fr18_L hF)
        show L_X12_chainNow_43 K x5 rec _ = _
        unfold L_X12_chainNow_43
        simp (disch := omega) only [hv.2.1, nI_ltI, Nat.lt_irrefl, if_false, hx5, nI_1])
    obtain ⟨⟨x1, x2, x3⟩, ⟨_, hx2, hF, hA⟩, e⟩ := key
    simp only at hx2 hF hA e
    refine ⟨x3, ⟨hF, hA⟩, fun K => ?_⟩
    rw [e K, hx2]
    rfl
  have outer : ∃ x : Int32 × Int32 × St, (x.1 = nI P ∧ x.2.1 = nI (mxN (lenR P G P) P) ∧ Fr18 s1 x.2.2 ∧ ∀ p, p < P → x.2.2.1 18 p = nI (lenR P G P p)) ∧ lp L_X12_chainNow_33 NN (0, nI (min P 1), y3) = some (x.2.1, x.2.2) := by
    refine lp_inv (fun k (x : Int32 × Int32 × St) => x.1 = nI k ∧ x.2.1 = nI (mxN (lenR P G k) P) ∧ Fr18 s1 x.2.2 ∧ ∀ p, p < P → x.2.2.1 18 p = nI (lenR P G k p)) P (fun x => some (x.2.1, x.2.2)) ⟨rfl, by show nI (min P 1) = nI (mxN (fun _ => 1) P); rw [mx_one], F3, A3⟩ (by omega) (fun k x hk hI => ?_) (fun x hI rec => ?_)
    · obtain ⟨x1, x2, x3⟩ := x
      obtain ⟨hx1, hx2, hF, hA⟩ := hI
      simp only at hx1 hx2 hF hA
      subst hx1; subst hx2
      have hv := MV_Fr hv1 (Fr18_L hF)
      obtain ⟨s', ⟨q1, q2⟩, q3⟩ := mid k (nI k, nI (mxN (lenR P G k) P), x3) hk rfl x3 hF hA
      refine ⟨(nI (k + 1), nI (mxN (lenR P G (k + 1)) P), s'), ⟨rfl, rfl, q1, q2⟩, fun rec => ?_⟩
      unfold L_X12_chainNow_33
      simp (disch := omega) only [hv.2.1, nI_ltI, hk, if_true, q3]
    · obtain ⟨x1, x2, x3⟩ := x
      obtain ⟨hx1, hx2, hF, hA⟩ := hI
      simp only at hx1 hx2 hF hA
      subst hx1
      have hv := MV_Fr hv1 (Fr18_L hF)
      unfold L_X12_chainNow_33
      simp (disch := omega) only [hv.2.1, nI_ltI, Nat.lt_irrefl, if_false]
  obtain ⟨⟨x1, x2, x3⟩, ⟨_, hx2, hF, hA⟩, e⟩ := outer
  simp only at hx2 hF hA e
  exact ⟨x3, by rw [e, hx2], FrL_tr F1 (Fr18_L hF)⟩
end M12
