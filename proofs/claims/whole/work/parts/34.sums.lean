/-! BESIDE, pairs that are odd, sums -/
theorem tri {P : Nat} {g : Nat → Nat → Nat} : sm P (fun a => sm (P - (a + 1)) (fun i => g a (a + 1 + i))) = sm P (fun b => sm b (fun a => g a b)) := by
  induction P with
  | zero => rfl
  | succ P ih =>
    rw [sm_s, sm_s, ← ih]
    rw [show P + 1 - (P + 1) = 0 by omega, sm_0, Nat.add_zero, ← sm_add]
    refine sm_congr (fun a ha => ?_)
    rw [show P + 1 - (a + 1) = (P - (a + 1)) + 1 by omega, sm_s]
    congr 2
    omega
section M13
variable {n P : Nat} {kc : Nat → Int32} {sy : Nat → Nat → Int32} {rw_ pl : Nat → Nat} {lim : Nat} {rb : Nat → Nat}
def besN (n P : Nat) (kc : Nat → Int32) (sy : Nat → Nat → Int32) (rw_ pl : Nat → Nat) : Nat := sm P (fun b => sm b (fun a => if nrB rw_ pl a b = true then shN n kc sy a b else 0))
theorem c_beside {σ : St} (h : CW σ n P kc sy rw_ pl lim) (d : DB n P kc sy rw_ pl lim) : f_X6_besideInAll σ = some (nI (besN n P kc sy rw_ pl)) := by
  have hP := d.2.1
  have inner : ∀ (a : Nat) (r1 : Int32 × Int32 → Option Int32) (w : Int32) (acc : Nat), a < P → lp (L_X6_besideInAll_19 σ r1 (nI a, w)) NN (nI (a + 1), nI acc) = r1 (nI (a + 1), nI (acc + sm (P - (a + 1)) (fun i => if nrB rw_ pl a (a + 1 + i) = true then shN n kc sy a (a + 1 + i) else 0))) := by
    intro a r1 w acc ha
    refine lp_count (fun k => (nI (a + 1 + k), nI (acc + sm k (fun i => if nrB rw_ pl a (a + 1 + i) = true then shN n kc sy a (a + 1 + i) else 0)))) (P - (a + 1)) rfl (by omega) (fun k hk rec => ?_) (fun rec => ?_)
    · unfold L_X6_besideInAll_19
      simp (disch := omega) only [h.1.2.1, nI_ltI, show a + 1 + k < P by omega, if_true, cw_near h d ha (show a + 1 + k < P by omega), c_same h.1 d.1 (show a < 10 by omega) (show a + 1 + k < 10 by omega), Option.bind_some, bv_e, nI_1, nI_add, sm_s]
      cases nrB rw_ pl a (a + 1 + k)
      · rfl
      · simp only [if_true, Nat.add_assoc]
    · unfold L_X6_besideInAll_19
      simp (disch := omega) only [h.1.2.1, nI_ltI, show ¬ a + 1 + (P - (a + 1)) < P by omega, if_false, nI_1]
  unfold f_X6_besideInAll besN
  rw [← tri]
  refine lp_count (fun k => (nI k, nI (sm k (fun a => sm (P - (a + 1)) (fun i => if nrB rw_ pl a (a + 1 + i) = true then shN n kc sy a (a + 1 + i) else 0))))) P rfl (by omega) (fun k hk rec => ?_) (fun rec => ?_)
  · unfold L_X6_besideInAll_4
    simp (disch := omega) only [h.1.2.1, nI_ltI, hk, if_true, bv_e, nI_1, inner _ _ _ _ hk, sm_s]
  · unfold L_X6_besideInAll_4
    simp (disch := omega) only [h.1.2.1, nI_ltI, Nat.lt_irrefl, if_false]
def opc (n P : Nat) (kc : Nat → Int32) (sy : Nat → Nat → Int32) (lim : Nat) : Nat := sm P (fun b => sm b (fun a => (odB n P kc sy lim a b).toNat))
theorem c_oddPairs {σ : St} (h : CW σ n P kc sy rw_ pl lim) (d : DB n P kc sy rw_ pl lim) : ∃ σ', f_X6_oddPairs σ = some (nI (opc n P kc sy lim), σ') ∧ Fr σ σ' := by
  have hP := d.2.1
  have inner : ∀ (a : Nat) (x2 : Int32 × Int32 × St) (acc : Nat), a < P → x2.1 = nI a → ∀ s, Fr σ s → ∃ s', Fr σ s' ∧ ∀ K : Int32 × Int32 × St → Option (Int32 × St), lp (L_X6_oddPairs_19 K x2) NN (nI (a + 1), nI acc, s) = K (nI (a + 1), nI (acc + sm (P - (a + 1)) (fun i => (odB n P kc sy lim a (a + 1 + i)).toNat)), s') := by
    intro a x2 acc ha hx2 s hF
    have key := lp_invK (F := fun K => L_X6_oddPairs_19 K x2) (fun k (x : Int32 × Int32 × St) => x.1 = nI (a + 1 + k) ∧ x.2.1 = nI (acc + sm k (fun i => (odB n P kc sy lim a (a + 1 + i)).toNat)) ∧ Fr σ x.2.2) (P - (a + 1)) (fun x => (nI (a + 1), x.2.1, x.2.2)) (x0 := (nI (a + 1), nI acc, s)) ⟨rfl, rfl, hF⟩ (by omega)
      (by
        intro k x hk hI
        obtain ⟨x1, y2, x3⟩ := x
        obtain ⟨hx1, hy2, hF⟩ := hI
        simp only at hx1 hy2 hF
        subst hx1; subst hy2
        have hw := CW_Fr h hF
        obtain ⟨s2, q1, q2⟩ := cw_odd hw d ha (show a + 1 + k < P by omega) (by omega)
        refine ⟨(nI (a + 1 + (k + 1)), nI (acc + sm (k + 1) (fun i => (odB n P kc sy lim a (a + 1 + i)).toNat)), s2), ⟨rfl, rfl, Fr_tr hF (Fr2_Fr q2)⟩, fun K rec => ?_⟩
        show L_X6_oddPairs_19 K x2 rec _ = _
        unfold L_X6_oddPairs_19
        simp (disch := omega) only [hw.1.2.1, nI_ltI, show a + 1 + k < P by omega, if_true, hx2, q1, Option.bind_some, nI_1, sm_s]
        cases odB n P kc sy lim a (a + 1 + k)
        · rfl
        · simp only [if_true, Nat.add_assoc]
          rfl)
      (by
        intro x hI K rec
        obtain ⟨x1, y2, x3⟩ := x
        obtain ⟨hx1, hy2, hF⟩ := hI
        simp only at hx1 hy2 hF
        subst hx1
        have hw := CW_Fr h hF
        show L_X6_oddPairs_19 K x2 rec _ = _
        unfold L_X6_oddPairs_19
        simp (disch := omega) only [hw.1.2.1, nI_ltI, show ¬ a + 1 + (P - (a + 1)) < P by omega, if_false, hx2, nI_1])
    obtain ⟨⟨x1, y2, x3⟩, ⟨_, hy2, hF⟩, e⟩ := key
    simp only at hy2 hF e
    exact ⟨x3, hF, fun K => by rw [e K, hy2]⟩
  unfold f_X6_oddPairs opc
  rw [← tri]
  have outer : ∃ x : Int32 × Int32 × St, (x.1 = nI P ∧ x.2.1 = nI (sm P (fun a => sm (P - (a + 1)) (fun i => (odB n P kc sy lim a (a + 1 + i)).toNat))) ∧ Fr σ x.2.2) ∧ lp L_X6_oddPairs_4 NN (0, 0, σ) = some (x.2.1, x.2.2) := by
    refine lp_inv (fun k (x : Int32 × Int32 × St) => x.1 = nI k ∧ x.2.1 = nI (sm k (fun a => sm (P - (a + 1)) (fun i => (odB n P kc sy lim a (a + 1 + i)).toNat))) ∧ Fr σ x.2.2) P (fun x => some (x.2.1, x.2.2)) ⟨rfl, rfl, Fr_rf⟩ (by omega) (fun k x hk hI => ?_) (fun x hI rec => ?_)
    · obtain ⟨x1, y2, x3⟩ := x
      obtain ⟨hx1, hy2, hF⟩ := hI
      simp only at hx1 hy2 hF
      subst hx1; subst hy2
      have hw := CW_Fr h hF
      obtain ⟨s', q1, q2⟩ := inner k (nI k, nI (sm k (fun a => sm (P - (a + 1)) (fun i => (odB n P kc sy lim a (a + 1 + i)).toNat))), x3) (sm k (fun a => sm (P - (a + 1)) (fun i => (odB n P kc sy lim a (a + 1 + i)).toNat))) hk rfl x3 hF
      refine ⟨(nI (k + 1), nI (sm (k + 1) (fun a => sm (P - (a + 1)) (fun i => (odB n P kc sy lim a (a + 1 + i)).toNat))), s'), ⟨rfl, rfl, q1⟩, fun rec => ?_⟩
      unfold L_X6_oddPairs_4
      simp (disch := omega) only [hw.1.2.1, nI_ltI, hk, if_true, bv_e, nI_1, q2, sm_s]
    · obtain ⟨x1, y2, x3⟩ := x
      obtain ⟨hx1, hy2, hF⟩ := hI
      simp only at hx1 hy2 hF
      subst hx1
      have hw := CW_Fr h hF
      unfold L_X6_oddPairs_4
      simp (disch := omega) only [hw.1.2.1, nI_ltI, Nat.lt_irrefl, if_false]
  obtain ⟨⟨x1, y2, x3⟩, ⟨_, hy2, hF⟩, e⟩ := outer
  simp only at hy2 hF e
  exact ⟨x3, by rw [e, hy2], hF⟩
def anG (n P : Nat) (sy : Nat → Nat → Int32) : Nat := sm P (fun p => sm n (fun q => (!(decide (sy p q = 0))).toNat))
theorem c_answers {σ : St} (h : CV σ n P kc sy) (hn : n ≤ 12) (hP : P ≤ 10) : f_X11_answersGiven σ = some (nI (anG n P sy)) := by
  have inner : ∀ (a : Nat) (r1 : Int32 × Int32 → Option Int32) (w : Int32) (acc : Nat), a < P → lp (L_X11_answersGiven_17 σ r1 (nI a, w)) NN (0, nI acc) = r1 (nI (a + 1), nI (acc + sm n (fun q => (!(decide (sy a q = 0))).toNat))) := by
    intro a r1 w acc ha
    refine lp_count (fun k => (nI k, nI (acc + sm k (fun q => (!(decide (sy a q = 0))).toNat)))) n rfl (by omega) (fun k hk rec => ?_) (fun rec => ?_)
    · unfold L_X11_answersGiven_17
      simp (disch := omega) only [h.1, nI_ltI, hk, if_true, inb_t, gd_t, nI_clamp, cur_id, h.2.2.2 a k (by omega) (by omega), nI_1, sm_s]
      by_cases e : sy a k = 0 <;> simp [e, Nat.add_assoc]
    · unfold L_X11_answersGiven_17
      simp (disch := omega) only [h.1, nI_ltI, Nat.lt_irrefl, if_false, nI_1]
  unfold f_X11_answersGiven anG
  refine lp_count (fun k => (nI k, nI (sm k (fun p => sm n (fun q => (!(decide (sy p q = 0))).toNat))))) P rfl (by omega) (fun k hk rec => ?_) (fun rec => ?_)
  · unfold L_X11_answersGiven_4
    simp (disch := omega) only [h.2.1, nI_ltI, hk, if_true, inner _ _ _ _ hk, sm_s]
  · unfold L_X11_answersGiven_4
    simp (disch := omega) only [h.2.1, nI_ltI, Nat.lt_irrefl, if_false]
def tgN (n P : Nat) (kc : Nat → Int32) (sy : Nat → Nat → Int32) : Nat := sm P (fun p => mkB n kc sy p (-1))
theorem c_together {σ : St} (h : CV σ n P kc sy) (hn : n ≤ 12) (hP : P ≤ 10) : f_X5_together σ = some (nI (tgN n P kc sy)) := by
  unfold f_X5_together tgN
  refine lp_count (fun k => (nI k, nI (sm k (fun p => mkB n kc sy p (-1))))) P rfl (by omega) (fun k hk rec => ?_) (fun rec => ?_)
  · unfold L_X5_together_4
    simp (disch := omega) only [h.2.1, nI_ltI, hk, if_true, c_markOf h hn (show k < 10 by omega), Option.bind_some, bv_e, nI_add, nI_1, sm_s]
  · unfold L_X5_together_4
    simp (disch := omega) only [h.2.1, nI_ltI, Nat.lt_irrefl, if_false]
/-- what the model's sum grows by at p -/
def incN (n P : Nat) (kc : Nat → Int32) (sy : Nat → Nat → Int32) (lim : Nat) (rb : Nat → Nat) (w p : Nat) : Nat :=
  if w = 4 then sm n (fun q => (!(decide (sy p q = 0))).toNat) else if w = 5 then mkB n kc sy p (-1) else if w = 6 then sm p (fun k => (odB n P kc sy lim p k).toNat) else if w = 7 then rb p else 0
theorem m_sumLoop {σ : St} (h : MW σ n P kc sy rw_ pl lim) (d : DB n P kc sy rw_ pl lim) (h11 : ∀ p, p < P → σ.1 11 p = nI (rb p)) {w : Nat} (hw : w < 100) (s0 : Nat) : ∃ σ', lp (L_X12_sumOf_21 (nI w)) NN (0, nI s0, σ) = some (nI (s0 + sm P (incN n P kc sy lim rb w)), σ') ∧ σ'.1 = σ.1 := by
  have hn := d.1
  have hP := d.2.1
  have w4 : (nI w = 4) ↔ w = 4 := nI_eq (b := 4) (by omega) (by omega)
  have w5 : (nI w = 5) ↔ w = 5 := nI_eq (b := 5) (by omega) (by omega)
  have w6 : (nI w = 6) ↔ w = 6 := nI_eq (b := 6) (by omega) (by omega)
  have w7 : (nI w = 7) ↔ w = 7 := nI_eq (b := 7) (by omega) (by omega)
  have in1 : ∀ (p : Nat) (x5 : Int32 × Int32 × St) (acc : Nat) (K : Int32 → Option (Int32 × St)), p < P → x5.1 = nI p → x5.2.2.1 = σ.1 → lp (L_X12_sumOf_32 (nI w) x5 K) NN (0, nI acc) = K (nI (acc + if w = 4 then sm n (fun q => (!(decide (sy p q = 0))).toNat) else 0)) := by
    intro p x5 acc K hp hx5 hs
    have hv : MV x5.2.2 n P kc sy := MV_Fr h.1 (fun j _ => by rw [hs])
    by_cases e : w = 4
    · rw [if_pos e]
      have e' := w4.mpr e
      refine lp_count (fun k => (nI k, nI (acc + sm k (fun q => (!(decide (sy p q = 0))).toNat)))) n rfl (by omega) (fun k hk rec => ?_) (fun rec => ?_)
      · unfold L_X12_sumOf_32
        simp (disch := omega) only [hv.1, nI_ltI, hk, if_true, e', hx5, m_ix (show p < 10 by omega) (show k < 12 by omega), inb_t, gd_t, nI_clamp, hv.2.2.2 p k (by omega) (by omega), bv_e, add0, nI_1, sm_s]
        by_cases e2 : sy p k = 0 <;> simp [e2, Nat.add_assoc]
      · unfold L_X12_sumOf_32
        simp (disch := omega) only [hv.1, nI_ltI, Nat.lt_irrefl, if_false]
    · rw [if_neg e, Nat.add_zero]
      refine lp_count (fun _ => (0, nI acc)) 0 rfl (by omega) (fun k hk rec => by omega) (fun rec => ?_)
      unfold L_X12_sumOf_32
      simp only [w4, e, if_false, ite_self]
  have in2 : ∀ (p : Nat) (x5 : Int32 × Int32 × St) (acc : Nat), p < P → x5.1 = nI p → ∀ s : St, s.1 = σ.1 → ∃ s', s'.1 = σ.1 ∧ ∀ K : Int32 × St → Option (Int32 × St), lp (L_X12_sumOf_78 (nI w) x5 K) NN (0, nI acc, s) = K (nI (acc + if w = 6 then sm p (fun k => (odB n P kc sy lim p k).toNat) else 0), s') := by
    intro p x5 acc hp hx5 s hs
    by_cases e : w = 6
    · rw [if_pos e]
      have e' := w6.mpr e
      have key := lp_invK (F := fun K => L_X12_sumOf_78 (nI w) x5 K) (fun k (x : Int32 × Int32 × St) => x.1 = nI k ∧ x.2.1 = nI (acc + sm k (fun j => (odB n P kc sy lim p j).toNat)) ∧ x.2.2.1 = σ.1) p (fun x => (x.2.1, x.2.2)) (x0 := (0, nI acc, s)) ⟨rfl, rfl, hs⟩ (by omega)
        (by
          intro k x hk hI
          obtain ⟨x1, y2, x3⟩ := x
          obtain ⟨hx1, hy2, hF⟩ := hI
          simp only at hx1 hy2 hF
          subst hx1; subst hy2
          have hm : MW x3 n P kc sy rw_ pl lim := MW_Fr h (fun j _ => by rw [hF])
          obtain ⟨s2, q1, q2⟩ := mw_odd hm d hp (show k < P by omega) (by omega)
          refine ⟨(nI (k + 1), nI (acc + sm (k + 1) (fun j => (odB n P kc sy lim p j).toNat)), s2), ⟨rfl, rfl, q2.trans hF⟩, fun K rec => ?_⟩
          show L_X12_sumOf_78 (nI w) x5 K rec _ = _
          unfold L_X12_sumOf_78
          simp (disch := omega) only [hx5, nI_ltI, hk, if_true, e', q1, Option.bind_some, bv_e, add0, nI_1, sm_s]
          cases odB n P kc sy lim p k
          · rfl
          · simp only [if_true, Nat.add_assoc]
            rfl)
        (by
          intro x hI K rec
          obtain ⟨x1, y2, x3⟩ := x
          obtain ⟨hx1, hy2, hF⟩ := hI
          simp only at hx1 hy2 hF
          subst hx1
          show L_X12_sumOf_78 (nI w) x5 K rec _ = _
          unfold L_X12_sumOf_78
          simp (disch := omega) only [hx5, nI_ltI, Nat.lt_irrefl, if_false])
      obtain ⟨⟨x1, y2, x3⟩, ⟨_, hy2, hF⟩, e2⟩ := key
      simp only at hy2 hF e2
      exact ⟨x3, hF, fun K => by rw [e2 K, hy2]⟩
    · rw [if_neg e, Nat.add_zero]
      refine ⟨s, hs, fun K => ?_⟩
      refine lp_count (fun _ => (0, nI acc, s)) 0 rfl (by omega) (fun k hk rec => by omega) (fun rec => ?_)
      unfold L_X12_sumOf_78
      simp only [w6, e, if_false, ite_self]
  have outer : ∃ x : Int32 × Int32 × St, (x.1 = nI P ∧ x.2.1 = nI (s0 + sm P (incN n P kc sy lim rb w)) ∧ x.2.2.1 = σ.1) ∧ lp (L_X12_sumOf_21 (nI w)) NN (0, nI s0, σ) = some (x.2.1, x.2.2) := by
    refine lp_inv (fun k (x : Int32 × Int32 × St) => x.1 = nI k ∧ x.2.1 = nI (s0 + sm k (incN n P kc sy lim rb w)) ∧ x.2.2.1 = σ.1) P (fun x => some (x.2.1, x.2.2)) ⟨rfl, rfl, rfl⟩ (by omega) (fun k x hk hI => ?_) (fun x hI rec => ?_)
    · obtain ⟨x1, y2, x3⟩ := x
      obtain ⟨hx1, hy2, hF⟩ := hI
      simp only at hx1 hy2 hF
      subst hx1; subst hy2
      obtain ⟨s', q1, q2⟩ := in2 k (nI k, nI (s0 + sm k (incN n P kc sy lim rb w)), x3) ((s0 + sm k (incN n P kc sy lim rb w)) + if w = 4 then sm n (fun q => (!(decide (sy k q = 0))).toNat) else 0) hk rfl x3 hF
      have hv : MV x3 n P kc sy := MV_Fr h.1 (fun j _ => by rw [hF])
      have hv2 : MV s' n P kc sy := MV_Fr h.1 (fun j _ => by rw [q1])
      have i1 := fun K => in1 k (nI k, nI (s0 + sm k (incN n P kc sy lim rb w)), x3) (s0 + sm k (incN n P kc sy lim rb w)) K hk rfl hF
      refine ⟨(nI (k + 1), nI (s0 + sm (k + 1) (incN n P kc sy lim rb w)), s'), ⟨rfl, rfl, q1⟩, fun rec => ?_⟩
      unfold L_X12_sumOf_21
      simp (disch := omega) only [hv.2.1, nI_ltI, hk, if_true, jn_e, i1, q2, w5, w7, m_markBut hv2 hn (show k < 10 by omega), Option.bind_some, inb_t, gd_t, nI_clamp, q1, h11 k hk, bv_e, nI_add, add0, nI_1, sm_s]
      unfold incN
      by_cases c4 : w = 4
      · subst c4; simp [Nat.add_assoc]
      · by_cases c5 : w = 5
        · subst c5; simp [Nat.add_assoc]
        · by_cases c6 : w = 6
          · subst c6; simp [Nat.add_assoc]
          · by_cases c7 : w = 7
            · subst c7; simp [Nat.add_assoc]
            · simp [c4, c5, c6, c7]
    · obtain ⟨x1, y2, x3⟩ := x
      obtain ⟨hx1, hy2, hF⟩ := hI
      simp only at hx1 hy2 hF
      subst hx1
      have hv : MV x3 n P kc sy := MV_Fr h.1 (fun j _ => by rw [hF])
      unfold L_X12_sumOf_21
      simp (disch := omega) only [hv.2.1, nI_ltI, Nat.lt_irrefl, if_false]
  obtain ⟨⟨x1, y2, x3⟩, ⟨_, hy2, hF⟩, e⟩ := outer
  simp only at hy2 hF e
  exact ⟨x3, by rw [e, hy2], hF⟩
end M13
