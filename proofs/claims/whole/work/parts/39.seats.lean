/-! seats: the sum over seats beside for any order of the pupils -/
def shS (n : Nat) (kc : Nat → Int32) (sy : Nat → Nat → Int32) (a b : Nat) : Nat := if a = b then 0 else shN n kc sy a b
def FS (τ x : St) : Prop := (∀ k, k ≠ 15 → k ≠ 16 → x.1 k = τ.1 k) ∧ x.2 = τ.2
theorem FS_L {τ x : St} (h : FS τ x) : FrL τ x := fun k hk => h.1 k (by omega) (by omega)
/-- what an order of the pupils (who sits where) brings -/
def ordS (P : Nat) (rw_ pl : Nat → Nat) (S : Nat → Nat → Nat) (o : Nat → Nat) : Nat := sm P (fun b => sm b (fun a => if nrB rw_ pl a b = true then S (o b) (o a) else 0))
section M15
variable {n P : Nat} {kc : Nat → Int32} {sy : Nat → Nat → Int32} {rw_ pl : Nat → Nat} {lim : Nat}
theorem ix10 {a b : Nat} : (10 : Int32) * nI a + nI b = nI (10 * a + b) := by
  rw [show (10 : Int32) = nI 10 from rfl, pk_mul, nI_add]
theorem ix7 {a b : Nat} : nI a * (7 : Int32) + nI b = nI (7 * a + b) := by
  rw [show (7 : Int32) = nI 7 from rfl, pk_mul, nI_add, Nat.mul_comm]
theorem m_seatsRow {τ : St} (h : MV τ n P kc sy) (hn : n ≤ 12) (hP : P ≤ 10) {a : Nat} (ha : a < P) {s : St} (hF : FS τ s) (hS : ∀ i, i < a → ∀ j, j < P → s.1 16 (10 * i + j) = nI (shS n kc sy i j)) (x15 : Int32 × St) (hx : x15.1 = nI a) : ∃ s', (FS τ s' ∧ s'.1 15 = s.1 15 ∧ ∀ i, i < a + 1 → ∀ j, j < P → s'.1 16 (10 * i + j) = nI (shS n kc sy i j)) ∧ ∀ K : (Int32 × St) → Option (Int32 × St), lp (L_X12_seatsNow_19 K x15) NN ((0 : Int32), s) = K (nI (a + 1), s') := by
  have key : ∃ x : Int32 × St, (x.1 = nI P ∧ FS τ x.2 ∧ x.2.1 15 = s.1 15 ∧ (∀ i, i < a → ∀ j, j < P → x.2.1 16 (10 * i + j) = nI (shS n kc sy i j)) ∧ ∀ j, j < P → x.2.1 16 (10 * a + j) = nI (shS n kc sy a j)) ∧ ∀ K : (Int32 × St) → Option (Int32 × St), lp (L_X12_seatsNow_19 K x15) NN ((0 : Int32), s) = K (nI (a + 1), x.2) := by
    refine lp_invK (F := fun K => L_X12_seatsNow_19 K x15) (fun k (x : Int32 × St) => x.1 = nI k ∧ FS τ x.2 ∧ x.2.1 15 = s.1 15 ∧ (∀ i, i < a → ∀ j, j < P → x.2.1 16 (10 * i + j) = nI (shS n kc sy i j)) ∧ ∀ j, j < k → x.2.1 16 (10 * a + j) = nI (shS n kc sy a j)) P (fun x => (nI (a + 1), x.2)) ⟨rfl, hF, rfl, hS, fun j hj => by omega⟩ (by omega) (fun k x hk hI => ?_) (fun x hI K rec => ?_)
    · obtain ⟨x1, s1⟩ := x
      obtain ⟨hx1, hG, h15, hA, hB⟩ := hI
      simp only at hx1 hG h15 hA hB
      subst hx1
      have hv := MV_Fr h (FS_L hG)
      refine ⟨(nI (k + 1), wI s1 16 (10 * a + k) (nI (shS n kc sy a k))), ⟨rfl, ⟨fun j h1 h2 => ?_, hG.2⟩, ?_, fun i hi j hj => ?_, fun j hj => ?_⟩, fun K rec => ?_⟩
      · show (wI s1 16 _ _).1 j = _
        rw [wI_f h2]; exact hG.1 j h1 h2
      · show (wI s1 16 _ _).1 15 = _
        rw [wI_f (by omega)]; exact h15
      · show (wI s1 16 _ _).1 16 _ = _
        rw [wI_e, if_neg (by omega)]; exact hA i hi j hj
      · show (wI s1 16 _ _).1 16 _ = _
        rw [wI_e]
        by_cases e : j = k
        · rw [if_pos ⟨rfl, by rw [e]⟩, e]
        · rw [if_neg (by omega)]; exact hB j (by omega)
      · unfold L_X12_seatsNow_19
        have e5 : s1.1 0 5 = nI P := hv.2.1
        have lt : nI k < nI P := by rw [nI_ltI (by omega) (by omega)]; exact hk
        have i1 : inb (nI (10 * a + k)) 100 = true := inb_t (by omega) (by omega)
        have j1 : (nI (10 * a + k)).toNatClampNeg = 10 * a + k := nI_clamp (by omega)
        simp only [e5, lt, if_true, hx, ix10, i1, gd_q, j1, bd_e, jn_e, m_same hv hn (show a < 10 by omega) (show k < 10 by omega), Option.bind_some, nI_1]
        unfold shS
        by_cases e : a = k
        · rw [if_pos (by rw [e]), if_pos e]; rfl
        · rw [if_neg (by rw [nI_eq (by omega) (by omega)]; exact e), if_neg e]
    · obtain ⟨x1, s1⟩ := x
      obtain ⟨hx1, hG, _⟩ := hI
      simp only at hx1 hG
      subst hx1
      have hv := MV_Fr h (FS_L hG)
      have e5 : s1.1 0 5 = nI P := hv.2.1
      have lt : ¬ nI P < nI P := by rw [nI_ltI (by omega) (by omega)]; omega
      show L_X12_seatsNow_19 K x15 rec (nI P, s1) = _
      unfold L_X12_seatsNow_19
      simp only [e5, lt, if_false, hx, nI_1]
  obtain ⟨x, ⟨_, f, g1, g2, g3⟩, e⟩ := key
  refine ⟨x.2, ⟨f, g1, fun i hi j hj => ?_⟩, e⟩
  by_cases c : i = a
  · rw [c]; exact g3 j hj
  · exact g2 i (by omega) j hj
theorem m_seatsPrep {τ : St} (h : MV τ n P kc sy) (hn : n ≤ 12) (hP : P ≤ 10) : ∃ τ', (FS τ τ' ∧ (∀ p, p < P → τ'.1 15 p = nI p) ∧ ∀ i, i < P → ∀ j, j < P → τ'.1 16 (10 * i + j) = nI (shS n kc sy i j)) ∧ ∀ K : St → Option (Int32 × St), lp (L_X12_seatsNow_2 K) NN ((0 : Int32), τ) = K τ' := by
  have key : ∃ x : Int32 × St, (x.1 = nI P ∧ FS τ x.2 ∧ (∀ p, p < P → x.2.1 15 p = nI p) ∧ ∀ i, i < P → ∀ j, j < P → x.2.1 16 (10 * i + j) = nI (shS n kc sy i j)) ∧ ∀ K : St → Option (Int32 × St), lp (L_X12_seatsNow_2 K) NN ((0 : Int32), τ) = K x.2 := by
    refine lp_invK (fun k (x : Int32 × St) => x.1 = nI k ∧ FS τ x.2 ∧ (∀ p, p < k → x.2.1 15 p = nI p) ∧ ∀ i, i < k → ∀ j, j < P → x.2.1 16 (10 * i + j) = nI (shS n kc sy i j)) P (fun x => x.2) ⟨rfl, ⟨fun _ _ _ => rfl, rfl⟩, fun p hp => by omega, fun i hi => by omega⟩ (by omega) (fun k x hk hI => ?_) (fun x hI K rec => ?_)
    · obtain ⟨x1, s1⟩ := x
      obtain ⟨hx1, hG, hA, hB⟩ := hI
      simp only at hx1 hG hA hB
      subst hx1
      have hG2 : FS τ (wI s1 15 k (nI k)) := ⟨fun j h1 h2 => by rw [wI_f h1]; exact hG.1 j h1 h2, hG.2⟩
      obtain ⟨s', ⟨f, f15, f16⟩, e⟩ := m_seatsRow h hn hP hk hG2 (fun i hi j hj => by rw [wI_f (by omega)]; exact hB i hi j hj) (nI k, s1) rfl
      refine ⟨(nI (k + 1), s'), ⟨rfl, f, fun p hp => ?_, f16⟩, fun K rec => ?_⟩
      · show s'.1 15 p = _
        rw [f15, wI_e]
        by_cases c : p = k
        · rw [if_pos ⟨rfl, c⟩, c]
        · rw [if_neg (by omega)]; exact hA p (by omega)
      · unfold L_X12_seatsNow_2
        have e5 : s1.1 0 5 = nI P := (MV_Fr h (FS_L hG)).2.1
        have lt : nI k < nI P := by rw [nI_ltI (by omega) (by omega)]; exact hk
        have i1 : inb (nI k) 10 = true := inb_t (by omega) (by omega)
        have j1 : (nI k).toNatClampNeg = k := nI_clamp (by omega)
        simp only [e5, lt, if_true, i1, gd_q, j1, bd_e]
        exact e rec
    · obtain ⟨x1, s1⟩ := x
      obtain ⟨hx1, hG, _⟩ := hI
      simp only at hx1 hG
      subst hx1
      have e5 : s1.1 0 5 = nI P := (MV_Fr h (FS_L hG)).2.1
      have lt : ¬ nI P < nI P := by rw [nI_ltI (by omega) (by omega)]; omega
      unfold L_X12_seatsNow_2
      simp only [e5, lt, if_false]
  obtain ⟨x, ⟨_, f, g1, g2⟩, e⟩ := key
  exact ⟨x.2, ⟨f, g1, g2⟩, e⟩
theorem m_besideNow {τ : St} (h : MW τ n P kc sy rw_ pl lim) (d : DB n P kc sy rw_ pl lim) {o : Nat → Nat} (ho : ∀ p, p < P → τ.1 15 p = nI (o p) ∧ o p < P) (hs : ∀ i, i < P → ∀ j, j < P → τ.1 16 (10 * i + j) = nI (shS n kc sy i j)) : f_X12_besideNow τ = some (nI (ordS P rw_ pl (shS n kc sy) o)) := by
  have hP := d.2.1
  unfold f_X12_besideNow ordS
  refine lp_count (fun k => (nI k, nI (sm k (fun b => sm b (fun a => if nrB rw_ pl a b = true then shS n kc sy (o b) (o a) else 0))))) P rfl (by omega) (fun k hk rec => ?_) (fun rec => ?_)
  · unfold L_X12_besideNow_4
    have e5 : τ.1 0 5 = nI P := h.1.2.1
    have lt : nI k < nI P := by rw [nI_ltI (by omega) (by omega)]; exact hk
    simp only [e5, lt, if_true]
    refine lp_count (fun j => (nI j, nI (sm k (fun b => sm b (fun a => if nrB rw_ pl a b = true then shS n kc sy (o b) (o a) else 0)) + sm j (fun a => if nrB rw_ pl a k = true then shS n kc sy (o k) (o a) else 0)))) k rfl (by omega) (fun j hj rec2 => ?_) (fun rec2 => ?_)
    · unfold L_X12_besideNow_14
      have lt2 : nI j < nI k := by rw [nI_ltI (by omega) (by omega)]; exact hj
      have i1 : inb (nI k) 10 = true := inb_t (by omega) (by omega)
      have i2 : inb (nI j) 10 = true := inb_t (by omega) (by omega)
      have j1 : (nI k).toNatClampNeg = k := nI_clamp (by omega)
      have j2 : (nI j).toNatClampNeg = j := nI_clamp (by omega)
      obtain ⟨o1, o2⟩ := ho k hk
      obtain ⟨o3, o4⟩ := ho j (by omega)
      have i3 : inb (nI (10 * o k + o j)) 100 = true := inb_t (by omega) (by omega)
      have j3 : (nI (10 * o k + o j)).toNatClampNeg = 10 * o k + o j := nI_clamp (by omega)
      simp only [lt2, if_true, mw_near h d hk (show j < P by omega), Option.bind_some, i1, i2, j1, j2, gd_q, o1, o3, ix10, i3, j3, bv_q, hs _ o2 _ o4, nI_add, nI_1, sm_s, nrB_comm rw_ pl k j]
      cases nrB rw_ pl j k
      · simp [show (0 : Int32) = nI 0 from rfl, nI_add]
      · simp [Nat.add_assoc]
    · unfold L_X12_besideNow_14
      have lt2 : ¬ nI k < nI k := by rw [nI_ltI (by omega) (by omega)]; omega
      simp only [lt2, if_false, nI_1]
      rfl
  · unfold L_X12_besideNow_4
    have e5 : τ.1 0 5 = nI P := h.1.2.1
    have lt : ¬ nI P < nI P := by rw [nI_ltI (by omega) (by omega)]; omega
    simp only [e5, lt, if_false]
theorem ordS_id : ordS P rw_ pl (shS n kc sy) (fun p => p) = besN n P kc sy rw_ pl := by
  unfold ordS besN
  refine sm_congr (fun b hb => sm_congr (fun a ha => ?_))
  unfold shS
  rw [if_neg (show ¬ b = a by omega), shN_comm]
end M15
