/-! millionths: both sides of seats -/
def F27 (τ x : St) : Prop := (∀ k, k ≠ 27 → x.1 k = τ.1 k) ∧ x.2 = τ.2
section M18
variable {n P : Nat} {kc : Nat → Int32} {sy : Nat → Nat → Int32} {rw_ pl : Nat → Nat} {lim : Nat}
theorem CV_F27 {τ x : St} (h : CV τ n P kc sy) (f : F27 τ x) : CV x n P kc sy := CV_Fr h (fun k hk => f.1 k (by omega))
theorem c_millRow {τ : St} (h : CV τ n P kc sy) (hn : n ≤ 12) (hP : P ≤ 7) {a : Nat} (ha : a < P) {s : St} (hF : F27 τ s) (hS : ∀ i, i < a → ∀ j, j < P → s.1 27 (7 * i + j) = nI (shS n kc sy i j)) (x8 : Int32 × St) (hx : x8.1 = nI a) : ∃ s', (F27 τ s' ∧ ∀ i, i < a + 1 → ∀ j, j < P → s'.1 27 (7 * i + j) = nI (shS n kc sy i j)) ∧ ∀ K : (Int32 × St) → Option (Int32 × St), lp (L_X0_millionths_30 K x8) NN ((0 : Int32), s) = K (nI (a + 1), s') := by
  have key : ∃ x : Int32 × St, (x.1 = nI P ∧ F27 τ x.2 ∧ (∀ i, i < a → ∀ j, j < P → x.2.1 27 (7 * i + j) = nI (shS n kc sy i j)) ∧ ∀ j, j < P → x.2.1 27 (7 * a + j) = nI (shS n kc sy a j)) ∧ ∀ K : (Int32 × St) → Option (Int32 × St), lp (L_X0_millionths_30 K x8) NN ((0 : Int32), s) = K (nI (a + 1), x.2) := by
    refine lp_invK (F := fun K => L_X0_millionths_30 K x8) (fun k (x : Int32 × St) => x.1 = nI k ∧ F27 τ x.2 ∧ (∀ i, i < a → ∀ j, j < P → x.2.1 27 (7 * i + j) = nI (shS n kc sy i j)) ∧ ∀ j, j < k → x.2.1 27 (7 * a + j) = nI (shS n kc sy a j)) P (fun x => (nI (a + 1), x.2)) ⟨rfl, hF, hS, fun j hj => by omega⟩ (by omega) (fun k x hk hI => ?_) (fun x hI K rec => ?_)
    · obtain ⟨x1, s1⟩ := x
      obtain ⟨hx1, hG, hA, hB⟩ := hI
      simp only at hx1 hG hA hB
      subst hx1
      have hv := CV_F27 h hG
      refine ⟨(nI (k + 1), wI s1 27 (7 * a + k) (nI (shS n kc sy a k))), ⟨rfl, ⟨fun j h1 => ?_, hG.2⟩, fun i hi j hj => ?_, fun j hj => ?_⟩, fun K rec => ?_⟩
      · show (wI s1 27 _ _).1 j = _
        rw [wI_f h1]; exact hG.1 j h1
      · show (wI s1 27 _ _).1 27 _ = _
        rw [wI_e, if_neg (by omega)]; exact hA i hi j hj
      · show (wI s1 27 _ _).1 27 _ = _
        rw [wI_e]
        by_cases e : j = k
        · rw [if_pos ⟨rfl, by rw [e]⟩, e]
        · rw [if_neg (by omega)]; exact hB j (by omega)
      · unfold L_X0_millionths_30
        have e5 : s1.1 2 0 = nI P := hv.2.1
        have lt : nI k < nI P := by rw [nI_ltI (by omega) (by omega)]; exact hk
        have i1 : inb (nI (7 * a + k)) 49 = true := inb_t (by omega) (by omega)
        have j1 : (nI (7 * a + k)).toNatClampNeg = 7 * a + k := nI_clamp (by omega)
        simp only [e5, lt, if_true, hx, ix7, i1, gd_q, j1, bd_e, jn_e, c_same hv hn (show a < 10 by omega) (show k < 10 by omega), Option.bind_some, nI_1]
        unfold shS
        by_cases e : a = k
        · rw [if_pos (by rw [e]), if_pos e]; rfl
        · rw [if_neg (by rw [nI_eq (by omega) (by omega)]; exact e), if_neg e]
    · obtain ⟨x1, s1⟩ := x
      obtain ⟨hx1, hG, _⟩ := hI
      simp only at hx1 hG
      subst hx1
      have e5 : s1.1 2 0 = nI P := (CV_F27 h hG).2.1
      have lt : ¬ nI P < nI P := by rw [nI_ltI (by omega) (by omega)]; omega
      show L_X0_millionths_30 K x8 rec (nI P, s1) = _
      unfold L_X0_millionths_30
      simp only [e5, lt, if_false, hx, nI_1]
  obtain ⟨x, ⟨_, f, g2, g3⟩, e⟩ := key
  refine ⟨x.2, ⟨f, fun i hi j hj => ?_⟩, e⟩
  by_cases c : i = a
  · rw [c]; exact g3 j hj
  · exact g2 i (by omega) j hj
theorem c_millPrep {τ : St} (h : CV τ n P kc sy) (hn : n ≤ 12) (hP : P ≤ 7) : ∃ τ', (F27 τ τ' ∧ ∀ i, i < P → ∀ j, j < P → τ'.1 27 (7 * i + j) = nI (shS n kc sy i j)) ∧ ∀ K : St → Option (Int32 × St), lp (L_X0_millionths_17 K) NN ((0 : Int32), τ) = K τ' := by
  have key : ∃ x : Int32 × St, (x.1 = nI P ∧ F27 τ x.2 ∧ ∀ i, i < P → ∀ j, j < P → x.2.1 27 (7 * i + j) = nI (shS n kc sy i j)) ∧ ∀ K : St → Option (Int32 × St), lp (L_X0_millionths_17 K) NN ((0 : Int32), τ) = K x.2 := by
    refine lp_invK (fun k (x : Int32 × St) => x.1 = nI k ∧ F27 τ x.2 ∧ ∀ i, i < k → ∀ j, j < P → x.2.1 27 (7 * i + j) = nI (shS n kc sy i j)) P (fun x => x.2) ⟨rfl, ⟨fun _ _ => rfl, rfl⟩, fun i hi => by omega⟩ (by omega) (fun k x hk hI => ?_) (fun x hI K rec => ?_)
    · obtain ⟨x1, s1⟩ := x
      obtain ⟨hx1, hG, hB⟩ := hI
      simp only at hx1 hG hB
      subst hx1
      obtain ⟨s', ⟨f, f16⟩, e⟩ := c_millRow h hn hP hk hG hB (nI k, s1) rfl
      refine ⟨(nI (k + 1), s'), ⟨rfl, f, f16⟩, fun K rec => ?_⟩
      unfold L_X0_millionths_17
      have e5 : s1.1 2 0 = nI P := (CV_F27 h hG).2.1
      have lt : nI k < nI P := by rw [nI_ltI (by omega) (by omega)]; exact hk
      simp only [e5, lt, if_true]
      exact e rec
    · obtain ⟨x1, s1⟩ := x
      obtain ⟨hx1, hG, _⟩ := hI
      simp only at hx1 hG
      subst hx1
      have e5 : s1.1 2 0 = nI P := (CV_F27 h hG).2.1
      have lt : ¬ nI P < nI P := by rw [nI_ltI (by omega) (by omega)]; omega
      unfold L_X0_millionths_17
      simp only [e5, lt, if_false]
  obtain ⟨x, ⟨_, f, g2⟩, e⟩ := key
  exact ⟨x.2, ⟨f, g2⟩, e⟩
theorem un_0 : ∀ P, unN P 0 = P := by
  intro P
  unfold unN
  induction P with
  | zero => rfl
  | succ P ih => rw [sm_s, ih]; simp [bitN]
theorem fac_b : ∀ k, k < 8 → 0 < facN k ∧ facN k < 10000 := by decide
def hiN (n P : Nat) (kc : Nat → Int32) (sy : Nat → Nat → Int32) (rw_ pl : Nat → Nat) : Nat := smL (hitL P rw_ pl (shS n kc sy) (besN n P kc sy rw_ pl)) (permL P P 0 [])
def miI (n P : Nat) (kc : Nat → Int32) (sy : Nat → Nat → Int32) (rw_ pl : Nat → Nat) : Int32 := if 7 < P then -4 else ((lN (hiN n P kc sy rw_ pl) * 1000000) / lN (facN P)).toInt32
theorem bes_le (hn : n ≤ 12) (hP : P ≤ 10) : besN n P kc sy rw_ pl ≤ 1200 := by rw [← ordS_id]; exact ordS_le hn hP
theorem c_mill {σ : St} (h : CW σ n P kc sy rw_ pl lim) (dd : DB n P kc sy rw_ pl lim) : ∃ σ', f_X0_millionths σ = some (miI n P kc sy rw_ pl, σ') ∧ Fr σ σ' := by
  have hP10 := dd.2.1
  have e20 : σ.1 2 0 = nI P := h.1.2.1
  unfold f_X0_millionths miI
  rw [e20, show (7 : Int32) = nI 7 from rfl]
  by_cases c : 7 < P
  · rw [if_pos (by rw [nI_ltI (by omega) (by omega)]; exact c), if_pos c]
    exact ⟨σ, rfl, Fr_rf⟩
  · rw [if_neg (by rw [nI_ltI (by omega) (by omega)]; exact c), if_neg c, jn_e]
    obtain ⟨s1, ⟨f1, g1⟩, e1⟩ := c_millPrep h.1 dd.1 (show P ≤ 7 by omega)
    have hw1 : CW s1 n P kc sy rw_ pl lim := CW_Fr h (fun k hk => f1.1 k (by omega))
    have hb := c_beside hw1 dd
    let s2 : St := wI s1 8 4 (nI (besN n P kc sy rw_ pl))
    have fr2 : Fr s1 s2 := fun k hk => wI_f (by omega)
    have hw2 : CW s2 n P kc sy rw_ pl lim := CW_Fr hw1 fr2
    obtain ⟨s3, f3, _, e3⟩ := c_ordersFrom (g := besN n P kc sy rw_ pl) hw2 dd (by omega) (fun i hi j hj => by show (wI s1 8 4 _).1 27 _ = _; rw [wI_f (by omega)]; exact g1 i hi j hj) (by show (wI s1 8 4 _).1 8 4 = _; rw [wI_e, if_pos ⟨rfl, rfl⟩]) (bes_le dd.1 hP10) P 9 0 [] s2 ⟨fun _ _ => rfl, rfl⟩ (by simp) (un_0 P) (by omega) (fun p hp => by simp at hp) (by omega)
    have fr3 : Fr s2 s3 := fun k hk => f3.1 k (by omega)
    have e203 : s3.1 2 0 = nI P := (CW_Fr hw2 fr3).1.2.1
    obtain ⟨fb1, fb2⟩ := fac_b P (by omega)
    have e3' : f_X0_ordersFrom 9 0 0 0 s2 = some (lN (hiN n P kc sy rw_ pl), s3) := e3
    refine ⟨s3, ?_, Fr_tr (fun k hk => f1.1 k (by omega)) (Fr_tr fr2 fr3)⟩
    rw [e1, hb, Option.bind_some, bd_e, show wI s1 8 4 (nI (besN n P kc sy rw_ pl)) = s2 from rfl, e3', Option.bind_some]
    simp only
    rw [e203, c_orders (by omega), Option.bind_some, lN_bne fb1 (by omega), gd_t]
theorem chk_all {P : Nat} (h : P ≤ 7) : chkP P = true := by
  by_cases c : P < 6
  · exact chk5 P c
  · by_cases d : P = 6
    · rw [d]; exact chk6
    · rw [show P = 7 by omega]; exact chk7
theorem m_seats {τ : St} (h : MW τ n P kc sy rw_ pl lim) (dd : DB n P kc sy rw_ pl lim) (a : Int32) : ∃ τ', f_X12_seatsNow a τ = some (if a = 0 then nI (besN n P kc sy rw_ pl) else miI n P kc sy rw_ pl, τ') ∧ FrL τ τ' := by
  have hP10 := dd.2.1
  obtain ⟨t1, ⟨f1, g1, g2⟩, e1⟩ := m_seatsPrep h.1 dd.1 hP10
  have hw1 : MW t1 n P kc sy rw_ pl lim := MW_Fr h (FS_L f1)
  have hb := m_besideNow hw1 dd (o := fun p => p) (fun p hp => ⟨g1 p hp, hp⟩) g2
  rw [ordS_id] at hb
  unfold f_X12_seatsNow
  rw [jn_e, e1, hb, Option.bind_some]
  by_cases ca : a = 0
  · rw [if_pos ca, if_pos ca]; exact ⟨t1, rfl, FS_L f1⟩
  · rw [if_neg ca, if_neg ca]
    unfold miI
    have e05 : t1.1 0 5 = nI P := hw1.1.2.1
    rw [e05, show (7 : Int32) = nI 7 from rfl]
    by_cases c : 7 < P
    · rw [if_pos (by rw [nI_ltI (by omega) (by omega)]; exact c), if_pos c]
      exact ⟨t1, rfl, FS_L f1⟩
    · rw [if_neg (by rw [nI_ltI (by omega) (by omega)]; exact c), if_neg c, jn_e]
      have hck := chk_all (show P ≤ 7 by omega)
      have hlen := permL_len (P := P) P 0 [] (un_0 P)
      obtain ⟨fb1, fb2⟩ := fac_b P (by omega)
      unfold chkP at hck
      split at hck
      · exact absurd hck (by simp)
      · rename_i l r hL
        have hc1 := (Bool.and_eq_true _ _ ▸ hck).1
        have hc2 := (Bool.and_eq_true _ _ ▸ hck).2
        rw [hL] at hlen
        simp only [List.length_cons] at hlen
        obtain ⟨t2, f2, e2⟩ := m_likely hw1 dd g2 (bes_le (rw_ := rw_) (pl := pl) dd.1 hP10) r l t1 0 0 NN hc2 ⟨fun _ _ => rfl, rfl⟩ (fun p hp => by rw [g1 p hp, of_decide_eq_true (all_lt hc1 hp)]) (nn_lt (by omega))
        rw [Nat.zero_add, Nat.zero_add, hlen] at e2
        refine ⟨t2, ?_, FrL_tr (FS_L f1) (fun k hk => f2.1 k (by omega))⟩
        rw [show ((1 : Int32), (0 : Int64), (0 : Int64), t1) = ((1 : Int32), lN 0, lN 0, t1) from rfl, e2]
        simp only
        rw [lN_bne fb1 (by omega), gd_t, Int64.mul_comm]
        unfold hiN
        rw [hL]
end M18
