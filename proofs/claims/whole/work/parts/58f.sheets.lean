/-! put, sheet, write -/
theorem lp_twoN {X Y R : Type} {F : (X → Option R) → X → Option R} {G : (Y → Option R) → Y → Option R} (I : Nat → X → Y → Prop) {n : Nat} (J : Option R → Option R → Prop) (step : ∀ k x y, k < n → I k x y → (∃ x' y', I (k + 1) x' y' ∧ (∀ rec : X → Option R, F rec x = rec x') ∧ ∀ rec : Y → Option R, G rec y = rec y') ∨ (∃ r r', J r r' ∧ (∀ rec : X → Option R, F rec x = r) ∧ ∀ rec : Y → Option R, G rec y = r')) (exit : ∀ x y, I n x y → ∃ r r', J r r' ∧ (∀ rec : X → Option R, F rec x = r) ∧ ∀ rec : Y → Option R, G rec y = r') : ∀ (m k N : Nat) (x : X) (y : Y), k + m = n → m < N → I k x y → J (lp F N x) (lp G N y) := by
  intro m
  induction m with
  | zero =>
    intro k N x y hk hN hi
    obtain ⟨N, rfl⟩ : ∃ z, N = z + 1 := ⟨N - 1, by omega⟩
    have : k = n := by omega
    subst this
    obtain ⟨r, r', j, f, g⟩ := exit x y hi
    show J (F (lp F N) x) (G (lp G N) y)
    rw [f, g]; exact j
  | succ m ih =>
    intro k N x y hk hN hi
    obtain ⟨N, rfl⟩ : ∃ z, N = z + 1 := ⟨N - 1, by omega⟩
    show J (F (lp F N) x) (G (lp G N) y)
    rcases step k x y (by omega) hi with ⟨x', y', i, f, g⟩ | ⟨r, r', j, f, g⟩
    · rw [f, g]; exact ih (k + 1) N x' y' (by omega) (by omega) i
    · rw [f, g]; exact j
theorem lp_two {X Y R : Type} {F : (X → Option R) → X → Option R} {G : (Y → Option R) → Y → Option R} (I : Nat → X → Y → Prop) (n : Nat) (J : Option R → Option R → Prop) {x0 : X} {y0 : Y} (h0 : I 0 x0 y0) (hn : n < 10000) (step : ∀ k x y, k < n → I k x y → (∃ x' y', I (k + 1) x' y' ∧ (∀ rec : X → Option R, F rec x = rec x') ∧ ∀ rec : Y → Option R, G rec y = rec y') ∨ (∃ r r', J r r' ∧ (∀ rec : X → Option R, F rec x = r) ∧ ∀ rec : Y → Option R, G rec y = r')) (exit : ∀ x y, I n x y → ∃ r r', J r r' ∧ (∀ rec : X → Option R, F rec x = r) ∧ ∀ rec : Y → Option R, G rec y = r') : J (lp F NN x0) (lp G NN y0) := lp_twoN I J step exit n 0 NN x0 y0 (by omega) (nn_lt hn) h0
/-- both end with the same, and the memories are related -/
def JR {R : Type} (o o' : Option (R × St)) : Prop := ∃ r σ' τ', o = some (r, σ') ∧ o' = some (r, τ') ∧ Rel σ' τ'
theorem sh_store {σ τ : St} (h : RSh σ τ) {k i : Nat} (hk : k < 4) (hi : i < 48) (v : Int32) : ∃ w, f_X9_store (34 + k) (nI i) v σ = some (wI σ (38 + k) i w) ∧ f_X12_keep (nI k) (nI i) v τ = some (wI τ 22 (48 * k + i) w) := by
  obtain ⟨_, x2, _, _⟩ := h k hk
  have i1 : inb (nI k) 4 = true := inb_t (by omega) (by omega)
  have j1 : (nI k).toNatClampNeg = k := nI_clamp (by omega)
  have i2 : inb (nI i) 48 = true := inb_t (by omega) (by omega)
  have j2 : (nI i).toNatClampNeg = i := nI_clamp (by omega)
  have i3 : inb (nI (48 * k + i)) 192 = true := inb_t (by omega) (by omega)
  have j3 : (nI (48 * k + i)).toNatClampNeg = 48 * k + i := nI_clamp (by omega)
  unfold f_X9_store f_X12_keep
  simp only [jn_e, bd_e, i1, gd_q, j1, ix48, i2, j2, i3, j3, row_id hk, x2]
  by_cases e0 : σ.1 (34 + k) 1 = 0
  · rw [if_pos e0, if_pos e0]; exact ⟨_, rfl, rfl⟩
  · rw [if_neg e0, if_neg e0]
    by_cases e1 : σ.1 (34 + k) 1 = 1
    · rw [if_pos e1, if_pos e1]; exact ⟨_, rfl, rfl⟩
    · rw [if_neg e1, if_neg e1]; exact ⟨_, rfl, rfl⟩
theorem RSh_w {σ τ : St} {k i : Nat} {w : Int32} (h : RSh σ τ) (hk : k < 4) (hi : i < 48) : RSh (wI σ (38 + k) i w) (wI τ 22 (48 * k + i) w) := by
  intro m hm
  obtain ⟨⟨u, u1, u2, u3, u4⟩, v2, v3, v4⟩ := h m hm
  refine ⟨⟨u, u1, by rw [wI_f (by omega)]; exact u2, by rw [wI_f (by omega)]; exact u3, fun j hj => ?_⟩, by rw [wI_f (by omega), wI_f (by omega)]; exact v2, by rw [wI_f (by omega)]; exact v3, by rw [wI_f (by omega), wI_f (by omega)]; exact v4⟩
  rw [wI_e, wI_e]
  by_cases e : m = k ∧ j = i
  · rw [if_pos (by omega), if_pos (by omega)]
  · rw [if_neg (by omega), if_neg (by omega)]; exact u4 j hj
theorem rel_store {σ τ : St} {k i : Nat} {w : Int32} (h : Rel σ τ) (hk : k < 4) (hi : i < 48) : Rel (wI σ (38 + k) i w) (wI τ 22 (48 * k + i) w) := rel_sh h (fun j hj => wI_f (by omega)) (fun j hj => wI_f (by omega)) (RSh_w (rel_RSh h) hk hi)
theorem o_put (a b c d : Int32) : Op (f_X11_put a b c d) (f_X12_put a b c d) := by
  intro σ τ h
  unfold f_X11_put f_X12_put f_X11_isSheet f_X12_isSheet
  simp only [c_within, m_in, Option.bind_some]
  cases z : wiB a 0 3
  · exact ⟨_, σ, τ, rfl, rfl, h⟩
  · cases z2 : wiB b 0 2
    · exact ⟨_, σ, τ, rfl, rfl, h⟩
    · obtain ⟨k, hk, ea⟩ := wi_of (m := 3) (by omega) z
      subst ea
      have i1 : inb (nI k) 4 = true := inb_t (by omega) (by omega)
      have j1 : (nI k).toNatClampNeg = k := nI_clamp (by omega)
      obtain ⟨v, e1, e2, hv⟩ := sh_lacks (rel_RSh h) (show k < 4 by omega) b c
      simp only [if_true, i1, gd_q, j1, she_id (show k < 4 by omega), e1, e2, Option.bind_some]
      rcases hv with ⟨g, i, hi, ei, eq, _⟩ | ⟨g, g'⟩
      · subst g; subst ei
        obtain ⟨w, s1, s2⟩ := sh_store (rel_RSh h) (show k < 4 by omega) hi d
        rw [if_pos rfl, if_neg (by decide), s1, s2]
        exact ⟨_, _, _, rfl, rfl, rel_store h (by omega) hi⟩
      · rw [if_neg g, if_pos g']
        exact ⟨_, _, _, rfl, rfl, rel_find v h⟩
theorem c_min {a b : Nat} {σ : St} (ha : a < 2 ^ 31) (hb : b < 2 ^ 31) : f_J9_min_7cf53 (nI a) (nI b) σ = some (nI (min a b)) := by
  unfold f_J9_min_7cf53
  by_cases h : b < a
  · rw [if_pos ((nI_ltI hb ha).mpr h), Nat.min_eq_right (by omega)]
  · rw [if_neg (fun w => h ((nI_ltI hb ha).mp w)), Nat.min_eq_left (by omega)]
theorem m_clear {τ : St} {k : Nat} (hk : k < 4) (v : Int32) : ∃ τ', lp (L_X12_sheet_59 (nI k) v) NN ((0 : Int32), τ) = some (v, τ') ∧ (∀ j, j ≠ 22 → τ'.1 j = τ.1 j) ∧ (∀ j, j < 48 → τ'.1 22 (48 * k + j) = 0) ∧ ∀ j, ¬ (48 * k ≤ j ∧ j < 48 * k + 48) → τ'.1 22 j = τ.1 22 j := by
  refine Exists.elim (lp_inv (F := L_X12_sheet_59 (nI k) v) (fun i x => x.1 = nI i ∧ (∀ j, j ≠ 22 → x.2.1 j = τ.1 j) ∧ (∀ j, j < i → x.2.1 22 (48 * k + j) = 0) ∧ ∀ j, ¬ (48 * k ≤ j ∧ j < 48 * k + 48) → x.2.1 22 j = τ.1 22 j) 48 (fun x => some (v, x.2)) (x0 := ((0 : Int32), τ)) ⟨rfl, fun _ _ => rfl, fun j hj => absurd hj (by omega), fun _ _ => rfl⟩ (by omega) (fun i x hi hx => ?_) (fun x hx rec => ?_)) (fun x hxe => ?_)
  · obtain ⟨x1, x2⟩ := x
    obtain ⟨h1, h2, h3, h4⟩ := hx
    dsimp only at h1 h2 h3 h4
    subst h1
    have i3 : inb (nI (48 * k + i)) 192 = true := inb_t (by omega) (by omega)
    have j3 : (nI (48 * k + i)).toNatClampNeg = 48 * k + i := nI_clamp (by omega)
    have lt : nI i < 48 := nI_lt (b := 48) hi (by omega)
    refine ⟨(nI (i + 1), wI x2 22 (48 * k + i) 0), ⟨rfl, fun j hj => ?_, fun j hj => ?_, fun j hj => ?_⟩, fun rec => ?_⟩
    · dsimp only; rw [wI_f hj]; exact h2 j hj
    · dsimp only; rw [wI_e]
      by_cases e : j = i
      · rw [if_pos (by omega)]
      · rw [if_neg (by omega)]; exact h3 j (by omega)
    · dsimp only; rw [wI_e, if_neg (by omega)]; exact h4 j hj
    · unfold L_X12_sheet_59
      simp only [lt, if_true, ix48, i3, gd_q, j3, bd_e, nI_1]
  · obtain ⟨x1, x2⟩ := x
    obtain ⟨h1, h2, h3, h4⟩ := hx
    dsimp only at h1
    subst h1
    unfold L_X12_sheet_59
    have lt : ¬ nI 48 < 48 := by decide
    simp only [lt, if_false]
  · obtain ⟨hx, e⟩ := hxe
    exact ⟨x.2, e, hx.2.1, hx.2.2.1, hx.2.2.2⟩
theorem o_sheet (a b c : Int32) : Op (f_X11_sheet a b c) (f_X12_sheet a b c) := by
  intro σ τ h
  unfold f_X11_sheet f_X12_sheet f_X11_isSheet f_X12_isSheet
  simp only [c_within, m_in, Option.bind_some]
  cases z : wiB a 0 3
  · exact ⟨_, σ, τ, rfl, rfl, h⟩
  · cases z2 : wiB b 0 2
    · exact ⟨_, σ, τ, rfl, rfl, h⟩
    · obtain ⟨k, hk, ea⟩ := wi_of (m := 3) (by omega) z
      obtain ⟨f, hf, eb⟩ := wi_of (m := 2) (by omega) z2
      subst ea; subst eb
      rw [if_pos rfl, if_pos rfl, if_pos rfl, if_pos rfl]
      by_cases c0 : 48 < c
      · rw [if_pos c0, if_pos c0]
        exact ⟨_, σ, τ, rfl, rfl, h⟩
      · rw [if_neg c0, if_neg c0]
        by_cases c1 : c < 0
        · rw [if_pos c1, if_pos c1]
          exact ⟨_, _, _, rfl, rfl, rel_find 5 h⟩
        · obtain ⟨y, hy, ec⟩ := i_of c1
          subst ec
          have hy2 : y ≤ 48 := by
            rw [show (48 : Int32) = nI 48 from rfl, nI_ltI (by omega) hy] at c0
            omega
          have i1 : inb (nI k) 4 = true := inb_t (by omega) (by omega)
          have j1 : (nI k).toNatClampNeg = k := nI_clamp (by omega)
          have hk4 : k < 4 := by omega
          obtain ⟨τ', e, f1, f2, f3⟩ := m_clear (τ := wI (wI (wI τ 19 k 1) 20 k (nI f)) 21 k (nI y)) hk4 (nI y)
          have mn : f_J9_min_7cf53 (nI y) 48 (wI (wI σ (34 + k) 0 0) (34 + k) 1 (nI f)) = some (nI y) := by
            rw [show (48 : Int32) = nI 48 from rfl, c_min (by omega) (by omega), Nat.min_eq_left hy2]
          have hS := rel_RSh h
          rw [if_neg c1, if_neg c1]
          unfold f_X9_renew
          simp only [i1, gd_q, j1, she_id hk4, bd_e, mn, Option.bind_some, row_id hk4, c_fill (show 48 < 1000 by omega), e]
          refine ⟨_, _, _, rfl, rfl, rel_sh h (fun j hj => ?_) (fun j hj => ?_) (fun m hm => ?_)⟩
          · rw [wA_1 (by omega), wI_f (by omega), wI_f (by omega), wI_f (by omega)]
          · rw [f1 j (by omega), wI_f (by omega), wI_f (by omega), wI_f (by omega)]
          · obtain ⟨⟨u, u1, u2, u3, u4⟩, v2, v3, v4⟩ := hS m hm
            by_cases em : m = k
            · subst em
              refine ⟨⟨y, hy2, ?_, ?_, fun i hi => ?_⟩, ?_, ⟨f, hf, ?_⟩, Or.inl ⟨?_, ?_⟩⟩
              · rw [wA_1 (by omega), wI_e, if_pos ⟨rfl, rfl⟩]
              · rw [f1 21 (by omega), wI_e, if_pos ⟨rfl, rfl⟩]
              · rw [f2 i (by omega), wA_s, rwk_lt (by omega)]
              · rw [f1 20 (by omega), wI_f (by omega), wI_e, if_pos ⟨rfl, rfl⟩, wA_1 (by omega), wI_e, if_neg (by omega), wI_e, if_pos ⟨rfl, rfl⟩]
              · rw [wA_1 (by omega), wI_e, if_neg (by omega), wI_e, if_pos ⟨rfl, rfl⟩]
              · rw [wA_1 (by omega), wI_e, if_neg (by omega), wI_e, if_neg (by omega), wI_e, if_pos ⟨rfl, rfl⟩]
              · rw [f1 19 (by omega), wI_f (by omega), wI_f (by omega), wI_e, if_pos ⟨rfl, rfl⟩]
            · have g1 : (wA (wI (wI (wI σ (34 + k) 0 0) (34 + k) 1 (nI f)) (34 + k) 2 (nI y)) (38 + k) (rwk 48 (fun _ => 0) ((wI (wI (wI σ (34 + k) 0 0) (34 + k) 1 (nI f)) (34 + k) 2 (nI y)).1 (38 + k)))).1 (34 + m) = σ.1 (34 + m) := by
                rw [wA_1 (by omega), wI_f (by omega), wI_f (by omega), wI_f (by omega)]
              have g2 : (wA (wI (wI (wI σ (34 + k) 0 0) (34 + k) 1 (nI f)) (34 + k) 2 (nI y)) (38 + k) (rwk 48 (fun _ => 0) ((wI (wI (wI σ (34 + k) 0 0) (34 + k) 1 (nI f)) (34 + k) 2 (nI y)).1 (38 + k)))).1 (38 + m) = σ.1 (38 + m) := by
                rw [wA_1 (by omega), wI_f (by omega), wI_f (by omega), wI_f (by omega)]
              rw [g1, g2]
              refine ⟨⟨u, u1, u2, ?_, fun i hi => ?_⟩, ?_, v3, ?_⟩
              · rw [f1 21 (by omega), wI_e, if_neg (by omega), wI_f (by omega), wI_f (by omega)]; exact u3
              · rw [f3 _ (by omega), wI_f (by omega), wI_f (by omega), wI_f (by omega)]; exact u4 i hi
              · rw [f1 20 (by omega), wI_f (by omega), wI_e, if_neg (by omega), wI_f (by omega)]; exact v2
              · rw [f1 19 (by omega), wI_f (by omega), wI_f (by omega), wI_e, if_neg (by omega)]; exact v4
theorem o_write (a b : Int32) : Op (f_X11_write a b) (f_X12_write a b) := by
  intro σ τ ⟨n, t, P, T, pass, lim, rw_, pl, tp, tq, ta, tt, as, h⟩
  have no : Rel σ τ := rel_of h Fr_rf FrM_rf
  obtain ⟨hC, hD⟩ := rd_C h
  obtain ⟨τ1, e1, f1, _, hM, hR⟩ := rd_M h
  have hn := hD.1
  have no1 : Rel σ τ1 := rel_of h Fr_rf f1
  unfold f_X11_write f_X12_write f_X11_isSheet f_X12_isSheet
  simp only [p_c h, p_m h, c_within, m_in, Option.bind_some]
  cases z : wiB a 0 (nI P - 1)
  · exact ⟨_, σ, τ, rfl, rfl, no⟩
  · cases z2 : wiB b 0 3
    · exact ⟨_, σ, τ, rfl, rfl, no⟩
    · obtain ⟨p, hp, hp2, ea⟩ := p_of h z
      obtain ⟨k, hk, eb⟩ := wi_of (m := 3) (by omega) z2
      subst ea; subst eb
      have hk4 : k < 4 := by omega
      have i1 : inb (nI k) 4 = true := inb_t (by omega) (by omega)
      have j1 : (nI k).toNatClampNeg = k := nI_clamp (by omega)
      obtain ⟨_, _, _, x4⟩ := rel_RSh no k hk4
      simp only [if_true, i1, gd_q, j1, she_id hk4]
      rcases x4 with ⟨a1, a2⟩ | ⟨a1, a2⟩
      · have n19 : ¬ τ.1 19 k = 0 := by rw [a2]; decide
        obtain ⟨⟨y, y1, y2, y3, y4⟩, _, _, _⟩ := rel_RSh no1 k hk4
        rw [if_pos a1, if_neg n19, e1, Option.bind_some, y2, hC.1.1, c_min (by omega) (by omega), Option.bind_some]
        have ip : inb (nI p) 10 = true := inb_t (by omega) (by omega)
        have jp : (nI p).toNatClampNeg = p := nI_clamp (by omega)
        refine lp_two (fun q x w => (x.1 = nI q ∧ w.1 = nI q) ∧ (∀ j, j ≠ 38 + k → x.2.1 j = σ.1 j) ∧ (∀ j, j ≠ 22 → w.2.1 j = τ1.1 j) ∧ RSh x.2 w.2) (min y n) JR ⟨⟨rfl, rfl⟩, fun _ _ => rfl, fun _ _ => rfl, rel_RSh no1⟩ (by omega) (fun q x w hq hx => Or.inl ?_) (fun x w hx => ?_)
        · obtain ⟨x, s⟩ := x
          obtain ⟨w, r⟩ := w
          obtain ⟨⟨h1, h1'⟩, h2, h3, h4⟩ := hx
          dsimp only at h1 h1' h2 h3 h4
          subst h1; subst h1'
          have iq : inb (nI q) 12 = true := inb_t (by omega) (by omega)
          have jq : (nI q).toNatClampNeg = q := nI_clamp (by omega)
          have iv : inb (nI (12 * p + q)) 120 = true := inb_t (by omega) (by omega)
          have jv : (nI (12 * p + q)).toNatClampNeg = 12 * p + q := nI_clamp (by omega)
          have l1 : nI q < nI (min y n) := by rw [nI_ltI (by omega) (by omega)]; exact hq
          have l2 : nI q < nI n := by rw [nI_ltI (by omega) (by omega)]; omega
          have l3 : nI q < nI y := by rw [nI_ltI (by omega) (by omega)]; omega
          have sc : s.1 (42 + p) q = sayF tp tq ta (cntN tt as T) p q := by rw [h2 (42 + p) (by omega)]; exact hC.1.2.2.2 p q hp2 (by omega)
          have sm_ : r.1 10 (12 * p + q) = sayF tp tq ta (cntN tt as T) p q := by rw [h3 10 (by omega)]; exact hM.1.2.2.2 p q hp2 (by omega)
          have r0 : r.1 0 0 = nI n := by rw [h3 0 (by omega)]; exact hM.1.1
          have r21 : r.1 21 k = nI y := by rw [h3 21 (by omega)]; exact y3
          obtain ⟨v, s1, s2⟩ := sh_store h4 hk4 (show q < 48 by omega) (sayF tp tq ta (cntN tt as T) p q)
          refine ⟨(nI (q + 1), wI s (38 + k) q v), (nI (q + 1), wI r 22 (48 * k + q) v), ⟨⟨rfl, rfl⟩, fun j hj => ?_, fun j hj => ?_, RSh_w h4 hk4 (by omega)⟩, fun rec => ?_, fun rec => ?_⟩
          · dsimp only; rw [wI_f hj]; exact h2 j hj
          · dsimp only; rw [wI_f hj]; exact h3 j hj
          · unfold L_X11_write_57
            simp only [l1, if_true, ip, iq, gd_q, jp, jq, cur_id hp2, sc, j1, she_id hk4, s1, Option.bind_some, nI_1]
          · unfold L_X12_write_39
            simp only [r0, l2, if_true, i1, gd_q, j1, r21, l3, m_ix hp2 (show q < 12 by omega), iv, jv, sm_, s2, Option.bind_some, nI_1]
        · obtain ⟨x, s⟩ := x
          obtain ⟨w, r⟩ := w
          obtain ⟨⟨h1, h1'⟩, h2, h3, h4⟩ := hx
          dsimp only at h1 h1' h2 h3 h4
          subst h1; subst h1'
          have r0 : r.1 0 0 = nI n := by rw [h3 0 (by omega)]; exact hM.1.1
          have r21 : r.1 21 k = nI y := by rw [h3 21 (by omega)]; exact y3
          have l1 : ¬ nI (min y n) < nI (min y n) := by rw [nI_ltI (by omega) (by omega)]; omega
          refine ⟨some (nI (min y n), s), some (nI (min y n), r), ⟨_, s, r, rfl, rfl, rel_sh no1 (fun j hj => h2 j (by omega)) (fun j hj => h3 j (by omega)) h4⟩, fun rec => ?_, fun rec => ?_⟩
          · unfold L_X11_write_57
            simp only [l1, if_false]
          · unfold L_X12_write_39
            by_cases g : n ≤ y
            · have l2 : ¬ nI (min y n) < nI n := by rw [nI_ltI (by omega) (by omega)]; omega
              simp only [r0, l2, if_false]
            · have l2 : nI (min y n) < nI n := by rw [nI_ltI (by omega) (by omega)]; omega
              have l3 : ¬ nI (min y n) < nI y := by rw [nI_ltI (by omega) (by omega)]; omega
              simp only [r0, l2, if_true, i1, gd_q, j1, r21, l3, if_false]
      · have n0 : ¬ σ.1 (34 + k) 0 = 0 := by rw [a1]; decide
        rw [if_neg n0, if_pos a2]
        exact ⟨_, _, _, rfl, rfl, rel_find 1 no⟩
