/-! read, copy -/
theorem o_answer2 (a b c d : Int32) {σ τ : St} (h0 : Rel σ τ) : ∃ r σ' τ', f_X11_answer a b c d σ = some (r, σ') ∧ f_X12_more a b c d τ = some (r, τ') ∧ Rel σ' τ' ∧ (∀ j, 34 ≤ j ∧ j < 42 → σ'.1 j = σ.1 j) ∧ (r < 0 ∨ 0 < r) := by
  obtain ⟨n, t, P, T, pass, lim, rw_, pl, tp, tq, ta, tt, as, h⟩ := h0
  have no : Rel σ τ := rel_of h Fr_rf FrM_rf
  obtain ⟨v, l1, l2⟩ := t_last h.2.2.2.1
  unfold f_X11_answer f_X12_more f_X11_isNextTime
  simp only [p_c h, p_m h, q_c h, q_m h, c_within, m_in, Option.bind_some, l1, l2]
  cases z1 : wiB a 0 (nI P - 1)
  · exact ⟨_, σ, τ, rfl, rfl, no, fun _ _ => rfl, Or.inl (by decide)⟩
  · cases z2 : wiB b 0 (nI n - 1)
    · exact ⟨_, σ, τ, rfl, rfl, no, fun _ _ => rfl, Or.inl (by decide)⟩
    · cases z3 : wiB c 0 5
      · exact ⟨_, σ, τ, rfl, rfl, no, fun _ _ => rfl, Or.inl (by decide)⟩
      · cases z4 : wiB d v 999
        · exact ⟨_, σ, τ, rfl, rfl, no, fun _ _ => rfl, Or.inl (by decide)⟩
        · obtain ⟨p, hp, hp2, ea⟩ := p_of h z1
          obtain ⟨q, hq, hq2, eb⟩ := q_of h z2
          obtain ⟨w, hw, ec⟩ := wi_of (m := 5) (by omega) z3
          subst ea; subst eb
          obtain ⟨h1, h2, h3, ⟨t1, t2, t3, t4, t5, t6⟩, h5, h6⟩ := h
          simp only [if_true, t2.1, t3.1]
          by_cases cT : T = 150
          · have g1 : ¬ nI T < 150 := by rw [cT]; decide
            have g2 : nI T = 150 := by rw [cT]; rfl
            rw [if_neg g1, if_pos g2]
            exact ⟨_, σ, τ, rfl, rfl, no, fun _ _ => rfl, Or.inl (by decide)⟩
          · have g1 : nI T < 150 := nI_lt (b := 150) (by omega) (by omega)
            have g2 : ¬ nI T = 150 := by rw [show (150 : Int32) = nI 150 from rfl, nI_eq (by omega) (by omega)]; exact cT
            obtain ⟨σ', e, f, _, g3, g4, g5, g6⟩ := c_tell (v := c) (t := d) t2 (by omega) t4 t5 h3.2.2.2.2.2.2 hp2 hq2
            have i1 : inb (nI T) 150 = true := inb_t (by omega) (by omega)
            have j1 : (nI T).toNatClampNeg = T := nI_clamp (by omega)
            have w6 : (wI τ 6 T (nI p)).1 0 8 = nI T := by rw [wI_f (by omega)]; exact t3.1
            have w7 : (wI (wI τ 6 T (nI p)) 7 T (nI q)).1 0 8 = nI T := by rw [wI_f (by omega)]; exact w6
            have w8 : (wI (wI (wI τ 6 T (nI p)) 7 T (nI q)) 8 T c).1 0 8 = nI T := by rw [wI_f (by omega)]; exact w7
            have w9 : (wI (wI (wI (wI τ 6 T (nI p)) 7 T (nI q)) 8 T c) 9 T d).1 0 8 = nI T := by rw [wI_f (by omega)]; exact w8
            have wf : (wI (wI (wI (wI (wI τ 6 T (nI p)) 7 T (nI q)) 8 T c) 9 T d) 0 8 (nI (T + 1))).1 0 8 = nI (T + 1) := by rw [wI_e, if_pos ⟨rfl, rfl⟩]
            rw [if_pos g1, if_neg g2, e]
            simp only [i1, gd_q, j1, bd_e, w6, w7, w8, w9, nI_1, wf, Option.bind_some, g4.1]
            refine ⟨_, σ', _, rfl, rfl, ⟨n, t, P, T + 1, pass, lim, rw_, pl, _, _, _, _, as, ?_, ?_, ?_, ⟨by omega, g4, ?_, g5, g6, ?_⟩, ?_, ?_⟩, fun j hj => f j (by omega) (by omega) (by omega), Or.inr ?_⟩
            · exact RKey_f h1 (f 1 (by omega) (by omega) (by omega)) (f 11 (by omega) (by omega) (by omega)) (f 12 (by omega) (by omega) (by omega)) (by rw [wI_e, if_neg (by omega), wI_f (by omega), wI_f (by omega), wI_f (by omega), wI_f (by omega)]) (by rw [wI_e, if_neg (by omega), wI_f (by omega), wI_f (by omega), wI_f (by omega), wI_f (by omega)]) (by rw [wI_f (by omega), wI_f (by omega), wI_f (by omega), wI_f (by omega), wI_f (by omega)])
            · exact RRoom_f h2 (f 2 (by omega) (by omega) (by omega)) (f 13 (by omega) (by omega) (by omega)) (f 14 (by omega) (by omega) (by omega)) (by rw [wI_e, if_neg (by omega), wI_f (by omega), wI_f (by omega), wI_f (by omega), wI_f (by omega)]) (by rw [wI_f (by omega), wI_f (by omega), wI_f (by omega), wI_f (by omega), wI_f (by omega)]) (by rw [wI_f (by omega), wI_f (by omega), wI_f (by omega), wI_f (by omega), wI_f (by omega)])
            · exact RSet_f h3 (by rw [f 4 (by omega) (by omega) (by omega)]) (by rw [f 6 (by omega) (by omega) (by omega)]) (by rw [g3]; exact h3.2.2.2.2.2.2.symm) (by rw [wI_f (by omega), wI_f (by omega), wI_f (by omega), wI_f (by omega), wI_f (by omega)])
            · refine ⟨wf, by rw [wI_f (by omega), wI_f (by omega), wI_f (by omega), wI_f (by omega), wI_f (by omega)]; exact t3.2.1, fun i hi => ?_⟩
              simp only [wI_e]
              by_cases e2 : i = T
              · subst e2; simp [nx_s, hp2, hq2]
              · rw [nx_l (show i < T by omega), nx_l (show i < T by omega), nx_l (show i < T by omega), nx_l (show i < T by omega)]
                simpa [e2] using t3.2.2 i (by omega)
            · intro i hi
              by_cases e2 : i = T
              · subst e2; rw [nx_s, nx_s]; exact ⟨hp, w, hw, ec⟩
              · rw [nx_l (show i < T by omega), nx_l (show i < T by omega)]; exact t6 i (by omega)
            · exact RSh_f h5 (fun k hk => f k (by omega) (by omega) (by omega)) (fun k hk => by rw [wI_f (by omega), wI_f (by omega), wI_f (by omega), wI_f (by omega), wI_f (by omega)])
            · rw [f 0 (by omega) (by omega) (by omega), wI_e, if_neg (by omega), wI_f (by omega), wI_f (by omega), wI_f (by omega), wI_f (by omega)]; exact h6
            · rw [i0, nI_ltI (by omega) (by omega)]; omega
theorem lt_no {u : Int32} (h : u < 0) : ¬ 0 < u := by
  rw [Int32.lt_iff_toInt_lt] at h ⊢
  omega
theorem o_read (a b c : Int32) : Op (f_X11_read a b c) (f_X12_read a b c) := by
  intro σ τ ⟨n, t, P, T, pass, lim, rw_, pl, tp, tq, ta, tt, as, h⟩
  have no : Rel σ τ := rel_of h Fr_rf FrM_rf
  obtain ⟨v, l1, l2⟩ := t_last h.2.2.2.1
  unfold f_X11_read f_X12_read f_X11_isSheet f_X12_isSheet f_X11_isNextTime
  simp only [p_c h, p_m h, c_within, m_in, Option.bind_some, l1, l2]
  cases z : wiB a 0 3
  · exact ⟨_, σ, τ, rfl, rfl, no⟩
  · cases z2 : wiB b 0 (nI P - 1)
    · exact ⟨_, σ, τ, rfl, rfl, no⟩
    · cases z3 : wiB c v 999
      · exact ⟨_, σ, τ, rfl, rfl, no⟩
      · obtain ⟨k, hk, ea⟩ := wi_of (m := 3) (by omega) z
        subst ea
        have hk4 : k < 4 := by omega
        have i1 : inb (nI k) 4 = true := inb_t (by omega) (by omega)
        have j1 : (nI k).toNatClampNeg = k := nI_clamp (by omega)
        obtain ⟨⟨y, y1, y2, y3, y4⟩, _, _, x4⟩ := rel_RSh no k hk4
        simp only [if_true, i1, gd_q, j1, she_id hk4]
        rcases x4 with ⟨a1, a2⟩ | ⟨a1, a2⟩
        · have n19 : ¬ τ.1 19 k = 0 := by rw [a2]; decide
          rw [if_pos a1, if_neg n19]
          refine lp_two (fun q x w => (x.1 = nI q ∧ w.1 = nI q) ∧ x.2.1 (34 + k) 2 = nI y ∧ Rel x.2 w.2) y JR ⟨⟨rfl, rfl⟩, y2, no⟩ (by omega) (fun q x w hq hx => ?_) (fun x w hx => ?_)
          · obtain ⟨x, s⟩ := x
            obtain ⟨w, r⟩ := w
            obtain ⟨⟨h1, h1'⟩, h2, h3⟩ := hx
            dsimp only at h1 h1' h2 h3
            subst h1; subst h1'
            obtain ⟨⟨y', b1, b2, b3, b4⟩, _⟩ := rel_RSh h3 k hk4
            have ey : y' = y := by
              rw [h2, nI_eq (by omega) (by omega)] at b2
              omega
            rw [ey] at b3 b4
            have rr : r.1 22 (48 * k + q) = s.1 (38 + k) q := b4 q hq
            obtain ⟨u, s', r', e1, e2, hr, fr, sg⟩ := o_answer2 b (nI q) (s.1 (38 + k) q) c h3
            have lt : nI q < nI y := by rw [nI_ltI (by omega) (by omega)]; exact hq
            have iq : inb (nI q) 48 = true := inb_t (by omega) (by omega)
            have jq : (nI q).toNatClampNeg = q := nI_clamp (by omega)
            have i3 : inb (nI (48 * k + q)) 192 = true := inb_t (by omega) (by omega)
            have j3 : (nI (48 * k + q)).toNatClampNeg = 48 * k + q := nI_clamp (by omega)
            rcases sg with sg | sg
            · have ng := lt_no sg
              refine Or.inr ⟨some (nI q, s'), some (nI q, r'), ⟨_, s', r', rfl, rfl, hr⟩, fun rec => ?_, fun rec => ?_⟩
              · unfold L_X11_read_51
                simp only [j1, she_id hk4, h2, lt, if_true, iq, gd_q, jq, row_id hk4, e1, Option.bind_some, sg]
              · unfold L_X12_read_50
                simp only [i1, gd_q, j1, b3, lt, if_true, ix48, i3, j3, rr, e2, Option.bind_some, ng, if_false]
            · have ng : ¬ u < 0 := fun w => lt_no w sg
              refine Or.inl ⟨(nI (q + 1), s'), (nI (q + 1), r'), ⟨⟨rfl, rfl⟩, ?_, hr⟩, fun rec => ?_, fun rec => ?_⟩
              · dsimp only; rw [fr (34 + k) (by omega)]; exact h2
              · unfold L_X11_read_51
                simp only [j1, she_id hk4, h2, lt, if_true, iq, gd_q, jq, row_id hk4, e1, Option.bind_some, ng, if_false, nI_1]
              · unfold L_X12_read_50
                simp only [i1, gd_q, j1, b3, lt, if_true, ix48, i3, j3, rr, e2, Option.bind_some, sg, nI_1]
          · obtain ⟨x, s⟩ := x
            obtain ⟨w, r⟩ := w
            obtain ⟨⟨h1, h1'⟩, h2, h3⟩ := hx
            dsimp only at h1 h1' h2 h3
            subst h1; subst h1'
            obtain ⟨⟨y', b1, b2, b3, b4⟩, _⟩ := rel_RSh h3 k hk4
            have ey : y' = y := by
              rw [h2, nI_eq (by omega) (by omega)] at b2
              omega
            rw [ey] at b3 b4
            have lt : ¬ nI y < nI y := by rw [nI_ltI (by omega) (by omega)]; omega
            refine ⟨some (nI y, s), some (nI y, r), ⟨_, s, r, rfl, rfl, h3⟩, fun rec => ?_, fun rec => ?_⟩
            · unfold L_X11_read_51
              simp only [j1, she_id hk4, h2, lt, if_false]
            · unfold L_X12_read_50
              simp only [i1, gd_q, j1, b3, lt, if_false]
        · have n0 : ¬ σ.1 (34 + k) 0 = 0 := by rw [a1]; decide
          rw [if_neg n0, if_pos a2]
          exact ⟨_, _, _, rfl, rfl, rel_find 1 no⟩
/-! copy -/
def HB (z : Nat) (i m : Int32) : Prop := ∃ a b, i = nI a ∧ m = nI b ∧ a + b ≤ z
theorem wi_t {a m : Nat} (h : a ≤ m) (hm : m < 2 ^ 31) : wiB (nI a) 0 (nI m) = true := by
  unfold wiB
  have h1 : ¬ nI a < 0 := nI_pos (by omega)
  have h2 : ¬ nI m < nI a := by rw [nI_ltI hm (by omega)]; omega
  simp [h1, h2]
theorem c_holds {σ : St} {x z : Nat} {i m : Int32} (hz : z ≤ 48) (h : σ.1 x 2 = nI z) : (HB z i m → f_X9_holds x i m σ = some true) ∧ (¬ HB z i m → f_X9_holds x i m σ = some false) := by
  unfold f_X9_holds
  simp only [c_within, Option.bind_some, h]
  constructor
  · rintro ⟨a, b, rfl, rfl, hab⟩
    have w1 : wiB (nI a) 0 (nI z) = true := wi_t (by omega) (by omega)
    have w2 : wiB (nI b) 0 (nI z - nI a) = true := by rw [pk_sub (by omega)]; exact wi_t (by omega) (by omega)
    simp only [w1, w2, if_true]
  · intro nh
    cases z1 : wiB i 0 (nI z)
    · rfl
    · obtain ⟨a, ha, rfl⟩ := wi_of (by omega) z1
      rw [pk_sub ha]
      cases z2 : wiB m 0 (nI (z - a))
      · rfl
      · obtain ⟨b, hb, rfl⟩ := wi_of (by omega) z2
        exact absurd ⟨a, b, rfl, rfl, by omega⟩ nh
theorem m_holds {z : Nat} {i m : Int32} (hz : z ≤ 48) (c1 : ¬ i < 0) (c2 : ¬ m < 0) (c3 : ¬ (nI z).toInt64 < i.toInt64 + m.toInt64) : HB z i m := by
  obtain ⟨a, ha, rfl⟩ := i_of c1
  obtain ⟨b, hb, rfl⟩ := i_of c2
  rw [nI_toL (by omega), nI_toL ha, nI_toL hb, lN_add, pk_lLT (by omega) (by omega)] at c3
  exact ⟨a, b, rfl, rfl, by omega⟩
theorem m_holds2 {z : Nat} {i m : Int32} (hz : z ≤ 48) (h : HB z i m) : ¬ i < 0 ∧ ¬ m < 0 ∧ ¬ (nI z).toInt64 < i.toInt64 + m.toInt64 := by
  obtain ⟨a, b, rfl, rfl, hab⟩ := h
  refine ⟨nI_pos (by omega), nI_pos (by omega), ?_⟩
  rw [nI_toL (by omega), nI_toL (by omega), nI_toL (by omega), lN_add, pk_lLT (by omega) (by omega)]
  omega
theorem m_chainK {R : Type} {K C : R} {i j m : Int32} {z1 z2 : Nat} (h1 : z1 ≤ 48) (h2 : z2 ≤ 48) (h : ¬ (HB z1 i m ∧ HB z2 j m)) : (if i < 0 then K else if j < 0 then K else if m < 0 then K else if (nI z1).toInt64 < i.toInt64 + m.toInt64 then K else if (nI z2).toInt64 < j.toInt64 + m.toInt64 then K else C) = K := by
  by_cases q1 : i < 0
  · rw [if_pos q1]
  · rw [if_neg q1]
    by_cases q2 : j < 0
    · rw [if_pos q2]
    · rw [if_neg q2]
      by_cases q3 : m < 0
      · rw [if_pos q3]
      · rw [if_neg q3]
        by_cases q4 : (nI z1).toInt64 < i.toInt64 + m.toInt64
        · rw [if_pos q4]
        · rw [if_neg q4]
          by_cases q5 : (nI z2).toInt64 < j.toInt64 + m.toInt64
          · rw [if_pos q5]
          · exact absurd ⟨m_holds h1 q1 q3 q4, m_holds h2 q2 q3 q5⟩ h
theorem m_chainC {R : Type} {K C : R} {i j m : Int32} {z1 z2 : Nat} (h1 : z1 ≤ 48) (h2 : z2 ≤ 48) (a : HB z1 i m) (b : HB z2 j m) : (if i < 0 then K else if j < 0 then K else if m < 0 then K else if (nI z1).toInt64 < i.toInt64 + m.toInt64 then K else if (nI z2).toInt64 < j.toInt64 + m.toInt64 then K else C) = C := by
  obtain ⟨a1, a2, a3⟩ := m_holds2 h1 a
  obtain ⟨b1, b2, b3⟩ := m_holds2 h2 b
  rw [if_neg a1, if_neg b1, if_neg a2, if_neg a3, if_neg b3]
theorem ix48b {k a e : Nat} : (48 : Int32) * nI k + nI a + nI e = nI (48 * k + a + e) := by rw [ix48, nI_add]
theorem m_move1 {τ : St} {k a b : Nat} (hk : k < 4) (h : a + b ≤ 48) : ∃ τ', (∀ K : St → Option (Int32 × St), lp (L_X12_copy_120 (nI k) (nI a) (nI b) K) NN ((0 : Int32), τ) = K τ') ∧ (∀ j, j ≠ 23 → τ'.1 j = τ.1 j) ∧ ∀ e, e < b → τ'.1 23 e = τ.1 22 (48 * k + a + e) := by
  refine Exists.elim (lp_invK (F := L_X12_copy_120 (nI k) (nI a) (nI b)) (fun i x => x.1 = nI i ∧ (∀ j, j ≠ 23 → x.2.1 j = τ.1 j) ∧ ∀ e, e < i → x.2.1 23 e = τ.1 22 (48 * k + a + e)) b (fun x => x.2) (x0 := ((0 : Int32), τ)) ⟨rfl, fun _ _ => rfl, fun j hj => absurd hj (by omega)⟩ (by omega) (fun i x hi hx => ?_) (fun x hx K rec => ?_)) (fun x hxe => ?_)
  · obtain ⟨x1, x2⟩ := x
    obtain ⟨h1, h2, h3⟩ := hx
    dsimp only at h1 h2 h3
    subst h1
    have i3 : inb (nI (48 * k + a + i)) 192 = true := inb_t (by omega) (by omega)
    have j3 : (nI (48 * k + a + i)).toNatClampNeg = 48 * k + a + i := nI_clamp (by omega)
    have i2 : inb (nI i) 48 = true := inb_t (by omega) (by omega)
    have j2 : (nI i).toNatClampNeg = i := nI_clamp (by omega)
    have lt : nI i < nI b := by rw [nI_ltI (by omega) (by omega)]; exact hi
    refine ⟨(nI (i + 1), wI x2 23 i (τ.1 22 (48 * k + a + i))), ⟨rfl, fun j hj => ?_, fun j hj => ?_⟩, fun K rec => ?_⟩
    · dsimp only; rw [wI_f hj]; exact h2 j hj
    · dsimp only; rw [wI_e]
      by_cases e : j = i
      · rw [if_pos ⟨rfl, e⟩, e]
      · rw [if_neg (by omega)]; exact h3 j (by omega)
    · unfold L_X12_copy_120
      simp only [lt, if_true, ix48b, i3, gd_q, j3, i2, j2, bd_e, nI_1, h2 22 (by omega)]
  · obtain ⟨x1, x2⟩ := x
    obtain ⟨h1, h2, h3⟩ := hx
    dsimp only at h1
    subst h1
    unfold L_X12_copy_120
    have lt : ¬ nI b < nI b := by rw [nI_ltI (by omega) (by omega)]; omega
    simp only [lt, if_false]
  · obtain ⟨hx, e⟩ := hxe
    exact ⟨x.2, e, hx.2.1, hx.2.2⟩
theorem m_move2 {τ : St} {k a b : Nat} (hk : k < 4) (h : a + b ≤ 48) : ∃ τ', lp (L_X12_copy_157 (nI k) (nI a) (nI b)) NN ((0 : Int32), τ) = some (1, τ') ∧ (∀ j, j ≠ 22 → τ'.1 j = τ.1 j) ∧ ∀ e, τ'.1 22 e = if 48 * k + a ≤ e ∧ e < 48 * k + a + b then τ.1 23 (e - (48 * k + a)) else τ.1 22 e := by
  refine Exists.elim (lp_inv (F := L_X12_copy_157 (nI k) (nI a) (nI b)) (fun i x => x.1 = nI i ∧ (∀ j, j ≠ 22 → x.2.1 j = τ.1 j) ∧ ∀ e, x.2.1 22 e = if 48 * k + a ≤ e ∧ e < 48 * k + a + i then τ.1 23 (e - (48 * k + a)) else τ.1 22 e) b (fun x => some (1, x.2)) (x0 := ((0 : Int32), τ)) ⟨rfl, fun _ _ => rfl, fun e => by rw [if_neg (by omega)]⟩ (by omega) (fun i x hi hx => ?_) (fun x hx rec => ?_)) (fun x hxe => ?_)
  · obtain ⟨x1, x2⟩ := x
    obtain ⟨h1, h2, h3⟩ := hx
    dsimp only at h1 h2 h3
    subst h1
    have i3 : inb (nI (48 * k + a + i)) 192 = true := inb_t (by omega) (by omega)
    have j3 : (nI (48 * k + a + i)).toNatClampNeg = 48 * k + a + i := nI_clamp (by omega)
    have i2 : inb (nI i) 48 = true := inb_t (by omega) (by omega)
    have j2 : (nI i).toNatClampNeg = i := nI_clamp (by omega)
    have lt : nI i < nI b := by rw [nI_ltI (by omega) (by omega)]; exact hi
    refine ⟨(nI (i + 1), wI x2 22 (48 * k + a + i) (τ.1 23 i)), ⟨rfl, fun j hj => ?_, fun e => ?_⟩, fun rec => ?_⟩
    · dsimp only; rw [wI_f hj]; exact h2 j hj
    · dsimp only; rw [wI_e]
      by_cases g : e = 48 * k + a + i
      · rw [if_pos ⟨rfl, g⟩, if_pos (by omega), show e - (48 * k + a) = i by omega]
      · rw [if_neg (fun w => g w.2), h3 e]
        by_cases g2 : 48 * k + a ≤ e ∧ e < 48 * k + a + i
        · rw [if_pos g2, if_pos (by omega)]
        · rw [if_neg g2, if_neg (by omega)]
    · unfold L_X12_copy_157
      simp only [lt, if_true, ix48b, i3, gd_q, j3, i2, j2, bd_e, nI_1, h2 23 (by omega)]
  · obtain ⟨x1, x2⟩ := x
    obtain ⟨h1, h2, h3⟩ := hx
    dsimp only at h1
    subst h1
    unfold L_X12_copy_157
    have lt : ¬ nI b < nI b := by rw [nI_ltI (by omega) (by omega)]; omega
    simp only [lt, if_false]
  · obtain ⟨hx, e⟩ := hxe
    exact ⟨x.2, e, hx.2.1, hx.2.2⟩
theorem rel_23 {σ τ τ' : St} (h : Rel σ τ) (f : ∀ j, j ≠ 23 → τ'.1 j = τ.1 j) : Rel σ τ' := by
  obtain ⟨n, t, P, T, pass, lim, rw_, pl, tp, tq, ta, tt, as, h⟩ := h
  exact rel_of h Fr_rf (fun k hk => f k (by omega))
theorem o_copy (a b c d e : Int32) : Op (f_X11_copy a b c d e) (f_X12_copy a b c d e) := by
  intro σ τ h
  unfold f_X11_copy f_X12_copy f_X11_isSheet f_X12_isSheet
  simp only [c_within, m_in, Option.bind_some, jn_e]
  cases z : wiB a 0 3
  · exact ⟨_, σ, τ, rfl, rfl, h⟩
  · cases z2 : wiB c 0 3
    · exact ⟨_, σ, τ, rfl, rfl, h⟩
    · obtain ⟨k, hk, ea⟩ := wi_of (m := 3) (by omega) z
      obtain ⟨l, hl, ec⟩ := wi_of (m := 3) (by omega) z2
      subst ea; subst ec
      have hk4 : k < 4 := by omega
      have hl4 : l < 4 := by omega
      have i1 : inb (nI k) 4 = true := inb_t (by omega) (by omega)
      have j1 : (nI k).toNatClampNeg = k := nI_clamp (by omega)
      have i2 : inb (nI l) 4 = true := inb_t (by omega) (by omega)
      have j2 : (nI l).toNatClampNeg = l := nI_clamp (by omega)
      have hS := rel_RSh h
      obtain ⟨⟨y, y1, y2, y3, y4⟩, w2, w3, w4⟩ := hS k hk4
      obtain ⟨⟨u, u1, u2, u3, u4⟩, v2, v3, v4⟩ := hS l hl4
      simp only [if_true, i1, i2, gd_q, j1, j2, she_id hk4, she_id hl4, row_id hk4, row_id hl4, bd_e, w2, v2, y3, u3]
      rcases w4 with ⟨a1, a2⟩ | ⟨a1, a2⟩
      · have n19 : ¬ τ.1 19 k = 0 := by rw [a2]; decide
        rw [if_pos a1, if_neg n19]
        rcases v4 with ⟨b1, b2⟩ | ⟨b1, b2⟩
        · have m19 : ¬ τ.1 19 l = 0 := by rw [b2]; decide
          rw [if_pos b1, if_neg m19]
          by_cases ef : σ.1 (34 + k) 1 = σ.1 (34 + l) 1
          · rw [if_pos ef, if_pos ef]
            by_cases hb : HB y b e ∧ HB u d e
            · obtain ⟨g1, g2⟩ := hb
              rw [m_chainC y1 u1 g1 g2, (c_holds y1 y2).1 g1, Option.bind_some, if_pos rfl, (c_holds u1 u2).1 g2, Option.bind_some, if_pos rfl]
              obtain ⟨i, m, rfl, rfl, him⟩ := g1
              obtain ⟨j, m', rfl, em, hjm⟩ := g2
              have hm : m = m' := by rw [nI_eq (by omega) (by omega)] at em; exact em
              subst hm
              have cb : cpb (nI i) (nI j) (nI m) 48 48 = true := by
                unfold cpb
                rw [nI_clamp (by omega), nI_clamp (by omega), nI_clamp (by omega)]
                simp [nI_pos (show i < 2 ^ 31 by omega), nI_pos (show j < 2 ^ 31 by omega), nI_pos (show m < 2 ^ 31 by omega)]
                omega
              obtain ⟨τ1, e1, f1, g1⟩ := m_move1 (τ := τ) (k := k) (a := i) (b := m) hk4 (by omega)
              obtain ⟨τ2, e2, f2, g2⟩ := m_move2 (τ := τ1) (k := l) (a := j) (b := m) hl4 (by omega)
              rw [cb, gd_q, e1, e2, nI_clamp (by omega), nI_clamp (by omega), nI_clamp (by omega)]
              refine ⟨_, _, _, rfl, rfl, rel_sh (rel_23 h f1) (fun q hq => wA_1 (by omega)) (fun q hq => f2 q (by omega)) (fun q hq => ?_)⟩
              obtain ⟨⟨x, x1, x2, x3, x4⟩, s2, s3, s4⟩ := hS q hq
              rw [wA_1 (show 34 + q ≠ 38 + l by omega), f2 19 (by omega), f2 20 (by omega), f2 21 (by omega), f1 19 (by omega), f1 20 (by omega), f1 21 (by omega)]
              refine ⟨⟨x, x1, x2, x3, fun r hr => ?_⟩, s2, s3, s4⟩
              rw [g2, f1 22 (by omega)]
              by_cases ql : q = l
              · subst ql
                rw [wA_s]
                unfold va_cpy
                by_cases g : j ≤ r ∧ r < j + m
                · rw [if_pos (by omega), if_pos g, g1 _ (by omega), show 48 * k + i + (48 * q + r - (48 * q + j)) = 48 * k + (i + (r - j)) by omega]
                  exact y4 _ (by omega)
                · rw [if_neg (by omega), if_neg g]; exact x4 r hr
              · rw [wA_1 (by omega), if_neg (by omega)]; exact x4 r hr
            · rw [m_chainK y1 u1 hb]
              by_cases g1 : HB y b e
              · have g2 : ¬ HB u d e := fun w => hb ⟨g1, w⟩
                rw [(c_holds y1 y2).1 g1, Option.bind_some, if_pos rfl, (c_holds u1 u2).2 g2, Option.bind_some]
                exact ⟨_, _, _, rfl, rfl, rel_find 2 h⟩
              · rw [(c_holds y1 y2).2 g1, Option.bind_some]
                exact ⟨_, _, _, rfl, rfl, rel_find 2 h⟩
          · rw [if_neg ef, if_neg ef]
            exact ⟨_, _, _, rfl, rfl, rel_find 4 h⟩
        · have m0 : ¬ σ.1 (34 + l) 0 = 0 := by rw [b1]; decide
          rw [if_neg m0, if_pos b2]
          exact ⟨_, _, _, rfl, rfl, rel_find 1 h⟩
      · have n0 : ¬ σ.1 (34 + k) 0 = 0 := by rw [a1]; decide
        rw [if_neg n0, if_pos a2]
        exact ⟨_, _, _, rfl, rfl, rel_find 1 h⟩
