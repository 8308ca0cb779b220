/-! digest -/
theorem bl_q {R : Type} {v : Int64} {k : Int64 → Option R} : bl v k = k v := by
  have h : ∀ r, r = k v → bl v k = r := fun r e => by rw [e]; exact bl_e
  exact h _ rfl
def fo (v : Nat → Int32) : Nat → Int64 → Int64
  | 0, h => h
  | k + 1, h => 31 * fo v k h + (v k).toInt64
theorem fo_s {v : Nat → Int32} {k : Nat} {h : Int64} : 31 * fo v k h + (v k).toInt64 = fo v (k + 1) h := rfl
section M32
variable {σ τ σ' τ' : St} {n t P T pass lim : Nat} {rw_ pl tp tq : Nat → Nat} {ta tt : Nat → Int32} {as : Int32}
theorem c_withPupil (h : DG σ τ n t P T pass lim rw_ pl tp tq ta tt as) {p : Nat} (hp : p < P) (y : Int64) : ∃ s, f_X11_withPupil y (nI p) σ = some (fo (fun w => nI (rbP tp tq ta n (kcF n t (σ.1 12)) p (nI w) (cntN tt as T))) 3 (fo (mkW n P (kcF n t (σ.1 12)) (sayF tp tq ta (cntN tt as T)) pass p) 4 y), s) ∧ Fr σ s := by
  unfold f_X11_withPupil
  rw [jn_e]
  refine Exists.elim (lp_invK (R := Int64 × St) (F := L_X11_withPupil_6 (nI p)) (fun w x => x.1 = nI w ∧ x.2.1 = fo (mkW n P (kcF n t (σ.1 12)) (sayF tp tq ta (cntN tt as T)) pass p) w y ∧ Fr σ x.2.2) 4 (fun x => (x.2.1, x.2.2)) (x0 := ((0 : Int32), y, σ)) ⟨rfl, rfl, Fr_rf⟩ (by omega) (fun w x hw hx => ?_) (fun x hx K rec => ?_)) (fun x hxe => ?_)
  · obtain ⟨x, v, s⟩ := x
    obtain ⟨h1, h2, h3⟩ := hx
    dsimp only at h1 h2 h3
    subst h1
    obtain ⟨⟨s', d, fs⟩, _⟩ := d_mark (DG_Fr h h3 FrL_rf) hp hw
    rw [h3 12 (by omega)] at d
    have lt : ¬ (3 : Int32) < nI w := by rw [show (3 : Int32) = nI 3 from rfl, nI_ltI (by omega) (by omega)]; omega
    refine ⟨(nI (w + 1), fo (mkW n P (kcF n t (σ.1 12)) (sayF tp tq ta (cntN tt as T)) pass p) (w + 1) y, s'), ⟨rfl, rfl, Fr_tr h3 fs⟩, fun K rec => ?_⟩
    unfold L_X11_withPupil_6
    simp only [lt, if_false, d, Option.bind_some, bl_q, nI_1, h2, fo_s]
  · obtain ⟨x, v, s⟩ := x
    obtain ⟨h1, h2, h3⟩ := hx
    dsimp only at h1
    subst h1
    unfold L_X11_withPupil_6
    have lt : (3 : Int32) < nI 4 := by decide
    simp only [lt, if_true]
  · obtain ⟨⟨x1, x2, x3⟩, e⟩ := hxe
    rw [e]
    dsimp only
    refine ⟨x.2.2, ?_, x3⟩
    rw [x2]
    refine lp_count (fun w => (nI w, fo (fun w => nI (rbP tp tq ta n (kcF n t (σ.1 12)) p (nI w) (cntN tt as T))) w (fo (mkW n P (kcF n t (σ.1 12)) (sayF tp tq ta (cntN tt as T)) pass p) 4 y))) 3 rfl (by omega) (fun w hw rec => ?_) (fun rec => ?_)
    · have d := (d_rub (DG_Fr h x3 FrL_rf) hp hw).1
      rw [x3 12 (by omega)] at d
      have lt : ¬ (2 : Int32) < nI w := by rw [show (2 : Int32) = nI 2 from rfl, nI_ltI (by omega) (by omega)]; omega
      unfold L_X11_withPupil_38
      simp only [lt, if_false, d, Option.bind_some, bl_q, nI_1]
      rfl
    · unfold L_X11_withPupil_38
      have lt : (2 : Int32) < nI 3 := by decide
      simp only [lt, if_true]
theorem m_withPupil (h : DG σ τ n t P T pass lim rw_ pl tp tq ta tt as) {p : Nat} (hp : p < P) (y : Int64) (K : Int64 → Option (Int64 × St)) (rec : (Int32 × Int64) → Option (Int64 × St)) : L_X12_digest_49 τ K rec (nI p, y) = rec (nI (p + 1), fo (fun w => nI (rbP tp tq ta n (kcF n t (σ.1 12)) p (nI w) (cntN tt as T))) 3 (fo (mkW n P (kcF n t (σ.1 12)) (sayF tp tq ta (cntN tt as T)) pass p) 4 y)) := by
  have mP : τ.1 0 5 = nI P := h.2.1.1.2.1
  have hP : P ≤ 10 := h.1.2.1.1
  have lt : nI p < nI P := by rw [nI_ltI (by omega) (by omega)]; exact hp
  unfold L_X12_digest_49
  simp only [mP, lt, if_true, jn_e]
  refine lp_count (fun w => (nI w, fo (mkW n P (kcF n t (σ.1 12)) (sayF tp tq ta (cntN tt as T)) pass p) w y)) 4 rfl (by omega) (fun w hw rec' => ?_) (fun rec' => ?_)
  · have d := (d_mark h hp hw).2
    have lt : nI w < 4 := nI_lt (b := 4) hw (by omega)
    unfold L_X12_digest_60
    simp only [lt, if_true, d, Option.bind_some, bl_q, nI_1, fo_s]
  · unfold L_X12_digest_60
    have lt : ¬ nI 4 < 4 := by decide
    simp only [lt, if_false]
    refine lp_count (fun w => (nI w, fo (fun w => nI (rbP tp tq ta n (kcF n t (σ.1 12)) p (nI w) (cntN tt as T))) w (fo (mkW n P (kcF n t (σ.1 12)) (sayF tp tq ta (cntN tt as T)) pass p) 4 y))) 3 rfl (by omega) (fun w hw rec' => ?_) (fun rec' => ?_)
    · have d := (d_rub h hp hw).2
      have lt : nI w < 3 := nI_lt (b := 3) hw (by omega)
      unfold L_X12_digest_90
      simp only [lt, if_true, d, Option.bind_some, bl_q, nI_1]
      rfl
    · unfold L_X12_digest_90
      have lt : ¬ nI 3 < 3 := by decide
      simp only [lt, if_false, nI_1]
theorem d_question (h : DG σ τ n t P T pass lim rw_ pl tp tq ta tt as) {q : Nat} (hq : q < n) (y : Int64) : ∃ y' σ' τ', f_X11_withQuestion y (nI q) σ = some (y', σ') ∧ (∀ K rec, L_X12_digest_188 K rec (nI q, y, τ) = rec (nI (q + 1), y', τ')) ∧ Fr σ σ' ∧ FrL τ τ' := by
  have mn : τ.1 0 0 = nI n := h.2.1.1.1
  have hn : n ≤ 12 := h.1.1.1
  have lt : nI q < nI n := by rw [nI_ltI (by omega) (by omega)]; exact hq
  have i1 : inb (nI q) 12 = true := inb_t (by omega) (by omega)
  have j1 : (nI q).toNatClampNeg = q := nI_clamp (by omega)
  obtain ⟨r1, a1, b1⟩ := d_key h hq
  obtain ⟨r2, a2, b2⟩ := d_should h hq
  obtain ⟨r3, s3, a3, b3, f3⟩ := d_without h hq (w := 0) (by omega)
  have h3 := DG_Fr h f3 FrL_rf
  obtain ⟨r4, s4, a4, b4, f4⟩ := d_without h3 hq (w := 1) (by omega)
  have h4 := DG_Fr h3 f4 FrL_rf
  obtain ⟨r5, s5, a5, b5, f5⟩ := d_hard h4 hq (b := 0) (by decide)
  have h5 := DG_Fr h4 f5 FrL_rf
  obtain ⟨r6, s6, a6, b6, f6⟩ := d_hard h5 hq (b := 1) (by decide)
  have h6 := DG_Fr h5 f6 FrL_rf
  obtain ⟨r7, s7, t7, a7, b7, f7, g7⟩ := d_parts h6 hq (b := 0) (by decide)
  have h7 := DG_Fr h6 f7 g7
  obtain ⟨r8, s8, t8, a8, b8, f8, g8⟩ := d_parts h7 hq (b := 1) (by decide)
  rw [l00] at a3 b3
  rw [l11] at a4 b4
  refine ⟨31 * (31 * (31 * (31 * (31 * (31 * (31 * (31 * y + r1.toInt64) + r2.toInt64) + r3.toInt64) + r4.toInt64) + r5) + r6) + r7) + r8, s8, t8, ?_, fun K rec => ?_, Fr_tr f3 (Fr_tr f4 (Fr_tr f5 (Fr_tr f6 (Fr_tr f7 f8)))), FrL_tr g7 g8⟩
  · unfold f_X11_withQuestion
    simp only [a1, a2, a3, a4, a5, a6, a7, a8, Option.bind_some, bl_q]
  · unfold L_X12_digest_188
    simp only [mn, lt, if_true, i1, gd_q, j1, b1, b2, b3, b4, b5, b6, b7, b8, Option.bind_some, bl_q, nI_1]
theorem dg_end (h : DG σ τ n t P T pass lim rw_ pl tp tq ta tt as) (y : Int64) : JR (lp (L_X11_digest_134 (fun y18 => (f_X11_badly y18.2).bind (fun v19 => some ((31 * y18.1) + v19.toInt64, y18.2)))) NN (0, y, σ)) (lp (L_X12_digest_188 (fun y19 => (f_X12_badlyNow y19.2).bind (fun v20 => some ((31 * y19.1) + v20.toInt64, y19.2)))) NN (0, y, τ)) := by
  refine lp_two (fun q x w => (x.1 = nI q ∧ w.1 = nI q) ∧ x.2.1 = w.2.1 ∧ DG x.2.2 w.2.2 n t P T pass lim rw_ pl tp tq ta tt as) n JR ⟨⟨rfl, rfl⟩, rfl, h⟩ (by have := h.1.1.1; omega) (fun q x w hq hx => Or.inl ?_) (fun x w hx => ?_)
  · obtain ⟨x, v, s⟩ := x
    obtain ⟨w, v', r⟩ := w
    obtain ⟨⟨h1, h1'⟩, h2, h3⟩ := hx
    dsimp only at h1 h1' h2 h3
    subst h1; subst h1'; subst h2
    obtain ⟨y', s', r', e1, e2, f1, f2⟩ := d_question h3 hq v
    have hn : n ≤ 12 := h3.1.1.1
    have sn : s.1 1 2 = nI n := h3.1.1.2.2.1
    have lt : nI q < nI n := by rw [nI_ltI (by omega) (by omega)]; exact hq
    refine ⟨(nI (q + 1), y', s'), (nI (q + 1), y', r'), ⟨⟨rfl, rfl⟩, rfl, DG_Fr h3 f1 f2⟩, fun rec => ?_, fun rec => e2 _ rec⟩
    unfold L_X11_digest_134
    simp only [sn, lt, if_true, e1, Option.bind_some, nI_1]
  · obtain ⟨x, v, s⟩ := x
    obtain ⟨w, v', r⟩ := w
    obtain ⟨⟨h1, h1'⟩, h2, h3⟩ := hx
    dsimp only at h1 h1' h2 h3
    subst h1; subst h1'; subst h2
    have hn : n ≤ 12 := h3.1.1.1
    have sn : s.1 1 2 = nI n := h3.1.1.2.2.1
    have rn : r.1 0 0 = nI n := h3.2.1.1.1
    have lt : ¬ nI n < nI n := by rw [nI_ltI (by omega) (by omega)]; omega
    obtain ⟨u, c1, c2⟩ := d_badly h3
    refine ⟨some (31 * v + u.toInt64, s), some (31 * v + u.toInt64, r), ⟨_, s, r, rfl, rfl, n, t, P, T, pass, lim, rw_, pl, tp, tq, ta, tt, as, h3.1⟩, fun rec => ?_, fun rec => ?_⟩
    · unfold L_X11_digest_134
      simp only [sn, lt, if_false, c1, Option.bind_some]
    · unfold L_X12_digest_188
      simp only [rn, lt, if_false, c2, Option.bind_some]
end M32
theorem o_digest : Op f_X11_digest f_X12_digest := by
  intro σ τ hrel
  unfold f_X11_digest f_X12_digest
  rw [jn_e, jn_e]
  refine lp_two (fun k x w => (x.1 = nI k ∧ w.1 = nI k) ∧ x.2.1 = w.2.1 ∧ Rel x.2.2 w.2.2) 8 JR ⟨⟨rfl, rfl⟩, rfl, hrel⟩ (by omega) (fun k x w hk hx => Or.inl ?_) (fun x w hx => ?_)
  · obtain ⟨x, y, s⟩ := x
    obtain ⟨w, y', r⟩ := w
    obtain ⟨⟨h1, h1'⟩, h2, h3⟩ := hx
    dsimp only at h1 h1' h2 h3
    subst h1; subst h1'; subst h2
    obtain ⟨v, s', r', e1, e2, hr⟩ := o_count (nI k) s r h3
    have l1 : ¬ (7 : Int32) < nI k := by rw [show (7 : Int32) = nI 7 from rfl, nI_ltI (by omega) (by omega)]; omega
    have l2 : nI k < 8 := nI_lt (b := 8) hk (by omega)
    refine ⟨(nI (k + 1), 31 * y + v.toInt64, s'), (nI (k + 1), 31 * y + v.toInt64, r'), ⟨⟨rfl, rfl⟩, rfl, hr⟩, fun rec => ?_, fun rec => ?_⟩
    · unfold L_X11_digest_6
      simp only [l1, if_false, e1, Option.bind_some, bl_q, nI_1]
    · unfold L_X12_digest_6
      simp only [l2, if_true, e2, Option.bind_some, bl_q, nI_1]
  · obtain ⟨x, y, s⟩ := x
    obtain ⟨w, y', r⟩ := w
    obtain ⟨⟨h1, h1'⟩, h2, h3⟩ := hx
    dsimp only at h1 h1' h2 h3
    subst h1; subst h1'; subst h2
    refine ⟨_, _, ?_, fun rec => if_pos (show (7 : Int32) < nI 8 by decide), fun rec => if_neg (show ¬ nI 8 < (8 : Int32) by decide)⟩
    obtain ⟨n, t, P, T, pass, lim, rw_, pl, tp, tq, ta, tt, as, h⟩ := h3
    obtain ⟨k1, k2, k3, k4, k5, k6, k7, k8, k9, k10⟩ := id h.1
    have e0 : f_X11_fault s = some (fltI n t (s.1 12)) := by unfold f_X11_fault; rw [k8]
    have m0 := m_fault k5 k1 k6 k2
    rw [k7] at m0
    have h' := RD_Fr h Fr_rf (FrM_w2 (τ := r) (f := rwk 12 (fun _ => 0) (r.1 2)))
    obtain ⟨τ1, e1, f1, _, hM, hR⟩ := rd_M h'
    have hd : DG s τ1 n t P T pass lim rw_ pl tp tq ta tt as := ⟨RD_Fr h' Fr_rf f1, hM, hR⟩
    have hP : P ≤ 10 := h.2.1.1
    dsimp only
    rw [e0, m0, Option.bind_some, Option.bind_some, bl_q, bl_q]
    dsimp only
    rw [e1, Option.bind_some, jn_e, jn_e]
    refine lp_two (fun p x w => (x.1 = nI p ∧ w.1 = nI p) ∧ x.2.1 = w.2 ∧ Fr s x.2.2) P JR ⟨⟨rfl, rfl⟩, rfl, Fr_rf⟩ (by omega) (fun p x w hp hx => Or.inl ?_) (fun x w hx => ?_)
    · obtain ⟨x, y, s'⟩ := x
      obtain ⟨w, y'⟩ := w
      obtain ⟨⟨h1, h1'⟩, h2, h3⟩ := hx
      dsimp only at h1 h1' h2 h3
      subst h1; subst h1'; subst h2
      have hd' := DG_Fr hd h3 FrL_rf
      obtain ⟨s2, ec, fc⟩ := c_withPupil hd' hp y
      have em := m_withPupil hd' hp y
      have sP : s'.1 2 0 = nI P := hd'.1.2.1.2.1
      have lt : nI p < nI P := by rw [nI_ltI (by omega) (by omega)]; exact hp
      refine ⟨(nI (p + 1), _, s2), (nI (p + 1), _), ⟨⟨rfl, rfl⟩, rfl, Fr_tr h3 fc⟩, fun rec => ?_, fun rec => em _ rec⟩
      unfold L_X11_digest_45
      simp only [sP, lt, if_true, ec, Option.bind_some, nI_1]
    · obtain ⟨x, y, s'⟩ := x
      obtain ⟨w, y'⟩ := w
      obtain ⟨⟨h1, h1'⟩, h2, h3⟩ := hx
      dsimp only at h1 h1' h2 h3
      subst h1; subst h1'; subst h2
      have hd' := DG_Fr hd h3 FrL_rf
      have sP : s'.1 2 0 = nI P := hd'.1.2.1.2.1
      have mP : τ1.1 0 5 = nI P := hd.2.1.1.2.1
      have lt : ¬ nI P < nI P := by rw [nI_ltI (by omega) (by omega)]; omega
      refine ⟨_, _, ?_, fun rec => if_neg (show ¬ nI P < s'.1 2 0 by rw [sP]; exact lt), fun rec => if_neg (show ¬ nI P < τ1.1 0 5 by rw [mP]; exact lt)⟩
      obtain ⟨r1, t1, a1, b1, g1⟩ := d_seats hd'
      have h1 := DG_Fr hd' Fr_rf g1
      obtain ⟨r2, s2, t2, a2, b2, f2, g2⟩ := d_sources h1
      have h2 := DG_Fr h1 f2 g2
      obtain ⟨r3, s3, t3, a3, b3, f3, g3⟩ := d_chain h2
      have h3 := DG_Fr h2 f3 g3
      obtain ⟨r4, s4, a4, b4, f4⟩ := d_gains h3 (k := 1) (by omega) (b := 0) (by decide)
      have h4 := DG_Fr h3 f4 FrL_rf
      obtain ⟨r5, s5, a5, b5, f5⟩ := d_gains h4 (k := 1) (by omega) (b := 1) (by decide)
      have h5 := DG_Fr h4 f5 FrL_rf
      rw [l11] at a4 b4 a5 b5
      simp only [a1, b1, a2, b2, a3, b3, a4, b4, a5, b5, Option.bind_some, bl_q, jn_e]
      exact dg_end h5 _
