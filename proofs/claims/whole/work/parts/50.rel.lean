/-! the class's memory and the model's -/
/-- sheets: lost or there, form, size, and what the places hold -/
def RSh (σ τ : St) : Prop := ∀ k, k < 4 → (∃ z, z ≤ 48 ∧ σ.1 (34 + k) 2 = nI z ∧ τ.1 21 k = nI z ∧ ∀ i, i < z → τ.1 22 (48 * k + i) = σ.1 (38 + k) i) ∧ τ.1 20 k = σ.1 (34 + k) 1 ∧ (∃ f, f ≤ 2 ∧ σ.1 (34 + k) 1 = nI f) ∧ ((σ.1 (34 + k) 0 = 0 ∧ τ.1 19 k = 1) ∨ (σ.1 (34 + k) 0 = 1 ∧ τ.1 19 k = 0))
def RKey (σ τ : St) (n t : Nat) : Prop := n ≤ 12 ∧ t ≤ 12 ∧ σ.1 1 2 = nI n ∧ σ.1 1 1 = nI t ∧ τ.1 0 0 = nI n ∧ τ.1 0 1 = nI t ∧ τ.1 1 = σ.1 12 ∧ σ.1 1 3 = fltI n t (σ.1 12) ∧ σ.1 1 4 = nI (opN n (kcF n t (σ.1 12)) (-1)) ∧ ∀ q, q < 12 → σ.1 11 q = kcF n t (σ.1 12) q
def RRoom (σ τ : St) (P : Nat) (rw_ pl : Nat → Nat) : Prop := P ≤ 10 ∧ σ.1 2 0 = nI P ∧ τ.1 0 5 = nI P ∧ ∀ p, p < P → (σ.1 13 p = nI (rw_ p) ∧ σ.1 14 p = nI (pl p)) ∧ (τ.1 4 p = nI (rw_ p) ∧ τ.1 5 p = nI (pl p)) ∧ rw_ p < 5 ∧ pl p < 5
def RSet (σ τ : St) (pass lim : Nat) (as : Int32) : Prop := pass ≤ 100 ∧ lim ≤ 1000 ∧ σ.1 4 0 = nI pass ∧ τ.1 3 1 = nI pass ∧ σ.1 6 0 = nI lim ∧ τ.1 3 2 = nI lim ∧ σ.1 3 2 = as
def RTold (σ τ : St) (P T : Nat) (tp tq : Nat → Nat) (ta tt : Nat → Int32) (as : Int32) : Prop := T ≤ 150 ∧ TT σ tp tq ta tt T ∧ TM τ tp tq ta tt T as ∧ Lat σ tp tq ta T ∧ Cur σ tp tq ta (cntN tt as T) ∧ ∀ i, i < T → tp i < P ∧ ∃ v, v ≤ 5 ∧ ta i = nI v
def RD (σ τ : St) (n t P T pass lim : Nat) (rw_ pl tp tq : Nat → Nat) (ta tt : Nat → Int32) (as : Int32) : Prop :=
  RKey σ τ n t ∧ RRoom σ τ P rw_ pl ∧ RSet σ τ pass lim as ∧ RTold σ τ P T tp tq ta tt as ∧ RSh σ τ ∧ σ.1 0 11 = τ.1 0 29
def Rel (σ τ : St) : Prop := ∃ n t P T pass lim rw_ pl tp tq ta tt as, RD σ τ n t P T pass lim rw_ pl tp tq ta tt as
section M20
variable {σ τ σ' τ' : St} {n t P T pass lim : Nat} {rw_ pl tp tq : Nat → Nat} {ta tt : Nat → Int32} {as : Int32}
theorem RSh_f (h : RSh σ τ) (f : ∀ k, 34 ≤ k ∧ k < 42 → σ'.1 k = σ.1 k) (g : ∀ k, 19 ≤ k ∧ k < 23 → τ'.1 k = τ.1 k) : RSh σ' τ' := by
  intro k hk
  rw [f (34 + k) (by omega), f (38 + k) (by omega), g 19 (by omega), g 20 (by omega), g 21 (by omega), g 22 (by omega)]
  exact h k hk
theorem RKey_f (h : RKey σ τ n t) (f1 : σ'.1 1 = σ.1 1) (f2 : σ'.1 11 = σ.1 11) (f3 : σ'.1 12 = σ.1 12) (g1 : τ'.1 0 0 = τ.1 0 0) (g2 : τ'.1 0 1 = τ.1 0 1) (g3 : τ'.1 1 = τ.1 1) : RKey σ' τ' n t := by
  unfold RKey
  rw [f1, f2, f3, g1, g2, g3]
  exact h
theorem RRoom_f (h : RRoom σ τ P rw_ pl) (f1 : σ'.1 2 = σ.1 2) (f2 : σ'.1 13 = σ.1 13) (f3 : σ'.1 14 = σ.1 14) (g1 : τ'.1 0 5 = τ.1 0 5) (g2 : τ'.1 4 = τ.1 4) (g3 : τ'.1 5 = τ.1 5) : RRoom σ' τ' P rw_ pl := by
  unfold RRoom
  rw [f1, f2, f3, g1, g2, g3]
  exact h
theorem RSet_f (h : RSet σ τ pass lim as) (f1 : σ'.1 4 0 = σ.1 4 0) (f2 : σ'.1 6 0 = σ.1 6 0) (f3 : σ'.1 3 2 = σ.1 3 2) (g1 : τ'.1 3 = τ.1 3) : RSet σ' τ' pass lim as := by
  unfold RSet
  rw [f1, f2, f3, g1]
  exact h
theorem RTold_f (h : RTold σ τ P T tp tq ta tt as) (f : ∀ k, k = 3 ∨ (15 ≤ k ∧ k < 20) ∨ (42 ≤ k ∧ k < 62) → σ'.1 k = σ.1 k) (g1 : τ'.1 0 8 = τ.1 0 8) (g2 : τ'.1 3 0 = τ.1 3 0) (g3 : ∀ k, 6 ≤ k ∧ k < 10 → τ'.1 k = τ.1 k) : RTold σ' τ' P T tp tq ta tt as := by
  obtain ⟨h1, ⟨a1, a2⟩, ⟨b1, b2, b3⟩, c, ⟨d1, d2⟩, e⟩ := h
  refine ⟨h1, ⟨by rw [f 3 (by omega)]; exact a1, fun i hi => ?_⟩, ⟨by rw [g1]; exact b1, by rw [g2]; exact b2, fun i hi => ?_⟩, fun p q hp hq => ?_, ⟨by rw [f 3 (by omega)]; exact d1, fun p q hp hq => ?_⟩, e⟩
  · rw [f 15 (by omega), f 16 (by omega), f 17 (by omega), f 18 (by omega), f 19 (by omega)]; exact a2 i hi
  · rw [g3 6 (by omega), g3 7 (by omega), g3 8 (by omega), g3 9 (by omega)]; exact b3 i hi
  · rw [f (52 + p) (by omega)]; exact c p q hp hq
  · rw [f (42 + p) (by omega)]; exact d2 p q hp hq
theorem RD_Fr (h : RD σ τ n t P T pass lim rw_ pl tp tq ta tt as) (f : Fr σ σ') (g : FrM τ τ') : RD σ' τ' n t P T pass lim rw_ pl tp tq ta tt as := by
  obtain ⟨h1, h2, h3, h4, h5, h6⟩ := h
  refine ⟨RKey_f h1 (f 1 (by omega)) (f 11 (by omega)) (f 12 (by omega)) (by rw [g 0 (by omega)]) (by rw [g 0 (by omega)]) (g 1 (by omega)), RRoom_f h2 (f 2 (by omega)) (f 13 (by omega)) (f 14 (by omega)) (by rw [g 0 (by omega)]) (g 4 (by omega)) (g 5 (by omega)), RSet_f h3 (by rw [f 4 (by omega)]) (by rw [f 6 (by omega)]) (by rw [f 3 (by omega)]) (g 3 (by omega)), RTold_f h4 (fun k hk => f k (by omega)) (by rw [g 0 (by omega)]) (by rw [g 3 (by omega)]) (fun k hk => g k (by omega)), RSh_f h5 (fun k hk => f k (by omega)) (fun k hk => g k (by omega)), by rw [f 0 (by omega), g 0 (by omega)]; exact h6⟩
theorem sayF_v : ∀ c p q, (∀ i, i < c → ∃ v, v ≤ 5 ∧ ta i = nI v) → ∃ v, v ≤ 5 ∧ sayF tp tq ta c p q = nI v
  | 0, _, _, _ => ⟨0, by omega, rfl⟩
  | c + 1, p, q, h => by
    show ∃ v, v ≤ 5 ∧ (if p = tp c ∧ q = tq c then ta c else sayF tp tq ta c p q) = nI v
    by_cases e : p = tp c ∧ q = tq c
    · rw [if_pos e]; exact h c (by omega)
    · rw [if_neg e]; exact sayF_v c p q (fun i hi => h i (by omega))
/-- what the class shows -/
theorem rd_C (h : RD σ τ n t P T pass lim rw_ pl tp tq ta tt as) : CW σ n P (kcF n t (σ.1 12)) (sayF tp tq ta (cntN tt as T)) rw_ pl lim ∧ DB n P (kcF n t (σ.1 12)) (sayF tp tq ta (cntN tt as T)) rw_ pl lim := by
  obtain ⟨⟨k1, k2, k3, k4, k5, k6, k7, k8, k9, k10⟩, ⟨r1, r2, r3, r4⟩, ⟨s1, s2, s3, s4, s5, s6, s7⟩, ⟨t1, t2, t3, t4, t5, t6⟩, h5, h6⟩ := h
  have hle := cnt_le (tt := tt) (as := as) T
  exact ⟨⟨⟨k3, r2, k10, t5.2⟩, s5, fun p hp => (r4 p hp).1⟩, ⟨k1, r1, fun p q _ _ => sayF_v _ p q (fun i hi => (t6 i (by omega)).2), fun q _ => kcF_v k1 q, s2, fun p hp => (r4 p hp).2.2⟩⟩
/-- what the model lays -/
theorem rd_M (h : RD σ τ n t P T pass lim rw_ pl tp tq ta tt as) : ∃ τ', f_X12_lays τ = some τ' ∧ FrM τ τ' ∧ τ'.2 = τ.2 ∧ MW τ' n P (kcF n t (σ.1 12)) (sayF tp tq ta (cntN tt as T)) rw_ pl lim ∧ RbM τ' tp tq ta n (kcF n t (σ.1 12)) (cntN tt as T) := by
  obtain ⟨⟨k1, k2, k3, k4, k5, k6, k7, k8, k9, k10⟩, ⟨r1, r2, r3, r4⟩, ⟨s1, s2, s3, s4, s5, s6, s7⟩, ⟨t1, t2, t3, t4, t5, t6⟩, h5, h6⟩ := h
  obtain ⟨τ', e, f, g, m, r⟩ := m_lays t3 t1 k5 k1 k6 k2 r3
  rw [k7] at m r
  exact ⟨τ', e, f, g, ⟨m, by rw [f 3 (by omega)]; exact s6, fun p hp => by rw [f 4 (by omega), f 5 (by omega)]; exact (r4 p hp).2.1⟩, r⟩
end M20
