/-! turns: the model's step from one order of the pupils to the next -/
def pvN (o : Nat → Nat) : Nat → Option Nat
  | 0 => none
  | k + 1 => if o (k + 1) < o k then pvN o k else some k
def slN (o : Nat → Nat) (i : Nat) : Nat → Nat
  | 0 => 0
  | k + 1 => if o (k + 1) < o i then slN o i k else k + 1
def swN (o : Nat → Nat) (a b : Nat) : Nat → Nat := fun i => if i = b then o a else if i = a then o b else o i
def rvN : Nat → (Nat → Nat) → Nat → Nat → (Nat → Nat)
  | 0, o, _, _ => o
  | f + 1, o, lo, hi => if lo < hi then rvN f (swN o lo hi) (lo + 1) (hi - 1) else o
def nextN (P : Nat) (o : Nat → Nat) : Option (Nat → Nat) :=
  match pvN o (P - 1) with
  | none => none
  | some i => some (rvN P (swN o i (slN o i (P - 1))) (i + 1) (P - 1))
def pI (m : Nat) : Int32 := match m with
  | 0 => -1
  | k + 1 => nI k
def pvI (x : Option Nat) : Int32 := match x with
  | none => -1
  | some k => nI k
theorem pI_s {k : Nat} : nI k + (-1) = pI k := by
  cases k with
  | zero => rfl
  | succ k =>
    show nI (k + 1) + (-1) = nI k
    rw [← nI_1]
    apply Int32.toBitVec_inj.mp
    show BitVec.ofNat 32 k + 1#32 + (-1#32) = BitVec.ofNat 32 k
    rw [BitVec.add_assoc, show (1#32 + -1#32) = 0#32 by decide, BitVec.add_zero]
theorem m_t7 {τ : St} {P : Nat} {o : Nat → Nat} (hP : P ≤ 10) (ho : ∀ p, p < P → τ.1 15 p = nI (o p) ∧ o p < 100) (K : Int32 → Option (Bool × St)) : ∀ m N, m + 1 ≤ P → m < N → lp (L_X12_turns_7 τ K) N (pI m) = K (pvI (pvN o m))
  | 0, N, _, hN => by
    obtain ⟨M, rfl⟩ : ∃ M, N = M + 1 := ⟨N - 1, by omega⟩
    show L_X12_turns_7 τ K (lp (L_X12_turns_7 τ K) M) (-1) = K (-1)
    generalize lp (L_X12_turns_7 τ K) M = rec
    unfold L_X12_turns_7
    rw [if_pos (by decide)]
  | k + 1, N, hm, hN => by
    obtain ⟨M, rfl⟩ : ∃ M, N = M + 1 := ⟨N - 1, by omega⟩
    show L_X12_turns_7 τ K (lp (L_X12_turns_7 τ K) M) (nI k) = K (pvI (pvN o (k + 1)))
    have ih := m_t7 hP ho K k M (by omega) (by omega)
    generalize lp (L_X12_turns_7 τ K) M = rec at ih ⊢
    obtain ⟨a1, a2⟩ := ho k (by omega)
    obtain ⟨b1, b2⟩ := ho (k + 1) (by omega)
    unfold L_X12_turns_7
    have n0 : ¬ nI k < 0 := by rw [show (0 : Int32) = nI 0 from rfl, nI_ltI (by omega) (by omega)]; omega
    have i1 : inb (nI k) 10 = true := inb_t (by omega) (by omega)
    have i2 : inb (nI (k + 1)) 10 = true := inb_t (by omega) (by omega)
    have j1 : (nI k).toNatClampNeg = k := nI_clamp (by omega)
    have j2 : (nI (k + 1)).toNatClampNeg = k + 1 := nI_clamp (by omega)
    simp only [n0, if_false, nI_1, i1, i2, gd_q, j1, j2, a1, b1, pI_s, ih]
    show _ = K (pvI (if o (k + 1) < o k then pvN o k else some k))
    by_cases c : o (k + 1) < o k
    · rw [if_pos c, if_pos (by rw [nI_ltI (by omega) (by omega)]; exact c)]
    · rw [if_neg c, if_neg (by rw [nI_ltI (by omega) (by omega)]; exact c)]; rfl
theorem m_t47 {τ : St} {P i : Nat} {o : Nat → Nat} (hP : P ≤ 10) (ho : ∀ p, p < P → τ.1 15 p = nI (o p) ∧ o p < 100) (K : Int32 → Option (Bool × St)) : ∀ m N, m < P → i ≤ m → m < N → lp (L_X12_turns_47 τ (nI i) K) N (nI m) = K (nI (slN o i m))
  | m, N, hm, hi, hN => by
    obtain ⟨M, rfl⟩ : ∃ M, N = M + 1 := ⟨N - 1, by omega⟩
    show L_X12_turns_47 τ (nI i) K (lp (L_X12_turns_47 τ (nI i) K) M) (nI m) = _
    have ih : ∀ k, m = k + 1 → i ≤ k → lp (L_X12_turns_47 τ (nI i) K) M (nI k) = K (nI (slN o i k)) := fun k hk h => m_t47 hP ho K k M (by omega) h (by omega)
    generalize lp (L_X12_turns_47 τ (nI i) K) M = rec at ih ⊢
    obtain ⟨a1, a2⟩ := ho m hm
    obtain ⟨b1, b2⟩ := ho i (by omega)
    unfold L_X12_turns_47
    have i1 : inb (nI m) 10 = true := inb_t (by omega) (by omega)
    have i2 : inb (nI i) 10 = true := inb_t (by omega) (by omega)
    have j1 : (nI m).toNatClampNeg = m := nI_clamp (by omega)
    have j2 : (nI i).toNatClampNeg = i := nI_clamp (by omega)
    simp only [i1, i2, gd_q, j1, j2, a1, b1, pI_s]
    by_cases c : o m < o i
    · rw [if_pos (by rw [nI_ltI (by omega) (by omega)]; exact c)]
      cases m with
      | zero => rw [show i = 0 by omega] at c; exact absurd c (Nat.lt_irrefl _)
      | succ k =>
        have hne : i ≠ k + 1 := fun e => by rw [e] at c; exact Nat.lt_irrefl _ c
        show rec (nI k) = K (nI (if o (k + 1) < o i then slN o i k else k + 1))
        rw [if_pos c]
        exact ih k rfl (by omega)
    · rw [if_neg (by rw [nI_ltI (by omega) (by omega)]; exact c)]
      cases m with
      | zero => rfl
      | succ k =>
        show _ = K (nI (if o (k + 1) < o i then slN o i k else k + 1))
        rw [if_neg c]
termination_by m => m
def F15 (τ x : St) : Prop := (∀ k, k ≠ 15 → x.1 k = τ.1 k) ∧ x.2 = τ.2
theorem sw_ok {τ : St} {P a b : Nat} {o : Nat → Nat} (ha : a < P) (hb : b < P) (ho : ∀ p, p < P → τ.1 15 p = nI (o p) ∧ o p < 100) : ∀ p, p < P → (wI (wI τ 15 a (nI (o b))) 15 b (nI (o a))).1 15 p = nI (swN o a b p) ∧ swN o a b p < 100 := by
  intro p hp
  rw [wI_e]
  unfold swN
  by_cases e : p = b
  · rw [if_pos ⟨rfl, e⟩, if_pos e]; exact ⟨rfl, (ho a ha).2⟩
  · rw [if_neg (by omega), if_neg e, wI_e]
    by_cases g : p = a
    · rw [if_pos ⟨rfl, g⟩, if_pos g]; exact ⟨rfl, (ho b hb).2⟩
    · rw [if_neg (by omega), if_neg g]; exact ho p hp
theorem m_t107 {P : Nat} (hP : P ≤ 10) : ∀ (f N : Nat) (τ : St) (o : Nat → Nat) (lo hi : Nat), (∀ p, p < P → τ.1 15 p = nI (o p) ∧ o p < 100) → hi < P → hi < lo + f → f < N → lo ≤ 10 → ∃ τ', lp L_X12_turns_107 N (nI hi, nI lo, τ) = some (true, τ') ∧ F15 τ τ' ∧ ∀ p, p < P → τ'.1 15 p = nI (rvN f o lo hi p) ∧ rvN f o lo hi p < 100
  | f, N, τ, o, lo, hi, ho, hhi, hf, hN, hlo => by
    obtain ⟨M, rfl⟩ : ∃ M, N = M + 1 := ⟨N - 1, by omega⟩
    by_cases c : lo < hi
    · obtain ⟨g, rfl⟩ : ∃ g, f = g + 1 := ⟨f - 1, by omega⟩
      obtain ⟨τ', e, f1, f2⟩ := m_t107 hP g M (wI (wI τ 15 lo (nI (o hi))) 15 hi (nI (o lo))) (swN o lo hi) (lo + 1) (hi - 1) (sw_ok (by omega) hhi ho) (by omega) (by omega) (by omega) (by omega)
      refine ⟨τ', ?_, ⟨fun k hk => by rw [f1.1 k hk, wI_f hk, wI_f hk], f1.2⟩, ?_⟩
      · show L_X12_turns_107 (lp L_X12_turns_107 M) (nI hi, nI lo, τ) = _
        generalize lp L_X12_turns_107 M = rec at e ⊢
        obtain ⟨a1, a2⟩ := ho lo (by omega)
        obtain ⟨b1, b2⟩ := ho hi hhi
        unfold L_X12_turns_107
        have lt : nI lo < nI hi := by rw [nI_ltI (by omega) (by omega)]; exact c
        have i1 : inb (nI lo) 10 = true := inb_t (by omega) (by omega)
        have i2 : inb (nI hi) 10 = true := inb_t (by omega) (by omega)
        have j1 : (nI lo).toNatClampNeg = lo := nI_clamp (by omega)
        have j2 : (nI hi).toNatClampNeg = hi := nI_clamp (by omega)
        obtain ⟨h', rfl⟩ : ∃ h', hi = h' + 1 := ⟨hi - 1, by omega⟩
        simp only [lt, if_true, i1, i2, gd_q, j1, j2, a1, b1, bv_q, bd_e, pI_s, nI_1]
        exact e
      · show ∀ p, p < P → τ'.1 15 p = nI ((if lo < hi then rvN g (swN o lo hi) (lo + 1) (hi - 1) else o) p) ∧ (if lo < hi then rvN g (swN o lo hi) (lo + 1) (hi - 1) else o) p < 100
        rw [if_pos c]; exact f2
    · refine ⟨τ, ?_, ⟨fun _ _ => rfl, rfl⟩, ?_⟩
      · show L_X12_turns_107 (lp L_X12_turns_107 M) (nI hi, nI lo, τ) = _
        generalize lp L_X12_turns_107 M = rec
        unfold L_X12_turns_107
        have lt : ¬ nI lo < nI hi := by rw [nI_ltI (by omega) (by omega)]; exact c
        simp only [lt, if_false]
      · have : rvN f o lo hi = o := by
          cases f with
          | zero => rfl
          | succ g => show (if lo < hi then _ else o) = o; rw [if_neg c]
        rw [this]; exact ho
termination_by f => f
theorem pv_lt {o : Nat → Nat} : ∀ m i, pvN o m = some i → i < m
  | 0, i, h => by simp [pvN] at h
  | k + 1, i, h => by
    have h' : (if o (k + 1) < o k then pvN o k else some k) = some i := h
    by_cases c : o (k + 1) < o k
    · rw [if_pos c] at h'; have := pv_lt k i h'; omega
    · rw [if_neg c] at h'; injection h' with h'; omega
theorem sl_le {o : Nat → Nat} {i : Nat} : ∀ m, slN o i m ≤ m
  | 0 => Nat.le_refl _
  | k + 1 => by
    show (if o (k + 1) < o i then slN o i k else k + 1) ≤ _
    have := sl_le (o := o) (i := i) k
    split <;> omega
theorem m_turns0 {τ : St} {P : Nat} {o : Nat → Nat} (hP : P ≤ 10) (h5 : τ.1 0 5 = nI P) (ho : ∀ p, p < P → τ.1 15 p = nI (o p) ∧ o p < 100) (h : nextN P o = none) : f_X12_turns τ = some (false, τ) := by
  have hpv : pvN o (P - 1) = none := by
    unfold nextN at h
    split at h
    · assumption
    · exact absurd h (by simp)
  unfold f_X12_turns
  rw [bv_e, jn_e, h5]
  by_cases c : P = 0
  · subst c
    obtain ⟨N, e⟩ : ∃ N, NN = N + 1 := ⟨9999, NN_eq⟩
    rw [e]
    show L_X12_turns_7 τ _ (lp _ N) (nI 0 - 2) = _
    generalize lp _ N = rec
    unfold L_X12_turns_7
    have n0 : nI 0 - 2 < 0 := by decide
    simp only [n0, if_true]
  · have e2 : nI P - 2 = pI (P - 1) := by
      obtain ⟨Q, rfl⟩ : ∃ Q, P = Q + 1 := ⟨P - 1, by omega⟩
      cases Q with
      | zero => rfl
      | succ R =>
        show nI (R + 1 + 1) - nI 2 = nI R
        rw [pk_sub (by omega)]
        rfl
    rw [e2, m_t7 hP ho _ (P - 1) NN (by omega) (nn_lt (by omega)), hpv]
    rfl
theorem m_turns1 {τ : St} {P : Nat} {o o' : Nat → Nat} (hP : P ≤ 10) (h5 : τ.1 0 5 = nI P) (ho : ∀ p, p < P → τ.1 15 p = nI (o p) ∧ o p < 100) (h : nextN P o = some o') : ∃ τ', f_X12_turns τ = some (true, τ') ∧ F15 τ τ' ∧ ∀ p, p < P → τ'.1 15 p = nI (o' p) := by
  unfold nextN at h
  split at h
  · exact absurd h (by simp)
  · rename_i i hpv
    injection h with h
    have hi := pv_lt _ _ hpv
    obtain ⟨Q, rfl⟩ : ∃ Q, P = Q + 2 := ⟨P - 2, by omega⟩
    have hsl := sl_le (o := o) (i := i) (Q + 1)
    simp only [Nat.add_sub_cancel, show Q + 2 - 1 = Q + 1 by omega] at h hpv hi
    obtain ⟨τ', e, f1, f2⟩ := m_t107 hP (Q + 2) NN (wI (wI τ 15 i (nI (o (slN o i (Q + 1))))) 15 (slN o i (Q + 1)) (nI (o i))) (swN o i (slN o i (Q + 1))) (i + 1) (Q + 1) (sw_ok (by omega) (by omega) ho) (by omega) (by omega) (nn_lt (by omega)) (by omega)
    refine ⟨τ', ?_, ⟨fun k hk => by rw [f1.1 k hk, wI_f hk, wI_f hk], f1.2⟩, fun p hp => by rw [← h]; exact (f2 p hp).1⟩
    have e2 : nI (Q + 2) - 2 = pI (Q + 1) := by
      show nI (Q + 2) - nI 2 = nI Q
      rw [pk_sub (by omega)]; rfl
    have e1 : nI (Q + 2) - 1 = nI (Q + 1) := by
      show nI (Q + 2) - nI 1 = nI (Q + 1)
      rw [pk_sub (by omega)]; rfl
    unfold f_X12_turns
    rw [bv_e, jn_e, h5, e2, m_t7 hP ho _ (Q + 1) NN (by omega) (nn_lt (by omega)), hpv]
    rw [show pvI (some i) = nI i from rfl]
    obtain ⟨a1, a2⟩ := ho i (by omega)
    obtain ⟨b1, b2⟩ := ho (slN o i (Q + 1)) (by omega)
    have n0 : ¬ nI i < 0 := by rw [show (0 : Int32) = nI 0 from rfl, nI_ltI (by omega) (by omega)]; omega
    rw [if_neg n0, bv_e, jn_e, e1, m_t47 hP ho _ (Q + 1) NN (by omega) (by omega) (nn_lt (by omega))]
    have i1 : inb (nI i) 10 = true := inb_t (by omega) (by omega)
    have i2 : inb (nI (slN o i (Q + 1))) 10 = true := inb_t (by omega) (by omega)
    have j1 : (nI i).toNatClampNeg = i := nI_clamp (by omega)
    have j2 : (nI (slN o i (Q + 1))).toNatClampNeg = slN o i (Q + 1) := nI_clamp (by omega)
    have h59 : (wI (wI τ 15 i (nI (o (slN o i (Q + 1))))) 15 (slN o i (Q + 1)) (nI (o i))).1 0 5 = nI (Q + 2) := by
      rw [wI_f (by omega), wI_f (by omega)]; exact h5
    simp only [i1, i2, gd_q, j1, j2, a1, b1, bv_q, bd_e, nI_1, h59, e1]
    exact e
