/-! the two worlds as their constructors leave them -/
def s0C : Nat → Nat → Int32
  | 1 => fun j => ([0, 0, 10, 0, 0] : List Int32).getD j 0
  | 3 => fun j => ([0, 0, 999] : List Int32).getD j 0
  | 4 => fun j => ([50] : List Int32).getD j 0
  | 6 => fun j => ([50] : List Int32).getD j 0
  | 34 => fun j => ([1] : List Int32).getD j 0
  | 35 => fun j => ([1] : List Int32).getD j 0
  | 36 => fun j => ([1] : List Int32).getD j 0
  | 37 => fun j => ([1] : List Int32).getD j 0
  | _ => fun _ => 0
def l0C : Nat → Nat → Int64
  | 10 => fun j => ([0, 1] : List Int64).getD j 0
  | _ => fun _ => 0
def σC : St := (s0C, l0C)
def s0M : Nat → Nat → Int32
  | 0 => fun j => ([10] : List Int32).getD j 0
  | 3 => fun j => ([999, 50, 50] : List Int32).getD j 0
  | _ => fun _ => 0
def σM : St := (s0M, fun _ _ => 0)
def aC (h0 : Nat) (qs : Nat → Nat) (k : Nat) : Nat := ([h0, qs 0, qs 3, qs 6, qs 15, qs 18, qs 19, qs 22, qs 26, qs 29, qs 14, qs 1, qs 2, qs 4, qs 5, qs 8, qs 9, qs 10, qs 11, qs 12, qs 16, qs 17, qs 20, qs 21, qs 23, qs 24, qs 25, qs 27, qs 28, qs 30, qs 31, qs 32, qs 7, qs 13, qs 33, qs 35, qs 37, qs 39, qs 34, qs 36, qs 38, qs 40, (qs 7 + 1), (qs 7 + 2), (qs 7 + 3), (qs 7 + 4), (qs 7 + 5), (qs 7 + 6), (qs 7 + 7), (qs 7 + 8), (qs 7 + 9), (qs 7 + 10), (qs 13 + 1), (qs 13 + 2), (qs 13 + 3), (qs 13 + 4), (qs 13 + 5), (qs 13 + 6), (qs 13 + 7), (qs 13 + 8), (qs 13 + 9), (qs 13 + 10)] : List Nat).getD k 0
def pC (k : Nat) : Nat := ([0, 1, 4, 7, 36, 39, 40, 43, 47, 50, 35, 2, 3, 5, 6, 19, 20, 21, 22, 23, 37, 38, 41, 42, 44, 45, 46, 48, 49, 51, 52, 53, 8, 24, 54, 56, 58, 60, 55, 57, 59, 61, 9, 10, 11, 12, 13, 14, 15, 16, 17, 18, 25, 26, 27, 28, 29, 30, 31, 32, 33, 34] : List Nat).getD k 0
theorem pC_inj : ∀ i, i < 62 → ∀ j, j < 62 → pC i = pC j → i = j := by decide +kernel
theorem f31 (D : va_G) (g : Nat → ClassId) (h0 : Nat) (qs : Nat → Nat) : (va_up (va_up (va_up (va_up (fun _ => none) (0 : Int32).toNatClampNeg (some (qs 33))) (1 : Int32).toNatClampNeg (some (qs 35))) (2 : Int32).toNatClampNeg (some (qs 37))) (3 : Int32).toNatClampNeg (some (qs 39))) = rfs WC (D, aC h0 qs, g) 31 4 := by
  have e0 : (0 : Int32).toNatClampNeg = 0 := by decide
  have e1 : (1 : Int32).toNatClampNeg = 1 := by decide
  have e2 : (2 : Int32).toNatClampNeg = 2 := by decide
  have e3 : (3 : Int32).toNatClampNeg = 3 := by decide
  rw [e0, e1, e2, e3]
  funext j
  by_cases h : j < 4
  · rcases (show j = 0 ∨ j = 1 ∨ j = 2 ∨ j = 3 by omega) with rfl | rfl | rfl | rfl <;> rfl
  · unfold rfs va_up
    simp only [if_neg h, if_neg (show ¬ j = 0 by omega), if_neg (show ¬ j = 1 by omega), if_neg (show ¬ j = 2 by omega), if_neg (show ¬ j = 3 by omega)]
theorem f32 (D : va_G) (g : Nat → ClassId) (h0 : Nat) (qs : Nat → Nat) : (fun j => if j < 10 then some (qs 7 + 1 + j) else none) = rfs WC (D, aC h0 qs, g) 32 10 := by
  funext j
  by_cases h : j < 10
  · rcases (show j = 0 ∨ j = 1 ∨ j = 2 ∨ j = 3 ∨ j = 4 ∨ j = 5 ∨ j = 6 ∨ j = 7 ∨ j = 8 ∨ j = 9 by omega) with rfl | rfl | rfl | rfl | rfl | rfl | rfl | rfl | rfl | rfl <;> rfl
  · unfold rfs
    simp only [if_neg h]
theorem f33 (D : va_G) (g : Nat → ClassId) (h0 : Nat) (qs : Nat → Nat) : (fun j => if j < 10 then some (qs 13 + 1 + j) else none) = rfs WC (D, aC h0 qs, g) 33 10 := by
  funext j
  by_cases h : j < 10
  · rcases (show j = 0 ∨ j = 1 ∨ j = 2 ∨ j = 3 ∨ j = 4 ∨ j = 5 ∨ j = 6 ∨ j = 7 ∨ j = 8 ∨ j = 9 by omega) with rfl | rfl | rfl | rfl | rfl | rfl | rfl | rfl | rfl | rfl <;> rfl
  · unfold rfs
    simp only [if_neg h]
set_option maxRecDepth 100000 in
theorem wC_at (D : va_G) (g : Nat → ClassId) (h0 : Nat) (qs : Nat → Nat) : ∀ k, k < 62 → ∃ e, (wn_X11 g h0 qs)[pC k]? = some (aC h0 qs k, e) ∧ e = cellOf WC (D, aC h0 qs, g) σC k
  | 0, _ => ⟨_, rfl, rfl⟩
  | 1, _ => ⟨_, rfl, rfl⟩
  | 2, _ => ⟨_, rfl, rfl⟩
  | 3, _ => ⟨_, rfl, rfl⟩
  | 4, _ => ⟨_, rfl, rfl⟩
  | 5, _ => ⟨_, rfl, rfl⟩
  | 6, _ => ⟨_, rfl, rfl⟩
  | 7, _ => ⟨_, rfl, rfl⟩
  | 8, _ => ⟨_, rfl, rfl⟩
  | 9, _ => ⟨_, rfl, rfl⟩
  | 10, _ => ⟨_, rfl, rfl⟩
  | 11, _ => ⟨_, rfl, rfl⟩
  | 12, _ => ⟨_, rfl, rfl⟩
  | 13, _ => ⟨_, rfl, rfl⟩
  | 14, _ => ⟨_, rfl, rfl⟩
  | 15, _ => ⟨_, rfl, rfl⟩
  | 16, _ => ⟨_, rfl, rfl⟩
  | 17, _ => ⟨_, rfl, rfl⟩
  | 18, _ => ⟨_, rfl, rfl⟩
  | 19, _ => ⟨_, rfl, rfl⟩
  | 20, _ => ⟨_, rfl, rfl⟩
  | 21, _ => ⟨_, rfl, rfl⟩
  | 22, _ => ⟨_, rfl, rfl⟩
  | 23, _ => ⟨_, rfl, rfl⟩
  | 24, _ => ⟨_, rfl, rfl⟩
  | 25, _ => ⟨_, rfl, rfl⟩
  | 26, _ => ⟨_, rfl, rfl⟩
  | 27, _ => ⟨_, rfl, rfl⟩
  | 28, _ => ⟨_, rfl, rfl⟩
  | 29, _ => ⟨_, rfl, rfl⟩
  | 30, _ => ⟨_, rfl, rfl⟩
  | 31, _ => ⟨_, rfl, by rw [f31 D g h0 qs]; rfl⟩
  | 32, _ => ⟨_, rfl, by rw [f32 D g h0 qs]; rfl⟩
  | 33, _ => ⟨_, rfl, by rw [f33 D g h0 qs]; rfl⟩
  | 34, _ => ⟨_, rfl, rfl⟩
  | 35, _ => ⟨_, rfl, rfl⟩
  | 36, _ => ⟨_, rfl, rfl⟩
  | 37, _ => ⟨_, rfl, rfl⟩
  | 38, _ => ⟨_, rfl, rfl⟩
  | 39, _ => ⟨_, rfl, rfl⟩
  | 40, _ => ⟨_, rfl, rfl⟩
  | 41, _ => ⟨_, rfl, rfl⟩
  | 42, _ => ⟨_, rfl, rfl⟩
  | 43, _ => ⟨_, rfl, rfl⟩
  | 44, _ => ⟨_, rfl, rfl⟩
  | 45, _ => ⟨_, rfl, rfl⟩
  | 46, _ => ⟨_, rfl, rfl⟩
  | 47, _ => ⟨_, rfl, rfl⟩
  | 48, _ => ⟨_, rfl, rfl⟩
  | 49, _ => ⟨_, rfl, rfl⟩
  | 50, _ => ⟨_, rfl, rfl⟩
  | 51, _ => ⟨_, rfl, rfl⟩
  | 52, _ => ⟨_, rfl, rfl⟩
  | 53, _ => ⟨_, rfl, rfl⟩
  | 54, _ => ⟨_, rfl, rfl⟩
  | 55, _ => ⟨_, rfl, rfl⟩
  | 56, _ => ⟨_, rfl, rfl⟩
  | 57, _ => ⟨_, rfl, rfl⟩
  | 58, _ => ⟨_, rfl, rfl⟩
  | 59, _ => ⟨_, rfl, rfl⟩
  | 60, _ => ⟨_, rfl, rfl⟩
  | 61, _ => ⟨_, rfl, rfl⟩
  | k + 62, h => absurd h (by omega)
theorem wC_P {D : va_G} {g : Nat → ClassId} {h0 : Nat} {qs : Nat → Nat} {H : Heap} (h : va_P D vwCl (wn_X11 g h0 qs) H) : va_P D vwCl (wl WC (D, aC h0 qs, g) σC) H := fun k q hk => by
  obtain ⟨h1, rfl⟩ := wl_inv hk
  obtain ⟨e, a, b⟩ := wC_at D g h0 qs k h1
  rw [← b]
  exact h _ _ a
theorem wC_I {D : va_G} {g : Nat → ClassId} {h0 : Nat} {qs : Nat → Nat} {A : Nat → Prop} (h : va_D A (wn_X11 g h0 qs)) : Inj WC (D, aC h0 qs, g) ∧ ∀ k, k < 62 → A (aC h0 qs k) := by
  refine ⟨fun i j hi hj e => ?_, fun k hk => ?_⟩
  · obtain ⟨e1, a1, _⟩ := wC_at D g h0 qs i hi
    obtain ⟨e2, a2, _⟩ := wC_at D g h0 qs j hj
    exact pC_inj i hi j hj (h.1 _ _ _ _ a1 a2 e)
  · obtain ⟨e1, a1, _⟩ := wC_at D g h0 qs k hk
    exact h.2 _ _ a1
def aM (h0 : Nat) (qs : Nat → Nat) (k : Nat) : Nat := ([h0, qs 0, qs 1, qs 2, qs 3, qs 4, qs 5, qs 6, qs 7, qs 8, qs 9, qs 10, qs 11, qs 12, qs 13, qs 14, qs 15, qs 16, qs 17, qs 18, qs 19, qs 20, qs 21, qs 22] : List Nat).getD k 0
def pM (k : Nat) : Nat := ([0, 1, 2, 3, 4, 5, 6, 7, 8, 9, 10, 11, 12, 13, 14, 15, 16, 17, 18, 19, 20, 21, 22, 23] : List Nat).getD k 0
theorem pM_inj : ∀ i, i < 24 → ∀ j, j < 24 → pM i = pM j → i = j := by decide +kernel
theorem f3M : (upd (upd (upd (fun _ => 0) (0 : Int32).toNatClampNeg 999) (1 : Int32).toNatClampNeg 50) (2 : Int32).toNatClampNeg 50) = s0M 3 := by
  have e0 : (0 : Int32).toNatClampNeg = 0 := by decide
  have e1 : (1 : Int32).toNatClampNeg = 1 := by decide
  have e2 : (2 : Int32).toNatClampNeg = 2 := by decide
  rw [e0, e1, e2]
  funext j
  by_cases h : j < 3
  · rcases (show j = 0 ∨ j = 1 ∨ j = 2 by omega) with rfl | rfl | rfl <;> rfl
  · obtain ⟨i, rfl⟩ : ∃ i, j = i + 3 := ⟨j - 3, by omega⟩
    rfl
set_option maxRecDepth 100000 in
theorem wM_at (D : va_G) (g : Nat → ClassId) (h0 : Nat) (qs : Nat → Nat) : ∀ k, k < 24 → ∃ e, (wn_X12 g h0 qs)[pM k]? = some (aM h0 qs k, e) ∧ e = cellOf WM (D, aM h0 qs, g) σM k
  | 0, _ => ⟨_, rfl, rfl⟩
  | 1, _ => ⟨_, rfl, rfl⟩
  | 2, _ => ⟨_, rfl, rfl⟩
  | 3, _ => ⟨_, rfl, by rw [f3M]; rfl⟩
  | 4, _ => ⟨_, rfl, rfl⟩
  | 5, _ => ⟨_, rfl, rfl⟩
  | 6, _ => ⟨_, rfl, rfl⟩
  | 7, _ => ⟨_, rfl, rfl⟩
  | 8, _ => ⟨_, rfl, rfl⟩
  | 9, _ => ⟨_, rfl, rfl⟩
  | 10, _ => ⟨_, rfl, rfl⟩
  | 11, _ => ⟨_, rfl, rfl⟩
  | 12, _ => ⟨_, rfl, rfl⟩
  | 13, _ => ⟨_, rfl, rfl⟩
  | 14, _ => ⟨_, rfl, rfl⟩
  | 15, _ => ⟨_, rfl, rfl⟩
  | 16, _ => ⟨_, rfl, rfl⟩
  | 17, _ => ⟨_, rfl, rfl⟩
  | 18, _ => ⟨_, rfl, rfl⟩
  | 19, _ => ⟨_, rfl, rfl⟩
  | 20, _ => ⟨_, rfl, rfl⟩
  | 21, _ => ⟨_, rfl, rfl⟩
  | 22, _ => ⟨_, rfl, rfl⟩
  | 23, _ => ⟨_, rfl, rfl⟩
  | k + 24, h => absurd h (by omega)
theorem wM_P {D : va_G} {g : Nat → ClassId} {h0 : Nat} {qs : Nat → Nat} {H : Heap} (h : va_P D vwCl (wn_X12 g h0 qs) H) : va_P D vwCl (wl WM (D, aM h0 qs, g) σM) H := fun k q hk => by
  obtain ⟨h1, rfl⟩ := wl_inv hk
  obtain ⟨e, a, b⟩ := wM_at D g h0 qs k h1
  rw [← b]
  exact h _ _ a
theorem wM_I {D : va_G} {g : Nat → ClassId} {h0 : Nat} {qs : Nat → Nat} {A : Nat → Prop} (h : va_D A (wn_X12 g h0 qs)) : Inj WM (D, aM h0 qs, g) ∧ ∀ k, k < 24 → A (aM h0 qs k) := by
  refine ⟨fun i j hi hj e => ?_, fun k hk => ?_⟩
  · obtain ⟨e1, a1, _⟩ := wM_at D g h0 qs i hi
    obtain ⟨e2, a2, _⟩ := wM_at D g h0 qs j hj
    exact pM_inj i hi j hj (h.1 _ _ _ _ a1 a2 e)
  · obtain ⟨e1, a1, _⟩ := wM_at D g h0 qs k hk
    exact h.2 _ _ a1
theorem rel0 : Rel σC σM := by
  refine ⟨10, 0, 0, 0, 50, 50, fun _ => 0, fun _ => 0, fun _ => 0, fun _ => 0, fun _ => 0, fun _ => 0, 999, ⟨by omega, by omega, rfl, rfl, rfl, rfl, rfl, ?_, ?_, fun q hq => ?_⟩, ⟨by omega, rfl, rfl, fun p hp => absurd hp (by omega)⟩, ⟨by omega, by omega, rfl, rfl, rfl, rfl, rfl⟩, ⟨by omega, ⟨rfl, fun i hi => absurd hi (by omega)⟩, ⟨rfl, rfl, fun i hi => absurd hi (by omega)⟩, fun p q hp hq => ?_, ⟨rfl, fun p q hp hq => ?_⟩, fun i hi => absurd hi (by omega)⟩, fun k hk => ?_, rfl⟩
  · decide +kernel
  · decide +kernel
  · have : ∀ q, q < 12 → σC.1 11 q = kcF 10 0 (σC.1 12) q := by decide +kernel
    exact this q hq
  · have : ∀ p, p < 10 → ∀ q, q < 12 → σC.1 (52 + p) q = 0 := by decide +kernel
    exact this p hp q hq
  · have : ∀ p, p < 10 → ∀ q, q < 12 → σC.1 (42 + p) q = 0 := by decide +kernel
    exact this p hp q hq
  · rcases (show k = 0 ∨ k = 1 ∨ k = 2 ∨ k = 3 by omega) with rfl | rfl | rfl | rfl <;> exact ⟨⟨0, by omega, rfl, rfl, fun i hi => absurd hi (by omega)⟩, rfl, ⟨0, by omega, rfl⟩, Or.inr ⟨rfl, rfl⟩⟩
