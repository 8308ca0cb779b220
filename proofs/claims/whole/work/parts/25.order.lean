/-! PARTS: the order by rest -/
theorem lp_invN {X R : Type} {F : (X → Option R) → X → Option R} (I : Nat → X → Prop) {n : Nat} (res : X → Option R) (step : ∀ k x, k < n → I k x → ∃ x', I (k + 1) x' ∧ ∀ rec : X → Option R, F rec x = rec x') (exit : ∀ x, I n x → ∀ rec : X → Option R, F rec x = res x) : ∀ (m k N : Nat) (x0 : X), k + m = n → m < N → I k x0 → ∃ x, I n x ∧ lp F N x0 = res x := by
  intro m
  induction m with
  | zero =>
    intro k N x0 hk hN h0
    obtain ⟨N, rfl⟩ : ∃ z, N = z + 1 := ⟨N - 1, by omega⟩
    have : k = n := by omega
    subst this
    exact ⟨x0, h0, exit x0 h0 _⟩
  | succ m ih =>
    intro k N x0 hk hN h0
    obtain ⟨N, rfl⟩ : ∃ z, N = z + 1 := ⟨N - 1, by omega⟩
    obtain ⟨x1, h1, e1⟩ := step k x0 (by omega) h0
    obtain ⟨x, hx, e⟩ := ih (k + 1) N x1 (by omega) (by omega) h1
    refine ⟨x, hx, ?_⟩
    show F (lp F N) x0 = res x
    rw [e1, e]
/-- a loop by its invariant: n rounds, then the end -/
theorem lp_inv {X R : Type} {F : (X → Option R) → X → Option R} (I : Nat → X → Prop) (n : Nat) (res : X → Option R) {x0 : X} (h0 : I 0 x0) (hn : n < 10000) (step : ∀ k x, k < n → I k x → ∃ x', I (k + 1) x' ∧ ∀ rec : X → Option R, F rec x = rec x') (exit : ∀ x, I n x → ∀ rec : X → Option R, F rec x = res x) : ∃ x, I n x ∧ lp F NN x0 = res x :=
  lp_invN I res step exit n 0 NN x0 (by omega) (by rw [NN_eq]; exact hn) h0
theorem lp_invKN {X Y R : Type} {F : (Y → Option R) → (X → Option R) → X → Option R} (I : Nat → X → Prop) {n : Nat} (res : X → Y) (step : ∀ k x, k < n → I k x → ∃ x', I (k + 1) x' ∧ ∀ (K : Y → Option R) (rec : X → Option R), F K rec x = rec x') (exit : ∀ x, I n x → ∀ (K : Y → Option R) (rec : X → Option R), F K rec x = K (res x)) : ∀ (m k : Nat) (x0 : X), k + m = n → I k x0 → ∃ x, I n x ∧ ∀ (K : Y → Option R) (N : Nat), m < N → lp (F K) N x0 = K (res x) := by
  intro m
  induction m with
  | zero =>
    intro k x0 hk h0
    have : k = n := by omega
    subst this
    refine ⟨x0, h0, fun K N hN => ?_⟩
    obtain ⟨N, rfl⟩ : ∃ z, N = z + 1 := ⟨N - 1, by omega⟩
    exact exit x0 h0 _ _
  | succ m ih =>
    intro k x0 hk h0
    obtain ⟨x1, h1, e1⟩ := step k x0 (by omega) h0
    obtain ⟨x, hx, e⟩ := ih (k + 1) x1 (by omega) h1
    refine ⟨x, hx, fun K N hN => ?_⟩
    obtain ⟨N, rfl⟩ : ∃ z, N = z + 1 := ⟨N - 1, by omega⟩
    show F K (lp (F K) N) x0 = K (res x)
    rw [e1, e K N (by omega)]
/-- the same, for a loop that hands on -/
theorem lp_invK {X Y R : Type} {F : (Y → Option R) → (X → Option R) → X → Option R} (I : Nat → X → Prop) (n : Nat) (res : X → Y) {x0 : X} (h0 : I 0 x0) (hn : n < 10000) (step : ∀ k x, k < n → I k x → ∃ x', I (k + 1) x' ∧ ∀ (K : Y → Option R) (rec : X → Option R), F K rec x = rec x') (exit : ∀ x, I n x → ∀ (K : Y → Option R) (rec : X → Option R), F K rec x = K (res x)) : ∃ x, I n x ∧ ∀ K : Y → Option R, lp (F K) NN x0 = K (res x) := by
  obtain ⟨x, hx, e⟩ := lp_invKN I res step exit n 0 x0 (by omega) h0
  exact ⟨x, hx, fun K => e K NN (by rw [NN_eq]; exact hn)⟩
theorem nn_lt {k : Nat} (h : k < 10000) : k < NN := by rw [NN_eq]; exact h
def insA (r : Nat → Nat) (p : Nat) : Nat → (Nat → Nat) → Nat × (Nat → Nat)
  | 0, o => (0, o)
  | a + 1, o => if r (o a) < r p then insA r p a (fun j => if j = a + 1 then o a else o j) else (a + 1, o)
def ordA (r : Nat → Nat) : Nat → Nat → Nat
  | 0 => fun _ => 0
  | k + 1 => fun j => if j = (insA r k k (ordA r k)).1 then k else (insA r k k (ordA r k)).2 j
theorem insA_ok (r : Nat → Nat) (p : Nat) : ∀ (a : Nat) (o : Nat → Nat), a ≤ p → (∀ j, j ≤ p → j ≠ a → o j < p) → (insA r p a o).1 ≤ a ∧ ∀ j, j ≤ p → j ≠ (insA r p a o).1 → (insA r p a o).2 j < p
  | 0, o, ha, ho => ⟨Nat.le_refl 0, ho⟩
  | a + 1, o, ha, ho => by
    rw [insA]
    by_cases h : r (o a) < r p
    · rw [if_pos h]
      have ih := insA_ok r p a (fun j => if j = a + 1 then o a else o j) (by omega) (fun j hj hne => by
        by_cases e : j = a + 1
        · simp only [e, if_true]
          exact ho a (by omega) (by omega)
        · simp only [e, if_false]
          exact ho j hj e)
      exact ⟨by omega, ih.2⟩
    · rw [if_neg h]
      exact ⟨Nat.le_refl _, ho⟩
theorem ordA_ok (r : Nat → Nat) : ∀ k j, j < k → ordA r k j < k
  | 0, j, h => by omega
  | k + 1, j, h => by
    have ih := ordA_ok r k
    have hi := insA_ok r k k (ordA r k) (Nat.le_refl k) (fun j hj hne => ih j (by omega))
    rw [ordA]
    by_cases e : j = (insA r k k (ordA r k)).1
    · simp only [e, if_true]
      omega
    · simp only [e, if_false]
      have := hi.2 j (by omega) e
      omega
theorem m1_nI {a : Nat} : nI (a + 1) + (-1) = nI a := pk_m1 a
theorem s1_nI {a : Nat} : nI (a + 1) - 1 = nI a := nI_pred a
section M4
variable {n P : Nat} {kc : Nat → Int32} {sy : Nat → Nat → Int32}
theorem c_ins (r : Nat → Nat) {p : Nat} (hp : p < 10) (hr : ∀ i, r i < 2 ^ 31) (x2 : Int32 × St) (hx2 : x2.1 = nI p) : ∀ (a : Nat) (o : Nat → Nat) (σ : St), a ≤ p → (∀ j, j ≤ p → j ≠ a → σ.1 30 j = nI (o j)) → (∀ j, j ≤ p → j ≠ a → o j < 10) → (∀ i, i ≤ p → σ.1 29 i = nI (r i)) → (∀ j, j ≤ p → j ≠ a → o j ≤ p) →
    ∃ f : Nat → Int32, (∀ j, j ≤ p → j ≠ (insA r p a o).1 → f j = nI ((insA r p a o).2 j)) ∧ ∀ (K : Int32 × St → Option St) (N : Nat), a < N → lp (L_X3_orderByRest_30 x2 K) N (nI a, σ) = K (nI (insA r p a o).1, wA σ 30 f) := by
  intro a
  induction a with
  | zero =>
    intro o σ ha ho hb h29 hop
    refine ⟨σ.1 30, ho, fun K N hN => ?_⟩
    obtain ⟨N, rfl⟩ : ∃ z, N = z + 1 := ⟨N - 1, by omega⟩
    show L_X3_orderByRest_30 x2 K _ _ = _
    unfold L_X3_orderByRest_30
    rw [wA_self]
    rfl
  | succ a ih =>
    intro o σ ha ho hb h29 hop
    have e1 := ho a (by omega) (by omega)
    have e2 := hb a (by omega) (by omega)
    have e3 := h29 (o a) (hop a (by omega) (by omega))
    have e4 := h29 p (Nat.le_refl p)
    have z0 : (0 < nI (a + 1)) := (nI_ltI (a := 0) (by omega) (by omega)).mpr (by omega)
    by_cases h : r (o a) < r p
    · obtain ⟨f, hf, hl⟩ := ih (fun j => if j = a + 1 then o a else o j) (wI σ 30 (a + 1) (nI (o a))) (by omega)
        (fun j hj hne => by
          unfold wI
          rw [wA_s]
          by_cases e : j = a + 1
          · simp [upd, e]
          · simp only [upd, e, if_false]
            exact ho j hj e)
        (fun j hj hne => by
          by_cases e : j = a + 1
          · simp only [e, if_true]; exact e2
          · simp only [e, if_false]; exact hb j hj e)
        (fun i hi => by unfold wI; rw [wA_1 (by omega)]; exact h29 i hi)
        (fun j hj hne => by
          by_cases e : j = a + 1
          · simp only [e, if_true]; exact hop a (by omega) (by omega)
          · simp only [e, if_false]; exact hop j hj e)
      have hi : insA r p (a + 1) o = insA r p a (fun j => if j = a + 1 then o a else o j) := by rw [insA, if_pos h]
      rw [hi]
      refine ⟨f, hf, fun K N hN => ?_⟩
      obtain ⟨N, rfl⟩ : ∃ z, N = z + 1 := ⟨N - 1, by omega⟩
      show L_X3_orderByRest_30 x2 K (lp (L_X3_orderByRest_30 x2 K) N) _ = _
      generalize hrec : lp (L_X3_orderByRest_30 x2 K) N = rec
      unfold L_X3_orderByRest_30
      simp (disch := first | omega | exact hr _) only [z0, if_true, s1_nI, m1_nI, inb_t, gd_t, nI_clamp, e1, hx2, e3, e4, nI_ltI, h, bd_e]
      rw [← hrec, hl K N (by omega)]
      unfold wI
      rw [wA_wA]
    · have hi : insA r p (a + 1) o = (a + 1, o) := by rw [insA, if_neg h]
      rw [hi]
      refine ⟨σ.1 30, ho, fun K N hN => ?_⟩
      obtain ⟨N, rfl⟩ : ∃ z, N = z + 1 := ⟨N - 1, by omega⟩
      show L_X3_orderByRest_30 x2 K _ _ = _
      unfold L_X3_orderByRest_30
      simp (disch := first | omega | exact hr _) only [z0, if_true, s1_nI, m1_nI, inb_t, gd_t, nI_clamp, e1, hx2, e3, e4, nI_ltI, h, if_false, wA_self]
theorem c_order {σ : St} (h : CV σ n P kc sy) (hn : n ≤ 12) (hP : P ≤ 10) (q : Nat) : ∃ σ', f_X3_orderByRest (nI q) σ = some σ' ∧ Fr σ σ' ∧ ∀ j, j < P → σ'.1 30 j = nI (ordA (fun i => mkB n kc sy i (nI q)) P j) := by
  unfold f_X3_orderByRest
  generalize hr : (fun i => mkB n kc sy i (nI q)) = r
  have hrb : ∀ i, r i < 2 ^ 31 := fun i => by rw [← hr]; have := mkB_le (n := n) (kc := kc) (sy := sy) i (nI q); show mkB n kc sy i (nI q) < 2 ^ 31; omega
  have key : ∃ x : Int32 × St, (x.1 = nI P ∧ Fr σ x.2 ∧ (∀ j, j < P → x.2.1 30 j = nI (ordA r P j)) ∧ ∀ j, j < P → x.2.1 29 j = nI (r j)) ∧ lp (L_X3_orderByRest_2 (nI q)) NN (0, σ) = some x.2 := by
    refine lp_inv (fun k (x : Int32 × St) => x.1 = nI k ∧ Fr σ x.2 ∧ (∀ j, j < k → x.2.1 30 j = nI (ordA r k j)) ∧ ∀ j, j < k → x.2.1 29 j = nI (r j)) P (fun x => some x.2) ⟨rfl, Fr_rf, fun j hj => by omega, fun j hj => by omega⟩ (by omega) (fun k x hk hI => ?_) (fun x hI rec => ?_)
    · obtain ⟨x1, x2⟩ := x
      obtain ⟨hx1, hF, h30, h29⟩ := hI
      simp only at hx1 hF h30 h29
      subst hx1
      have hv := CV_Fr h hF
      obtain ⟨f, hf, hl⟩ := c_ins r (p := k) (by omega) hrb (nI k, x2) rfl k (ordA r k) (wI x2 29 k (nI (r k))) (Nat.le_refl k)
        (fun j hj hne => by unfold wI; rw [wA_1 (by omega)]; exact h30 j (by omega))
        (fun j hj hne => by have := ordA_ok r k j (by omega); omega)
        (fun i hi => by
          unfold wI
          rw [wA_s]
          by_cases e : i = k
          · simp [upd, e]
          · simp only [upd, e, if_false]; exact h29 i (by omega))
        (fun j hj hne => by have := ordA_ok r k j (by omega); omega)
      have hi := insA_ok r k k (ordA r k) (Nat.le_refl k) (fun j hj hne => ordA_ok r k j (by omega))
      refine ⟨(nI (k + 1), wA (wI x2 29 k (nI (r k))) 30 (upd f (insA r k k (ordA r k)).1 (nI k))), ⟨rfl, Fr_tr hF (Fr_tr (Fr_wI (by omega)) (Fr_wA (by omega))), fun j hj => ?_, fun j hj => ?_⟩, fun rec => ?_⟩
      · show (wA _ 30 _).1 30 j = _
        rw [wA_s, ordA]
        by_cases e : j = (insA r k k (ordA r k)).1
        · simp [upd, e]
        · simp only [upd, e, if_false]
          exact hf j (by omega) e
      · show (wA _ 30 _).1 29 j = _
        rw [wA_1 (by omega)]
        unfold wI
        rw [wA_s]
        by_cases e : j = k
        · simp [upd, e]
        · simp only [upd, e, if_false]; exact h29 j (by omega)
      · unfold L_X3_orderByRest_2
        have hrk : mkB n kc sy k (nI q) = r k := by rw [← hr]
        simp (disch := omega) only [hv.2.1, nI_ltI, hk, if_true, c_restOf hv hn (show k < 10 by omega), Option.bind_some, hrk, inb_t, gd_t, nI_clamp, bd_e, jn_e, nI_1]
        rw [hl _ NN (nn_lt (by omega))]
        simp (disch := omega) only [inb_t, gd_t, nI_clamp, wI_wA]
    · obtain ⟨x1, x2⟩ := x
      obtain ⟨hx1, hF, h30, h29⟩ := hI
      simp only at hx1 hF h30 h29
      subst hx1
      have hv := CV_Fr h hF
      unfold L_X3_orderByRest_2
      simp (disch := omega) only [hv.2.1, nI_ltI, Nat.lt_irrefl, if_false]
  obtain ⟨x, hx, e⟩ := key
  exact ⟨x.2, e, hx.2.1, hx.2.2.1⟩
/-- the better ones' less the worse ones', k of each looked at -/
def bwI (P : Nat) (kc : Nat → Int32) (sy : Nat → Nat → Int32) (q : Nat) (o : Nat → Nat) : Nat → Int32
  | 0 => 0
  | k + 1 => (bwI P kc sy q o k + bI (isR kc sy (o k) q)) - bI (isR kc sy (o (P - 1 - k)) q)
theorem half {P : Nat} (hP : P ≤ 10) : nI P / 2 = nI (P / 2) := pk_div (d := 2) (by omega) (by omega) (by omega)
theorem addm1 (x : Int32) : x + (-1) = x - 1 := by rw [Int32.sub_eq_add_neg]
theorem sub0 (x : Int32) : x - 0 = x := by simp
theorem c_better {σ : St} (h : CV σ n P kc sy) (hn : n ≤ 12) (hP : P ≤ 10) {q : Nat} (hq : q < 12) : ∃ σ', f_X3_betterLessWorse (nI q) σ = some (bwI P kc sy q (ordA (fun i => mkB n kc sy i (nI q)) P) (P / 2), σ') ∧ Fr σ σ' := by
  obtain ⟨s1, e1, hF, ho⟩ := c_order h hn hP q
  have hob : ∀ j, j < P → ordA (fun i => mkB n kc sy i (nI q)) P j < P := ordA_ok _ P
  generalize ordA (fun i => mkB n kc sy i (nI q)) P = o at ho hob
  have hv := CV_Fr h hF
  refine ⟨s1, ?_, hF⟩
  unfold f_X3_betterLessWorse
  rw [e1, Option.bind_some]
  simp only [show ((2 : Int32) != 0) = true from rfl, gd_t, hv.2.1, half hP, bv_e]
  refine lp_count (fun k => (nI k, bwI P kc sy q o k)) (P / 2) rfl (by omega) (fun k hk rec => ?_) (fun rec => ?_)
  · have b1 := hob k (by omega)
    have b2 := hob (P - 1 - k) (by omega)
    unfold L_X3_betterLessWorse_20
    have e2 : (nI P - 1) - nI k = nI (P - 1 - k) := by
      rw [show (1 : Int32) = nI 1 from rfl, pk_sub (by omega), pk_sub (by omega)]
    simp (disch := omega) only [nI_ltI, hk, if_true, inb_t, gd_t, nI_clamp, ho k (by omega), c_isR hv (show o k < 10 by omega) hq, Option.bind_some, jn_e, hv.2.1, e2, ho (P - 1 - k) (by omega), c_isR hv (show o (P - 1 - k) < 10 by omega) hq, nI_1, addm1, bwI]
    cases isR kc sy (o k) q <;> cases isR kc sy (o (P - 1 - k)) q <;> simp [bI]
  · unfold L_X3_betterLessWorse_20
    simp (disch := omega) only [nI_ltI, Nat.lt_irrefl, if_false]
theorem m_ins {q : Nat} {p : Nat} (hn : n ≤ 12) (hp : p < P) (hP : P ≤ 10) (x2 : Int32 × St) (hx2 : x2.1 = nI p) : ∀ (a : Nat) (o : Nat → Nat) (σ : St), MV σ n P kc sy → a ≤ p → (∀ j, j ≤ p → j ≠ a → σ.1 15 j = nI (o j)) → (∀ j, j ≤ p → j ≠ a → o j ≤ p) →
    ∃ f : Nat → Int32, (∀ j, j ≤ p → j ≠ (insA (fun i => mkB n kc sy i (nI q)) p a o).1 → f j = nI ((insA (fun i => mkB n kc sy i (nI q)) p a o).2 j)) ∧ ∀ (K : Int32 × St → Option (Int64 × St)) (N : Nat), a < N → lp (L_X12_partsNow_36 (nI q) x2 K) N (nI a, σ) = K (nI (insA (fun i => mkB n kc sy i (nI q)) p a o).1, wA σ 15 f) := by
  intro a
  induction a with
  | zero =>
    intro o σ hv ha ho hop
    refine ⟨σ.1 15, ho, fun K N hN => ?_⟩
    obtain ⟨N, rfl⟩ : ∃ z, N = z + 1 := ⟨N - 1, by omega⟩
    show L_X12_partsNow_36 (nI q) x2 K _ _ = _
    unfold L_X12_partsNow_36
    rw [wA_self]
    rfl
  | succ a ih =>
    intro o σ hv ha ho hop
    have e1 := ho a (by omega) (by omega)
    have e2 := hop a (by omega) (by omega)
    have b1 : mkB n kc sy (o a) (nI q) ≤ n := mkB_le _ _
    have b2 : mkB n kc sy p (nI q) ≤ n := mkB_le _ _
    have z0 : (0 < nI (a + 1)) := (nI_ltI (a := 0) (by omega) (by omega)).mpr (by omega)
    by_cases h : mkB n kc sy (o a) (nI q) < mkB n kc sy p (nI q)
    · obtain ⟨f, hf, hl⟩ := ih (fun j => if j = a + 1 then o a else o j) (wI σ 15 (a + 1) (nI (o a))) (MV_Fr hv (FrL_wI (by omega))) (by omega)
        (fun j hj hne => by
          unfold wI
          rw [wA_s]
          by_cases e : j = a + 1
          · simp [upd, e]
          · simp only [upd, e, if_false]
            exact ho j hj e)
        (fun j hj hne => by
          by_cases e : j = a + 1
          · simp only [e, if_true]; exact hop a (by omega) (by omega)
          · simp only [e, if_false]; exact hop j hj e)
      have hi : insA (fun i => mkB n kc sy i (nI q)) p (a + 1) o = insA (fun i => mkB n kc sy i (nI q)) p a (fun j => if j = a + 1 then o a else o j) := by rw [insA, if_pos h]
      rw [hi]
      refine ⟨f, hf, fun K N hN => ?_⟩
      obtain ⟨N, rfl⟩ : ∃ z, N = z + 1 := ⟨N - 1, by omega⟩
      show L_X12_partsNow_36 (nI q) x2 K (lp (L_X12_partsNow_36 (nI q) x2 K) N) _ = _
      generalize hrec : lp (L_X12_partsNow_36 (nI q) x2 K) N = rec
      unfold L_X12_partsNow_36
      simp (disch := omega) only [z0, if_true, s1_nI, m1_nI, inb_t, gd_t, nI_clamp, e1, hx2, m_markBut hv hn (show o a < 10 by omega), m_markBut hv hn (show p < 10 by omega), Option.bind_some, nI_ltI, h, bd_e]
      rw [← hrec, hl K N (by omega)]
      unfold wI
      rw [wA_wA]
    · have hi : insA (fun i => mkB n kc sy i (nI q)) p (a + 1) o = (a + 1, o) := by rw [insA, if_neg h]
      rw [hi]
      refine ⟨σ.1 15, ho, fun K N hN => ?_⟩
      obtain ⟨N, rfl⟩ : ∃ z, N = z + 1 := ⟨N - 1, by omega⟩
      show L_X12_partsNow_36 (nI q) x2 K _ _ = _
      unfold L_X12_partsNow_36
      simp (disch := omega) only [z0, if_true, s1_nI, m1_nI, inb_t, gd_t, nI_clamp, e1, hx2, m_markBut hv hn (show o a < 10 by omega), m_markBut hv hn (show p < 10 by omega), Option.bind_some, nI_ltI, h, if_false, wA_self]
def noL (r : Int32) : Int64 := (-9223372036854775808) - r.toInt64
/-- PARTS, as the model tells it -/
def ptV (n P : Nat) (kc : Nat → Int32) (sy : Nat → Nat → Int32) (q : Nat) : Int32 := bwI P kc sy q (ordA (fun i => mkB n kc sy i (nI q)) P) (P / 2)
set_option maxRecDepth 100000 in
theorem m_parts {σ : St} (h : MV σ n P kc sy) (hn : n ≤ 12) (hP : P ≤ 10) {q : Nat} (hq : q < 12) (what : Int32) : ∃ σ', FrL σ σ' ∧ f_X12_partsNow (nI q) what σ = if P < 2 ∨ kc q = 0 then some (noL (-3), σ) else (f_X12_lowest (ptV n P kc sy q).toInt64 (lN (P / 2)) what σ').bind (fun v => some (v, σ')) := by
  by_cases c1 : P < 2 ∨ kc q = 0
  · refine ⟨σ, FrL_rf, ?_⟩
    rw [if_pos c1]
    unfold f_X12_partsNow
    simp (disch := omega) only [jn_e, h.2.1, show (2 : Int32) = nI 2 from rfl, nI_ltI, inb_t, gd_t, nI_clamp, h.2.2.1 q hq]
    by_cases c2 : P < 2
    · simp only [c2, if_true, f_X12_no, Option.bind_some, noL]
    · have c3 : kc q = 0 := c1.resolve_left c2
      simp only [c2, c3, if_true, if_false, f_X12_no, Option.bind_some, noL]
  · have c2 : ¬ P < 2 := fun e => c1 (Or.inl e)
    have c3 : ¬ kc q = 0 := fun e => c1 (Or.inr e)
    have key : ∃ y : St, (FrL σ y ∧ ∀ j, j < P → y.1 15 j = nI (ordA (fun i => mkB n kc sy i (nI q)) P j)) ∧ ∀ K : St → Option (Int64 × St), lp (L_X12_partsNow_25 (nI q) K) NN (0, σ) = K y := by
      have key2 := lp_invK (F := L_X12_partsNow_25 (nI q)) (fun k (x : Int32 × St) => x.1 = nI k ∧ FrL σ x.2 ∧ (∀ j, j < k → x.2.1 15 j = nI (ordA (fun i => mkB n kc sy i (nI q)) k j))) P (fun x => x.2) (x0 := (0, σ)) ⟨rfl, FrL_rf, fun j hj => by omega⟩ (by omega)
        (by
          intro k x hk hI
          obtain ⟨x1, x2⟩ := x
          obtain ⟨hx1, hF, h15⟩ := hI
          simp only at hx1 hF h15
          subst hx1
          have hv := MV_Fr h hF
          obtain ⟨f, hf, hl⟩ := m_ins (q := q) hn hk hP (nI k, x2) rfl k (ordA (fun i => mkB n kc sy i (nI q)) k) x2 hv (Nat.le_refl k) (fun j hj hne => h15 j (by omega)) (fun j hj hne => by have := ordA_ok (fun i => mkB n kc sy i (nI q)) k j (by omega); omega)
          have hi := insA_ok (fun i => mkB n kc sy i (nI q)) k k (ordA (fun i => mkB n kc sy i (nI q)) k) (Nat.le_refl k) (fun j hj hne => ordA_ok _ k j (by omega))
          refine ⟨(nI (k + 1), wA x2 15 (upd f (insA (fun i => mkB n kc sy i (nI q)) k k (ordA (fun i => mkB n kc sy i (nI q)) k)).1 (nI k))), ⟨rfl, FrL_tr hF (FrL_wA (by omega)), fun j hj => ?_⟩, fun K rec => ?_⟩
          · show (wA _ 15 _).1 15 j = _
            rw [wA_s, ordA]
            by_cases e : j = (insA (fun i => mkB n kc sy i (nI q)) k k (ordA (fun i => mkB n kc sy i (nI q)) k)).1
            · simp [upd, e]
            · simp only [upd, e, if_false]
              exact hf j (by omega) e
          · unfold L_X12_partsNow_25
            simp (disch := omega) only [hv.2.1, nI_ltI, hk, if_true, jn_e]
            rw [hl _ NN (nn_lt (by omega))]
            simp (disch := omega) only [inb_t, gd_t, nI_clamp, bd_e, wI_wA, nI_1])
        (by
          intro x hI K rec
          obtain ⟨x1, x2⟩ := x
          obtain ⟨hx1, hF, h15⟩ := hI
          simp only at hx1 hF h15
          subst hx1
          have hv := MV_Fr h hF
          unfold L_X12_partsNow_25
          simp (disch := omega) only [hv.2.1, nI_ltI, Nat.lt_irrefl, if_false])
      obtain ⟨x, hx, e⟩ := key2
      exact ⟨x.2, ⟨hx.2.1, hx.2.2⟩, e⟩
    obtain ⟨y, ⟨hF, ho⟩, hl⟩ := key
    have hv := MV_Fr h hF
    refine ⟨y, hF, ?_⟩
    rw [if_neg c1]
    unfold f_X12_partsNow
    simp (disch := omega) only [jn_e, h.2.1, show ∀ z : Int32, (z < 2) = (z < nI 2) from fun _ => rfl, nI_ltI, inb_t, gd_t, nI_clamp, h.2.2.1 q hq, c2, c3, if_false, hl, show ((2 : Int32) != 0) = true from rfl, hv.2.1, half hP, bv_e]
    have hob : ∀ j, j < P → ordA (fun i => mkB n kc sy i (nI q)) P j < P := ordA_ok _ P
    unfold ptV
    generalize ordA (fun i => mkB n kc sy i (nI q)) P = o at ho hob
    refine lp_count (fun k => (nI k, bwI P kc sy q o k)) (P / 2) rfl (by omega) (fun k hk rec => ?_) (fun rec => ?_)
    · have b1 := hob k (by omega)
      have b2 := hob (P - 1 - k) (by omega)
      unfold L_X12_partsNow_113
      have e2 : (nI P - 1) - nI k = nI (P - 1 - k) := by
        rw [show (1 : Int32) = nI 1 from rfl, pk_sub (by omega), pk_sub (by omega)]
      simp (disch := omega) only [nI_ltI, hk, if_true, inb_t, gd_t, nI_clamp, ho k (by omega), m_isR hv (show o k < 10 by omega) hq, Option.bind_some, jn_e, hv.2.1, e2, ho (P - 1 - k) (by omega), m_isR hv (show o (P - 1 - k) < 10 by omega) hq, nI_1, bwI, bv_e, sub0]
      cases isR kc sy (o k) q <;> cases isR kc sy (o (P - 1 - k)) q <;> simp [bI]
    · unfold L_X12_partsNow_113
      simp (disch := omega) only [nI_ltI, Nat.lt_irrefl, if_false, nI_toL]
end M4
