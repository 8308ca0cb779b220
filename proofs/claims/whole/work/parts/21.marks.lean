/-! FRAMES, rows, ranks, passes -/
def Fr (σ σ' : St) : Prop := ∀ k, (k < 8 ∨ (11 ≤ k ∧ k < 20) ∨ 31 ≤ k) → σ'.1 k = σ.1 k
def FrM (σ σ' : St) : Prop := ∀ k, (k < 2 ∨ (3 ≤ k ∧ k < 10) ∨ (19 ≤ k ∧ k < 23)) → σ'.1 k = σ.1 k
def FrL (σ σ' : St) : Prop := ∀ k, (k < 14 ∨ (19 ≤ k ∧ k < 23)) → σ'.1 k = σ.1 k
theorem Fr_rf {σ : St} : Fr σ σ := fun _ _ => rfl
theorem FrM_rf {σ : St} : FrM σ σ := fun _ _ => rfl
theorem FrL_rf {σ : St} : FrL σ σ := fun _ _ => rfl
theorem Fr_tr {a b c : St} (h : Fr a b) (g : Fr b c) : Fr a c := fun k hk => (g k hk).trans (h k hk)
theorem FrM_tr {a b c : St} (h : FrM a b) (g : FrM b c) : FrM a c := fun k hk => (g k hk).trans (h k hk)
theorem FrL_tr {a b c : St} (h : FrL a b) (g : FrL b c) : FrL a c := fun k hk => (g k hk).trans (h k hk)
theorem FrL_M {a b : St} (h : FrL a b) : FrM a b := fun k hk => h k (by omega)
theorem wA_1 {σ : St} {k j : Nat} {f : Nat → Int32} (h : j ≠ k) : (wA σ k f).1 j = σ.1 j := by simp [wA, h]
theorem wA_s {σ : St} {k : Nat} {f : Nat → Int32} : (wA σ k f).1 k = f := by simp [wA]
theorem wA_2 {σ : St} {k : Nat} {f : Nat → Int32} : (wA σ k f).2 = σ.2 := rfl
theorem wB_1 {σ : St} {k : Nat} {f : Nat → Int64} : (wB σ k f).1 = σ.1 := rfl
theorem wB_2 {σ : St} {k j : Nat} {f : Nat → Int64} (h : j ≠ k) : (wB σ k f).2 j = σ.2 j := by simp [wB, h]
theorem wB_s {σ : St} {k : Nat} {f : Nat → Int64} : (wB σ k f).2 k = f := by simp [wB]
theorem wA_self {σ : St} {k : Nat} : wA σ k (σ.1 k) = σ := by
  refine Prod.ext (funext fun a => ?_) rfl
  by_cases h : a = k
  · subst h; simp [wA]
  · simp [wA, h]
theorem wB_self {σ : St} {k : Nat} : wB σ k (σ.2 k) = σ := by
  refine Prod.ext rfl (funext fun a => ?_)
  by_cases h : a = k
  · subst h; simp [wB]
  · simp [wB, h]
theorem wA_wA {σ : St} {k : Nat} {f g : Nat → Int32} : wA (wA σ k f) k g = wA σ k g := by
  refine Prod.ext (funext fun a => ?_) rfl
  by_cases h : a = k <;> simp [wA, h]
theorem wB_wB {σ : St} {k : Nat} {f g : Nat → Int64} : wB (wB σ k f) k g = wB σ k g := by
  refine Prod.ext rfl (funext fun a => ?_)
  by_cases h : a = k <;> simp [wB, h]
theorem wI_wA {σ : St} {k j : Nat} {f : Nat → Int32} {v : Int32} : wI (wA σ k f) k j v = wA σ k (upd f j v) := by
  unfold wI
  rw [wA_s, wA_wA]
theorem wL_wB {σ : St} {k j : Nat} {f : Nat → Int64} {v : Int64} : wL (wB σ k f) k j v = wB σ k (vp_updL f j v) := by
  unfold wL
  rw [wB_s, wB_wB]
/-- a row whose first k places are g's -/
def rwk (k : Nat) (g f : Nat → Int32) : Nat → Int32 := fun j => if j < k then g j else f j
def rlk (k : Nat) (g f : Nat → Int64) : Nat → Int64 := fun j => if j < k then g j else f j
theorem rwk_0 {g f : Nat → Int32} : rwk 0 g f = f := funext fun j => by simp [rwk]
theorem rlk_0 {g f : Nat → Int64} : rlk 0 g f = f := funext fun j => by simp [rlk]
theorem rwk_s {k : Nat} {g f : Nat → Int32} : upd (rwk k g f) k (g k) = rwk (k + 1) g f := by
  funext j
  unfold upd rwk
  by_cases h : j = k
  · subst h; simp
  · by_cases h2 : j < k
    · simp [h, h2, show j < k + 1 by omega]
    · simp [h, h2, show ¬ j < k + 1 by omega]
theorem rlk_s {k : Nat} {g f : Nat → Int64} : vp_updL (rlk k g f) k (g k) = rlk (k + 1) g f := by
  funext j
  unfold vp_updL rlk
  by_cases h : j = k
  · subst h; simp
  · by_cases h2 : j < k
    · simp [h, h2, show j < k + 1 by omega]
    · simp [h, h2, show ¬ j < k + 1 by omega]
theorem rwk_lt {k j : Nat} {g f : Nat → Int32} (h : j < k) : rwk k g f j = g j := by simp [rwk, h]
theorem rlk_lt {k j : Nat} {g f : Nat → Int64} (h : j < k) : rlk k g f j = g j := by simp [rlk, h]
theorem Fr_wA {σ : St} {k : Nat} {f : Nat → Int32} (hk : k = 8 ∨ (20 ≤ k ∧ k < 31)) : Fr σ (wA σ k f) := fun j hj => wA_1 (by omega)
theorem Fr_wI {σ : St} {k j : Nat} {v : Int32} (hk : k = 8 ∨ (20 ≤ k ∧ k < 31)) : Fr σ (wI σ k j v) := Fr_wA hk
theorem Fr_wB {σ : St} {k : Nat} {f : Nat → Int64} : Fr σ (wB σ k f) := fun _ _ => rfl
theorem Fr_wL {σ : St} {k j : Nat} {v : Int64} : Fr σ (wL σ k j v) := fun _ _ => rfl
theorem FrL_wA {σ : St} {k : Nat} {f : Nat → Int32} (hk : 14 ≤ k ∧ k < 19 ∨ k = 23) : FrL σ (wA σ k f) := fun j hj => wA_1 (by omega)
theorem FrL_wI {σ : St} {k j : Nat} {v : Int32} (hk : 14 ≤ k ∧ k < 19 ∨ k = 23) : FrL σ (wI σ k j v) := FrL_wA hk
theorem FrL_wB {σ : St} {k : Nat} {f : Nat → Int64} : FrL σ (wB σ k f) := fun _ _ => rfl
theorem FrL_wL {σ : St} {k j : Nat} {v : Int64} : FrL σ (wL σ k j v) := fun _ _ => rfl
theorem CV_Fr {σ σ' : St} {n P : Nat} {kc : Nat → Int32} {sy : Nat → Nat → Int32} (h : CV σ n P kc sy) (f : Fr σ σ') : CV σ' n P kc sy := by
  obtain ⟨h1, h2, h3, h4⟩ := h
  exact ⟨by rw [f 1 (by omega)]; exact h1, by rw [f 2 (by omega)]; exact h2, fun q hq => by rw [f 11 (by omega)]; exact h3 q hq, fun p q hp hq => by rw [f (42 + p) (by omega)]; exact h4 p q hp hq⟩
theorem MV_Fr {σ σ' : St} {n P : Nat} {kc : Nat → Int32} {sy : Nat → Nat → Int32} (h : MV σ n P kc sy) (f : FrL σ σ') : MV σ' n P kc sy := by
  obtain ⟨h1, h2, h3, h4⟩ := h
  exact ⟨by rw [f 0 (by omega)]; exact h1, by rw [f 0 (by omega)]; exact h2, fun q hq => by rw [f 2 (by omega)]; exact h3 q hq, fun p q hp hq => by rw [f 10 (by omega)]; exact h4 p q hp hq⟩
section M2
variable {σ : St} {n P : Nat} {kc : Nat → Int32} {sy : Nat → Nat → Int32}
theorem mkB_le (p : Nat) (out : Int32) : mkB n kc sy p out ≤ n := by
  have := sm_le (n := n) (b := 1) (f := fun q => (!(decide (nI q = out)) && isR kc sy p q).toNat) (fun k _ => toNat_le1 _)
  unfold mkB
  omega
theorem c_markOf (h : CV σ n P kc sy) (hn : n ≤ 12) {p : Nat} (hp : p < 10) : f_X5_markOf (nI p) σ = some (nI (mkB n kc sy p (-1))) := by
  unfold f_X5_markOf
  rw [c_restOf h hn hp]
  rfl
theorem c_fillRests (h : CV σ n P kc sy) (hn : n ≤ 12) (hP : P ≤ 10) (out : Int32) {a : Nat} (ha : 20 ≤ a ∧ a < 22) : f_X5_fillRests a 10 out σ = some (wA σ a (rwk P (fun j => nI (mkB n kc sy j out)) (σ.1 a))) := by
  unfold f_X5_fillRests
  refine lp_count (fun k => (nI k, wA σ a (rwk k (fun j => nI (mkB n kc sy j out)) (σ.1 a)))) P (by rw [rwk_0, wA_self]; rfl) (by omega) (fun k hk rec => ?_) (fun rec => ?_)
  · have hv := CV_Fr h (Fr_wA (k := a) (f := rwk k (fun j => nI (mkB n kc sy j out)) (σ.1 a)) (by omega))
    unfold L_X5_fillRests_2
    simp (disch := omega) only [hv.2.1, nI_ltI, hk, if_true, c_restOf hv hn (show k < 10 by omega), Option.bind_some, inb_t, gd_t, nI_clamp, bd_e, wI_wA, nI_1]
    rw [rwk_s (g := fun j => nI (mkB n kc sy j out))]
  · have hv := CV_Fr h (Fr_wA (k := a) (f := rwk P (fun j => nI (mkB n kc sy j out)) (σ.1 a)) (by omega))
    unfold L_X5_fillRests_2
    simp (disch := omega) only [hv.2.1, nI_ltI, Nat.lt_irrefl, if_false]
def rkN (n P : Nat) (kc : Nat → Int32) (sy : Nat → Nat → Int32) (p : Nat) (out : Int32) : Nat := 1 + sm P (fun k => (decide (mkB n kc sy p out < mkB n kc sy k out)).toNat)
theorem rkN_le (p : Nat) (out : Int32) : rkN n P kc sy p out ≤ P + 1 := by
  have := sm_le (n := P) (b := 1) (f := fun k => (decide (mkB n kc sy p out < mkB n kc sy k out)).toNat) (fun k _ => toNat_le1 _)
  unfold rkN
  omega
theorem c_rankIn (hv : CV σ n P kc sy) (hn : n ≤ 12) (hP : P ≤ 10) (out : Int32) {a : Nat} (hr : ∀ j, j < P → σ.1 a j = nI (mkB n kc sy j out)) {p : Nat} (hp : p < P) : f_X5_rankIn a 10 (nI p) σ = some (nI (rkN n P kc sy p out)) := by
  unfold f_X5_rankIn rkN
  refine lp_count (fun k => (nI k, nI (1 + sm k (fun k => (decide (mkB n kc sy p out < mkB n kc sy k out)).toNat)))) P rfl (by omega) (fun k hk rec => ?_) (fun rec => ?_)
  · have b1 : mkB n kc sy k out ≤ n := mkB_le k out
    have b2 : mkB n kc sy p out ≤ n := mkB_le p out
    unfold L_X5_rankIn_5
    simp (disch := omega) only [hv.2.1, nI_ltI, hk, if_true, inb_t, gd_t, nI_clamp, hr k hk, hr p hp, nI_1, sm_s]
    by_cases h1 : mkB n kc sy p out < mkB n kc sy k out
    · simp [h1, Nat.add_assoc]
    · simp [h1]
  · unfold L_X5_rankIn_5
    simp (disch := omega) only [hv.2.1, nI_ltI, Nat.lt_irrefl, if_false]
theorem c_rankOf (h : CV σ n P kc sy) (hn : n ≤ 12) (hP : P ≤ 10) {p : Nat} (hp : p < P) : ∃ σ', f_X5_rankOf (nI p) σ = some (nI (rkN n P kc sy p (-1)), σ') ∧ Fr σ σ' := by
  unfold f_X5_rankOf
  rw [c_fillRests h hn hP (-1) (by omega), Option.bind_some]
  rw [c_rankIn (CV_Fr h (Fr_wA (by omega))) hn hP (-1) (fun j hj => by rw [wA_s, rwk_lt hj]) hp, Option.bind_some]
  exact ⟨_, rfl, Fr_wA (by omega)⟩
theorem m_rankBut (h : MV σ n P kc sy) (hn : n ≤ 12) (hP : P ≤ 10) {p : Nat} (hp : p < P) (out : Int32) : f_X12_rankBut (nI p) out σ = some (nI (rkN n P kc sy p out)) := by
  unfold f_X12_rankBut rkN
  refine lp_count (fun k => (nI k, nI (1 + sm k (fun k => (decide (mkB n kc sy p out < mkB n kc sy k out)).toNat)))) P rfl (by omega) (fun k hk rec => ?_) (fun rec => ?_)
  · have b1 : mkB n kc sy k out ≤ n := mkB_le k out
    have b2 : mkB n kc sy p out ≤ n := mkB_le p out
    unfold L_X12_rankBut_5
    simp (disch := omega) only [h.2.1, nI_ltI, hk, if_true, m_markBut h hn (show k < 10 by omega), m_markBut h hn (show p < 10 by omega), Option.bind_some, nI_1, sm_s, bv_e, add0]
    by_cases h1 : mkB n kc sy p out < mkB n kc sy k out
    · simp [h1, Nat.add_assoc]
    · simp [h1]
  · unfold L_X12_rankBut_5
    simp (disch := omega) only [h.2.1, nI_ltI, Nat.lt_irrefl, if_false]
/-- how many are open, one left out -/
def opN (n : Nat) (kc : Nat → Int32) (out : Int32) : Nat := sm n (fun q => (!(decide (nI q = out)) && !(decide (kc q = 0))).toNat)
theorem opN_le (out : Int32) : opN n kc out ≤ n := by
  have := sm_le (n := n) (b := 1) (f := fun q => (!(decide (nI q = out)) && !(decide (kc q = 0))).toNat) (fun k _ => toNat_le1 _)
  unfold opN
  omega
theorem m_openBut (h : MV σ n P kc sy) (hn : n ≤ 12) (out : Int32) : f_X12_openBut out σ = some (nI (opN n kc out)) := by
  unfold f_X12_openBut opN
  refine lp_count (fun k => (nI k, nI (sm k (fun q => (!(decide (nI q = out)) && !(decide (kc q = 0))).toNat)))) n rfl (by omega) (fun k hk rec => ?_) (fun rec => ?_)
  · unfold L_X12_openBut_4
    simp (disch := omega) only [h.1, nI_ltI, hk, if_true, inb_t, gd_t, nI_clamp, h.2.2.1 k (by omega), nI_1, sm_s, bv_e, add0]
    by_cases h1 : nI k = out
    · simp [h1]
    · by_cases h2 : kc k = 0 <;> simp [h1, h2]
  · unfold L_X12_openBut_4
    simp (disch := omega) only [h.1, nI_ltI, Nat.lt_irrefl, if_false]
def paB (ps m o : Nat) : Bool := !(decide (m * 100 < ps * o))
theorem c_passes {ps m o : Nat} (hs : σ.1 4 0 = nI ps) (h1 : ps ≤ 100) (h2 : m ≤ 12) (h3 : o ≤ 12) : f_X5_passes (nI m) (nI o) σ = some (paB ps m o) := by
  have b1 : ps * o ≤ 100 * 12 := Nat.mul_le_mul h1 h3
  unfold f_X5_passes paB
  rw [hs, show (100 : Int32) = nI 100 from rfl]
  simp (disch := omega) only [pk_mul, nI_ltI]
  by_cases h : m * 100 < ps * o <;> simp [h]
theorem m_passesBut (h : MV σ n P kc sy) (hn : n ≤ 12) {ps : Nat} (hs : σ.1 3 1 = nI ps) (h1 : ps ≤ 100) {p : Nat} (hp : p < 10) (out : Int32) : f_X12_passesBut (nI p) out σ = some (paB ps (mkB n kc sy p out) (opN n kc out)) := by
  have b0 : mkB n kc sy p out ≤ n := mkB_le p out
  have b2 : opN n kc out ≤ n := opN_le out
  have b1 : ps * opN n kc out ≤ 100 * 12 := Nat.mul_le_mul h1 (by omega)
  unfold f_X12_passesBut paB
  simp (disch := omega) only [m_markBut h hn hp, m_openBut h hn, Option.bind_some, show (1 : Int32) = nI 1 from rfl, show (100 : Int32) = nI 100 from rfl, inb_t, gd_t, nI_clamp, hs, pk_mul, nI_ltI]
  by_cases h : mkB n kc sy p out * 100 < ps * opN n kc out <;> simp [h]
theorem bI_eq {a b : Bool} : bI a = bI b ↔ a = b := by cases a <;> cases b <;> decide
/-- of how many the rank is another, with q struck; of how many whether they pass -/
def wrkN (n P : Nat) (kc : Nat → Int32) (sy : Nat → Nat → Int32) (q : Nat) : Nat := sm P (fun p => (!(decide (rkN n P kc sy p (-1) = rkN n P kc sy p (nI q)))).toNat)
def wpaN (n P : Nat) (kc : Nat → Int32) (sy : Nat → Nat → Int32) (ps q : Nat) : Nat := sm P (fun p => (!(decide (paB ps (mkB n kc sy p (-1)) (opN n kc (-1)) = paB ps (mkB n kc sy p (nI q)) (opN n kc (nI q))))).toNat)
theorem c_otherRanks (h : CV σ n P kc sy) (hn : n ≤ 12) (hP : P ≤ 10) (q : Nat) : ∃ σ', f_X5_otherRanks (nI q) σ = some (nI (wrkN n P kc sy q), σ') ∧ Fr σ σ' := by
  unfold f_X5_otherRanks wrkN
  have f1 : Fr σ (wA σ 20 (rwk P (fun j => nI (mkB n kc sy j (-1))) (σ.1 20))) := Fr_wA (by omega)
  have v1 := CV_Fr h f1
  rw [c_fillRests h hn hP (-1) (by omega), Option.bind_some, c_fillRests v1 hn hP (nI q) (by omega), Option.bind_some]
  generalize hσ1 : wA σ 20 (rwk P (fun j => nI (mkB n kc sy j (-1))) (σ.1 20)) = σ1 at f1 v1
  have f2 : Fr σ1 (wA σ1 21 (rwk P (fun j => nI (mkB n kc sy j (nI q))) (σ1.1 21))) := Fr_wA (by omega)
  have r1 : ∀ j, j < P → (wA σ1 21 (rwk P (fun j => nI (mkB n kc sy j (nI q))) (σ1.1 21))).1 20 j = nI (mkB n kc sy j (-1)) := fun j hj => by rw [wA_1 (by omega), ← hσ1, wA_s, rwk_lt hj]
  have r2 : ∀ j, j < P → (wA σ1 21 (rwk P (fun j => nI (mkB n kc sy j (nI q))) (σ1.1 21))).1 21 j = nI (mkB n kc sy j (nI q)) := fun j hj => by rw [wA_s, rwk_lt hj]
  generalize wA σ1 21 (rwk P (fun j => nI (mkB n kc sy j (nI q))) (σ1.1 21)) = σ2 at f2 r1 r2
  have v2 := CV_Fr v1 f2
  refine ⟨σ2, ?_, Fr_tr f1 f2⟩
  refine lp_count (fun k => (nI k, nI (sm k (fun p => (!(decide (rkN n P kc sy p (-1) = rkN n P kc sy p (nI q)))).toNat)))) P rfl (by omega) (fun k hk rec => ?_) (fun rec => ?_)
  · have b1 : rkN n P kc sy k (-1) ≤ P + 1 := rkN_le k _
    have b2 : rkN n P kc sy k (nI q) ≤ P + 1 := rkN_le k _
    unfold L_X5_otherRanks_22
    simp (disch := omega) only [v2.2.1, nI_ltI, hk, if_true, c_rankIn v2 hn hP _ r1 hk, c_rankIn v2 hn hP _ r2 hk, Option.bind_some, nI_eq, nI_1, sm_s]
    by_cases h1 : rkN n P kc sy k (-1) = rkN n P kc sy k (nI q) <;> simp [h1]
  · unfold L_X5_otherRanks_22
    simp (disch := omega) only [v2.2.1, nI_ltI, Nat.lt_irrefl, if_false]
theorem opN_out (hn : n ≤ 12) {q : Nat} (hq : q < n) : opN n kc (nI q) = if kc q = 0 then opN n kc (-1) else opN n kc (-1) - 1 := by
  have hm : ∀ k, k < 12 → ¬ nI k = -1 := by decide +kernel
  have key : ∀ m, m ≤ n → sm m (fun j => (!(decide (nI j = nI q)) && !(decide (kc j = 0))).toNat) + (if q < m ∧ ¬ kc q = 0 then 1 else 0) = sm m (fun j => (!(decide (nI j = (-1 : Int32))) && !(decide (kc j = 0))).toNat) := by
    intro m
    induction m with
    | zero => intro _; simp [sm]
    | succ m ih =>
      intro hm2
      have ih := ih (by omega)
      rw [sm_s, sm_s]
      have e1 : (nI m = nI q) ↔ m = q := nI_eq (by omega) (by omega)
      have e2 := hm m (by omega)
      by_cases h1 : m = q
      · subst h1
        by_cases h2 : kc m = 0
        · simp [h2] at ih ⊢
          omega
        · simp [h2, e2] at ih ⊢
          omega
      · have e3 : (q < m + 1) ↔ q < m := by omega
        by_cases h2 : kc m = 0
        · simp [h2, e3] at ih ⊢
          omega
        · simp [h2, e1, h1, e2, e3] at ih ⊢
          omega
  have := key n (by omega)
  unfold opN
  by_cases h2 : kc q = 0
  · simp [h2] at this ⊢
    exact this
  · simp [h2, hq] at this ⊢
    omega
theorem c_otherPasses (h : CV σ n P kc sy) (hn : n ≤ 12) (hP : P ≤ 10) {ps : Nat} (hs : σ.1 4 0 = nI ps) (h1 : ps ≤ 100) (ho : σ.1 1 4 = nI (opN n kc (-1))) {q : Nat} (hq : q < n) : f_X5_otherPasses (nI q) σ = some (nI (wpaN n P kc sy ps q)) := by
  have b0 : opN n kc (-1) ≤ n := opN_le _
  have b1 : opN n kc (nI q) ≤ n := opN_le _
  have key : lp (L_X5_otherPasses_37 (nI q) σ (nI (opN n kc (nI q)))) NN (0, 0) = some (nI (wpaN n P kc sy ps q)) := by
    unfold wpaN
    refine lp_count (fun k => (nI k, nI (sm k (fun p => (!(decide (paB ps (mkB n kc sy p (-1)) (opN n kc (-1)) = paB ps (mkB n kc sy p (nI q)) (opN n kc (nI q))))).toNat)))) P rfl (by omega) (fun k hk rec => ?_) (fun rec => ?_)
    · have b2 : mkB n kc sy k (-1) ≤ n := mkB_le k _
      have b3 : mkB n kc sy k (nI q) ≤ n := mkB_le k _
      unfold L_X5_otherPasses_37
      simp (disch := omega) only [h.2.1, nI_ltI, hk, if_true, c_markOf h hn (show k < 10 by omega), c_restOf h hn (show k < 10 by omega), Option.bind_some, ho, c_passes hs h1, bI_eq, nI_1, sm_s]
      by_cases h9 : paB ps (mkB n kc sy k (-1)) (opN n kc (-1)) = paB ps (mkB n kc sy k (nI q)) (opN n kc (nI q)) <;> simp [h9]
    · unfold L_X5_otherPasses_37
      simp (disch := omega) only [h.2.1, nI_ltI, Nat.lt_irrefl, if_false]
  unfold f_X5_otherPasses
  simp (disch := omega) only [inb_t, gd_t, nI_clamp, h.2.2.1 q (by omega), jn_e, ho]
  rw [opN_out hn hq] at key
  by_cases h2 : kc q = 0
  · simpa [h2] using key
  · have h3 : 0 < opN n kc (-1) := by
      have h4 := opN_out hn hq (kc := kc)
      unfold opN
      have : ∀ m, q < m → 0 < sm m (fun j => (!(decide (nI j = (-1 : Int32))) && !(decide (kc j = 0))).toNat) := by
        intro m
        induction m with
        | zero => intro h; omega
        | succ m ih =>
          intro hm
          rw [sm_s]
          by_cases e : q = m
          · subst e
            have : ¬ nI q = -1 := (show ∀ k, k < 12 → ¬ nI k = -1 by decide +kernel) q (by omega)
            simp [h2, this]
          · have := ih (by omega)
            omega
      exact this n hq
    rw [if_neg h2]
    rw [if_neg h2] at key
    have e1 : nI (opN n kc (-1)) - 1 = nI (opN n kc (-1) - 1) := pk_sub (b := 1) (by omega)
    rw [e1]
    exact key
theorem m_without (h : MV σ n P kc sy) (hn : n ≤ 12) (hP : P ≤ 10) {ps : Nat} (hs : σ.1 3 1 = nI ps) (h1 : ps ≤ 100) (q : Nat) : f_X12_withoutNow (nI q) 0 σ = some (nI (wrkN n P kc sy q)) ∧ f_X12_withoutNow (nI q) 1 σ = some (nI (wpaN n P kc sy ps q)) := by
  constructor
  · unfold f_X12_withoutNow wrkN
    refine lp_count (fun k => (nI k, nI (sm k (fun p => (!(decide (rkN n P kc sy p (-1) = rkN n P kc sy p (nI q)))).toNat)))) P rfl (by omega) (fun k hk rec => ?_) (fun rec => ?_)
    · have b1 : rkN n P kc sy k (-1) ≤ P + 1 := rkN_le k _
      have b2 : rkN n P kc sy k (nI q) ≤ P + 1 := rkN_le k _
      unfold L_X12_withoutNow_5
      simp (disch := omega) only [h.2.1, nI_ltI, hk, if_true, m_rankBut h hn hP hk, Option.bind_some, nI_eq, nI_1, sm_s, bv_e, add0]
      by_cases h1 : rkN n P kc sy k (-1) = rkN n P kc sy k (nI q)
      · simp [h1]
      · have h2 : ¬ rkN n P kc sy k (nI q) = rkN n P kc sy k (-1) := fun e => h1 e.symm
        simp [h1, h2]
    · unfold L_X12_withoutNow_5
      simp (disch := omega) only [h.2.1, nI_ltI, Nat.lt_irrefl, if_false]
  · unfold f_X12_withoutNow wpaN
    refine lp_count (fun k => (nI k, nI (sm k (fun p => (!(decide (paB ps (mkB n kc sy p (-1)) (opN n kc (-1)) = paB ps (mkB n kc sy p (nI q)) (opN n kc (nI q))))).toNat)))) P rfl (by omega) (fun k hk rec => ?_) (fun rec => ?_)
    · unfold L_X12_withoutNow_5
      simp (disch := omega) only [h.2.1, nI_ltI, hk, if_true, m_passesBut h hn hs h1 (show k < 10 by omega), Option.bind_some, bI_eq, nI_1, sm_s, bv_e, add0]
      rw [if_neg (by decide)]
      by_cases h1 : paB ps (mkB n kc sy k (-1)) (opN n kc (-1)) = paB ps (mkB n kc sy k (nI q)) (opN n kc (nI q))
      · simp [h1]
      · have h2 : ¬ paB ps (mkB n kc sy k (nI q)) (opN n kc (nI q)) = paB ps (mkB n kc sy k (-1)) (opN n kc (-1)) := fun e => h1 e.symm
        simp [h1, h2]
    · unfold L_X12_withoutNow_5
      simp (disch := omega) only [h.2.1, nI_ltI, Nat.lt_irrefl, if_false]
end M2
