/-! tellings: what is said after k tellings, how many count, rubbings -/
theorem wI_e {σ : St} {k j k' j' : Nat} {v : Int32} : (wI σ k j v).1 k' j' = if k' = k ∧ j' = j then v else σ.1 k' j' := by
  unfold wI wA upd
  by_cases h : k' = k
  · subst h
    by_cases g : j' = j <;> simp [g]
  · simp [h]
theorem wI_f {σ : St} {k j k' : Nat} {v : Int32} (h : k' ≠ k) : (wI σ k j v).1 k' = σ.1 k' := by
  unfold wI wA; simp [h]
theorem wI_s {σ : St} {k j : Nat} {v : Int32} : (wI σ k j v).2 = σ.2 := rfl
def sayF (tp tq : Nat → Nat) (ta : Nat → Int32) : Nat → Nat → Nat → Int32
  | 0, _, _ => 0
  | k + 1, p, q => if p = tp k ∧ q = tq k then ta k else sayF tp tq ta k p q
def cntN (tt : Nat → Int32) (as : Int32) : Nat → Nat
  | 0 => 0
  | T + 1 => if cntN tt as T = T ∧ ¬ as < tt T then T + 1 else cntN tt as T
section M12
variable {tp tq : Nat → Nat} {ta tt : Nat → Int32} {as : Int32} {T : Nat}
theorem cnt_le : ∀ T, cntN tt as T ≤ T
  | 0 => Nat.le_refl _
  | T + 1 => by
    unfold cntN
    have := cnt_le T
    split <;> omega
theorem cnt_ok : ∀ T i, i < cntN tt as T → ¬ as < tt i
  | 0, i, h => by simp [cntN] at h
  | T + 1, i, h => by
    unfold cntN at h
    split at h
    · rename_i c
      by_cases e : i = T
      · rw [e]; exact c.2
      · exact cnt_ok T i (by omega)
    · exact cnt_ok T i h
theorem cnt_bad : ∀ T, cntN tt as T < T → as < tt (cntN tt as T)
  | 0, h => by simp at h
  | T + 1, h => by
    unfold cntN at h ⊢
    split at h
    · omega
    · rename_i c
      rw [if_neg c]
      by_cases e : cntN tt as T = T
      · have : ¬ ¬ as < tt T := fun g => c ⟨e, g⟩
        rw [e]; exact Classical.not_not.mp this
      · exact cnt_bad T (by have := cnt_le (tt := tt) (as := as) T; omega)
def TT (σ : St) (tp tq : Nat → Nat) (ta tt : Nat → Int32) (T : Nat) : Prop :=
  σ.1 3 0 = nI T ∧ ∀ i, i < T → σ.1 15 i = nI (tp i) ∧ tp i < 10 ∧ σ.1 16 i = nI (tq i) ∧ tq i < 12 ∧ σ.1 17 i = ta i ∧ σ.1 18 i = sayF tp tq ta i (tp i) (tq i) ∧ σ.1 19 i = tt i
def Cur (σ : St) (tp tq : Nat → Nat) (ta : Nat → Int32) (c : Nat) : Prop :=
  σ.1 3 1 = nI c ∧ ∀ p q, p < 10 → q < 12 → σ.1 (42 + p) q = sayF tp tq ta c p q
def FT (σ x : St) : Prop := (∀ k, k ≠ 3 → ¬ (42 ≤ k ∧ k < 52) → x.1 k = σ.1 k) ∧ x.2 = σ.2 ∧ x.1 3 0 = σ.1 3 0 ∧ x.1 3 2 = σ.1 3 2
theorem TT_FT {σ x : St} (h : TT σ tp tq ta tt T) (f : FT σ x) : TT x tp tq ta tt T := by
  obtain ⟨h1, h2⟩ := h
  refine ⟨by rw [f.2.2.1]; exact h1, fun i hi => ?_⟩
  rw [f.1 15 (by omega) (by omega), f.1 16 (by omega) (by omega), f.1 17 (by omega) (by omega), f.1 18 (by omega) (by omega), f.1 19 (by omega) (by omega)]
  exact h2 i hi
theorem c_countOn {σ : St} {c : Nat} (h : TT σ tp tq ta tt T) (hT : T ≤ 150) (hc : Cur σ tp tq ta c) (has : σ.1 3 2 = as) (hcl : c ≤ cntN tt as T) : ∃ σ', f_X10_countOn σ = some σ' ∧ FT σ σ' ∧ Cur σ' tp tq ta (cntN tt as T) := by
  unfold f_X10_countOn
  have hle := cnt_le (tt := tt) (as := as) T
  have key : ∃ x : St, (FT σ x ∧ Cur x tp tq ta (c + (cntN tt as T - c))) ∧ lp L_X10_countOn_0 NN σ = some x := by
    refine lp_inv (fun k (x : St) => FT σ x ∧ Cur x tp tq ta (c + k)) (cntN tt as T - c) (fun x => some x) ⟨⟨fun _ _ _ => rfl, rfl, rfl, rfl⟩, hc⟩ (by omega) (fun k x hk hI => ?_) (fun x hI rec => ?_)
    · obtain ⟨hF, hC⟩ := hI
      obtain ⟨t1, t2⟩ := TT_FT h hF
      obtain ⟨a1, a2, a3, a4, a5, a6, a7⟩ := t2 (c + k) (by omega)
      have hno := cnt_ok (tt := tt) (as := as) T (c + k) (by omega)
      have has2 : x.1 3 2 = as := by rw [hF.2.2.2]; exact has
      obtain ⟨c1, c2⟩ := hC
      refine ⟨wI (wI x (42 + tp (c + k)) (tq (c + k)) (ta (c + k))) 3 1 (nI (c + k + 1)), ⟨⟨fun j h1 h2 => ?_, hF.2.1, ?_, ?_⟩, ⟨?_, fun p q hp hq => ?_⟩⟩, fun rec => ?_⟩
      · rw [wI_f h1, wI_f (by omega)]; exact hF.1 j h1 h2
      · rw [wI_e, if_neg (by omega), wI_e, if_neg (by omega)]; exact hF.2.2.1
      · rw [wI_e, if_neg (by omega), wI_e, if_neg (by omega)]; exact hF.2.2.2
      · rw [wI_e, if_pos ⟨rfl, rfl⟩]; rfl
      · rw [wI_e, if_neg (by omega), wI_e, ← Nat.add_assoc]
        show _ = if p = tp (c + k) ∧ q = tq (c + k) then ta (c + k) else sayF tp tq ta (c + k) p q
        by_cases e : p = tp (c + k) ∧ q = tq (c + k)
        · rw [if_pos e, if_pos (by omega)]
        · rw [if_neg e, if_neg (by omega)]; exact c2 p q hp hq
      · unfold L_X10_countOn_0
        simp (disch := omega) only [t1, c1, nI_ltI, inb_t, gd_t, nI_clamp, a1, a3, a5, a7, has2, cur_id, bd_e]
        rw [if_pos (show c + k < T by omega), if_neg hno]
        rw [wI_e, if_neg (by omega), c1, nI_1]
    · obtain ⟨hF, hC⟩ := hI
      obtain ⟨t1, t2⟩ := TT_FT h hF
      obtain ⟨c1, c2⟩ := hC
      rw [show c + (cntN tt as T - c) = cntN tt as T by omega] at c1
      have has2 : x.1 3 2 = as := by rw [hF.2.2.2]; exact has
      unfold L_X10_countOn_0
      simp (disch := omega) only [t1, c1, nI_ltI, inb_t, gd_t, nI_clamp, has2]
      by_cases e : cntN tt as T < T
      · obtain ⟨a1, a2, a3, a4, a5, a6, a7⟩ := t2 _ e
        rw [if_pos e, a7, if_pos (cnt_bad T e)]
        simp (disch := omega) only [inb_t, gd_t]
      · rw [if_neg e]
  obtain ⟨x, ⟨a1, a2⟩, e⟩ := key
  rw [show c + (cntN tt as T - c) = cntN tt as T by omega] at a2
  exact ⟨x, e, a1, a2⟩
theorem sayF_c {tp' tq' : Nat → Nat} {ta' : Nat → Int32} (p q : Nat) : ∀ k, (∀ i, i < k → tp' i = tp i ∧ tq' i = tq i ∧ ta' i = ta i) → sayF tp' tq' ta' k p q = sayF tp tq ta k p q
  | 0, _ => rfl
  | k + 1, h => by
    unfold sayF
    rw [sayF_c p q k (fun i hi => h i (by omega)), (h k (by omega)).1, (h k (by omega)).2.1, (h k (by omega)).2.2]
theorem cntN_c {tt' : Nat → Int32} : ∀ k, (∀ i, i < k → tt' i = tt i) → cntN tt' as k = cntN tt as k
  | 0, _ => rfl
  | k + 1, h => by
    unfold cntN
    rw [cntN_c k (fun i hi => h i (by omega)), h k (by omega)]
theorem cnt_mono : ∀ T, cntN tt as T ≤ cntN tt as (T + 1) := fun T => by
  show _ ≤ if cntN tt as T = T ∧ ¬ as < tt T then T + 1 else cntN tt as T
  split <;> omega
def Lat (σ : St) (tp tq : Nat → Nat) (ta : Nat → Int32) (T : Nat) : Prop :=
  ∀ p q, p < 10 → q < 12 → σ.1 (52 + p) q = sayF tp tq ta T p q
def nx {α : Type} (f : Nat → α) (T : Nat) (v : α) : Nat → α := fun i => if i = T then v else f i
theorem nx_s {α : Type} {f : Nat → α} {T : Nat} {v : α} : nx f T v T = v := if_pos rfl
theorem nx_l {α : Type} {f : Nat → α} {T i : Nat} {v : α} (h : i < T) : nx f T v i = f i := if_neg (by omega)
theorem c_tell {σ : St} {p q : Nat} {v t : Int32} (h : TT σ tp tq ta tt T) (hT : T < 150) (hL : Lat σ tp tq ta T) (hc : Cur σ tp tq ta (cntN tt as T)) (has : σ.1 3 2 = as) (hp : p < 10) (hq : q < 12) : ∃ σ', f_X10_tell (nI p) (nI q) v t σ = some σ' ∧ (∀ k, k ≠ 3 → ¬ (15 ≤ k ∧ k < 20) → ¬ (42 ≤ k ∧ k < 62) → σ'.1 k = σ.1 k) ∧ σ'.2 = σ.2 ∧ σ'.1 3 2 = as ∧ TT σ' (nx tp T p) (nx tq T q) (nx ta T v) (nx tt T t) (T + 1) ∧ Lat σ' (nx tp T p) (nx tq T q) (nx ta T v) (T + 1) ∧ Cur σ' (nx tp T p) (nx tq T q) (nx ta T v) (cntN (nx tt T t) as (T + 1)) := by
  obtain ⟨t1, t2⟩ := h
  obtain ⟨c1, c2⟩ := hc
  have hsy : ∀ k a b, k ≤ T → sayF (nx tp T p) (nx tq T q) (nx ta T v) k a b = sayF tp tq ta k a b := fun k a b hk => sayF_c a b k (fun i hi => ⟨nx_l (by omega), nx_l (by omega), nx_l (by omega)⟩)
  have hcn : cntN (nx tt T t) as T = cntN tt as T := cntN_c T (fun i hi => nx_l hi)
  have hle := cnt_le (tt := tt) (as := as) T
  let σ7 : St := wI (wI (wI (wI (wI (wI (wI σ 15 T (nI p)) 16 T (nI q)) 17 T v) 18 T (sayF tp tq ta T p q)) 19 T t) (52 + p) q v) 3 0 (nI (T + 1))
  have hT7 : TT σ7 (nx tp T p) (nx tq T q) (nx ta T v) (nx tt T t) (T + 1) := by
    refine ⟨by simp only [σ7, wI_e]; simp, fun i hi => ?_⟩
    by_cases e : i = T
    · subst e
      simp only [nx_s, hsy i _ _ (Nat.le_refl _), σ7, wI_e]
      simp [hp, hq, show ¬ (15 = 52 + p) by omega, show ¬ (16 = 52 + p) by omega, show ¬ (17 = 52 + p) by omega, show ¬ (18 = 52 + p) by omega, show ¬ (19 = 52 + p) by omega]
    · rw [nx_l (show i < T by omega), nx_l (show i < T by omega), nx_l (show i < T by omega), nx_l (show i < T by omega), hsy i _ _ (by omega)]
      simp only [σ7, wI_e]
      simp only [e, and_false, if_false, show ¬ (15 = 52 + p) by omega, show ¬ (16 = 52 + p) by omega, show ¬ (17 = 52 + p) by omega, show ¬ (18 = 52 + p) by omega, show ¬ (19 = 52 + p) by omega, false_and, show ¬ (15 = 3) by omega, show ¬ (16 = 3) by omega, show ¬ (17 = 3) by omega, show ¬ (18 = 3) by omega, show ¬ (19 = 3) by omega]
      exact t2 i (by omega)
  have hC7 : Cur σ7 (nx tp T p) (nx tq T q) (nx ta T v) (cntN tt as T) := by
    refine ⟨by simp only [σ7, wI_e]; simp [c1, show ¬ (3 = 52 + p) by omega], fun a b ha hb => ?_⟩
    rw [hsy _ _ _ hle]
    simp only [σ7]
    rw [wI_f (by omega), wI_f (by omega), wI_f (by omega), wI_f (by omega), wI_f (by omega), wI_f (by omega), wI_f (by omega)]
    exact c2 a b ha hb
  have hL7 : Lat σ7 (nx tp T p) (nx tq T q) (nx ta T v) (T + 1) := by
    intro a b ha hb
    show _ = if a = nx tp T p T ∧ b = nx tq T q T then nx ta T v T else sayF (nx tp T p) (nx tq T q) (nx ta T v) T a b
    rw [nx_s, nx_s, nx_s, hsy _ _ _ (Nat.le_refl _)]
    simp only [σ7]
    rw [wI_f (by omega), wI_e]
    by_cases e : a = p ∧ b = q
    · rw [if_pos e, if_pos (by omega)]
    · rw [if_neg e, if_neg (by omega), wI_f (by omega), wI_f (by omega), wI_f (by omega), wI_f (by omega), wI_f (by omega)]
      exact hL a b ha hb
  have has7 : σ7.1 3 2 = as := by
    simp only [σ7]
    rw [wI_e, if_neg (by omega), wI_f (by omega), wI_f (by omega), wI_f (by omega), wI_f (by omega), wI_f (by omega), wI_f (by omega)]
    exact has
  obtain ⟨σ', e, f, g⟩ := c_countOn (as := as) hT7 (by omega) hC7 has7 (by rw [← hcn]; exact cnt_mono T)
  refine ⟨σ', ?_, fun k h1 h2 h3 => ?_, ?_, ?_, TT_FT hT7 f, fun a b ha hb => ?_, g⟩
  · unfold f_X10_tell
    have hx : σ.1 (52 + p) q = sayF tp tq ta T p q := hL p q hp hq
    rw [t1, if_pos (show nI T < 150 from nI_lt (b := 150) hT (by omega))]
    simp (disch := omega) only [t1, inb_t, gd_t, nI_clamp, bd_e, wI_f, hx, lat_id, nI_1]
    rw [show wI (wI (wI (wI (wI (wI (wI σ 15 T (nI p)) 16 T (nI q)) 17 T v) 18 T (sayF tp tq ta T p q)) 19 T t) (52 + p) q v) 3 0 (nI (T + 1)) = σ7 from rfl, e]
    rfl
  · rw [f.1 k h1 (by omega)]
    simp only [σ7]
    rw [wI_f (by omega), wI_f (by omega), wI_f (by omega), wI_f (by omega), wI_f (by omega), wI_f (by omega), wI_f (by omega)]
  · rw [f.2.1]; rfl
  · rw [f.2.2.2]; exact has7
  · rw [f.1 (52 + a) (by omega) (by omega)]; exact hL7 a b ha hb
theorem c_lookAsOf {σ : St} (h : TT σ tp tq ta tt T) (hT : T ≤ 150) : ∃ σ', f_X10_lookAsOf as σ = some σ' ∧ (∀ k, k ≠ 3 → ¬ (42 ≤ k ∧ k < 52) → σ'.1 k = σ.1 k) ∧ σ'.2 = σ.2 ∧ σ'.1 3 0 = nI T ∧ σ'.1 3 2 = as ∧ Cur σ' tp tq ta (cntN tt as T) := by
  let σ2 : St := wI (wI σ 3 2 as) 3 1 0
  have hF2 : ∀ k, k ≠ 3 → σ2.1 k = σ.1 k := fun k hk => by simp only [σ2]; rw [wI_f hk, wI_f hk]
  have key : ∃ x : Int32 × St, (x.1 = nI 10 ∧ FT σ2 x.2 ∧ x.2.1 3 1 = 0 ∧ ∀ p q, p < 10 → q < 12 → x.2.1 (42 + p) q = 0) ∧ ∀ K : St → Option St, lp (L_X10_lookAsOf_12 K) NN ((0 : Int32), σ2) = K x.2 := by
    refine lp_invK (fun k (x : Int32 × St) => x.1 = nI k ∧ FT σ2 x.2 ∧ x.2.1 3 1 = 0 ∧ ∀ p q, p < k → q < 12 → x.2.1 (42 + p) q = 0) 10 (fun x => x.2) ⟨rfl, ⟨fun _ _ _ => rfl, rfl, rfl, rfl⟩, by simp only [σ2, wI_e]; simp, fun p q hp => by omega⟩ (by omega) (fun k x hk hI => ?_) (fun x hI K rec => ?_)
    · obtain ⟨x1, x2⟩ := x
      obtain ⟨hx1, hF, h3, hA⟩ := hI
      simp only at hx1 hF h3 hA
      subst hx1
      refine ⟨(nI (k + 1), wA x2 (42 + k) (rwk 12 (fun _ => 0) (x2.1 (42 + k)))), ⟨rfl, ⟨fun j h1 h2 => ?_, hF.2.1, ?_, ?_⟩, ?_, fun p q hp hq => ?_⟩, fun K rec => ?_⟩
      · show (wA x2 (42 + k) _).1 j = _
        rw [wA_1 (by omega)]; exact hF.1 j h1 h2
      · show (wA x2 (42 + k) _).1 3 0 = _
        rw [wA_1 (by omega)]; exact hF.2.2.1
      · show (wA x2 (42 + k) _).1 3 2 = _
        rw [wA_1 (by omega)]; exact hF.2.2.2
      · show (wA x2 (42 + k) _).1 3 1 = _
        rw [wA_1 (by omega)]; exact h3
      · show (wA x2 (42 + k) _).1 (42 + p) q = _
        by_cases e : p = k
        · rw [e, wA_s, rwk_lt hq]
        · rw [wA_1 (by omega)]; exact hA p q (by omega) hq
      · unfold L_X10_lookAsOf_12
        simp (disch := omega) only [inb_t, gd_t, nI_clamp, cur_id, c_fill, Option.bind_some, nI_1]
        rw [if_pos (show nI k < 10 from nI_lt (b := 10) hk (by omega))]
    · obtain ⟨x1, x2⟩ := x
      obtain ⟨hx1, _⟩ := hI
      simp only at hx1
      subst hx1
      unfold L_X10_lookAsOf_12
      rw [if_neg (show ¬ nI 10 < 10 by decide)]
  obtain ⟨x, ⟨_, f, g1, g2⟩, e⟩ := key
  have hs0 : σ2.1 3 0 = nI T := by simp only [σ2, wI_e]; simp [h.1]
  have hs2 : σ2.1 3 2 = as := by simp only [σ2, wI_e]; simp
  have hT2 : TT x.2 tp tq ta tt T := by
    refine ⟨by rw [f.2.2.1, hs0], fun i hi => ?_⟩
    rw [f.1 15 (by omega) (by omega), f.1 16 (by omega) (by omega), f.1 17 (by omega) (by omega), f.1 18 (by omega) (by omega), f.1 19 (by omega) (by omega), hF2 15 (by omega), hF2 16 (by omega), hF2 17 (by omega), hF2 18 (by omega), hF2 19 (by omega)]
    exact h.2 i hi
  obtain ⟨σ', e', f', g'⟩ := c_countOn (as := as) (c := 0) hT2 hT ⟨by rw [g1]; rfl, fun p q hp hq => by rw [g2 p q hp hq]; rfl⟩ (by rw [f.2.2.2]; exact hs2) (Nat.zero_le _)
  refine ⟨σ', ?_, fun k h1 h2 => ?_, ?_, ?_, ?_, g'⟩
  · unfold f_X10_lookAsOf
    simp only [bd_e, jn_e]
    rw [show wI (wI σ 3 2 as) 3 1 0 = σ2 from rfl, e, e']
    rfl
  · rw [f'.1 k h1 h2, f.1 k h1 h2, hF2 k h1]
  · rw [f'.2.1, f.2.1]; rfl
  · rw [f'.2.2.1, f.2.2.1, hs0]
  · rw [f'.2.2.2, f.2.2.2, hs2]
end M12
