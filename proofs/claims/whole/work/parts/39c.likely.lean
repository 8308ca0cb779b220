/-! likely: how many of all orders bring as much -/
def smL {α : Type} (f : α → Nat) : List α → Nat
  | [] => 0
  | l :: r => f l + smL f r
theorem smL_app {α : Type} (f : α → Nat) : ∀ a b : List α, smL f (a ++ b) = smL f a + smL f b
  | [], b => by show _ = 0 + _; rw [Nat.zero_add]; rfl
  | l :: r, b => by show f l + smL f (r ++ b) = f l + smL f r + smL f b; rw [smL_app f r b, Nat.add_assoc]
def hitL (P : Nat) (rw_ pl : Nat → Nat) (S : Nat → Nat → Nat) (g : Nat) (l : List Nat) : Nat := if ordS P rw_ pl S (fnL l) < g then 0 else 1
theorem all_lt {P : Nat} {f : Nat → Bool} (h : (List.range P).all f = true) {p : Nat} (hp : p < P) : f p = true :=
  List.all_eq_true.mp h p (List.mem_range.mpr hp)
section M16
variable {n P : Nat} {kc : Nat → Int32} {sy : Nat → Nat → Int32} {rw_ pl : Nat → Nat} {lim : Nat}
theorem shS_le (a b : Nat) (hn : n ≤ 12) : shS n kc sy a b ≤ 12 := by
  unfold shS
  by_cases h : a = b
  · rw [if_pos h]; omega
  · rw [if_neg h]; exact sh_le a b hn
theorem ordS_le {o : Nat → Nat} (hn : n ≤ 12) (hP : P ≤ 10) : ordS P rw_ pl (shS n kc sy) o ≤ 1200 := by
  unfold ordS
  have h1 : ∀ b, b < P → sm b (fun a => if nrB rw_ pl a b = true then shS n kc sy (o b) (o a) else 0) ≤ 120 := fun b hb => by
    have := sm_le (n := b) (b := 12) (f := fun a => if nrB rw_ pl a b = true then shS n kc sy (o b) (o a) else 0) (fun a _ => by
      by_cases h : nrB rw_ pl a b = true
      · rw [if_pos h]; exact shS_le _ _ hn
      · rw [if_neg h]; omega)
    omega
  have := sm_le (n := P) (b := 120) h1
  omega
theorem MW_F15 {τ x : St} (h : MW τ n P kc sy rw_ pl lim) (f : F15 τ x) : MW x n P kc sy rw_ pl lim := MW_Fr h (fun k hk => f.1 k (by omega))
theorem m_likely {τ : St} (h : MW τ n P kc sy rw_ pl lim) (d : DB n P kc sy rw_ pl lim) (hs : ∀ i, i < P → ∀ j, j < P → τ.1 16 (10 * i + j) = nI (shS n kc sy i j)) {g : Nat} (hg : g ≤ 1200) : ∀ (r : List (List Nat)) (l : List Nat) (s : St) (cnt tot N : Nat), chkL P l r = true → F15 τ s → (∀ p, p < P → s.1 15 p = nI (fnL l p)) → r.length + 1 < N → ∃ s', F15 τ s' ∧ ∀ K : (Int64 × Int64 × St) → Option (Int32 × St), lp (L_X12_seatsNow_96 (nI g) K) N ((1 : Int32), lN cnt, lN tot, s) = K (lN (cnt + smL (hitL P rw_ pl (shS n kc sy) g) (l :: r)), lN (tot + (r.length + 1)), s')
  | r, l, s, cnt, tot, N, hc, hF, ho, hN => by
    have hP := d.2.1
    have hw := MW_F15 h hF
    have hlt : ∀ p, p < P → fnL l p < P := fun p hp => by
      have : (List.range P).all (fun i => decide (fnL l i < P)) = true := by
        cases r with
        | nil => unfold chkL at hc; exact (Bool.and_eq_true _ _ ▸ hc).1
        | cons l' r' => unfold chkL at hc; exact (Bool.and_eq_true _ _ ▸ (Bool.and_eq_true _ _ ▸ hc).1).1
      exact of_decide_eq_true (all_lt this hp)
    have ho2 : ∀ p, p < P → s.1 15 p = nI (fnL l p) ∧ fnL l p < 100 := fun p hp => ⟨ho p hp, by have := hlt p hp; omega⟩
    have hb := m_besideNow hw d (o := fnL l) (fun p hp => ⟨ho p hp, hlt p hp⟩) (fun i hi j hj => by rw [hF.1 16 (by omega)]; exact hs i hi j hj)
    have hle : ordS P rw_ pl (shS n kc sy) (fnL l) ≤ 1200 := ordS_le d.1 hP
    have hstep : ∀ (M : Nat) (K : (Int64 × Int64 × St) → Option (Int32 × St)) (b : Bool) (s2 : St), f_X12_turns s = some (b, s2) → lp (L_X12_seatsNow_96 (nI g) K) (M + 1) ((1 : Int32), lN cnt, lN tot, s) = lp (L_X12_seatsNow_96 (nI g) K) M (bI b, lN (cnt + hitL P rw_ pl (shS n kc sy) g l), lN (tot + 1), s2) := by
      intro M K b s2 ht
      show L_X12_seatsNow_96 (nI g) K (lp (L_X12_seatsNow_96 (nI g) K) M) ((1 : Int32), lN cnt, lN tot, s) = _
      generalize lp (L_X12_seatsNow_96 (nI g) K) M = rec
      unfold L_X12_seatsNow_96 hitL
      simp only
      rw [if_neg (by decide), bl_e, hb, Option.bind_some, jn_e]
      by_cases c : ordS P rw_ pl (shS n kc sy) (fnL l) < g
      · rw [if_pos (by rw [nI_ltI (by omega) (by omega)]; exact c), if_pos c]
        simp only [bl_e, ht, Option.bind_some, lN_1]
        rw [lN_0, lN_add]
      · rw [if_neg (by rw [nI_ltI (by omega) (by omega)]; exact c), if_neg c]
        simp only [bl_e, ht, Option.bind_some, lN_1]
    obtain ⟨M, rfl⟩ : ∃ M, N = M + 1 := ⟨N - 1, by omega⟩
    cases r with
    | nil =>
      unfold chkL at hc
      have hn := (Bool.and_eq_true _ _ ▸ hc).2
      have ht := m_turns0 hP hw.1.2.1 ho2 (Option.isNone_iff_eq_none.mp hn)
      obtain ⟨M', rfl⟩ : ∃ M', M = M' + 1 := ⟨M - 1, by simp at hN; omega⟩
      refine ⟨s, hF, fun K => ?_⟩
      rw [hstep _ K _ _ ht]
      show L_X12_seatsNow_96 (nI g) K (lp (L_X12_seatsNow_96 (nI g) K) M') _ = _
      generalize lp (L_X12_seatsNow_96 (nI g) K) M' = rec
      unfold L_X12_seatsNow_96
      simp only
      rw [if_pos (by decide)]
      rfl
    | cons l' r' =>
      unfold chkL at hc
      have hc1 := (Bool.and_eq_true _ _ ▸ hc).1
      have hc2 := (Bool.and_eq_true _ _ ▸ hc).2
      have hst := (Bool.and_eq_true _ _ ▸ hc1).2
      unfold stpL at hst
      split at hst
      · exact absurd hst (by simp)
      · rename_i o' ho'
        obtain ⟨s2, ht, f2, g2⟩ := m_turns1 hP hw.1.2.1 ho2 ho'
        have f3 : F15 τ s2 := ⟨fun k hk => by rw [f2.1 k hk, hF.1 k hk], by rw [f2.2, hF.2]⟩
        obtain ⟨s', f4, e⟩ := m_likely h d hs hg r' l' s2 (cnt + hitL P rw_ pl (shS n kc sy) g l) (tot + 1) M hc2 f3 (fun p hp => by rw [g2 p hp, eq_of_beq (all_lt hst hp)]) (by simp at hN; omega)
        refine ⟨s', f4, fun K => ?_⟩
        rw [hstep _ K _ _ ht, show bI true = (1 : Int32) from rfl, e K]
        congr 2
        · show lN _ = lN (cnt + (hitL P rw_ pl (shS n kc sy) g l + smL (hitL P rw_ pl (shS n kc sy) g) (l' :: r')))
          rw [Nat.add_assoc]
        · congr 1
          simp only [List.length_cons]
          congr 1
          omega
termination_by r => r.length
end M16
