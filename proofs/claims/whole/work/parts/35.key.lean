/-! THE KEY -/
def wiB (a lo hi : Int32) : Bool := !(decide (a < lo)) && !(decide (hi < a))
theorem c_within (a b c : Int32) (σ : St) : f_X11_within a b c σ = some (wiB a b c) := by
  unfold f_X11_within wiB
  by_cases h1 : a < b
  · simp [h1]
  · by_cases h2 : c < a <;> simp [h1, h2]
theorem m_in (a b c : Int32) (σ : St) : f_X12_in a b c σ = some (wiB a b c) := by
  unfold f_X12_in wiB
  by_cases h1 : a < b
  · simp [h1]
  · by_cases h2 : c < a <;> simp [h1, h2]
def okb (b : Int32) : Bool := decide (b = 63) || wiB b 49 53
def ffN (t : Nat) (tx : Nat → Int32) : Nat → Nat
  | 0 => 0
  | k + 1 => if ffN t tx k = k ∧ k < t ∧ okb (tx k) = true then k + 1 else ffN t tx k
theorem ff_le (t : Nat) (tx : Nat → Int32) : ∀ k, ffN t tx k ≤ k
  | 0 => Nat.le_refl 0
  | k + 1 => by
    rw [ffN]
    have := ff_le t tx k
    split <;> omega
theorem ff_ok (t : Nat) (tx : Nat → Int32) : ∀ k j, j < ffN t tx k → j < t ∧ okb (tx j) = true
  | 0, j, h => by exact absurd h (by show ¬ j < 0; omega)
  | k + 1, j, h => by
    rw [ffN] at h
    split at h
    · rename_i hc
      by_cases e : j = k
      · subst e; exact hc.2
      · exact ff_ok t tx k j (by omega)
    · exact ff_ok t tx k j h
theorem ff_bad (t : Nat) (tx : Nat → Int32) : ∀ k, ffN t tx k < k → ¬ (ffN t tx k < t ∧ okb (tx (ffN t tx k)) = true)
  | 0, h => by omega
  | k + 1, h => by
    rw [ffN] at h ⊢
    split at h
    · omega
    · rename_i hc
      rw [if_neg hc]
      by_cases e : ffN t tx k = k
      · intro z
        rw [e] at z
        exact hc ⟨e, z⟩
      · exact ff_bad t tx k (by have := ff_le t tx k; omega)
def fltI (n t : Nat) (tx : Nat → Int32) : Int32 := if ffN t tx n < n then nI (ffN t tx n) else if n < t then nI n else -1
def kcF (n t : Nat) (tx : Nat → Int32) (q : Nat) : Int32 := if fltI n t tx = -1 ∧ q < n then (if tx q = 63 then 0 else tx q - 48) else 0
theorem nIm1b {k : Nat} (h : k < 1024) : ¬ nI k = -1 := fun e => by
  have := congrArg Int32.toInt e
  rw [nI_toInt (by omega)] at this
  have h9 : (-1 : Int32).toInt = -1 := by decide
  omega
theorem flt_m1 {n t : Nat} {tx : Nat → Int32} (hn : n ≤ 12) : fltI n t tx = -1 ↔ (ffN t tx n = n ∧ t ≤ n) := by
  have h0 := ff_le t tx n
  unfold fltI
  by_cases h1 : ffN t tx n < n
  · rw [if_pos h1]
    exact ⟨fun e => absurd e (nIm1b (by omega)), fun e => by omega⟩
  · rw [if_neg h1]
    by_cases h2 : n < t
    · rw [if_pos h2]
      exact ⟨fun e => absurd e (nIm1b (by omega)), fun e => by omega⟩
    · rw [if_neg h2]
      exact ⟨fun _ => ⟨by omega, by omega⟩, fun _ => rfl⟩
theorem m_fault {σ : St} {n t : Nat} (hn : σ.1 0 0 = nI n) (hn2 : n ≤ 12) (ht : σ.1 0 1 = nI t) (ht2 : t ≤ 12) : f_X12_faultNow σ = some (fltI n t (σ.1 1), wA σ 2 (rwk 12 (fun _ => 0) (σ.1 2))) := by
  have k1 : ∀ K : St → Option (Int32 × St), lp (L_X12_faultNow_2 K) NN (0, σ) = K (wA σ 2 (rwk 12 (fun _ => 0) (σ.1 2))) := by
    intro K
    refine lp_count (fun k => (nI k, wA σ 2 (rwk k (fun _ => 0) (σ.1 2)))) 12 (by rw [rwk_0, wA_self]; rfl) (by omega) (fun k hk rec => ?_) (fun rec => ?_)
    · unfold L_X12_faultNow_2
      simp (disch := omega) only [show (12 : Int32) = nI 12 from rfl, nI_ltI, hk, if_true, inb_t, gd_t, nI_clamp, bd_e, wI_wA, nI_1]
      rw [rwk_s (g := fun _ => 0)]
    · unfold L_X12_faultNow_2
      simp (disch := omega) only [show (12 : Int32) = nI 12 from rfl, nI_ltI, Nat.lt_irrefl, if_false]
  unfold f_X12_faultNow
  simp only [jn_e]
  rw [k1]
  have g0 : (wA σ 2 (rwk 12 (fun _ => 0) (σ.1 2))).1 0 = σ.1 0 := wA_1 (by omega)
  have g1 : (wA σ 2 (rwk 12 (fun _ => 0) (σ.1 2))).1 1 = σ.1 1 := wA_1 (by omega)
  generalize wA σ 2 (rwk 12 (fun _ => 0) (σ.1 2)) = s1 at g0 g1
  have h0 := ff_le t (σ.1 1) n
  refine lp_count (fun k => nI k) (ffN t (σ.1 1) n) rfl (by omega) (fun k hk rec => ?_) (fun rec => ?_)
  · obtain ⟨q1, q2⟩ := ff_ok t (σ.1 1) n k hk
    unfold L_X12_faultNow_23
    simp (disch := omega) only [g0, g1, hn, ht, nI_ltI, show k < n by omega, if_true, jn_e, q1, inb_t, gd_t, nI_clamp, m_in, Option.bind_some, nI_1]
    unfold okb at q2
    by_cases e : σ.1 1 k = 63
    · simp [e]
    · simp only [e, decide_false, Bool.false_or] at q2
      simp [e, q2]
  · unfold L_X12_faultNow_23 fltI
    by_cases e1 : ffN t (σ.1 1) n < n
    · have hb := ff_bad t (σ.1 1) n e1
      generalize ffN t (σ.1 1) n = m at *
      simp (disch := omega) only [g0, g1, hn, ht, nI_ltI, e1, if_true, jn_e, m_in, Option.bind_some]
      by_cases e2 : m < t
      · have e3 : okb (σ.1 1 m) = false := by
          cases z : okb (σ.1 1 m)
          · rfl
          · exact absurd ⟨e2, z⟩ hb
        unfold okb at e3
        rw [Bool.or_eq_false_iff] at e3
        have e4 : ¬ σ.1 1 m = 63 := by simpa using e3.1
        simp (disch := omega) only [e2, if_true, inb_t, gd_t, nI_clamp, e4, if_false, e3.2]
        simp
      · simp [e2]
    · simp (disch := omega) only [g0, hn, ht, nI_ltI, e1, if_false]
      by_cases e2 : n < t <;> simp [e2]
theorem m_keyNow {σ : St} {n t : Nat} (hn : σ.1 0 0 = nI n) (hn2 : n ≤ 12) (ht : σ.1 0 1 = nI t) (ht2 : t ≤ 12) : f_X12_keyNow σ = some (fltI n t (σ.1 1), wA σ 2 (rwk 12 (kcF n t (σ.1 1)) (σ.1 2))) := by
  unfold f_X12_keyNow
  rw [m_fault hn hn2 ht ht2, Option.bind_some]
  by_cases e : fltI n t (σ.1 1) = -1
  · refine lp_count (fun k => (nI k, wA σ 2 (rwk k (kcF n t (σ.1 1)) (rwk 12 (fun _ => 0) (σ.1 2))))) n (by rw [rwk_0]; rfl) (by omega) (fun k hk rec => ?_) (fun rec => ?_)
    · unfold L_X12_keyNow_7
      simp (disch := omega) only [wA_1 (show (0 : Nat) ≠ 2 by omega), wA_1 (show (1 : Nat) ≠ 2 by omega), hn, nI_ltI, hk, if_true, e, inb_t, gd_t, nI_clamp, jn_e, bd_e, wI_wA, nI_1]
      have e2 : kcF n t (σ.1 1) k = if σ.1 1 k = 63 then 0 else σ.1 1 k - 48 := by unfold kcF; rw [if_pos ⟨e, hk⟩]
      rw [← rwk_s (g := kcF n t (σ.1 1)), e2]
      by_cases e3 : σ.1 1 k = 63 <;> simp [e3]
    · unfold L_X12_keyNow_7
      simp (disch := omega) only [wA_1 (show (0 : Nat) ≠ 2 by omega), hn, nI_ltI, Nat.lt_irrefl, if_false]
      congr 2
      congr 1
      funext j
      unfold rwk
      by_cases c1 : j < n
      · rw [if_pos c1, if_pos (by omega)]
      · rw [if_neg c1]
        by_cases c2 : j < 12
        · rw [if_pos c2, if_pos c2]
          unfold kcF
          rw [if_neg (fun z => c1 z.2)]
        · rw [if_neg c2, if_neg c2]
  · refine lp_count (fun _ => (0, wA σ 2 (rwk 12 (fun _ => 0) (σ.1 2)))) 0 rfl (by omega) (fun k hk rec => by omega) (fun rec => ?_)
    unfold L_X12_keyNow_7
    simp only [e, if_false, ite_self]
    congr 2
    congr 1
    funext j
    unfold rwk
    by_cases c2 : j < 12
    · rw [if_pos c2, if_pos c2]
      unfold kcF
      rw [if_neg (fun z => e z.1)]
    · rw [if_neg c2, if_neg c2]
theorem c_firstFault {σ : St} {n t : Nat} (hn : σ.1 1 2 = nI n) (hn2 : n ≤ 12) (ht : σ.1 1 1 = nI t) (ht2 : t ≤ 12) : f_X4_firstFault σ = some (fltI n t (σ.1 12)) := by
  have h0 := ff_le t (σ.1 12) n
  have hmin : f_J9_min_7cf53 (nI t) (nI n) σ = some (nI (min t n)) := by
    unfold f_J9_min_7cf53
    simp (disch := omega) only [nI_ltI]
    by_cases h : n < t
    · rw [if_pos h, Nat.min_eq_right (by omega)]
    · rw [if_neg h, Nat.min_eq_left (by omega)]
  unfold f_X4_firstFault
  rw [ht, hn, hmin, Option.bind_some, jn_e]
  have hfm : ffN t (σ.1 12) n ≤ min t n := by
    by_cases z : ffN t (σ.1 12) n = 0
    · omega
    · have := (ff_ok t (σ.1 12) n (ffN t (σ.1 12) n - 1) (by omega)).1
      omega
  refine lp_count (fun k => nI k) (ffN t (σ.1 12) n) rfl (by omega) (fun k hk rec => ?_) (fun rec => ?_)
  · obtain ⟨q1, q2⟩ := ff_ok t (σ.1 12) n k hk
    unfold L_X4_firstFault_14
    simp (disch := omega) only [nI_ltI, show k < min t n by omega, if_true, inb_t, gd_t, nI_clamp, c_within, Option.bind_some, nI_1]
    unfold okb at q2
    by_cases e : σ.1 12 k = 63
    · simp [e]
    · simp only [e, decide_false, Bool.false_or] at q2
      simp [e, q2]
  · unfold L_X4_firstFault_14 fltI
    have e9 : (nI t = nI n) ↔ t = n := nI_eq (by omega) (by omega)
    by_cases e1 : ffN t (σ.1 12) n < n
    · have hb := ff_bad t (σ.1 12) n e1
      generalize ffN t (σ.1 12) n = m at *
      by_cases e2 : m < t
      · have e3 : okb (σ.1 12 m) = false := by
          cases z : okb (σ.1 12 m)
          · rfl
          · exact absurd ⟨e2, z⟩ hb
        unfold okb at e3
        rw [Bool.or_eq_false_iff] at e3
        have e4 : ¬ σ.1 12 m = 63 := by simpa using e3.1
        simp (disch := omega) only [nI_ltI, show m < min t n by omega, if_true, inb_t, gd_t, nI_clamp, e4, if_false, c_within, Option.bind_some, e3.2, e1]
        simp
      · have e5 : m = t := by omega
        simp (disch := omega) only [nI_ltI, show ¬ m < min t n by omega, if_false, e9, show ¬ t = n by omega, e1, if_true]
        rw [show min t n = m by omega]
    · simp (disch := omega) only [nI_ltI, show ¬ ffN t (σ.1 12) n < min t n by omega, if_false, e9, e1]
      by_cases e2 : n < t
      · rw [if_neg (by omega), if_pos e2, Nat.min_eq_right (by omega)]
      · have : t = n := by omega
        rw [if_pos this, if_neg e2]
theorem okb_ne {b : Int32} (h : okb b = true) (h2 : ¬ b = 63) : ¬ b - 48 = 0 ∧ ∃ v, 1 ≤ v ∧ v ≤ 5 ∧ b - 48 = nI v := by
  unfold okb at h
  simp only [h2, decide_false, Bool.false_or] at h
  unfold wiB at h
  simp only [Bool.and_eq_true, Bool.not_eq_true', decide_eq_false_iff_not] at h
  have h3 : ¬ b < 0 := fun z => h.1 (by
    rw [Int32.lt_iff_toInt_lt] at z ⊢
    have e1 : (0 : Int32).toInt = 0 := by decide
    have e2 : (49 : Int32).toInt = 49 := by decide
    omega)
  obtain ⟨j, hj, rfl⟩ := nI_of h3
  have q1 : ¬ j < 49 := fun z => h.1 (nI_lt (b := 49) z (by omega))
  have q2 : ¬ 53 < j := fun z => h.2 (nI_lt (a := 53) z (by omega))
  have e : nI j - 48 = nI (j - 48) := pk_sub (b := 48) (by omega)
  rw [e]
  exact ⟨nI_ne0 (by omega) (by omega), j - 48, by omega, by omega, rfl⟩
theorem kcF_v {n t : Nat} {tx : Nat → Int32} (hn : n ≤ 12) (q : Nat) : ∃ v, v ≤ 5 ∧ kcF n t tx q = nI v := by
  unfold kcF
  by_cases c : fltI n t tx = -1 ∧ q < n
  · rw [if_pos c]
    by_cases e : tx q = 63
    · rw [if_pos e]; exact ⟨0, by omega, rfl⟩
    · rw [if_neg e]
      have h1 := (flt_m1 hn).mp c.1
      have h2 := (ff_ok t tx n q (by omega)).2
      obtain ⟨_, v, v1, v5, ev⟩ := okb_ne h2 e
      exact ⟨v, v5, ev⟩
  · rw [if_neg c]; exact ⟨0, by omega, rfl⟩
/-- struck, as the class asks it -/
def skB (n t : Nat) (tx : Nat → Int32) (q : Nat) : Bool := !(decide (fltI n t tx = -1)) || (!(decide (q < n)) || decide (tx q = 63))
theorem sk_kc {n t : Nat} {tx : Nat → Int32} (hn : n ≤ 12) (q : Nat) : (skB n t tx q = true → kcF n t tx q = 0) ∧ (skB n t tx q = false → kcF n t tx q = tx q - 48 ∧ ¬ kcF n t tx q = 0 ∧ q < n) := by
  unfold skB kcF
  by_cases c1 : fltI n t tx = -1
  · by_cases c2 : q < n
    · by_cases c3 : tx q = 63
      · simp [c1, c2, c3]
      · have h1 := (flt_m1 hn).mp c1
        have h2 := (ff_ok t tx n q (by omega)).2
        have h3 := (okb_ne h2 c3).1
        simp [c1, c2, c3, h3]
    · simp [c2]
  · simp [c1]
def opK (n t : Nat) (tx : Nat → Int32) (k : Nat) : Nat := sm k (fun q => (!(skB n t tx q)).toNat)
theorem opK_op {n t : Nat} {tx : Nat → Int32} (hn : n ≤ 12) : opK n t tx 12 = opN n (kcF n t tx) (-1) := by
  unfold opK opN
  rw [sm_cut hn (fun k h1 _ => ?_)]
  · refine sm_congr (fun q hq => ?_)
    have h := sk_kc (t := t) (tx := tx) hn q
    have hm := nIm1 q (by omega)
    cases z : skB n t tx q
    · simp [hm, (h.2 z).2.1]
    · simp [h.1 z]
  · have : skB n t tx k = true := by
      cases z : skB n t tx k
      · exact absurd ((sk_kc hn k).2 z).2.2 (by omega)
      · rfl
    rw [this]
    rfl
theorem c_settle {σ : St} {n t : Nat} (hn : σ.1 1 2 = nI n) (hn2 : n ≤ 12) (ht : σ.1 1 1 = nI t) (ht2 : t ≤ 12) : ∃ σ', f_X4_settle σ = some σ' ∧ (∀ k, k ≠ 1 → k ≠ 11 → σ'.1 k = σ.1 k) ∧ σ'.2 = σ.2 ∧ σ'.1 1 1 = nI t ∧ σ'.1 1 2 = nI n ∧ σ'.1 1 3 = fltI n t (σ.1 12) ∧ σ'.1 1 4 = nI (opN n (kcF n t (σ.1 12)) (-1)) ∧ ∀ q, q < 12 → σ'.1 11 q = kcF n t (σ.1 12) q := by
  unfold f_X4_settle
  rw [c_firstFault hn hn2 ht ht2, Option.bind_some, bd_e, bd_e, ← opK_op hn2]
  generalize hf : fltI n t (σ.1 12) = F
  have key : ∃ x : Int32 × St, (x.1 = nI 12 ∧ (∀ k, k ≠ 1 → k ≠ 11 → x.2.1 k = σ.1 k) ∧ x.2.2 = σ.2 ∧ x.2.1 1 1 = nI t ∧ x.2.1 1 2 = nI n ∧ x.2.1 1 3 = F ∧ x.2.1 1 4 = nI (opK n t (σ.1 12) 12) ∧ ∀ q, q < 12 → x.2.1 11 q = kcF n t (σ.1 12) q) ∧ lp L_X4_settle_15 NN (0, wI (wI σ 1 3 F) 1 4 0) = some x.2 := by
    refine lp_inv (fun k (x : Int32 × St) => x.1 = nI k ∧ (∀ k, k ≠ 1 → k ≠ 11 → x.2.1 k = σ.1 k) ∧ x.2.2 = σ.2 ∧ x.2.1 1 1 = nI t ∧ x.2.1 1 2 = nI n ∧ x.2.1 1 3 = F ∧ x.2.1 1 4 = nI (opK n t (σ.1 12) k) ∧ ∀ q, q < k → x.2.1 11 q = kcF n t (σ.1 12) q) 12 (fun x => some x.2) ⟨rfl, fun k h1 h2 => by simp [wI, wA, h1], rfl, by simp [wI, wA, upd, ht], by simp [wI, wA, upd, hn], by simp [wI, wA, upd], by simp [wI, wA, upd]; rfl, fun q hq => by omega⟩ (by omega) (fun k x hk hI => ?_) (fun x hI rec => ?_)
    · obtain ⟨x1, x2⟩ := x
      obtain ⟨hx1, hF, h2, g1, g2, g3, g4, hA⟩ := hI
      simp only at hx1 hF h2 g1 g2 g3 g4 hA
      subst hx1
      have hsk := sk_kc (t := t) (tx := σ.1 12) hn2 k
      have e12 : x2.1 12 = σ.1 12 := hF 12 (by omega) (by omega)
      have lt12 : nI k < 12 := nI_lt (b := 12) hk (by omega)
      have lif : ∀ K : Bool → Option St, jn K (fun K6 => (if (x2.1 1 3) = (-1) then (if nI k < (x2.1 1 2) then gd (inb (nI k) 12) ((if (x2.1 12 (nI k).toNatClampNeg) = 63 then K6 true else K6 false)) else K6 true) else K6 true)) = K (skB n t (σ.1 12) k) := by
        intro K
        rw [jn_e]
        simp (disch := omega) only [g3, g2, nI_ltI, inb_t, gd_t, nI_clamp, e12]
        unfold skB
        rw [hf]
        by_cases c1 : F = -1
        · by_cases c2 : k < n
          · by_cases c3 : σ.1 12 k = 63 <;> simp [c1, c2, c3]
          · simp [c1, c2]
        · simp [c1]
      cases z : skB n t (σ.1 12) k
      · obtain ⟨q1, q2, q3⟩ := hsk.2 z
        refine ⟨(nI (k + 1), wI (wI x2 11 k (kcF n t (σ.1 12) k)) 1 4 (nI (opK n t (σ.1 12) k) + 1)), ⟨rfl, fun j h1 h3 => by simp [wI, wA, h1, h3]; exact hF j h1 h3, h2, by simp [wI, wA, upd, g1], by simp [wI, wA, upd, g2], by simp [wI, wA, upd, g3], ?_, fun q hq => ?_⟩, fun rec => ?_⟩
        · show (wI _ 1 4 _).1 1 4 = _
          simp only [wI, wA, upd, if_true]
          rw [nI_1]
          unfold opK
          rw [sm_s, z]
          rfl
        · show (wI (wI x2 11 k _) 1 4 _).1 11 q = _
          simp only [wI, wA, upd, show ¬ (11 : Nat) = 1 by omega, if_false, if_true]
          by_cases e : q = k
          · rw [if_pos e, e]
          · rw [if_neg e]; exact hA q (by omega)
        · unfold L_X4_settle_15
          simp only [lt12, if_true]
          rw [lif, z]
          simp (disch := omega) only [jn_e, Bool.false_eq_true, if_false, inb_t, gd_t, nI_clamp, e12, bd_e, nI_1, q1]
          rw [show (wI x2 11 k (σ.1 12 k - 48)).1 1 4 = nI (opK n t (σ.1 12) k) by simp [wI, wA, g4]]
          try rw [nI_1]
      · have q1 := hsk.1 z
        refine ⟨(nI (k + 1), wI x2 11 k 0), ⟨rfl, fun j h1 h3 => by simp [wI, wA, h3]; exact hF j h1 h3, h2, by simp [wI, wA, g1], by simp [wI, wA, g2], by simp [wI, wA, g3], ?_, fun q hq => ?_⟩, fun rec => ?_⟩
        · show (wI x2 11 k 0).1 1 4 = _
          simp only [wI, wA, show ¬ (1 : Nat) = 11 by omega, if_false]
          rw [g4]
          unfold opK
          rw [sm_s, z]
          rfl
        · show (wI x2 11 k 0).1 11 q = _
          simp only [wI, wA, upd, if_true]
          by_cases e : q = k
          · rw [if_pos e, e, q1]
          · rw [if_neg e]; exact hA q (by omega)
        · unfold L_X4_settle_15
          simp only [lt12, if_true]
          rw [lif, z]
          simp (disch := omega) only [jn_e, if_true, inb_t, gd_t, nI_clamp, bd_e, nI_1]
    · obtain ⟨x1, x2⟩ := x
      obtain ⟨hx1, _⟩ := hI
      simp only at hx1
      subst hx1
      unfold L_X4_settle_15
      rw [if_neg (show ¬ nI 12 < 12 by decide)]
  obtain ⟨x, ⟨_, a1, a2, a3, a4, a5, a6, a7⟩, e⟩ := key
  exact ⟨x.2, e, a1, a2, a3, a4, a5, a6, a7⟩
