/-! deal: the class counts the orders that bring as much -/
def facN : Nat → Nat
  | 0 => 1
  | n + 1 => facN n * (n + 1)
def unN (P u : Nat) : Nat := sm P (fun p => (!(bitN u p)).toNat)
theorem un_s {P u p : Nat} (hp : p < P) (hb : bitN u p = false) : unN P (u ||| 2 ^ p) + 1 = unN P u := by
  unfold unN
  have e := sm_pick (t := p) (b := fun j => !(bitN u j)) (x := true) P
  rw [decide_eq_true hp, hb] at e
  simp only [Bool.not_false, Bool.and_true, Bool.toNat_true] at e
  rw [← e, ← sm_add2]
  refine sm_congr (fun k hk => ?_)
  rw [bit_or]
  cases bitN u k <;> by_cases c : p = k <;> simp [c]
theorem smL_flat {α β : Type} (f : β → Nat) (h : Nat → List β) : ∀ P, smL f ((List.range P).flatMap h) = sm P (fun p => smL f (h p))
  | 0 => rfl
  | P + 1 => by
    rw [List.range_succ, List.flatMap_append, smL_app, smL_flat (α := α) f h P, sm_s]
    simp only [List.flatMap_cons, List.flatMap_nil, List.append_nil]
section M17
variable {n P : Nat} {kc : Nat → Int32} {sy : Nat → Nat → Int32} {rw_ pl : Nat → Nat} {lim : Nat} {S : Nat → Nat → Nat} {g : Nat}
def nrS (rw_ pl : Nat → Nat) (S : Nat → Nat → Nat) (o : Nat → Nat) (d : Nat) : Nat := sm d (fun a => if nrB rw_ pl a d = true then S (o d) (o a) else 0)
theorem ordS_s {d : Nat} {o : Nat → Nat} : ordS (d + 1) rw_ pl S o = ordS d rw_ pl S o + nrS rw_ pl S o d := rfl
theorem ordS_c {o o' : Nat → Nat} : ∀ d, (∀ p, p < d → o p = o' p) → ordS d rw_ pl S o = ordS d rw_ pl S o' := fun d h => by
  unfold ordS
  exact sm_congr (fun b hb => sm_congr (fun a ha => by rw [h b hb, h a (by omega)]))
theorem fnL_app {pre : List Nat} {p q : Nat} (h : q < pre.length) : fnL (pre ++ [p]) q = fnL pre q := by
  unfold fnL
  simp [List.getD, List.getElem?_append_left h]
theorem fnL_last {pre : List Nat} {p : Nat} : fnL (pre ++ [p]) pre.length = p := by
  unfold fnL
  simp [List.getD]
theorem sm_fac {F : Nat} {u : Nat} {h : Nat → Nat} : ∀ P, (∀ p, p < P → bitN u p = false → h p = F) → sm P (fun p => if bitN u p = true then 0 else h p) = F * unN P u
  | 0, _ => rfl
  | P + 1, hh => by
    rw [sm_s, sm_fac P (fun p hp => hh p (by omega))]
    unfold unN
    rw [sm_s, Nat.mul_add]
    cases z : bitN u P
    · rw [hh P (by omega) z]; simp
    · simp
theorem smL_perm {f : List Nat → Nat} {k u : Nat} {pre : List Nat} : smL f (permL P (k + 1) u pre) = sm P (fun p => if bitN u p = true then 0 else smL f (permL P k (u ||| 2 ^ p) (pre ++ [p]))) := by
  show smL f ((List.range P).flatMap (fun p => if bitN u p then [] else permL P k (u ||| 2 ^ p) (pre ++ [p]))) = _
  rw [smL_flat (α := Nat)]
  refine sm_congr (fun p hp => ?_)
  cases bitN u p <;> rfl
theorem prune : ∀ (k u : Nat) (pre : List Nat), pre.length + k = P → unN P u = k → g ≤ ordS pre.length rw_ pl S (fnL pre) → smL (hitL P rw_ pl S g) (permL P k u pre) = facN k
  | 0, u, pre, hl, hu, hg => by
    show hitL P rw_ pl S g pre + 0 = 1
    unfold hitL
    rw [Nat.add_zero] at hl
    rw [hl] at hg
    rw [if_neg (by omega)]
  | k + 1, u, pre, hl, hu, hg => by
    rw [smL_perm, sm_fac (F := facN k), hu]
    · rfl
    · intro p hp hb
      have h1 := un_s hp hb
      refine prune k (u ||| 2 ^ p) (pre ++ [p]) (by simp; omega) (by omega) ?_
      rw [List.length_append, List.length_singleton, ordS_s, ordS_c (o' := fnL pre) pre.length (fun q hq => fnL_app hq)]
      omega
theorem permL_len : ∀ (k u : Nat) (pre : List Nat), unN P u = k → (permL P k u pre).length = facN k
  | k, u, pre, hu => by
    have e : ∀ L : List (List Nat), L.length = smL (fun _ => 1) L := fun L => by
      induction L with
      | nil => rfl
      | cons a r ih => show r.length + 1 = 1 + smL _ r; rw [ih]; omega
    rw [e]
    cases k with
    | zero => rfl
    | succ k =>
      rw [smL_perm, sm_fac (F := facN k), hu]
      · rfl
      · intro p hp hb
        have h1 := un_s hp hb
        rw [← e]
        exact permL_len k _ _ (by omega)
theorem shS_comm (a b : Nat) : shS n kc sy a b = shS n kc sy b a := by
  unfold shS
  by_cases h : a = b
  · rw [if_pos h, if_pos h.symm]
  · rw [if_neg h, if_neg (fun e => h e.symm), shN_comm]
theorem c_withNear {σ : St} (h : CW σ n P kc sy rw_ pl lim) (dd : DB n P kc sy rw_ pl lim) (hP : P ≤ 7) {d : Nat} (hd : d < P) {o : Nat → Nat} (ho : ∀ p, p ≤ d → σ.1 28 p = nI (o p) ∧ o p < P) (hs : ∀ i, i < P → ∀ j, j < P → σ.1 27 (7 * i + j) = nI (shS n kc sy i j)) : f_X0_withNear (nI d) σ = some (nI (nrS rw_ pl (shS n kc sy) o d)) := by
  unfold f_X0_withNear nrS
  refine lp_count (fun k => (nI k, nI (sm k (fun a => if nrB rw_ pl a d = true then shS n kc sy (o d) (o a) else 0)))) d rfl (by omega) (fun k hk rec => ?_) (fun rec => ?_)
  · unfold L_X0_withNear_4
    have lt2 : nI k < nI d := by rw [nI_ltI (by omega) (by omega)]; exact hk
    have i1 : inb (nI k) 7 = true := inb_t (by omega) (by omega)
    have i2 : inb (nI d) 7 = true := inb_t (by omega) (by omega)
    have j1 : (nI k).toNatClampNeg = k := nI_clamp (by omega)
    have j2 : (nI d).toNatClampNeg = d := nI_clamp (by omega)
    obtain ⟨o1, o2⟩ := ho k (by omega)
    obtain ⟨o3, o4⟩ := ho d (Nat.le_refl _)
    have i3 : inb (nI (7 * o k + o d)) 49 = true := inb_t (by omega) (by omega)
    have j3 : (nI (7 * o k + o d)).toNatClampNeg = 7 * o k + o d := nI_clamp (by omega)
    simp only [lt2, if_true, cw_near h dd (show k < P by omega) hd, Option.bind_some, i1, i2, j1, j2, gd_q, o1, o3, ix7, i3, j3, bv_q, hs _ o2 _ o4, nI_add, nI_1, sm_s, shS_comm (o k) (o d)]
    cases nrB rw_ pl k d
    · simp
    · simp
  · unfold L_X0_withNear_4
    have lt2 : ¬ nI d < nI d := by rw [nI_ltI (by omega) (by omega)]; omega
    simp only [lt2, if_false]
theorem c_orders {k : Nat} (hk : k ≤ 7) (σ : St) : f_X0_orders (nI k) σ = some (lN (facN k)) := by
  unfold f_X0_orders
  have hf : ∀ k, k ≤ 7 → facN (k - 1 + 1) = facN k := by decide
  rw [← hf k hk]
  refine lp_count (fun j => (nI (j + 2), lN (facN (j + 1)))) (k - 1) rfl (by omega) (fun j hj rec => ?_) (fun rec => ?_)
  · unfold L_X0_orders_4
    simp only
    rw [if_neg (by rw [nI_ltI (by omega) (by omega)]; omega), bl_e, nI_toL (by omega), lN_mul, nI_1]
    rfl
  · unfold L_X0_orders_4
    simp only
    rw [if_pos (by rw [nI_ltI (by omega) (by omega)]; omega)]
def F28 (τ x : St) : Prop := (∀ k, k ≠ 28 → x.1 k = τ.1 k) ∧ x.2 = τ.2
theorem CW_F28 {τ x : St} (h : CW τ n P kc sy rw_ pl lim) (f : F28 τ x) : CW x n P kc sy rw_ pl lim := CW_Fr h (fun k hk => f.1 k (by omega))
theorem c_ordersFrom {σ : St} (h : CW σ n P kc sy rw_ pl lim) (dd : DB n P kc sy rw_ pl lim) (hP : P ≤ 7) (hs : ∀ i, i < P → ∀ j, j < P → σ.1 27 (7 * i + j) = nI (shS n kc sy i j)) (hg : σ.1 8 4 = nI g) (hg2 : g ≤ 1200) : ∀ (k N u : Nat) (pre : List Nat) (s : St), F28 σ s → pre.length + k = P → unN P u = k → u < 1024 → (∀ p, p < pre.length → s.1 28 p = nI (fnL pre p) ∧ fnL pre p < P) → k < N → ∃ s', F28 σ s' ∧ (∀ p, p < pre.length → s'.1 28 p = s.1 28 p) ∧ f_X0_ordersFrom N (nI pre.length) (nI u) (nI (ordS pre.length rw_ pl (shS n kc sy) (fnL pre))) s = some (lN (smL (hitL P rw_ pl (shS n kc sy) g) (permL P k u pre)), s')
  | k, N, u, pre, s, hF, hl, hu, hu2, ho, hN => by
    obtain ⟨M, rfl⟩ : ∃ M, N = M + 1 := ⟨N - 1, by omega⟩
    have hw := CW_F28 h hF
    have e84 : s.1 8 4 = nI g := by rw [hF.1 8 (by omega)]; exact hg
    have e20 : s.1 2 0 = nI P := hw.1.2.1
    have hle : ordS pre.length rw_ pl (shS n kc sy) (fnL pre) ≤ 1200 := ordS_le dd.1 (by omega)
    by_cases c : ordS pre.length rw_ pl (shS n kc sy) (fnL pre) < g
    · cases k with
      | zero =>
        refine ⟨s, hF, fun _ _ => rfl, ?_⟩
        show g_X0_ordersFrom (f_X0_ordersFrom M) _ _ _ s = _
        unfold g_X0_ordersFrom
        rw [e84, e20, if_pos (by rw [nI_ltI (by omega) (by omega)]; exact c), if_neg (by rw [nI_ltI (by omega) (by omega)]; omega)]
        have : smL (hitL P rw_ pl (shS n kc sy) g) (permL P 0 u pre) = 0 := by
          show hitL P rw_ pl (shS n kc sy) g pre + 0 = 0
          unfold hitL
          rw [Nat.add_zero] at hl
          rw [hl] at c
          rw [if_pos c]
        rw [this]
        rfl
      | succ k =>
        have ih : ∀ (u' : Nat) (pre' : List Nat) (s1 : St), F28 σ s1 → pre'.length + k = P → unN P u' = k → u' < 1024 → (∀ p, p < pre'.length → s1.1 28 p = nI (fnL pre' p) ∧ fnL pre' p < P) → ∃ s', F28 σ s' ∧ (∀ p, p < pre'.length → s'.1 28 p = s1.1 28 p) ∧ f_X0_ordersFrom M (nI pre'.length) (nI u') (nI (ordS pre'.length rw_ pl (shS n kc sy) (fnL pre'))) s1 = some (lN (smL (hitL P rw_ pl (shS n kc sy) g) (permL P k u' pre')), s') :=
          fun u' pre' s1 a1 a2 a3 a4 a5 => c_ordersFrom h dd hP hs hg hg2 k M u' pre' s1 a1 a2 a3 a4 a5 (by omega)
        generalize hfo : f_X0_ordersFrom M = fo at ih
        have key : ∃ x : Int32 × Int64 × St, (x.1 = nI P ∧ x.2.1 = lN (sm P (fun p => if bitN u p = true then 0 else smL (hitL P rw_ pl (shS n kc sy) g) (permL P k (u ||| 2 ^ p) (pre ++ [p])))) ∧ F28 σ x.2.2 ∧ ∀ p, p < pre.length → x.2.2.1 28 p = s.1 28 p) ∧ lp (L_X0_ordersFrom_46 (nI pre.length) (nI u) (nI (ordS pre.length rw_ pl (shS n kc sy) (fnL pre))) fo) NN ((0 : Int32), (0 : Int64), s) = some (x.2.1, x.2.2) := by
          refine lp_inv (fun j (x : Int32 × Int64 × St) => x.1 = nI j ∧ x.2.1 = lN (sm j (fun p => if bitN u p = true then 0 else smL (hitL P rw_ pl (shS n kc sy) g) (permL P k (u ||| 2 ^ p) (pre ++ [p])))) ∧ F28 σ x.2.2 ∧ ∀ p, p < pre.length → x.2.2.1 28 p = s.1 28 p) P (fun x => some (x.2.1, x.2.2)) ⟨rfl, rfl, hF, fun _ _ => rfl⟩ (by omega) (fun j x hj hI => ?_) (fun x hI rec => ?_)
          · obtain ⟨x1, x2, s1⟩ := x
            obtain ⟨hx1, hx2, hF1, hA⟩ := hI
            simp only at hx1 hx2 hF1 hA
            subst hx1 hx2
            have hw1 := CW_F28 h hF1
            have e20' : s1.1 2 0 = nI P := hw1.1.2.1
            have lt : nI j < nI P := by rw [nI_ltI (by omega) (by omega)]; exact hj
            have hbt := bt_0 (a := u) (p := j) (by omega) (by omega)
            cases z : bitN u j
            · have hF2 : F28 σ (wI s1 28 pre.length (nI j)) := ⟨fun k hk => by rw [wI_f hk]; exact hF1.1 k hk, hF1.2⟩
              have ho2 : ∀ p, p < (pre ++ [j]).length → (wI s1 28 pre.length (nI j)).1 28 p = nI (fnL (pre ++ [j]) p) ∧ fnL (pre ++ [j]) p < P := fun p hp => by
                rw [List.length_append, List.length_singleton] at hp
                rw [wI_e]
                by_cases e : p = pre.length
                · rw [if_pos ⟨rfl, e⟩, e, fnL_last]; exact ⟨rfl, hj⟩
                · rw [if_neg (by omega), fnL_app (by omega), hA p (by omega)]; exact ho p (by omega)
              obtain ⟨s', f', k', e'⟩ := ih (u ||| 2 ^ j) (pre ++ [j]) (wI s1 28 pre.length (nI j)) hF2 (by rw [List.length_append, List.length_singleton]; omega) (by have := un_s hj z; omega) (or_lt hu2 (by omega)) ho2
              have hwn := c_withNear (CW_F28 h hF2) dd hP (d := pre.length) (by omega) (o := fnL (pre ++ [j])) (fun p hp => ho2 p (by rw [List.length_append, List.length_singleton]; omega)) (fun a ha b hb => by rw [hF2.1 27 (by omega)]; exact hs a ha b hb)
              have hsum : ordS pre.length rw_ pl (shS n kc sy) (fnL pre) + nrS rw_ pl (shS n kc sy) (fnL (pre ++ [j])) pre.length = ordS (pre.length + 1) rw_ pl (shS n kc sy) (fnL (pre ++ [j])) := by
                rw [ordS_s, ordS_c (o' := fnL pre) pre.length (fun q hq => fnL_app hq)]
              rw [List.length_append, List.length_singleton] at e' k'
              refine ⟨(nI (j + 1), lN (sm (j + 1) (fun p => if bitN u p = true then 0 else smL (hitL P rw_ pl (shS n kc sy) g) (permL P k (u ||| 2 ^ p) (pre ++ [p])))), s'), ⟨rfl, rfl, f', fun p hp => ?_⟩, fun rec => ?_⟩
              · show s'.1 28 p = _
                rw [k' p (by omega), wI_e, if_neg (by omega)]; exact hA p hp
              · unfold L_X0_ordersFrom_46
                have i1 : inb (nI pre.length) 7 = true := inb_t (by omega) (by omega)
                have j1 : (nI pre.length).toNatClampNeg = pre.length := nI_clamp (by omega)
                have cb : (nI u >>> (nI j &&& 31)) &&& 1 = 0 := hbt.mpr z
                simp only [e20', lt, if_true, cb, i1, gd_q, j1, bd_e, hwn, Option.bind_some, shl1 j (by omega), or_nI, nI_add, nI_1, hsum, e', bl_e, lN_add, sm_s, z, Bool.false_eq_true, if_false]
            · refine ⟨(nI (j + 1), lN (sm (j + 1) (fun p => if bitN u p = true then 0 else smL (hitL P rw_ pl (shS n kc sy) g) (permL P k (u ||| 2 ^ p) (pre ++ [p])))), s1), ⟨rfl, rfl, hF1, hA⟩, fun rec => ?_⟩
              unfold L_X0_ordersFrom_46
              have cb : ¬ (nI u >>> (nI j &&& 31)) &&& 1 = 0 := fun e => by rw [hbt.mp e] at z; exact absurd z (by decide)
              simp only [e20', lt, if_true, cb, if_false, nI_1, sm_s, z, Nat.add_zero]
          · obtain ⟨x1, x2, s1⟩ := x
            obtain ⟨hx1, hx2, hF1, hA⟩ := hI
            simp only at hx1 hx2 hF1 hA
            subst hx1 hx2
            have e20' : s1.1 2 0 = nI P := (CW_F28 h hF1).1.2.1
            have lt : ¬ nI P < nI P := by rw [nI_ltI (by omega) (by omega)]; omega
            unfold L_X0_ordersFrom_46
            simp only [e20', lt, if_false]
        obtain ⟨x, ⟨_, b1, b2, b3⟩, e⟩ := key
        refine ⟨x.2.2, b2, b3, ?_⟩
        show g_X0_ordersFrom (f_X0_ordersFrom M) _ _ _ s = _
        rw [hfo]
        unfold g_X0_ordersFrom
        rw [e84, e20, if_pos (by rw [nI_ltI (by omega) (by omega)]; exact c), if_pos (by rw [nI_ltI (by omega) (by omega)]; omega), if_pos (show nI pre.length < 7 from nI_lt (b := 7) (by omega) (by omega)), e, b1, smL_perm]
    · refine ⟨s, hF, fun _ _ => rfl, ?_⟩
      show g_X0_ordersFrom (f_X0_ordersFrom M) _ _ _ s = _
      unfold g_X0_ordersFrom
      rw [e84, e20, if_neg (by rw [nI_ltI (by omega) (by omega)]; exact c), pk_sub (by omega), show P - pre.length = k by omega, c_orders (by omega), Option.bind_some, prune k u pre hl hu (by omega)]
termination_by k => k
end M17
