/-! rest, lead, known -/
theorem wi_of2 {a : Int32} {m : Nat} (hm : m < 2 ^ 31) (h : wiB a 1 (nI m) = true) : ∃ k, k ≤ m ∧ a = nI k := by
  refine wi_of hm ?_
  unfold wiB at h ⊢
  simp only [Bool.and_eq_true, Bool.not_eq_true', decide_eq_false_iff_not] at h ⊢
  refine ⟨fun l => h.1 ?_, h.2⟩
  rw [Int32.lt_iff_toInt_lt] at l ⊢
  have e0 : (0 : Int32).toInt = 0 := by decide
  have e1 : (1 : Int32).toInt = 1 := by decide
  omega
theorem cn_s {P a : Nat} : cnN P (fun p => bitN a p == true) = sm P (fun p => (bitN a p).toNat) := sm_congr (fun p _ => by show (bitN a p == true).toNat = _; cases bitN a p <;> rfl)
theorem cn_o {P a : Nat} : cnN P (fun p => bitN a p == false) = sm P (fun p => (!(bitN a p)).toNat) := sm_congr (fun p _ => by show (bitN a p == false).toNat = _; cases bitN a p <;> rfl)
theorem bc_0 : ∀ x, x < 1024 → (sm 10 (fun p => (bitN x p).toNat) = 0 ↔ x = 0) := by decide +kernel
theorem md_lt {a P : Nat} (ha : a < 1024) : a % 2 ^ P < 1024 := Nat.lt_of_le_of_lt (Nat.mod_le _ _) ha
theorem mo_lt {a P : Nat} (hP : P ≤ 10) : 2 ^ P - 1 - a % 2 ^ P < 1024 := by
  have := p2le P (by omega)
  have := p2pos P
  omega
theorem bcs {P a : Nat} (hP : P ≤ 10) (ha : a < 1024) : bcI (nI (a % 2 ^ P)) = nI (cnN P (fun p => bitN a p == true)) := by
  rw [bc_ok _ (md_lt ha), pop_s (by omega) ha, cn_s]
theorem bco {P a : Nat} (hP : P ≤ 10) (ha : a < 1024) : bcI (nI (2 ^ P - 1 - a % 2 ^ P)) = nI (cnN P (fun p => bitN a p == false)) := by
  rw [bc_ok _ (mo_lt hP), pop_o (by omega) ha, cn_o]
theorem zs {P a : Nat} (hP : P ≤ 10) (ha : a < 1024) : nI (a % 2 ^ P) = 0 ↔ cnN P (fun p => bitN a p == true) = 0 := by
  have h1 := md_lt (P := P) ha
  rw [i0, nI_eq (by omega) (by omega), cn_s, ← pop_s (by omega) ha, bc_0 _ h1]
theorem zo {P a : Nat} (hP : P ≤ 10) (ha : a < 1024) : nI (2 ^ P - 1 - a % 2 ^ P) = 0 ↔ cnN P (fun p => bitN a p == false) = 0 := by
  have h1 := mo_lt (a := a) hP
  rw [i0, nI_eq (by omega) (by omega), cn_o, ← pop_o (by omega) ha, bc_0 _ h1]
theorem zn {c : Nat} (h : c < 2 ^ 31) : nI c = 0 ↔ c = 0 := by
  rw [i0, nI_eq h (by omega)]
theorem o_rest (a b c : Int32) : Op (f_X11_rest a b c) (f_X12_rest a b c) := by
  intro σ τ ⟨n, t, P, T, pass, lim, rw_, pl, tp, tq, ta, tt, as, h⟩
  obtain ⟨hC, hD⟩ := rd_C h
  obtain ⟨τ1, e1, f1, _, hM, hR⟩ := rd_M h
  have hn := hD.1
  have hP := hD.2.1
  have no : Rel σ τ := rel_of h Fr_rf FrM_rf
  unfold f_X11_rest f_X12_rest f_X11_isPart
  simp only [jn_e, q_c h, q_m h, c_within, m_in, Option.bind_some]
  cases z : wiB a 0 (nI n - 1)
  · exact ⟨_, σ, τ, rfl, rfl, no⟩
  · obtain ⟨q, hq, hq2, e⟩ := q_of h z
    subst e
    cases z2 : wiB b 1 5
    · exact ⟨_, σ, τ, rfl, rfl, no⟩
    · cases z3 : wiB c 0 1
      · exact ⟨_, σ, τ, rfl, rfl, no⟩
      · simp only [if_true, e1, Option.bind_some, c_choosers hC.1 hP hq2, m_choosers hM.1 hP hq2]
        have hle : chN P (sayF tp tq ta (cntN tt as T)) q b ≤ P := chN_le q b
        by_cases c0 : chN P (sayF tp tq ta (cntN tt as T)) q b = 0
        · have g : nI (chN P (sayF tp tq ta (cntN tt as T)) q b) = 0 := (zn (by omega)).mpr c0
          rw [if_pos g, if_pos g]
          exact ⟨_, σ, τ1, rfl, rfl, rel_of h Fr_rf f1⟩
        · have g : ¬ nI (chN P (sayF tp tq ta (cntN tt as T)) q b) = 0 := fun w => c0 ((zn (by omega)).mp w)
          have hre : reN n P (kcF n t (σ.1 12)) (sayF tp tq ta (cntN tt as T)) q b ≤ P * n := reN_le q b
          have hpn : P * n ≤ 10 * 12 := Nat.mul_le_mul hP hn
          have hA : reN n P (kcF n t (σ.1 12)) (sayF tp tq ta (cntN tt as T)) q b < 2 ^ 63 := by omega
          rw [if_neg g, if_neg g, c_rests hC.1 hn hP hq2, m_rests hM.1 hn hP hq2, Option.bind_some, Option.bind_some, nI_toL (by omega), nI_toL (by omega), c_frac (lN_abs hA) hA (by omega) (by omega) c (fun v s => some (v, s)), m_lowest (lN_abs hA) hA (by omega) (by omega) c, Option.bind_some]
          exact ⟨_, _, τ1, rfl, rfl, rel_of h (fun _ _ => rfl) f1⟩
theorem o_lead (a b c : Int32) : Op (f_X11_lead a b c) (f_X12_lead a b c) := by
  intro σ τ ⟨n, t, P, T, pass, lim, rw_, pl, tp, tq, ta, tt, as, h⟩
  obtain ⟨hC, hD⟩ := rd_C h
  obtain ⟨τ1, e1, f1, _, hM, hR⟩ := rd_M h
  have hn := hD.1
  have hP := hD.2.1
  have no : Rel σ τ := rel_of h Fr_rf FrM_rf
  unfold f_X11_lead f_X12_lead f_X11_isPart
  simp only [jn_e, q_c h, q_m h, c_within, m_in, Option.bind_some]
  cases z : wiB a 0 (nI n - 1)
  · exact ⟨_, σ, τ, rfl, rfl, no⟩
  · obtain ⟨q, hq, hq2, e⟩ := q_of h z
    subst e
    cases z2 : wiB b 0 1023
    · exact ⟨_, σ, τ, rfl, rfl, no⟩
    · obtain ⟨k, hk, e⟩ := wi_of (m := 1023) (by omega) z2
      subst e
      cases z3 : wiB c 0 1
      · exact ⟨_, σ, τ, rfl, rfl, no⟩
      · have cP : σ.1 2 0 = nI P := hC.1.2.1
        have mP : τ1.1 0 5 = nI P := hM.1.2.1
        have hk2 : k < 1024 := by omega
        have i1 : inb (nI q) 12 = true := inb_t (by omega) (by omega)
        have j1 : (nI q).toNatClampNeg = q := nI_clamp (by omega)
        have l1 : cnN P (fun p => bitN k p == true) ≤ P := cnN_le _
        have l2 : cnN P (fun p => bitN k p == false) ≤ P := cnN_le _
        simp only [if_true, e1, Option.bind_some, c_allBits cP hP, bv_q, mask_s hk2 hP, mask_o (show P < 11 by omega) hk2, m_countAll mP hP (show k < 2 ^ 31 by omega), i1, gd_q, j1, hC.1.2.2.1 q hq2, hM.1.2.2.1 q hq2, zs hP hk2, zo hP hk2, zn (show cnN P (fun p => bitN k p == true) < 2 ^ 31 by omega), zn (show cnN P (fun p => bitN k p == false) < 2 ^ 31 by omega)]
        by_cases c0 : cnN P (fun p => bitN k p == true) = 0
        · rw [if_pos c0, if_pos c0]
          exact ⟨_, σ, τ1, rfl, rfl, rel_of h Fr_rf f1⟩
        · rw [if_neg c0, if_neg c0]
          by_cases c1 : cnN P (fun p => bitN k p == false) = 0
          · rw [if_pos c1, if_pos c1]
            exact ⟨_, σ, τ1, rfl, rfl, rel_of h Fr_rf f1⟩
          · rw [if_neg c1, if_neg c1]
            by_cases c2 : kcF n t (σ.1 12) q = 0
            · rw [if_pos c2, if_pos c2]
              exact ⟨_, σ, τ1, rfl, rfl, rel_of h Fr_rf f1⟩
            · rw [if_neg c2, if_neg c2]
              have r1 := c_rightsTo hC.1 hP hq2 (x := k % 2 ^ P) (f := fun p => bitN k p == true) (by have := md_lt (P := P) hk2; omega) (fun p hp => by rw [bit_s (by omega) hk2 hp]; cases bitN k p <;> rfl)
              have r2 := c_rightsTo hC.1 hP hq2 (x := 2 ^ P - 1 - k % 2 ^ P) (f := fun p => bitN k p == false) (by have := mo_lt (a := k) hP; omega) (fun p hp => by rw [bit_o (by omega) hk2 hp]; cases bitN k p <;> rfl)
              have s1 := m_countOf hM.1 hP hq2 (show k < 2 ^ 31 by omega) true
              have s2 := m_countOf hM.1 hP hq2 (show k < 2 ^ 31 by omega) false
              have hpn : cnN P (fun p => bitN k p == true) * cnN P (fun p => bitN k p == false) ≤ 10 * 10 := Nat.mul_le_mul (by omega) (by omega)
              have hp0 : 0 < cnN P (fun p => bitN k p == true) * cnN P (fun p => bitN k p == false) := Nat.mul_pos (by omega) (by omega)
              simp only [r1, r2, s1, s2, Option.bind_some, f_bc, bcs hP hk2, bco hP hk2, nIm]
              obtain ⟨A, hA, eA⟩ := abs32 (nI (riN P (kcF n t (σ.1 12)) (sayF tp tq ta (cntN tt as T)) q (fun p => bitN k p == true) * cnN P (fun p => bitN k p == false)) - nI (riN P (kcF n t (σ.1 12)) (sayF tp tq ta (cntN tt as T)) q (fun p => bitN k p == false) * cnN P (fun p => bitN k p == true)))
              rw [bl_e, nI_toL (show cnN P (fun p => bitN k p == true) * cnN P (fun p => bitN k p == false) < 2 ^ 31 by omega), c_frac eA (by omega) hp0 (by omega) c (fun v s => some (v, s)), m_lowest eA (by omega) hp0 (by omega) c, Option.bind_some]
              exact ⟨_, _, τ1, rfl, rfl, rel_of h (fun _ _ => rfl) f1⟩
def knB (P : Nat) (kc : Nat → Int32) (sy : Nat → Nat → Int32) (k m q : Nat) : Bool := !(decide (kc q = 0)) && (decide (riN P kc sy q (fun p => bitN k p == true) = cnN P (fun p => bitN k p == true)) && !(decide (m * cnN P (fun p => bitN k p == false) < riN P kc sy q (fun p => bitN k p == false) * 100)))
def knI (P : Nat) (kc : Nat → Int32) (sy : Nat → Nat → Int32) (k m : Nat) : Nat → Int32
  | 0 => 0
  | q + 1 => if knB P kc sy k m q = true then knI P kc sy k m q ||| (1 <<< (nI q &&& 31)) else knI P kc sy k m q
theorem knI_s {P : Nat} {kc : Nat → Int32} {sy : Nat → Nat → Int32} {k m q : Nat} : knI P kc sy k m (q + 1) = if knB P kc sy k m q = true then knI P kc sy k m q ||| (1 <<< (nI q &&& 31)) else knI P kc sy k m q := rfl
theorem o_known (a b : Int32) : OpP (f_X11_known a b) (f_X12_known a b) := by
  intro σ τ ⟨n, t, P, T, pass, lim, rw_, pl, tp, tq, ta, tt, as, h⟩
  obtain ⟨hC, hD⟩ := rd_C h
  obtain ⟨τ1, e1, f1, _, hM, hR⟩ := rd_M h
  have hn := hD.1
  have hP := hD.2.1
  have no : Rel σ τ := rel_of h Fr_rf FrM_rf
  unfold f_X11_known f_X12_known
  simp only [c_within, m_in, Option.bind_some]
  cases z : wiB a 1 1023
  · exact ⟨_, τ, rfl, rfl, no⟩
  · obtain ⟨k, hk, e⟩ := wi_of2 (m := 1023) (by omega) z
    subst e
    have cP : σ.1 2 0 = nI P := hC.1.2.1
    have mP0 : τ.1 0 5 = nI P := h.2.1.2.2.1
    have mP : τ1.1 0 5 = nI P := hM.1.2.1
    have hk2 : k < 1024 := by omega
    have l1 : cnN P (fun p => bitN k p == true) ≤ P := cnN_le _
    have l2 : cnN P (fun p => bitN k p == false) ≤ P := cnN_le _
    simp only [if_true, Option.bind_some, c_allBits cP hP, bv_q, mask_s hk2 hP, mask_o (show P < 11 by omega) hk2, m_countAll mP0 hP (show k < 2 ^ 31 by omega), zs hP hk2, zn (show cnN P (fun p => bitN k p == true) < 2 ^ 31 by omega)]
    by_cases c0 : cnN P (fun p => bitN k p == true) = 0
    · rw [if_pos c0, if_pos c0]
      exact ⟨_, τ, rfl, rfl, no⟩
    · rw [if_neg c0, if_neg c0]
      cases z2 : wiB b 0 100
      · exact ⟨_, τ, rfl, rfl, no⟩
      · obtain ⟨m, hm, e⟩ := wi_of (m := 100) (by omega) z2
        subst e
        rw [if_pos rfl, if_pos rfl, e1, Option.bind_some]
        have bm : m * cnN P (fun p => bitN k p == false) ≤ 100 * 10 := Nat.mul_le_mul hm (by omega)
        have lc : lp (L_X11_known_65 (nI m) σ (nI (k % 2 ^ P)) (nI (2 ^ P - 1 - k % 2 ^ P))) NN (0, 0) = some (knI P (kcF n t (σ.1 12)) (sayF tp tq ta (cntN tt as T)) k m n) := by
          refine lp_count (fun q => (nI q, knI P (kcF n t (σ.1 12)) (sayF tp tq ta (cntN tt as T)) k m q)) n rfl (by omega) (fun q hq rec => ?_) (fun rec => ?_)
          · have hq2 : q < 12 := by omega
            have lt : nI q < nI n := by rw [nI_ltI (by omega) (by omega)]; exact hq
            have i1 : inb (nI q) 12 = true := inb_t (by omega) (by omega)
            have j1 : (nI q).toNatClampNeg = q := nI_clamp (by omega)
            have r1 := c_rightsTo hC.1 hP hq2 (x := k % 2 ^ P) (f := fun p => bitN k p == true) (by have := md_lt (P := P) hk2; omega) (fun p hp => by rw [bit_s (by omega) hk2 hp]; cases bitN k p <;> rfl)
            have r2 := c_rightsTo hC.1 hP hq2 (x := 2 ^ P - 1 - k % 2 ^ P) (f := fun p => bitN k p == false) (by have := mo_lt (a := k) hP; omega) (fun p hp => by rw [bit_o (by omega) hk2 hp]; cases bitN k p <;> rfl)
            have b1 : riN P (kcF n t (σ.1 12)) (sayF tp tq ta (cntN tt as T)) q (fun p => bitN k p == true) ≤ P := riN_le q _
            have b2 : riN P (kcF n t (σ.1 12)) (sayF tp tq ta (cntN tt as T)) q (fun p => bitN k p == false) ≤ P := riN_le q _
            unfold L_X11_known_65
            rw [show (100 : Int32) = nI 100 from rfl]
            simp only [hC.1.1, lt, if_true, r1, r2, Option.bind_some, f_bc, bcs hP hk2, bco hP hk2, nIm, jn_e, i1, gd_q, j1, hC.1.2.2.1 q hq2, nI_1, bv_q, knI_s, knB, nI_eq (show riN P (kcF n t (σ.1 12)) (sayF tp tq ta (cntN tt as T)) q (fun p => bitN k p == true) < 2 ^ 31 by omega) (show cnN P (fun p => bitN k p == true) < 2 ^ 31 by omega), nI_ltI (show m * cnN P (fun p => bitN k p == false) < 2 ^ 31 by omega) (show riN P (kcF n t (σ.1 12)) (sayF tp tq ta (cntN tt as T)) q (fun p => bitN k p == false) * 100 < 2 ^ 31 by omega)]
            by_cases g1 : kcF n t (σ.1 12) q = 0 <;> by_cases g2 : riN P (kcF n t (σ.1 12)) (sayF tp tq ta (cntN tt as T)) q (fun p => bitN k p == true) = cnN P (fun p => bitN k p == true) <;> by_cases g3 : m * cnN P (fun p => bitN k p == false) < riN P (kcF n t (σ.1 12)) (sayF tp tq ta (cntN tt as T)) q (fun p => bitN k p == false) * 100 <;> simp only [g1, g2, g3, if_true, if_false, decide_true, decide_false, Bool.not_true, Bool.not_false, Bool.and_true, Bool.true_and, Bool.and_false, Bool.false_and, Bool.false_eq_true]
          · unfold L_X11_known_65
            have lt : ¬ nI n < nI n := by rw [nI_ltI (by omega) (by omega)]; omega
            simp only [hC.1.1, lt, if_false]
        have lm : lp (L_X12_known_43 (nI k) (nI m) τ1) NN (0, 0) = some (knI P (kcF n t (σ.1 12)) (sayF tp tq ta (cntN tt as T)) k m n, τ1) := by
          refine lp_count (fun q => (nI q, knI P (kcF n t (σ.1 12)) (sayF tp tq ta (cntN tt as T)) k m q)) n rfl (by omega) (fun q hq rec => ?_) (fun rec => ?_)
          · have hq2 : q < 12 := by omega
            have lt : nI q < nI n := by rw [nI_ltI (by omega) (by omega)]; exact hq
            have i1 : inb (nI q) 12 = true := inb_t (by omega) (by omega)
            have j1 : (nI q).toNatClampNeg = q := nI_clamp (by omega)
            have b1 : riN P (kcF n t (σ.1 12)) (sayF tp tq ta (cntN tt as T)) q (fun p => bitN k p == true) ≤ P := riN_le q _
            have b2 : riN P (kcF n t (σ.1 12)) (sayF tp tq ta (cntN tt as T)) q (fun p => bitN k p == false) ≤ P := riN_le q _
            have s1 := m_countOf hM.1 hP hq2 (show k < 2 ^ 31 by omega) true
            have s2 := m_countOf hM.1 hP hq2 (show k < 2 ^ 31 by omega) false
            unfold L_X12_known_43
            rw [show (100 : Int32) = nI 100 from rfl]
            simp only [hM.1.1, lt, if_true, s1, s2, m_countAll mP hP (show k < 2 ^ 31 by omega), Option.bind_some, nIm, jn_e, i1, gd_q, j1, hM.1.2.2.1 q hq2, nI_1, bv_q, or0, knI_s, knB, nI_eq (show riN P (kcF n t (σ.1 12)) (sayF tp tq ta (cntN tt as T)) q (fun p => bitN k p == true) < 2 ^ 31 by omega) (show cnN P (fun p => bitN k p == true) < 2 ^ 31 by omega), Nat.mul_comm 100, nI_ltI (show m * cnN P (fun p => bitN k p == false) < 2 ^ 31 by omega) (show riN P (kcF n t (σ.1 12)) (sayF tp tq ta (cntN tt as T)) q (fun p => bitN k p == false) * 100 < 2 ^ 31 by omega)]
            by_cases g1 : kcF n t (σ.1 12) q = 0 <;> by_cases g2 : riN P (kcF n t (σ.1 12)) (sayF tp tq ta (cntN tt as T)) q (fun p => bitN k p == true) = cnN P (fun p => bitN k p == true) <;> by_cases g3 : m * cnN P (fun p => bitN k p == false) < riN P (kcF n t (σ.1 12)) (sayF tp tq ta (cntN tt as T)) q (fun p => bitN k p == false) * 100 <;> simp only [g1, g2, g3, if_true, if_false, decide_true, decide_false, Bool.not_true, Bool.not_false, Bool.and_true, Bool.true_and, Bool.and_false, Bool.false_and, Bool.false_eq_true]
          · unfold L_X12_known_43
            have lt : ¬ nI n < nI n := by rw [nI_ltI (by omega) (by omega)]; omega
            simp only [hM.1.1, lt, if_false]
        rw [lc, lm]
        exact ⟨_, τ1, rfl, rfl, rel_of h Fr_rf f1⟩
