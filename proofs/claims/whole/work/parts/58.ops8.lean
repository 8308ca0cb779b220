/-! from -/
theorem o_from (a b : Int32) : Op (f_X11_from a b) (f_X12_from a b) := by
  intro σ τ ⟨n, t, P, T, pass, lim, rw_, pl, tp, tq, ta, tt, as, h⟩
  obtain ⟨hC, hD⟩ := rd_C h
  obtain ⟨τ1, e1, f1, _, hM, hR⟩ := rd_M h
  obtain ⟨r1, r2⟩ := rd_rb h
  have hn := hD.1
  have hP := hD.2.1
  unfold f_X11_from f_X12_from
  rw [tw_c h, tw_m h, Option.bind_some, Option.bind_some]
  cases z : twB P a b
  · exact ⟨_, σ, τ, rfl, rfl, rel_of h Fr_rf FrM_rf⟩
  · obtain ⟨i, j, hi, hj, hij, ea, eb⟩ := tw_of h z
    rw [if_pos rfl, if_pos rfl, e1, Option.bind_some, ea, eb, cw_near hC hD hi hj, mw_near hM hD hi hj, Option.bind_some, Option.bind_some]
    cases nrB rw_ pl i j
    · exact ⟨_, σ, τ1, rfl, rfl, rel_of h Fr_rf f1⟩
    · obtain ⟨σ', eo, fo⟩ := cw_odd hC hD hi hj hij
      obtain ⟨τ', em, fm⟩ := mw_odd hM hD hi hj hij
      have fM : FrM τ τ' := FrM_tr f1 (fun k _ => by rw [fm])
      have fC := Fr2_Fr fo
      rw [if_pos rfl, if_pos rfl, eo, em, Option.bind_some, Option.bind_some]
      cases odB n P (kcF n t (σ.1 12)) (sayF tp tq ta (cntN tt as T)) lim i j
      · exact ⟨_, σ', τ', rfl, rfl, rel_of h fC fM⟩
      · obtain ⟨σ2, ew, fw, gw⟩ := c_weigh (CV_Fr hC.1 fC) hn hP (CR_Fr r1 fC)
        have hm' : MV τ' n P (kcF n t (σ.1 12)) (sayF tp tq ta (cntN tt as T)) := MV_Fr hM.1 (fun k _ => by rw [fm])
        have hg := c_giver (σ := σ2) (mk := fun p => mkB n (kcF n t (σ.1 12)) (sayF tp tq ta (cntN tt as T)) p (-1)) (fun p => mk_le12 hn p _) r2 (show i < 10 by omega) (show j < 10 by omega) (gw i hi) (gw j hj)
        have hg2 := m_gave (rb := fun p => rbP tp tq ta n (kcF n t (σ.1 12)) p 0 (cntN tt as T)) hm' hn r2 (show i < 10 by omega) (show j < 10 by omega) (by rw [fm]; exact (hR i (by omega)).1) (by rw [fm]; exact (hR j (by omega)).1)
        simp only [if_true, ew, Option.bind_some, hg, hg2]
        exact ⟨_, σ2, τ', rfl, rfl, rel_of h (Fr_tr fC (Fr25_Fr fw)) fM⟩
