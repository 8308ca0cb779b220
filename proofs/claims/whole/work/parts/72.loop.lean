/-! the law's loop -/
section Loop
variable {b L : Nat} {xs : Nat → Int32} {Γc Γm : GT} {k n : Nat}
theorem sw36 (x : Int32) : (∃ j, j < 36 ∧ x = nI j) ∨ ∀ j, j < 36 → ¬ x = nI j := by
  by_cases h : ∃ j, j < 36 ∧ x = nI j
  · exact Or.inl h
  · exact Or.inr (fun j hj e => h ⟨j, hj, e⟩)
theorem law_loop (hL : L ≤ 3072) (hk : k ≤ 600000 ∧ n ≤ 7302250) : ∀ N i σ τ, i ≤ L → L < i + N → Rel σ τ → EL b L xs Γc Γm k n 18 [(3, .int (nI i)), (2, .ref (Γm.2.1 0)), (1, .ref (Γc.2.1 0)), (0, .ref b)] [] σ τ
  | 0, i, σ, τ, h1, h2, _ => absurd h2 (by omega)
  | N + 1, i, σ, τ, h1, h2, hr => by
    refine EL_iload_n 0 dL_law_18 rfl rfl ?_
    refine EL_aload_n 3 dL_law_19 rfl rfl ?_
    refine EL_alen dL_law_20 ?_
    refine EL_bipush (v := nI 6) dL_law_21 (by decide) ?_
    refine EL_isub dL_law_23 ?_
    refine EL_gt 1343 dL_law_24 (by decide) (fun _ => ?_) (fun c0 => ?_)
    · refine EL_iconst (v := 1) dL_law_1343 (by decide) ?_
      exact EL_end dL_law_1344 hk.1 hk.2
    · have hi : i + 6 ≤ L := by
        rw [Int32.lt_iff_toInt_lt, pk_sub_toInt (by omega) (by omega), nI_toInt (by omega)] at c0
        omega
      have hq : ∀ σ' τ', Rel σ' τ' → EL b L xs Γc Γm k n 1337 [(3, .int (nI i)), (2, .ref (Γm.2.1 0)), (1, .ref (Γc.2.1 0)), (0, .ref b)] [] σ' τ' := fun σ' τ' hr' => by
        refine EL_iinc (v := nI (i + 6)) 0 [(3, .int (nI (i + 6))), (2, .ref (Γm.2.1 0)), (1, .ref (Γc.2.1 0)), (0, .ref b)] dL_law_1337 rfl (by rw [← nI_add]; rfl) (by decide) rfl ?_
        refine EL_goto 18 dL_law_1340 (by decide) ?_
        exact law_loop hL hk N (i + 6) σ' τ' hi (by omega) hr'
      refine EL_aload_n 3 dL_law_27 rfl rfl ?_
      refine EL_iload_n 0 dL_law_28 rfl rfl ?_
      refine EL_iald dL_law_29 (sc_0 hi hL) ?_
      refine EL_bipush (v := 63) dL_law_30 (by decide) ?_
      refine EL_iand dL_law_32 ?_
      rcases sw36 (xs (nI i).toNatClampNeg &&& 63) with ⟨j, hj, e⟩ | hno
      · match j, hj, e with
        | 0, _, e => exact EL_tswIn 192 dL_law_33 e (by decide) (by decide) rfl (by decide) (lc_0 hL hi hk hr hq)
        | 1, _, e => exact EL_tswIn 215 dL_law_33 e (by decide) (by decide) rfl (by decide) (lc_1 hL hi hk hr hq)
        | 2, _, e => exact EL_tswIn 238 dL_law_33 e (by decide) (by decide) rfl (by decide) (lc_2 hL hi hk hr hq)
        | 3, _, e => exact EL_tswIn 251 dL_law_33 e (by decide) (by decide) rfl (by decide) (lc_3 hL hi hk hr hq)
        | 4, _, e => exact EL_tswIn 264 dL_law_33 e (by decide) (by decide) rfl (by decide) (lc_4 hL hi hk hr hq)
        | 5, _, e => exact EL_tswIn 287 dL_law_33 e (by decide) (by decide) rfl (by decide) (lc_5 hL hi hk hr hq)
        | 6, _, e => exact EL_tswIn 320 dL_law_33 e (by decide) (by decide) rfl (by decide) (lc_6 hL hi hk hr hq)
        | 7, _, e => exact EL_tswIn 353 dL_law_33 e (by decide) (by decide) rfl (by decide) (lc_7 hL hi hk hr hq)
        | 8, _, e => exact EL_tswIn 406 dL_law_33 e (by decide) (by decide) rfl (by decide) (lc_8 hL hi hk hr hq)
        | 9, _, e => exact EL_tswIn 449 dL_law_33 e (by decide) (by decide) rfl (by decide) (lc_9 hL hi hk hr hq)
        | 10, _, e => exact EL_tswIn 482 dL_law_33 e (by decide) (by decide) rfl (by decide) (lc_10 hL hi hk hr hq)
        | 11, _, e => exact EL_tswIn 515 dL_law_33 e (by decide) (by decide) rfl (by decide) (lc_11 hL hi hk hr hq)
        | 12, _, e => exact EL_tswIn 548 dL_law_33 e (by decide) (by decide) rfl (by decide) (lc_12 hL hi hk hr hq)
        | 13, _, e => exact EL_tswIn 591 dL_law_33 e (by decide) (by decide) rfl (by decide) (lc_13 hL hi hk hr hq)
        | 14, _, e => exact EL_tswIn 635 dL_law_33 e (by decide) (by decide) rfl (by decide) (lc_14 hL hi hk hr hq)
        | 15, _, e => exact EL_tswIn 658 dL_law_33 e (by decide) (by decide) rfl (by decide) (lc_15 hL hi hk hr hq)
        | 16, _, e => exact EL_tswIn 671 dL_law_33 e (by decide) (by decide) rfl (by decide) (lc_16 hL hi hk hr hq)
        | 17, _, e => exact EL_tswIn 704 dL_law_33 e (by decide) (by decide) rfl (by decide) (lc_17 hL hi hk hr hq)
        | 18, _, e => exact EL_tswIn 717 dL_law_33 e (by decide) (by decide) rfl (by decide) (lc_18 hL hi hk hr hq)
        | 19, _, e => exact EL_tswIn 750 dL_law_33 e (by decide) (by decide) rfl (by decide) (lc_19 hL hi hk hr hq)
        | 20, _, e => exact EL_tswIn 784 dL_law_33 e (by decide) (by decide) rfl (by decide) (lc_20 hL hi hk hr hq)
        | 21, _, e => exact EL_tswIn 817 dL_law_33 e (by decide) (by decide) rfl (by decide) (lc_21 hL hi hk hr hq)
        | 22, _, e => exact EL_tswIn 861 dL_law_33 e (by decide) (by decide) rfl (by decide) (lc_22 hL hi hk hr hq)
        | 23, _, e => exact EL_tswIn 905 dL_law_33 e (by decide) (by decide) rfl (by decide) (lc_23 hL hi hk hr hq)
        | 24, _, e => exact EL_tswIn 928 dL_law_33 e (by decide) (by decide) rfl (by decide) (lc_24 hL hi hk hr hq)
        | 25, _, e => exact EL_tswIn 941 dL_law_33 e (by decide) (by decide) rfl (by decide) (lc_25 hL hi hk hr hq)
        | 26, _, e => exact EL_tswIn 974 dL_law_33 e (by decide) (by decide) rfl (by decide) (lc_26 hL hi hk hr hq)
        | 27, _, e => exact EL_tswIn 1008 dL_law_33 e (by decide) (by decide) rfl (by decide) (lc_27 hL hi hk hr hq)
        | 28, _, e => exact EL_tswIn 1042 dL_law_33 e (by decide) (by decide) rfl (by decide) (lc_28 hL hi hk hr hq)
        | 29, _, e => exact EL_tswIn 1085 dL_law_33 e (by decide) (by decide) rfl (by decide) (lc_29 hL hi hk hr hq)
        | 30, _, e => exact EL_tswIn 1108 dL_law_33 e (by decide) (by decide) rfl (by decide) (lc_30 hL hi hk hr hq)
        | 31, _, e => exact EL_tswIn 1161 dL_law_33 e (by decide) (by decide) rfl (by decide) (lc_31 hL hi hk hr hq)
        | 32, _, e => exact EL_tswIn 1204 dL_law_33 e (by decide) (by decide) rfl (by decide) (lc_32 hL hi hk hr hq)
        | 33, _, e => exact EL_tswIn 1267 dL_law_33 e (by decide) (by decide) rfl (by decide) (lc_33 hL hi hk hr hq)
        | 34, _, e => exact EL_tswIn 1300 dL_law_33 e (by decide) (by decide) rfl (by decide) (lc_34 hL hi hk hr hq)
        | 35, _, e => exact EL_tswIn 1323 dL_law_33 e (by decide) (by decide) rfl (by decide) (lc_35 hL hi hk hr hq)
        | j + 36, hj, _ => exact absurd hj (by omega)
      · exact EL_tswOut (N := 36) 1337 dL_law_33 (by decide) (by decide) hno (by decide) (hq σ τ hr)
end Loop
