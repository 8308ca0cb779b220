/-- the fuel of every loop; not to be unfolded -/
noncomputable def NN : Nat := Classical.choose (⟨10000, rfl⟩ : ∃ n : Nat, n = 10000)
theorem NN_eq : NN = 10000 := Classical.choose_spec (⟨10000, rfl⟩ : ∃ n : Nat, n = 10000)
def bd {R : Type} (σ : St) (k : St → Option R) : Option R := k σ
def bv {R : Type} (v : Int32) (k : Int32 → Option R) : Option R := k v
def bl {R : Type} (v : Int64) (k : Int64 → Option R) : Option R := k v
section Binds
variable {own : String} {cc : ByteArray} {nL : Nat} {rt : Option FieldType} {d : Nat} {w : WT} {Γ : GT} {R : Type} {em : R → Option Value × St} {pc : Nat} {lv : List (Nat × Value)} {st : List Value} {σ : St} {o : Option R}
theorem E_bd {k : St → Option R} (h : ∀ s, E own cc nL rt d w Γ em pc lv st s (k s)) : E own cc nL rt d w Γ em pc lv st σ (bd σ k) := h σ
theorem E_bv {k : Int32 → Option R} (lvf : Int32 → List (Nat × Value)) (h : ∀ v, E own cc nL rt d w Γ em pc (lvf v) st σ (k v)) (v : Int32) : E own cc nL rt d w Γ em pc (lvf v) st σ (bv v k) := h v
theorem E_bl {k : Int64 → Option R} (lvf : Int64 → List (Nat × Value)) (h : ∀ v, E own cc nL rt d w Γ em pc (lvf v) st σ (k v)) (v : Int64) : E own cc nL rt d w Γ em pc (lvf v) st σ (bl v k) := h v
end Binds
def shWC : List (Nat ⊕ (Nat × Nat)) := [.inl 11, .inl 4, .inl 7, .inl 10, .inl 5, .inl 8, .inl 6, .inl 2, .inl 0, .inl 3, .inl 1, .inr (0, 12), .inr (0, 12), .inr (0, 10), .inr (0, 10), .inr (0, 150), .inr (0, 150), .inr (0, 150), .inr (0, 150), .inr (0, 150), .inr (0, 10), .inr (0, 10), .inr (0, 6), .inr (1, 8), .inr (0, 10), .inr (0, 10), .inr (0, 10), .inr (0, 49), .inr (0, 7), .inr (0, 10), .inr (0, 10), .inr (3, 4), .inr (4, 10), .inr (4, 10), .inl 9, .inl 9, .inl 9, .inl 9, .inr (0, 48), .inr (0, 48), .inr (0, 48), .inr (0, 48), .inr (0, 12), .inr (0, 12), .inr (0, 12), .inr (0, 12), .inr (0, 12), .inr (0, 12), .inr (0, 12), .inr (0, 12), .inr (0, 12), .inr (0, 12), .inr (0, 12), .inr (0, 12), .inr (0, 12), .inr (0, 12), .inr (0, 12), .inr (0, 12), .inr (0, 12), .inr (0, 12), .inr (0, 12), .inr (0, 12)]
def rtWC (k j : Nat) : Nat := match k with
  | 0 => ([1, 2, 3, 4, 5, 6, 7, 8, 9, 10, 31, 0] : List Nat).getD j 0
  | 1 => ([11, 0, 0, 0, 0, 12] : List Nat).getD j 0
  | 2 => ([0, 13, 14] : List Nat).getD j 0
  | 3 => ([0, 0, 0, 32, 15, 16, 17, 18, 19, 33] : List Nat).getD j 0
  | 4 => ([0, 1, 2, 3, 20, 21] : List Nat).getD j 0
  | 5 => ([1, 3] : List Nat).getD j 0
  | 6 => ([0, 1, 2, 3, 10, 22, 23] : List Nat).getD j 0
  | 7 => ([2, 4, 5, 6, 24, 25, 26] : List Nat).getD j 0
  | 8 => ([2, 6, 27, 28, 0] : List Nat).getD j 0
  | 9 => ([2, 3, 4, 29, 30] : List Nat).getD j 0
  | 10 => ([0, 0] : List Nat).getD j 0
  | 31 => if j < 4 then 34 + j else 34
  | 32 => if j < 10 then 42 + j else 42
  | 33 => if j < 10 then 52 + j else 52
  | _ => k + 4
def WC : WT := (62, fun k => shWC.getD k (.inl 99), rtWC)
theorem sh_sheets (j : Nat) : WC.2.1 (WC.2.2 31 j) = .inl 9 := by
  show shWC.getD (if j < 4 then 34 + j else 34) (.inl 99) = _
  by_cases h : j < 4
  · rw [if_pos h]
    rcases (show j = 0 ∨ j = 1 ∨ j = 2 ∨ j = 3 by omega) with rfl | rfl | rfl | rfl <;> rfl
  · rw [if_neg h]; rfl
theorem lt_sheets (j : Nat) : WC.2.2 31 j < WC.1 := by
  show (if j < 4 then 34 + j else 34) < 62
  split <;> omega
theorem sh_cur (j : Nat) : WC.2.1 (WC.2.2 32 j) = .inr (0, 12) := by
  show shWC.getD (if j < 10 then 42 + j else 42) (.inl 99) = _
  by_cases h : j < 10
  · rw [if_pos h]
    rcases (show j = 0 ∨ j = 1 ∨ j = 2 ∨ j = 3 ∨ j = 4 ∨ j = 5 ∨ j = 6 ∨ j = 7 ∨ j = 8 ∨ j = 9 by omega) with rfl | rfl | rfl | rfl | rfl | rfl | rfl | rfl | rfl | rfl <;> rfl
  · rw [if_neg h]; rfl
theorem lt_cur (j : Nat) : WC.2.2 32 j < WC.1 := by
  show (if j < 10 then 42 + j else 42) < 62
  split <;> omega
theorem sh_lat (j : Nat) : WC.2.1 (WC.2.2 33 j) = .inr (0, 12) := by
  show shWC.getD (if j < 10 then 52 + j else 52) (.inl 99) = _
  by_cases h : j < 10
  · rw [if_pos h]
    rcases (show j = 0 ∨ j = 1 ∨ j = 2 ∨ j = 3 ∨ j = 4 ∨ j = 5 ∨ j = 6 ∨ j = 7 ∨ j = 8 ∨ j = 9 by omega) with rfl | rfl | rfl | rfl | rfl | rfl | rfl | rfl | rfl | rfl <;> rfl
  · rw [if_neg h]; rfl
theorem lt_lat (j : Nat) : WC.2.2 33 j < WC.1 := by
  show (if j < 10 then 52 + j else 52) < 62
  split <;> omega
theorem sh_srow (a : Nat) (h : WC.2.1 a = .inl 9) : WC.2.1 (WC.2.2 a 3) = .inr (0, 48) ∧ WC.2.2 a 3 < WC.1 := by
  have hall : ∀ k, k < 62 → WC.2.1 k = .inl 9 → WC.2.1 (WC.2.2 k 3) = .inr (0, 48) ∧ WC.2.2 k 3 < WC.1 := by decide +kernel
  by_cases ha : a < 62
  · exact hall a ha h
  · exfalso
    have : shWC.getD a (.inl 99) = .inl 99 := by
      rw [List.getD_eq_getElem?_getD, List.getElem?_eq_none (by show 62 ≤ a; omega)]
      rfl
    have h2 : shWC.getD a (.inl 99) = .inl 9 := h
    rw [this] at h2
    exact absurd h2 (by decide)
theorem lt_sheet (a : Nat) (h : WC.2.1 a = .inl 9) : a < WC.1 := by
  by_cases ha : a < 62
  · exact ha
  · exfalso
    have : shWC.getD a (.inl 99) = .inl 99 := by
      rw [List.getD_eq_getElem?_getD, List.getElem?_eq_none (by show 62 ≤ a; omega)]
      rfl
    have h2 : shWC.getD a (.inl 99) = .inl 9 := h
    rw [this] at h2
    exact absurd h2 (by decide)
def shWM : List (Nat ⊕ (Nat × Nat)) := [.inl 12, .inr (0, 12), .inr (0, 12), .inr (0, 3), .inr (0, 10), .inr (0, 10), .inr (0, 150), .inr (0, 150), .inr (0, 150), .inr (0, 150), .inr (0, 120), .inr (0, 10), .inr (0, 10), .inr (0, 10), .inr (1, 9), .inr (0, 10), .inr (0, 100), .inr (0, 100), .inr (0, 10), .inr (2, 4), .inr (0, 4), .inr (0, 4), .inr (0, 192), .inr (0, 48)]
def rtWM (k j : Nat) : Nat := match k with
  | 0 => ([0, 0, 1, 2, 3, 0, 4, 5, 0, 6, 7, 8, 9, 10, 11, 12, 13, 14, 0, 0, 15, 16, 17, 18, 19, 20, 21, 22, 23, 0] : List Nat).getD j 0
  | _ => 0
def WM : WT := (24, fun k => shWM.getD k (.inl 99), rtWM)
theorem ko_X6_areBothWrong : Cond.code yX6_areBothWrong cX6_areBothWrong 7 (some .boolean) ∈ lw_good := kw_529
theorem hy_X6_areBothWrong : yX6_areBothWrong.cls ≠ "java/lang/invoke/MethodHandle" ∧ yX6_areBothWrong.cls ≠ "java/lang/invoke/VarHandle" ∧ (parseMethodDescriptor yX6_areBothWrong.desc).map (fun d => d.parameters.length) = some 3 := by decide +kernel
theorem ko_X6_sameWrongs : Cond.code yX6_sameWrongs cX6_sameWrongs 5 (some .int) ∈ lw_good := kw_525
theorem hy_X6_sameWrongs : yX6_sameWrongs.cls ≠ "java/lang/invoke/MethodHandle" ∧ yX6_sameWrongs.cls ≠ "java/lang/invoke/VarHandle" ∧ (parseMethodDescriptor yX6_sameWrongs.desc).map (fun d => d.parameters.length) = some 2 := by decide +kernel
theorem ko_J9_abs_0f7a4 : Cond.code yJ9_abs_0f7a4 cJ9_abs_0f7a4 1 (some .int) ∈ lw_good := kw_481
theorem hy_J9_abs_0f7a4 : yJ9_abs_0f7a4.cls ≠ "java/lang/invoke/MethodHandle" ∧ yJ9_abs_0f7a4.cls ≠ "java/lang/invoke/VarHandle" ∧ (parseMethodDescriptor yJ9_abs_0f7a4.desc).map (fun d => d.parameters.length) = some 1 := by decide +kernel
theorem ko_X7_areNear : Cond.code yX7_areNear cX7_areNear 3 (some .boolean) ∈ lw_good := kw_478
theorem hy_X7_areNear : yX7_areNear.cls ≠ "java/lang/invoke/MethodHandle" ∧ yX7_areNear.cls ≠ "java/lang/invoke/VarHandle" ∧ (parseMethodDescriptor yX7_areNear.desc).map (fun d => d.parameters.length) = some 2 := by decide +kernel
theorem ko_X6_besideInAll : Cond.code yX6_besideInAll cX6_besideInAll 4 (some .int) ∈ lw_good := kw_591
theorem hy_X6_besideInAll : yX6_besideInAll.cls ≠ "java/lang/invoke/MethodHandle" ∧ yX6_besideInAll.cls ≠ "java/lang/invoke/VarHandle" ∧ (parseMethodDescriptor yX6_besideInAll.desc).map (fun d => d.parameters.length) = some 0 := by decide +kernel
theorem ko_X0_orders : Cond.code yX0_orders cX0_orders 4 (some .long) ∈ lw_good := kw_605
theorem hy_X0_orders : yX0_orders.cls ≠ "java/lang/invoke/MethodHandle" ∧ yX0_orders.cls ≠ "java/lang/invoke/VarHandle" ∧ (parseMethodDescriptor yX0_orders.desc).map (fun d => d.parameters.length) = some 1 := by decide +kernel
theorem ko_X0_withNear : Cond.code yX0_withNear cX0_withNear 4 (some .int) ∈ lw_good := kw_609
theorem hy_X0_withNear : yX0_withNear.cls ≠ "java/lang/invoke/MethodHandle" ∧ yX0_withNear.cls ≠ "java/lang/invoke/VarHandle" ∧ (parseMethodDescriptor yX0_withNear.desc).map (fun d => d.parameters.length) = some 1 := by decide +kernel
theorem ko_X0_ordersFrom : Cond.code yX0_ordersFrom cX0_ordersFrom 7 (some .long) ∈ lw_good := kw_602
theorem hy_X0_ordersFrom : yX0_ordersFrom.cls ≠ "java/lang/invoke/MethodHandle" ∧ yX0_ordersFrom.cls ≠ "java/lang/invoke/VarHandle" ∧ (parseMethodDescriptor yX0_ordersFrom.desc).map (fun d => d.parameters.length) = some 3 := by decide +kernel
theorem ko_X0_millionths : Cond.code yX0_millionths cX0_millionths 3 (some .int) ∈ lw_good := kw_596
theorem hy_X0_millionths : yX0_millionths.cls ≠ "java/lang/invoke/MethodHandle" ∧ yX0_millionths.cls ≠ "java/lang/invoke/VarHandle" ∧ (parseMethodDescriptor yX0_millionths.desc).map (fun d => d.parameters.length) = some 0 := by decide +kernel
theorem ko_J9_abs_067f4 : Cond.code yJ9_abs_067f4 cJ9_abs_067f4 2 (some .long) ∈ lw_good := kw_563
theorem hy_J9_abs_067f4 : yJ9_abs_067f4.cls ≠ "java/lang/invoke/MethodHandle" ∧ yJ9_abs_067f4.cls ≠ "java/lang/invoke/VarHandle" ∧ (parseMethodDescriptor yJ9_abs_067f4.desc).map (fun d => d.parameters.length) = some 1 := by decide +kernel
theorem ko_X1_commonDivisor : Cond.code yX1_commonDivisor cX1_commonDivisor 11 (some .long) ∈ lw_good := kw_566
theorem hy_X1_commonDivisor : yX1_commonDivisor.cls ≠ "java/lang/invoke/MethodHandle" ∧ yX1_commonDivisor.cls ≠ "java/lang/invoke/VarHandle" ∧ (parseMethodDescriptor yX1_commonDivisor.desc).map (fun d => d.parameters.length) = some 2 := by decide +kernel
theorem ko_X1_become : Cond.code yX1_become cX1_become 7 none ∈ lw_good := kw_560
theorem hy_X1_become : yX1_become.cls ≠ "java/lang/invoke/MethodHandle" ∧ yX1_become.cls ≠ "java/lang/invoke/VarHandle" ∧ (parseMethodDescriptor yX1_become.desc).map (fun d => d.parameters.length) = some 2 := by decide +kernel
theorem ko_X1_part : Cond.code yX1_part cX1_part 2 (some .long) ∈ lw_good := kw_583
theorem hy_X1_part : yX1_part.cls ≠ "java/lang/invoke/MethodHandle" ∧ yX1_part.cls ≠ "java/lang/invoke/VarHandle" ∧ (parseMethodDescriptor yX1_part.desc).map (fun d => d.parameters.length) = some 1 := by decide +kernel
theorem ko_J7_fill_53178 : Cond.code yJ7_fill_53178 cJ7_fill_53178 4 none ∈ lw_good := kw_414
theorem hy_J7_fill_53178 : yJ7_fill_53178.cls ≠ "java/lang/invoke/MethodHandle" ∧ yJ7_fill_53178.cls ≠ "java/lang/invoke/VarHandle" ∧ (parseMethodDescriptor yJ7_fill_53178.desc).map (fun d => d.parameters.length) = some 2 := by decide +kernel
theorem ko_X6_bothWrongs : Cond.code yX6_bothWrongs cX6_bothWrongs 5 (some .int) ∈ lw_good := kw_533
theorem hy_X6_bothWrongs : yX6_bothWrongs.cls ≠ "java/lang/invoke/MethodHandle" ∧ yX6_bothWrongs.cls ≠ "java/lang/invoke/VarHandle" ∧ (parseMethodDescriptor yX6_bothWrongs.desc).map (fun d => d.parameters.length) = some 2 := by decide +kernel
theorem ko_J7_fill_d0a16 : Cond.code yJ7_fill_d0a16 cJ7_fill_d0a16 5 none ∈ lw_good := kw_546
theorem hy_J7_fill_d0a16 : yJ7_fill_d0a16.cls ≠ "java/lang/invoke/MethodHandle" ∧ yJ7_fill_d0a16.cls ≠ "java/lang/invoke/VarHandle" ∧ (parseMethodDescriptor yJ7_fill_d0a16.desc).map (fun d => d.parameters.length) = some 2 := by decide +kernel
theorem ko_X6_countChoosers : Cond.code yX6_countChoosers cX6_countChoosers 5 none ∈ lw_good := kw_554
theorem hy_X6_countChoosers : yX6_countChoosers.cls ≠ "java/lang/invoke/MethodHandle" ∧ yX6_countChoosers.cls ≠ "java/lang/invoke/VarHandle" ∧ (parseMethodDescriptor yX6_countChoosers.desc).map (fun d => d.parameters.length) = some 3 := by decide +kernel
theorem ko_J9_min_7cf53 : Cond.code yJ9_min_7cf53 cJ9_min_7cf53 2 (some .int) ∈ lw_good := kw_374
theorem hy_J9_min_7cf53 : yJ9_min_7cf53.cls ≠ "java/lang/invoke/MethodHandle" ∧ yJ9_min_7cf53.cls ≠ "java/lang/invoke/VarHandle" ∧ (parseMethodDescriptor yJ9_min_7cf53.desc).map (fun d => d.parameters.length) = some 2 := by decide +kernel
theorem ko_X6_meet : Cond.code yX6_meet cX6_meet 11 (some .long) ∈ lw_good := kw_550
theorem hy_X6_meet : yX6_meet.cls ≠ "java/lang/invoke/MethodHandle" ∧ yX6_meet.cls ≠ "java/lang/invoke/VarHandle" ∧ (parseMethodDescriptor yX6_meet.desc).map (fun d => d.parameters.length) = some 4 := by decide +kernel
theorem ko_X6_reckonChance : Cond.code yX6_reckonChance cX6_reckonChance 9 (some .boolean) ∈ lw_good := kw_542
theorem hy_X6_reckonChance : yX6_reckonChance.cls ≠ "java/lang/invoke/MethodHandle" ∧ yX6_reckonChance.cls ≠ "java/lang/invoke/VarHandle" ∧ (parseMethodDescriptor yX6_reckonChance.desc).map (fun d => d.parameters.length) = some 2 := by decide +kernel
theorem ko_X6_areOdd : Cond.code yX6_areOdd cX6_areOdd 3 (some .boolean) ∈ lw_good := kw_537
theorem hy_X6_areOdd : yX6_areOdd.cls ≠ "java/lang/invoke/MethodHandle" ∧ yX6_areOdd.cls ≠ "java/lang/invoke/VarHandle" ∧ (parseMethodDescriptor yX6_areOdd.desc).map (fun d => d.parameters.length) = some 2 := by decide +kernel
theorem ko_X2_link : Cond.code yX2_link cX2_link 3 none ∈ lw_good := kw_619
theorem hy_X2_link : yX2_link.cls ≠ "java/lang/invoke/MethodHandle" ∧ yX2_link.cls ≠ "java/lang/invoke/VarHandle" ∧ (parseMethodDescriptor yX2_link.desc).map (fun d => d.parameters.length) = some 0 := by decide +kernel
theorem ko_X7_allBits : Cond.code yX7_allBits cX7_allBits 1 (some .int) ∈ lw_good := kw_630
theorem hy_X7_allBits : yX7_allBits.cls ≠ "java/lang/invoke/MethodHandle" ∧ yX7_allBits.cls ≠ "java/lang/invoke/VarHandle" ∧ (parseMethodDescriptor yX7_allBits.desc).map (fun d => d.parameters.length) = some 0 := by decide +kernel
theorem ko_J6_bitCount_0f7a4 : Cond.code yJ6_bitCount_0f7a4 cJ6_bitCount_0f7a4 1 (some .int) ∈ lw_good := kw_633
theorem hy_J6_bitCount_0f7a4 : yJ6_bitCount_0f7a4.cls ≠ "java/lang/invoke/MethodHandle" ∧ yJ6_bitCount_0f7a4.cls ≠ "java/lang/invoke/VarHandle" ∧ (parseMethodDescriptor yJ6_bitCount_0f7a4.desc).map (fun d => d.parameters.length) = some 1 := by decide +kernel
theorem ko_X2_covers : Cond.code yX2_covers cX2_covers 3 (some .boolean) ∈ lw_good := kw_640
theorem hy_X2_covers : yX2_covers.cls ≠ "java/lang/invoke/MethodHandle" ∧ yX2_covers.cls ≠ "java/lang/invoke/VarHandle" ∧ (parseMethodDescriptor yX2_covers.desc).map (fun d => d.parameters.length) = some 1 := by decide +kernel
theorem ko_X2_fewest : Cond.code yX2_fewest cX2_fewest 3 (some .int) ∈ lw_good := kw_626
theorem hy_X2_fewest : yX2_fewest.cls ≠ "java/lang/invoke/MethodHandle" ∧ yX2_fewest.cls ≠ "java/lang/invoke/VarHandle" ∧ (parseMethodDescriptor yX2_fewest.desc).map (fun d => d.parameters.length) = some 0 := by decide +kernel
theorem ko_X5_isRight : Cond.code yX5_isRight cX5_isRight 3 (some .boolean) ∈ lw_good := kw_497
theorem hy_X5_isRight : yX5_isRight.cls ≠ "java/lang/invoke/MethodHandle" ∧ yX5_isRight.cls ≠ "java/lang/invoke/VarHandle" ∧ (parseMethodDescriptor yX5_isRight.desc).map (fun d => d.parameters.length) = some 2 := by decide +kernel
theorem ko_X5_restOf : Cond.code yX5_restOf cX5_restOf 5 (some .int) ∈ lw_good := kw_493
theorem hy_X5_restOf : yX5_restOf.cls ≠ "java/lang/invoke/MethodHandle" ∧ yX5_restOf.cls ≠ "java/lang/invoke/VarHandle" ∧ (parseMethodDescriptor yX5_restOf.desc).map (fun d => d.parameters.length) = some 2 := by decide +kernel
theorem ko_X5_markOf : Cond.code yX5_markOf cX5_markOf 2 (some .int) ∈ lw_good := kw_489
theorem hy_X5_markOf : yX5_markOf.cls ≠ "java/lang/invoke/MethodHandle" ∧ yX5_markOf.cls ≠ "java/lang/invoke/VarHandle" ∧ (parseMethodDescriptor yX5_markOf.desc).map (fun d => d.parameters.length) = some 1 := by decide +kernel
theorem ko_X8_wasRubbed : Cond.code yX8_wasRubbed cX8_wasRubbed 2 (some .boolean) ∈ lw_good := kw_657
theorem hy_X8_wasRubbed : yX8_wasRubbed.cls ≠ "java/lang/invoke/MethodHandle" ∧ yX8_wasRubbed.cls ≠ "java/lang/invoke/VarHandle" ∧ (parseMethodDescriptor yX8_wasRubbed.desc).map (fun d => d.parameters.length) = some 1 := by decide +kernel
theorem ko_X8_isKind : Cond.code yX8_isKind cX8_isKind 4 (some .boolean) ∈ lw_good := kw_661
theorem hy_X8_isKind : yX8_isKind.cls ≠ "java/lang/invoke/MethodHandle" ∧ yX8_isKind.cls ≠ "java/lang/invoke/VarHandle" ∧ (parseMethodDescriptor yX8_isKind.desc).map (fun d => d.parameters.length) = some 2 := by decide +kernel
theorem ko_X8_countOf : Cond.code yX8_countOf cX8_countOf 5 (some .int) ∈ lw_good := kw_653
theorem hy_X8_countOf : yX8_countOf.cls ≠ "java/lang/invoke/MethodHandle" ∧ yX8_countOf.cls ≠ "java/lang/invoke/VarHandle" ∧ (parseMethodDescriptor yX8_countOf.desc).map (fun d => d.parameters.length) = some 2 := by decide +kernel
theorem ko_X2_weigh : Cond.code yX2_weigh cX2_weigh 2 none ∈ lw_good := kw_648
theorem hy_X2_weigh : yX2_weigh.cls ≠ "java/lang/invoke/MethodHandle" ∧ yX2_weigh.cls ≠ "java/lang/invoke/VarHandle" ∧ (parseMethodDescriptor yX2_weigh.desc).map (fun d => d.parameters.length) = some 0 := by decide +kernel
theorem ko_X2_giver : Cond.code yX2_giver cX2_giver 3 (some .int) ∈ lw_good := kw_665
theorem hy_X2_giver : yX2_giver.cls ≠ "java/lang/invoke/MethodHandle" ∧ yX2_giver.cls ≠ "java/lang/invoke/VarHandle" ∧ (parseMethodDescriptor yX2_giver.desc).map (fun d => d.parameters.length) = some 2 := by decide +kernel
theorem ko_J9_max_7cf53 : Cond.code yJ9_max_7cf53 cJ9_max_7cf53 2 (some .int) ∈ lw_good := kw_682
theorem hy_J9_max_7cf53 : yJ9_max_7cf53.cls ≠ "java/lang/invoke/MethodHandle" ∧ yJ9_max_7cf53.cls ≠ "java/lang/invoke/VarHandle" ∧ (parseMethodDescriptor yJ9_max_7cf53.desc).map (fun d => d.parameters.length) = some 2 := by decide +kernel
theorem ko_X2_lengthen : Cond.code yX2_lengthen cX2_lengthen 4 (some .int) ∈ lw_good := kw_678
theorem hy_X2_lengthen : yX2_lengthen.cls ≠ "java/lang/invoke/MethodHandle" ∧ yX2_lengthen.cls ≠ "java/lang/invoke/VarHandle" ∧ (parseMethodDescriptor yX2_lengthen.desc).map (fun d => d.parameters.length) = some 1 := by decide +kernel
theorem ko_X2_longestChain : Cond.code yX2_longestChain cX2_longestChain 4 (some .int) ∈ lw_good := kw_673
theorem hy_X2_longestChain : yX2_longestChain.cls ≠ "java/lang/invoke/MethodHandle" ∧ yX2_longestChain.cls ≠ "java/lang/invoke/VarHandle" ∧ (parseMethodDescriptor yX2_longestChain.desc).map (fun d => d.parameters.length) = some 0 := by decide +kernel
theorem ko_X3_choosersOf : Cond.code yX3_choosersOf cX3_choosersOf 5 (some .int) ∈ lw_good := kw_724
theorem hy_X3_choosersOf : yX3_choosersOf.cls ≠ "java/lang/invoke/MethodHandle" ∧ yX3_choosersOf.cls ≠ "java/lang/invoke/VarHandle" ∧ (parseMethodDescriptor yX3_choosersOf.desc).map (fun d => d.parameters.length) = some 2 := by decide +kernel
theorem ko_X3_restsOf : Cond.code yX3_restsOf cX3_restsOf 5 (some .int) ∈ lw_good := kw_728
theorem hy_X3_restsOf : yX3_restsOf.cls ≠ "java/lang/invoke/MethodHandle" ∧ yX3_restsOf.cls ≠ "java/lang/invoke/VarHandle" ∧ (parseMethodDescriptor yX3_restsOf.desc).map (fun d => d.parameters.length) = some 2 := by decide +kernel
theorem ko_X3_bestChoice : Cond.code yX3_bestChoice cX3_bestChoice 9 (some .int) ∈ lw_good := kw_737
theorem hy_X3_bestChoice : yX3_bestChoice.cls ≠ "java/lang/invoke/MethodHandle" ∧ yX3_bestChoice.cls ≠ "java/lang/invoke/VarHandle" ∧ (parseMethodDescriptor yX3_bestChoice.desc).map (fun d => d.parameters.length) = some 1 := by decide +kernel
theorem ko_X3_orderByRest : Cond.code yX3_orderByRest cX3_orderByRest 4 none ∈ lw_good := kw_773
theorem hy_X3_orderByRest : yX3_orderByRest.cls ≠ "java/lang/invoke/MethodHandle" ∧ yX3_orderByRest.cls ≠ "java/lang/invoke/VarHandle" ∧ (parseMethodDescriptor yX3_orderByRest.desc).map (fun d => d.parameters.length) = some 1 := by decide +kernel
theorem ko_X3_betterLessWorse : Cond.code yX3_betterLessWorse cX3_betterLessWorse 5 (some .int) ∈ lw_good := kw_769
theorem hy_X3_betterLessWorse : yX3_betterLessWorse.cls ≠ "java/lang/invoke/MethodHandle" ∧ yX3_betterLessWorse.cls ≠ "java/lang/invoke/VarHandle" ∧ (parseMethodDescriptor yX3_betterLessWorse.desc).map (fun d => d.parameters.length) = some 1 := by decide +kernel
theorem ko_X11_within : Cond.code yX11_within cX11_within 3 (some .boolean) ∈ lw_good := kw_359
theorem hy_X11_within : yX11_within.cls ≠ "java/lang/invoke/MethodHandle" ∧ yX11_within.cls ≠ "java/lang/invoke/VarHandle" ∧ (parseMethodDescriptor yX11_within.desc).map (fun d => d.parameters.length) = some 3 := by decide +kernel
theorem ko_X4_firstFault : Cond.code yX4_firstFault cX4_firstFault 3 (some .int) ∈ lw_good := kw_371
theorem hy_X4_firstFault : yX4_firstFault.cls ≠ "java/lang/invoke/MethodHandle" ∧ yX4_firstFault.cls ≠ "java/lang/invoke/VarHandle" ∧ (parseMethodDescriptor yX4_firstFault.desc).map (fun d => d.parameters.length) = some 0 := by decide +kernel
theorem ko_X4_settle : Cond.code yX4_settle cX4_settle 3 none ∈ lw_good := kw_367
theorem hy_X4_settle : yX4_settle.cls ≠ "java/lang/invoke/MethodHandle" ∧ yX4_settle.cls ≠ "java/lang/invoke/VarHandle" ∧ (parseMethodDescriptor yX4_settle.desc).map (fun d => d.parameters.length) = some 0 := by decide +kernel
theorem ko_X4_ask : Cond.code yX4_ask cX4_ask 2 none ∈ lw_good := kw_363
theorem hy_X4_ask : yX4_ask.cls ≠ "java/lang/invoke/MethodHandle" ∧ yX4_ask.cls ≠ "java/lang/invoke/VarHandle" ∧ (parseMethodDescriptor yX4_ask.desc).map (fun d => d.parameters.length) = some 1 := by decide +kernel
theorem ko_X4_append : Cond.code yX4_append cX4_append 2 none ∈ lw_good := kw_383
theorem hy_X4_append : yX4_append.cls ≠ "java/lang/invoke/MethodHandle" ∧ yX4_append.cls ≠ "java/lang/invoke/VarHandle" ∧ (parseMethodDescriptor yX4_append.desc).map (fun d => d.parameters.length) = some 1 := by decide +kernel
theorem ko_X4_empty : Cond.code yX4_empty cX4_empty 1 none ∈ lw_good := kw_391
theorem hy_X4_empty : yX4_empty.cls ≠ "java/lang/invoke/MethodHandle" ∧ yX4_empty.cls ≠ "java/lang/invoke/VarHandle" ∧ (parseMethodDescriptor yX4_empty.desc).map (fun d => d.parameters.length) = some 0 := by decide +kernel
theorem ko_X5_wrongsOf : Cond.code yX5_wrongsOf cX5_wrongsOf 4 (some .int) ∈ lw_good := kw_517
theorem hy_X5_wrongsOf : yX5_wrongsOf.cls ≠ "java/lang/invoke/MethodHandle" ∧ yX5_wrongsOf.cls ≠ "java/lang/invoke/VarHandle" ∧ (parseMethodDescriptor yX5_wrongsOf.desc).map (fun d => d.parameters.length) = some 1 := by decide +kernel
theorem ko_X5_together : Cond.code yX5_together cX5_together 3 (some .int) ∈ lw_good := kw_834
theorem hy_X5_together : yX5_together.cls ≠ "java/lang/invoke/MethodHandle" ∧ yX5_together.cls ≠ "java/lang/invoke/VarHandle" ∧ (parseMethodDescriptor yX5_together.desc).map (fun d => d.parameters.length) = some 0 := by decide +kernel
theorem ko_X5_rightsTo : Cond.code yX5_rightsTo cX5_rightsTo 5 (some .int) ∈ lw_good := kw_710
theorem hy_X5_rightsTo : yX5_rightsTo.cls ≠ "java/lang/invoke/MethodHandle" ∧ yX5_rightsTo.cls ≠ "java/lang/invoke/VarHandle" ∧ (parseMethodDescriptor yX5_rightsTo.desc).map (fun d => d.parameters.length) = some 2 := by decide +kernel
theorem ko_X5_fillRests : Cond.code yX5_fillRests cX5_fillRests 4 none ∈ lw_good := kw_505
theorem hy_X5_fillRests : yX5_fillRests.cls ≠ "java/lang/invoke/MethodHandle" ∧ yX5_fillRests.cls ≠ "java/lang/invoke/VarHandle" ∧ (parseMethodDescriptor yX5_fillRests.desc).map (fun d => d.parameters.length) = some 2 := by decide +kernel
theorem ko_X5_rankIn : Cond.code yX5_rankIn cX5_rankIn 5 (some .int) ∈ lw_good := kw_509
theorem hy_X5_rankIn : yX5_rankIn.cls ≠ "java/lang/invoke/MethodHandle" ∧ yX5_rankIn.cls ≠ "java/lang/invoke/VarHandle" ∧ (parseMethodDescriptor yX5_rankIn.desc).map (fun d => d.parameters.length) = some 2 := by decide +kernel
theorem ko_X5_rankOf : Cond.code yX5_rankOf cX5_rankOf 2 (some .int) ∈ lw_good := kw_501
theorem hy_X5_rankOf : yX5_rankOf.cls ≠ "java/lang/invoke/MethodHandle" ∧ yX5_rankOf.cls ≠ "java/lang/invoke/VarHandle" ∧ (parseMethodDescriptor yX5_rankOf.desc).map (fun d => d.parameters.length) = some 1 := by decide +kernel
theorem ko_X5_passes : Cond.code yX5_passes cX5_passes 3 (some .boolean) ∈ lw_good := kw_513
theorem hy_X5_passes : yX5_passes.cls ≠ "java/lang/invoke/MethodHandle" ∧ yX5_passes.cls ≠ "java/lang/invoke/VarHandle" ∧ (parseMethodDescriptor yX5_passes.desc).map (fun d => d.parameters.length) = some 2 := by decide +kernel
theorem ko_X5_otherRanks : Cond.code yX5_otherRanks cX5_otherRanks 4 (some .int) ∈ lw_good := kw_751
theorem hy_X5_otherRanks : yX5_otherRanks.cls ≠ "java/lang/invoke/MethodHandle" ∧ yX5_otherRanks.cls ≠ "java/lang/invoke/VarHandle" ∧ (parseMethodDescriptor yX5_otherRanks.desc).map (fun d => d.parameters.length) = some 1 := by decide +kernel
theorem ko_X5_otherPasses : Cond.code yX5_otherPasses cX5_otherPasses 5 (some .int) ∈ lw_good := kw_755
theorem hy_X5_otherPasses : yX5_otherPasses.cls ≠ "java/lang/invoke/MethodHandle" ∧ yX5_otherPasses.cls ≠ "java/lang/invoke/VarHandle" ∧ (parseMethodDescriptor yX5_otherPasses.desc).map (fun d => d.parameters.length) = some 1 := by decide +kernel
theorem ko_X6_oddPairs : Cond.code yX6_oddPairs cX6_oddPairs 4 (some .int) ∈ lw_good := kw_838
theorem hy_X6_oddPairs : yX6_oddPairs.cls ≠ "java/lang/invoke/MethodHandle" ∧ yX6_oddPairs.cls ≠ "java/lang/invoke/VarHandle" ∧ (parseMethodDescriptor yX6_oddPairs.desc).map (fun d => d.parameters.length) = some 0 := by decide +kernel
theorem ko_X7_isTaken : Cond.code yX7_isTaken cX7_isTaken 4 (some .boolean) ∈ lw_good := kw_426
theorem hy_X7_isTaken : yX7_isTaken.cls ≠ "java/lang/invoke/MethodHandle" ∧ yX7_isTaken.cls ≠ "java/lang/invoke/VarHandle" ∧ (parseMethodDescriptor yX7_isTaken.desc).map (fun d => d.parameters.length) = some 2 := by decide +kernel
theorem ko_X7_seat : Cond.code yX7_seat cX7_seat 3 none ∈ lw_good := kw_430
theorem hy_X7_seat : yX7_seat.cls ≠ "java/lang/invoke/MethodHandle" ∧ yX7_seat.cls ≠ "java/lang/invoke/VarHandle" ∧ (parseMethodDescriptor yX7_seat.desc).map (fun d => d.parameters.length) = some 2 := by decide +kernel
theorem ko_X8_waysToDraw : Cond.code yX8_waysToDraw cX8_waysToDraw 6 (some .long) ∈ lw_good := kw_700
theorem hy_X8_waysToDraw : yX8_waysToDraw.cls ≠ "java/lang/invoke/MethodHandle" ∧ yX8_waysToDraw.cls ≠ "java/lang/invoke/VarHandle" ∧ (parseMethodDescriptor yX8_waysToDraw.desc).map (fun d => d.parameters.length) = some 2 := by decide +kernel
theorem ko_X8_reckonGains : Cond.code yX8_reckonGains cX8_reckonGains 10 none ∈ lw_good := kw_695
theorem hy_X8_reckonGains : yX8_reckonGains.cls ≠ "java/lang/invoke/MethodHandle" ∧ yX8_reckonGains.cls ≠ "java/lang/invoke/VarHandle" ∧ (parseMethodDescriptor yX8_reckonGains.desc).map (fun d => d.parameters.length) = some 2 := by decide +kernel
theorem ko_X9_renew : Cond.code yX9_renew cX9_renew 3 none ∈ lw_good := kw_782
theorem hy_X9_renew : yX9_renew.cls ≠ "java/lang/invoke/MethodHandle" ∧ yX9_renew.cls ≠ "java/lang/invoke/VarHandle" ∧ (parseMethodDescriptor yX9_renew.desc).map (fun d => d.parameters.length) = some 2 := by decide +kernel
theorem ko_X9_findingAt : Cond.code yX9_findingAt cX9_findingAt 3 (some .int) ∈ lw_good := kw_796
theorem hy_X9_findingAt : yX9_findingAt.cls ≠ "java/lang/invoke/MethodHandle" ∧ yX9_findingAt.cls ≠ "java/lang/invoke/VarHandle" ∧ (parseMethodDescriptor yX9_findingAt.desc).map (fun d => d.parameters.length) = some 2 := by decide +kernel
theorem ko_X9_holds : Cond.code yX9_holds cX9_holds 3 (some .boolean) ∈ lw_good := kw_814
theorem hy_X9_holds : yX9_holds.cls ≠ "java/lang/invoke/MethodHandle" ∧ yX9_holds.cls ≠ "java/lang/invoke/VarHandle" ∧ (parseMethodDescriptor yX9_holds.desc).map (fun d => d.parameters.length) = some 2 := by decide +kernel
theorem ko_X9_store : Cond.code yX9_store cX9_store 3 none ∈ lw_good := kw_801
theorem hy_X9_store : yX9_store.cls ≠ "java/lang/invoke/MethodHandle" ∧ yX9_store.cls ≠ "java/lang/invoke/VarHandle" ∧ (parseMethodDescriptor yX9_store.desc).map (fun d => d.parameters.length) = some 2 := by decide +kernel
theorem ko_X10_latestTime : Cond.code yX10_latestTime cX10_latestTime 1 (some .int) ∈ lw_good := kw_446
theorem hy_X10_latestTime : yX10_latestTime.cls ≠ "java/lang/invoke/MethodHandle" ∧ yX10_latestTime.cls ≠ "java/lang/invoke/VarHandle" ∧ (parseMethodDescriptor yX10_latestTime.desc).map (fun d => d.parameters.length) = some 0 := by decide +kernel
theorem ko_X10_countOn : Cond.code yX10_countOn cX10_countOn 1 none ∈ lw_good := kw_418
theorem hy_X10_countOn : yX10_countOn.cls ≠ "java/lang/invoke/MethodHandle" ∧ yX10_countOn.cls ≠ "java/lang/invoke/VarHandle" ∧ (parseMethodDescriptor yX10_countOn.desc).map (fun d => d.parameters.length) = some 0 := by decide +kernel
theorem ko_X10_tell : Cond.code yX10_tell cX10_tell 5 none ∈ lw_good := kw_450
theorem hy_X10_tell : yX10_tell.cls ≠ "java/lang/invoke/MethodHandle" ∧ yX10_tell.cls ≠ "java/lang/invoke/VarHandle" ∧ (parseMethodDescriptor yX10_tell.desc).map (fun d => d.parameters.length) = some 4 := by decide +kernel
theorem ko_X10_lookAsOf : Cond.code yX10_lookAsOf cX10_lookAsOf 3 none ∈ lw_good := kw_411
theorem hy_X10_lookAsOf : yX10_lookAsOf.cls ≠ "java/lang/invoke/MethodHandle" ∧ yX10_lookAsOf.cls ≠ "java/lang/invoke/VarHandle" ∧ (parseMethodDescriptor yX10_lookAsOf.desc).map (fun d => d.parameters.length) = some 1 := by decide +kernel
theorem ko_X11_questions : Cond.code yX11_questions cX11_questions 3 (some .int) ∈ lw_good := kw_356
theorem hy_X11_questions : yX11_questions.cls ≠ "java/lang/invoke/MethodHandle" ∧ yX11_questions.cls ≠ "java/lang/invoke/VarHandle" ∧ (parseMethodDescriptor yX11_questions.desc).map (fun d => d.parameters.length) = some 1 := by decide +kernel
theorem ko_X11_type : Cond.code yX11_type cX11_type 2 (some .int) ∈ lw_good := kw_379
theorem hy_X11_type : yX11_type.cls ≠ "java/lang/invoke/MethodHandle" ∧ yX11_type.cls ≠ "java/lang/invoke/VarHandle" ∧ (parseMethodDescriptor yX11_type.desc).map (fun d => d.parameters.length) = some 1 := by decide +kernel
theorem ko_X11_wipe : Cond.code yX11_wipe cX11_wipe 2 (some .int) ∈ lw_good := kw_387
theorem hy_X11_wipe : yX11_wipe.cls ≠ "java/lang/invoke/MethodHandle" ∧ yX11_wipe.cls ≠ "java/lang/invoke/VarHandle" ∧ (parseMethodDescriptor yX11_wipe.desc).map (fun d => d.parameters.length) = some 0 := by decide +kernel
theorem ko_X11_fault : Cond.code yX11_fault cX11_fault 1 (some .int) ∈ lw_good := kw_395
theorem hy_X11_fault : yX11_fault.cls ≠ "java/lang/invoke/MethodHandle" ∧ yX11_fault.cls ≠ "java/lang/invoke/VarHandle" ∧ (parseMethodDescriptor yX11_fault.desc).map (fun d => d.parameters.length) = some 0 := by decide +kernel
theorem ko_X11_isQuestion : Cond.code yX11_isQuestion cX11_isQuestion 2 (some .boolean) ∈ lw_good := kw_403
theorem hy_X11_isQuestion : yX11_isQuestion.cls ≠ "java/lang/invoke/MethodHandle" ∧ yX11_isQuestion.cls ≠ "java/lang/invoke/VarHandle" ∧ (parseMethodDescriptor yX11_isQuestion.desc).map (fun d => d.parameters.length) = some 1 := by decide +kernel
theorem ko_X11_key : Cond.code yX11_key cX11_key 2 (some .int) ∈ lw_good := kw_399
theorem hy_X11_key : yX11_key.cls ≠ "java/lang/invoke/MethodHandle" ∧ yX11_key.cls ≠ "java/lang/invoke/VarHandle" ∧ (parseMethodDescriptor yX11_key.desc).map (fun d => d.parameters.length) = some 1 := by decide +kernel
theorem ko_X11_set : Cond.code yX11_set cX11_set 4 (some .int) ∈ lw_good := kw_407
theorem hy_X11_set : yX11_set.cls ≠ "java/lang/invoke/MethodHandle" ∧ yX11_set.cls ≠ "java/lang/invoke/VarHandle" ∧ (parseMethodDescriptor yX11_set.desc).map (fun d => d.parameters.length) = some 2 := by decide +kernel
theorem ko_X11_pupil : Cond.code yX11_pupil cX11_pupil 3 (some .int) ∈ lw_good := kw_422
theorem hy_X11_pupil : yX11_pupil.cls ≠ "java/lang/invoke/MethodHandle" ∧ yX11_pupil.cls ≠ "java/lang/invoke/VarHandle" ∧ (parseMethodDescriptor yX11_pupil.desc).map (fun d => d.parameters.length) = some 2 := by decide +kernel
theorem ko_X11_isPupil : Cond.code yX11_isPupil cX11_isPupil 2 (some .boolean) ∈ lw_good := kw_438
theorem hy_X11_isPupil : yX11_isPupil.cls ≠ "java/lang/invoke/MethodHandle" ∧ yX11_isPupil.cls ≠ "java/lang/invoke/VarHandle" ∧ (parseMethodDescriptor yX11_isPupil.desc).map (fun d => d.parameters.length) = some 1 := by decide +kernel
theorem ko_X11_isNextTime : Cond.code yX11_isNextTime cX11_isNextTime 2 (some .boolean) ∈ lw_good := kw_442
theorem hy_X11_isNextTime : yX11_isNextTime.cls ≠ "java/lang/invoke/MethodHandle" ∧ yX11_isNextTime.cls ≠ "java/lang/invoke/VarHandle" ∧ (parseMethodDescriptor yX11_isNextTime.desc).map (fun d => d.parameters.length) = some 1 := by decide +kernel
theorem ko_X11_answer : Cond.code yX11_answer cX11_answer 5 (some .int) ∈ lw_good := kw_434
theorem hy_X11_answer : yX11_answer.cls ≠ "java/lang/invoke/MethodHandle" ∧ yX11_answer.cls ≠ "java/lang/invoke/VarHandle" ∧ (parseMethodDescriptor yX11_answer.desc).map (fun d => d.parameters.length) = some 4 := by decide +kernel
theorem ko_X11_isSheet : Cond.code yX11_isSheet cX11_isSheet 1 (some .boolean) ∈ lw_good := kw_457
theorem hy_X11_isSheet : yX11_isSheet.cls ≠ "java/lang/invoke/MethodHandle" ∧ yX11_isSheet.cls ≠ "java/lang/invoke/VarHandle" ∧ (parseMethodDescriptor yX11_isSheet.desc).map (fun d => d.parameters.length) = some 1 := by decide +kernel
theorem ko_X11_find : Cond.code yX11_find cX11_find 2 (some .int) ∈ lw_good := kw_461
theorem hy_X11_find : yX11_find.cls ≠ "java/lang/invoke/MethodHandle" ∧ yX11_find.cls ≠ "java/lang/invoke/VarHandle" ∧ (parseMethodDescriptor yX11_find.desc).map (fun d => d.parameters.length) = some 1 := by decide +kernel
theorem ko_X11_read : Cond.code yX11_read cX11_read 6 (some .int) ∈ lw_good := kw_454
theorem hy_X11_read : yX11_read.cls ≠ "java/lang/invoke/MethodHandle" ∧ yX11_read.cls ≠ "java/lang/invoke/VarHandle" ∧ (parseMethodDescriptor yX11_read.desc).map (fun d => d.parameters.length) = some 3 := by decide +kernel
theorem ko_X11_said : Cond.code yX11_said cX11_said 3 (some .int) ∈ lw_good := kw_466
theorem hy_X11_said : yX11_said.cls ≠ "java/lang/invoke/MethodHandle" ∧ yX11_said.cls ≠ "java/lang/invoke/VarHandle" ∧ (parseMethodDescriptor yX11_said.desc).map (fun d => d.parameters.length) = some 2 := by decide +kernel
theorem ko_X11_isPair : Cond.code yX11_isPair cX11_isPair 3 (some .boolean) ∈ lw_good := kw_474
theorem hy_X11_isPair : yX11_isPair.cls ≠ "java/lang/invoke/MethodHandle" ∧ yX11_isPair.cls ≠ "java/lang/invoke/VarHandle" ∧ (parseMethodDescriptor yX11_isPair.desc).map (fun d => d.parameters.length) = some 2 := by decide +kernel
theorem ko_X11_beside : Cond.code yX11_beside cX11_beside 3 (some .int) ∈ lw_good := kw_470
theorem hy_X11_beside : yX11_beside.cls ≠ "java/lang/invoke/MethodHandle" ∧ yX11_beside.cls ≠ "java/lang/invoke/VarHandle" ∧ (parseMethodDescriptor yX11_beside.desc).map (fun d => d.parameters.length) = some 2 := by decide +kernel
theorem ko_X11_mark : Cond.code yX11_mark cX11_mark 3 (some .int) ∈ lw_good := kw_485
theorem hy_X11_mark : yX11_mark.cls ≠ "java/lang/invoke/MethodHandle" ∧ yX11_mark.cls ≠ "java/lang/invoke/VarHandle" ∧ (parseMethodDescriptor yX11_mark.desc).map (fun d => d.parameters.length) = some 2 := by decide +kernel
theorem ko_X11_shared : Cond.code yX11_shared cX11_shared 4 (some .int) ∈ lw_good := kw_521
theorem hy_X11_shared : yX11_shared.cls ≠ "java/lang/invoke/MethodHandle" ∧ yX11_shared.cls ≠ "java/lang/invoke/VarHandle" ∧ (parseMethodDescriptor yX11_shared.desc).map (fun d => d.parameters.length) = some 3 := by decide +kernel
theorem ko_X11_isPart : Cond.code yX11_isPart cX11_isPart 1 (some .boolean) ∈ lw_good := kw_574
theorem hy_X11_isPart : yX11_isPart.cls ≠ "java/lang/invoke/MethodHandle" ∧ yX11_isPart.cls ≠ "java/lang/invoke/VarHandle" ∧ (parseMethodDescriptor yX11_isPart.desc).map (fun d => d.parameters.length) = some 1 := by decide +kernel
theorem ko_X11_refusal : Cond.code yX11_refusal cX11_refusal 1 (some .long) ∈ lw_good := kw_577
theorem hy_X11_refusal : yX11_refusal.cls ≠ "java/lang/invoke/MethodHandle" ∧ yX11_refusal.cls ≠ "java/lang/invoke/VarHandle" ∧ (parseMethodDescriptor yX11_refusal.desc).map (fun d => d.parameters.length) = some 1 := by decide +kernel
theorem ko_X11_chance : Cond.code yX11_chance cX11_chance 4 (some .long) ∈ lw_good := kw_571
theorem hy_X11_chance : yX11_chance.cls ≠ "java/lang/invoke/MethodHandle" ∧ yX11_chance.cls ≠ "java/lang/invoke/VarHandle" ∧ (parseMethodDescriptor yX11_chance.desc).map (fun d => d.parameters.length) = some 3 := by decide +kernel
theorem ko_X11_seats : Cond.code yX11_seats cX11_seats 2 (some .int) ∈ lw_good := kw_587
theorem hy_X11_seats : yX11_seats.cls ≠ "java/lang/invoke/MethodHandle" ∧ yX11_seats.cls ≠ "java/lang/invoke/VarHandle" ∧ (parseMethodDescriptor yX11_seats.desc).map (fun d => d.parameters.length) = some 1 := by decide +kernel
theorem ko_X11_sources : Cond.code yX11_sources cX11_sources 1 (some .int) ∈ lw_good := kw_615
theorem hy_X11_sources : yX11_sources.cls ≠ "java/lang/invoke/MethodHandle" ∧ yX11_sources.cls ≠ "java/lang/invoke/VarHandle" ∧ (parseMethodDescriptor yX11_sources.desc).map (fun d => d.parameters.length) = some 0 := by decide +kernel
theorem ko_X11_from : Cond.code yX11_from cX11_from 3 (some .int) ∈ lw_good := kw_644
theorem hy_X11_from : yX11_from.cls ≠ "java/lang/invoke/MethodHandle" ∧ yX11_from.cls ≠ "java/lang/invoke/VarHandle" ∧ (parseMethodDescriptor yX11_from.desc).map (fun d => d.parameters.length) = some 2 := by decide +kernel
theorem ko_X11_chain : Cond.code yX11_chain cX11_chain 1 (some .int) ∈ lw_good := kw_669
theorem hy_X11_chain : yX11_chain.cls ≠ "java/lang/invoke/MethodHandle" ∧ yX11_chain.cls ≠ "java/lang/invoke/VarHandle" ∧ (parseMethodDescriptor yX11_chain.desc).map (fun d => d.parameters.length) = some 0 := by decide +kernel
theorem ko_X11_rubbed : Cond.code yX11_rubbed cX11_rubbed 3 (some .int) ∈ lw_good := kw_686
theorem hy_X11_rubbed : yX11_rubbed.cls ≠ "java/lang/invoke/MethodHandle" ∧ yX11_rubbed.cls ≠ "java/lang/invoke/VarHandle" ∧ (parseMethodDescriptor yX11_rubbed.desc).map (fun d => d.parameters.length) = some 2 := by decide +kernel
theorem ko_X11_gains : Cond.code yX11_gains cX11_gains 3 (some .long) ∈ lw_good := kw_691
theorem hy_X11_gains : yX11_gains.cls ≠ "java/lang/invoke/MethodHandle" ∧ yX11_gains.cls ≠ "java/lang/invoke/VarHandle" ∧ (parseMethodDescriptor yX11_gains.desc).map (fun d => d.parameters.length) = some 2 := by decide +kernel
theorem ko_X11_known : Cond.code yX11_known cX11_known 9 (some .int) ∈ lw_good := kw_705
theorem hy_X11_known : yX11_known.cls ≠ "java/lang/invoke/MethodHandle" ∧ yX11_known.cls ≠ "java/lang/invoke/VarHandle" ∧ (parseMethodDescriptor yX11_known.desc).map (fun d => d.parameters.length) = some 2 := by decide +kernel
theorem ko_X11_lead : Cond.code yX11_lead cX11_lead 8 (some .long) ∈ lw_good := kw_715
theorem hy_X11_lead : yX11_lead.cls ≠ "java/lang/invoke/MethodHandle" ∧ yX11_lead.cls ≠ "java/lang/invoke/VarHandle" ∧ (parseMethodDescriptor yX11_lead.desc).map (fun d => d.parameters.length) = some 3 := by decide +kernel
theorem ko_X11_rest : Cond.code yX11_rest cX11_rest 5 (some .long) ∈ lw_good := kw_720
theorem hy_X11_rest : yX11_rest.cls ≠ "java/lang/invoke/MethodHandle" ∧ yX11_rest.cls ≠ "java/lang/invoke/VarHandle" ∧ (parseMethodDescriptor yX11_rest.desc).map (fun d => d.parameters.length) = some 3 := by decide +kernel
theorem ko_X11_should : Cond.code yX11_should cX11_should 2 (some .int) ∈ lw_good := kw_733
theorem hy_X11_should : yX11_should.cls ≠ "java/lang/invoke/MethodHandle" ∧ yX11_should.cls ≠ "java/lang/invoke/VarHandle" ∧ (parseMethodDescriptor yX11_should.desc).map (fun d => d.parameters.length) = some 1 := by decide +kernel
theorem ko_X11_badly : Cond.code yX11_badly cX11_badly 4 (some .int) ∈ lw_good := kw_743
theorem hy_X11_badly : yX11_badly.cls ≠ "java/lang/invoke/MethodHandle" ∧ yX11_badly.cls ≠ "java/lang/invoke/VarHandle" ∧ (parseMethodDescriptor yX11_badly.desc).map (fun d => d.parameters.length) = some 0 := by decide +kernel
theorem ko_X11_without : Cond.code yX11_without cX11_without 3 (some .int) ∈ lw_good := kw_747
theorem hy_X11_without : yX11_without.cls ≠ "java/lang/invoke/MethodHandle" ∧ yX11_without.cls ≠ "java/lang/invoke/VarHandle" ∧ (parseMethodDescriptor yX11_without.desc).map (fun d => d.parameters.length) = some 2 := by decide +kernel
theorem ko_X11_hard : Cond.code yX11_hard cX11_hard 3 (some .long) ∈ lw_good := kw_761
theorem hy_X11_hard : yX11_hard.cls ≠ "java/lang/invoke/MethodHandle" ∧ yX11_hard.cls ≠ "java/lang/invoke/VarHandle" ∧ (parseMethodDescriptor yX11_hard.desc).map (fun d => d.parameters.length) = some 2 := by decide +kernel
theorem ko_X11_parts : Cond.code yX11_parts cX11_parts 3 (some .long) ∈ lw_good := kw_765
theorem hy_X11_parts : yX11_parts.cls ≠ "java/lang/invoke/MethodHandle" ∧ yX11_parts.cls ≠ "java/lang/invoke/VarHandle" ∧ (parseMethodDescriptor yX11_parts.desc).map (fun d => d.parameters.length) = some 2 := by decide +kernel
theorem ko_X11_sheet : Cond.code yX11_sheet cX11_sheet 4 (some .int) ∈ lw_good := kw_778
theorem hy_X11_sheet : yX11_sheet.cls ≠ "java/lang/invoke/MethodHandle" ∧ yX11_sheet.cls ≠ "java/lang/invoke/VarHandle" ∧ (parseMethodDescriptor yX11_sheet.desc).map (fun d => d.parameters.length) = some 3 := by decide +kernel
theorem ko_X11_lose : Cond.code yX11_lose cX11_lose 2 (some .int) ∈ lw_good := kw_788
theorem hy_X11_lose : yX11_lose.cls ≠ "java/lang/invoke/MethodHandle" ∧ yX11_lose.cls ≠ "java/lang/invoke/VarHandle" ∧ (parseMethodDescriptor yX11_lose.desc).map (fun d => d.parameters.length) = some 1 := by decide +kernel
theorem ko_X11_put : Cond.code yX11_put cX11_put 6 (some .int) ∈ lw_good := kw_792
theorem hy_X11_put : yX11_put.cls ≠ "java/lang/invoke/MethodHandle" ∧ yX11_put.cls ≠ "java/lang/invoke/VarHandle" ∧ (parseMethodDescriptor yX11_put.desc).map (fun d => d.parameters.length) = some 4 := by decide +kernel
theorem ko_X11_get : Cond.code yX11_get cX11_get 5 (some .int) ∈ lw_good := kw_805
theorem hy_X11_get : yX11_get.cls ≠ "java/lang/invoke/MethodHandle" ∧ yX11_get.cls ≠ "java/lang/invoke/VarHandle" ∧ (parseMethodDescriptor yX11_get.desc).map (fun d => d.parameters.length) = some 3 := by decide +kernel
theorem ko_X11_copy : Cond.code yX11_copy cX11_copy 8 (some .int) ∈ lw_good := kw_810
theorem hy_X11_copy : yX11_copy.cls ≠ "java/lang/invoke/MethodHandle" ∧ yX11_copy.cls ≠ "java/lang/invoke/VarHandle" ∧ (parseMethodDescriptor yX11_copy.desc).map (fun d => d.parameters.length) = some 5 := by decide +kernel
theorem ko_X11_write : Cond.code yX11_write cX11_write 6 (some .int) ∈ lw_good := kw_821
theorem hy_X11_write : yX11_write.cls ≠ "java/lang/invoke/MethodHandle" ∧ yX11_write.cls ≠ "java/lang/invoke/VarHandle" ∧ (parseMethodDescriptor yX11_write.desc).map (fun d => d.parameters.length) = some 2 := by decide +kernel
theorem ko_X11_answersGiven : Cond.code yX11_answersGiven cX11_answersGiven 4 (some .int) ∈ lw_good := kw_830
theorem hy_X11_answersGiven : yX11_answersGiven.cls ≠ "java/lang/invoke/MethodHandle" ∧ yX11_answersGiven.cls ≠ "java/lang/invoke/VarHandle" ∧ (parseMethodDescriptor yX11_answersGiven.desc).map (fun d => d.parameters.length) = some 0 := by decide +kernel
theorem ko_X11_count : Cond.code yX11_count cX11_count 2 (some .int) ∈ lw_good := kw_826
theorem hy_X11_count : yX11_count.cls ≠ "java/lang/invoke/MethodHandle" ∧ yX11_count.cls ≠ "java/lang/invoke/VarHandle" ∧ (parseMethodDescriptor yX11_count.desc).map (fun d => d.parameters.length) = some 1 := by decide +kernel
theorem ko_X11_withPupil : Cond.code yX11_withPupil cX11_withPupil 7 (some .long) ∈ lw_good := kw_851
theorem hy_X11_withPupil : yX11_withPupil.cls ≠ "java/lang/invoke/MethodHandle" ∧ yX11_withPupil.cls ≠ "java/lang/invoke/VarHandle" ∧ (parseMethodDescriptor yX11_withPupil.desc).map (fun d => d.parameters.length) = some 2 := by decide +kernel
theorem ko_X11_withQuestion : Cond.code yX11_withQuestion cX11_withQuestion 6 (some .long) ∈ lw_good := kw_861
theorem hy_X11_withQuestion : yX11_withQuestion.cls ≠ "java/lang/invoke/MethodHandle" ∧ yX11_withQuestion.cls ≠ "java/lang/invoke/VarHandle" ∧ (parseMethodDescriptor yX11_withQuestion.desc).map (fun d => d.parameters.length) = some 2 := by decide +kernel
theorem ko_X11_digest : Cond.code yX11_digest cX11_digest 4 (some .long) ∈ lw_good := kw_843
theorem hy_X11_digest : yX11_digest.cls ≠ "java/lang/invoke/MethodHandle" ∧ yX11_digest.cls ≠ "java/lang/invoke/VarHandle" ∧ (parseMethodDescriptor yX11_digest.desc).map (fun d => d.parameters.length) = some 0 := by decide +kernel
theorem ko_X12_in : Cond.code yX12_in cX12_in 3 (some .boolean) ∈ lw_good := kw_972
theorem hy_X12_in : yX12_in.cls ≠ "java/lang/invoke/MethodHandle" ∧ yX12_in.cls ≠ "java/lang/invoke/VarHandle" ∧ (parseMethodDescriptor yX12_in.desc).map (fun d => d.parameters.length) = some 3 := by decide +kernel
theorem ko_X12_isIn : Cond.code yX12_isIn cX12_isIn 2 (some .boolean) ∈ lw_good := kw_1170
theorem hy_X12_isIn : yX12_isIn.cls ≠ "java/lang/invoke/MethodHandle" ∧ yX12_isIn.cls ≠ "java/lang/invoke/VarHandle" ∧ (parseMethodDescriptor yX12_isIn.desc).map (fun d => d.parameters.length) = some 2 := by decide +kernel
theorem ko_X12_ones : Cond.code yX12_ones cX12_ones 3 (some .int) ∈ lw_good := kw_1163
theorem hy_X12_ones : yX12_ones.cls ≠ "java/lang/invoke/MethodHandle" ∧ yX12_ones.cls ≠ "java/lang/invoke/VarHandle" ∧ (parseMethodDescriptor yX12_ones.desc).map (fun d => d.parameters.length) = some 1 := by decide +kernel
theorem ko_X12_no : Cond.code yX12_no cX12_no 1 (some .long) ∈ lw_good := kw_1127
theorem hy_X12_no : yX12_no.cls ≠ "java/lang/invoke/MethodHandle" ∧ yX12_no.cls ≠ "java/lang/invoke/VarHandle" ∧ (parseMethodDescriptor yX12_no.desc).map (fun d => d.parameters.length) = some 1 := by decide +kernel
theorem ko_X12_lowest : Cond.code yX12_lowest cX12_lowest 11 (some .long) ∈ lw_good := kw_1131
theorem hy_X12_lowest : yX12_lowest.cls ≠ "java/lang/invoke/MethodHandle" ∧ yX12_lowest.cls ≠ "java/lang/invoke/VarHandle" ∧ (parseMethodDescriptor yX12_lowest.desc).map (fun d => d.parameters.length) = some 3 := by decide +kernel
theorem ko_X12_choose : Cond.code yX12_choose cX12_choose 5 (some .long) ∈ lw_good := kw_1205
theorem hy_X12_choose : yX12_choose.cls ≠ "java/lang/invoke/MethodHandle" ∧ yX12_choose.cls ≠ "java/lang/invoke/VarHandle" ∧ (parseMethodDescriptor yX12_choose.desc).map (fun d => d.parameters.length) = some 2 := by decide +kernel
theorem ko_X12_isQuestion : Cond.code yX12_isQuestion cX12_isQuestion 2 (some .boolean) ∈ lw_good := kw_996
theorem hy_X12_isQuestion : yX12_isQuestion.cls ≠ "java/lang/invoke/MethodHandle" ∧ yX12_isQuestion.cls ≠ "java/lang/invoke/VarHandle" ∧ (parseMethodDescriptor yX12_isQuestion.desc).map (fun d => d.parameters.length) = some 1 := by decide +kernel
theorem ko_X12_questions : Cond.code yX12_questions cX12_questions 3 (some .int) ∈ lw_good := kw_969
theorem hy_X12_questions : yX12_questions.cls ≠ "java/lang/invoke/MethodHandle" ∧ yX12_questions.cls ≠ "java/lang/invoke/VarHandle" ∧ (parseMethodDescriptor yX12_questions.desc).map (fun d => d.parameters.length) = some 1 := by decide +kernel
theorem ko_X12_type : Cond.code yX12_type cX12_type 2 (some .int) ∈ lw_good := kw_976
theorem hy_X12_type : yX12_type.cls ≠ "java/lang/invoke/MethodHandle" ∧ yX12_type.cls ≠ "java/lang/invoke/VarHandle" ∧ (parseMethodDescriptor yX12_type.desc).map (fun d => d.parameters.length) = some 1 := by decide +kernel
theorem ko_X12_wipe : Cond.code yX12_wipe cX12_wipe 2 (some .int) ∈ lw_good := kw_980
theorem hy_X12_wipe : yX12_wipe.cls ≠ "java/lang/invoke/MethodHandle" ∧ yX12_wipe.cls ≠ "java/lang/invoke/VarHandle" ∧ (parseMethodDescriptor yX12_wipe.desc).map (fun d => d.parameters.length) = some 0 := by decide +kernel
theorem ko_X12_faultNow : Cond.code yX12_faultNow cX12_faultNow 3 (some .int) ∈ lw_good := kw_988
theorem hy_X12_faultNow : yX12_faultNow.cls ≠ "java/lang/invoke/MethodHandle" ∧ yX12_faultNow.cls ≠ "java/lang/invoke/VarHandle" ∧ (parseMethodDescriptor yX12_faultNow.desc).map (fun d => d.parameters.length) = some 0 := by decide +kernel
theorem ko_X12_keyNow : Cond.code yX12_keyNow cX12_keyNow 3 (some .int) ∈ lw_good := kw_1004
theorem hy_X12_keyNow : yX12_keyNow.cls ≠ "java/lang/invoke/MethodHandle" ∧ yX12_keyNow.cls ≠ "java/lang/invoke/VarHandle" ∧ (parseMethodDescriptor yX12_keyNow.desc).map (fun d => d.parameters.length) = some 0 := by decide +kernel
theorem ko_X12_fault : Cond.code yX12_fault cX12_fault 1 (some .int) ∈ lw_good := kw_984
theorem hy_X12_fault : yX12_fault.cls ≠ "java/lang/invoke/MethodHandle" ∧ yX12_fault.cls ≠ "java/lang/invoke/VarHandle" ∧ (parseMethodDescriptor yX12_fault.desc).map (fun d => d.parameters.length) = some 0 := by decide +kernel
theorem ko_X12_keyOf : Cond.code yX12_keyOf cX12_keyOf 3 (some .int) ∈ lw_good := kw_1000
theorem hy_X12_keyOf : yX12_keyOf.cls ≠ "java/lang/invoke/MethodHandle" ∧ yX12_keyOf.cls ≠ "java/lang/invoke/VarHandle" ∧ (parseMethodDescriptor yX12_keyOf.desc).map (fun d => d.parameters.length) = some 1 := by decide +kernel
theorem ko_X12_key : Cond.code yX12_key cX12_key 2 (some .int) ∈ lw_good := kw_992
theorem hy_X12_key : yX12_key.cls ≠ "java/lang/invoke/MethodHandle" ∧ yX12_key.cls ≠ "java/lang/invoke/VarHandle" ∧ (parseMethodDescriptor yX12_key.desc).map (fun d => d.parameters.length) = some 1 := by decide +kernel
theorem ko_X12_set : Cond.code yX12_set cX12_set 4 (some .int) ∈ lw_good := kw_1008
theorem hy_X12_set : yX12_set.cls ≠ "java/lang/invoke/MethodHandle" ∧ yX12_set.cls ≠ "java/lang/invoke/VarHandle" ∧ (parseMethodDescriptor yX12_set.desc).map (fun d => d.parameters.length) = some 2 := by decide +kernel
theorem ko_X12_isPupil : Cond.code yX12_isPupil cX12_isPupil 2 (some .boolean) ∈ lw_good := kw_1024
theorem hy_X12_isPupil : yX12_isPupil.cls ≠ "java/lang/invoke/MethodHandle" ∧ yX12_isPupil.cls ≠ "java/lang/invoke/VarHandle" ∧ (parseMethodDescriptor yX12_isPupil.desc).map (fun d => d.parameters.length) = some 1 := by decide +kernel
theorem ko_X12_pupil : Cond.code yX12_pupil cX12_pupil 4 (some .int) ∈ lw_good := kw_1012
theorem hy_X12_pupil : yX12_pupil.cls ≠ "java/lang/invoke/MethodHandle" ∧ yX12_pupil.cls ≠ "java/lang/invoke/VarHandle" ∧ (parseMethodDescriptor yX12_pupil.desc).map (fun d => d.parameters.length) = some 2 := by decide +kernel
theorem ko_X12_lastTime : Cond.code yX12_lastTime cX12_lastTime 1 (some .int) ∈ lw_good := kw_1028
theorem hy_X12_lastTime : yX12_lastTime.cls ≠ "java/lang/invoke/MethodHandle" ∧ yX12_lastTime.cls ≠ "java/lang/invoke/VarHandle" ∧ (parseMethodDescriptor yX12_lastTime.desc).map (fun d => d.parameters.length) = some 0 := by decide +kernel
theorem ko_X12_more : Cond.code yX12_more cX12_more 5 (some .int) ∈ lw_good := kw_1020
theorem hy_X12_more : yX12_more.cls ≠ "java/lang/invoke/MethodHandle" ∧ yX12_more.cls ≠ "java/lang/invoke/VarHandle" ∧ (parseMethodDescriptor yX12_more.desc).map (fun d => d.parameters.length) = some 4 := by decide +kernel
theorem ko_X12_answer : Cond.code yX12_answer cX12_answer 5 (some .int) ∈ lw_good := kw_1016
theorem hy_X12_answer : yX12_answer.cls ≠ "java/lang/invoke/MethodHandle" ∧ yX12_answer.cls ≠ "java/lang/invoke/VarHandle" ∧ (parseMethodDescriptor yX12_answer.desc).map (fun d => d.parameters.length) = some 4 := by decide +kernel
theorem ko_X12_isSheet : Cond.code yX12_isSheet cX12_isSheet 1 (some .boolean) ∈ lw_good := kw_1035
theorem hy_X12_isSheet : yX12_isSheet.cls ≠ "java/lang/invoke/MethodHandle" ∧ yX12_isSheet.cls ≠ "java/lang/invoke/VarHandle" ∧ (parseMethodDescriptor yX12_isSheet.desc).map (fun d => d.parameters.length) = some 1 := by decide +kernel
theorem ko_X12_meets : Cond.code yX12_meets cX12_meets 2 (some .int) ∈ lw_good := kw_1039
theorem hy_X12_meets : yX12_meets.cls ≠ "java/lang/invoke/MethodHandle" ∧ yX12_meets.cls ≠ "java/lang/invoke/VarHandle" ∧ (parseMethodDescriptor yX12_meets.desc).map (fun d => d.parameters.length) = some 1 := by decide +kernel
theorem ko_X12_read : Cond.code yX12_read cX12_read 5 (some .int) ∈ lw_good := kw_1032
theorem hy_X12_read : yX12_read.cls ≠ "java/lang/invoke/MethodHandle" ∧ yX12_read.cls ≠ "java/lang/invoke/VarHandle" ∧ (parseMethodDescriptor yX12_read.desc).map (fun d => d.parameters.length) = some 3 := by decide +kernel
theorem ko_X12_lays : Cond.code yX12_lays cX12_lays 8 none ∈ lw_good := kw_1047
theorem hy_X12_lays : yX12_lays.cls ≠ "java/lang/invoke/MethodHandle" ∧ yX12_lays.cls ≠ "java/lang/invoke/VarHandle" ∧ (parseMethodDescriptor yX12_lays.desc).map (fun d => d.parameters.length) = some 0 := by decide +kernel
theorem ko_X12_isRight : Cond.code yX12_isRight cX12_isRight 3 (some .boolean) ∈ lw_good := kw_1078
theorem hy_X12_isRight : yX12_isRight.cls ≠ "java/lang/invoke/MethodHandle" ∧ yX12_isRight.cls ≠ "java/lang/invoke/VarHandle" ∧ (parseMethodDescriptor yX12_isRight.desc).map (fun d => d.parameters.length) = some 2 := by decide +kernel
theorem ko_X12_isWrong : Cond.code yX12_isWrong cX12_isWrong 3 (some .boolean) ∈ lw_good := kw_1098
theorem hy_X12_isWrong : yX12_isWrong.cls ≠ "java/lang/invoke/MethodHandle" ∧ yX12_isWrong.cls ≠ "java/lang/invoke/VarHandle" ∧ (parseMethodDescriptor yX12_isWrong.desc).map (fun d => d.parameters.length) = some 2 := by decide +kernel
theorem ko_X12_said : Cond.code yX12_said cX12_said 3 (some .int) ∈ lw_good := kw_1043
theorem hy_X12_said : yX12_said.cls ≠ "java/lang/invoke/MethodHandle" ∧ yX12_said.cls ≠ "java/lang/invoke/VarHandle" ∧ (parseMethodDescriptor yX12_said.desc).map (fun d => d.parameters.length) = some 2 := by decide +kernel
theorem ko_X12_areTwo : Cond.code yX12_areTwo cX12_areTwo 3 (some .boolean) ∈ lw_good := kw_1055
theorem hy_X12_areTwo : yX12_areTwo.cls ≠ "java/lang/invoke/MethodHandle" ∧ yX12_areTwo.cls ≠ "java/lang/invoke/VarHandle" ∧ (parseMethodDescriptor yX12_areTwo.desc).map (fun d => d.parameters.length) = some 2 := by decide +kernel
theorem ko_X12_amount : Cond.code yX12_amount cX12_amount 1 (some .int) ∈ lw_good := kw_1062
theorem hy_X12_amount : yX12_amount.cls ≠ "java/lang/invoke/MethodHandle" ∧ yX12_amount.cls ≠ "java/lang/invoke/VarHandle" ∧ (parseMethodDescriptor yX12_amount.desc).map (fun d => d.parameters.length) = some 1 := by decide +kernel
theorem ko_X12_areBeside : Cond.code yX12_areBeside cX12_areBeside 3 (some .boolean) ∈ lw_good := kw_1059
theorem hy_X12_areBeside : yX12_areBeside.cls ≠ "java/lang/invoke/MethodHandle" ∧ yX12_areBeside.cls ≠ "java/lang/invoke/VarHandle" ∧ (parseMethodDescriptor yX12_areBeside.desc).map (fun d => d.parameters.length) = some 2 := by decide +kernel
theorem ko_X12_beside : Cond.code yX12_beside cX12_beside 3 (some .int) ∈ lw_good := kw_1051
theorem hy_X12_beside : yX12_beside.cls ≠ "java/lang/invoke/MethodHandle" ∧ yX12_beside.cls ≠ "java/lang/invoke/VarHandle" ∧ (parseMethodDescriptor yX12_beside.desc).map (fun d => d.parameters.length) = some 2 := by decide +kernel
theorem ko_X12_markBut : Cond.code yX12_markBut cX12_markBut 5 (some .int) ∈ lw_good := kw_1074
theorem hy_X12_markBut : yX12_markBut.cls ≠ "java/lang/invoke/MethodHandle" ∧ yX12_markBut.cls ≠ "java/lang/invoke/VarHandle" ∧ (parseMethodDescriptor yX12_markBut.desc).map (fun d => d.parameters.length) = some 2 := by decide +kernel
theorem ko_X12_rankBut : Cond.code yX12_rankBut cX12_rankBut 5 (some .int) ∈ lw_good := kw_1082
theorem hy_X12_rankBut : yX12_rankBut.cls ≠ "java/lang/invoke/MethodHandle" ∧ yX12_rankBut.cls ≠ "java/lang/invoke/VarHandle" ∧ (parseMethodDescriptor yX12_rankBut.desc).map (fun d => d.parameters.length) = some 2 := by decide +kernel
theorem ko_X12_openBut : Cond.code yX12_openBut cX12_openBut 4 (some .int) ∈ lw_good := kw_1090
theorem hy_X12_openBut : yX12_openBut.cls ≠ "java/lang/invoke/MethodHandle" ∧ yX12_openBut.cls ≠ "java/lang/invoke/VarHandle" ∧ (parseMethodDescriptor yX12_openBut.desc).map (fun d => d.parameters.length) = some 1 := by decide +kernel
theorem ko_X12_passesBut : Cond.code yX12_passesBut cX12_passesBut 3 (some .boolean) ∈ lw_good := kw_1086
theorem hy_X12_passesBut : yX12_passesBut.cls ≠ "java/lang/invoke/MethodHandle" ∧ yX12_passesBut.cls ≠ "java/lang/invoke/VarHandle" ∧ (parseMethodDescriptor yX12_passesBut.desc).map (fun d => d.parameters.length) = some 2 := by decide +kernel
theorem ko_X12_wrongs : Cond.code yX12_wrongs cX12_wrongs 4 (some .int) ∈ lw_good := kw_1094
theorem hy_X12_wrongs : yX12_wrongs.cls ≠ "java/lang/invoke/MethodHandle" ∧ yX12_wrongs.cls ≠ "java/lang/invoke/VarHandle" ∧ (parseMethodDescriptor yX12_wrongs.desc).map (fun d => d.parameters.length) = some 1 := by decide +kernel
theorem ko_X12_markOf : Cond.code yX12_markOf cX12_markOf 3 (some .int) ∈ lw_good := kw_1070
theorem hy_X12_markOf : yX12_markOf.cls ≠ "java/lang/invoke/MethodHandle" ∧ yX12_markOf.cls ≠ "java/lang/invoke/VarHandle" ∧ (parseMethodDescriptor yX12_markOf.desc).map (fun d => d.parameters.length) = some 2 := by decide +kernel
theorem ko_X12_mark : Cond.code yX12_mark cX12_mark 3 (some .int) ∈ lw_good := kw_1066
theorem hy_X12_mark : yX12_mark.cls ≠ "java/lang/invoke/MethodHandle" ∧ yX12_mark.cls ≠ "java/lang/invoke/VarHandle" ∧ (parseMethodDescriptor yX12_mark.desc).map (fun d => d.parameters.length) = some 2 := by decide +kernel
theorem ko_X12_sharedOf : Cond.code yX12_sharedOf cX12_sharedOf 5 (some .int) ∈ lw_good := kw_1106
theorem hy_X12_sharedOf : yX12_sharedOf.cls ≠ "java/lang/invoke/MethodHandle" ∧ yX12_sharedOf.cls ≠ "java/lang/invoke/VarHandle" ∧ (parseMethodDescriptor yX12_sharedOf.desc).map (fun d => d.parameters.length) = some 2 := by decide +kernel
theorem ko_X12_bothOf : Cond.code yX12_bothOf cX12_bothOf 5 (some .int) ∈ lw_good := kw_1110
theorem hy_X12_bothOf : yX12_bothOf.cls ≠ "java/lang/invoke/MethodHandle" ∧ yX12_bothOf.cls ≠ "java/lang/invoke/VarHandle" ∧ (parseMethodDescriptor yX12_bothOf.desc).map (fun d => d.parameters.length) = some 2 := by decide +kernel
theorem ko_X12_laysChance : Cond.code yX12_laysChance cX12_laysChance 12 (some .boolean) ∈ lw_good := kw_1118
theorem hy_X12_laysChance : yX12_laysChance.cls ≠ "java/lang/invoke/MethodHandle" ∧ yX12_laysChance.cls ≠ "java/lang/invoke/VarHandle" ∧ (parseMethodDescriptor yX12_laysChance.desc).map (fun d => d.parameters.length) = some 2 := by decide +kernel
theorem ko_X12_areOdd : Cond.code yX12_areOdd cX12_areOdd 3 (some .boolean) ∈ lw_good := kw_1114
theorem hy_X12_areOdd : yX12_areOdd.cls ≠ "java/lang/invoke/MethodHandle" ∧ yX12_areOdd.cls ≠ "java/lang/invoke/VarHandle" ∧ (parseMethodDescriptor yX12_areOdd.desc).map (fun d => d.parameters.length) = some 2 := by decide +kernel
theorem ko_X12_shared : Cond.code yX12_shared cX12_shared 4 (some .int) ∈ lw_good := kw_1102
theorem hy_X12_shared : yX12_shared.cls ≠ "java/lang/invoke/MethodHandle" ∧ yX12_shared.cls ≠ "java/lang/invoke/VarHandle" ∧ (parseMethodDescriptor yX12_shared.desc).map (fun d => d.parameters.length) = some 3 := by decide +kernel
theorem ko_X12_chance : Cond.code yX12_chance cX12_chance 4 (some .long) ∈ lw_good := kw_1124
theorem hy_X12_chance : yX12_chance.cls ≠ "java/lang/invoke/MethodHandle" ∧ yX12_chance.cls ≠ "java/lang/invoke/VarHandle" ∧ (parseMethodDescriptor yX12_chance.desc).map (fun d => d.parameters.length) = some 3 := by decide +kernel
theorem ko_X12_besideNow : Cond.code yX12_besideNow cX12_besideNow 4 (some .int) ∈ lw_good := kw_1143
theorem hy_X12_besideNow : yX12_besideNow.cls ≠ "java/lang/invoke/MethodHandle" ∧ yX12_besideNow.cls ≠ "java/lang/invoke/VarHandle" ∧ (parseMethodDescriptor yX12_besideNow.desc).map (fun d => d.parameters.length) = some 0 := by decide +kernel
theorem ko_X12_turns : Cond.code yX12_turns cX12_turns 6 (some .boolean) ∈ lw_good := kw_1147
theorem hy_X12_turns : yX12_turns.cls ≠ "java/lang/invoke/MethodHandle" ∧ yX12_turns.cls ≠ "java/lang/invoke/VarHandle" ∧ (parseMethodDescriptor yX12_turns.desc).map (fun d => d.parameters.length) = some 0 := by decide +kernel
theorem ko_X12_seatsNow : Cond.code yX12_seatsNow cX12_seatsNow 8 (some .int) ∈ lw_good := kw_1139
theorem hy_X12_seatsNow : yX12_seatsNow.cls ≠ "java/lang/invoke/MethodHandle" ∧ yX12_seatsNow.cls ≠ "java/lang/invoke/VarHandle" ∧ (parseMethodDescriptor yX12_seatsNow.desc).map (fun d => d.parameters.length) = some 1 := by decide +kernel
theorem ko_X12_seats : Cond.code yX12_seats cX12_seats 2 (some .int) ∈ lw_good := kw_1135
theorem hy_X12_seats : yX12_seats.cls ≠ "java/lang/invoke/MethodHandle" ∧ yX12_seats.cls ≠ "java/lang/invoke/VarHandle" ∧ (parseMethodDescriptor yX12_seats.desc).map (fun d => d.parameters.length) = some 1 := by decide +kernel
theorem ko_X12_laysPairs : Cond.code yX12_laysPairs cX12_laysPairs 3 none ∈ lw_good := kw_1160
theorem hy_X12_laysPairs : yX12_laysPairs.cls ≠ "java/lang/invoke/MethodHandle" ∧ yX12_laysPairs.cls ≠ "java/lang/invoke/VarHandle" ∧ (parseMethodDescriptor yX12_laysPairs.desc).map (fun d => d.parameters.length) = some 0 := by decide +kernel
theorem ko_X12_isPair : Cond.code yX12_isPair cX12_isPair 3 (some .boolean) ∈ lw_good := kw_1167
theorem hy_X12_isPair : yX12_isPair.cls ≠ "java/lang/invoke/MethodHandle" ∧ yX12_isPair.cls ≠ "java/lang/invoke/VarHandle" ∧ (parseMethodDescriptor yX12_isPair.desc).map (fun d => d.parameters.length) = some 2 := by decide +kernel
theorem ko_X12_sourcesNow : Cond.code yX12_sourcesNow cX12_sourcesNow 6 (some .int) ∈ lw_good := kw_1156
theorem hy_X12_sourcesNow : yX12_sourcesNow.cls ≠ "java/lang/invoke/MethodHandle" ∧ yX12_sourcesNow.cls ≠ "java/lang/invoke/VarHandle" ∧ (parseMethodDescriptor yX12_sourcesNow.desc).map (fun d => d.parameters.length) = some 0 := by decide +kernel
theorem ko_X12_sources : Cond.code yX12_sources cX12_sources 1 (some .int) ∈ lw_good := kw_1152
theorem hy_X12_sources : yX12_sources.cls ≠ "java/lang/invoke/MethodHandle" ∧ yX12_sources.cls ≠ "java/lang/invoke/VarHandle" ∧ (parseMethodDescriptor yX12_sources.desc).map (fun d => d.parameters.length) = some 0 := by decide +kernel
theorem ko_X12_gave : Cond.code yX12_gave cX12_gave 5 (some .int) ∈ lw_good := kw_1178
theorem hy_X12_gave : yX12_gave.cls ≠ "java/lang/invoke/MethodHandle" ∧ yX12_gave.cls ≠ "java/lang/invoke/VarHandle" ∧ (parseMethodDescriptor yX12_gave.desc).map (fun d => d.parameters.length) = some 2 := by decide +kernel
theorem ko_X12_from : Cond.code yX12_from cX12_from 3 (some .int) ∈ lw_good := kw_1174
theorem hy_X12_from : yX12_from.cls ≠ "java/lang/invoke/MethodHandle" ∧ yX12_from.cls ≠ "java/lang/invoke/VarHandle" ∧ (parseMethodDescriptor yX12_from.desc).map (fun d => d.parameters.length) = some 2 := by decide +kernel
theorem ko_X12_chainNow : Cond.code yX12_chainNow cX12_chainNow 5 (some .int) ∈ lw_good := kw_1186
theorem hy_X12_chainNow : yX12_chainNow.cls ≠ "java/lang/invoke/MethodHandle" ∧ yX12_chainNow.cls ≠ "java/lang/invoke/VarHandle" ∧ (parseMethodDescriptor yX12_chainNow.desc).map (fun d => d.parameters.length) = some 0 := by decide +kernel
theorem ko_X12_chain : Cond.code yX12_chain cX12_chain 1 (some .int) ∈ lw_good := kw_1182
theorem hy_X12_chain : yX12_chain.cls ≠ "java/lang/invoke/MethodHandle" ∧ yX12_chain.cls ≠ "java/lang/invoke/VarHandle" ∧ (parseMethodDescriptor yX12_chain.desc).map (fun d => d.parameters.length) = some 0 := by decide +kernel
theorem ko_X12_rubbedOf : Cond.code yX12_rubbedOf cX12_rubbedOf 3 (some .int) ∈ lw_good := kw_1194
theorem hy_X12_rubbedOf : yX12_rubbedOf.cls ≠ "java/lang/invoke/MethodHandle" ∧ yX12_rubbedOf.cls ≠ "java/lang/invoke/VarHandle" ∧ (parseMethodDescriptor yX12_rubbedOf.desc).map (fun d => d.parameters.length) = some 2 := by decide +kernel
theorem ko_X12_rubbed : Cond.code yX12_rubbed cX12_rubbed 3 (some .int) ∈ lw_good := kw_1190
theorem hy_X12_rubbed : yX12_rubbed.cls ≠ "java/lang/invoke/MethodHandle" ∧ yX12_rubbed.cls ≠ "java/lang/invoke/VarHandle" ∧ (parseMethodDescriptor yX12_rubbed.desc).map (fun d => d.parameters.length) = some 2 := by decide +kernel
theorem ko_X12_gainsNow : Cond.code yX12_gainsNow cX12_gainsNow 10 (some .long) ∈ lw_good := kw_1202
theorem hy_X12_gainsNow : yX12_gainsNow.cls ≠ "java/lang/invoke/MethodHandle" ∧ yX12_gainsNow.cls ≠ "java/lang/invoke/VarHandle" ∧ (parseMethodDescriptor yX12_gainsNow.desc).map (fun d => d.parameters.length) = some 2 := by decide +kernel
theorem ko_X12_gains : Cond.code yX12_gains cX12_gains 3 (some .long) ∈ lw_good := kw_1198
theorem hy_X12_gains : yX12_gains.cls ≠ "java/lang/invoke/MethodHandle" ∧ yX12_gains.cls ≠ "java/lang/invoke/VarHandle" ∧ (parseMethodDescriptor yX12_gains.desc).map (fun d => d.parameters.length) = some 2 := by decide +kernel
theorem ko_X12_countOf : Cond.code yX12_countOf cX12_countOf 6 (some .int) ∈ lw_good := kw_1213
theorem hy_X12_countOf : yX12_countOf.cls ≠ "java/lang/invoke/MethodHandle" ∧ yX12_countOf.cls ≠ "java/lang/invoke/VarHandle" ∧ (parseMethodDescriptor yX12_countOf.desc).map (fun d => d.parameters.length) = some 3 := by decide +kernel
theorem ko_X12_known : Cond.code yX12_known cX12_known 6 (some .int) ∈ lw_good := kw_1209
theorem hy_X12_known : yX12_known.cls ≠ "java/lang/invoke/MethodHandle" ∧ yX12_known.cls ≠ "java/lang/invoke/VarHandle" ∧ (parseMethodDescriptor yX12_known.desc).map (fun d => d.parameters.length) = some 2 := by decide +kernel
theorem ko_X12_lead : Cond.code yX12_lead cX12_lead 6 (some .long) ∈ lw_good := kw_1217
theorem hy_X12_lead : yX12_lead.cls ≠ "java/lang/invoke/MethodHandle" ∧ yX12_lead.cls ≠ "java/lang/invoke/VarHandle" ∧ (parseMethodDescriptor yX12_lead.desc).map (fun d => d.parameters.length) = some 3 := by decide +kernel
theorem ko_X12_choseMany : Cond.code yX12_choseMany cX12_choseMany 5 (some .int) ∈ lw_good := kw_1225
theorem hy_X12_choseMany : yX12_choseMany.cls ≠ "java/lang/invoke/MethodHandle" ∧ yX12_choseMany.cls ≠ "java/lang/invoke/VarHandle" ∧ (parseMethodDescriptor yX12_choseMany.desc).map (fun d => d.parameters.length) = some 2 := by decide +kernel
theorem ko_X12_restSum : Cond.code yX12_restSum cX12_restSum 5 (some .int) ∈ lw_good := kw_1229
theorem hy_X12_restSum : yX12_restSum.cls ≠ "java/lang/invoke/MethodHandle" ∧ yX12_restSum.cls ≠ "java/lang/invoke/VarHandle" ∧ (parseMethodDescriptor yX12_restSum.desc).map (fun d => d.parameters.length) = some 2 := by decide +kernel
theorem ko_X12_rest : Cond.code yX12_rest cX12_rest 5 (some .long) ∈ lw_good := kw_1221
theorem hy_X12_rest : yX12_rest.cls ≠ "java/lang/invoke/MethodHandle" ∧ yX12_rest.cls ≠ "java/lang/invoke/VarHandle" ∧ (parseMethodDescriptor yX12_rest.desc).map (fun d => d.parameters.length) = some 3 := by decide +kernel
theorem ko_X12_shouldNow : Cond.code yX12_shouldNow cX12_shouldNow 9 (some .int) ∈ lw_good := kw_1237
theorem hy_X12_shouldNow : yX12_shouldNow.cls ≠ "java/lang/invoke/MethodHandle" ∧ yX12_shouldNow.cls ≠ "java/lang/invoke/VarHandle" ∧ (parseMethodDescriptor yX12_shouldNow.desc).map (fun d => d.parameters.length) = some 1 := by decide +kernel
theorem ko_X12_should : Cond.code yX12_should cX12_should 2 (some .int) ∈ lw_good := kw_1233
theorem hy_X12_should : yX12_should.cls ≠ "java/lang/invoke/MethodHandle" ∧ yX12_should.cls ≠ "java/lang/invoke/VarHandle" ∧ (parseMethodDescriptor yX12_should.desc).map (fun d => d.parameters.length) = some 1 := by decide +kernel
theorem ko_X12_badlyNow : Cond.code yX12_badlyNow cX12_badlyNow 4 (some .int) ∈ lw_good := kw_1245
theorem hy_X12_badlyNow : yX12_badlyNow.cls ≠ "java/lang/invoke/MethodHandle" ∧ yX12_badlyNow.cls ≠ "java/lang/invoke/VarHandle" ∧ (parseMethodDescriptor yX12_badlyNow.desc).map (fun d => d.parameters.length) = some 0 := by decide +kernel
theorem ko_X12_badly : Cond.code yX12_badly cX12_badly 1 (some .int) ∈ lw_good := kw_1241
theorem hy_X12_badly : yX12_badly.cls ≠ "java/lang/invoke/MethodHandle" ∧ yX12_badly.cls ≠ "java/lang/invoke/VarHandle" ∧ (parseMethodDescriptor yX12_badly.desc).map (fun d => d.parameters.length) = some 0 := by decide +kernel
theorem ko_X12_withoutNow : Cond.code yX12_withoutNow cX12_withoutNow 5 (some .int) ∈ lw_good := kw_1253
theorem hy_X12_withoutNow : yX12_withoutNow.cls ≠ "java/lang/invoke/MethodHandle" ∧ yX12_withoutNow.cls ≠ "java/lang/invoke/VarHandle" ∧ (parseMethodDescriptor yX12_withoutNow.desc).map (fun d => d.parameters.length) = some 2 := by decide +kernel
theorem ko_X12_without : Cond.code yX12_without cX12_without 3 (some .int) ∈ lw_good := kw_1249
theorem hy_X12_without : yX12_without.cls ≠ "java/lang/invoke/MethodHandle" ∧ yX12_without.cls ≠ "java/lang/invoke/VarHandle" ∧ (parseMethodDescriptor yX12_without.desc).map (fun d => d.parameters.length) = some 2 := by decide +kernel
theorem ko_X12_hardNow : Cond.code yX12_hardNow cX12_hardNow 3 (some .long) ∈ lw_good := kw_1261
theorem hy_X12_hardNow : yX12_hardNow.cls ≠ "java/lang/invoke/MethodHandle" ∧ yX12_hardNow.cls ≠ "java/lang/invoke/VarHandle" ∧ (parseMethodDescriptor yX12_hardNow.desc).map (fun d => d.parameters.length) = some 2 := by decide +kernel
theorem ko_X12_hard : Cond.code yX12_hard cX12_hard 3 (some .long) ∈ lw_good := kw_1257
theorem hy_X12_hard : yX12_hard.cls ≠ "java/lang/invoke/MethodHandle" ∧ yX12_hard.cls ≠ "java/lang/invoke/VarHandle" ∧ (parseMethodDescriptor yX12_hard.desc).map (fun d => d.parameters.length) = some 2 := by decide +kernel
theorem ko_X12_partsNow : Cond.code yX12_partsNow cX12_partsNow 6 (some .long) ∈ lw_good := kw_1269
theorem hy_X12_partsNow : yX12_partsNow.cls ≠ "java/lang/invoke/MethodHandle" ∧ yX12_partsNow.cls ≠ "java/lang/invoke/VarHandle" ∧ (parseMethodDescriptor yX12_partsNow.desc).map (fun d => d.parameters.length) = some 2 := by decide +kernel
theorem ko_X12_parts : Cond.code yX12_parts cX12_parts 3 (some .long) ∈ lw_good := kw_1265
theorem hy_X12_parts : yX12_parts.cls ≠ "java/lang/invoke/MethodHandle" ∧ yX12_parts.cls ≠ "java/lang/invoke/VarHandle" ∧ (parseMethodDescriptor yX12_parts.desc).map (fun d => d.parameters.length) = some 2 := by decide +kernel
theorem ko_X12_sheet : Cond.code yX12_sheet cX12_sheet 5 (some .int) ∈ lw_good := kw_1273
theorem hy_X12_sheet : yX12_sheet.cls ≠ "java/lang/invoke/MethodHandle" ∧ yX12_sheet.cls ≠ "java/lang/invoke/VarHandle" ∧ (parseMethodDescriptor yX12_sheet.desc).map (fun d => d.parameters.length) = some 3 := by decide +kernel
theorem ko_X12_lose : Cond.code yX12_lose cX12_lose 2 (some .int) ∈ lw_good := kw_1277
theorem hy_X12_lose : yX12_lose.cls ≠ "java/lang/invoke/MethodHandle" ∧ yX12_lose.cls ≠ "java/lang/invoke/VarHandle" ∧ (parseMethodDescriptor yX12_lose.desc).map (fun d => d.parameters.length) = some 1 := by decide +kernel
theorem ko_X12_lacks : Cond.code yX12_lacks cX12_lacks 4 (some .int) ∈ lw_good := kw_1285
theorem hy_X12_lacks : yX12_lacks.cls ≠ "java/lang/invoke/MethodHandle" ∧ yX12_lacks.cls ≠ "java/lang/invoke/VarHandle" ∧ (parseMethodDescriptor yX12_lacks.desc).map (fun d => d.parameters.length) = some 3 := by decide +kernel
theorem ko_X12_keep : Cond.code yX12_keep cX12_keep 4 none ∈ lw_good := kw_1289
theorem hy_X12_keep : yX12_keep.cls ≠ "java/lang/invoke/MethodHandle" ∧ yX12_keep.cls ≠ "java/lang/invoke/VarHandle" ∧ (parseMethodDescriptor yX12_keep.desc).map (fun d => d.parameters.length) = some 3 := by decide +kernel
theorem ko_X12_put : Cond.code yX12_put cX12_put 6 (some .int) ∈ lw_good := kw_1281
theorem hy_X12_put : yX12_put.cls ≠ "java/lang/invoke/MethodHandle" ∧ yX12_put.cls ≠ "java/lang/invoke/VarHandle" ∧ (parseMethodDescriptor yX12_put.desc).map (fun d => d.parameters.length) = some 4 := by decide +kernel
theorem ko_X12_get : Cond.code yX12_get cX12_get 5 (some .int) ∈ lw_good := kw_1293
theorem hy_X12_get : yX12_get.cls ≠ "java/lang/invoke/MethodHandle" ∧ yX12_get.cls ≠ "java/lang/invoke/VarHandle" ∧ (parseMethodDescriptor yX12_get.desc).map (fun d => d.parameters.length) = some 3 := by decide +kernel
theorem ko_X12_copy : Cond.code yX12_copy cX12_copy 7 (some .int) ∈ lw_good := kw_1298
theorem hy_X12_copy : yX12_copy.cls ≠ "java/lang/invoke/MethodHandle" ∧ yX12_copy.cls ≠ "java/lang/invoke/VarHandle" ∧ (parseMethodDescriptor yX12_copy.desc).map (fun d => d.parameters.length) = some 5 := by decide +kernel
theorem ko_X12_write : Cond.code yX12_write cX12_write 4 (some .int) ∈ lw_good := kw_1302
theorem hy_X12_write : yX12_write.cls ≠ "java/lang/invoke/MethodHandle" ∧ yX12_write.cls ≠ "java/lang/invoke/VarHandle" ∧ (parseMethodDescriptor yX12_write.desc).map (fun d => d.parameters.length) = some 2 := by decide +kernel
theorem ko_X12_sumOf : Cond.code yX12_sumOf cX12_sumOf 5 (some .int) ∈ lw_good := kw_1310
theorem hy_X12_sumOf : yX12_sumOf.cls ≠ "java/lang/invoke/MethodHandle" ∧ yX12_sumOf.cls ≠ "java/lang/invoke/VarHandle" ∧ (parseMethodDescriptor yX12_sumOf.desc).map (fun d => d.parameters.length) = some 1 := by decide +kernel
theorem ko_X12_count : Cond.code yX12_count cX12_count 2 (some .int) ∈ lw_good := kw_1306
theorem hy_X12_count : yX12_count.cls ≠ "java/lang/invoke/MethodHandle" ∧ yX12_count.cls ≠ "java/lang/invoke/VarHandle" ∧ (parseMethodDescriptor yX12_count.desc).map (fun d => d.parameters.length) = some 1 := by decide +kernel
theorem ko_X12_digest : Cond.code yX12_digest cX12_digest 5 (some .long) ∈ lw_good := kw_1314
theorem hy_X12_digest : yX12_digest.cls ≠ "java/lang/invoke/MethodHandle" ∧ yX12_digest.cls ≠ "java/lang/invoke/VarHandle" ∧ (parseMethodDescriptor yX12_digest.desc).map (fun d => d.parameters.length) = some 0 := by decide +kernel
