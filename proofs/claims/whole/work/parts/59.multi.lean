/-! a row of rows of ints, made at once (own row: the kit has none) -/
def mst (T : State) (cA cI : ClassId) (N M : Nat) : Nat → State
  | 0 => T.pushCell { cls := cA, slots := Array.replicate N .null, vm := .none }
  | i + 1 => ((mst T cA cI N M i).pushCell { cls := cI, slots := Array.replicate M (.int 0), vm := .none }).setCell T.heap.size ((arrV cA N (fun j => if j < i then .ref (T.heap.size + 1 + j) else .null)).setSlot i (.ref (T.heap.size + 1 + i)))
def MF (T : State) (cA cI : ClassId) (N M i : Nat) (U : State) : Prop := U.vm = T.vm ∧ U.heap.size = T.heap.size + 1 + i ∧ U.slotsUsed = T.slotsUsed + N + i * M ∧ U.heap[T.heap.size]? = some (arrV cA N (fun j => if j < i then .ref (T.heap.size + 1 + j) else .null)) ∧ (∀ j, j < i → U.heap[T.heap.size + 1 + j]? = some (arrV cI M (fun _ => .int 0))) ∧ ∀ q, q < T.heap.size → U.heap[q]? = T.heap[q]?
theorem mst_f (T : State) (cA cI : ClassId) (N M : Nat) : ∀ i, MF T cA cI N M i (mst T cA cI N M i)
  | 0 => by
    refine ⟨rfl, by simp [mst], by simp [mst], ?_, fun j hj => absurd hj (by omega), fun q hq => ?_⟩
    · rw [mst, State.heap_pushCell_size, arrV_new]; simp
    · rw [mst, State.heap_pushCell_of_lt (h := hq)]
  | i + 1 => by
    obtain ⟨a1, a2, a3, a4, a5, a6⟩ := mst_f T cA cI N M i
    have h0 : T.heap.size < (mst T cA cI N M i).heap.size := by omega
    have hb : ((mst T cA cI N M i).pushCell { cls := cI, slots := Array.replicate M (.int 0), vm := .none }).heap[T.heap.size]? = some (arrV cA N (fun j => if j < i then .ref (T.heap.size + 1 + j) else .null)) := by
      rw [State.heap_pushCell_of_lt (h := h0)]; exact a4
    refine ⟨?_, ?_, ?_, ?_, fun j hj => ?_, fun q hq => ?_⟩
    · simp [mst, a1]
    · simp [mst, State.setCell, a2]; omega
    · simp [mst, a3, Nat.succ_mul]; omega
    · rw [mst, State.heap_setCell_self hb, arrV_store]
      congr 2
      funext j
      unfold updV
      by_cases e : j = i
      · subst e; simp
      · by_cases g : j < i
        · simp [e, g, show j < i + 1 by omega]
        · simp [e, g, show ¬ j < i + 1 by omega]
    · rw [mst, State.heap_setCell_other (show T.heap.size ≠ T.heap.size + 1 + j by omega)]
      by_cases e : j < i
      · rw [State.heap_pushCell_of_lt (h := show T.heap.size + 1 + j < (mst T cA cI N M i).heap.size by omega)]; exact a5 j e
      · have e2 : j = i := by omega
        subst e2
        rw [← a2, State.heap_pushCell_size, arrV_new]
    · rw [mst, State.heap_setCell_other (show T.heap.size ≠ q by omega), State.heap_pushCell_of_lt (h := show q < (mst T cA cI N M i).heap.size by omega)]
      exact a6 q hq
theorem mst_top (T : State) (f : JFrame) (cA cI : ClassId) (N M : Nat) : ∀ i, mst (T.setTop f) cA cI N M i = (mst T cA cI N M i).setTop f
  | 0 => rfl
  | i + 1 => by simp only [mst, mst_top T f cA cI N M i, State.heap_setTop, State.pushCell_setTop, State.setCell_setTop]
section MultiRow
variable {p : Program} {l : Launch} {e : Jvm.Env} {R : Room} {s : State} {m : MethodId} {args : Array Value} {below : List Frame} {meth : Method} {c : Code} {locs : List Loc} {cells slots : Nat}
theorem mst_s {T : State} (X : Stand p l e R s m args below meth c T locs cells slots) (cA cI : ClassId) (N M : Nat) : ∀ i, ∃ L : List Loc, (∀ y ∈ L, y.base = T.heap.size) ∧ Stand p l e R s m args below meth c (mst T cA cI N M i) (locs ++ L) (cells + 1 + i) (slots + N + i * M)
  | 0 => ⟨[], fun y hy => absurd hy List.not_mem_nil, by
    have h := X.pushed { cls := cA, slots := Array.replicate N .null, vm := .none }
    simpa [mst] using h⟩
  | i + 1 => by
    obtain ⟨L, hL, Xi⟩ := mst_s X cA cI N M i
    obtain ⟨a1, a2, a3, a4, a5, a6⟩ := mst_f T cA cI N M i
    have hb : ((mst T cA cI N M i).pushCell { cls := cI, slots := Array.replicate M (.int 0), vm := .none }).heap[T.heap.size]? = some (arrV cA N (fun j => if j < i then .ref (T.heap.size + 1 + j) else .null)) := by
      rw [State.heap_pushCell_of_lt (h := show T.heap.size < (mst T cA cI N M i).heap.size by omega)]; exact a4
    have h := (Xi.pushed { cls := cI, slots := Array.replicate M (.int 0), vm := .none }).stored hb i (.ref (T.heap.size + 1 + i))
    refine ⟨L ++ [⟨T.heap.size, i⟩], fun y hy => ?_, ?_⟩
    · rcases List.mem_append.mp hy with g | g
      · exact hL y g
      · rw [List.mem_singleton.mp g]
    · have e1 : slots + N + (i + 1) * M = slots + N + i * M + (Array.replicate M (Value.int 0)).size := by rw [Nat.succ_mul, Array.size_replicate]; omega
      rw [e1, ← List.append_assoc]
      exact h
end MultiRow
section MultiWp
variable {E : CtlPost} {e : Jvm.Env} {d : Bool} {acts : List Action} {s : State}
theorem q_make1 {cI cx : ClassId} {k : Class} {M : Nat} (hk : s.vm.classes[cI]? = some k) (hkind : k.kind = .array cx .int) (hM : M < 1000) (hl : ¬ M > e.platform.arrayLengthLimit) (hh : ¬ M * componentBytes .int > e.platform.maxHeapBytes) (h1 : s.heap.size < e.platform.maxCells) (h2 : s.slotsUsed + M ≤ e.platform.maxSlots) {Q : Addr → Bool → List Action → State → Prop} (hq : ∀ acts', Q s.heap.size d acts' (s.pushCell { cls := cI, slots := Array.replicate M (.int 0), vm := .none })) : wp (Op.multianewarray.make cI [nI M]) Q E e d acts s := by
  have hM0 : ¬ nI M < 0 := nI_pos (by omega)
  have hMc : (nI M).toNatClampNeg = M := nI_clamp (by omega)
  rw [Op.multianewarray.make]
  simp only [wp_bind', W.ite, hM0, if_false, wp_pure', W.theClass, hk, hkind, Option.some.injEq, exists_eq_left', hMc]
  exact W.newArray_of hk hkind hl hh h1 h2 rfl hq
theorem q_make2 {cA cI cx : ClassId} {k kc : Class} {N M : Nat} (hk : s.vm.classes[cA]? = some k) (hkind : k.kind = .array cI (.array .int)) (hkc : s.vm.classes[cI]? = some kc) (hkindc : kc.kind = .array cx .int) (hN : N < 1000) (hM : M < 1000) (hl : ¬ N > e.platform.arrayLengthLimit) (hh : ¬ N * componentBytes (.array .int) > e.platform.maxHeapBytes) (hl2 : ¬ M > e.platform.arrayLengthLimit) (hh2 : ¬ M * componentBytes .int > e.platform.maxHeapBytes) (h1 : s.heap.size + 1 + N ≤ e.platform.maxCells) (h2 : s.slotsUsed + N + N * M ≤ e.platform.maxSlots) {Q : Addr → Bool → List Action → State → Prop} (hq : ∀ d' acts', Q s.heap.size d' acts' (mst s cA cI N M N)) : wp (Op.multianewarray.make cA [nI N, nI M]) Q E e d acts s := by
  have hN0 : ¬ nI N < 0 := nI_pos (by omega)
  have hNc : (nI N).toNatClampNeg = N := nI_clamp (by omega)
  have hM0 : ¬ nI M < 0 := nI_pos (by omega)
  have hf : ([nI M].find? (· < 0)) = none := by simp [hM0]
  rw [Op.multianewarray.make]
  simp only [wp_bind', W.ite, hN0, if_false, wp_pure', W.theClass, hk, hkind, Option.some.injEq, exists_eq_left', hNc]
  refine W.newArray_of hk hkind hl hh (by omega) (by omega) rfl (fun acts' => ?_)
  simp only [hf]
  rw [ite_self, wp_bind', Std.Legacy.Range.forIn_eq_forIn_range']
  have hsz : ([:N] : Std.Legacy.Range).size = N := by simp [Std.Legacy.Range.size]
  rw [hsz]
  show wp (forIn (List.range' 0 N 1) PUnit.unit _) _ E e d acts' _
  refine wp_forIn_inv (fun rest s' => ∃ i, i ≤ N ∧ rest = List.range' i (N - i) ∧ s' = mst s cA cI N M i) _ _ ⟨0, Nat.zero_le _, rfl, rfl⟩ ?_ ?_
  · rintro x rest s' d' acts' Q' ⟨i, hi, hx, rfl⟩ hnext
    have hlt : i < N := by
      rcases Nat.lt_or_ge i N with g | g
      · exact g
      · rw [show N - i = 0 by omega] at hx; cases hx
    rw [show N - i = (N - (i + 1)) + 1 by omega, List.range'_succ] at hx
    obtain ⟨hx1, hx2⟩ := List.cons.inj hx
    subst hx1
    obtain ⟨a1, a2, a3, a4, a5, a6⟩ := mst_f s cA cI N M x
    have hmul : x * M + M ≤ N * M := by
      have := Nat.mul_le_mul_right M (show x + 1 ≤ N from hlt)
      rw [Nat.succ_mul] at this; exact this
    simp only [wp_bind']
    refine q_make1 (by rw [a1]; exact hkc) hkindc hM hl2 hh2 (by rw [a2]; omega) (by rw [a3]; omega) (fun acts'' => ?_)
    simp only [wp_bind', W.writeLoc, wp_pure']
    refine ⟨_, by rw [State.heap_pushCell_of_lt (h := show s.heap.size < (mst s cA cI N M x).heap.size by omega)]; exact a4, by simp [arrV], by rw [arrV_size]; exact hlt, ?_, hnext _ _ _ ⟨x + 1, hlt, hx2, ?_⟩⟩
    · simp [arrV, State.fitsSlot, State.slotType?, a1, hk, hkind, fits]
    · rw [a2]; rfl
  · rintro s' d' acts' ⟨i, hi, hx, rfl⟩
    have hiN : i = N := by
      rcases Nat.lt_or_ge i N with g | g
      · rw [show N - i = (N - (i + 1)) + 1 by omega, List.range'_succ] at hx; cases hx
      · omega
    subst hiN
    simp only [wp_pure']
    exact hq _ _
end MultiWp
/-- what the tables say of rows of rows of ints -/
def AI (U : State) : Prop := ∃ (cI cA : ClassId) (kA : Class), U.vm.findClass "[I" = some cI ∧ U.vm.classes[cA]? = some kA ∧ kA.kind = .array cI (.array .int) ∧ U.vm.findClass "[[I" = some cA
theorem AI_of {args : Array Value} {s : State} (h : (Cond.arrayOver (.array .int)).before args s = true) : AI s := by
  have en : "[" ++ (FieldType.array .int).toString = "[[I" := by decide +kernel
  have en2 : (FieldType.array .int).toString = "[I" := by decide +kernel
  obtain ⟨cI, cA, kA, hcI, -, hkA, hkindA, hnameA⟩ := arrayOverA_spec h
  rw [en] at hnameA
  rw [en2] at hcI
  exact ⟨cI, cA, kA, hcI, hkA, hkindA, hnameA⟩
theorem AI_moved {u U : State} (hvm : u.vm.Alike U.vm) (h : AI u) : AI U := by
  obtain ⟨cI, cA, kA, h1, h2, h3, h4⟩ := h
  obtain ⟨k', hk', he⟩ := hvm.2.2 _ _ h2
  exact ⟨cI, cA, k', by rw [hvm.findClass]; exact h1, hk', by rw [he]; exact h3, by rw [hvm.findClass]; exact h4⟩
theorem W_multi {p : Program} {l : Launch} {e : Jvm.Env} {R : Room} {s : State} {m : MethodId} {args : Array Value} {below : List Frame} {meth : Method} {c : Code} {H : Heap} {locs : List Loc} {cells slots : Nat} {Q : State → Prop} {cc : ByteArray} {pc : Nat} {ls : Array Slot} {rest : List Value} (hexec : p.tables.exec = Jvm.exec) (hb : c.code = cc) {own : String} {index : Nat} (hown : s.vm.findClass own = some m.cls) (hclink : (Cond.classLink own index "[[I").before args s = true) (hover : AI s) (harr : (Cond.arrayClass .int).before args s = true) {N M : Nat} (hN : N < 1000) (hM : M < 1000) (hcells : cells + (1 + N) ≤ R.cells) (hslots : slots + (N + N * M) ≤ R.slots) (hdg : decode cc pc = .ok (.multianewarray index 2, 4))
    (kk : ∀ (H1 : Heap) (locs1 : List Loc) (cA cI : ClassId), s.vm.findClass "[[I" = some cA → s.vm.findClass "[I" = some cI → H1.size = H.size + 1 + N → H1[H.size]? = some (arrV cA N (fun j => if j < N then .ref (H.size + 1 + j) else .null)) → (∀ j, j < N → H1[H.size + 1 + j]? = some (arrV cI M (fun _ => .int 0))) → (∀ q, q < H.size → H1[q]? = H[q]?) → (∀ y ∈ locs1, y ∈ locs ∨ y.base = H.size) → W p l e R s m args below meth c H1 locs1 (cells + 1 + N) (slots + N + N * M) Q (F0 m (pc + 4) ls (.ref H.size :: rest))) : W p l e R s m args below meth c H locs cells slots Q (F0 m pc ls (.int (nI M) :: .int (nI N) :: rest)) := by
  intro T hT X
  subst hT
  subst hb
  have hpl : e.platform.magicAccessors = ({} : Platform).magicAccessors := by rw [X.admits.platform]
  obtain ⟨cI, cA, kA, hcI, hkA, hkindA, hnameA⟩ := hover
  obtain ⟨cI2, kC, cx, hcI2, hkC, hkindC⟩ := Cond.arrayClass_spec harr
  rw [show "[" ++ FieldType.int.toString = "[I" by decide +kernel] at hcI2
  have e2 : cI2 = cI := Option.some.inj (hcI2.symm.trans hcI)
  subst e2
  obtain ⟨c0, hfc0, hcl⟩ := Cond.classLink_spec hown hclink e.platform hpl
  have e3 : cA = c0 := Option.some.inj (hnameA.symm.trans hfc0)
  subst e3
  obtain ⟨hg₁, hwarm₁, hready₁⟩ := State.classEntry (e := e) X.warmed hcl
  generalize T.vm.noted m.cls index (.cls cA) = vm₁ at hg₁ hwarm₁ hready₁
  have hal : s.vm.Alike vm₁ := hwarm₁.alike
  obtain ⟨kA₁, hkA₁, heA⟩ := hal.2.2 _ _ hkA
  obtain ⟨kC₁, hkC₁, heC⟩ := hal.2.2 _ _ hkC
  have hkindA₁ : kA₁.kind = .array cI2 (.array .int) := by rw [heA]; exact hkindA
  have hkindC₁ : kC₁.kind = .array cx .int := by rw [heC]; exact hkindC
  have X₁ := X.noted hwarm₁
  obtain ⟨hr1, hr2⟩ := X.roomAbove hcells hslots
  obtain ⟨L, hL, XF⟩ := mst_s X₁ cA cI2 N M N
  obtain ⟨a1, a2, a3, a4, a5, a6⟩ := mst_f (T.setVm vm₁) cA cI2 N M N
  obtain ⟨t, b1, b2⟩ := kk (mst (T.setVm vm₁) cA cI2 N M N).heap (locs ++ L) cA cI2 hnameA hcI a2 a4 a5 a6 (fun y hy => (List.mem_append.mp hy).elim Or.inl (fun g => Or.inr (hL y g))) _ rfl XF
  refine ⟨t, ?_, b2⟩
  have hl1 : ¬ N > e.platform.arrayLengthLimit := by rw [Launch.admits_arrayLengthLimit X.admits]; omega
  have hh1 : ¬ N * componentBytes (.array .int) > e.platform.maxHeapBytes := by
    rw [Launch.admits_maxHeapBytes X.admits]; show ¬ N * 4 > 536870912; omega
  have hl2 : ¬ M > e.platform.arrayLengthLimit := by rw [Launch.admits_arrayLengthLimit X.admits]; omega
  have hh2 : ¬ M * componentBytes .int > e.platform.maxHeapBytes := by
    rw [Launch.admits_maxHeapBytes X.admits]; show ¬ M * 4 > 536870912; omega
  jvm_step X.here [hexec, hdg]
  simp only [Op.multianewarray.sem, wp_bind', W.resolveClassAt_links (State.method?_setTop (F0 m pc ls (.int (nI M) :: .int (nI N) :: rest)) X.here.top) hg₁]
  rw [W.popN, if_neg (by decide)]
  refine ⟨F0 m pc ls (.int (nI M) :: .int (nI N) :: rest), State.topJava?_setTop' (s := T.setVm vm₁) _ X.here.top, [.int (nI N), .int (nI M)], rest, rfl, rfl, ?_⟩
  simp only [List.mapM_cons, List.mapM_nil, wp_bind', wp_pure']
  refine q_make2 (k := kA₁) (kc := kC₁) (cx := cx) hkA₁ hkindA₁ hkC₁ hkindC₁ hN hM hl1 hh1 hl2 hh2 (by show T.heap.size + 1 + _ ≤ _; omega) (by show T.slotsUsed + _ + _ ≤ _; omega) (fun d' acts' => ?_)
  have eS : ∀ f2 : JFrame, ((T.setTop (F0 m pc ls (.int (nI M) :: .int (nI N) :: rest))).setVm vm₁).setTop f2 = (T.setVm vm₁).setTop f2 := fun f2 => by
    show ((T.setVm vm₁).setTop _).setTop _ = _
    rw [State.setTop_setTop]
  rw [eS, mst_top]
  simp only [wp_bind', W.mark, W.pushRef, State.topJava?_setTop' _ XF.here.top, Option.some.injEq, exists_eq_left', State.setTop_setTop, State.heap_setTop]
  intro acts
  simp [jvm, XF.here.top]
  exact b1
