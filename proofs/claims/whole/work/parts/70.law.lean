/-! THE LAW: a judgement over both worlds -/
def CL (b L : Nat) (xs : Nat → Int32) (Γc Γm : GT) (p : Program) (s : State) (m : MethodId) (meth : Method) (c : Code) : Prop :=
  p.tables.exec = Jvm.exec ∧ c.code = code ∧ c.maxLocals = 4 ∧ s.vm.findClass "SameWrongLaw" = some m.cls ∧ (∀ v ∈ lw_good, v.before #[Value.ref b] s = true) ∧ va_X b L xs s s.heap ∧ b < s.heap.size ∧ (va_K Γc.1 vwCl (atys Γc) s ∧ va_K Γm.1 vwCl (atys Γm) s) ∧ NW s ∧ (Inj WC Γc ∧ Inj WM Γm) ∧ ((∀ i, i < 62 → s.heap.size ≤ Γc.2.1 i) ∧ (∀ i, i < 24 → s.heap.size ≤ Γm.2.1 i)) ∧ (∀ i, i < 62 → ∀ j, j < 24 → Γc.2.1 i ≠ Γm.2.1 j) ∧ meth.sig.returnType = ret ∧ meth.locks = false
def EL (b L : Nat) (xs : Nat → Int32) (Γc Γm : GT) (k n : Nat) (pc : Nat) (lv : List (Nat × Value)) (st : List Value) (σ τ : St) : Prop :=
  ∀ (p : Program) (l : Launch) (e : Jvm.Env) (s : State) (m : MethodId) (below : List Frame) (meth : Method) (c : Code) (ls : Array Slot) (H : Heap) (locs : List Loc),
    CL b L xs Γc Γm p s m meth c → lv_has ls 4 lv → va_P Γc.1 vwCl (wl WC Γc σ) H → va_P Γm.1 vwCl (wl WM Γm τ) H → va_S (fun q => s.heap.size ≤ q) s.heap H locs →
    W p l e room_1 s m #[Value.ref b] below meth c H locs k n (lw_Z below #[Value.ref b] s) (F0 m pc ls st)
section Law
variable {b L : Nat} {xs : Nat → Int32} {Γc Γm : GT} {k n pc : Nat} {lv : List (Nat × Value)} {st : List Value} {σ τ : St}
theorem EL_iconst {a : Int} {v : Int32} (hd : decode code pc = .ok (.iconst a, 1)) (hv : Int32.ofInt a = v) (h : EL b L xs Γc Γm k n (pc + 1) lv (.int v :: st) σ τ) : EL b L xs Γc Γm k n pc lv st σ τ :=
  fun p l e s m below meth c ls H locs C hl hPc hPm hS => lv_iconst C.1 C.2.1 hd hv (h p l e s m below meth c ls H locs C hl hPc hPm hS)
theorem EL_bipush {a : Int} {v : Int32} (hd : decode code pc = .ok (.bipush a, 2)) (hv : (Int8.ofInt a).toInt32 = v) (h : EL b L xs Γc Γm k n (pc + 2) lv (.int v :: st) σ τ) : EL b L xs Γc Γm k n pc lv st σ τ :=
  fun p l e s m below meth c ls H locs C hl hPc hPm hS => lv_bipush C.1 C.2.1 hd hv (h p l e s m below meth c ls H locs C hl hPc hPm hS)
theorem EL_aload_n {a : Fin 4} {i x : Nat} (j : Nat) (hd : decode code pc = .ok (.aload_n a, 1)) (hi : (a : Nat) = i) (hj : lv[j]? = some (i, .ref x)) (h : EL b L xs Γc Γm k n (pc + 1) lv (.ref x :: st) σ τ) : EL b L xs Γc Γm k n pc lv st σ τ :=
  fun p l e s m below meth c ls H locs C hl hPc hPm hS => lv_aload_n C.1 C.2.1 hd hi (lv_at hl j hj) (h p l e s m below meth c ls H locs C hl hPc hPm hS)
theorem EL_iload_n {a : Fin 4} {i : Nat} {x : Int32} (j : Nat) (hd : decode code pc = .ok (.iload_n a, 1)) (hi : (a : Nat) = i) (hj : lv[j]? = some (i, .int x)) (h : EL b L xs Γc Γm k n (pc + 1) lv (.int x :: st) σ τ) : EL b L xs Γc Γm k n pc lv st σ τ :=
  fun p l e s m below meth c ls H locs C hl hPc hPm hS => lv_iload_n C.1 C.2.1 hd hi (lv_at hl j hj) (h p l e s m below meth c ls H locs C hl hPc hPm hS)
theorem EL_iadd {x y : Int32} (hd : decode code pc = .ok (.iadd, 1)) (h : EL b L xs Γc Γm k n (pc + 1) lv (.int (x + y) :: st) σ τ) : EL b L xs Γc Γm k n pc lv (.int y :: .int x :: st) σ τ :=
  fun p l e s m below meth c ls H locs C hl hPc hPm hS => lv_iadd C.1 C.2.1 hd (h p l e s m below meth c ls H locs C hl hPc hPm hS)
theorem EL_isub {x y : Int32} (hd : decode code pc = .ok (.isub, 1)) (h : EL b L xs Γc Γm k n (pc + 1) lv (.int (x - y) :: st) σ τ) : EL b L xs Γc Γm k n pc lv (.int y :: .int x :: st) σ τ :=
  fun p l e s m below meth c ls H locs C hl hPc hPm hS => lv_isub C.1 C.2.1 hd (h p l e s m below meth c ls H locs C hl hPc hPm hS)
theorem EL_iand {x y : Int32} (hd : decode code pc = .ok (.iand, 1)) (h : EL b L xs Γc Γm k n (pc + 1) lv (.int (x &&& y) :: st) σ τ) : EL b L xs Γc Γm k n pc lv (.int y :: .int x :: st) σ τ :=
  fun p l e s m below meth c ls H locs C hl hPc hPm hS => lv_iand C.1 C.2.1 hd (h p l e s m below meth c ls H locs C hl hPc hPm hS)
theorem EL_alen (hd : decode code pc = .ok (.arraylength, 1)) (h : EL b L xs Γc Γm k n (pc + 1) lv (.int (nI L) :: st) σ τ) : EL b L xs Γc Γm k n pc lv (.ref b :: st) σ τ :=
  fun p l e s m below meth c ls H locs C hl hPc hPm hS => va_slen C.1 C.2.1 C.2.2.2.2.2.1 C.2.2.2.2.2.2.1 (Nat.not_le.mpr C.2.2.2.2.2.2.1) hS hd (h p l e s m below meth c ls H locs C hl hPc hPm hS)
theorem EL_iald {x : Int32} (hd : decode code pc = .ok (.iaload, 1)) (hx : vp_in x L) (h : EL b L xs Γc Γm k n (pc + 1) lv (.int (xs x.toNatClampNeg) :: st) σ τ) : EL b L xs Γc Γm k n pc lv (.int x :: .ref b :: st) σ τ :=
  fun p l e s m below meth c ls H locs C hl hPc hPm hS => va_sld C.1 C.2.1 C.2.2.2.2.2.1 C.2.2.2.2.2.2.1 (Nat.not_le.mpr C.2.2.2.2.2.2.1) hS hx hd (h p l e s m below meth c ls H locs C hl hPc hPm hS)
theorem EL_goto {off : Int} (tgt : Nat) (hd : decode code pc = .ok (.goto off, 3)) (ht : (pc : Int) + off = (tgt : Int)) (h : EL b L xs Γc Γm k n tgt lv st σ τ) : EL b L xs Γc Γm k n pc lv st σ τ :=
  fun p l e s m below meth c ls H locs C hl hPc hPm hS => lv_goto C.1 C.2.1 hd ht (h p l e s m below meth c ls H locs C hl hPc hPm hS)
theorem EL_eq {x : Int32} {off : Int} (tgt : Nat) (hd : decode code pc = .ok (.if_icmp .eq off, 3)) (ht : (pc : Int) + off = (tgt : Int)) (h : EL b L xs Γc Γm k n tgt lv st σ τ) : EL b L xs Γc Γm k n pc lv (.int x :: .int x :: st) σ τ :=
  fun p l e s m below meth c ls H locs C hl hPc hPm hS => lv_icmp_eq C.1 C.2.1 hd ht (fun _ => (h p l e s m below meth c ls H locs C hl hPc hPm hS)) (fun q => absurd rfl q)
theorem cmp_self (x : Int64) : lg_cmp x x = 0 := by
  unfold lg_cmp
  simp
theorem EL_lcmp {x : Int64} (hd : decode code pc = .ok (.lcmp, 1)) (h : EL b L xs Γc Γm k n (pc + 1) lv (.int 0 :: st) σ τ) : EL b L xs Γc Γm k n pc lv (.long x :: .long x :: st) σ τ :=
  fun p l e s m below meth c ls H locs C hl hPc hPm hS => W.lcmp C.1 C.2.1 hd (by rw [cmp_self]; exact (h p l e s m below meth c ls H locs C hl hPc hPm hS))
theorem EL_ifeq {off : Int} (tgt : Nat) (hd : decode code pc = .ok (.ifCond .eq off, 3)) (ht : (pc : Int) + off = (tgt : Int)) (h : EL b L xs Γc Γm k n tgt lv st σ τ) : EL b L xs Γc Γm k n pc lv (.int 0 :: st) σ τ :=
  fun p l e s m below meth c ls H locs C hl hPc hPm hS => lv_if_eq C.1 C.2.1 hd ht (fun _ => (h p l e s m below meth c ls H locs C hl hPc hPm hS)) (fun q => absurd rfl q)
theorem EL_gt {x y : Int32} {off : Int} (tgt : Nat) (hd : decode code pc = .ok (.if_icmp .gt off, 3)) (ht : (pc : Int) + off = (tgt : Int)) (h1 : y < x → EL b L xs Γc Γm k n tgt lv st σ τ) (h2 : ¬ y < x → EL b L xs Γc Γm k n (pc + 3) lv st σ τ) : EL b L xs Γc Γm k n pc lv (.int y :: .int x :: st) σ τ :=
  fun p l e s m below meth c ls H locs C hl hPc hPm hS => lv_icmp_gt C.1 C.2.1 hd ht (fun q => h1 q p l e s m below meth c ls H locs C hl hPc hPm hS) (fun q => h2 q p l e s m below meth c ls H locs C hl hPc hPm hS)
theorem EL_iinc {i : Nat} {a : Int} {x v : Int32} (j : Nat) (lv2 : List (Nat × Value)) (hd : decode code pc = .ok (.iinc i a, 3)) (hj : lv[j]? = some (i, .int x)) (hv : x + Int32.ofInt a = v) (hn : i < 4) (hl2 : (i, Value.int v) :: lv.filter (fun q => !(q.1 == i) && !(q.1 + 1 == i && q.2.category == 2)) = lv2) (h : EL b L xs Γc Γm k n (pc + 3) lv2 st σ τ) : EL b L xs Γc Γm k n pc lv st σ τ :=
  fun p l e s m below meth c ls H locs C hl hPc hPm hS => lv_iinc C.1 C.2.1 hd hl hj hv hn hl2 (fun ls hl => h p l e s m below meth c ls H locs C hl hPc hPm hS)
theorem EL_tswIn {x0 : Int32} {i : Nat} (tgt : Nat) {dflt hi off : Int} {offs : Array Int} {len : Nat} (hd : decode code pc = .ok (.tableswitch dflt 0 hi offs, len)) (hk : x0 = nI i) (hk2 : i < 100) (h2 : (i : Int) ≤ hi) (ho : offs[i]? = some off) (ht : (pc : Int) + off = (tgt : Int)) (h : EL b L xs Γc Γm k n tgt lv st σ τ) : EL b L xs Γc Γm k n pc lv (.int x0 :: st) σ τ :=
  fun p l e s m below meth c ls H locs C hl hPc hPm hS => by
  have e0 : x0.toInt = (i : Int) := by rw [hk]; exact nI_toInt (by omega)
  exact lv_tableIn C.1 C.2.1 hd (by omega) (by omega) (by rw [e0]; simpa using ho) ht (h p l e s m below meth c ls H locs C hl hPc hPm hS)
theorem EL_tswOut {x0 : Int32} {N : Nat} (tgt : Nat) {dflt hi : Int} {offs : Array Int} {len : Nat} (hd : decode code pc = .ok (.tableswitch dflt 0 hi offs, len)) (hn : N < 100) (hh : hi = (N : Int) - 1) (hk : ∀ i, i < N → ¬ x0 = nI i) (ht : (pc : Int) + dflt = (tgt : Int)) (h : EL b L xs Γc Γm k n tgt lv st σ τ) : EL b L xs Γc Γm k n pc lv (.int x0 :: st) σ τ :=
  fun p l e s m below meth c ls H locs C hl hPc hPm hS => lv_tableOut C.1 C.2.1 hd (by rw [hh]; exact tsw_out hn hk) ht (h p l e s m below meth c ls H locs C hl hPc hPm hS)
theorem W_callG {p : Program} {l : Launch} {e : Jvm.Env} {R : Room} {s : State} {m : MethodId} {args : Array Value} {below : List Frame} {meth : Method} {c : Code} {ls : Array Slot} {H : Heap} {locs : List Loc} {rest st0 : List Value} {a : Array Value} {rv : Option Value} {σ1 : St} {Q : State → Prop} {w : WT} {Γ : GT} {A0 : Nat → Prop} {cells slots pc : Nat}
    (hr : va_Run p l e R s m args below meth c H locs cells slots 0 0 (F0 m pc ls st0) rest (Post w Γ rv σ1 a) (AG w Γ)) (hS : va_S A0 s.heap H locs) (hA : ∀ q, AG w Γ q → A0 q)
    (kk : ∀ (H1 : Heap) (locs1 : List Loc), va_P Γ.1 vwCl (wl w Γ σ1) H1 → (∀ q : Nat, q < H.size → ¬ AG w Γ q → H1[q]? = H[q]?) → va_S A0 s.heap H1 locs1 → W p l e R s m args below meth c H1 locs1 cells slots Q (F0 m (pc + 3) ls (rv.toList ++ rest))) : W p l e R s m args below meth c H locs cells slots Q (F0 m pc ls st0) := by
  intro T hT X
  obtain ⟨v, st₀, t, T', L, h0, X', hL, e1, e2, ⟨⟨hv, hp⟩, hz, hk⟩, st⟩ := hr T hT X
  cases hv
  rw [h0] at hz hk
  obtain ⟨t2, a1, b1⟩ := kk T'.heap (locs ++ L) (by rw [e1]; exact hp) (fun q h1 h2 => by rw [e1]; exact hk q h1 h2)
    ⟨Nat.le_trans hS.1 (by rw [e1]; exact hz), fun q h1 h2 => by rw [e1, hk q (Nat.lt_of_lt_of_le h1 hS.1) (fun g => h2 (hA q g))]; exact hS.2.1 q h1 h2, fun q hq => (List.mem_append.mp hq).elim (hS.2.2 q) (fun g => hA _ (hL q g))⟩ T' rfl X'
  exact ⟨t2, st t2 a1, b1⟩
theorem PreL_at {s : State} {H : Heap} {av : List Value} {w : WT} {Γ : GT} {σ : St} (hK : va_K Γ.1 vwCl (atys Γ) s) (hI : Inj w Γ) (hN : NW s) (hP : va_P Γ.1 vwCl (wl w Γ σ) H) : ∀ U : State, U.heap = H → s.WarmedH U.vm → va_Pc av (Pre w Γ σ) av.toArray U :=
  fun U hU hW => ⟨rfl, by rw [hU]; exact hP, va_K.moved hW.alike hK, hI, va_Nw.warmM hW hN.1, va_Nw.warmM hW hN.2⟩
theorem EL_callC {y : MethodName} {bytes : ByteArray} {maxL N idx d2 : Nat} {rt2 : Option FieldType} {r : Option Value × St} (av rest st2 : List Value) (hd : decode code pc = .ok (.invokevirtual idx, 3)) (hst : st = av.reverse ++ .ref (Γc.2.1 0) :: rest) (hlk : Cond.methodLink "SameWrongLaw" idx y ∈ lw_good) (hin : Cond.instanceMethod y ∈ lw_good) (hse : Cond.selects RX11 y y ∈ lw_good) (hii : Cond.initialized RX11 ∈ lw_good) (hco : Cond.code y bytes maxL rt2 ∈ lw_good) (hyC : y.cls = RX11) (hy : y.cls ≠ "java/lang/invoke/MethodHandle" ∧ y.cls ≠ "java/lang/invoke/VarHandle" ∧ (parseMethodDescriptor y.desc).map (fun d => d.parameters.length) = some N) (hn : av.length = N) (hdd : d2 + 1 ≤ 2048 ∧ 8 + (maxL + 11) + 64 * d2 ≤ 84000) (hcat : (rest.map fun v => v.category).sum ≤ 8) (hk : k ≤ 600000 ∧ n ≤ 7302250) (hM : ∀ l, MC l y bytes maxL rt2 d2 WC Γc (.ref (Γc.2.1 0) :: av) σ r) (hst2 : r.1.toList ++ rest = st2) (h : EL b L xs Γc Γm k n (pc + 3) lv st2 r.2 τ) : EL b L xs Γc Γm k n pc lv st σ τ :=
  fun p l e s m below meth c ls H locs C hl hPc hPm hS => by
  subst hst
  subst hst2
  have hr := va_runV (R := room_1) (e := e) (below := below) (meth := meth) (H := H) (locs := locs) (cells := k) (slots := n) (As := av) (rest := rest) (g := F0 m pc ls _) ⟨C.1, C.2.1, C.2.2.1, C.2.2.2.1, C.2.2.2.2.1⟩ (hM l) (cwV N C.2.2.2.2.1 (lw_all (fun v hv => by
    rcases List.mem_append.mp hv with h1 | h1
    · simp only [List.mem_cons, List.not_mem_nil, or_false] at h1
      rcases h1 with rfl | rfl | rfl | rfl <;> assumption
    · exact (List.mem_cons.mp h1).elim (fun q => q ▸ hco) id)) rfl rfl rfl ⟨hyC, hy⟩ hdd) ⟨Pre_blind, va_recv (ci := 11) (q := (RX11, TX11, nfl 11)) (q0 := 0) C.2.2.2.2.2.2.2.1.1 hPc rfl (by rw [wl_get (by decide), cell_obj (ci := 11) rfl]), PreL_at C.2.2.2.2.2.2.2.1.1 C.2.2.2.2.2.2.2.2.2.1.1 C.2.2.2.2.2.2.2.2.1 hPc⟩ rfl hn hl.1 rfl (lv_room hcat) hd hk
  refine W_callG hr hS (fun q hq => ?_) (fun H1 locs1 hP1 hk1 hS1 => ?_)
  · obtain ⟨i, hi, e⟩ := hq
    show s.heap.size ≤ q
    rw [← e]
    exact C.2.2.2.2.2.2.2.2.2.2.1.1 i hi
  · refine h p l e s m below meth c ls H1 locs1 C hl hP1 ?_ hS1
    refine hPm.kept (fun j q hj => ?_)
    have hlt := (hPm j q hj).lt
    obtain ⟨hj2, rfl⟩ := wl_inv hj
    exact hk1 _ hlt (fun ⟨i, hi, e⟩ => (fun e => C.2.2.2.2.2.2.2.2.2.2.2.1 i hi j hj2 e) e)
theorem EL_callM {y : MethodName} {bytes : ByteArray} {maxL N idx d2 : Nat} {rt2 : Option FieldType} {r : Option Value × St} (av rest st2 : List Value) (hd : decode code pc = .ok (.invokevirtual idx, 3)) (hst : st = av.reverse ++ .ref (Γm.2.1 0) :: rest) (hlk : Cond.methodLink "SameWrongLaw" idx y ∈ lw_good) (hin : Cond.instanceMethod y ∈ lw_good) (hse : Cond.selects RX12 y y ∈ lw_good) (hii : Cond.initialized RX12 ∈ lw_good) (hco : Cond.code y bytes maxL rt2 ∈ lw_good) (hyC : y.cls = RX12) (hy : y.cls ≠ "java/lang/invoke/MethodHandle" ∧ y.cls ≠ "java/lang/invoke/VarHandle" ∧ (parseMethodDescriptor y.desc).map (fun d => d.parameters.length) = some N) (hn : av.length = N) (hdd : d2 + 1 ≤ 2048 ∧ 8 + (maxL + 11) + 64 * d2 ≤ 84000) (hcat : (rest.map fun v => v.category).sum ≤ 8) (hk : k ≤ 600000 ∧ n ≤ 7302250) (hM : ∀ l, MC l y bytes maxL rt2 d2 WM Γm (.ref (Γm.2.1 0) :: av) τ r) (hst2 : r.1.toList ++ rest = st2) (h : EL b L xs Γc Γm k n (pc + 3) lv st2 σ r.2) : EL b L xs Γc Γm k n pc lv st σ τ :=
  fun p l e s m below meth c ls H locs C hl hPc hPm hS => by
  subst hst
  subst hst2
  have hr := va_runV (R := room_1) (e := e) (below := below) (meth := meth) (H := H) (locs := locs) (cells := k) (slots := n) (As := av) (rest := rest) (g := F0 m pc ls _) ⟨C.1, C.2.1, C.2.2.1, C.2.2.2.1, C.2.2.2.2.1⟩ (hM l) (cwV N C.2.2.2.2.1 (lw_all (fun v hv => by
    rcases List.mem_append.mp hv with h1 | h1
    · simp only [List.mem_cons, List.not_mem_nil, or_false] at h1
      rcases h1 with rfl | rfl | rfl | rfl <;> assumption
    · exact (List.mem_cons.mp h1).elim (fun q => q ▸ hco) id)) rfl rfl rfl ⟨hyC, hy⟩ hdd) ⟨Pre_blind, va_recv (ci := 12) (q := (RX12, TX12, nfl 12)) (q0 := 0) C.2.2.2.2.2.2.2.1.2 hPm rfl (by rw [wl_get (by decide), cell_obj (ci := 12) rfl]), PreL_at C.2.2.2.2.2.2.2.1.2 C.2.2.2.2.2.2.2.2.2.1.2 C.2.2.2.2.2.2.2.2.1 hPm⟩ rfl hn hl.1 rfl (lv_room hcat) hd hk
  refine W_callG hr hS (fun q hq => ?_) (fun H1 locs1 hP1 hk1 hS1 => ?_)
  · obtain ⟨i, hi, e⟩ := hq
    show s.heap.size ≤ q
    rw [← e]
    exact C.2.2.2.2.2.2.2.2.2.2.1.2 i hi
  · refine h p l e s m below meth c ls H1 locs1 C hl ?_ hP1 hS1
    refine hPc.kept (fun j q hj => ?_)
    have hlt := (hPc j q hj).lt
    obtain ⟨hj2, rfl⟩ := wl_inv hj
    exact hk1 _ hlt (fun ⟨i, hi, e⟩ => (fun e => C.2.2.2.2.2.2.2.2.2.2.2.1 j hj2 i hi e.symm) e)
theorem EL_end {pc : Nat} (hd : decode code pc = .ok (.ireturn, 1)) (hk : k ≤ 600000) (hn : n ≤ 7302250) : EL b L xs Γc Γm k n pc lv [.int 1] σ τ :=
  fun p l e s m below meth c ls H locs C hl hPc hPm hS => va_forget hS.2.2 (W.widen hk hn (lw_ret C.1 C.2.1 C.2.2.2.2.2.2.2.2.2.2.2.2.1 C.2.2.2.2.2.2.2.2.2.2.2.2.2 hd))
theorem sc_in {i j : Nat} (h : i + 6 ≤ L) (hj : j < 6) (hL : L ≤ 3072) : vp_in (nI i + nI j) L := by
  rw [nI_add]
  exact inb_vp (inb_t (by omega) (by omega))
theorem sc_0 {i : Nat} (h : i + 6 ≤ L) (hL : L ≤ 3072) : vp_in (nI i) L := inb_vp (inb_t (by omega) (by omega))
end Law
