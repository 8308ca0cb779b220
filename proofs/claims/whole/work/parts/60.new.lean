/-! CONSTRUCTORS: a judgement over a list of cells that grows -/
def atyL (g : Nat → ClassId) : List (ClassId × FieldType) := [(g 0, .int), (g 1, .long), (g 2, .boolean), (g 3, .object "SameWrong$Sheet"), (g 4, .array .int)]
def NX (s : State) : Prop := NW s ∧ va_Nw (.methodLinkNest RX11 9 yX4_init RX11) s ∧ va_Nw (.methodLinkNest RX11 18 yX7_init RX11) s ∧ va_Nw (.methodLinkNest RX11 25 yX10_init RX11) s ∧ va_Nw (.methodLinkNest RX11 32 yX1_init RX11) s ∧ va_Nw (.methodLinkNest RX11 97 yX9_init RX11) s ∧ va_AO "SameWrong$Sheet" s ∧ AI s
theorem NX_warm {s U : State} (hW : s.WarmedH U.vm) (h : NX s) : NX U := by
  obtain ⟨⟨a, b⟩, c1, c2, c3, c4, c5, d, e⟩ := h
  exact ⟨⟨va_Nw.warmM hW a, va_Nw.warmM hW b⟩, va_Nw.warmM hW c1, va_Nw.warmM hW c2, va_Nw.warmM hW c3, va_Nw.warmM hW c4, va_Nw.warmM hW c5, va_AO.moved hW.alike d, AI_moved hW.alike e⟩
theorem NX_same {u U : State} (hv : u.vm = U.vm) (h : NX u) : NX U := by
  obtain ⟨⟨a, b⟩, c1, c2, c3, c4, c5, d, e⟩ := h
  exact ⟨⟨va_Nw.same rfl hv a, va_Nw.same rfl hv b⟩, va_Nw.same rfl hv c1, va_Nw.same rfl hv c2, va_Nw.same rfl hv c3, va_Nw.same rfl hv c4, va_Nw.same rfl hv c5, va_AO.moved (by rw [hv]; exact Vm.Alike.refl U.vm) d, AI_moved (by rw [hv]; exact Vm.Alike.refl U.vm) e⟩
def RN (d k n : Nat) : Room := { frames := d, cells := k, slots := n, locals := 64 * d }
def CN (own : String) (cc : ByteArray) (nL : Nat) (D : va_G) (g : Nat → ClassId) (A : Nat → Prop) (p : Program) (s : State) (m : MethodId) (args : Array Value) (meth : Method) (c : Code) : Prop :=
  p.tables.exec = Jvm.exec ∧ c.code = cc ∧ c.maxLocals = nL ∧ s.vm.findClass own = some m.cls ∧ (∀ v ∈ lw_good, v.before args s = true) ∧ meth.sig.returnType = none ∧ meth.name = "<init>" ∧ meth.locks = false ∧ va_K D vwCl (atyL g) s ∧ NX s ∧ ∀ q, s.heap.size ≤ q → A q
def QN (D : va_G) (A : Nat → Prop) (Wf : (Nat → Nat) → va_W) : Array Value → State → Outcome → State → Prop := va_Qv (fun _ : Nat → Nat => True) (fun qs t => va_P D vwCl (Wf qs) t.heap ∧ va_D A (Wf qs)) A
def EN (own : String) (cc : ByteArray) (nL : Nat) (R : Room) (D : va_G) (g : Nat → ClassId) (A : Nat → Prop) (Wf : (Nat → Nat) → va_W) (mc ms : Nat) (pc : Nat) (lv : List (Nat × Value)) (st : List Value) (ws : va_W) (k n : Nat) : Prop :=
  ∀ (p : Program) (l : Launch) (e : Jvm.Env) (s : State) (m : MethodId) (args : Array Value) (below : List Frame) (meth : Method) (c : Code) (ls : Array Slot) (H : Heap) (locs : List Loc),
    CN own cc nL D g A p s m args meth c → lv_has ls nL lv → va_P D vwCl ws H → va_D A ws → va_S A s.heap H locs →
    W p l e R s m args below meth c H locs k n (MQ below (QN D A Wf) args s mc ms A) (F0 m pc ls st)
def PN (D : va_G) (g : Nat → ClassId) (h0 ci : Nat) (fs0 : List Value) (sz : Nat) (U : State) : Prop := U.heap.size = sz ∧ va_P D vwCl [(h0, .inr (ci, fs0))] U.heap ∧ va_K D vwCl (atyL g) U ∧ va_D (fun _ => True) [(h0, .inr (ci, fs0))] ∧ NX U
/-- a constructor's contract -/
def MN (l : Launch) (y : MethodName) (cc : ByteArray) (nL d : Nat) (D : va_G) (g : Nat → ClassId) (av : List Value) (h0 ci : Nat) (fs0 : List Value) (Wf : (Nat → Nat) → va_W) (mc ms : Nat) : Prop :=
  ∀ sz, Met l y (.code y cc nL none :: lw_good) (RN d mc ms) (va_Pc (.ref h0 :: av) (PN D g h0 ci fs0 sz)) (QN D (va_A [(h0, .inr (ci, fs0))] sz) Wf) mc ms (va_A [(h0, .inr (ci, fs0))] sz)
theorem MN_of {y : MethodName} {cc : ByteArray} {nL d : Nat} {D : va_G} {g : Nat → ClassId} {av : List Value} {h0 ci : Nat} {fs0 : List Value} {Wf : (Nat → Nat) → va_W} {mc ms : Nat}
    (hy : plainFor y = true) (hyn : y.name = "<init>") (hn : (lg_sl (.ref h0 :: av)).length ≤ nL) (h : ∀ A, EN y.cls cc nL (RN d mc ms) D g A Wf mc ms 0 (lv_args 0 (.ref h0 :: av)) [] [(h0, .inr (ci, fs0))] 0 0) (l : Launch) : MN l y cc nL d D g av h0 ci fs0 Wf mc ms := by
  intro sz
  unfold Met
  refine MetFree.of_bodySF (code := cc) (maxLocals := nL) (ret := none) hy ?_ ?_
  · intro args s m h hn
    obtain ⟨meth, c, h1, h2, h3, h4, h5, h6, -, -⟩ := Cond.code_spec hn (atoms_spec (ws := .code y cc nL none :: lw_good) h _ List.mem_cons_self)
    exact ⟨meth, c, h1, h2, h3, h4, h5, h6⟩
  · intro p e s m args below meth c s₁ B hml hv _
    obtain ⟨rfl, hsz, hP, hK, hD, hN⟩ := hv
    subst hsz
    have hts := atoms_spec (ws := .code y cc nL none :: lw_good) B.pre
    have hl := lv_entry (.ref h0 :: av) (n := nL) hn
    have hh0 : s₁.heap = s.heap := by rw [B.state]; rfl
    have hin : meth.name = "<init>" := (name_of_methodNamed B.named B.method).1.trans hyn
    have k := h (va_A [(h0, .inr (ci, fs0))] s.heap.size) p l e s m _ below meth c _ s.heap [] ⟨B.exec, B.bytes, hml, findClass_of_methodNamed B.named, fun v hv => hts v (List.mem_cons_of_mem _ hv), B.returns, hin, B.notSynchronized, hK, hN, fun q hq => Or.inr hq⟩ hl hP hD.self va_S.rf
    rw [← lg_entry_eq] at k
    obtain ⟨t, a1, o, b1, b2, b3⟩ := k s₁ hh0 (Stand.of_body B)
    exact ⟨t, o, a1, b1, b2, ⟨b3.1, b3.2⟩⟩
theorem va_D_rows {A : Nat → Prop} {D : va_G} {cl : List vw_C} {ws : va_W} {H : Heap} (hD : va_D A ws) (hP : va_P D cl ws H) (hA : ∀ q, H.size ≤ q → A q) (N : Nat) (f : Nat → va_E) : va_D A (ws ++ (List.range N).map (fun j => (H.size + j, f j))) := by
  have key : ∀ (i : Nat) (x : Nat × va_E), (ws ++ (List.range N).map (fun j => (H.size + j, f j)))[i]? = some x → (i < ws.length ∧ ws[i]? = some x ∧ x.1 < H.size) ∨ (ws.length ≤ i ∧ x.1 = H.size + (i - ws.length)) := by
    intro i x hx
    by_cases hi : i < ws.length
    · rw [List.getElem?_append_left hi] at hx
      exact Or.inl ⟨hi, hx, (hP i x hx).lt⟩
    · rw [List.getElem?_append_right (by omega), List.getElem?_map] at hx
      have hlt : i - ws.length < N := by
        by_cases z : i - ws.length < N
        · exact z
        · rw [List.getElem?_eq_none (by simp; omega)] at hx; cases hx
      rw [List.getElem?_range hlt] at hx
      have := Option.some.inj hx
      exact Or.inr ⟨by omega, by rw [← this]⟩
  refine ⟨fun i j x y hx hy e => ?_, fun i x hx => ?_⟩
  · rcases key i x hx with ⟨a1, a2, a3⟩ | ⟨a1, a2⟩ <;> rcases key j y hy with ⟨b1, b2, b3⟩ | ⟨b1, b2⟩
    · exact hD.1 i j x y a2 b2 e
    · omega
    · omega
    · omega
  · rcases key i x hx with ⟨a1, a2, a3⟩ | ⟨a1, a2⟩
    · exact hD.2 i x a2
    · rw [a2]; exact hA _ (by omega)
theorem va_P_one {D : va_G} {cl : List vw_C} {x : Nat × va_E} {H : Heap} (h : va_at D cl x H) : va_P D cl [x] H := fun k q hk => by
  have hz : k < 1 := (List.getElem?_eq_some_iff.mp hk).1
  rw [show k = 0 by omega] at hk
  cases hk
  exact h
/-- what a call of a constructor gives back beside the rest -/
theorem n_join {A : Nat → Prop} {D : va_G} {cl : List vw_C} {wr w1 : va_W} {b : Nat} {x : va_E} {H H1 : Heap} (hP : va_P D cl (wr ++ [(b, x)]) H) (hD : va_D A (wr ++ [(b, x)])) (hA : ∀ q, H.size ≤ q → A q) (hk : ∀ q : Nat, q < H.size → ¬ va_A [(b, x)] H.size q → H1[q]? = H[q]?) (hP1 : va_P D cl w1 H1) (hD1 : va_D (va_A [(b, x)] H.size) w1) : va_P D cl (wr ++ w1) H1 ∧ va_D A (wr ++ w1) := by
  have hl : ∀ (i : Nat) (y : Nat × va_E), wr[i]? = some y → (wr ++ [(b, x)])[i]? = some y := fun i y h => by
    rw [List.getElem?_append_left (List.getElem?_eq_some_iff.mp h).1]; exact h
  have hb : (wr ++ [(b, x)])[wr.length]? = some (b, x) := by simp
  have hAb : A b := hD.2 _ _ hb
  have ha : ∀ q, va_A [(b, x)] H.size q → q = b ∨ H.size ≤ q := by
    rintro q (⟨k, e, h⟩ | h)
    · have hz : k < 1 := (List.getElem?_eq_some_iff.mp h).1
      rw [show k = 0 by omega] at h
      cases h
      exact Or.inl rfl
    · exact Or.inr h
  have hn : ∀ (i : Nat) (y : Nat × va_E), wr[i]? = some y → y.1 < H.size ∧ ¬ va_A [(b, x)] H.size y.1 := fun i y h => by
    have h1 := (hP i y (hl i y h)).lt
    refine ⟨h1, fun w => ?_⟩
    rcases ha _ w with e | e
    · have h2 := hD.1 i wr.length y (b, x) (hl i y h) hb e
      have := (List.getElem?_eq_some_iff.mp h).1
      omega
    · omega
  have key : ∀ (i : Nat) (y : Nat × va_E), (wr ++ w1)[i]? = some y → (i < wr.length ∧ wr[i]? = some y) ∨ (wr.length ≤ i ∧ w1[i - wr.length]? = some y) := by
    intro i y hx
    by_cases hi : i < wr.length
    · rw [List.getElem?_append_left hi] at hx
      exact Or.inl ⟨hi, hx⟩
    · rw [List.getElem?_append_right (by omega)] at hx
      exact Or.inr ⟨by omega, hx⟩
  refine ⟨fun i y hy => ?_, fun i j y z hy hz e => ?_, fun i y hy => ?_⟩
  · rcases key i y hy with ⟨_, a2⟩ | ⟨_, a2⟩
    · exact (hP i y (hl i y a2)).kept (hk _ (hn i y a2).1 (hn i y a2).2)
    · exact hP1 _ y a2
  · rcases key i y hy with ⟨a1, a2⟩ | ⟨a1, a2⟩ <;> rcases key j z hz with ⟨b1, b2⟩ | ⟨b1, b2⟩
    · exact hD.1 i j y z (hl i y a2) (hl j z b2) e
    · exact absurd (e ▸ hD1.2 _ _ b2) (hn i y a2).2
    · exact absurd (e ▸ hD1.2 _ _ a2) (hn j z b2).2
    · have := hD1.1 _ _ y z a2 b2 e
      omega
  · rcases key i y hy with ⟨a1, a2⟩ | ⟨a1, a2⟩
    · exact hD.2 i y (hl i y a2)
    · rcases ha _ (hD1.2 _ _ a2) with e | e
      · rw [e]; exact hAb
      · exact hA _ e
section News
variable {own : String} {cc : ByteArray} {nL : Nat} {R : Room} {D : va_G} {g : Nat → ClassId} {A : Nat → Prop} {Wf : (Nat → Nat) → va_W} {mc ms pc : Nat} {lv : List (Nat × Value)} {st : List Value} {ws : va_W} {k n : Nat}
theorem EN_iconst {a : Int} {v : Int32} (hd : decode cc pc = .ok (.iconst a, 1)) (hv : Int32.ofInt a = v) (h : EN own cc nL R D g A Wf mc ms (pc + 1) lv (.int v :: st) ws k n) : EN own cc nL R D g A Wf mc ms pc lv st ws k n :=
  fun p l e s m args below meth c ls H locs C hl hP hD hS => lv_iconst C.1 C.2.1 hd hv (h p l e s m args below meth c ls H locs C hl hP hD hS)
theorem EN_bipush {a : Int} {v : Int32} (hd : decode cc pc = .ok (.bipush a, 2)) (hv : (Int8.ofInt a).toInt32 = v) (h : EN own cc nL R D g A Wf mc ms (pc + 2) lv (.int v :: st) ws k n) : EN own cc nL R D g A Wf mc ms pc lv st ws k n :=
  fun p l e s m args below meth c ls H locs C hl hP hD hS => lv_bipush C.1 C.2.1 hd hv (h p l e s m args below meth c ls H locs C hl hP hD hS)
theorem EN_sipush {a : Int} {v : Int32} (hd : decode cc pc = .ok (.sipush a, 3)) (hv : (Int16.ofInt a).toInt32 = v) (h : EN own cc nL R D g A Wf mc ms (pc + 3) lv (.int v :: st) ws k n) : EN own cc nL R D g A Wf mc ms pc lv st ws k n :=
  fun p l e s m args below meth c ls H locs C hl hP hD hS => lv_sipush C.1 C.2.1 hd hv (h p l e s m args below meth c ls H locs C hl hP hD hS)
theorem EN_lconst {a : Fin 2} {v : Int64} (hd : decode cc pc = .ok (.lconst a, 1)) (hv : Int64.ofNat (a : Nat) = v) (h : EN own cc nL R D g A Wf mc ms (pc + 1) lv (.long v :: st) ws k n) : EN own cc nL R D g A Wf mc ms pc lv st ws k n :=
  fun p l e s m args below meth c ls H locs C hl hP hD hS => lv_lconst C.1 C.2.1 hd hv (h p l e s m args below meth c ls H locs C hl hP hD hS)
theorem EN_aload_n {a : Fin 4} {i x : Nat} (j : Nat) (hd : decode cc pc = .ok (.aload_n a, 1)) (hi : (a : Nat) = i) (hj : lv[j]? = some (i, .ref x)) (h : EN own cc nL R D g A Wf mc ms (pc + 1) lv (.ref x :: st) ws k n) : EN own cc nL R D g A Wf mc ms pc lv st ws k n :=
  fun p l e s m args below meth c ls H locs C hl hP hD hS => lv_aload_n C.1 C.2.1 hd hi (lv_at hl j hj) (h p l e s m args below meth c ls H locs C hl hP hD hS)
theorem EN_aload {i x : Nat} (j : Nat) (hd : decode cc pc = .ok (.aload i, 2)) (hj : lv[j]? = some (i, .ref x)) (h : EN own cc nL R D g A Wf mc ms (pc + 2) lv (.ref x :: st) ws k n) : EN own cc nL R D g A Wf mc ms pc lv st ws k n :=
  fun p l e s m args below meth c ls H locs C hl hP hD hS => lv_aload C.1 C.2.1 hd (lv_at hl j hj) (h p l e s m args below meth c ls H locs C hl hP hD hS)
theorem EN_iload_n {a : Fin 4} {i : Nat} {x : Int32} (j : Nat) (hd : decode cc pc = .ok (.iload_n a, 1)) (hi : (a : Nat) = i) (hj : lv[j]? = some (i, .int x)) (h : EN own cc nL R D g A Wf mc ms (pc + 1) lv (.int x :: st) ws k n) : EN own cc nL R D g A Wf mc ms pc lv st ws k n :=
  fun p l e s m args below meth c ls H locs C hl hP hD hS => lv_iload_n C.1 C.2.1 hd hi (lv_at hl j hj) (h p l e s m args below meth c ls H locs C hl hP hD hS)
theorem EN_istore_n {a : Fin 4} {i : Nat} {x : Int32} (lv2 : List (Nat × Value)) (hd : decode cc pc = .ok (.istore_n a, 1)) (hi : (a : Nat) = i) (hn : i < nL) (hl2 : (i, Value.int x) :: lv.filter (fun q => !(q.1 == i) && !(q.1 + 1 == i && q.2.category == 2)) = lv2) (h : EN own cc nL R D g A Wf mc ms (pc + 1) lv2 st ws k n) : EN own cc nL R D g A Wf mc ms pc lv (.int x :: st) ws k n :=
  fun p l e s m args below meth c ls H locs C hl hP hD hS => lv_istore_n C.1 C.2.1 hd hi hl hn hl2 (fun ls hl => h p l e s m args below meth c ls H locs C hl hP hD hS)
theorem EN_iinc {i : Nat} {a : Int} {x v : Int32} (j : Nat) (lv2 : List (Nat × Value)) (hd : decode cc pc = .ok (.iinc i a, 3)) (hj : lv[j]? = some (i, .int x)) (hv : x + Int32.ofInt a = v) (hn : i < nL) (hl2 : (i, Value.int v) :: lv.filter (fun q => !(q.1 == i) && !(q.1 + 1 == i && q.2.category == 2)) = lv2) (h : EN own cc nL R D g A Wf mc ms (pc + 3) lv2 st ws k n) : EN own cc nL R D g A Wf mc ms pc lv st ws k n :=
  fun p l e s m args below meth c ls H locs C hl hP hD hS => lv_iinc C.1 C.2.1 hd hl hj hv hn hl2 (fun ls hl => h p l e s m args below meth c ls H locs C hl hP hD hS)
theorem EN_dup {v : Value} (hd : decode cc pc = .ok (.dup, 1)) (ha : v.category = 1) (h : EN own cc nL R D g A Wf mc ms (pc + 1) lv (v :: v :: st) ws k n) : EN own cc nL R D g A Wf mc ms pc lv (v :: st) ws k n :=
  fun p l e s m args below meth c ls H locs C hl hP hD hS => lv_dup C.1 C.2.1 hd ha (h p l e s m args below meth c ls H locs C hl hP hD hS)
theorem EN_goto {off : Int} (tgt : Nat) (hd : decode cc pc = .ok (.goto off, 3)) (ht : (pc : Int) + off = (tgt : Int)) (h : EN own cc nL R D g A Wf mc ms tgt lv st ws k n) : EN own cc nL R D g A Wf mc ms pc lv st ws k n :=
  fun p l e s m args below meth c ls H locs C hl hP hD hS => lv_goto C.1 C.2.1 hd ht (h p l e s m args below meth c ls H locs C hl hP hD hS)
theorem EN_geT {x y : Int32} {off : Int} (tgt : Nat) (hd : decode cc pc = .ok (.if_icmp .ge off, 3)) (ht : (pc : Int) + off = (tgt : Int)) (hxy : y ≤ x) (h : EN own cc nL R D g A Wf mc ms tgt lv st ws k n) : EN own cc nL R D g A Wf mc ms pc lv (.int y :: .int x :: st) ws k n :=
  fun p l e s m args below meth c ls H locs C hl hP hD hS => lv_icmp_ge C.1 C.2.1 hd ht (fun _ => h p l e s m args below meth c ls H locs C hl hP hD hS) (fun q => absurd hxy q)
theorem EN_geF {x y : Int32} {off : Int} (tgt : Nat) (hd : decode cc pc = .ok (.if_icmp .ge off, 3)) (ht : (pc : Int) + off = (tgt : Int)) (hxy : ¬ y ≤ x) (h : EN own cc nL R D g A Wf mc ms (pc + 3) lv st ws k n) : EN own cc nL R D g A Wf mc ms pc lv (.int y :: .int x :: st) ws k n :=
  fun p l e s m args below meth c ls H locs C hl hP hD hS => lv_icmp_ge C.1 C.2.1 hd ht (fun q => absurd q hxy) (fun _ => h p l e s m args below meth c ls H locs C hl hP hD hS)
theorem EN_obj {a idx : Nat} (hd : decode cc pc = .ok (.invokespecial idx, 3)) (hlk : Cond.methodLink own idx Lib.objectInit ∈ lw_good) (hf : 1 ≤ R.frames) (hlo : (st.map fun v => v.category).sum + 12 ≤ R.locals) (h : EN own cc nL R D g A Wf mc ms (pc + 3) lv st ws k n) : EN own cc nL R D g A Wf mc ms pc lv (.ref a :: st) ws k n :=
  fun p l e s m args below meth c ls H locs C hl hP hD hS => W.objInit C.1 C.2.1 C.2.2.2.1 (C.2.2.2.2.1 _ hlk) (C.2.2.2.2.1 _ (kw_24 : Cond.instanceMethod Lib.objectInit ∈ lw_good)) (C.2.2.2.2.1 _ (kw_25 : Cond.code Lib.objectInit ⟨#[0xb1]⟩ 1 none ∈ lw_good)) rfl (hl.1.trans C.2.2.1.symm) rfl hd hf (by show 2 * 0 + _ + 12 ≤ _; omega) (W.eq (g2 := F0 m (pc + 3) ls st) rfl (h p l e s m args below meth c ls H locs C hl hP hD hS))
theorem EN_get {a ci j idx : Nat} {C0 ref : String} {T : u_T} (q0 : Nat) {fs : List Value} {v : Value} (hd : decode cc pc = .ok (.getfield idx, 3)) (he : ws[q0]? = some (a, .inr (ci, fs))) (hc : vwCl[ci]? = some (C0, T, nfl ci)) (hin : ∀ v ∈ u_ws C0 T (nfl ci), v ∈ lw_good) (hj : j < nfl ci) (hlk : Cond.fieldLink own idx ref (T j).2.1 (T j).2.2.1 ∈ lw_good) (hrf : ref = (T j).1) (hv : fs[j]? = some v) (h : EN own cc nL R D g A Wf mc ms (pc + 3) lv (v :: st) ws k n) : EN own cc nL R D g A Wf mc ms pc lv (.ref a :: st) ws k n :=
  fun p l e s m args below meth c ls H locs C hl hP hD hS => va_get C.1 C.2.1 C.2.2.2.2.1 hin C.2.2.2.1 C.2.2.2.2.2.2.2.2.1 hP q0 he hc j hj (C.2.2.2.2.1 _ hlk) (by rw [hrf]; exact fun x hx => hx) hv hd (h p l e s m args below meth c ls H locs C hl hP hD hS)
theorem EN_put {a ci j idx : Nat} {C0 ref : String} {T : u_T} (q0 : Nat) {fs : List Value} {v : Value} (ws2 : va_W) (hd : decode cc pc = .ok (.putfield idx, 3)) (he : ws[q0]? = some (a, .inr (ci, fs))) (hc : vwCl[ci]? = some (C0, T, nfl ci)) (hin : ∀ v ∈ u_ws C0 T (nfl ci), v ∈ lw_good) (hj : j < nfl ci) (hlk : Cond.fieldLink own idx ref (T j).2.1 (T j).2.2.1 ∈ lw_good) (hrf : ref = (T j).1) (hty : ∀ k, k < nfl ci → parseFieldDescriptor (T k).2.2.1 = some (fty ci k)) (hnm : ∀ a, a < nfl ci → ∀ b, b < nfl ci → a ≠ b → (T a).2.1 ≠ (T b).2.1) (hfin : (T j).2.2.2 = false) (hnw : narrow (fty ci j) v = v) (hft : fits (fty ci j) v = true) (hlen : j < fs.length) (hw : ws.set q0 (a, .inr (ci, fs.set j v)) = ws2) (h : EN own cc nL R D g A Wf mc ms (pc + 3) lv st ws2 k n) : EN own cc nL R D g A Wf mc ms pc lv (v :: .ref a :: st) ws k n :=
  fun p l e s m args below meth c ls H locs C hl hP hD hS => va_put C.1 C.2.1 C.2.2.2.2.1 hin (fty ci) hty hnm C.2.2.2.1 C.2.2.2.2.2.2.2.2.1 hP hD hS q0 he hc j hj (C.2.2.2.2.1 _ hlk) (by rw [hrf]; exact fun x hx => hx) hfin (hty j hj) hnw hft hlen hd (fun H1 locs1 hP1 hD1 hS1 => h p l e s m args below meth c ls H1 locs1 C hl (hw ▸ hP1) (hw ▸ hD1) hS1)
theorem EN_putF {a ci j idx : Nat} {C0 ref : String} {T : u_T} (q0 : Nat) {fs : List Value} {v : Value} (ws2 : va_W) (hd : decode cc pc = .ok (.putfield idx, 3)) (he : ws[q0]? = some (a, .inr (ci, fs))) (hc : vwCl[ci]? = some (C0, T, nfl ci)) (hin : ∀ v ∈ u_ws C0 T (nfl ci), v ∈ lw_good) (hj : j < nfl ci) (hlk : Cond.fieldLink own idx ref (T j).2.1 (T j).2.2.1 ∈ lw_good) (hrf : ref = (T j).1) (hty : ∀ k, k < nfl ci → parseFieldDescriptor (T k).2.2.1 = some (fty ci k)) (hnm : ∀ a, a < nfl ci → ∀ b, b < nfl ci → a ≠ b → (T a).2.1 ≠ (T b).2.1) (hfin : (T j).2.2.2 = true) (hown : (T j).1 = own) (hnw : narrow (fty ci j) v = v) (hft : fits (fty ci j) v = true) (hlen : j < fs.length) (hw : ws.set q0 (a, .inr (ci, fs.set j v)) = ws2) (h : EN own cc nL R D g A Wf mc ms (pc + 3) lv st ws2 k n) : EN own cc nL R D g A Wf mc ms pc lv (v :: .ref a :: st) ws k n :=
  fun p l e s m args below meth c ls H locs C hl hP hD hS => va_putF C.1 C.2.1 C.2.2.2.2.1 hin (fty ci) hty hnm C.2.2.2.1 C.2.2.2.2.2.2.2.2.1 hP hD hS q0 he hc j hj (C.2.2.2.2.1 _ hlk) (by rw [hrf]; exact fun x hx => hx) hfin C.2.2.2.2.2.2.1 hown (hty j hj) hnw hft hlen hd (fun H1 locs1 hP1 hD1 hS1 => h p l e s m args below meth c ls H1 locs1 C hl (hw ▸ hP1) (hw ▸ hD1) hS1)
theorem EN_new {ci idx : Nat} {C0 : String} {T : u_T} (fs : List Value) (hd : decode cc pc = .ok (.new idx, 3)) (hlk : Cond.classLink own idx C0 ∈ lw_good) (hi1 : Cond.instantiable C0 (nfl ci) ∈ lw_good) (hi2 : Cond.initialized C0 ∈ lw_good) (hc : vwCl[ci]? = some (C0, T, nfl ci)) (hin : ∀ v ∈ u_ws C0 T (nfl ci), v ∈ lw_good) (hty : ∀ k, k < nfl ci → parseFieldDescriptor (T k).2.2.1 = some (fty ci k)) (hfs : ∀ j, j < nfl ci → defaultValue (fty ci j) = vp_V fs j) (hk : k + 1 ≤ R.cells) (hn : n + nfl ci ≤ R.slots) (h : ∀ q, EN own cc nL R D g A Wf mc ms (pc + 3) lv (.ref q :: st) (ws ++ [(q, .inr (ci, fs))]) (k + 1) (n + nfl ci)) : EN own cc nL R D g A Wf mc ms pc lv st ws k n :=
  fun p l e s m args below meth c ls H locs C hl hP hD hS => va_new C.1 C.2.1 C.2.2.2.2.1 hin (fty ci) hty C.2.2.2.1 (C.2.2.2.2.1 _ hlk) (C.2.2.2.2.1 _ hi1) (C.2.2.2.2.1 _ hi2) C.2.2.2.2.2.2.2.2.1 hP hD hS C.2.2.2.2.2.2.2.2.2.2 hc hfs hk hn hd (fun q H1 hP1 hD1 hS1 => h q p l e s m args below meth c ls H1 locs C hl hP1 hD1 hS1)
theorem EN_newa {atype : ArrayType} {ty : FieldType} (t : Nat) {x : Int32} {N : Nat} {a0 : vp_A} (hd : decode cc pc = .ok (.newarray atype, 2)) (hty : newarray.typeOf atype = ty) (hno : ∀ C, ty ≠ .object C) (ht : (atyL g)[t]? = some (g t, ty)) (hw : Cond.arrayClass ty ∈ lw_good) (ha : ∀ cA : ClassId, vp_cell cA a0 = arrV cA N (fun _ => defaultValue ty)) (hx : ¬ x < 0) (hN : x.toNatClampNeg = N) (hby : N * componentBytes ty ≤ 536870912) (hk : k + 1 ≤ R.cells) (hn : n + N ≤ R.slots) (h : ∀ q, EN own cc nL R D g A Wf mc ms (pc + 2) lv (.ref q :: st) (ws ++ [(q, .inl (g t, a0))]) (k + 1) (n + N)) : EN own cc nL R D g A Wf mc ms pc lv (.int x :: st) ws k n :=
  fun p l e s m args below meth c ls H locs C hl hP hD hS => by
  refine va_newa C.1 C.2.1 (by rw [hty]; exact C.2.2.2.2.1 _ hw) hty C.2.2.2.2.2.2.2.2.1 hP hD hS C.2.2.2.2.2.2.2.2.2.2 ha hx hN hby hk hn hd (fun q cA H1 hK1 hP1 hD1 hS1 => ?_)
  have h1 := (hK1.2 5 (cA, ty) rfl).2
  have h2 := (C.2.2.2.2.2.2.2.2.1.2 t (g t, ty) ht).2
  have e : cA = g t := by
    cases ty with
    | object C => exact absurd rfl (hno C)
    | _ => exact Option.some.inj ((show s.vm.findClass _ = some cA from h1).symm.trans (show s.vm.findClass _ = some (g t) from h2))
  subst e
  exact h q p l e s m args below meth c ls H1 locs C hl hP1 hD1 hS1
theorem EN_newq {idx : Nat} {x : Int32} {N : Nat} (hd : decode cc pc = .ok (.anewarray idx, 3)) (hlk : Cond.classLink own idx "SameWrong$Sheet" ∈ lw_good) (hx : ¬ x < 0) (hN : x.toNatClampNeg = N) (hby : N * 4 ≤ 536870912) (hk : k + 1 ≤ R.cells) (hn : n + N ≤ R.slots) (h : ∀ q, EN own cc nL R D g A Wf mc ms (pc + 3) lv (.ref q :: st) (ws ++ [(q, .inl (g 3, N, .inr (.inr (.inr (.inr (fun _ => none))))))]) (k + 1) (n + N)) : EN own cc nL R D g A Wf mc ms pc lv (.int x :: st) ws k n :=
  fun p l e s m args below meth c ls H locs C hl hP hD hS => by
  refine va_newq C.1 C.2.1 C.2.2.2.1 (C.2.2.2.2.1 _ hlk) C.2.2.2.2.2.2.2.2.2.1.2.2.2.2.2.2.1 C.2.2.2.2.2.2.2.2.1 hP hD hS C.2.2.2.2.2.2.2.2.2.2 hx hN hby hk hn hd (fun q cA H1 hK1 hP1 hD1 hS1 => ?_)
  obtain ⟨_, _, _, _, _, h1⟩ := (hK1.2 5 (cA, .object "SameWrong$Sheet") rfl).2
  obtain ⟨_, _, _, _, _, h2⟩ := (C.2.2.2.2.2.2.2.2.1.2 3 (g 3, .object "SameWrong$Sheet") rfl).2
  have e : cA = g 3 := Option.some.inj (h1.symm.trans h2)
  subst e
  exact h q p l e s m args below meth c ls H1 locs C hl hP1 hD1 hS1
theorem EN_aast {a ci v N : Nat} (q0 qk : Nat) {vs : List Value} {f : Nat → Option Nat} {x : Int32} {T : u_T} {z : Nat} (ws2 : va_W) (hd : decode cc pc = .ok (.aastore, 1)) (he : ws[q0]? = some (a, .inl (g 3, N, .inr (.inr (.inr (.inr f)))))) (hv : ws[qk]? = some (v, .inr (ci, vs))) (hc : vwCl[ci]? = some ("SameWrong$Sheet", T, z)) (hx : vp_in x N) (hw : ws.set q0 (a, .inl (g 3, N, .inr (.inr (.inr (.inr (va_up f x.toNatClampNeg (some v))))))) = ws2) (h : EN own cc nL R D g A Wf mc ms (pc + 1) lv st ws2 k n) : EN own cc nL R D g A Wf mc ms pc lv (.ref v :: .int x :: .ref a :: st) ws k n :=
  fun p l e s m args below meth c ls H locs C hl hP hD hS => va_astq C.1 C.2.1 C.2.2.2.2.2.2.2.2.1 hP hD hS q0 3 qk ci he rfl hv hc hx hd (fun H1 locs1 hP1 hD1 hS1 => h p l e s m args below meth c ls H1 locs1 C hl (hw ▸ hP1) (hw ▸ hD1) hS1)
theorem EN_multi {idx N M : Nat} (hd : decode cc pc = .ok (.multianewarray idx 2, 4)) (hlk : Cond.classLink own idx "[[I" ∈ lw_good) (hN : N < 1000) (hM : M < 1000) (hk : k + (1 + N) ≤ R.cells) (hn : n + (N + N * M) ≤ R.slots) (h : ∀ q, EN own cc nL R D g A Wf mc ms (pc + 4) lv (.ref q :: st) (ws ++ (List.range (N + 1)).map (fun j => (q + j, if j = 0 then (.inl (g 4, N, .inr (.inr (.inr (.inr (fun j => if j < N then some (q + 1 + j) else none))))) : va_E) else .inl (g 0, M, .inl (fun _ => 0))))) (k + 1 + N) (n + N + N * M)) : EN own cc nL R D g A Wf mc ms pc lv (.int (nI M) :: .int (nI N) :: st) ws k n :=
  fun p l e s m args below meth c ls H locs C hl hP hD hS => by
  refine W_multi C.1 C.2.1 C.2.2.2.1 (C.2.2.2.2.1 _ hlk) C.2.2.2.2.2.2.2.2.2.1.2.2.2.2.2.2.2 (C.2.2.2.2.1 _ kw_63) hN hM hk hn hd (fun H1 locs1 cA cI f1 f2 z1 o1 o2 o3 hl1 => ?_)
  have hA' : ∀ q, H.size ≤ q → A q := fun q hq => C.2.2.2.2.2.2.2.2.2.2 q (Nat.le_trans hS.1 hq)
  have hK := C.2.2.2.2.2.2.2.2.1
  have h4 : s.vm.findClass ("[" ++ (FieldType.array .int).toString) = some (g 4) := (hK.2 4 (g 4, .array .int) rfl).2
  have h0 : s.vm.findClass ("[" ++ FieldType.int.toString) = some (g 0) := (hK.2 0 (g 0, .int) rfl).2
  rw [show "[" ++ (FieldType.array .int).toString = "[[I" by decide +kernel] at h4
  rw [show "[" ++ FieldType.int.toString = "[I" by decide +kernel] at h0
  have e4 : cA = g 4 := Option.some.inj (f1.symm.trans h4)
  have e0 : cI = g 0 := Option.some.inj (f2.symm.trans h0)
  subst e4; subst e0
  have hk1 : ∀ (i : Nat) (x : Nat × va_E), ws[i]? = some x → H1[x.1]? = H[x.1]? := fun i x hx => o3 x.1 ((hP i x hx).lt)
  refine h H.size p l e s m args below meth c ls H1 locs1 C hl ((hP.kept hk1).app (fun i x hx => ?_)) (va_D_rows hD hP hA' (N + 1) _) ⟨Nat.le_trans hS.1 (by omega), fun x h1 h2 => (o3 x (Nat.lt_of_lt_of_le h1 hS.1)).trans (hS.2.1 x h1 h2), fun y hy => (hl1 y hy).elim (hS.2.2 y) (fun e => by rw [e]; exact hA' _ (Nat.le_refl _))⟩
  rw [List.getElem?_map] at hx
  have hlt : i < N + 1 := by
    by_cases z : i < N + 1
    · exact z
    · rw [List.getElem?_eq_none (by simp; omega)] at hx; cases hx
  rw [List.getElem?_range hlt] at hx
  have hx := Option.some.inj hx
  subst hx
  by_cases e0 : i = 0
  · subst e0
    show H1[H.size]? = some (vp_cell _ _)
    rw [o1, vp_cell_q]
    congr 2
    funext j
    by_cases hj : j < N <;> simp [hj, va_rf]
  · show va_at D vwCl (H.size + i, if i = 0 then _ else _) H1
    rw [if_neg e0]
    show H1[H.size + i]? = some (vp_cell _ _)
    rw [vp_cell_i, show H.size + i = H.size + 1 + (i - 1) by omega]
    exact o2 (i - 1) (by omega)
theorem EN_ret (qs : Nat → Nat) (hd : decode cc pc = .ok (.return_, 1)) (hw : ws = Wf qs) (hk : k = mc) (hn : n = ms) : EN own cc nL R D g A Wf mc ms pc lv [] ws k n :=
  fun p l e s m args below meth c ls H locs C hl hP hD hS => by
  subst hk; subst hn; subst hw
  exact W.vret C.1 C.2.1 C.2.2.2.2.2.1 (fun t ht hW => ⟨⟨qs, rfl, trivial, by rw [ht]; exact hP, hD⟩, hS.F ht⟩) hS.2.2 hd C.2.2.2.2.2.2.2.1
theorem PN_blind {av : List Value} {h0 ci sz : Nat} {fs0 : List Value} : FrameBlind (va_Pc av (PN D g h0 ci fs0 sz)) := fun a U g1 mk q => by
  obtain ⟨h1, h2, h3, h4, h5, h6⟩ := q
  exact ⟨h1, h2, h3, va_K.moved (u := U) (U := U.calling g1 mk a) (Vm.Alike.refl U.vm) h4, h5, NX_same (u := U) rfl h6⟩
theorem EN_call {y : MethodName} {bytes : ByteArray} {maxL d2 idx b ci mc2 ms2 : Nat} {fs0 : List Value} {W2 : (Nat → Nat) → va_W} {wr : va_W} (av : List Value) (rest : List Value) (hd : decode cc pc = .ok (.invokespecial idx, 3)) (hM : ∀ l, MN l y bytes maxL d2 D g av b ci fs0 W2 mc2 ms2) (hst : st = av.reverse ++ .ref b :: rest) (hws : ws = wr ++ [(b, .inr (ci, fs0))]) (hrun : (Cond.methodLink own idx y ∈ lw_good) ∨ (∀ s : State, NX s → va_Nw (.methodLinkNest own idx y "SameWrong") s)) (hco : Cond.code y bytes maxL none ∈ lw_good) (hini : Cond.initialized y.cls ∈ lw_good) (hinm : Cond.instanceMethod y ∈ lw_good) (hyn : y.name = "<init>") (hy : y.cls ≠ "java/lang/invoke/MethodHandle" ∧ y.cls ≠ "java/lang/invoke/VarHandle" ∧ (parseMethodDescriptor y.desc).map (fun d => d.parameters.length) = some av.length) (hR : d2 + 1 ≤ R.frames ∧ 8 + (maxL + 11) + 64 * d2 ≤ R.locals) (hcat : (rest.map fun v => v.category).sum ≤ 8) (hk : k + mc2 ≤ R.cells ∧ n + ms2 ≤ R.slots) (h : ∀ qs, EN own cc nL R D g A Wf mc ms (pc + 3) lv rest (wr ++ W2 qs) (k + mc2) (n + ms2)) : EN own cc nL R D g A Wf mc ms pc lv st ws k n :=
  fun p l e s m args below meth c ls H locs C hl hP hD hS => by
  subst hst
  subst hws
  have hA' : ∀ q, H.size ≤ q → A q := fun q hq => C.2.2.2.2.2.2.2.2.2.2 q (Nat.le_trans hS.1 hq)
  have hb : (wr ++ [(b, (.inr (ci, fs0) : va_E))])[wr.length]? = some (b, .inr (ci, fs0)) := by simp
  have hpre : PreS s H (va_Pc (.ref b :: av) (PN D g b ci fs0 H.size)) (.ref b :: av) := ⟨PN_blind, fun U hU hW => ⟨rfl, by rw [hU], by rw [hU]; exact va_P_one (hP _ _ hb), va_K.moved hW.alike C.2.2.2.2.2.2.2.2.1, ⟨fun i j x y hx hy e => by
    have h1 := (List.getElem?_eq_some_iff.mp hx).1
    have h2 := (List.getElem?_eq_some_iff.mp hy).1
    simp at h1 h2
    omega, fun _ _ _ => trivial⟩, NX_warm hW C.2.2.2.2.2.2.2.2.2.1⟩⟩
  have hS5 : CallFix p m c cc nL s args lw_good own := ⟨C.1, C.2.1, C.2.2.1, C.2.2.2.1, C.2.2.2.2.1⟩
  have hr : va_Run p l e R s m args below meth c H locs k n mc2 ms2 (F0 m pc ls (av.reverse ++ .ref b :: rest)) rest (QN D (va_A [(b, .inr (ci, fs0))] H.size) W2 (Value.ref b :: av).toArray) (va_A [(b, .inr (ci, fs0))] H.size) := by
    rcases hrun with hlk | hlk
    · exact va_runI (As := av) (rest := rest) hS5 (hM l H.size) (cwI av.length C.2.2.2.2.1 (lw_goodIn hco) rfl rfl rfl (C.2.2.2.2.1 _ hini) (C.2.2.2.2.1 _ hlk) (C.2.2.2.2.1 _ hinm) hyn hy hR) hpre rfl rfl hl.1 rfl (lv_room hcat) hd hk
    · exact va_runIN (As := av) (rest := rest) hS5 (hM l H.size) ⟨va_cnB av.length C.2.2.2.2.1 (lw_goodIn hco) rfl rfl rfl (hlk s C.2.2.2.2.2.2.2.2.2.1) (C.2.2.2.2.1 _ hini) hy hR, hyn, C.2.2.2.2.1 _ hinm⟩ hpre rfl rfl hl.1 rfl (lv_room hcat) hd hk
  have hf : ∀ q, va_A [(b, (.inr (ci, fs0) : va_E))] H.size q → A q := by
    rintro q (⟨i, x, hx⟩ | hx)
    · have hz : i < 1 := (List.getElem?_eq_some_iff.mp hx).1
      rw [show i = 0 by omega] at hx
      cases hx
      exact hD.2 _ _ hb
    · exact hA' q hx
  refine va_callv hr hS (fun q _ hq => hf q hq) hf (fun qs t H1 locs1 ht hvm _ hB hz1 hk1 hS1 => ?_)
  obtain ⟨hP1, hD1⟩ := hB
  rw [ht] at hP1
  obtain ⟨hP2, hD2⟩ := n_join hP hD hA' hk1 hP1 hD1
  exact h qs p l e s m args below meth c ls H1 locs1 C hl hP2 hD2 hS1
end News
