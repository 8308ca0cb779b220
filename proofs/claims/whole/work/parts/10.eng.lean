/-! THE ENGINE: a fixed world of cells by number, a judgement E (from this pc, with these locals, stack and memory, the method ends as the option says), a rule an instruction -/
abbrev GT : Type := va_G × (Nat → Nat) × (Nat → ClassId)
abbrev WT : Type := Nat × (Nat → Nat ⊕ (Nat × Nat)) × (Nat → Nat → Nat)
abbrev St : Type := (Nat → Nat → Int32) × (Nat → Nat → Int64)
def fty (ci : Nat) : Nat → FieldType := match ci with
  | 0 => tyX0 | 1 => tyX1 | 2 => tyX2 | 3 => tyX3 | 4 => tyX4 | 5 => tyX5 | 6 => tyX6 | 7 => tyX7 | 8 => tyX8 | 9 => tyX9 | 10 => tyX10 | 11 => tyX11 | _ => tyX12
def nfl (ci : Nat) : Nat := match ci with
  | 0 => 5 | 1 => 2 | 2 => 7 | 3 => 5 | 4 => 6 | 5 => 6 | 6 => 7 | 7 => 3 | 8 => 2 | 9 => 4 | 10 => 10 | 11 => 12 | _ => 30
def fv (w : WT) (Γ : GT) (σ : St) (k j : Nat) (t : FieldType) : Value := match t with
  | .int => .int (σ.1 k j)
  | .boolean => .int (σ.1 k j)
  | .long => .long (σ.2 k j)
  | _ => .ref (Γ.2.1 (w.2.2 k j))
def fvs (w : WT) (Γ : GT) (σ : St) (k ci : Nat) : List Value := (List.range (nfl ci)).map (fun j => fv w Γ σ k j (fty ci j))
def rfs (w : WT) (Γ : GT) (k n : Nat) : Nat → Option Nat := fun j => if j < n then some (Γ.2.1 (w.2.2 k j)) else none
def cellOf (w : WT) (Γ : GT) (σ : St) (k : Nat) : va_E := match w.2.1 k with
  | .inl ci => .inr (ci, fvs w Γ σ k ci)
  | .inr (0, n) => .inl (Γ.2.2 0, n, .inl (σ.1 k))
  | .inr (1, n) => .inl (Γ.2.2 1, n, .inr (.inl (σ.2 k)))
  | .inr (2, n) => .inl (Γ.2.2 2, n, .inl (σ.1 k))
  | .inr (t, n) => .inl (Γ.2.2 t, n, .inr (.inr (.inr (.inr (rfs w Γ k n)))))
def wl (w : WT) (Γ : GT) (σ : St) : va_W := (List.range w.1).map (fun k => (Γ.2.1 k, cellOf w Γ σ k))
def AG (w : WT) (Γ : GT) : Nat → Prop := fun q => ∃ k, k < w.1 ∧ Γ.2.1 k = q
def Inj (w : WT) (Γ : GT) : Prop := ∀ i j, i < w.1 → j < w.1 → Γ.2.1 i = Γ.2.1 j → i = j
theorem wl_get {w : WT} {Γ : GT} {σ : St} {k : Nat} (hk : k < w.1) : (wl w Γ σ)[k]? = some (Γ.2.1 k, cellOf w Γ σ k) := by
  simp [wl, hk]
theorem wl_inv {w : WT} {Γ : GT} {σ : St} {k : Nat} {q : Nat × va_E} (h : (wl w Γ σ)[k]? = some q) : k < w.1 ∧ q = (Γ.2.1 k, cellOf w Γ σ k) := by
  by_cases hk : k < w.1
  · rw [wl_get hk] at h
    exact ⟨hk, (Option.some.inj h).symm⟩
  · have : (wl w Γ σ)[k]? = none := by
      rw [List.getElem?_eq_none_iff]
      simp [wl]
      omega
    rw [this] at h
    cases h
theorem wl_D {w : WT} {Γ : GT} {σ : St} (h : Inj w Γ) : va_D (AG w Γ) (wl w Γ σ) := by
  refine ⟨fun i j p q hi hj e => ?_, fun k q hk => ?_⟩
  · obtain ⟨h1, rfl⟩ := wl_inv hi
    obtain ⟨h2, rfl⟩ := wl_inv hj
    exact h i j h1 h2 e
  · obtain ⟨h1, rfl⟩ := wl_inv hk
    exact ⟨k, h1, rfl⟩
theorem wl_set {w : WT} {Γ : GT} {σ σ' : St} {k : Nat} (h : ∀ a, a ≠ k → cellOf w Γ σ' a = cellOf w Γ σ a) : (wl w Γ σ).set k (Γ.2.1 k, cellOf w Γ σ' k) = wl w Γ σ' := by
  apply List.ext_getElem?
  intro i
  rw [List.getElem?_set]
  by_cases hi : k = i
  · subst hi
    by_cases hk : k < w.1
    · simp [wl, hk]
    · simp [wl, hk]
  · rw [if_neg hi]
    by_cases hk : i < w.1
    · rw [wl_get hk, wl_get hk, h i (fun e => hi e.symm)]
    · simp [wl, hk]
theorem cellOf_congr {w : WT} {Γ : GT} {σ σ' : St} {k : Nat} (h1 : σ'.1 k = σ.1 k) (h2 : σ'.2 k = σ.2 k) : cellOf w Γ σ' k = cellOf w Γ σ k := by
  have hf : ∀ j t, fv w Γ σ' k j t = fv w Γ σ k j t := by
    intro j t
    cases t <;> simp [fv, h1, h2]
  unfold cellOf fvs
  simp only [h1, h2, hf]
/-- memory with a row of ints, or of longs, made new -/
def wA (σ : St) (k : Nat) (f : Nat → Int32) : St := (fun a => if a = k then f else σ.1 a, σ.2)
def wB (σ : St) (k : Nat) (f : Nat → Int64) : St := (σ.1, fun a => if a = k then f else σ.2 a)
def wI (σ : St) (k j : Nat) (v : Int32) : St := wA σ k (upd (σ.1 k) j v)
def wL (σ : St) (k j : Nat) (v : Int64) : St := wB σ k (vp_updL (σ.2 k) j v)
theorem wA_set {w : WT} {Γ : GT} {σ : St} {k : Nat} {f : Nat → Int32} {x : va_E} (hx : x = cellOf w Γ (wA σ k f) k) : (wl w Γ σ).set k (Γ.2.1 k, x) = wl w Γ (wA σ k f) := by
  subst hx
  exact wl_set (fun a ha => cellOf_congr (by simp [wA, ha]) rfl)
theorem wB_set {w : WT} {Γ : GT} {σ : St} {k : Nat} {f : Nat → Int64} {x : va_E} (hx : x = cellOf w Γ (wB σ k f) k) : (wl w Γ σ).set k (Γ.2.1 k, x) = wl w Γ (wB σ k f) := by
  subst hx
  exact wl_set (fun a ha => cellOf_congr rfl (by simp [wB, ha]))
theorem fvs_len {w : WT} {Γ : GT} {σ : St} {k ci : Nat} : (fvs w Γ σ k ci).length = nfl ci := by simp [fvs]
theorem fvs_get {w : WT} {Γ : GT} {σ : St} {k ci j : Nat} (h : j < nfl ci) : (fvs w Γ σ k ci)[j]? = some (fv w Γ σ k j (fty ci j)) := by simp [fvs, h]
theorem fvs_setI {w : WT} {Γ : GT} {σ : St} {k ci j : Nat} {v : Int32} (ht : fty ci j = .int ∨ fty ci j = .boolean) : (fvs w Γ σ k ci).set j (.int v) = fvs w Γ (wI σ k j v) k ci := by
  apply List.ext_getElem?
  intro i
  rw [List.getElem?_set, fvs_len]
  by_cases hi : i < nfl ci
  · rw [fvs_get hi, fvs_get hi]
    by_cases e : j = i
    · subst e
      rw [if_pos rfl, if_pos hi]
      rcases ht with ht | ht <;> simp [ht, fv, wI, wA, upd]
    · rw [if_neg e]
      have e' : ¬ i = j := fun q => e q.symm
      cases fty ci i <;> simp [fv, wI, wA, upd, e']
  · have e1 : ∀ τ : St, (fvs w Γ τ k ci)[i]? = none := fun τ => by rw [List.getElem?_eq_none_iff, fvs_len]; omega
    rw [e1, e1]
    by_cases e : j = i
    · subst e; rw [if_pos rfl, if_neg hi]
    · rw [if_neg e]
theorem fvs_setL {w : WT} {Γ : GT} {σ : St} {k ci j : Nat} {v : Int64} (ht : fty ci j = .long) : (fvs w Γ σ k ci).set j (.long v) = fvs w Γ (wL σ k j v) k ci := by
  apply List.ext_getElem?
  intro i
  rw [List.getElem?_set, fvs_len]
  by_cases hi : i < nfl ci
  · rw [fvs_get hi, fvs_get hi]
    by_cases e : j = i
    · subst e
      rw [if_pos rfl, if_pos hi]
      simp [ht, fv, wL, wB, vp_updL]
    · rw [if_neg e]
      have e' : ¬ i = j := fun q => e q.symm
      cases fty ci i <;> simp [fv, wL, wB, vp_updL, e']
  · have e1 : ∀ τ : St, (fvs w Γ τ k ci)[i]? = none := fun τ => by rw [List.getElem?_eq_none_iff, fvs_len]; omega
    rw [e1, e1]
    by_cases e : j = i
    · subst e; rw [if_pos rfl, if_neg hi]
    · rw [if_neg e]
theorem cell_obj {w : WT} {Γ : GT} {σ : St} {k ci : Nat} (h : w.2.1 k = .inl ci) : cellOf w Γ σ k = .inr (ci, fvs w Γ σ k ci) := by simp [cellOf, h]
theorem cell_int {w : WT} {Γ : GT} {σ : St} {k n : Nat} (h : w.2.1 k = .inr (0, n)) : cellOf w Γ σ k = .inl (Γ.2.2 0, n, .inl (σ.1 k)) := by simp [cellOf, h]
theorem cell_long {w : WT} {Γ : GT} {σ : St} {k n : Nat} (h : w.2.1 k = .inr (1, n)) : cellOf w Γ σ k = .inl (Γ.2.2 1, n, .inr (.inl (σ.2 k))) := by simp [cellOf, h]
theorem cell_bool {w : WT} {Γ : GT} {σ : St} {k n : Nat} (h : w.2.1 k = .inr (2, n)) : cellOf w Γ σ k = .inl (Γ.2.2 2, n, .inl (σ.1 k)) := by simp [cellOf, h]
theorem cell_ref {w : WT} {Γ : GT} {σ : St} {k t n : Nat} (h : w.2.1 k = .inr (t + 3, n)) : cellOf w Γ σ k = .inl (Γ.2.2 (t + 3), n, .inr (.inr (.inr (.inr (rfs w Γ k n))))) := by simp [cellOf, h]
def atys (Γ : GT) : List (ClassId × FieldType) := [(Γ.2.2 0, .int), (Γ.2.2 1, .long), (Γ.2.2 2, .boolean), (Γ.2.2 3, .object "SameWrong$Sheet"), (Γ.2.2 4, .array .int)]
def NW (s : State) : Prop := va_Nw (.methodLinkNest RX4 44 yX11_within RX11) s ∧ va_Nw (.methodLinkNest RX9 38 yX11_within RX11) s
def Cx (own : String) (cc : ByteArray) (nL : Nat) (rt : Option FieldType) (w : WT) (Γ : GT) (p : Program) (s : State) (m : MethodId) (args : Array Value) (meth : Method) (c : Code) : Prop :=
  p.tables.exec = Jvm.exec ∧ c.code = cc ∧ c.maxLocals = nL ∧ s.vm.findClass own = some m.cls ∧ (∀ v ∈ lw_good, v.before args s = true) ∧ meth.sig.returnType = rt ∧ meth.locks = false ∧ va_K Γ.1 vwCl (atys Γ) s ∧ Inj w Γ ∧ NW s
def RM (d : Nat) : Room := { frames := d, cells := 0, slots := 0, locals := 64 * d }
def Post (w : WT) (Γ : GT) (rv : Option Value) (σ' : St) : Array Value → State → Outcome → State → Prop := fun _ st oc t => (oc = .returned rv ∧ va_P Γ.1 vwCl (wl w Γ σ') t.heap) ∧ va_F (AG w Γ) st t
def Pre (w : WT) (Γ : GT) (σ : St) (U : State) : Prop := va_P Γ.1 vwCl (wl w Γ σ) U.heap ∧ va_K Γ.1 vwCl (atys Γ) U ∧ Inj w Γ ∧ NW U
/-- from pc, with these locals, stack and memory: if the option is some x, the method ends with what x stands for -/
def E (own : String) (cc : ByteArray) (nL : Nat) (rt : Option FieldType) (d : Nat) (w : WT) (Γ : GT) {R : Type} (em : R → Option Value × St) (pc : Nat) (lv : List (Nat × Value)) (st : List Value) (σ : St) (o : Option R) : Prop :=
  ∀ x, o = some x → ∀ (p : Program) (l : Launch) (e : Jvm.Env) (s : State) (m : MethodId) (args : Array Value) (below : List Frame) (meth : Method) (c : Code) (ls : Array Slot) (H : Heap) (locs : List Loc),
    Cx own cc nL rt w Γ p s m args meth c → lv_has ls nL lv → va_P Γ.1 vwCl (wl w Γ σ) H → va_S (AG w Γ) s.heap H locs →
    W p l e (RM d) s m args below meth c H locs 0 0 (MQ below (Post w Γ (em x).1 (em x).2) args s 0 0 (AG w Γ)) (F0 m pc ls st)
def MC (l : Launch) (y : MethodName) (cc : ByteArray) (nL : Nat) (rt : Option FieldType) (d : Nat) (w : WT) (Γ : GT) (av : List Value) (σ : St) (r : Option Value × St) : Prop :=
  Met l y (.code y cc nL rt :: lw_good) (RM d) (va_Pc av (Pre w Γ σ)) (Post w Γ r.1 r.2) 0 0 (AG w Γ)
theorem MC_of {y : MethodName} {cc : ByteArray} {nL : Nat} {rt : Option FieldType} {d : Nat} {w : WT} {Γ : GT} {R : Type} {em : R → Option Value × St} {av : List Value} {σ : St} {o : Option R} {x : R}
    (hy : plainFor y = true) (hn : (lg_sl av).length ≤ nL) (h : E y.cls cc nL rt d w Γ em 0 (lv_args 0 av) [] σ o) (ho : o = some x) (l : Launch) : MC l y cc nL rt d w Γ av σ (em x) := by
  unfold MC Met
  refine MetFree.of_bodySF (code := cc) (maxLocals := nL) (ret := rt) hy ?_ ?_
  · intro args s m h hn
    obtain ⟨meth, c, h1, h2, h3, h4, h5, h6, -, -⟩ := Cond.code_spec hn (atoms_spec (ws := .code y cc nL rt :: lw_good) h _ List.mem_cons_self)
    exact ⟨meth, c, h1, h2, h3, h4, h5, h6⟩
  · intro p e s m args below meth c s₁ B hml hv _
    obtain ⟨rfl, hP, hK, hI, hN⟩ := hv
    have hts := atoms_spec (ws := .code y cc nL rt :: lw_good) B.pre
    have hl := lv_entry av (n := nL) hn
    have hh0 : s₁.heap = s.heap := by rw [B.state]; rfl
    have k := h x ho p l e s m _ below meth c _ s.heap [] ⟨B.exec, B.bytes, hml, findClass_of_methodNamed B.named, fun v hv => hts v (List.mem_cons_of_mem _ hv), B.returns, B.notSynchronized, hK, hI, hN⟩ hl hP va_S.rf
    rw [← lg_entry_eq] at k
    obtain ⟨t, a1, o, b1, b2, b3⟩ := k s₁ hh0 (Stand.of_body B)
    exact ⟨t, o, a1, b1, b2, ⟨b3.1, b3.2⟩⟩
def gd {α : Type} (b : Bool) (o : Option α) : Option α := match b with
  | true => o
  | false => none
def inb (i : Int32) (n : Nat) : Bool := !(decide (i < 0)) && decide (i.toNatClampNeg < n)
def bI (b : Bool) : Int32 := match b with
  | true => 1
  | false => 0
def lp {X R : Type} (F : (X → Option R) → X → Option R) : Nat → X → Option R
  | 0, _ => none
  | n + 1, x => F (lp F n) x
def jn {X R : Type} (K : X → Option R) (B : (X → Option R) → Option R) : Option R := B K
theorem gd_some {α : Type} {b : Bool} {o : Option α} {x : α} (h : gd b o = some x) : b = true ∧ o = some x := by
  cases b
  · cases h
  · exact ⟨rfl, h⟩
theorem inb_vp {i : Int32} {n : Nat} (h : inb i n = true) : vp_in i n := by
  unfold inb at h
  simp only [Bool.and_eq_true, Bool.not_eq_true', decide_eq_false_iff_not, decide_eq_true_eq] at h
  exact fun q => q.elim h.1 (fun z => Nat.not_le.mpr h.2 z)
