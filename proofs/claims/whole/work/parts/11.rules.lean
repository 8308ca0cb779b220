section Rules
variable {own : String} {cc : ByteArray} {nL : Nat} {rt : Option FieldType} {d : Nat} {w : WT} {Γ : GT} {R : Type} {em : R → Option Value × St} {pc : Nat} {lv : List (Nat × Value)} {st : List Value} {σ : St} {o : Option R}
theorem E_iconst {n : Int} {v : Int32} (hd : decode cc pc = .ok (.iconst n, 1)) (hv : Int32.ofInt n = v) (h : E own cc nL rt d w Γ em (pc + 1) lv (.int v :: st) σ o) : E own cc nL rt d w Γ em pc lv (st) σ o :=
  fun x hx p l e s m args below meth c ls H locs C hl hP hS => lv_iconst C.1 C.2.1 hd hv (h x hx p l e s m args below meth c ls H locs C hl hP hS)
theorem E_bipush {n : Int} {v : Int32} (hd : decode cc pc = .ok (.bipush n, 2)) (hv : (Int8.ofInt n).toInt32 = v) (h : E own cc nL rt d w Γ em (pc + 2) lv (.int v :: st) σ o) : E own cc nL rt d w Γ em pc lv (st) σ o :=
  fun x hx p l e s m args below meth c ls H locs C hl hP hS => lv_bipush C.1 C.2.1 hd hv (h x hx p l e s m args below meth c ls H locs C hl hP hS)
theorem E_sipush {n : Int} {v : Int32} (hd : decode cc pc = .ok (.sipush n, 3)) (hv : (Int16.ofInt n).toInt32 = v) (h : E own cc nL rt d w Γ em (pc + 3) lv (.int v :: st) σ o) : E own cc nL rt d w Γ em pc lv (st) σ o :=
  fun x hx p l e s m args below meth c ls H locs C hl hP hS => lv_sipush C.1 C.2.1 hd hv (h x hx p l e s m args below meth c ls H locs C hl hP hS)
theorem E_lconst {n : Fin 2} {v : Int64} (hd : decode cc pc = .ok (.lconst n, 1)) (hv : Int64.ofNat (n : Nat) = v) (h : E own cc nL rt d w Γ em (pc + 1) lv (.long v :: st) σ o) : E own cc nL rt d w Γ em pc lv (st) σ o :=
  fun x hx p l e s m args below meth c ls H locs C hl hP hS => lv_lconst C.1 C.2.1 hd hv (h x hx p l e s m args below meth c ls H locs C hl hP hS)
theorem E_iload_n {k : Fin 4} {i : Nat} {x : Int32} (j : Nat) (hd : decode cc pc = .ok (.iload_n k, 1)) (hi : (k : Nat) = i) (hj : lv[j]? = some (i, .int x)) (h : E own cc nL rt d w Γ em (pc + 1) lv (.int x :: st) σ o) : E own cc nL rt d w Γ em pc lv (st) σ o :=
  fun x hx p l e s m args below meth c ls H locs C hl hP hS => lv_iload_n C.1 C.2.1 hd hi (lv_at hl j hj) (h x hx p l e s m args below meth c ls H locs C hl hP hS)
theorem E_iload {i : Nat} {x : Int32} (j : Nat) (hd : decode cc pc = .ok (.iload i, 2)) (hj : lv[j]? = some (i, .int x)) (h : E own cc nL rt d w Γ em (pc + 2) lv (.int x :: st) σ o) : E own cc nL rt d w Γ em pc lv (st) σ o :=
  fun x hx p l e s m args below meth c ls H locs C hl hP hS => lv_iload C.1 C.2.1 hd (lv_at hl j hj) (h x hx p l e s m args below meth c ls H locs C hl hP hS)
theorem E_istore_n {k : Fin 4} {i : Nat} {x : Int32} (lv2 : List (Nat × Value)) (hd : decode cc pc = .ok (.istore_n k, 1)) (hi : (k : Nat) = i) (hn : i < nL) (hl2 : (i, Value.int x) :: lv.filter (fun q => !(q.1 == i) && !(q.1 + 1 == i && q.2.category == 2)) = lv2) (h : E own cc nL rt d w Γ em (pc + 1) lv2 st σ o) : E own cc nL rt d w Γ em pc lv (.int x :: st) σ o :=
  fun x hx p l e s m args below meth c ls H locs C hl hP hS => lv_istore_n C.1 C.2.1 hd hi hl hn hl2 (fun ls hl => h x hx p l e s m args below meth c ls H locs C hl hP hS)
theorem E_istore {i : Nat} {x : Int32} (lv2 : List (Nat × Value)) (hd : decode cc pc = .ok (.istore i, 2)) (hn : i < nL) (hl2 : (i, Value.int x) :: lv.filter (fun q => !(q.1 == i) && !(q.1 + 1 == i && q.2.category == 2)) = lv2) (h : E own cc nL rt d w Γ em (pc + 2) lv2 st σ o) : E own cc nL rt d w Γ em pc lv (.int x :: st) σ o :=
  fun x hx p l e s m args below meth c ls H locs C hl hP hS => lv_istore C.1 C.2.1 hd hl hn hl2 (fun ls hl => h x hx p l e s m args below meth c ls H locs C hl hP hS)
theorem E_lload_n {k : Fin 4} {i : Nat} {x : Int64} (j : Nat) (hd : decode cc pc = .ok (.lload_n k, 1)) (hi : (k : Nat) = i) (hj : lv[j]? = some (i, .long x)) (h : E own cc nL rt d w Γ em (pc + 1) lv (.long x :: st) σ o) : E own cc nL rt d w Γ em pc lv (st) σ o :=
  fun x hx p l e s m args below meth c ls H locs C hl hP hS => lv_lload_n C.1 C.2.1 hd hi (lv_at hl j hj) (h x hx p l e s m args below meth c ls H locs C hl hP hS)
theorem E_lload {i : Nat} {x : Int64} (j : Nat) (hd : decode cc pc = .ok (.lload i, 2)) (hj : lv[j]? = some (i, .long x)) (h : E own cc nL rt d w Γ em (pc + 2) lv (.long x :: st) σ o) : E own cc nL rt d w Γ em pc lv (st) σ o :=
  fun x hx p l e s m args below meth c ls H locs C hl hP hS => lv_lload C.1 C.2.1 hd (lv_at hl j hj) (h x hx p l e s m args below meth c ls H locs C hl hP hS)
theorem E_lstore_n {k : Fin 4} {i : Nat} {x : Int64} (lv2 : List (Nat × Value)) (hd : decode cc pc = .ok (.lstore_n k, 1)) (hi : (k : Nat) = i) (hn : i + 1 < nL) (hl2 : (i, Value.long x) :: lv.filter (fun q => !(q.1 == i) && (!(q.1 == i + 1) && !(q.1 + 1 == i && q.2.category == 2))) = lv2) (h : E own cc nL rt d w Γ em (pc + 1) lv2 st σ o) : E own cc nL rt d w Γ em pc lv (.long x :: st) σ o :=
  fun x hx p l e s m args below meth c ls H locs C hl hP hS => lv_lstore_n C.1 C.2.1 hd hi hl hn hl2 (fun ls hl => h x hx p l e s m args below meth c ls H locs C hl hP hS)
theorem E_lstore {i : Nat} {x : Int64} (lv2 : List (Nat × Value)) (hd : decode cc pc = .ok (.lstore i, 2)) (hn : i + 1 < nL) (hl2 : (i, Value.long x) :: lv.filter (fun q => !(q.1 == i) && (!(q.1 == i + 1) && !(q.1 + 1 == i && q.2.category == 2))) = lv2) (h : E own cc nL rt d w Γ em (pc + 2) lv2 st σ o) : E own cc nL rt d w Γ em pc lv (.long x :: st) σ o :=
  fun x hx p l e s m args below meth c ls H locs C hl hP hS => lv_lstore C.1 C.2.1 hd hl hn hl2 (fun ls hl => h x hx p l e s m args below meth c ls H locs C hl hP hS)
theorem E_aload_n {k : Fin 4} {i : Nat} {x : Nat} (j : Nat) (hd : decode cc pc = .ok (.aload_n k, 1)) (hi : (k : Nat) = i) (hj : lv[j]? = some (i, .ref x)) (h : E own cc nL rt d w Γ em (pc + 1) lv (.ref x :: st) σ o) : E own cc nL rt d w Γ em pc lv (st) σ o :=
  fun x hx p l e s m args below meth c ls H locs C hl hP hS => lv_aload_n C.1 C.2.1 hd hi (lv_at hl j hj) (h x hx p l e s m args below meth c ls H locs C hl hP hS)
theorem E_aload {i : Nat} {x : Nat} (j : Nat) (hd : decode cc pc = .ok (.aload i, 2)) (hj : lv[j]? = some (i, .ref x)) (h : E own cc nL rt d w Γ em (pc + 2) lv (.ref x :: st) σ o) : E own cc nL rt d w Γ em pc lv (st) σ o :=
  fun x hx p l e s m args below meth c ls H locs C hl hP hS => lv_aload C.1 C.2.1 hd (lv_at hl j hj) (h x hx p l e s m args below meth c ls H locs C hl hP hS)
theorem E_astore_n {k : Fin 4} {i : Nat} {x : Nat} (lv2 : List (Nat × Value)) (hd : decode cc pc = .ok (.astore_n k, 1)) (hi : (k : Nat) = i) (hn : i < nL) (hl2 : (i, Value.ref x) :: lv.filter (fun q => !(q.1 == i) && !(q.1 + 1 == i && q.2.category == 2)) = lv2) (h : E own cc nL rt d w Γ em (pc + 1) lv2 st σ o) : E own cc nL rt d w Γ em pc lv (.ref x :: st) σ o :=
  fun x hx p l e s m args below meth c ls H locs C hl hP hS => lv_astore_n C.1 C.2.1 hd hi hl hn hl2 (fun ls hl => h x hx p l e s m args below meth c ls H locs C hl hP hS)
theorem E_astore {i : Nat} {x : Nat} (lv2 : List (Nat × Value)) (hd : decode cc pc = .ok (.astore i, 2)) (hn : i < nL) (hl2 : (i, Value.ref x) :: lv.filter (fun q => !(q.1 == i) && !(q.1 + 1 == i && q.2.category == 2)) = lv2) (h : E own cc nL rt d w Γ em (pc + 2) lv2 st σ o) : E own cc nL rt d w Γ em pc lv (.ref x :: st) σ o :=
  fun x hx p l e s m args below meth c ls H locs C hl hP hS => lv_astore C.1 C.2.1 hd hl hn hl2 (fun ls hl => h x hx p l e s m args below meth c ls H locs C hl hP hS)
theorem E_iinc {i : Nat} {n : Int} {x v : Int32} (j : Nat) (lv2 : List (Nat × Value)) (hd : decode cc pc = .ok (.iinc i n, 3)) (hj : lv[j]? = some (i, .int x)) (hv : x + Int32.ofInt n = v) (hn : i < nL) (hl2 : (i, Value.int v) :: lv.filter (fun q => !(q.1 == i) && !(q.1 + 1 == i && q.2.category == 2)) = lv2) (h : E own cc nL rt d w Γ em (pc + 3) lv2 st σ o) : E own cc nL rt d w Γ em pc lv st σ o :=
  fun x hx p l e s m args below meth c ls H locs C hl hP hS => lv_iinc C.1 C.2.1 hd hl hj hv hn hl2 (fun ls hl => h x hx p l e s m args below meth c ls H locs C hl hP hS)
theorem E_iadd {x y : Int32} (hd : decode cc pc = .ok (.iadd, 1)) (h : E own cc nL rt d w Γ em (pc + 1) lv (.int (x + y) :: st) σ o) : E own cc nL rt d w Γ em pc lv (.int y :: .int x :: st) σ o :=
  fun x hx p l e s m args below meth c ls H locs C hl hP hS => lv_iadd C.1 C.2.1 hd (h x hx p l e s m args below meth c ls H locs C hl hP hS)
theorem E_isub {x y : Int32} (hd : decode cc pc = .ok (.isub, 1)) (h : E own cc nL rt d w Γ em (pc + 1) lv (.int (x - y) :: st) σ o) : E own cc nL rt d w Γ em pc lv (.int y :: .int x :: st) σ o :=
  fun x hx p l e s m args below meth c ls H locs C hl hP hS => lv_isub C.1 C.2.1 hd (h x hx p l e s m args below meth c ls H locs C hl hP hS)
theorem E_imul {x y : Int32} (hd : decode cc pc = .ok (.imul, 1)) (h : E own cc nL rt d w Γ em (pc + 1) lv (.int (x * y) :: st) σ o) : E own cc nL rt d w Γ em pc lv (.int y :: .int x :: st) σ o :=
  fun x hx p l e s m args below meth c ls H locs C hl hP hS => lv_imul C.1 C.2.1 hd (h x hx p l e s m args below meth c ls H locs C hl hP hS)
theorem E_iand {x y : Int32} (hd : decode cc pc = .ok (.iand, 1)) (h : E own cc nL rt d w Γ em (pc + 1) lv (.int (x &&& y) :: st) σ o) : E own cc nL rt d w Γ em pc lv (.int y :: .int x :: st) σ o :=
  fun x hx p l e s m args below meth c ls H locs C hl hP hS => lv_iand C.1 C.2.1 hd (h x hx p l e s m args below meth c ls H locs C hl hP hS)
theorem E_ior {x y : Int32} (hd : decode cc pc = .ok (.ior, 1)) (h : E own cc nL rt d w Γ em (pc + 1) lv (.int (x ||| y) :: st) σ o) : E own cc nL rt d w Γ em pc lv (.int y :: .int x :: st) σ o :=
  fun x hx p l e s m args below meth c ls H locs C hl hP hS => lv_ior C.1 C.2.1 hd (h x hx p l e s m args below meth c ls H locs C hl hP hS)
theorem E_ixor {x y : Int32} (hd : decode cc pc = .ok (.ixor, 1)) (h : E own cc nL rt d w Γ em (pc + 1) lv (.int (x ^^^ y) :: st) σ o) : E own cc nL rt d w Γ em pc lv (.int y :: .int x :: st) σ o :=
  fun x hx p l e s m args below meth c ls H locs C hl hP hS => lv_ixor C.1 C.2.1 hd (h x hx p l e s m args below meth c ls H locs C hl hP hS)
theorem E_ladd {x y : Int64} (hd : decode cc pc = .ok (.ladd, 1)) (h : E own cc nL rt d w Γ em (pc + 1) lv (.long (x + y) :: st) σ o) : E own cc nL rt d w Γ em pc lv (.long y :: .long x :: st) σ o :=
  fun x hx p l e s m args below meth c ls H locs C hl hP hS => lv_ladd C.1 C.2.1 hd (h x hx p l e s m args below meth c ls H locs C hl hP hS)
theorem E_lsub {x y : Int64} (hd : decode cc pc = .ok (.lsub, 1)) (h : E own cc nL rt d w Γ em (pc + 1) lv (.long (x - y) :: st) σ o) : E own cc nL rt d w Γ em pc lv (.long y :: .long x :: st) σ o :=
  fun x hx p l e s m args below meth c ls H locs C hl hP hS => lv_lsub C.1 C.2.1 hd (h x hx p l e s m args below meth c ls H locs C hl hP hS)
theorem E_lmul {x y : Int64} (hd : decode cc pc = .ok (.lmul, 1)) (h : E own cc nL rt d w Γ em (pc + 1) lv (.long (x * y) :: st) σ o) : E own cc nL rt d w Γ em pc lv (.long y :: .long x :: st) σ o :=
  fun x hx p l e s m args below meth c ls H locs C hl hP hS => lv_lmul C.1 C.2.1 hd (h x hx p l e s m args below meth c ls H locs C hl hP hS)
theorem E_ineg {x : Int32} (hd : decode cc pc = .ok (.ineg, 1)) (h : E own cc nL rt d w Γ em (pc + 1) lv (.int (0 - x) :: st) σ o) : E own cc nL rt d w Γ em pc lv (.int x :: st) σ o :=
  fun x hx p l e s m args below meth c ls H locs C hl hP hS => lv_ineg C.1 C.2.1 hd (h x hx p l e s m args below meth c ls H locs C hl hP hS)
theorem E_lneg {x : Int64} (hd : decode cc pc = .ok (.lneg, 1)) (h : E own cc nL rt d w Γ em (pc + 1) lv (.long (0 - x) :: st) σ o) : E own cc nL rt d w Γ em pc lv (.long x :: st) σ o :=
  fun x hx p l e s m args below meth c ls H locs C hl hP hS => lv_lneg C.1 C.2.1 hd (h x hx p l e s m args below meth c ls H locs C hl hP hS)
theorem E_ishl {x y : Int32} (hd : decode cc pc = .ok (.ishl, 1)) (h : E own cc nL rt d w Γ em (pc + 1) lv (.int (x <<< (y &&& 31)) :: st) σ o) : E own cc nL rt d w Γ em pc lv (.int y :: .int x :: st) σ o :=
  fun x hx p l e s m args below meth c ls H locs C hl hP hS => lv_ishl C.1 C.2.1 hd (h x hx p l e s m args below meth c ls H locs C hl hP hS)
theorem E_ishr {x y : Int32} (hd : decode cc pc = .ok (.ishr, 1)) (h : E own cc nL rt d w Γ em (pc + 1) lv (.int (x >>> (y &&& 31)) :: st) σ o) : E own cc nL rt d w Γ em pc lv (.int y :: .int x :: st) σ o :=
  fun x hx p l e s m args below meth c ls H locs C hl hP hS => lv_ishr C.1 C.2.1 hd (h x hx p l e s m args below meth c ls H locs C hl hP hS)
theorem E_iushr {x y : Int32} (hd : decode cc pc = .ok (.iushr, 1)) (h : E own cc nL rt d w Γ em (pc + 1) lv (.int ((x.toUInt32 >>> (y.toUInt32 &&& Int32.toUInt32 31)).toInt32) :: st) σ o) : E own cc nL rt d w Γ em pc lv (.int y :: .int x :: st) σ o :=
  fun x hx p l e s m args below meth c ls H locs C hl hP hS => lv_iushr C.1 C.2.1 hd rfl (h x hx p l e s m args below meth c ls H locs C hl hP hS)
theorem E_i2l {x : Int32} (hd : decode cc pc = .ok (.i2l, 1)) (h : E own cc nL rt d w Γ em (pc + 1) lv (.long x.toInt64 :: st) σ o) : E own cc nL rt d w Γ em pc lv (.int x :: st) σ o :=
  fun x hx p l e s m args below meth c ls H locs C hl hP hS => lv_i2l C.1 C.2.1 hd rfl (h x hx p l e s m args below meth c ls H locs C hl hP hS)
theorem E_l2i {x : Int64} (hd : decode cc pc = .ok (.l2i, 1)) (h : E own cc nL rt d w Γ em (pc + 1) lv (.int x.toInt32 :: st) σ o) : E own cc nL rt d w Γ em pc lv (.long x :: st) σ o :=
  fun x hx p l e s m args below meth c ls H locs C hl hP hS => lv_l2i C.1 C.2.1 hd rfl (h x hx p l e s m args below meth c ls H locs C hl hP hS)
theorem E_i2b {x : Int32} (hd : decode cc pc = .ok (.i2b, 1)) (h : E own cc nL rt d w Γ em (pc + 1) lv (.int x.toInt8.toInt32 :: st) σ o) : E own cc nL rt d w Γ em pc lv (.int x :: st) σ o :=
  fun x hx p l e s m args below meth c ls H locs C hl hP hS => lv_i2b C.1 C.2.1 hd rfl (h x hx p l e s m args below meth c ls H locs C hl hP hS)
theorem E_i2s {x : Int32} (hd : decode cc pc = .ok (.i2s, 1)) (h : E own cc nL rt d w Γ em (pc + 1) lv (.int x.toInt16.toInt32 :: st) σ o) : E own cc nL rt d w Γ em pc lv (.int x :: st) σ o :=
  fun x hx p l e s m args below meth c ls H locs C hl hP hS => lv_i2s C.1 C.2.1 hd rfl (h x hx p l e s m args below meth c ls H locs C hl hP hS)
theorem E_dup {a : Value} (hd : decode cc pc = .ok (.dup, 1)) (ha : a.category = 1) (h : E own cc nL rt d w Γ em (pc + 1) lv (a :: a :: st) σ o) : E own cc nL rt d w Γ em pc lv (a :: st) σ o :=
  fun x hx p l e s m args below meth c ls H locs C hl hP hS => lv_dup C.1 C.2.1 hd ha (h x hx p l e s m args below meth c ls H locs C hl hP hS)
theorem E_pop {a : Value} (hd : decode cc pc = .ok (.pop, 1)) (ha : a.category = 1) (h : E own cc nL rt d w Γ em (pc + 1) lv (st) σ o) : E own cc nL rt d w Γ em pc lv (a :: st) σ o :=
  fun x hx p l e s m args below meth c ls H locs C hl hP hS => lv_pop C.1 C.2.1 hd ha (h x hx p l e s m args below meth c ls H locs C hl hP hS)
theorem E_dup2 {a b : Value} (hd : decode cc pc = .ok (.dup2, 1)) (ha : a.category = 1) (hb2 : b.category = 1) (h : E own cc nL rt d w Γ em (pc + 1) lv (a :: b :: a :: b :: st) σ o) : E own cc nL rt d w Γ em pc lv (a :: b :: st) σ o :=
  fun x hx p l e s m args below meth c ls H locs C hl hP hS => lv_dup2_11 C.1 C.2.1 hd ha hb2 (h x hx p l e s m args below meth c ls H locs C hl hP hS)
theorem E_ldcw {k : Nat} {v : Int32} (hd : decode cc pc = .ok (.ldc_w k, 3)) (hk : Cond.constant own k v ∈ lw_good) (h : E own cc nL rt d w Γ em (pc + 3) lv (.int v :: st) σ o) : E own cc nL rt d w Γ em pc lv (st) σ o :=
  fun x hx p l e s m args below meth c ls H locs C hl hP hS => lv_ldcw C.1 C.2.1 C.2.2.2.1 (C.2.2.2.2.1 _ hk) hd (h x hx p l e s m args below meth c ls H locs C hl hP hS)
theorem E_ldc2 {k : Nat} {v : Int64} (hd : decode cc pc = .ok (.ldc2_w k, 3)) (hk : Cond.constantLong own k v ∈ lw_good) (h : E own cc nL rt d w Γ em (pc + 3) lv (.long v :: st) σ o) : E own cc nL rt d w Γ em pc lv (st) σ o :=
  fun x hx p l e s m args below meth c ls H locs C hl hP hS => lv_ldc2 C.1 C.2.1 C.2.2.2.1 (C.2.2.2.2.1 _ hk) hd (h x hx p l e s m args below meth c ls H locs C hl hP hS)
theorem E_idiv {x y : Int32} (hd : decode cc pc = .ok (.idiv, 1)) (h : E own cc nL rt d w Γ em (pc + 1) lv (.int (x / y) :: st) σ o) : E own cc nL rt d w Γ em pc lv (.int y :: .int x :: st) σ (gd (y != 0) o) :=
  fun x hx p l e s m args below meth c ls H locs C hl hP hS => by
  obtain ⟨hg, hx⟩ := gd_some hx
  exact lv_idiv C.1 C.2.1 hd (by simpa using hg) (h x hx p l e s m args below meth c ls H locs C hl hP hS)
theorem E_ldiv {x y : Int64} (hd : decode cc pc = .ok (.ldiv, 1)) (h : E own cc nL rt d w Γ em (pc + 1) lv (.long (x / y) :: st) σ o) : E own cc nL rt d w Γ em pc lv (.long y :: .long x :: st) σ (gd (y != 0) o) :=
  fun x hx p l e s m args below meth c ls H locs C hl hP hS => by
  obtain ⟨hg, hx⟩ := gd_some hx
  exact lv_ldiv C.1 C.2.1 hd (by simpa using hg) (h x hx p l e s m args below meth c ls H locs C hl hP hS)
theorem E_lrem {x y : Int64} (hd : decode cc pc = .ok (.lrem, 1)) (h : E own cc nL rt d w Γ em (pc + 1) lv (.long (x - x / y * y) :: st) σ o) : E own cc nL rt d w Γ em pc lv (.long y :: .long x :: st) σ (gd (y != 0) o) :=
  fun x hx p l e s m args below meth c ls H locs C hl hP hS => by
  obtain ⟨hg, hx⟩ := gd_some hx
  exact lv_lrem C.1 C.2.1 hd (by simpa using hg) (h x hx p l e s m args below meth c ls H locs C hl hP hS)
theorem E_iaload {k n : Nat} {i : Int32} (hd : decode cc pc = .ok (.iaload, 1)) (hs : w.2.1 k = .inr (0, n)) (hk : k < w.1) (h : E own cc nL rt d w Γ em (pc + 1) lv (.int (σ.1 k i.toNatClampNeg) :: st) σ o) : E own cc nL rt d w Γ em pc lv (.int i :: .ref (Γ.2.1 k) :: st) σ (gd (inb i n) o) :=
  fun x hx p l e s m args below meth c ls H locs C hl hP hS => by
  obtain ⟨hg, hx⟩ := gd_some hx
  exact va_iald C.1 C.2.1 C.2.2.2.2.2.2.2.1 hP k 0 (by rw [wl_get hk, cell_int hs]) rfl (inb_vp hg) hd (h x hx p l e s m args below meth c ls H locs C hl hP hS)
theorem E_laload {k n : Nat} {i : Int32} (hd : decode cc pc = .ok (.laload, 1)) (hs : w.2.1 k = .inr (1, n)) (hk : k < w.1) (h : E own cc nL rt d w Γ em (pc + 1) lv (.long (σ.2 k i.toNatClampNeg) :: st) σ o) : E own cc nL rt d w Γ em pc lv (.int i :: .ref (Γ.2.1 k) :: st) σ (gd (inb i n) o) :=
  fun x hx p l e s m args below meth c ls H locs C hl hP hS => by
  obtain ⟨hg, hx⟩ := gd_some hx
  exact va_lald C.1 C.2.1 C.2.2.2.2.2.2.2.1 hP k 1 (by rw [wl_get hk, cell_long hs]) rfl (inb_vp hg) hd (h x hx p l e s m args below meth c ls H locs C hl hP hS)
theorem E_zaload {k n : Nat} {i : Int32} (hd : decode cc pc = .ok (.baload, 1)) (hs : w.2.1 k = .inr (2, n)) (hk : k < w.1) (h : E own cc nL rt d w Γ em (pc + 1) lv (.int (σ.1 k i.toNatClampNeg) :: st) σ o) : E own cc nL rt d w Γ em pc lv (.int i :: .ref (Γ.2.1 k) :: st) σ (gd (inb i n) o) :=
  fun x hx p l e s m args below meth c ls H locs C hl hP hS => by
  obtain ⟨hg, hx⟩ := gd_some hx
  exact va_zald C.1 C.2.1 C.2.2.2.2.2.2.2.1 hP k 2 (by rw [wl_get hk, cell_bool hs]) rfl (inb_vp hg) hd (h x hx p l e s m args below meth c ls H locs C hl hP hS)
theorem ref_read {k t n : Nat} {i : Int32} {H : Heap} (hs : w.2.1 k = .inr (t + 3, n)) (hk : k < w.1) (hP : va_P Γ.1 vwCl (wl w Γ σ) H) (hg : inb i n = true) : H[Γ.2.1 k]? = some (arrV (Γ.2.2 (t + 3)) n (fun j => va_rf (rfs w Γ k n j))) ∧ va_rf (rfs w Γ k n i.toNatClampNeg) = .ref (Γ.2.1 (w.2.2 k i.toNatClampNeg)) := by
  have hlt : i.toNatClampNeg < n := Nat.not_le.mp fun q => inb_vp hg (Or.inr q)
  have h := hP k _ (wl_get hk)
  rw [cell_ref hs] at h
  refine ⟨h, ?_⟩
  simp [rfs, hlt, va_rf]
theorem E_aaload {k t n : Nat} {i : Int32} (hd : decode cc pc = .ok (.aaload, 1)) (ht : t < 2) (hs : w.2.1 k = .inr (t + 3, n)) (hk : k < w.1) (h : E own cc nL rt d w Γ em (pc + 1) lv (.ref (Γ.2.1 (w.2.2 k i.toNatClampNeg)) :: st) σ o) : E own cc nL rt d w Γ em pc lv (.int i :: .ref (Γ.2.1 k) :: st) σ (gd (inb i n) o) :=
  fun x hx p l e s m args below meth c ls H locs C hl hP hS => by
  obtain ⟨hg, hx⟩ := gd_some hx
  obtain ⟨h1, h2⟩ := ref_read hs hk hP hg
  have hlt : i.toNatClampNeg < n := Nat.not_le.mp fun q => inb_vp hg (Or.inr q)
  have hq : ∃ ty : FieldType, (atys Γ)[t + 3]? = some (Γ.2.2 (t + 3), ty) ∧ ty.isReference = true := by
    rcases (show t = 0 ∨ t = 1 by omega) with rfl | rfl
    · exact ⟨_, rfl, rfl⟩
    · exact ⟨_, rfl, rfl⟩
  obtain ⟨ty, hty, hr⟩ := hq
  refine W.aald (v := .ref (Γ.2.1 (w.2.2 k i.toNatClampNeg))) C.1 C.2.1 h1 ((C.2.2.2.2.2.2.2.1.2 _ _ hty).1 n _) hr (fun q => by cases q) (by rw [arrV_size]; exact inb_vp hg) (by rw [arrV_read _ _ hlt, h2]) rfl rfl hd ?_
  exact h x hx p l e s m args below meth c ls H locs C hl hP hS
theorem E_iastore {k n : Nat} {i : Int32} {v : Int32} (hd : decode cc pc = .ok (.iastore, 1)) (hs : w.2.1 k = .inr (0, n)) (hk : k < w.1) (h : E own cc nL rt d w Γ em (pc + 1) lv st (wI σ k i.toNatClampNeg v) o) : E own cc nL rt d w Γ em pc lv (.int v :: .int i :: .ref (Γ.2.1 k) :: st) σ (gd (inb i n) o) :=
  fun x hx p l e s m args below meth c ls H locs C hl hP hS => by
  obtain ⟨hg, hx⟩ := gd_some hx
  refine va_iast C.1 C.2.1 C.2.2.2.2.2.2.2.1 hP (wl_D C.2.2.2.2.2.2.2.2.1) hS k 0 (by rw [wl_get hk, cell_int hs]) rfl (inb_vp hg) hd (fun H1 locs1 hP1 _ hS1 => ?_)
  refine h x hx p l e s m args below meth c ls H1 locs1 C hl ?_ hS1
  rw [wA_set (f := upd (σ.1 k) i.toNatClampNeg v) (by rw [cell_int hs]; simp [wA])] at hP1
  exact hP1
theorem E_lastore {k n : Nat} {i : Int32} {v : Int64} (hd : decode cc pc = .ok (.lastore, 1)) (hs : w.2.1 k = .inr (1, n)) (hk : k < w.1) (h : E own cc nL rt d w Γ em (pc + 1) lv st (wL σ k i.toNatClampNeg v) o) : E own cc nL rt d w Γ em pc lv (.long v :: .int i :: .ref (Γ.2.1 k) :: st) σ (gd (inb i n) o) :=
  fun x hx p l e s m args below meth c ls H locs C hl hP hS => by
  obtain ⟨hg, hx⟩ := gd_some hx
  refine va_last C.1 C.2.1 C.2.2.2.2.2.2.2.1 hP (wl_D C.2.2.2.2.2.2.2.2.1) hS k 1 (by rw [wl_get hk, cell_long hs]) rfl (inb_vp hg) hd (fun H1 locs1 hP1 _ hS1 => ?_)
  refine h x hx p l e s m args below meth c ls H1 locs1 C hl ?_ hS1
  rw [wB_set (f := vp_updL (σ.2 k) i.toNatClampNeg v) (by rw [cell_long hs]; simp [wB])] at hP1
  exact hP1
theorem E_zastore {k n : Nat} {i : Int32} {v : Int32} (hd : decode cc pc = .ok (.bastore, 1)) (hs : w.2.1 k = .inr (2, n)) (hk : k < w.1) (hz : vp_nar .boolean v = v) (h : E own cc nL rt d w Γ em (pc + 1) lv st (wI σ k i.toNatClampNeg v) o) : E own cc nL rt d w Γ em pc lv (.int v :: .int i :: .ref (Γ.2.1 k) :: st) σ (gd (inb i n) o) :=
  fun x hx p l e s m args below meth c ls H locs C hl hP hS => by
  obtain ⟨hg, hx⟩ := gd_some hx
  refine va_zast C.1 C.2.1 C.2.2.2.2.2.2.2.1 hP (wl_D C.2.2.2.2.2.2.2.2.1) hS k 2 (by rw [wl_get hk, cell_bool hs]) rfl (inb_vp hg) hd (fun H1 locs1 hP1 _ hS1 => ?_)
  refine h x hx p l e s m args below meth c ls H1 locs1 C hl ?_ hS1
  rw [wA_set (f := upd (σ.1 k) i.toNatClampNeg v) (by rw [cell_bool hs]; simp [wA, hz])] at hP1
  exact hP1
theorem E_alen {k t n : Nat} (hd : decode cc pc = .ok (.arraylength, 1)) (hs : w.2.1 k = .inr (t, n)) (ht : t < 2) (hk : k < w.1) (h : E own cc nL rt d w Γ em (pc + 1) lv (.int (nI n) :: st) σ o) : E own cc nL rt d w Γ em pc lv (.ref (Γ.2.1 k) :: st) σ o :=
  fun x hx p l e s m args below meth c ls H locs C hl hP hS => by
  rcases (show t = 0 ∨ t = 1 by omega) with rfl | rfl
  · exact va_alen (x := (n, .inl (σ.1 k))) C.1 C.2.1 C.2.2.2.2.2.2.2.1 hP k 0 (by rw [wl_get hk, cell_int hs]) (ty := .int) rfl rfl hd (h x hx p l e s m args below meth c ls H locs C hl hP hS)
  · exact va_alen (x := (n, .inr (.inl (σ.2 k)))) C.1 C.2.1 C.2.2.2.2.2.2.2.1 hP k 1 (by rw [wl_get hk, cell_long hs]) (ty := .long) rfl rfl hd (h x hx p l e s m args below meth c ls H locs C hl hP hS)
theorem E_getI {k ci j idx : Nat} {C0 ref : String} {T : u_T} (hd : decode cc pc = .ok (.getfield idx, 3)) (hs : w.2.1 k = .inl ci) (hk : k < w.1) (hc : vwCl[ci]? = some (C0, T, nfl ci)) (hin : ∀ v ∈ u_ws C0 T (nfl ci), v ∈ lw_good) (hj : j < nfl ci) (hlk : Cond.fieldLink own idx ref (T j).2.1 (T j).2.2.1 ∈ lw_good) (hrf : ref = (T j).1) (hf : fty ci j = .int) (h : E own cc nL rt d w Γ em (pc + 3) lv (.int (σ.1 k j) :: st) σ o) : E own cc nL rt d w Γ em pc lv (.ref (Γ.2.1 k) :: st) σ o :=
  fun x hx p l e s m args below meth c ls H locs C hl hP hS => by
  subst hrf
  refine va_get (D := Γ.1) (ci := ci) (C := C0) (T := T) (N := nfl ci) C.1 C.2.1 C.2.2.2.2.1 hin C.2.2.2.1 C.2.2.2.2.2.2.2.1 hP k (by rw [wl_get hk, cell_obj hs]) hc j hj (C.2.2.2.2.1 _ hlk) (fun _ h9 => h9) (fvs_get hj) hd ?_
  simp only [fv, hf]
  exact h x hx p l e s m args below meth c ls H locs C hl hP hS
theorem E_getZ {k ci j idx : Nat} {C0 ref : String} {T : u_T} (hd : decode cc pc = .ok (.getfield idx, 3)) (hs : w.2.1 k = .inl ci) (hk : k < w.1) (hc : vwCl[ci]? = some (C0, T, nfl ci)) (hin : ∀ v ∈ u_ws C0 T (nfl ci), v ∈ lw_good) (hj : j < nfl ci) (hlk : Cond.fieldLink own idx ref (T j).2.1 (T j).2.2.1 ∈ lw_good) (hrf : ref = (T j).1) (hf : fty ci j = .boolean) (h : E own cc nL rt d w Γ em (pc + 3) lv (.int (σ.1 k j) :: st) σ o) : E own cc nL rt d w Γ em pc lv (.ref (Γ.2.1 k) :: st) σ o :=
  fun x hx p l e s m args below meth c ls H locs C hl hP hS => by
  subst hrf
  refine va_get (D := Γ.1) (ci := ci) (C := C0) (T := T) (N := nfl ci) C.1 C.2.1 C.2.2.2.2.1 hin C.2.2.2.1 C.2.2.2.2.2.2.2.1 hP k (by rw [wl_get hk, cell_obj hs]) hc j hj (C.2.2.2.2.1 _ hlk) (fun _ h9 => h9) (fvs_get hj) hd ?_
  simp only [fv, hf]
  exact h x hx p l e s m args below meth c ls H locs C hl hP hS
theorem E_getJ {k ci j idx : Nat} {C0 ref : String} {T : u_T} (hd : decode cc pc = .ok (.getfield idx, 3)) (hs : w.2.1 k = .inl ci) (hk : k < w.1) (hc : vwCl[ci]? = some (C0, T, nfl ci)) (hin : ∀ v ∈ u_ws C0 T (nfl ci), v ∈ lw_good) (hj : j < nfl ci) (hlk : Cond.fieldLink own idx ref (T j).2.1 (T j).2.2.1 ∈ lw_good) (hrf : ref = (T j).1) (hf : fty ci j = .long) (h : E own cc nL rt d w Γ em (pc + 3) lv (.long (σ.2 k j) :: st) σ o) : E own cc nL rt d w Γ em pc lv (.ref (Γ.2.1 k) :: st) σ o :=
  fun x hx p l e s m args below meth c ls H locs C hl hP hS => by
  subst hrf
  refine va_get (D := Γ.1) (ci := ci) (C := C0) (T := T) (N := nfl ci) C.1 C.2.1 C.2.2.2.2.1 hin C.2.2.2.1 C.2.2.2.2.2.2.2.1 hP k (by rw [wl_get hk, cell_obj hs]) hc j hj (C.2.2.2.2.1 _ hlk) (fun _ h9 => h9) (fvs_get hj) hd ?_
  simp only [fv, hf]
  exact h x hx p l e s m args below meth c ls H locs C hl hP hS
theorem E_getR (k2 : Nat) {k ci j idx : Nat} {C0 ref : String} {T : u_T} (hd : decode cc pc = .ok (.getfield idx, 3)) (hs : w.2.1 k = .inl ci) (hk : k < w.1) (hc : vwCl[ci]? = some (C0, T, nfl ci)) (hin : ∀ v ∈ u_ws C0 T (nfl ci), v ∈ lw_good) (hj : j < nfl ci) (hlk : Cond.fieldLink own idx ref (T j).2.1 (T j).2.2.1 ∈ lw_good) (hrf : ref = (T j).1) (hf : (fty ci j).isReference = true) (hr : w.2.2 k j = k2) (h : E own cc nL rt d w Γ em (pc + 3) lv (.ref (Γ.2.1 k2) :: st) σ o) : E own cc nL rt d w Γ em pc lv (.ref (Γ.2.1 k) :: st) σ o :=
  fun x hx p l e s m args below meth c ls H locs C hl hP hS => by
  subst hrf
  subst hr
  refine va_get (D := Γ.1) (ci := ci) (C := C0) (T := T) (N := nfl ci) C.1 C.2.1 C.2.2.2.2.1 hin C.2.2.2.1 C.2.2.2.2.2.2.2.1 hP k (by rw [wl_get hk, cell_obj hs]) hc j hj (C.2.2.2.2.1 _ hlk) (fun _ h9 => h9) (fvs_get hj) hd ?_
  have he : fv w Γ σ k j (fty ci j) = .ref (Γ.2.1 (w.2.2 k j)) := by
    cases hq : fty ci j <;> rw [hq] at hf <;> first | rfl | (exact absurd hf (by decide))
  rw [he]
  exact h x hx p l e s m args below meth c ls H locs C hl hP hS
theorem E_putI {v : Int32} {k ci j idx : Nat} {C0 ref : String} {T : u_T} (hd : decode cc pc = .ok (.putfield idx, 3)) (hs : w.2.1 k = .inl ci) (hk : k < w.1) (hc : vwCl[ci]? = some (C0, T, nfl ci)) (hin : ∀ v ∈ u_ws C0 T (nfl ci), v ∈ lw_good) (hj : j < nfl ci) (hlk : Cond.fieldLink own idx ref (T j).2.1 (T j).2.2.1 ∈ lw_good) (hrf : ref = (T j).1) (hty : ∀ k, k < nfl ci → parseFieldDescriptor (T k).2.2.1 = some (fty ci k)) (hnm : ∀ a, a < nfl ci → ∀ b, b < nfl ci → a ≠ b → (T a).2.1 ≠ (T b).2.1) (hfin : (T j).2.2.2 = false) (hf : fty ci j = .int) (h : E own cc nL rt d w Γ em (pc + 3) lv st (wI σ k j v) o) : E own cc nL rt d w Γ em pc lv (.int v :: .ref (Γ.2.1 k) :: st) σ o :=
  fun x hx p l e s m args below meth c ls H locs C hl hP hS => by
  subst hrf
  refine va_put (D := Γ.1) (ci := ci) (C := C0) (T := T) (N := nfl ci) C.1 C.2.1 C.2.2.2.2.1 hin (fty ci) hty hnm C.2.2.2.1 C.2.2.2.2.2.2.2.1 hP (wl_D C.2.2.2.2.2.2.2.2.1) hS k (by rw [wl_get hk, cell_obj hs]) hc j hj (C.2.2.2.2.1 _ hlk) (fun _ h9 => h9) hfin (hty j hj) (by rw [hf]; rfl) (by rw [hf]; rfl) (by rw [fvs_len]; exact hj) hd (fun H1 locs1 hP1 _ hS1 => ?_)
  refine h x hx p l e s m args below meth c ls H1 locs1 C hl ?_ hS1
  rw [fvs_setI (Or.inl hf), wA_set (by rw [cell_obj hs]; rfl)] at hP1
  exact hP1
theorem E_putZ {v : Int32} {k ci j idx : Nat} {C0 ref : String} {T : u_T} (hd : decode cc pc = .ok (.putfield idx, 3)) (hs : w.2.1 k = .inl ci) (hk : k < w.1) (hc : vwCl[ci]? = some (C0, T, nfl ci)) (hin : ∀ v ∈ u_ws C0 T (nfl ci), v ∈ lw_good) (hj : j < nfl ci) (hlk : Cond.fieldLink own idx ref (T j).2.1 (T j).2.2.1 ∈ lw_good) (hrf : ref = (T j).1) (hty : ∀ k, k < nfl ci → parseFieldDescriptor (T k).2.2.1 = some (fty ci k)) (hnm : ∀ a, a < nfl ci → ∀ b, b < nfl ci → a ≠ b → (T a).2.1 ≠ (T b).2.1) (hfin : (T j).2.2.2 = false) (hf : fty ci j = .boolean) (hz : narrow .boolean (.int v) = .int v) (hz2 : fits .boolean (.int v) = true) (h : E own cc nL rt d w Γ em (pc + 3) lv st (wI σ k j v) o) : E own cc nL rt d w Γ em pc lv (.int v :: .ref (Γ.2.1 k) :: st) σ o :=
  fun x hx p l e s m args below meth c ls H locs C hl hP hS => by
  subst hrf
  refine va_put (D := Γ.1) (ci := ci) (C := C0) (T := T) (N := nfl ci) C.1 C.2.1 C.2.2.2.2.1 hin (fty ci) hty hnm C.2.2.2.1 C.2.2.2.2.2.2.2.1 hP (wl_D C.2.2.2.2.2.2.2.2.1) hS k (by rw [wl_get hk, cell_obj hs]) hc j hj (C.2.2.2.2.1 _ hlk) (fun _ h9 => h9) hfin (hty j hj) (by rw [hf]; exact hz) (by rw [hf]; exact hz2) (by rw [fvs_len]; exact hj) hd (fun H1 locs1 hP1 _ hS1 => ?_)
  refine h x hx p l e s m args below meth c ls H1 locs1 C hl ?_ hS1
  rw [fvs_setI (Or.inr hf), wA_set (by rw [cell_obj hs]; rfl)] at hP1
  exact hP1
theorem E_putJ {v : Int64} {k ci j idx : Nat} {C0 ref : String} {T : u_T} (hd : decode cc pc = .ok (.putfield idx, 3)) (hs : w.2.1 k = .inl ci) (hk : k < w.1) (hc : vwCl[ci]? = some (C0, T, nfl ci)) (hin : ∀ v ∈ u_ws C0 T (nfl ci), v ∈ lw_good) (hj : j < nfl ci) (hlk : Cond.fieldLink own idx ref (T j).2.1 (T j).2.2.1 ∈ lw_good) (hrf : ref = (T j).1) (hty : ∀ k, k < nfl ci → parseFieldDescriptor (T k).2.2.1 = some (fty ci k)) (hnm : ∀ a, a < nfl ci → ∀ b, b < nfl ci → a ≠ b → (T a).2.1 ≠ (T b).2.1) (hfin : (T j).2.2.2 = false) (hf : fty ci j = .long) (h : E own cc nL rt d w Γ em (pc + 3) lv st (wL σ k j v) o) : E own cc nL rt d w Γ em pc lv (.long v :: .ref (Γ.2.1 k) :: st) σ o :=
  fun x hx p l e s m args below meth c ls H locs C hl hP hS => by
  subst hrf
  refine va_put (D := Γ.1) (ci := ci) (C := C0) (T := T) (N := nfl ci) C.1 C.2.1 C.2.2.2.2.1 hin (fty ci) hty hnm C.2.2.2.1 C.2.2.2.2.2.2.2.1 hP (wl_D C.2.2.2.2.2.2.2.2.1) hS k (by rw [wl_get hk, cell_obj hs]) hc j hj (C.2.2.2.2.1 _ hlk) (fun _ h9 => h9) hfin (hty j hj) (by rw [hf]; rfl) (by rw [hf]; rfl) (by rw [fvs_len]; exact hj) hd (fun H1 locs1 hP1 _ hS1 => ?_)
  refine h x hx p l e s m args below meth c ls H1 locs1 C hl ?_ hS1
  rw [fvs_setL hf, wB_set (by rw [cell_obj hs]; rfl)] at hP1
  exact hP1
theorem E_ifeq {x0 : Int32} {off : Int} {o1 o2 : Option R} (tgt : Nat) (hd : decode cc pc = .ok (.ifCond .eq off, 3)) (ht : (pc : Int) + off = (tgt : Int)) (h1 : E own cc nL rt d w Γ em tgt lv st σ o1) (h2 : E own cc nL rt d w Γ em (pc + 3) lv st σ o2) : E own cc nL rt d w Γ em pc lv (.int x0 :: st) σ (if x0 = 0 then o1 else o2) :=
  fun x hx p l e s m args below meth c ls H locs C hl hP hS => lv_if_eq C.1 C.2.1 hd ht (fun hc => h1 x (by rw [if_pos hc] at hx; exact hx) p l e s m args below meth c ls H locs C hl hP hS) (fun hc => h2 x (by rw [if_neg hc] at hx; exact hx) p l e s m args below meth c ls H locs C hl hP hS)
theorem E_ifne {x0 : Int32} {off : Int} {o1 o2 : Option R} (tgt : Nat) (hd : decode cc pc = .ok (.ifCond .ne off, 3)) (ht : (pc : Int) + off = (tgt : Int)) (h1 : E own cc nL rt d w Γ em tgt lv st σ o1) (h2 : E own cc nL rt d w Γ em (pc + 3) lv st σ o2) : E own cc nL rt d w Γ em pc lv (.int x0 :: st) σ (if x0 = 0 then o2 else o1) :=
  fun x hx p l e s m args below meth c ls H locs C hl hP hS => lv_if_ne C.1 C.2.1 hd ht (fun hc => h1 x (by rw [if_neg hc] at hx; exact hx) p l e s m args below meth c ls H locs C hl hP hS) (fun hc => h2 x (by rw [if_pos hc] at hx; exact hx) p l e s m args below meth c ls H locs C hl hP hS)
theorem E_iflt {x0 : Int32} {off : Int} {o1 o2 : Option R} (tgt : Nat) (hd : decode cc pc = .ok (.ifCond .lt off, 3)) (ht : (pc : Int) + off = (tgt : Int)) (h1 : E own cc nL rt d w Γ em tgt lv st σ o1) (h2 : E own cc nL rt d w Γ em (pc + 3) lv st σ o2) : E own cc nL rt d w Γ em pc lv (.int x0 :: st) σ (if x0 < 0 then o1 else o2) :=
  fun x hx p l e s m args below meth c ls H locs C hl hP hS => lv_if_lt C.1 C.2.1 hd ht (fun hc => h1 x (by rw [if_pos hc] at hx; exact hx) p l e s m args below meth c ls H locs C hl hP hS) (fun hc => h2 x (by rw [if_neg hc] at hx; exact hx) p l e s m args below meth c ls H locs C hl hP hS)
theorem E_ifge {x0 : Int32} {off : Int} {o1 o2 : Option R} (tgt : Nat) (hd : decode cc pc = .ok (.ifCond .ge off, 3)) (ht : (pc : Int) + off = (tgt : Int)) (h1 : E own cc nL rt d w Γ em tgt lv st σ o1) (h2 : E own cc nL rt d w Γ em (pc + 3) lv st σ o2) : E own cc nL rt d w Γ em pc lv (.int x0 :: st) σ (if x0 < 0 then o2 else o1) :=
  fun x hx p l e s m args below meth c ls H locs C hl hP hS => lv_if_ge C.1 C.2.1 hd ht (fun hc => h1 x (by rw [if_neg (Int32.not_lt.mpr hc)] at hx; exact hx) p l e s m args below meth c ls H locs C hl hP hS) (fun hc => h2 x (by rw [if_pos (Int32.not_le.mp hc)] at hx; exact hx) p l e s m args below meth c ls H locs C hl hP hS)
theorem E_ifgt {x0 : Int32} {off : Int} {o1 o2 : Option R} (tgt : Nat) (hd : decode cc pc = .ok (.ifCond .gt off, 3)) (ht : (pc : Int) + off = (tgt : Int)) (h1 : E own cc nL rt d w Γ em tgt lv st σ o1) (h2 : E own cc nL rt d w Γ em (pc + 3) lv st σ o2) : E own cc nL rt d w Γ em pc lv (.int x0 :: st) σ (if 0 < x0 then o1 else o2) :=
  fun x hx p l e s m args below meth c ls H locs C hl hP hS => lv_if_gt C.1 C.2.1 hd ht (fun hc => h1 x (by rw [if_pos hc] at hx; exact hx) p l e s m args below meth c ls H locs C hl hP hS) (fun hc => h2 x (by rw [if_neg hc] at hx; exact hx) p l e s m args below meth c ls H locs C hl hP hS)
theorem E_ifle {x0 : Int32} {off : Int} {o1 o2 : Option R} (tgt : Nat) (hd : decode cc pc = .ok (.ifCond .le off, 3)) (ht : (pc : Int) + off = (tgt : Int)) (h1 : E own cc nL rt d w Γ em tgt lv st σ o1) (h2 : E own cc nL rt d w Γ em (pc + 3) lv st σ o2) : E own cc nL rt d w Γ em pc lv (.int x0 :: st) σ (if 0 < x0 then o2 else o1) :=
  fun x hx p l e s m args below meth c ls H locs C hl hP hS => lv_if_le C.1 C.2.1 hd ht (fun hc => h1 x (by rw [if_neg (Int32.not_lt.mpr hc)] at hx; exact hx) p l e s m args below meth c ls H locs C hl hP hS) (fun hc => h2 x (by rw [if_pos (Int32.not_le.mp hc)] at hx; exact hx) p l e s m args below meth c ls H locs C hl hP hS)
theorem E_icmpeq {x0 y0 : Int32} {off : Int} {o1 o2 : Option R} (tgt : Nat) (hd : decode cc pc = .ok (.if_icmp .eq off, 3)) (ht : (pc : Int) + off = (tgt : Int)) (h1 : E own cc nL rt d w Γ em tgt lv st σ o1) (h2 : E own cc nL rt d w Γ em (pc + 3) lv st σ o2) : E own cc nL rt d w Γ em pc lv (.int y0 :: .int x0 :: st) σ (if x0 = y0 then o1 else o2) :=
  fun x hx p l e s m args below meth c ls H locs C hl hP hS => lv_icmp_eq C.1 C.2.1 hd ht (fun hc => h1 x (by rw [if_pos hc] at hx; exact hx) p l e s m args below meth c ls H locs C hl hP hS) (fun hc => h2 x (by rw [if_neg hc] at hx; exact hx) p l e s m args below meth c ls H locs C hl hP hS)
theorem E_icmpne {x0 y0 : Int32} {off : Int} {o1 o2 : Option R} (tgt : Nat) (hd : decode cc pc = .ok (.if_icmp .ne off, 3)) (ht : (pc : Int) + off = (tgt : Int)) (h1 : E own cc nL rt d w Γ em tgt lv st σ o1) (h2 : E own cc nL rt d w Γ em (pc + 3) lv st σ o2) : E own cc nL rt d w Γ em pc lv (.int y0 :: .int x0 :: st) σ (if x0 = y0 then o2 else o1) :=
  fun x hx p l e s m args below meth c ls H locs C hl hP hS => lv_icmp_ne C.1 C.2.1 hd ht (fun hc => h1 x (by rw [if_neg hc] at hx; exact hx) p l e s m args below meth c ls H locs C hl hP hS) (fun hc => h2 x (by rw [if_pos hc] at hx; exact hx) p l e s m args below meth c ls H locs C hl hP hS)
theorem E_icmplt {x0 y0 : Int32} {off : Int} {o1 o2 : Option R} (tgt : Nat) (hd : decode cc pc = .ok (.if_icmp .lt off, 3)) (ht : (pc : Int) + off = (tgt : Int)) (h1 : E own cc nL rt d w Γ em tgt lv st σ o1) (h2 : E own cc nL rt d w Γ em (pc + 3) lv st σ o2) : E own cc nL rt d w Γ em pc lv (.int y0 :: .int x0 :: st) σ (if x0 < y0 then o1 else o2) :=
  fun x hx p l e s m args below meth c ls H locs C hl hP hS => lv_icmp_lt C.1 C.2.1 hd ht (fun hc => h1 x (by rw [if_pos hc] at hx; exact hx) p l e s m args below meth c ls H locs C hl hP hS) (fun hc => h2 x (by rw [if_neg hc] at hx; exact hx) p l e s m args below meth c ls H locs C hl hP hS)
theorem E_icmpge {x0 y0 : Int32} {off : Int} {o1 o2 : Option R} (tgt : Nat) (hd : decode cc pc = .ok (.if_icmp .ge off, 3)) (ht : (pc : Int) + off = (tgt : Int)) (h1 : E own cc nL rt d w Γ em tgt lv st σ o1) (h2 : E own cc nL rt d w Γ em (pc + 3) lv st σ o2) : E own cc nL rt d w Γ em pc lv (.int y0 :: .int x0 :: st) σ (if x0 < y0 then o2 else o1) :=
  fun x hx p l e s m args below meth c ls H locs C hl hP hS => lv_icmp_ge C.1 C.2.1 hd ht (fun hc => h1 x (by rw [if_neg (Int32.not_lt.mpr hc)] at hx; exact hx) p l e s m args below meth c ls H locs C hl hP hS) (fun hc => h2 x (by rw [if_pos (Int32.not_le.mp hc)] at hx; exact hx) p l e s m args below meth c ls H locs C hl hP hS)
theorem E_icmpgt {x0 y0 : Int32} {off : Int} {o1 o2 : Option R} (tgt : Nat) (hd : decode cc pc = .ok (.if_icmp .gt off, 3)) (ht : (pc : Int) + off = (tgt : Int)) (h1 : E own cc nL rt d w Γ em tgt lv st σ o1) (h2 : E own cc nL rt d w Γ em (pc + 3) lv st σ o2) : E own cc nL rt d w Γ em pc lv (.int y0 :: .int x0 :: st) σ (if y0 < x0 then o1 else o2) :=
  fun x hx p l e s m args below meth c ls H locs C hl hP hS => lv_icmp_gt C.1 C.2.1 hd ht (fun hc => h1 x (by rw [if_pos hc] at hx; exact hx) p l e s m args below meth c ls H locs C hl hP hS) (fun hc => h2 x (by rw [if_neg hc] at hx; exact hx) p l e s m args below meth c ls H locs C hl hP hS)
theorem E_icmple {x0 y0 : Int32} {off : Int} {o1 o2 : Option R} (tgt : Nat) (hd : decode cc pc = .ok (.if_icmp .le off, 3)) (ht : (pc : Int) + off = (tgt : Int)) (h1 : E own cc nL rt d w Γ em tgt lv st σ o1) (h2 : E own cc nL rt d w Γ em (pc + 3) lv st σ o2) : E own cc nL rt d w Γ em pc lv (.int y0 :: .int x0 :: st) σ (if y0 < x0 then o2 else o1) :=
  fun x hx p l e s m args below meth c ls H locs C hl hP hS => lv_icmp_le C.1 C.2.1 hd ht (fun hc => h1 x (by rw [if_neg (Int32.not_lt.mpr hc)] at hx; exact hx) p l e s m args below meth c ls H locs C hl hP hS) (fun hc => h2 x (by rw [if_pos (Int32.not_le.mp hc)] at hx; exact hx) p l e s m args below meth c ls H locs C hl hP hS)
theorem bI0 {b : Bool} : bI b = 0 ↔ b = false := by cases b <;> decide
theorem bI1 {b : Bool} : ¬ bI b = 0 ↔ b = true := by cases b <;> decide
theorem E_ifeqb {b : Bool} {off : Int} {o1 o2 : Option R} (tgt : Nat) (hd : decode cc pc = .ok (.ifCond .eq off, 3)) (ht : (pc : Int) + off = (tgt : Int)) (h1 : E own cc nL rt d w Γ em tgt lv st σ o1) (h2 : E own cc nL rt d w Γ em (pc + 3) lv st σ o2) : E own cc nL rt d w Γ em pc lv (.int (bI b) :: st) σ (if b = true then o2 else o1) :=
  fun x hx p l e s m args below meth c ls H locs C hl hP hS => lv_if_eq C.1 C.2.1 hd ht (fun hc => h1 x (by rw [if_neg (by rw [bI0.mp hc]; decide)] at hx; exact hx) p l e s m args below meth c ls H locs C hl hP hS) (fun hc => h2 x (by rw [if_pos (bI1.mp hc)] at hx; exact hx) p l e s m args below meth c ls H locs C hl hP hS)
theorem E_ifneb {b : Bool} {off : Int} {o1 o2 : Option R} (tgt : Nat) (hd : decode cc pc = .ok (.ifCond .ne off, 3)) (ht : (pc : Int) + off = (tgt : Int)) (h1 : E own cc nL rt d w Γ em tgt lv st σ o1) (h2 : E own cc nL rt d w Γ em (pc + 3) lv st σ o2) : E own cc nL rt d w Γ em pc lv (.int (bI b) :: st) σ (if b = true then o1 else o2) :=
  fun x hx p l e s m args below meth c ls H locs C hl hP hS => lv_if_ne C.1 C.2.1 hd ht (fun hc => h1 x (by rw [if_pos (bI1.mp hc)] at hx; exact hx) p l e s m args below meth c ls H locs C hl hP hS) (fun hc => h2 x (by rw [if_neg (by rw [bI0.mp hc]; decide)] at hx; exact hx) p l e s m args below meth c ls H locs C hl hP hS)
theorem E_goto {off : Int} (tgt : Nat) (hd : decode cc pc = .ok (.goto off, 3)) (ht : (pc : Int) + off = (tgt : Int)) (h : E own cc nL rt d w Γ em tgt lv st σ o) : E own cc nL rt d w Γ em pc lv st σ o :=
  fun x hx p l e s m args below meth c ls H locs C hl hP hS => lv_goto C.1 C.2.1 hd ht (h x hx p l e s m args below meth c ls H locs C hl hP hS)
theorem lc_eq {x y : Int64} : lg_cmp x y = 0 ↔ x = y := by
  unfold lg_cmp
  by_cases h1 : x > y
  · rw [if_pos h1]
    exact ⟨fun q => absurd q (by decide), fun q => by subst q; exact (Int64.lt_irrefl h1).elim⟩
  · rw [if_neg h1]
    by_cases h2 : x = y
    · rw [if_pos h2]; exact ⟨fun _ => h2, fun _ => rfl⟩
    · rw [if_neg h2]; exact ⟨fun q => absurd q (by decide), fun q => absurd q h2⟩
theorem lc_lt {x y : Int64} : lg_cmp x y < 0 ↔ x < y := by
  unfold lg_cmp
  by_cases h1 : x > y
  · rw [if_pos h1]
    exact ⟨fun q => absurd q (by decide), fun q => absurd q (Int64.lt_asymm h1)⟩
  · rw [if_neg h1]
    by_cases h2 : x = y
    · rw [if_pos h2]; exact ⟨fun q => absurd q (by decide), fun q => by subst h2; exact absurd q h1⟩
    · rw [if_neg h2]; exact ⟨fun _ => Int64.lt_of_le_of_ne (Int64.not_lt.mp h1) h2, fun _ => by decide⟩
theorem lc_gt {x y : Int64} : 0 < lg_cmp x y ↔ y < x := by
  unfold lg_cmp
  by_cases h1 : x > y
  · rw [if_pos h1]
    exact ⟨fun _ => h1, fun _ => by decide⟩
  · rw [if_neg h1]
    by_cases h2 : x = y
    · rw [if_pos h2]; exact ⟨fun q => absurd q (by decide), fun q => absurd q h1⟩
    · rw [if_neg h2]; exact ⟨fun q => absurd q (by decide), fun q => absurd q h1⟩
theorem E_leq {x0 y0 : Int64} {off : Int} {o1 o2 : Option R} (tgt : Nat) (hd0 : decode cc pc = .ok (.lcmp, 1)) (hd : decode cc (pc + 1) = .ok (.ifCond .eq off, 3)) (ht : ((pc + 1 : Nat) : Int) + off = (tgt : Int)) (h1 : E own cc nL rt d w Γ em tgt lv st σ o1) (h2 : E own cc nL rt d w Γ em (pc + 1 + 3) lv st σ o2) : E own cc nL rt d w Γ em pc lv (.long y0 :: .long x0 :: st) σ (if x0 = y0 then o1 else o2) := by
  have k : E own cc nL rt d w Γ em (pc + 1) lv (.int (lg_cmp x0 y0) :: st) σ _ := E_ifeq tgt hd ht h1 h2
  simp only [lc_eq] at k
  exact fun x hx p l e s m args below meth c ls H locs C hl hP hS => W.lcmp C.1 C.2.1 hd0 (k x hx p l e s m args below meth c ls H locs C hl hP hS)
theorem E_lne {x0 y0 : Int64} {off : Int} {o1 o2 : Option R} (tgt : Nat) (hd0 : decode cc pc = .ok (.lcmp, 1)) (hd : decode cc (pc + 1) = .ok (.ifCond .ne off, 3)) (ht : ((pc + 1 : Nat) : Int) + off = (tgt : Int)) (h1 : E own cc nL rt d w Γ em tgt lv st σ o1) (h2 : E own cc nL rt d w Γ em (pc + 1 + 3) lv st σ o2) : E own cc nL rt d w Γ em pc lv (.long y0 :: .long x0 :: st) σ (if x0 = y0 then o2 else o1) := by
  have k : E own cc nL rt d w Γ em (pc + 1) lv (.int (lg_cmp x0 y0) :: st) σ _ := E_ifne tgt hd ht h1 h2
  simp only [lc_eq] at k
  exact fun x hx p l e s m args below meth c ls H locs C hl hP hS => W.lcmp C.1 C.2.1 hd0 (k x hx p l e s m args below meth c ls H locs C hl hP hS)
theorem E_llt {x0 y0 : Int64} {off : Int} {o1 o2 : Option R} (tgt : Nat) (hd0 : decode cc pc = .ok (.lcmp, 1)) (hd : decode cc (pc + 1) = .ok (.ifCond .lt off, 3)) (ht : ((pc + 1 : Nat) : Int) + off = (tgt : Int)) (h1 : E own cc nL rt d w Γ em tgt lv st σ o1) (h2 : E own cc nL rt d w Γ em (pc + 1 + 3) lv st σ o2) : E own cc nL rt d w Γ em pc lv (.long y0 :: .long x0 :: st) σ (if x0 < y0 then o1 else o2) := by
  have k : E own cc nL rt d w Γ em (pc + 1) lv (.int (lg_cmp x0 y0) :: st) σ _ := E_iflt tgt hd ht h1 h2
  simp only [lc_lt] at k
  exact fun x hx p l e s m args below meth c ls H locs C hl hP hS => W.lcmp C.1 C.2.1 hd0 (k x hx p l e s m args below meth c ls H locs C hl hP hS)
theorem E_lge {x0 y0 : Int64} {off : Int} {o1 o2 : Option R} (tgt : Nat) (hd0 : decode cc pc = .ok (.lcmp, 1)) (hd : decode cc (pc + 1) = .ok (.ifCond .ge off, 3)) (ht : ((pc + 1 : Nat) : Int) + off = (tgt : Int)) (h1 : E own cc nL rt d w Γ em tgt lv st σ o1) (h2 : E own cc nL rt d w Γ em (pc + 1 + 3) lv st σ o2) : E own cc nL rt d w Γ em pc lv (.long y0 :: .long x0 :: st) σ (if x0 < y0 then o2 else o1) := by
  have k : E own cc nL rt d w Γ em (pc + 1) lv (.int (lg_cmp x0 y0) :: st) σ _ := E_ifge tgt hd ht h1 h2
  simp only [lc_lt] at k
  exact fun x hx p l e s m args below meth c ls H locs C hl hP hS => W.lcmp C.1 C.2.1 hd0 (k x hx p l e s m args below meth c ls H locs C hl hP hS)
theorem E_lgt {x0 y0 : Int64} {off : Int} {o1 o2 : Option R} (tgt : Nat) (hd0 : decode cc pc = .ok (.lcmp, 1)) (hd : decode cc (pc + 1) = .ok (.ifCond .gt off, 3)) (ht : ((pc + 1 : Nat) : Int) + off = (tgt : Int)) (h1 : E own cc nL rt d w Γ em tgt lv st σ o1) (h2 : E own cc nL rt d w Γ em (pc + 1 + 3) lv st σ o2) : E own cc nL rt d w Γ em pc lv (.long y0 :: .long x0 :: st) σ (if y0 < x0 then o1 else o2) := by
  have k : E own cc nL rt d w Γ em (pc + 1) lv (.int (lg_cmp x0 y0) :: st) σ _ := E_ifgt tgt hd ht h1 h2
  simp only [lc_gt] at k
  exact fun x hx p l e s m args below meth c ls H locs C hl hP hS => W.lcmp C.1 C.2.1 hd0 (k x hx p l e s m args below meth c ls H locs C hl hP hS)
theorem E_lle {x0 y0 : Int64} {off : Int} {o1 o2 : Option R} (tgt : Nat) (hd0 : decode cc pc = .ok (.lcmp, 1)) (hd : decode cc (pc + 1) = .ok (.ifCond .le off, 3)) (ht : ((pc + 1 : Nat) : Int) + off = (tgt : Int)) (h1 : E own cc nL rt d w Γ em tgt lv st σ o1) (h2 : E own cc nL rt d w Γ em (pc + 1 + 3) lv st σ o2) : E own cc nL rt d w Γ em pc lv (.long y0 :: .long x0 :: st) σ (if y0 < x0 then o2 else o1) := by
  have k : E own cc nL rt d w Γ em (pc + 1) lv (.int (lg_cmp x0 y0) :: st) σ _ := E_ifle tgt hd ht h1 h2
  simp only [lc_gt] at k
  exact fun x hx p l e s m args below meth c ls H locs C hl hP hS => W.lcmp C.1 C.2.1 hd0 (k x hx p l e s m args below meth c ls H locs C hl hP hS)
theorem E_ireturn {v : Int32} {x0 : R} (hd : decode cc pc = .ok (.ireturn, 1)) (hr : rt = some .int) (hm : em x0 = (some (.int v), σ)) : E own cc nL rt d w Γ em pc lv [.int v] σ (some x0) :=
  fun x hx p l e s m args below meth c ls H locs C hl hP hS => by
  cases hx
  rw [hm]
  exact W.iret C.1 C.2.1 (by rw [C.2.2.2.2.2.1, hr]) (fun t ht hW => ⟨⟨rfl, by rw [ht]; exact hP⟩, hS.F ht⟩) hS.2.2 hd C.2.2.2.2.2.2.1
theorem nar_bI (b : Bool) : narrow .boolean (.int (bI b)) = .int (bI b) := by cases b <;> rfl
theorem E_zreturn {b : Bool} {x0 : R} (hd : decode cc pc = .ok (.ireturn, 1)) (hr : rt = some .boolean) (hm : em x0 = (some (.int (bI b)), σ)) : E own cc nL rt d w Γ em pc lv [.int (bI b)] σ (some x0) :=
  fun x hx p l e s m args below meth c ls H locs C hl hP hS => by
  cases hx
  rw [hm]
  exact W.zret C.1 C.2.1 (by rw [C.2.2.2.2.2.1, hr]) (nar_bI b) (fun t ht hW => ⟨⟨rfl, by rw [ht]; exact hP⟩, hS.F ht⟩) hS.2.2 hd C.2.2.2.2.2.2.1
theorem E_lreturn {v : Int64} {x0 : R} (hd : decode cc pc = .ok (.lreturn, 1)) (hr : rt = some .long) (hm : em x0 = (some (.long v), σ)) : E own cc nL rt d w Γ em pc lv [.long v] σ (some x0) :=
  fun x hx p l e s m args below meth c ls H locs C hl hP hS => by
  cases hx
  rw [hm]
  exact W.lret C.1 C.2.1 (by rw [C.2.2.2.2.2.1, hr]) (fun t ht hW => ⟨⟨rfl, by rw [ht]; exact hP⟩, hS.F ht⟩) hS.2.2 hd C.2.2.2.2.2.2.1
theorem E_return {x0 : R} (hd : decode cc pc = .ok (.return_, 1)) (hr : rt = none) (hm : em x0 = (none, σ)) : E own cc nL rt d w Γ em pc lv [] σ (some x0) :=
  fun x hx p l e s m args below meth c ls H locs C hl hP hS => by
  cases hx
  rw [hm]
  exact W.vret C.1 C.2.1 (by rw [C.2.2.2.2.2.1, hr]) (fun t ht hW => ⟨⟨rfl, by rw [ht]; exact hP⟩, hS.F ht⟩) hS.2.2 hd C.2.2.2.2.2.2.1
theorem E_lvsub (ks : List Nat) (lv2 : List (Nat × Value)) (hl2 : lv_pick lv ks = lv2) (h : E own cc nL rt d w Γ em pc lv2 st σ o) : E own cc nL rt d w Γ em pc lv st σ o :=
  fun x hx p l e s m args below meth c ls H locs C hl hP hS => h x hx p l e s m args below meth c ls H locs C (lv_sub hl ks hl2) hP hS
theorem E_lp {X : Type} {F : (X → Option R) → X → Option R} (lvf : X → List (Nat × Value)) (sf : X → St) (h : ∀ rec : X → Option R, (∀ x, E own cc nL rt d w Γ em pc (lvf x) st (sf x) (rec x)) → ∀ x, E own cc nL rt d w Γ em pc (lvf x) st (sf x) (F rec x)) (n : Nat) : ∀ x, E own cc nL rt d w Γ em pc (lvf x) st (sf x) (lp F n x) := by
  induction n with
  | zero => exact fun x y hy => by cases hy
  | succ n ih => exact fun x => h _ ih x
theorem E_jn {X : Type} {K : X → Option R} {B : (X → Option R) → Option R} (pcJ : Nat) (lvf : X → List (Nat × Value)) (stf : X → List Value) (sf : X → St) (hK : ∀ x, E own cc nL rt d w Γ em pcJ (lvf x) (stf x) (sf x) (K x)) (hB : ∀ K2 : X → Option R, (∀ x, E own cc nL rt d w Γ em pcJ (lvf x) (stf x) (sf x) (K2 x)) → E own cc nL rt d w Γ em pc lv st σ (B K2)) : E own cc nL rt d w Γ em pc lv st σ (jn K B) := hB K hK
end Rules
