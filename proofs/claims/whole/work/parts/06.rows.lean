/-! the walk over the static memory: G says that from here the method comes to its end Z -/
abbrev MD : Type := String × ByteArray × Nat × Option FieldType × Room
abbrev GX : Type := Program × Launch × Env × Room × State × MethodId × Array Value × List Frame × Method × Code × (State → Prop)
def KH (p : Program) (l : Launch) (R : Room) (s : State) (m : MethodId) (args : Array Value) (meth : Method) (c : Code) (E : EX) (md : MD) : Prop :=
  p.tables.exec = Jvm.exec ∧ c.code = md.2.1 ∧ c.maxLocals = md.2.2.1 ∧ s.vm.findClass md.1 = some m.cls ∧ (∀ w ∈ GW, w.before args s = true) ∧ va_K (eD E) vwCl (tysE E) s ∧ SF E s ∧ EH E ∧ meth.sig.returnType = md.2.2.2.1 ∧ meth.locks = false ∧ R = md.2.2.2.2 ∧ l.stackTraces = false
def G (x : GX) (E : EX) (md : MD) (nc ns pc : Nat) (lv : List (Nat × Value)) (st : List Value) (M : Mem) : Prop :=
  match x with
  | (p, l, e, R, s, m, args, below, meth, c, Z) => KH p l R s m args meth c E md → ∀ (H : Heap) (locs : List Loc) (ls : Array Slot), va_P (eD E) vwCl (pic E M) H → va_S (AE E) s.heap H locs → lv_has ls md.2.2.1 lv → W p l e R s m args below meth c H locs nc ns Z (F0 m pc ls st)
def FG (own : String) (idx c k kd : Nat) : Prop := ∃ (ci : Nat) (ks : List Nat) (C : String) (T : u_T) (N : Nat), shL[c]? = some (.inr (ci, ks)) ∧ ks[k]? = some kd ∧ vwCl[ci]? = some (C, T, N) ∧ k < N ∧ ks.length = N ∧ Cond.fieldLink own idx (T k).1 (T k).2.1 (T k).2.2.1 ∈ GW ∧ ∀ w ∈ u_ws C T N, w ∈ GW
def FP (own : String) (idx c k kd : Nat) (ty : FieldType) : Prop := ∃ (ci : Nat) (ks : List Nat) (C : String) (T : u_T) (N : Nat) (ty0 : Nat → FieldType), shL[c]? = some (.inr (ci, ks)) ∧ ks[k]? = some kd ∧ vwCl[ci]? = some (C, T, N) ∧ k < N ∧ ks.length = N ∧ Cond.fieldLink own idx (T k).1 (T k).2.1 (T k).2.2.1 ∈ GW ∧ (∀ w ∈ u_ws C T N, w ∈ GW) ∧ (∀ k, k < N → parseFieldDescriptor (T k).2.2.1 = some (ty0 k)) ∧ (∀ a, a < N → ∀ b, b < N → a ≠ b → (T a).2.1 ≠ (T b).2.1) ∧ (T k).2.2.2 = false ∧ parseFieldDescriptor (T k).2.2.1 = some ty
theorem fs_at {E : EX} {M : Mem} {c k kd : Nat} {ks : List Nat} (hk : ks[k]? = some kd) : ((List.range ks.length).map fun k => fval E M c k (ks.getD k 0))[k]? = some (fval E M c k kd) := by
  have hl := (List.getElem?_eq_some_iff.mp hk).1
  rw [List.getElem?_map, List.getElem?_range hl]
  simp [List.getD, hk]
theorem fs_set {E : EX} {M M' : Mem} {c k kd : Nat} {ks : List Nat} {v : Value} (hk : ks[k]? = some kd) (hv : fval E M' c k kd = v) (ho : ∀ j kd', j ≠ k → fval E M' c j kd' = fval E M c j kd') : ((List.range ks.length).map fun k => fval E M c k (ks.getD k 0)).set k v = (List.range ks.length).map fun k => fval E M' c k (ks.getD k 0) := by
  refine List.ext_getElem? fun i => ?_
  have hl := (List.getElem?_eq_some_iff.mp hk).1
  rw [List.getElem?_set]
  by_cases hi : k = i
  · subst hi
    rw [if_pos rfl, if_pos (by simpa using hl), fs_at hk, hv]
  · rw [if_neg hi]
    by_cases hb : i < ks.length
    · rw [List.getElem?_map, List.getElem?_map, List.getElem?_range hb]
      show some (fval E M c i (ks.getD i 0)) = some (fval E M' c i (ks.getD i 0))
      rw [ho i _ (fun q => hi q.symm)]
    · have e1 : (List.range ks.length)[i]? = none := by simp; omega
      rw [List.getElem?_map, List.getElem?_map, e1]
      rfl
section Rows
variable {x : GX} {E : EX} {md : MD} {nc ns pc q : Nat} {lv lv' : List (Nat × Value)} {st : List Value} {M : Mem}
theorem g_iadd {a b : Int32} (d : decode md.2.1 pc = .ok (.iadd, 1)) (hq : pc + 1 = q) (k : G x E md nc ns q lv (.int (a + b) :: st) M) : G x E md nc ns pc lv (.int b :: .int a :: st) M := by
  obtain ⟨p, l, e, R, s, m, args, below, meth, c, Z⟩ := x; intro hK H locs ls hP hS hl; subst hq; exact lv_iadd hK.1 hK.2.1 d (k hK H locs ls hP hS hl)
theorem g_isub {a b : Int32} (d : decode md.2.1 pc = .ok (.isub, 1)) (hq : pc + 1 = q) (k : G x E md nc ns q lv (.int (a - b) :: st) M) : G x E md nc ns pc lv (.int b :: .int a :: st) M := by
  obtain ⟨p, l, e, R, s, m, args, below, meth, c, Z⟩ := x; intro hK H locs ls hP hS hl; subst hq; exact lv_isub hK.1 hK.2.1 d (k hK H locs ls hP hS hl)
theorem g_imul {a b : Int32} (d : decode md.2.1 pc = .ok (.imul, 1)) (hq : pc + 1 = q) (k : G x E md nc ns q lv (.int (a * b) :: st) M) : G x E md nc ns pc lv (.int b :: .int a :: st) M := by
  obtain ⟨p, l, e, R, s, m, args, below, meth, c, Z⟩ := x; intro hK H locs ls hP hS hl; subst hq; exact lv_imul hK.1 hK.2.1 d (k hK H locs ls hP hS hl)
theorem g_iand {a b : Int32} (d : decode md.2.1 pc = .ok (.iand, 1)) (hq : pc + 1 = q) (k : G x E md nc ns q lv (.int (a &&& b) :: st) M) : G x E md nc ns pc lv (.int b :: .int a :: st) M := by
  obtain ⟨p, l, e, R, s, m, args, below, meth, c, Z⟩ := x; intro hK H locs ls hP hS hl; subst hq; exact lv_iand hK.1 hK.2.1 d (k hK H locs ls hP hS hl)
theorem g_ior {a b : Int32} (d : decode md.2.1 pc = .ok (.ior, 1)) (hq : pc + 1 = q) (k : G x E md nc ns q lv (.int (a ||| b) :: st) M) : G x E md nc ns pc lv (.int b :: .int a :: st) M := by
  obtain ⟨p, l, e, R, s, m, args, below, meth, c, Z⟩ := x; intro hK H locs ls hP hS hl; subst hq; exact lv_ior hK.1 hK.2.1 d (k hK H locs ls hP hS hl)
theorem g_ixor {a b : Int32} (d : decode md.2.1 pc = .ok (.ixor, 1)) (hq : pc + 1 = q) (k : G x E md nc ns q lv (.int (a ^^^ b) :: st) M) : G x E md nc ns pc lv (.int b :: .int a :: st) M := by
  obtain ⟨p, l, e, R, s, m, args, below, meth, c, Z⟩ := x; intro hK H locs ls hP hS hl; subst hq; exact lv_ixor hK.1 hK.2.1 d (k hK H locs ls hP hS hl)
theorem g_ishl {a b : Int32} (d : decode md.2.1 pc = .ok (.ishl, 1)) (hq : pc + 1 = q) (k : G x E md nc ns q lv (.int (a <<< (b &&& 31)) :: st) M) : G x E md nc ns pc lv (.int b :: .int a :: st) M := by
  obtain ⟨p, l, e, R, s, m, args, below, meth, c, Z⟩ := x; intro hK H locs ls hP hS hl; subst hq; exact lv_ishl hK.1 hK.2.1 d (k hK H locs ls hP hS hl)
theorem g_ishr {a b : Int32} (d : decode md.2.1 pc = .ok (.ishr, 1)) (hq : pc + 1 = q) (k : G x E md nc ns q lv (.int (a >>> (b &&& 31)) :: st) M) : G x E md nc ns pc lv (.int b :: .int a :: st) M := by
  obtain ⟨p, l, e, R, s, m, args, below, meth, c, Z⟩ := x; intro hK H locs ls hP hS hl; subst hq; exact lv_ishr hK.1 hK.2.1 d (k hK H locs ls hP hS hl)
theorem g_ladd {a b : Int64} (d : decode md.2.1 pc = .ok (.ladd, 1)) (hq : pc + 1 = q) (k : G x E md nc ns q lv (.long (a + b) :: st) M) : G x E md nc ns pc lv (.long b :: .long a :: st) M := by
  obtain ⟨p, l, e, R, s, m, args, below, meth, c, Z⟩ := x; intro hK H locs ls hP hS hl; subst hq; exact lv_ladd hK.1 hK.2.1 d (k hK H locs ls hP hS hl)
theorem g_lsub {a b : Int64} (d : decode md.2.1 pc = .ok (.lsub, 1)) (hq : pc + 1 = q) (k : G x E md nc ns q lv (.long (a - b) :: st) M) : G x E md nc ns pc lv (.long b :: .long a :: st) M := by
  obtain ⟨p, l, e, R, s, m, args, below, meth, c, Z⟩ := x; intro hK H locs ls hP hS hl; subst hq; exact lv_lsub hK.1 hK.2.1 d (k hK H locs ls hP hS hl)
theorem g_lmul {a b : Int64} (d : decode md.2.1 pc = .ok (.lmul, 1)) (hq : pc + 1 = q) (k : G x E md nc ns q lv (.long (a * b) :: st) M) : G x E md nc ns pc lv (.long b :: .long a :: st) M := by
  obtain ⟨p, l, e, R, s, m, args, below, meth, c, Z⟩ := x; intro hK H locs ls hP hS hl; subst hq; exact lv_lmul hK.1 hK.2.1 d (k hK H locs ls hP hS hl)
theorem g_lxor {a b : Int64} (d : decode md.2.1 pc = .ok (.lxor, 1)) (hq : pc + 1 = q) (k : G x E md nc ns q lv (.long (a ^^^ b) :: st) M) : G x E md nc ns pc lv (.long b :: .long a :: st) M := by
  obtain ⟨p, l, e, R, s, m, args, below, meth, c, Z⟩ := x; intro hK H locs ls hP hS hl; subst hq; exact lv_lxor hK.1 hK.2.1 d (k hK H locs ls hP hS hl)
theorem g_ineg {a : Int32} (d : decode md.2.1 pc = .ok (.ineg, 1)) (hq : pc + 1 = q) (k : G x E md nc ns q lv (.int (-a) :: st) M) : G x E md nc ns pc lv (.int a :: st) M := by
  obtain ⟨p, l, e, R, s, m, args, below, meth, c, Z⟩ := x; intro hK H locs ls hP hS hl; subst hq; exact lv_ineg hK.1 hK.2.1 d (k hK H locs ls hP hS hl)
theorem g_lneg {a : Int64} (d : decode md.2.1 pc = .ok (.lneg, 1)) (hq : pc + 1 = q) (k : G x E md nc ns q lv (.long (-a) :: st) M) : G x E md nc ns pc lv (.long a :: st) M := by
  obtain ⟨p, l, e, R, s, m, args, below, meth, c, Z⟩ := x; intro hK H locs ls hP hS hl; subst hq; exact lv_lneg hK.1 hK.2.1 d (k hK H locs ls hP hS hl)
theorem g_iushr {a b : Int32} (d : decode md.2.1 pc = .ok (.iushr, 1)) (hq : pc + 1 = q) (k : G x E md nc ns q lv (.int ((a.toUInt32 >>> (b.toUInt32 &&& Int32.toUInt32 31)).toInt32) :: st) M) : G x E md nc ns pc lv (.int b :: .int a :: st) M := by
  obtain ⟨p, l, e, R, s, m, args, below, meth, c, Z⟩ := x; intro hK H locs ls hP hS hl; subst hq; exact lv_iushr hK.1 hK.2.1 d rfl (k hK H locs ls hP hS hl)
theorem g_idiv {a b : Int32} (d : decode md.2.1 pc = .ok (.idiv, 1)) (hne : ¬ b = 0) (hq : pc + 1 = q) (k : G x E md nc ns q lv (.int (a / b) :: st) M) : G x E md nc ns pc lv (.int b :: .int a :: st) M := by
  obtain ⟨p, l, e, R, s, m, args, below, meth, c, Z⟩ := x; intro hK H locs ls hP hS hl; subst hq; exact lv_idiv hK.1 hK.2.1 d hne (k hK H locs ls hP hS hl)
theorem g_irem {a b : Int32} (d : decode md.2.1 pc = .ok (.irem, 1)) (hne : ¬ b = 0) (hq : pc + 1 = q) (k : G x E md nc ns q lv (.int (a - a / b * b) :: st) M) : G x E md nc ns pc lv (.int b :: .int a :: st) M := by
  obtain ⟨p, l, e, R, s, m, args, below, meth, c, Z⟩ := x; intro hK H locs ls hP hS hl; subst hq; exact lv_irem hK.1 hK.2.1 d hne (k hK H locs ls hP hS hl)
theorem g_ldiv {a b : Int64} (d : decode md.2.1 pc = .ok (.ldiv, 1)) (hne : ¬ b = 0) (hq : pc + 1 = q) (k : G x E md nc ns q lv (.long (a / b) :: st) M) : G x E md nc ns pc lv (.long b :: .long a :: st) M := by
  obtain ⟨p, l, e, R, s, m, args, below, meth, c, Z⟩ := x; intro hK H locs ls hP hS hl; subst hq; exact lv_ldiv hK.1 hK.2.1 d hne (k hK H locs ls hP hS hl)
theorem g_i2b {a : Int32} (d : decode md.2.1 pc = .ok (.i2b, 1)) (hq : pc + 1 = q) (k : G x E md nc ns q lv (.int a.toInt8.toInt32 :: st) M) : G x E md nc ns pc lv (.int a :: st) M := by
  obtain ⟨p, l, e, R, s, m, args, below, meth, c, Z⟩ := x; intro hK H locs ls hP hS hl; subst hq; exact lv_i2b hK.1 hK.2.1 d rfl (k hK H locs ls hP hS hl)
theorem g_i2l {a : Int32} (d : decode md.2.1 pc = .ok (.i2l, 1)) (hq : pc + 1 = q) (k : G x E md nc ns q lv (.long a.toInt64 :: st) M) : G x E md nc ns pc lv (.int a :: st) M := by
  obtain ⟨p, l, e, R, s, m, args, below, meth, c, Z⟩ := x; intro hK H locs ls hP hS hl; subst hq; exact lv_i2l hK.1 hK.2.1 d rfl (k hK H locs ls hP hS hl)
theorem g_l2i {a : Int64} (d : decode md.2.1 pc = .ok (.l2i, 1)) (hq : pc + 1 = q) (k : G x E md nc ns q lv (.int a.toInt32 :: st) M) : G x E md nc ns pc lv (.long a :: st) M := by
  obtain ⟨p, l, e, R, s, m, args, below, meth, c, Z⟩ := x; intro hK H locs ls hP hS hl; subst hq; exact lv_l2i hK.1 hK.2.1 d rfl (k hK H locs ls hP hS hl)
theorem g_iconst {n : Int} {v : Int32} (d : decode md.2.1 pc = .ok (.iconst n, 1)) (hv : Int32.ofInt n = v) (hq : pc + 1 = q) (k : G x E md nc ns q lv (.int v :: st) M) : G x E md nc ns pc lv st M := by
  obtain ⟨p, l, e, R, s, m, args, below, meth, c, Z⟩ := x; intro hK H locs ls hP hS hl; subst hq; exact lv_iconst hK.1 hK.2.1 d hv (k hK H locs ls hP hS hl)
theorem g_bipush {n : Int} {v : Int32} (d : decode md.2.1 pc = .ok (.bipush n, 2)) (hv : (Int8.ofInt n).toInt32 = v) (hq : pc + 2 = q) (k : G x E md nc ns q lv (.int v :: st) M) : G x E md nc ns pc lv st M := by
  obtain ⟨p, l, e, R, s, m, args, below, meth, c, Z⟩ := x; intro hK H locs ls hP hS hl; subst hq; exact lv_bipush hK.1 hK.2.1 d hv (k hK H locs ls hP hS hl)
theorem g_sipush {n : Int} {v : Int32} (d : decode md.2.1 pc = .ok (.sipush n, 3)) (hv : (Int16.ofInt n).toInt32 = v) (hq : pc + 3 = q) (k : G x E md nc ns q lv (.int v :: st) M) : G x E md nc ns pc lv st M := by
  obtain ⟨p, l, e, R, s, m, args, below, meth, c, Z⟩ := x; intro hK H locs ls hP hS hl; subst hq; exact lv_sipush hK.1 hK.2.1 d hv (k hK H locs ls hP hS hl)
theorem g_lconst {n : Fin 2} {v : Int64} (d : decode md.2.1 pc = .ok (.lconst n, 1)) (hv : Int64.ofNat (n : Nat) = v) (hq : pc + 1 = q) (k : G x E md nc ns q lv (.long v :: st) M) : G x E md nc ns pc lv st M := by
  obtain ⟨p, l, e, R, s, m, args, below, meth, c, Z⟩ := x; intro hK H locs ls hP hS hl; subst hq; exact lv_lconst hK.1 hK.2.1 d hv (k hK H locs ls hP hS hl)
theorem g_ldc {idx : Nat} {v : Int32} (d : decode md.2.1 pc = .ok (.ldc idx, 2)) (hw : Cond.constant md.1 idx v ∈ GW) (hq : pc + 2 = q) (k : G x E md nc ns q lv (.int v :: st) M) : G x E md nc ns pc lv st M := by
  obtain ⟨p, l, e, R, s, m, args, below, meth, c, Z⟩ := x; intro hK H locs ls hP hS hl; subst hq; exact lv_ldc hK.1 hK.2.1 hK.2.2.2.1 (hK.2.2.2.2.1 _ hw) d (k hK H locs ls hP hS hl)
theorem g_ldc2 {idx : Nat} {v : Int64} (d : decode md.2.1 pc = .ok (.ldc2_w idx, 3)) (hw : Cond.constantLong md.1 idx v ∈ GW) (hq : pc + 3 = q) (k : G x E md nc ns q lv (.long v :: st) M) : G x E md nc ns pc lv st M := by
  obtain ⟨p, l, e, R, s, m, args, below, meth, c, Z⟩ := x; intro hK H locs ls hP hS hl; subst hq; exact lv_ldc2 hK.1 hK.2.1 hK.2.2.2.1 (hK.2.2.2.2.1 _ hw) d (k hK H locs ls hP hS hl)
theorem g_dup {va : Value} (d : decode md.2.1 pc = .ok (.dup, 1)) (hva : va.category = 1) (hq : pc + 1 = q) (k : G x E md nc ns q lv (va :: va :: st) M) : G x E md nc ns pc lv (va :: st) M := by
  obtain ⟨p, l, e, R, s, m, args, below, meth, c, Z⟩ := x; intro hK H locs ls hP hS hl; subst hq; exact lv_dup hK.1 hK.2.1 d hva (k hK H locs ls hP hS hl)
theorem g_dup2 {va vb : Value} (d : decode md.2.1 pc = .ok (.dup2, 1)) (hva : va.category = 1) (hvb : vb.category = 1) (hq : pc + 1 = q) (k : G x E md nc ns q lv (va :: vb :: va :: vb :: st) M) : G x E md nc ns pc lv (va :: vb :: st) M := by
  obtain ⟨p, l, e, R, s, m, args, below, meth, c, Z⟩ := x; intro hK H locs ls hP hS hl; subst hq; exact lv_dup2_11 hK.1 hK.2.1 d hva hvb (k hK H locs ls hP hS hl)
theorem g_pop {va : Value} (d : decode md.2.1 pc = .ok (.pop, 1)) (hva : va.category = 1) (hq : pc + 1 = q) (k : G x E md nc ns q lv st M) : G x E md nc ns pc lv (va :: st) M := by
  obtain ⟨p, l, e, R, s, m, args, below, meth, c, Z⟩ := x; intro hK H locs ls hP hS hl; subst hq; exact lv_pop hK.1 hK.2.1 d hva (k hK H locs ls hP hS hl)
theorem g_iloadn {n : Fin 4} {i k0 : Nat} {v : Int32} (d : decode md.2.1 pc = .ok (.iload_n n, 1)) (hi : (n : Nat) = i) (h : lv[k0]? = some (i, .int v)) (hq : pc + 1 = q) (k : G x E md nc ns q lv (.int v :: st) M) : G x E md nc ns pc lv st M := by
  obtain ⟨p, l, e, R, s, m, args, below, meth, c, Z⟩ := x; intro hK H locs ls hP hS hl; subst hq; exact lv_iload_n hK.1 hK.2.1 d hi (lv_at hl k0 h) (k hK H locs ls hP hS hl)
theorem g_iload {i k0 : Nat} {v : Int32} (d : decode md.2.1 pc = .ok (.iload i, 2)) (h : lv[k0]? = some (i, .int v)) (hq : pc + 2 = q) (k : G x E md nc ns q lv (.int v :: st) M) : G x E md nc ns pc lv st M := by
  obtain ⟨p, l, e, R, s, m, args, below, meth, c, Z⟩ := x; intro hK H locs ls hP hS hl; subst hq; exact lv_iload hK.1 hK.2.1 d (lv_at hl k0 h) (k hK H locs ls hP hS hl)
theorem g_lloadn {n : Fin 4} {i k0 : Nat} {v : Int64} (d : decode md.2.1 pc = .ok (.lload_n n, 1)) (hi : (n : Nat) = i) (h : lv[k0]? = some (i, .long v)) (hq : pc + 1 = q) (k : G x E md nc ns q lv (.long v :: st) M) : G x E md nc ns pc lv st M := by
  obtain ⟨p, l, e, R, s, m, args, below, meth, c, Z⟩ := x; intro hK H locs ls hP hS hl; subst hq; exact lv_lload_n hK.1 hK.2.1 d hi (lv_at hl k0 h) (k hK H locs ls hP hS hl)
theorem g_lload {i k0 : Nat} {v : Int64} (d : decode md.2.1 pc = .ok (.lload i, 2)) (h : lv[k0]? = some (i, .long v)) (hq : pc + 2 = q) (k : G x E md nc ns q lv (.long v :: st) M) : G x E md nc ns pc lv st M := by
  obtain ⟨p, l, e, R, s, m, args, below, meth, c, Z⟩ := x; intro hK H locs ls hP hS hl; subst hq; exact lv_lload hK.1 hK.2.1 d (lv_at hl k0 h) (k hK H locs ls hP hS hl)
theorem g_aloadn {n : Fin 4} {i k0 : Nat} {v : Nat} (d : decode md.2.1 pc = .ok (.aload_n n, 1)) (hi : (n : Nat) = i) (h : lv[k0]? = some (i, .ref v)) (hq : pc + 1 = q) (k : G x E md nc ns q lv (.ref v :: st) M) : G x E md nc ns pc lv st M := by
  obtain ⟨p, l, e, R, s, m, args, below, meth, c, Z⟩ := x; intro hK H locs ls hP hS hl; subst hq; exact lv_aload_n hK.1 hK.2.1 d hi (lv_at hl k0 h) (k hK H locs ls hP hS hl)
theorem g_aload {i k0 : Nat} {v : Nat} (d : decode md.2.1 pc = .ok (.aload i, 2)) (h : lv[k0]? = some (i, .ref v)) (hq : pc + 2 = q) (k : G x E md nc ns q lv (.ref v :: st) M) : G x E md nc ns pc lv st M := by
  obtain ⟨p, l, e, R, s, m, args, below, meth, c, Z⟩ := x; intro hK H locs ls hP hS hl; subst hq; exact lv_aload hK.1 hK.2.1 d (lv_at hl k0 h) (k hK H locs ls hP hS hl)
/-- the locals in another order, or fewer of them -/
theorem g_lv (ks : List Nat) (hl' : lv_pick lv ks = lv') (k : G x E md nc ns pc lv' st M) : G x E md nc ns pc lv st M := by
  obtain ⟨p, l, e, R, s, m, args, below, meth, c, Z⟩ := x; intro hK H locs ls hP hS hl; exact k hK H locs ls hP hS (lv_sub hl ks hl')
def stI (lv : List (Nat × Value)) (i : Nat) (v : Value) : List (Nat × Value) := (i, v) :: lv.filter (fun q => !(q.1 == i) && !(q.1 + 1 == i && q.2.category == 2))
def stL (lv : List (Nat × Value)) (i : Nat) (v : Value) : List (Nat × Value) := (i, v) :: lv.filter (fun q => !(q.1 == i) && (!(q.1 == i + 1) && !(q.1 + 1 == i && q.2.category == 2)))
theorem g_istoren {n : Fin 4} {i : Nat} {v : Int32} (ks : List Nat) (d : decode md.2.1 pc = .ok (.istore_n n, 1)) (hi : (n : Nat) = i) (hn : i < md.2.2.1) (hl' : lv_pick (stI lv i (.int v)) ks = lv') (hq : pc + 1 = q) (k : G x E md nc ns q lv' st M) : G x E md nc ns pc lv (.int v :: st) M := by
  obtain ⟨p, l, e, R, s, m, args, below, meth, c, Z⟩ := x; intro hK H locs ls hP hS hl; subst hq; exact lv_istore_n hK.1 hK.2.1 d hi hl hn rfl (fun ls hl => k hK H locs ls hP hS (lv_sub hl ks hl'))
theorem g_istore {i : Nat} {v : Int32} (ks : List Nat) (d : decode md.2.1 pc = .ok (.istore i, 2)) (hn : i < md.2.2.1) (hl' : lv_pick (stI lv i (.int v)) ks = lv') (hq : pc + 2 = q) (k : G x E md nc ns q lv' st M) : G x E md nc ns pc lv (.int v :: st) M := by
  obtain ⟨p, l, e, R, s, m, args, below, meth, c, Z⟩ := x; intro hK H locs ls hP hS hl; subst hq; exact lv_istore hK.1 hK.2.1 d hl hn rfl (fun ls hl => k hK H locs ls hP hS (lv_sub hl ks hl'))
theorem g_astoren {n : Fin 4} {i : Nat} {v : Nat} (ks : List Nat) (d : decode md.2.1 pc = .ok (.astore_n n, 1)) (hi : (n : Nat) = i) (hn : i < md.2.2.1) (hl' : lv_pick (stI lv i (.ref v)) ks = lv') (hq : pc + 1 = q) (k : G x E md nc ns q lv' st M) : G x E md nc ns pc lv (.ref v :: st) M := by
  obtain ⟨p, l, e, R, s, m, args, below, meth, c, Z⟩ := x; intro hK H locs ls hP hS hl; subst hq; exact lv_astore_n hK.1 hK.2.1 d hi hl hn rfl (fun ls hl => k hK H locs ls hP hS (lv_sub hl ks hl'))
theorem g_astore {i : Nat} {v : Nat} (ks : List Nat) (d : decode md.2.1 pc = .ok (.astore i, 2)) (hn : i < md.2.2.1) (hl' : lv_pick (stI lv i (.ref v)) ks = lv') (hq : pc + 2 = q) (k : G x E md nc ns q lv' st M) : G x E md nc ns pc lv (.ref v :: st) M := by
  obtain ⟨p, l, e, R, s, m, args, below, meth, c, Z⟩ := x; intro hK H locs ls hP hS hl; subst hq; exact lv_astore hK.1 hK.2.1 d hl hn rfl (fun ls hl => k hK H locs ls hP hS (lv_sub hl ks hl'))
theorem g_lstoren {n : Fin 4} {i : Nat} {v : Int64} (ks : List Nat) (d : decode md.2.1 pc = .ok (.lstore_n n, 1)) (hi : (n : Nat) = i) (hn : i + 1 < md.2.2.1) (hl' : lv_pick (stL lv i (.long v)) ks = lv') (hq : pc + 1 = q) (k : G x E md nc ns q lv' st M) : G x E md nc ns pc lv (.long v :: st) M := by
  obtain ⟨p, l, e, R, s, m, args, below, meth, c, Z⟩ := x; intro hK H locs ls hP hS hl; subst hq; exact lv_lstore_n hK.1 hK.2.1 d hi hl hn rfl (fun ls hl => k hK H locs ls hP hS (lv_sub hl ks hl'))
theorem g_lstore {i : Nat} {v : Int64} (ks : List Nat) (d : decode md.2.1 pc = .ok (.lstore i, 2)) (hn : i + 1 < md.2.2.1) (hl' : lv_pick (stL lv i (.long v)) ks = lv') (hq : pc + 2 = q) (k : G x E md nc ns q lv' st M) : G x E md nc ns pc lv (.long v :: st) M := by
  obtain ⟨p, l, e, R, s, m, args, below, meth, c, Z⟩ := x; intro hK H locs ls hP hS hl; subst hq; exact lv_lstore hK.1 hK.2.1 d hl hn rfl (fun ls hl => k hK H locs ls hP hS (lv_sub hl ks hl'))
theorem g_iinc {i k0 : Nat} {n : Int} {v w : Int32} (ks : List Nat) (d : decode md.2.1 pc = .ok (.iinc i n, 3)) (h : lv[k0]? = some (i, .int v)) (hv : v + Int32.ofInt n = w) (hn : i < md.2.2.1) (hl' : lv_pick (stI lv i (.int w)) ks = lv') (hq : pc + 3 = q) (k : G x E md nc ns q lv' st M) : G x E md nc ns pc lv st M := by
  obtain ⟨p, l, e, R, s, m, args, below, meth, c, Z⟩ := x; intro hK H locs ls hP hS hl; subst hq; exact lv_iinc hK.1 hK.2.1 d hl h hv hn rfl (fun ls hl => k hK H locs ls hP hS (lv_sub hl ks hl'))
theorem g_goto {off : Int} {tgt : Nat} (d : decode md.2.1 pc = .ok (.goto off, 3)) (ht : (pc : Int) + off = (tgt : Int)) (k : G x E md nc ns tgt lv st M) : G x E md nc ns pc lv st M := by
  obtain ⟨p, l, e, R, s, m, args, below, meth, c, Z⟩ := x; intro hK H locs ls hP hS hl; exact lv_goto hK.1 hK.2.1 d ht (k hK H locs ls hP hS hl)
theorem g_ic_eq {a b : Int32} {off : Int} {tgt : Nat} (d : decode md.2.1 pc = .ok (.if_icmp .eq off, 3)) (ht : (pc : Int) + off = (tgt : Int)) (hq : pc + 3 = q) (kt : a = b → G x E md nc ns tgt lv st M) (kf : ¬ a = b → G x E md nc ns q lv st M) : G x E md nc ns pc lv (.int b :: .int a :: st) M := by
  obtain ⟨p, l, e, R, s, m, args, below, meth, c, Z⟩ := x; intro hK H locs ls hP hS hl; subst hq; exact lv_icmp_eq hK.1 hK.2.1 d ht (fun h => kt h hK H locs ls hP hS hl) (fun h => kf (by first | exact h | exact Classical.not_not.mp h) hK H locs ls hP hS hl)
theorem g_if_eq {a : Int32} {off : Int} {tgt : Nat} (d : decode md.2.1 pc = .ok (.ifCond .eq off, 3)) (ht : (pc : Int) + off = (tgt : Int)) (hq : pc + 3 = q) (kt : a = 0 → G x E md nc ns tgt lv st M) (kf : ¬ a = 0 → G x E md nc ns q lv st M) : G x E md nc ns pc lv (.int a :: st) M := by
  obtain ⟨p, l, e, R, s, m, args, below, meth, c, Z⟩ := x; intro hK H locs ls hP hS hl; subst hq; exact lv_if_eq hK.1 hK.2.1 d ht (fun h => kt h hK H locs ls hP hS hl) (fun h => kf (by first | exact h | exact Classical.not_not.mp h) hK H locs ls hP hS hl)
theorem g_ic_ne {a b : Int32} {off : Int} {tgt : Nat} (d : decode md.2.1 pc = .ok (.if_icmp .ne off, 3)) (ht : (pc : Int) + off = (tgt : Int)) (hq : pc + 3 = q) (kt : ¬ a = b → G x E md nc ns tgt lv st M) (kf : a = b → G x E md nc ns q lv st M) : G x E md nc ns pc lv (.int b :: .int a :: st) M := by
  obtain ⟨p, l, e, R, s, m, args, below, meth, c, Z⟩ := x; intro hK H locs ls hP hS hl; subst hq; exact lv_icmp_ne hK.1 hK.2.1 d ht (fun h => kt h hK H locs ls hP hS hl) (fun h => kf (by first | exact h | exact Classical.not_not.mp h) hK H locs ls hP hS hl)
theorem g_if_ne {a : Int32} {off : Int} {tgt : Nat} (d : decode md.2.1 pc = .ok (.ifCond .ne off, 3)) (ht : (pc : Int) + off = (tgt : Int)) (hq : pc + 3 = q) (kt : ¬ a = 0 → G x E md nc ns tgt lv st M) (kf : a = 0 → G x E md nc ns q lv st M) : G x E md nc ns pc lv (.int a :: st) M := by
  obtain ⟨p, l, e, R, s, m, args, below, meth, c, Z⟩ := x; intro hK H locs ls hP hS hl; subst hq; exact lv_if_ne hK.1 hK.2.1 d ht (fun h => kt h hK H locs ls hP hS hl) (fun h => kf (by first | exact h | exact Classical.not_not.mp h) hK H locs ls hP hS hl)
theorem g_ic_lt {a b : Int32} {off : Int} {tgt : Nat} (d : decode md.2.1 pc = .ok (.if_icmp .lt off, 3)) (ht : (pc : Int) + off = (tgt : Int)) (hq : pc + 3 = q) (kt : a < b → G x E md nc ns tgt lv st M) (kf : ¬ a < b → G x E md nc ns q lv st M) : G x E md nc ns pc lv (.int b :: .int a :: st) M := by
  obtain ⟨p, l, e, R, s, m, args, below, meth, c, Z⟩ := x; intro hK H locs ls hP hS hl; subst hq; exact lv_icmp_lt hK.1 hK.2.1 d ht (fun h => kt h hK H locs ls hP hS hl) (fun h => kf (by first | exact h | exact Classical.not_not.mp h) hK H locs ls hP hS hl)
theorem g_if_lt {a : Int32} {off : Int} {tgt : Nat} (d : decode md.2.1 pc = .ok (.ifCond .lt off, 3)) (ht : (pc : Int) + off = (tgt : Int)) (hq : pc + 3 = q) (kt : a < 0 → G x E md nc ns tgt lv st M) (kf : ¬ a < 0 → G x E md nc ns q lv st M) : G x E md nc ns pc lv (.int a :: st) M := by
  obtain ⟨p, l, e, R, s, m, args, below, meth, c, Z⟩ := x; intro hK H locs ls hP hS hl; subst hq; exact lv_if_lt hK.1 hK.2.1 d ht (fun h => kt h hK H locs ls hP hS hl) (fun h => kf (by first | exact h | exact Classical.not_not.mp h) hK H locs ls hP hS hl)
theorem g_ic_ge {a b : Int32} {off : Int} {tgt : Nat} (d : decode md.2.1 pc = .ok (.if_icmp .ge off, 3)) (ht : (pc : Int) + off = (tgt : Int)) (hq : pc + 3 = q) (kt : b ≤ a → G x E md nc ns tgt lv st M) (kf : ¬ b ≤ a → G x E md nc ns q lv st M) : G x E md nc ns pc lv (.int b :: .int a :: st) M := by
  obtain ⟨p, l, e, R, s, m, args, below, meth, c, Z⟩ := x; intro hK H locs ls hP hS hl; subst hq; exact lv_icmp_ge hK.1 hK.2.1 d ht (fun h => kt h hK H locs ls hP hS hl) (fun h => kf (by first | exact h | exact Classical.not_not.mp h) hK H locs ls hP hS hl)
theorem g_if_ge {a : Int32} {off : Int} {tgt : Nat} (d : decode md.2.1 pc = .ok (.ifCond .ge off, 3)) (ht : (pc : Int) + off = (tgt : Int)) (hq : pc + 3 = q) (kt : 0 ≤ a → G x E md nc ns tgt lv st M) (kf : ¬ 0 ≤ a → G x E md nc ns q lv st M) : G x E md nc ns pc lv (.int a :: st) M := by
  obtain ⟨p, l, e, R, s, m, args, below, meth, c, Z⟩ := x; intro hK H locs ls hP hS hl; subst hq; exact lv_if_ge hK.1 hK.2.1 d ht (fun h => kt h hK H locs ls hP hS hl) (fun h => kf (by first | exact h | exact Classical.not_not.mp h) hK H locs ls hP hS hl)
theorem g_ic_gt {a b : Int32} {off : Int} {tgt : Nat} (d : decode md.2.1 pc = .ok (.if_icmp .gt off, 3)) (ht : (pc : Int) + off = (tgt : Int)) (hq : pc + 3 = q) (kt : b < a → G x E md nc ns tgt lv st M) (kf : ¬ b < a → G x E md nc ns q lv st M) : G x E md nc ns pc lv (.int b :: .int a :: st) M := by
  obtain ⟨p, l, e, R, s, m, args, below, meth, c, Z⟩ := x; intro hK H locs ls hP hS hl; subst hq; exact lv_icmp_gt hK.1 hK.2.1 d ht (fun h => kt h hK H locs ls hP hS hl) (fun h => kf (by first | exact h | exact Classical.not_not.mp h) hK H locs ls hP hS hl)
theorem g_if_gt {a : Int32} {off : Int} {tgt : Nat} (d : decode md.2.1 pc = .ok (.ifCond .gt off, 3)) (ht : (pc : Int) + off = (tgt : Int)) (hq : pc + 3 = q) (kt : 0 < a → G x E md nc ns tgt lv st M) (kf : ¬ 0 < a → G x E md nc ns q lv st M) : G x E md nc ns pc lv (.int a :: st) M := by
  obtain ⟨p, l, e, R, s, m, args, below, meth, c, Z⟩ := x; intro hK H locs ls hP hS hl; subst hq; exact lv_if_gt hK.1 hK.2.1 d ht (fun h => kt h hK H locs ls hP hS hl) (fun h => kf (by first | exact h | exact Classical.not_not.mp h) hK H locs ls hP hS hl)
theorem g_ic_le {a b : Int32} {off : Int} {tgt : Nat} (d : decode md.2.1 pc = .ok (.if_icmp .le off, 3)) (ht : (pc : Int) + off = (tgt : Int)) (hq : pc + 3 = q) (kt : a ≤ b → G x E md nc ns tgt lv st M) (kf : ¬ a ≤ b → G x E md nc ns q lv st M) : G x E md nc ns pc lv (.int b :: .int a :: st) M := by
  obtain ⟨p, l, e, R, s, m, args, below, meth, c, Z⟩ := x; intro hK H locs ls hP hS hl; subst hq; exact lv_icmp_le hK.1 hK.2.1 d ht (fun h => kt h hK H locs ls hP hS hl) (fun h => kf (by first | exact h | exact Classical.not_not.mp h) hK H locs ls hP hS hl)
theorem g_if_le {a : Int32} {off : Int} {tgt : Nat} (d : decode md.2.1 pc = .ok (.ifCond .le off, 3)) (ht : (pc : Int) + off = (tgt : Int)) (hq : pc + 3 = q) (kt : a ≤ 0 → G x E md nc ns tgt lv st M) (kf : ¬ a ≤ 0 → G x E md nc ns q lv st M) : G x E md nc ns pc lv (.int a :: st) M := by
  obtain ⟨p, l, e, R, s, m, args, below, meth, c, Z⟩ := x; intro hK H locs ls hP hS hl; subst hq; exact lv_if_le hK.1 hK.2.1 d ht (fun h => kt h hK H locs ls hP hS hl) (fun h => kf (by first | exact h | exact Classical.not_not.mp h) hK H locs ls hP hS hl)
theorem g_lcmp {a b : Int64} (d : decode md.2.1 pc = .ok (.lcmp, 1)) (hq : pc + 1 = q) (k : G x E md nc ns q lv (.int (lg_cmp a b) :: st) M) : G x E md nc ns pc lv (.long b :: .long a :: st) M := by
  obtain ⟨p, l, e, R, s, m, args, below, meth, c, Z⟩ := x; intro hK H locs ls hP hS hl; subst hq; exact W.lcmp hK.1 hK.2.1 d (k hK H locs ls hP hS hl)
theorem g_lc_eq {a b : Int64} {off : Int} {tgt q2 : Nat} (d : decode md.2.1 pc = .ok (.lcmp, 1)) (hq : pc + 1 = q) (d2 : decode md.2.1 q = .ok (.ifCond .eq off, 3)) (ht : (q : Int) + off = (tgt : Int)) (hq2 : q + 3 = q2) (kt : a = b → G x E md nc ns tgt lv st M) (kf : ¬ a = b → G x E md nc ns q2 lv st M) : G x E md nc ns pc lv (.long b :: .long a :: st) M :=
  g_lcmp d hq (g_if_eq d2 ht hq2 (fun h => kt ((lg_cmp_eq a b).mp h)) (fun h => kf (fun h2 => h ((lg_cmp_eq a b).mpr h2))))
theorem g_lc_ne {a b : Int64} {off : Int} {tgt q2 : Nat} (d : decode md.2.1 pc = .ok (.lcmp, 1)) (hq : pc + 1 = q) (d2 : decode md.2.1 q = .ok (.ifCond .ne off, 3)) (ht : (q : Int) + off = (tgt : Int)) (hq2 : q + 3 = q2) (kt : ¬ a = b → G x E md nc ns tgt lv st M) (kf : a = b → G x E md nc ns q2 lv st M) : G x E md nc ns pc lv (.long b :: .long a :: st) M :=
  g_lcmp d hq (g_if_ne d2 ht hq2 (fun h => kt (fun h2 => h ((lg_cmp_eq a b).mpr h2))) (fun h => kf ((lg_cmp_eq a b).mp h)))
theorem g_lc_lt {a b : Int64} {off : Int} {tgt q2 : Nat} (d : decode md.2.1 pc = .ok (.lcmp, 1)) (hq : pc + 1 = q) (d2 : decode md.2.1 q = .ok (.ifCond .lt off, 3)) (ht : (q : Int) + off = (tgt : Int)) (hq2 : q + 3 = q2) (kt : a < b → G x E md nc ns tgt lv st M) (kf : ¬ a < b → G x E md nc ns q2 lv st M) : G x E md nc ns pc lv (.long b :: .long a :: st) M :=
  g_lcmp d hq (g_if_lt d2 ht hq2 (fun h => kt ((lg_cmp_lt a b).mp h)) (fun h => kf (fun h2 => h ((lg_cmp_lt a b).mpr h2))))
theorem g_lc_ge {a b : Int64} {off : Int} {tgt q2 : Nat} (d : decode md.2.1 pc = .ok (.lcmp, 1)) (hq : pc + 1 = q) (d2 : decode md.2.1 q = .ok (.ifCond .ge off, 3)) (ht : (q : Int) + off = (tgt : Int)) (hq2 : q + 3 = q2) (kt : b ≤ a → G x E md nc ns tgt lv st M) (kf : ¬ b ≤ a → G x E md nc ns q2 lv st M) : G x E md nc ns pc lv (.long b :: .long a :: st) M :=
  g_lcmp d hq (g_if_ge d2 ht hq2 (fun h => kt ((lg_cmp_ge a b).mp h)) (fun h => kf (fun h2 => h ((lg_cmp_ge a b).mpr h2))))
theorem g_lc_gt {a b : Int64} {off : Int} {tgt q2 : Nat} (d : decode md.2.1 pc = .ok (.lcmp, 1)) (hq : pc + 1 = q) (d2 : decode md.2.1 q = .ok (.ifCond .gt off, 3)) (ht : (q : Int) + off = (tgt : Int)) (hq2 : q + 3 = q2) (kt : b < a → G x E md nc ns tgt lv st M) (kf : ¬ b < a → G x E md nc ns q2 lv st M) : G x E md nc ns pc lv (.long b :: .long a :: st) M :=
  g_lcmp d hq (g_if_gt d2 ht hq2 (fun h => kt ((lg_cmp_gt a b).mp h)) (fun h => kf (fun h2 => h ((lg_cmp_gt a b).mpr h2))))
theorem g_lc_le {a b : Int64} {off : Int} {tgt q2 : Nat} (d : decode md.2.1 pc = .ok (.lcmp, 1)) (hq : pc + 1 = q) (d2 : decode md.2.1 q = .ok (.ifCond .le off, 3)) (ht : (q : Int) + off = (tgt : Int)) (hq2 : q + 3 = q2) (kt : a ≤ b → G x E md nc ns tgt lv st M) (kf : ¬ a ≤ b → G x E md nc ns q2 lv st M) : G x E md nc ns pc lv (.long b :: .long a :: st) M :=
  g_lcmp d hq (g_if_le d2 ht hq2 (fun h => kt ((lg_cmp_le a b).mp h)) (fun h => kf (fun h2 => h ((lg_cmp_le a b).mpr h2))))
theorem sw_out {v : Int32} (lo n : Nat) (h : ∀ i, i < n → ¬ v = Int32.ofNat (lo + i)) (hn : lo + n < 2 ^ 31 := by decide) : v.toInt < (lo : Int) ∨ ((lo + n : Nat) : Int) - 1 < v.toInt := by
  by_cases h1 : v.toInt < (lo : Int)
  · exact Or.inl h1
  · by_cases h2 : ((lo + n : Nat) : Int) - 1 < v.toInt
    · exact Or.inr h2
    · exfalso
      have h3 : 0 ≤ v.toInt := by omega
      obtain ⟨k, hk⟩ := Int.eq_ofNat_of_zero_le h3
      refine h (k - lo) (by omega) ?_
      have e : lo + (k - lo) = k := by omega
      rw [e]
      apply Int32.toInt_inj.mp
      rw [hk, Int32.toInt_ofNat_of_lt (by omega)]
theorem g_tin {dflt lo hi : Int} {offs : Array Int} {len : Nat} {v : Int32} {off : Int} {tgt : Nat} (w : Int) (hv : v.toInt = w) (d : decode md.2.1 pc = .ok (.tableswitch dflt lo hi offs, len)) (h1 : ¬ w < lo) (h2 : ¬ hi < w) (ho : offs[(w - lo).toNat]? = some off) (ht : (pc : Int) + off = (tgt : Int)) (k : G x E md nc ns tgt lv st M) : G x E md nc ns pc lv (.int v :: st) M := by
  obtain ⟨p, l, e, R, s, m, args, below, meth, c, Z⟩ := x; intro hK H locs ls hP hS hl; subst hv; exact lv_tableIn hK.1 hK.2.1 d h1 h2 ho ht (k hK H locs ls hP hS hl)
theorem g_tout {dflt lo hi : Int} {offs : Array Int} {len : Nat} {v : Int32} {tgt : Nat} (d : decode md.2.1 pc = .ok (.tableswitch dflt lo hi offs, len)) (h : v.toInt < lo ∨ hi < v.toInt) (ht : (pc : Int) + dflt = (tgt : Int)) (k : G x E md nc ns tgt lv st M) : G x E md nc ns pc lv (.int v :: st) M := by
  obtain ⟨p, l, e, R, s, m, args, below, meth, c, Z⟩ := x; intro hK H locs ls hP hS hl; exact lv_tableOut hK.1 hK.2.1 d h ht (k hK H locs ls hP hS hl)
theorem g_get {idx c k kd : Nat} {v : Value} (hf : FG md.1 idx c k kd) (hv : fval E M c k kd = v) (d : decode md.2.1 pc = .ok (.getfield idx, 3)) (hq : pc + 3 = q) (kk : G x E md nc ns q lv (v :: st) M) : G x E md nc ns pc lv (.ref (eA E c) :: st) M := by
  obtain ⟨p, l, e, R, s, m, args, below, meth, co, Z⟩ := x; intro hK H locs ls hP hS hl; subst hq
  obtain ⟨ci, ks, C, T, N, h1, h2, h3, h4, h5, h6, h7⟩ := hf
  exact va_get hK.1 hK.2.1 hK.2.2.2.2.1 h7 hK.2.2.2.1 hK.2.2.2.2.2.1 hP c (pic_at h1) h3 k h4 (hK.2.2.2.2.1 _ h6) (fun _ h => h) (by rw [← hv]; exact fs_at h2) d (kk hK H locs ls hP hS hl)
theorem g_putI {idx c k : Nat} {v : Int32} (hf : FP md.1 idx c k 0 .int) (d : decode md.2.1 pc = .ok (.putfield idx, 3)) (hq : pc + 3 = q) (kk : G x E md nc ns q lv st (putI M c k v)) : G x E md nc ns pc lv (.int v :: .ref (eA E c) :: st) M := by
  obtain ⟨p, l, e, R, s, m, args, below, meth, co, Z⟩ := x; intro hK H locs ls hP hS hl; subst hq
  obtain ⟨ci, ks, C, T, N, ty0, h1, h2, h3, h4, h5, h6, h7, h8, h9, h10, h11⟩ := hf
  have hD := hK.2.2.2.2.2.2.2.1.D M
  have hset : (pic E M).set c (eA E c, .inr (ci, ((List.range ks.length).map fun k => fval E M c k (ks.getD k 0)).set k (.int v))) = pic E (putI M c k v) := by
    refine pic_set h1 ?_ (fun c' hc => ⟨putI_ne1 hc, rfl⟩)
    show Sum.inr (ci, _) = _
    rw [fs_set (M' := putI M c k v) h2 (by show Value.int _ = _; rw [putI_same]) (fun j kd' hj => by unfold fval; split <;> first | rw [putI_k hj] | rfl)]
  refine va_put hK.1 hK.2.1 hK.2.2.2.2.1 h7 ty0 h8 h9 hK.2.2.2.1 hK.2.2.2.2.2.1 hP hD hS c (pic_at h1) h3 k h4 (hK.2.2.2.2.1 _ h6) (fun _ h => h) h10 h11 rfl rfl (by rw [List.length_map, List.length_range, h5]; exact h4) d (fun H1 locs1 hP1 hD1 hS1 => ?_)
  rw [hset] at hP1
  exact kk hK H1 locs1 ls hP1 hS1 hl
theorem g_putL {idx c k : Nat} {v : Int64} (hf : FP md.1 idx c k 1 .long) (d : decode md.2.1 pc = .ok (.putfield idx, 3)) (hq : pc + 3 = q) (kk : G x E md nc ns q lv st (putL M c k v)) : G x E md nc ns pc lv (.long v :: .ref (eA E c) :: st) M := by
  obtain ⟨p, l, e, R, s, m, args, below, meth, co, Z⟩ := x; intro hK H locs ls hP hS hl; subst hq
  obtain ⟨ci, ks, C, T, N, ty0, h1, h2, h3, h4, h5, h6, h7, h8, h9, h10, h11⟩ := hf
  have hD := hK.2.2.2.2.2.2.2.1.D M
  have hset : (pic E M).set c (eA E c, .inr (ci, ((List.range ks.length).map fun k => fval E M c k (ks.getD k 0)).set k (.long v))) = pic E (putL M c k v) := by
    refine pic_set h1 ?_ (fun c' hc => ⟨rfl, putL_ne2 hc⟩)
    show Sum.inr (ci, _) = _
    rw [fs_set (M' := putL M c k v) h2 (by show Value.long _ = _; rw [putL_same]) (fun j kd' hj => by unfold fval; split <;> first | rw [putL_k hj] | rfl)]
  refine va_put hK.1 hK.2.1 hK.2.2.2.2.1 h7 ty0 h8 h9 hK.2.2.2.1 hK.2.2.2.2.2.1 hP hD hS c (pic_at h1) h3 k h4 (hK.2.2.2.2.1 _ h6) (fun _ h => h) h10 h11 rfl rfl (by rw [List.length_map, List.length_range, h5]; exact h4) d (fun H1 locs1 hP1 hD1 hS1 => ?_)
  rw [hset] at hP1
  exact kk hK H1 locs1 ls hP1 hS1 hl
theorem parr_at {c t n : Nat} (h : shL[c]? = some (.inl (t, n))) (ht : t ≠ 2) : (pic E M)[c]? = some (eA E c, .inl (eC E t, n, .inl (M.1 c))) := by
  rw [pic_at h]; simp [cellE, ht]
theorem parr_atL {c n : Nat} (h : shL[c]? = some (.inl (2, n))) : (pic E M)[c]? = some (eA E c, .inl (eC E 2, n, .inr (.inl (M.2 c)))) := by
  rw [pic_at h]; simp [cellE]
theorem parr_set {c t n k : Nat} {v : Int32} (h : shL[c]? = some (.inl (t, n))) (ht : t ≠ 2) : (pic E M).set c (eA E c, .inl (eC E t, n, .inl (upd (M.1 c) k v))) = pic E (putI M c k v) :=
  pic_set h (by simp [cellE, ht, putI_upd]) (fun c' hc => ⟨putI_ne1 hc, rfl⟩)
theorem parr_setL {c n k : Nat} {v : Int64} (h : shL[c]? = some (.inl (2, n))) : (pic E M).set c (eA E c, .inl (eC E 2, n, .inr (.inl (vp_updL (M.2 c) k v)))) = pic E (putL M c k v) :=
  pic_set h (by simp [cellE, putL_upd]) (fun c' hc => ⟨rfl, putL_ne2 hc⟩)
theorem g_iald {c n : Nat} {i : Int32} {v : Int32} (h : shL[c]? = some (.inl (1, n))) (hin : vp_in i n) (hv : M.1 c i.toNatClampNeg = v) (d : decode md.2.1 pc = .ok (.iaload, 1)) (hq : pc + 1 = q) (k : G x E md nc ns q lv (.int v :: st) M) : G x E md nc ns pc lv (.int i :: .ref (eA E c) :: st) M := by
  obtain ⟨p, l, e, R, s, m, args, below, meth, co, Z⟩ := x; intro hK H locs ls hP hS hl; subst hq; subst hv; exact va_iald hK.1 hK.2.1 hK.2.2.2.2.2.1 hP c 1 (parr_at h (by decide)) rfl hin d (k hK H locs ls hP hS hl)
theorem g_bald {c n : Nat} {i : Int32} {v : Int32} (h : shL[c]? = some (.inl (0, n))) (hin : vp_in i n) (hv : M.1 c i.toNatClampNeg = v) (d : decode md.2.1 pc = .ok (.baload, 1)) (hq : pc + 1 = q) (k : G x E md nc ns q lv (.int v :: st) M) : G x E md nc ns pc lv (.int i :: .ref (eA E c) :: st) M := by
  obtain ⟨p, l, e, R, s, m, args, below, meth, co, Z⟩ := x; intro hK H locs ls hP hS hl; subst hq; subst hv; exact va_bald hK.1 hK.2.1 hK.2.2.2.2.2.1 hP c 0 (parr_at h (by decide)) rfl hin d (k hK H locs ls hP hS hl)
theorem g_zald {c n : Nat} {i : Int32} {v : Int32} (h : shL[c]? = some (.inl (3, n))) (hin : vp_in i n) (hv : M.1 c i.toNatClampNeg = v) (d : decode md.2.1 pc = .ok (.baload, 1)) (hq : pc + 1 = q) (k : G x E md nc ns q lv (.int v :: st) M) : G x E md nc ns pc lv (.int i :: .ref (eA E c) :: st) M := by
  obtain ⟨p, l, e, R, s, m, args, below, meth, co, Z⟩ := x; intro hK H locs ls hP hS hl; subst hq; subst hv; exact va_zald hK.1 hK.2.1 hK.2.2.2.2.2.1 hP c 3 (parr_at h (by decide)) rfl hin d (k hK H locs ls hP hS hl)
theorem g_lald {c n : Nat} {i : Int32} {v : Int64} (h : shL[c]? = some (.inl (2, n))) (hin : vp_in i n) (hv : M.2 c i.toNatClampNeg = v) (d : decode md.2.1 pc = .ok (.laload, 1)) (hq : pc + 1 = q) (k : G x E md nc ns q lv (.long v :: st) M) : G x E md nc ns pc lv (.int i :: .ref (eA E c) :: st) M := by
  obtain ⟨p, l, e, R, s, m, args, below, meth, co, Z⟩ := x; intro hK H locs ls hP hS hl; subst hq; subst hv; exact va_lald hK.1 hK.2.1 hK.2.2.2.2.2.1 hP c 2 (parr_atL h) rfl hin d (k hK H locs ls hP hS hl)
theorem g_iast {c n : Nat} {i v : Int32} (h : shL[c]? = some (.inl (1, n))) (hin : vp_in i n) (d : decode md.2.1 pc = .ok (.iastore, 1)) (hq : pc + 1 = q) (k : G x E md nc ns q lv st (putI M c i.toNatClampNeg v)) : G x E md nc ns pc lv (.int v :: .int i :: .ref (eA E c) :: st) M := by
  obtain ⟨p, l, e, R, s, m, args, below, meth, co, Z⟩ := x; intro hK H locs ls hP hS hl; subst hq
  refine va_iast hK.1 hK.2.1 hK.2.2.2.2.2.1 hP (hK.2.2.2.2.2.2.2.1.D M) hS c 1 (parr_at h (by decide)) rfl hin d (fun H1 locs1 hP1 hD1 hS1 => ?_)
  rw [parr_set h (by decide)] at hP1
  exact k hK H1 locs1 ls hP1 hS1 hl
theorem g_bast {c n : Nat} {i v w : Int32} (h : shL[c]? = some (.inl (0, n))) (hin : vp_in i n) (hw : vp_nar .byte v = w) (d : decode md.2.1 pc = .ok (.bastore, 1)) (hq : pc + 1 = q) (k : G x E md nc ns q lv st (putI M c i.toNatClampNeg w)) : G x E md nc ns pc lv (.int v :: .int i :: .ref (eA E c) :: st) M := by
  obtain ⟨p, l, e, R, s, m, args, below, meth, co, Z⟩ := x; intro hK H locs ls hP hS hl; subst hq; subst hw
  refine va_bast hK.1 hK.2.1 hK.2.2.2.2.2.1 hP (hK.2.2.2.2.2.2.2.1.D M) hS c 0 (parr_at h (by decide)) rfl hin d (fun H1 locs1 hP1 hD1 hS1 => ?_)
  rw [parr_set h (by decide)] at hP1
  exact k hK H1 locs1 ls hP1 hS1 hl
theorem g_zast {c n : Nat} {i v w : Int32} (h : shL[c]? = some (.inl (3, n))) (hin : vp_in i n) (hw : vp_nar .boolean v = w) (d : decode md.2.1 pc = .ok (.bastore, 1)) (hq : pc + 1 = q) (k : G x E md nc ns q lv st (putI M c i.toNatClampNeg w)) : G x E md nc ns pc lv (.int v :: .int i :: .ref (eA E c) :: st) M := by
  obtain ⟨p, l, e, R, s, m, args, below, meth, co, Z⟩ := x; intro hK H locs ls hP hS hl; subst hq; subst hw
  refine va_zast hK.1 hK.2.1 hK.2.2.2.2.2.1 hP (hK.2.2.2.2.2.2.2.1.D M) hS c 3 (parr_at h (by decide)) rfl hin d (fun H1 locs1 hP1 hD1 hS1 => ?_)
  rw [parr_set h (by decide)] at hP1
  exact k hK H1 locs1 ls hP1 hS1 hl
theorem g_last {c n : Nat} {i : Int32} {v : Int64} (h : shL[c]? = some (.inl (2, n))) (hin : vp_in i n) (d : decode md.2.1 pc = .ok (.lastore, 1)) (hq : pc + 1 = q) (k : G x E md nc ns q lv st (putL M c i.toNatClampNeg v)) : G x E md nc ns pc lv (.long v :: .int i :: .ref (eA E c) :: st) M := by
  obtain ⟨p, l, e, R, s, m, args, below, meth, co, Z⟩ := x; intro hK H locs ls hP hS hl; subst hq
  refine va_last hK.1 hK.2.1 hK.2.2.2.2.2.1 hP (hK.2.2.2.2.2.2.2.1.D M) hS c 2 (parr_atL h) rfl hin d (fun H1 locs1 hP1 hD1 hS1 => ?_)
  rw [parr_setL h] at hP1
  exact k hK H1 locs1 ls hP1 hS1 hl
theorem g_alen {c t n : Nat} {v : Int32} (h : shL[c]? = some (.inl (t, n))) (ht : t < 4) (hv : Int32.ofNat n = v) (d : decode md.2.1 pc = .ok (.arraylength, 1)) (hq : pc + 1 = q) (k : G x E md nc ns q lv (.int v :: st) M) : G x E md nc ns pc lv (.ref (eA E c) :: st) M := by
  obtain ⟨p, l, e, R, s, m, args, below, meth, co, Z⟩ := x; intro hK H locs ls hP hS hl; subst hq
  rcases (show t = 0 ∨ t = 1 ∨ t = 2 ∨ t = 3 by omega) with rfl | rfl | rfl | rfl
  · exact va_alen hK.1 hK.2.1 hK.2.2.2.2.2.1 hP c 0 (parr_at h (by decide)) rfl hv d (k hK H locs ls hP hS hl)
  · exact va_alen hK.1 hK.2.1 hK.2.2.2.2.2.1 hP c 1 (parr_at h (by decide)) rfl hv d (k hK H locs ls hP hS hl)
  · exact va_alen hK.1 hK.2.1 hK.2.2.2.2.2.1 hP c 2 (parr_atL h) rfl hv d (k hK H locs ls hP hS hl)
  · exact va_alen hK.1 hK.2.1 hK.2.2.2.2.2.1 hP c 3 (parr_at h (by decide)) rfl hv d (k hK H locs ls hP hS hl)
theorem g_wid {idx : Nat} (hw : Cond.fieldLink md.1 idx "ShipVoices$Telling" "WIDTHS" "[I" ∈ GW) (d : decode md.2.1 pc = .ok (.getstatic idx, 3)) (hq : pc + 3 = q) (k : G x E md nc ns q lv (.ref (eW E) :: st) M) : G x E md nc ns pc lv st M := by
  obtain ⟨p, l, e, R, s, m, args, below, meth, co, Z⟩ := x; intro hK H locs ls hP hS hl; subst hq
  exact va_gets hK.1 hK.2.1 hK.2.2.2.2.2.2.1.1 hS hK.2.2.2.1 (hK.2.2.2.2.1 _ hw) (fun _ h => h) d (k hK H locs ls hP hS hl)
theorem g_widlen (d : decode md.2.1 pc = .ok (.arraylength, 1)) (hq : pc + 1 = q) (k : G x E md nc ns q lv (.int 20 :: st) M) : G x E md nc ns pc lv (.ref (eW E) :: st) M := by
  obtain ⟨p, l, e, R, s, m, args, below, meth, co, Z⟩ := x; intro hK H locs ls hP hS hl; subst hq
  exact va_tlen hK.1 hK.2.1 hK.2.2.2.2.2.2.1.2.1 hS rfl d (k hK H locs ls hP hS hl)
theorem g_widld {i : Int32} (hin : vp_in i 20) (d : decode md.2.1 pc = .ok (.iaload, 1)) (hq : pc + 1 = q) (k : G x E md nc ns q lv (.int (wid i.toNatClampNeg) :: st) M) : G x E md nc ns pc lv (.int i :: .ref (eW E) :: st) M := by
  obtain ⟨p, l, e, R, s, m, args, below, meth, co, Z⟩ := x; intro hK H locs ls hP hS hl; subst hq
  exact va_ti hK.1 hK.2.1 hK.2.2.2.2.2.2.1.2.1 hS hin rfl d (k hK H locs ls hP hS hl)
end Rows
