/-! constructors: the world grows -/
def nestI : List (String × Nat × MethodName × String) := [("ShipVoices", 9, ⟨"ShipVoices$Tape", "<init>", "()V"⟩, "ShipVoices"), ("ShipVoices", 18, ⟨"ShipVoices$Ear", "<init>", "()V"⟩, "ShipVoices"), ("ShipVoices", 28, ⟨"ShipVoices$Telling", "<init>", "()V"⟩, "ShipVoices"), ("ShipVoices", 35, ⟨"ShipVoices$Sender", "<init>", "()V"⟩, "ShipVoices"), ("ShipVoices", 42, ⟨"ShipVoices$Log", "<init>", "()V"⟩, "ShipVoices"), ("ShipVoices", 49, ⟨"ShipVoices$ClashBook", "<init>", "()V"⟩, "ShipVoices"), ("ShipVoices", 56, ⟨"ShipVoices$TextBook", "<init>", "()V"⟩, "ShipVoices"), ("ShipVoices", 63, ⟨"ShipVoices$Parting", "<init>", "()V"⟩, "ShipVoices"), ("ShipVoices$Parting", 11, ⟨"ShipVoices$Matching", "<init>", "()V"⟩, "ShipVoices"), ("ShipVoices", 70, ⟨"ShipVoices$Meeting", "<init>", "()V"⟩, "ShipVoices")]
def KI (p : Program) (R : Room) (s : State) (m : MethodId) (args : Array Value) (meth : Method) (c : Code) (D : va_G) (tys : List (ClassId × FieldType)) (A : Nat → Prop) (md : MD) : Prop :=
  p.tables.exec = Jvm.exec ∧ c.code = md.2.1 ∧ c.maxLocals = md.2.2.1 ∧ s.vm.findClass md.1 = some m.cls ∧ (∀ w ∈ GW, w.before args s = true) ∧ va_K D vwCl tys s ∧ (∀ q ∈ nestI, va_Nw (.methodLinkNest q.1 q.2.1 q.2.2.1 q.2.2.2) s) ∧ meth.sig.returnType = md.2.2.2.1 ∧ meth.locks = false ∧ R = md.2.2.2.2 ∧ ∀ q : Nat, s.heap.size ≤ q → A q
def GI (x : GX) (D : va_G) (tys : List (ClassId × FieldType)) (A : Nat → Prop) (md : MD) (nc ns pc : Nat) (lv : List (Nat × Value)) (st : List Value) (ws : va_W) : Prop :=
  match x with
  | (p, l, e, R, s, m, args, below, meth, c, Z) => KI p R s m args meth c D tys A md → ∀ (H : Heap) (locs : List Loc) (ls : Array Slot), va_P D vwCl ws H → va_D A ws → va_S A s.heap H locs → lv_has ls md.2.2.1 lv → W p l e R s m args below meth c H locs nc ns Z (F0 m pc ls st)
def NI (x : GX) : Prop := match x with
  | (_, _, _, _, _, _, _, _, meth, _, _) => meth.name = "<init>"
/-- what a constructor starts from: the object with its fields' defaults -/
def PreI (D : va_G) (tys : List (ClassId × FieldType)) (h0 ci : Nat) (df : List Value) (sz : Nat) (U : State) : Prop :=
  U.heap.size = sz ∧ va_P D vwCl [(h0, .inr (ci, df))] U.heap ∧ va_K D vwCl tys U ∧ ∀ q ∈ nestI, va_Nw (.methodLinkNest q.1 q.2.1 q.2.2.1 q.2.2.2) U
def CK (y : MethodName) (cc : ByteArray) (nL : Nat) (rm : Room) (D : va_G) (tys : List (ClassId × FieldType)) (ci : Nat) (df : List Value) (wf : Nat → List Nat → va_W) (mc ms : Nat) : Prop :=
  ∀ (l : Launch) (h0 sz : Nat), Met l y (.code y cc nL none :: GW) rm (va_Pc [.ref h0] (PreI D tys h0 ci df sz)) (va_Qv (fun _ : List Nat => True) (fun u t => va_P D vwCl (wf h0 u) t.heap ∧ va_D (va_A [(h0, .inr (ci, df))] sz) (wf h0 u)) (va_A [(h0, .inr (ci, df))] sz)) mc ms (va_A [(h0, .inr (ci, df))] sz)
def ZC (x : GX) (D : va_G) (A : Nat → Prop) (h0 : Nat) (wf : Nat → List Nat → va_W) (mc ms : Nat) : Prop := match x with
  | (_, _, _, _, s, _, args, below, _, _, Z) => Z = MQ below (va_Qv (fun _ : List Nat => True) (fun u t => va_P D vwCl (wf h0 u) t.heap ∧ va_D A (wf h0 u)) A) args s mc ms A
theorem CK.of {y : MethodName} {cc : ByteArray} {nL : Nat} {rm : Room} {D : va_G} {tys : List (ClassId × FieldType)} {ci : Nat} {df : List Value} {wf : Nat → List Nat → va_W} {mc ms : Nat} (hy : plainName y.cls = true) (hn : y.name = "<init>") (hlen : 1 ≤ nL)
    (body : ∀ (x : GX) (A : Nat → Prop) (h0 : Nat), NI x → ZC x D A h0 wf mc ms → GI x D tys A (y.cls, cc, nL, none, rm) 0 0 0 [(0, .ref h0)] [] [(h0, .inr (ci, df))]) : CK y cc nL rm D tys ci df wf mc ms := by
  intro l h0 sz
  refine Met.ofW (cc := cc) (maxL := nL) (ret := none) hy rfl ?_
  intro p e s m args below meth c s₁ B hml hv
  obtain ⟨rfl, hsz, hP, hK, hN⟩ := hv
  subst hsz
  rw [lg_entry_eq]
  have hname : meth.name = "<init>" := (name_of_methodNamed B.named B.method).1.trans hn
  exact body (p, l, e, rm, s, m, _, below, meth, c, MQ below (va_Qv (fun _ : List Nat => True) (fun u t => va_P D vwCl (wf h0 u) t.heap ∧ va_D (va_A [(h0, .inr (ci, df))] s.heap.size) (wf h0 u)) (va_A [(h0, .inr (ci, df))] s.heap.size)) _ s mc ms (va_A [(h0, .inr (ci, df))] s.heap.size)) (va_A [(h0, .inr (ci, df))] s.heap.size) h0 hname rfl
    ⟨B.exec, B.bytes, hml, findClass_of_methodNamed B.named, fun w h => atoms_spec (ws := .code y cc nL none :: GW) B.pre w (List.mem_cons_of_mem _ h), hK, hN, B.returns, B.notSynchronized, rfl, fun q h => Or.inr h⟩ s.heap [] _ hP
    ⟨fun i j a b ha hb _ => by
      rcases i with _ | i
      · rcases j with _ | j
        · rfl
        · simp at hb
      · simp at ha, fun k q hk => by
      rcases k with _ | k
      · cases (Option.some.inj hk)
        exact Or.inl ⟨0, _, rfl⟩
      · simp at hk⟩ va_S.rf (lv_entry [.ref h0] hlen)
section InitRows
variable {x : GX} {D : va_G} {tys : List (ClassId × FieldType)} {A : Nat → Prop} {md : MD} {nc ns pc q : Nat} {lv lv' : List (Nat × Value)} {st : List Value} {ws : va_W}
theorem gi_aloadn {n : Fin 4} {i k0 : Nat} {v : Nat} (d : decode md.2.1 pc = .ok (.aload_n n, 1)) (hi : (n : Nat) = i) (h : lv[k0]? = some (i, .ref v)) (hq : pc + 1 = q) (k : GI x D tys A md nc ns q lv (.ref v :: st) ws) : GI x D tys A md nc ns pc lv st ws := by
  obtain ⟨p, l, e, R, s, m, args, below, meth, c, Z⟩ := x; intro hK H locs ls hP hD hS hl; subst hq; exact lv_aload_n hK.1 hK.2.1 d hi (lv_at hl k0 h) (k hK H locs ls hP hD hS hl)
theorem gi_iconst {n : Int} {v : Int32} (d : decode md.2.1 pc = .ok (.iconst n, 1)) (hv : Int32.ofInt n = v) (hq : pc + 1 = q) (k : GI x D tys A md nc ns q lv (.int v :: st) ws) : GI x D tys A md nc ns pc lv st ws := by
  obtain ⟨p, l, e, R, s, m, args, below, meth, c, Z⟩ := x; intro hK H locs ls hP hD hS hl; subst hq; exact lv_iconst hK.1 hK.2.1 d hv (k hK H locs ls hP hD hS hl)
theorem gi_bipush {n : Int} {v : Int32} (d : decode md.2.1 pc = .ok (.bipush n, 2)) (hv : (Int8.ofInt n).toInt32 = v) (hq : pc + 2 = q) (k : GI x D tys A md nc ns q lv (.int v :: st) ws) : GI x D tys A md nc ns pc lv st ws := by
  obtain ⟨p, l, e, R, s, m, args, below, meth, c, Z⟩ := x; intro hK H locs ls hP hD hS hl; subst hq; exact lv_bipush hK.1 hK.2.1 d hv (k hK H locs ls hP hD hS hl)
theorem gi_sipush {n : Int} {v : Int32} (d : decode md.2.1 pc = .ok (.sipush n, 3)) (hv : (Int16.ofInt n).toInt32 = v) (hq : pc + 3 = q) (k : GI x D tys A md nc ns q lv (.int v :: st) ws) : GI x D tys A md nc ns pc lv st ws := by
  obtain ⟨p, l, e, R, s, m, args, below, meth, c, Z⟩ := x; intro hK H locs ls hP hD hS hl; subst hq; exact lv_sipush hK.1 hK.2.1 d hv (k hK H locs ls hP hD hS hl)
theorem gi_lconst {n : Fin 2} {v : Int64} (d : decode md.2.1 pc = .ok (.lconst n, 1)) (hv : Int64.ofNat (n : Nat) = v) (hq : pc + 1 = q) (k : GI x D tys A md nc ns q lv (.long v :: st) ws) : GI x D tys A md nc ns pc lv st ws := by
  obtain ⟨p, l, e, R, s, m, args, below, meth, c, Z⟩ := x; intro hK H locs ls hP hD hS hl; subst hq; exact lv_lconst hK.1 hK.2.1 d hv (k hK H locs ls hP hD hS hl)
theorem gi_ldc {idx : Nat} {v : Int32} (d : decode md.2.1 pc = .ok (.ldc idx, 2)) (hw : Cond.constant md.1 idx v ∈ GW) (hq : pc + 2 = q) (k : GI x D tys A md nc ns q lv (.int v :: st) ws) : GI x D tys A md nc ns pc lv st ws := by
  obtain ⟨p, l, e, R, s, m, args, below, meth, c, Z⟩ := x; intro hK H locs ls hP hD hS hl; subst hq; exact lv_ldc hK.1 hK.2.1 hK.2.2.2.1 (hK.2.2.2.2.1 _ hw) d (k hK H locs ls hP hD hS hl)
theorem gi_dup {va : Value} (d : decode md.2.1 pc = .ok (.dup, 1)) (hva : va.category = 1) (hq : pc + 1 = q) (k : GI x D tys A md nc ns q lv (va :: va :: st) ws) : GI x D tys A md nc ns pc lv (va :: st) ws := by
  obtain ⟨p, l, e, R, s, m, args, below, meth, c, Z⟩ := x; intro hK H locs ls hP hD hS hl; subst hq; exact lv_dup hK.1 hK.2.1 d hva (k hK H locs ls hP hD hS hl)
theorem gi_istore {i : Nat} {v : Int32} (ks : List Nat) (d : decode md.2.1 pc = .ok (.istore i, 2)) (hn : i < md.2.2.1) (hl' : lv_pick (stI lv i (.int v)) ks = lv') (hq : pc + 2 = q) (k : GI x D tys A md nc ns q lv' st ws) : GI x D tys A md nc ns pc lv (.int v :: st) ws := by
  obtain ⟨p, l, e, R, s, m, args, below, meth, c, Z⟩ := x; intro hK H locs ls hP hD hS hl; subst hq; exact lv_istore hK.1 hK.2.1 d hl hn rfl (fun ls hl => k hK H locs ls hP hD hS (lv_sub hl ks hl'))
theorem gi_astoren {n : Fin 4} {i : Nat} {v : Nat} (ks : List Nat) (d : decode md.2.1 pc = .ok (.astore_n n, 1)) (hi : (n : Nat) = i) (hn : i < md.2.2.1) (hl' : lv_pick (stI lv i (.ref v)) ks = lv') (hq : pc + 1 = q) (k : GI x D tys A md nc ns q lv' st ws) : GI x D tys A md nc ns pc lv (.ref v :: st) ws := by
  obtain ⟨p, l, e, R, s, m, args, below, meth, c, Z⟩ := x; intro hK H locs ls hP hD hS hl; subst hq; exact lv_astore_n hK.1 hK.2.1 d hi hl hn rfl (fun ls hl => k hK H locs ls hP hD hS (lv_sub hl ks hl'))
theorem gi_obj {idx a : Nat} (hw : Cond.methodLink md.1 idx Lib.objectInit ∈ GW) (hw2 : Cond.instanceMethod Lib.objectInit ∈ GW) (hw3 : Cond.code Lib.objectInit ⟨#[0xb1]⟩ 1 none ∈ GW) (hR : 1 ≤ md.2.2.2.2.frames ∧ (st.map fun v => v.category).sum + 12 ≤ md.2.2.2.2.locals) (d : decode md.2.1 pc = .ok (.invokespecial idx, 3)) (hq : pc + 3 = q) (k : GI x D tys A md nc ns q lv st ws) : GI x D tys A md nc ns pc lv (.ref a :: st) ws := by
  obtain ⟨p, l, e, R, s, m, args, below, meth, c, Z⟩ := x; intro hK H locs ls hP hD hS hl; subst hq
  obtain ⟨hx, hb, hml, hown, hts, hKK, hN, hr, hlk, hRR, hA⟩ := id hK
  subst hRR
  refine W.objInit hx hb hown (hts _ hw) (hts _ hw2) (hts _ hw3) rfl (by rw [hml]; exact hl.1) rfl d hR.1 (by show 2 * 0 + _ + _ ≤ _; have := hR.2; omega) ?_
  exact W.eq (g2 := F0 m (pc + 3) ls st) rfl (k hK H locs ls hP hD hS hl)
theorem gi_newa {atype : ArrayType} {ty : FieldType} {n : Int32} {N' t : Nat} {cA : ClassId} {a0 : vp_A} (hw : Cond.arrayClass (newarray.typeOf atype) ∈ GW) (hty : newarray.typeOf atype = ty) (ht : tys[t]? = some (cA, ty)) (hra : ∀ (U : State) (c : ClassId), va_RA U c ty → U.vm.findClass ("[" ++ ty.toString) = some c)
    (ha : ∀ cA : ClassId, vp_cell cA a0 = arrV cA N' (fun _ => defaultValue ty)) (hn : ¬ n < 0) (hN : n.toNatClampNeg = N') (hbytes : N' * componentBytes ty ≤ 536870912) (hcells : nc + 1 ≤ md.2.2.2.2.cells) (hslots : ns + N' ≤ md.2.2.2.2.slots) (d : decode md.2.1 pc = .ok (.newarray atype, 2)) (hq : pc + 2 = q)
    (k : ∀ qa : Nat, GI x D tys A md (nc + 1) (ns + N') q lv (.ref qa :: st) (ws ++ [(qa, .inl (cA, a0))])) : GI x D tys A md nc ns pc lv (.int n :: st) ws := by
  obtain ⟨p, l, e, R, s, m, args, below, meth, c, Z⟩ := x; intro hK H locs ls hP hD hS hl; subst hq
  obtain ⟨hx, hb, hml, hown, hts, hKK, hNn, hr, hlk, hRR, hA⟩ := id hK
  subst hRR
  refine va_newa hx hb (hts _ hw) hty hKK hP hD hS hA ha hn hN hbytes hcells hslots d (fun qa cA' H1 hK1 hP1 hD1 hS1 => ?_)
  have e1 : cA' = cA := by
    have h1 := hra s cA' (hK1.2 tys.length (cA', ty) (by simp)).2
    have h2 := hra s cA (hKK.2 t _ ht).2
    exact Option.some.inj (h1.symm.trans h2)
  subst e1
  exact k qa hK H1 locs ls hP1 hD1 hS1 hl
theorem gi_new {idx ci N : Nat} {C : String} {T : u_T} {fs : List Value} (ty : Nat → FieldType) (hty : ∀ k, k < N → parseFieldDescriptor (T k).2.2.1 = some (ty k)) (hin : ∀ w ∈ u_ws C T N, w ∈ GW) (hc : vwCl[ci]? = some (C, T, N)) (w1 : Cond.classLink md.1 idx C ∈ GW) (w2 : Cond.instantiable C N ∈ GW) (w3 : Cond.initialized C ∈ GW)
    (hfs : ∀ j, j < N → defaultValue (ty j) = vp_V fs j) (hcells : nc + 1 ≤ md.2.2.2.2.cells) (hslots : ns + N ≤ md.2.2.2.2.slots) (d : decode md.2.1 pc = .ok (.new idx, 3)) (hq : pc + 3 = q)
    (k : ∀ qa : Nat, GI x D tys A md (nc + 1) (ns + N) q lv (.ref qa :: st) (ws ++ [(qa, .inr (ci, fs))])) : GI x D tys A md nc ns pc lv st ws := by
  obtain ⟨p, l, e, R, s, m, args, below, meth, c, Z⟩ := x; intro hK H locs ls hP hD hS hl; subst hq
  obtain ⟨hx, hb, hml, hown, hts, hKK, hNn, hr, hlk, hRR, hA⟩ := id hK
  subst hRR
  exact va_new hx hb hts hin ty hty hown (hts _ w1) (hts _ w2) (hts _ w3) hKK hP hD hS hA hc hfs hcells hslots d (fun qa H1 hP1 hD1 hS1 => k qa hK H1 locs ls hP1 hD1 hS1 hl)
theorem gi_put {idx ci kf N q0 a : Nat} {C : String} {T : u_T} {fs : List Value} {v : Value} {ty : FieldType} {ws' : va_W} (ty0 : Nat → FieldType) (hty : ∀ k, k < N → parseFieldDescriptor (T k).2.2.1 = some (ty0 k)) (hnm : ∀ a, a < N → ∀ b, b < N → a ≠ b → (T a).2.1 ≠ (T b).2.1) (hin : ∀ w ∈ u_ws C T N, w ∈ GW) (hc : vwCl[ci]? = some (C, T, N)) (he : ws[q0]? = some (a, .inr (ci, fs))) (hk : kf < N)
    (w1 : Cond.fieldLink md.1 idx (T kf).1 (T kf).2.1 (T kf).2.2.1 ∈ GW) (hni : NI x) (hdecl : (T kf).1 = md.1) (hd : parseFieldDescriptor (T kf).2.2.1 = some ty) (hn : narrow ty v = v) (hfit : fits ty v = true) (hlen : kf < fs.length) (d : decode md.2.1 pc = .ok (.putfield idx, 3)) (hq : pc + 3 = q) (hw : ws.set q0 (a, .inr (ci, fs.set kf v)) = ws')
    (k : GI x D tys A md nc ns q lv st ws') : GI x D tys A md nc ns pc lv (v :: .ref a :: st) ws := by
  obtain ⟨p, l, e, R, s, m, args, below, meth, c, Z⟩ := x; intro hK H locs ls hP hD hS hl; subst hq
  obtain ⟨hx, hb, hml, hown, hts, hKK, hNn, hr, hlk, hRR, hA⟩ := id hK
  subst hw
  cases hf : (T kf).2.2.2 with
  | false => exact va_put hx hb hts hin ty0 hty hnm hown hKK hP hD hS q0 he hc kf hk (hts _ w1) (fun _ h => h) hf hd hn hfit hlen d (fun H1 locs1 hP1 hD1 hS1 => k hK H1 locs1 ls hP1 hD1 hS1 hl)
  | true => exact va_putF hx hb hts hin ty0 hty hnm hown hKK hP hD hS q0 he hc kf hk (hts _ w1) (fun _ h => h) hf hni hdecl hd hn hfit hlen d (fun H1 locs1 hP1 hD1 hS1 => k hK H1 locs1 ls hP1 hD1 hS1 hl)
theorem gi_iast {q0 t0 a n : Nat} {cA : ClassId} {f : Nat → Int32} {i v : Int32} {ws' : va_W} (he : ws[q0]? = some (a, .inl (cA, n, .inl f))) (ht : tys[t0]? = some (cA, .int)) (hin : vp_in i n) (d : decode md.2.1 pc = .ok (.iastore, 1)) (hq : pc + 1 = q) (hw : ws.set q0 (a, .inl (cA, n, .inl (upd f i.toNatClampNeg v))) = ws') (k : GI x D tys A md nc ns q lv st ws') : GI x D tys A md nc ns pc lv (.int v :: .int i :: .ref a :: st) ws := by
  obtain ⟨p, l, e, R, s, m, args, below, meth, c, Z⟩ := x; intro hK H locs ls hP hD hS hl; subst hq; subst hw
  exact va_iast hK.1 hK.2.1 hK.2.2.2.2.2.1 hP hD hS q0 t0 he ht hin d (fun H1 locs1 hP1 hD1 hS1 => k hK H1 locs1 ls hP1 hD1 hS1 hl)
theorem preI_blind {h0 ci sz : Nat} {df : List Value} : FrameBlind (va_Pc [.ref h0] (PreI D tys h0 ci df sz)) := fun a U g mk h => ⟨h.1, h.2.1, h.2.2.1, va_K.moved (u := U) (U := U.calling g mk a) (Vm.Alike.refl U.vm) h.2.2.2.1, fun q hq => (h.2.2.2.2 q hq).same rfl rfl⟩
/-- a constructor of a nest mate, called on the object just made (the last of the world) -/
theorem gi_callN {idx ci nL mc ms h0 : Nat} {y : MethodName} {host : String} {cc : ByteArray} {rm : Room} {df : List Value} {wf : Nat → List Nat → va_W} {wr : va_W} (isR : List Nat) (hC : CK y cc nL rm D tys ci df wf mc ms) (hws : ws = wr ++ [(h0, .inr (ci, df))])
    (w1 : (md.1, idx, y, host) ∈ nestI) (w2 : Cond.instanceMethod y ∈ GW) (w3 : Cond.initialized y.cls ∈ GW) (w4 : Cond.code y cc nL none ∈ GW) (hd : (y.cls ≠ "java/lang/invoke/MethodHandle" ∧ y.cls ≠ "java/lang/invoke/VarHandle") ∧ (parseMethodDescriptor y.desc).map (fun d => d.parameters.length) = some 0 ∧ y.name = "<init>")
    (hR : rm.cells = mc ∧ rm.slots = ms ∧ rm.frames + 1 ≤ md.2.2.2.2.frames ∧ 8 + (nL + 11) + rm.locals ≤ md.2.2.2.2.locals ∧ nc + mc ≤ md.2.2.2.2.cells ∧ ns + ms ≤ md.2.2.2.2.slots) (hrest : (st.map fun v => v.category).sum ≤ 8)
    (hisC : [wr.length].map (fun i => ws[i]?) = [(h0, (.inr (ci, df) : va_E))].map some) (hisR : isR.map (fun i => ws[i]?) = wr.map some) (hnd : va_nd isR = true) (hdis : ∀ i ∈ isR, i ∉ [wr.length]) (d : decode md.2.1 pc = .ok (.invokespecial idx, 3)) (hq : pc + 3 = q)
    (k : ∀ u : List Nat, GI x D tys A md (nc + mc) (ns + ms) q lv st (wr ++ wf h0 u)) : GI x D tys A md nc ns pc lv (.ref h0 :: st) ws := by
  obtain ⟨p, l, e, R, s, m, args, below, meth, c, Z⟩ := x; intro hK H locs ls hP hD hS hl; subst hq
  obtain ⟨hx, hb, hml, hown, hts, hKK, hNn, hr, hlk, hRR, hA⟩ := id hK
  subst hRR
  have hPc : va_P D vwCl [(h0, .inr (ci, df))] H := fun k9 q9 h9 => by
    rcases k9 with _ | k9
    · have h8 : [(h0, (.inr (ci, df) : va_E))][0]? = some q9 := h9
      have h7 : ws[wr.length]? = some q9 := by
        have h6 : ws[wr.length]? = some (h0, .inr (ci, df)) := by simpa using hisC
        rw [h6]; exact h8
      exact hP _ _ h7
    · simp at h9
  have hFc := va_free (wc := [(h0, .inr (ci, df))]) hD hS hA [wr.length] hisC
  refine va_callv (va_runIN (As := []) ⟨hx, hb, hml, hown, hts⟩ (hC l h0 H.size) ⟨⟨⟨hR.1, hR.2.1, hR.2.2.1, hR.2.2.2.1, hws_of hts w4, List.mem_cons_self⟩, hts _ w4, hts _ w3, hd.1, sig_n hd.2.1, va_Nw.use rfl (hNn _ w1)⟩, hd.2.2, hts _ w2⟩ ⟨preI_blind, fun U hU hW => ⟨rfl, by rw [hU], by rw [hU]; exact hPc, va_K.moved hW.alike hKK, fun q hq => (hNn q hq).warmM hW⟩⟩ rfl rfl hl.1 rfl (lv_room hrest) d ⟨hR.2.2.2.2.1, hR.2.2.2.2.2⟩) hS (fun q _ h => hFc q h) hFc (fun u t H1 locs1 ht hvm hp hB hz1 hk1 hS1 => ?_)
  obtain ⟨hP1, hD1⟩ := hB
  rw [ht] at hP1
  obtain ⟨hP2, hD2⟩ := va_join (wr := wr) hP hD [wr.length] isR hisC hisR hnd hdis hk1 hFc hP1 hD1
  exact k u hK H1 locs1 ls hP2 hD2 hS1 hl
/-- a public constructor -/
theorem gi_callI {idx ci nL mc ms h0 : Nat} {y : MethodName} {cc : ByteArray} {rm : Room} {df : List Value} {wf : Nat → List Nat → va_W} {wr : va_W} (isR : List Nat) (hC : CK y cc nL rm D tys ci df wf mc ms) (hws : ws = wr ++ [(h0, .inr (ci, df))])
    (w1 : Cond.methodLink md.1 idx y ∈ GW) (w2 : Cond.instanceMethod y ∈ GW) (w3 : Cond.initialized y.cls ∈ GW) (w4 : Cond.code y cc nL none ∈ GW) (hd : (y.cls ≠ "java/lang/invoke/MethodHandle" ∧ y.cls ≠ "java/lang/invoke/VarHandle") ∧ (parseMethodDescriptor y.desc).map (fun d => d.parameters.length) = some 0 ∧ y.name = "<init>")
    (hR : rm.cells = mc ∧ rm.slots = ms ∧ rm.frames + 1 ≤ md.2.2.2.2.frames ∧ 8 + (nL + 11) + rm.locals ≤ md.2.2.2.2.locals ∧ nc + mc ≤ md.2.2.2.2.cells ∧ ns + ms ≤ md.2.2.2.2.slots) (hrest : (st.map fun v => v.category).sum ≤ 8)
    (hisC : [wr.length].map (fun i => ws[i]?) = [(h0, (.inr (ci, df) : va_E))].map some) (hisR : isR.map (fun i => ws[i]?) = wr.map some) (hnd : va_nd isR = true) (hdis : ∀ i ∈ isR, i ∉ [wr.length]) (d : decode md.2.1 pc = .ok (.invokespecial idx, 3)) (hq : pc + 3 = q)
    (k : ∀ u : List Nat, GI x D tys A md (nc + mc) (ns + ms) q lv st (wr ++ wf h0 u)) : GI x D tys A md nc ns pc lv (.ref h0 :: st) ws := by
  obtain ⟨p, l, e, R, s, m, args, below, meth, c, Z⟩ := x; intro hK H locs ls hP hD hS hl; subst hq
  obtain ⟨hx, hb, hml, hown, hts, hKK, hNn, hr, hlk, hRR, hA⟩ := id hK
  subst hRR
  have hPc : va_P D vwCl [(h0, .inr (ci, df))] H := fun k9 q9 h9 => by
    rcases k9 with _ | k9
    · have h8 : [(h0, (.inr (ci, df) : va_E))][0]? = some q9 := h9
      have h7 : ws[wr.length]? = some q9 := by
        have h6 : ws[wr.length]? = some (h0, .inr (ci, df)) := by simpa using hisC
        rw [h6]; exact h8
      exact hP _ _ h7
    · simp at h9
  have hFc := va_free (wc := [(h0, .inr (ci, df))]) hD hS hA [wr.length] hisC
  refine va_callv (va_runI (As := []) ⟨hx, hb, hml, hown, hts⟩ (hC l h0 H.size) ⟨⟨hR.1, hR.2.1, hR.2.2.1, hR.2.2.2.1, hws_of hts w4, List.mem_cons_self, hts _ w4, hts _ w3, hd.1, sig_n hd.2.1, hts _ w1⟩, hd.2.2, hts _ w2⟩ ⟨preI_blind, fun U hU hW => ⟨rfl, by rw [hU], by rw [hU]; exact hPc, va_K.moved hW.alike hKK, fun q hq => (hNn q hq).warmM hW⟩⟩ rfl rfl hl.1 rfl (lv_room hrest) d ⟨hR.2.2.2.2.1, hR.2.2.2.2.2⟩) hS (fun q _ h => hFc q h) hFc (fun u t H1 locs1 ht hvm hp hB hz1 hk1 hS1 => ?_)
  obtain ⟨hP1, hD1⟩ := hB
  rw [ht] at hP1
  obtain ⟨hP2, hD2⟩ := va_join (wr := wr) hP hD [wr.length] isR hisC hisR hnd hdis hk1 hFc hP1 hD1
  exact k u hK H1 locs1 ls hP2 hD2 hS1 hl
theorem gi_ret {h0 : Nat} {wf : Nat → List Nat → va_W} (u : List Nat) (hz : ZC x D A h0 wf nc ns) (hr : md.2.2.2.1 = none) (d : decode md.2.1 pc = .ok (.return_, 1)) (hw : ws = wf h0 u) : GI x D tys A md nc ns pc lv [] ws := by
  obtain ⟨p, l, e, R, s, m, args, below, meth, c, Z⟩ := x; intro hK H locs ls hP hD hS hl
  have hz : Z = _ := hz
  subst hz; subst hw
  exact W.vret hK.1 hK.2.1 (hK.2.2.2.2.2.2.2.1.trans hr) (fun t ht hW => ⟨⟨u, rfl, trivial, by rw [ht]; exact hP, hD⟩, hS.F ht⟩) hS.2.2 d (hlocks := hK.2.2.2.2.2.2.2.2.1)
end InitRows
