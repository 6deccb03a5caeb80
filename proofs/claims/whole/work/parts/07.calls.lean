/-! contracts and calls -/
theorem SF.blind {E : EX} {U : State} {g : JFrame} {mk : MethodId} {a : Array Value} (h : SF E U) : SF E (U.calling g mk a) := by
  obtain ⟨h1, h2, h3, h4, ⟨a5, h5⟩, ⟨a6, h6⟩, ⟨a7, h7⟩, ⟨a8, h8⟩, ⟨a9, h9⟩, h10, h11, h12⟩ := h
  have hv : U.vm.Alike (U.calling g mk a).vm := Vm.Alike.refl U.vm
  exact ⟨h1.moved hv, h2.moved hv, h3.moved hv, h4.moved hv, ⟨a5, h5.same rfl⟩, ⟨a6, h6.same rfl⟩, ⟨a7, h7.same rfl⟩, ⟨a8, h8.same rfl⟩, ⟨a9, h9.same rfl⟩, fun q hq => (h10 q hq).same rfl rfl, fun q hq => (h11 q hq).same rfl rfl, fun q hq => (h12 q hq).same rfl rfl⟩
theorem SF.at {E : EX} {s U : State} {locs : List Loc} (h : SF E s) (hW : s.WarmedH U.vm) (hS : va_S (AE E) s.heap U.heap locs) : SF E U := by
  obtain ⟨h1, h2, h3, h4, ⟨a5, h5⟩, ⟨a6, h6⟩, ⟨a7, h7⟩, ⟨a8, h8⟩, ⟨a9, h9⟩, h10, h11, h12⟩ := h
  have hv := hW.alike
  exact ⟨(h1.kept hS.2.1).moved hv, (h2.kept hS.2.1).moved hv, (h3.kept hS.2.1).moved hv, (h4.kept hS.2.1).moved hv, ⟨a5, h5.warm hW⟩, ⟨a6, h6.warm hW⟩, ⟨a7, h7.warm hW⟩, ⟨a8, h8.warm hW⟩, ⟨a9, h9.warm hW⟩, fun q hq => (h10 q hq).warmM hW, fun q hq => (h11 q hq).warmD hW, fun q hq => (h12 q hq).warmC hW⟩
def PreW (E : EX) (M : Mem) (U : State) : Prop := va_P (eD E) vwCl (pic E M) U.heap ∧ va_K (eD E) vwCl (tysE E) U ∧ SF E U
def PostW (E : EX) (M : Mem) (t : State) : Prop := va_P (eD E) vwCl (pic E M) t.heap
def nb (r : Int32) : Prop := narrow .boolean (.int r) = .int r
def CI (y : MethodName) (cc : ByteArray) (nL : Nat) (ret : Option FieldType) (rm : Room) (E : EX) (av : List Value) (M : Mem) (Q : Int32 → Mem → Prop) : Prop :=
  ∀ l : Launch, l.stackTraces = false → Met l y (.code y cc nL ret :: GW) rm (va_Pc av (PreW E M)) (va_Qi Q (PostW E) (AE E)) 0 0 (AE E)
def CL (y : MethodName) (cc : ByteArray) (nL : Nat) (ret : Option FieldType) (rm : Room) (E : EX) (av : List Value) (M : Mem) (Q : Int64 → Mem → Prop) : Prop :=
  ∀ l : Launch, l.stackTraces = false → Met l y (.code y cc nL ret :: GW) rm (va_Pc av (PreW E M)) (va_Ql Q (PostW E) (AE E)) 0 0 (AE E)
def CU (y : MethodName) (cc : ByteArray) (nL : Nat) (ret : Option FieldType) (rm : Room) (E : EX) (av : List Value) (M : Mem) (Q : Mem → Prop) : Prop :=
  ∀ l : Launch, l.stackTraces = false → Met l y (.code y cc nL ret :: GW) rm (va_Pc av (PreW E M)) (va_Qv Q (PostW E) (AE E)) 0 0 (AE E)
def ZI (x : GX) (E : EX) (Q : Int32 → Mem → Prop) : Prop := match x with
  | (_, _, _, _, s, _, args, below, _, _, Z) => Z = MQ below (va_Qi Q (PostW E) (AE E)) args s 0 0 (AE E)
def ZL (x : GX) (E : EX) (Q : Int64 → Mem → Prop) : Prop := match x with
  | (_, _, _, _, s, _, args, below, _, _, Z) => Z = MQ below (va_Ql Q (PostW E) (AE E)) args s 0 0 (AE E)
def ZU (x : GX) (E : EX) (Q : Mem → Prop) : Prop := match x with
  | (_, _, _, _, s, _, args, below, _, _, Z) => Z = MQ below (va_Qv Q (PostW E) (AE E)) args s 0 0 (AE E)
theorem sv_ofW {l : Launch} {y : MethodName} {ws ws' : List Cond} {rm : Room} {Pc : Array Value → State → Prop} {Qc : Array Value → State → Outcome → State → Prop} {mc ms : Nat} {free : Addr → Prop} {cc : ByteArray} {maxL : Nat} {ret : Option FieldType}
    (hy : plainFor y = true) (hw : ws = Cond.code y cc maxL ret :: ws')
    (body : ∀ p e s m args below meth c s₁, BodyLoose p l y (headSpec ws rm) cc maxL ret e s m args below meth c s₁ → c.maxLocals = maxL → Pc args s →
      W p l e (headSpec ws rm).room s m args below meth c s.heap [] 0 0 (MQ below Qc args s mc ms free) (entryFrame m args maxL)) : Met l y ws rm Pc Qc mc ms free := by
  refine MetFree.of_bodySF (code := cc) (maxLocals := maxL) (ret := ret) hy ?_ ?_
  · intro args s m h hn
    obtain ⟨meth, c, h1, h2, h3, h4, h5, h6, -, -⟩ := Cond.code_spec hn (atoms_spec (ws := ws) h _ (by rw [hw]; exact List.mem_cons_self))
    exact ⟨meth, c, h1, h2, h3, h4, h5, h6⟩
  · intro p e s m args below meth c s₁ B hml hP _
    have hh0 : s₁.heap = s.heap := by rw [B.state]; rfl
    obtain ⟨t, a1, o, b1, b2, b3⟩ := body p e s m args below meth c s₁ B hml hP s₁ hh0 (Stand.of_body B)
    exact ⟨t, o, a1, b1, b2, ⟨b3.1, b3.2⟩⟩
section Contracts
variable {y : MethodName} {cc : ByteArray} {nL : Nat} {ret : Option FieldType} {rm : Room} {E : EX} {av : List Value} {M : Mem}
theorem CI.of {Q : Int32 → Mem → Prop} (hE : EH E) (hy : plainFor y = true) (hlen : (lg_sl av).length ≤ nL) (body : ∀ x, ZI x E Q → G x E (y.cls, cc, nL, ret, rm) 0 0 0 (lv_args 0 av) [] M) : CI y cc nL ret rm E av M Q := by
  intro l hl
  refine sv_ofW (cc := cc) (maxL := nL) (ret := ret) hy rfl ?_
  intro p e s m args below meth c s₁ B hml hv
  obtain ⟨rfl, hP, hK, hF⟩ := hv
  rw [lg_entry_eq]
  exact body (p, l, e, rm, s, m, _, below, meth, c, MQ below (va_Qi Q (PostW E) (AE E)) _ s 0 0 (AE E)) rfl ⟨B.exec, B.bytes, hml, findClass_of_methodNamed B.named, fun w h => atoms_spec (ws := .code y cc nL ret :: GW) B.pre w (List.mem_cons_of_mem _ h), hK, hF, hE, B.returns, B.notSynchronized, rfl, hl⟩ s.heap [] _ hP va_S.rf (lv_entry av hlen)
theorem CL.of {Q : Int64 → Mem → Prop} (hE : EH E) (hy : plainFor y = true) (hlen : (lg_sl av).length ≤ nL) (body : ∀ x, ZL x E Q → G x E (y.cls, cc, nL, ret, rm) 0 0 0 (lv_args 0 av) [] M) : CL y cc nL ret rm E av M Q := by
  intro l hl
  refine sv_ofW (cc := cc) (maxL := nL) (ret := ret) hy rfl ?_
  intro p e s m args below meth c s₁ B hml hv
  obtain ⟨rfl, hP, hK, hF⟩ := hv
  rw [lg_entry_eq]
  exact body (p, l, e, rm, s, m, _, below, meth, c, MQ below (va_Ql Q (PostW E) (AE E)) _ s 0 0 (AE E)) rfl ⟨B.exec, B.bytes, hml, findClass_of_methodNamed B.named, fun w h => atoms_spec (ws := .code y cc nL ret :: GW) B.pre w (List.mem_cons_of_mem _ h), hK, hF, hE, B.returns, B.notSynchronized, rfl, hl⟩ s.heap [] _ hP va_S.rf (lv_entry av hlen)
theorem CU.of {Q : Mem → Prop} (hE : EH E) (hy : plainFor y = true) (hlen : (lg_sl av).length ≤ nL) (body : ∀ x, ZU x E Q → G x E (y.cls, cc, nL, ret, rm) 0 0 0 (lv_args 0 av) [] M) : CU y cc nL ret rm E av M Q := by
  intro l hl
  refine sv_ofW (cc := cc) (maxL := nL) (ret := ret) hy rfl ?_
  intro p e s m args below meth c s₁ B hml hv
  obtain ⟨rfl, hP, hK, hF⟩ := hv
  rw [lg_entry_eq]
  exact body (p, l, e, rm, s, m, _, below, meth, c, MQ below (va_Qv Q (PostW E) (AE E)) _ s 0 0 (AE E)) rfl ⟨B.exec, B.bytes, hml, findClass_of_methodNamed B.named, fun w h => atoms_spec (ws := .code y cc nL ret :: GW) B.pre w (List.mem_cons_of_mem _ h), hK, hF, hE, B.returns, B.notSynchronized, rfl, hl⟩ s.heap [] _ hP va_S.rf (lv_entry av hlen)
end Contracts
section Rets
variable {x : GX} {E : EX} {md : MD} {pc q : Nat} {lv lv' : List (Nat × Value)} {st : List Value} {M : Mem}
theorem g_iret {Q : Int32 → Mem → Prop} {v : Int32} (hz : ZI x E Q) (hr : md.2.2.2.1 = some .int) (d : decode md.2.1 pc = .ok (.ireturn, 1)) (h : Q v M) : G x E md 0 0 pc lv [.int v] M := by
  obtain ⟨p, l, e, R, s, m, args, below, meth, c, Z⟩ := x; intro hK H locs ls hP hS hl
  have hz : Z = _ := hz
  subst hz
  exact W.iret hK.1 hK.2.1 (hK.2.2.2.2.2.2.2.2.1.trans hr) (fun t ht hW => ⟨⟨v, M, rfl, h, by show va_P _ _ _ t.heap; rw [ht]; exact hP⟩, hS.F ht⟩) hS.2.2 d (hlocks := hK.2.2.2.2.2.2.2.2.2.1)
theorem g_zret {Q : Int32 → Mem → Prop} {v : Int32} (hz : ZI x E (fun r M => nb r ∧ Q r M)) (hr : md.2.2.2.1 = some .boolean) (hn : nb v) (d : decode md.2.1 pc = .ok (.ireturn, 1)) (h : Q v M) : G x E md 0 0 pc lv [.int v] M := by
  obtain ⟨p, l, e, R, s, m, args, below, meth, c, Z⟩ := x; intro hK H locs ls hP hS hl
  have hz : Z = _ := hz
  subst hz
  exact W.zret hK.1 hK.2.1 (hK.2.2.2.2.2.2.2.2.1.trans hr) hn (fun t ht hW => ⟨⟨v, M, rfl, ⟨hn, h⟩, by show va_P _ _ _ t.heap; rw [ht]; exact hP⟩, hS.F ht⟩) hS.2.2 d (hlocks := hK.2.2.2.2.2.2.2.2.2.1)
theorem g_lret {Q : Int64 → Mem → Prop} {v : Int64} (hz : ZL x E Q) (hr : md.2.2.2.1 = some .long) (d : decode md.2.1 pc = .ok (.lreturn, 1)) (h : Q v M) : G x E md 0 0 pc lv [.long v] M := by
  obtain ⟨p, l, e, R, s, m, args, below, meth, c, Z⟩ := x; intro hK H locs ls hP hS hl
  have hz : Z = _ := hz
  subst hz
  exact W.lret hK.1 hK.2.1 (hK.2.2.2.2.2.2.2.2.1.trans hr) (fun t ht hW => ⟨⟨v, M, rfl, h, by show va_P _ _ _ t.heap; rw [ht]; exact hP⟩, hS.F ht⟩) hS.2.2 d (hlocks := hK.2.2.2.2.2.2.2.2.2.1)
theorem g_vret {Q : Mem → Prop} (hz : ZU x E Q) (hr : md.2.2.2.1 = none) (d : decode md.2.1 pc = .ok (.return_, 1)) (h : Q M) : G x E md 0 0 pc lv [] M := by
  obtain ⟨p, l, e, R, s, m, args, below, meth, c, Z⟩ := x; intro hK H locs ls hP hS hl
  have hz : Z = _ := hz
  subst hz
  exact W.vret hK.1 hK.2.1 (hK.2.2.2.2.2.2.2.2.1.trans hr) (fun t ht hW => ⟨⟨M, rfl, h, by show va_P _ _ _ t.heap; rw [ht]; exact hP⟩, hS.F ht⟩) hS.2.2 d (hlocks := hK.2.2.2.2.2.2.2.2.2.1)
end Rets
def RC (c : Nat) (C : String) : Prop := ∃ (ci : Nat) (ks : List Nat) (T : u_T) (N : Nat), shL[c]? = some (.inr (ci, ks)) ∧ vwCl[ci]? = some (C, T, N)
/-- the words of a virtual call -/
def CV (own : String) (idx : Nat) (y : MethodName) (cc : ByteArray) (nL : Nat) (ret : Option FieldType) (n : Nat) : Prop :=
  .methodLink own idx y ∈ GW ∧ .instanceMethod y ∈ GW ∧ .selects y.cls y y ∈ GW ∧ .initialized y.cls ∈ GW ∧ .code y cc nL ret ∈ GW ∧ (y.cls ≠ "java/lang/invoke/MethodHandle" ∧ y.cls ≠ "java/lang/invoke/VarHandle") ∧ (parseMethodDescriptor y.desc).map (fun d => d.parameters.length) = some n
def CS (own : String) (idx : Nat) (y : MethodName) (cc : ByteArray) (nL : Nat) (ret : Option FieldType) (n : Nat) : Prop :=
  .methodLink own idx y ∈ GW ∧ .static y ∈ GW ∧ .initialized y.cls ∈ GW ∧ .code y cc nL ret ∈ GW ∧ (y.cls ≠ "java/lang/invoke/MethodHandle" ∧ y.cls ≠ "java/lang/invoke/VarHandle") ∧ (parseMethodDescriptor y.desc).map (fun d => d.parameters.length) = some n
def CN (own : String) (idx : Nat) (y : MethodName) (host : String) (cc : ByteArray) (nL : Nat) (ret : Option FieldType) (n : Nat) : Prop :=
  (own, idx, y, host) ∈ nestL ∧ .static y ∈ GW ∧ .initialized y.cls ∈ GW ∧ .code y cc nL ret ∈ GW ∧ (y.cls ≠ "java/lang/invoke/MethodHandle" ∧ y.cls ≠ "java/lang/invoke/VarHandle") ∧ (parseMethodDescriptor y.desc).map (fun d => d.parameters.length) = some n
/-- the callee's room within the caller's -/
def RM (rm big : Room) (nL nc ns : Nat) : Prop := rm.cells = 0 ∧ rm.slots = 0 ∧ rm.frames + 1 ≤ big.frames ∧ 8 + (nL + 11) + rm.locals ≤ big.locals ∧ nc ≤ big.cells ∧ ns ≤ big.slots
theorem sig_n {d : String} {n : Nat} (h : (parseMethodDescriptor d).map (fun d => d.parameters.length) = some n) : ∀ sig, parseMethodDescriptor d = some sig → n = sig.parameters.length := by
  intro sig hs
  rw [hs] at h
  exact (Option.some.inj h).symm
theorem hws_of {args : Array Value} {s : State} {c0 : Cond} (hts : ∀ w ∈ GW, w.before args s = true) (h0 : c0 ∈ GW) : ∀ w ∈ c0 :: GW, ∀ (a' : Array Value) (U : State), s.WarmedH U.vm → w.before a' U = true := by
  intro w hw a' U hW
  have hm : w ∈ GW := by
    rcases List.mem_cons.mp hw with rfl | h
    · exact h0
    · exact h
  exact word_at hW (gw_good hm) (hts w hm)
theorem pre_blind {E : EX} {av : List Value} {M : Mem} : FrameBlind (va_Pc av (PreW E M)) := fun a U g mk h => ⟨h.1, h.2.1, va_K.moved (u := U) (U := U.calling g mk a) (Vm.Alike.refl U.vm) h.2.2.1, SF.blind h.2.2.2⟩
section CallRows
variable {x : GX} {E : EX} {md : MD} {nc ns pc q : Nat} {lv lv' : List (Nat × Value)} {st rest As : List Value} {M : Mem} {idx n c nL : Nat} {y : MethodName} {cc : ByteArray} {ret : Option FieldType} {rm : Room}
theorem run_V {p : Program} {l : Launch} {e : Env} {R : Room} {s : State} {m : MethodId} {args : Array Value} {below : List Frame} {meth : Method} {co : Code} {H : Heap} {locs : List Loc} {ls : Array Slot} {Qc : Array Value → State → Outcome → State → Prop}
    (hK : KH p l R s m args meth co E md) (hP : va_P (eD E) vwCl (pic E M) H) (hS : va_S (AE E) s.heap H locs) (hl : lv_has ls md.2.2.1 lv)
    (hw : CV md.1 idx y cc nL ret n) (hs : RC c y.cls) (hM : Met l y (.code y cc nL ret :: GW) rm (va_Pc (.ref (eA E c) :: As) (PreW E M)) Qc 0 0 (AE E)) (hn : As.length = n) (hst : st = As.reverse ++ .ref (eA E c) :: rest) (hR : RM rm md.2.2.2.2 nL nc ns) (hrest : (rest.map fun v => v.category).sum ≤ 8) (d : decode md.2.1 pc = .ok (.invokevirtual idx, 3)) :
    va_Run p l e R s m args below meth co H locs nc ns 0 0 (F0 m pc ls st) rest (Qc (Value.ref (eA E c) :: As).toArray) (AE E) := by
  obtain ⟨hx, hb, hml, hown, hts, hKK, hF, hE, hr, hlk, hRR, hl9⟩ := hK
  obtain ⟨w1, w2, w3, w4, w5, w6, w7⟩ := hw
  obtain ⟨ci, ks, T, N, s1, s2⟩ := hs
  subst hRR
  refine va_runV ⟨hx, hb, hml, hown, hts⟩ hM ⟨⟨hR.1, hR.2.1, hR.2.2.1, hR.2.2.2.1, hws_of hts w5, List.mem_cons_self, hts _ w5, hts _ w4, w6, sig_n w7, hts _ w1⟩, hts _ w2, hts _ w3⟩ ⟨pre_blind, va_recv hKK hP s2 (pic_at s1), fun U hU hW => ⟨rfl, by rw [hU]; exact hP, va_K.moved hW.alike hKK, hF.at hW (by rw [hU]; exact hS)⟩⟩ rfl hn (by exact hl.1) hst (lv_room hrest) d ⟨hR.2.2.2.2.1, hR.2.2.2.2.2⟩
theorem run_S {p : Program} {l : Launch} {e : Env} {R : Room} {s : State} {m : MethodId} {args : Array Value} {below : List Frame} {meth : Method} {co : Code} {H : Heap} {locs : List Loc} {ls : Array Slot} {Qc : Array Value → State → Outcome → State → Prop}
    (hK : KH p l R s m args meth co E md) (hP : va_P (eD E) vwCl (pic E M) H) (hS : va_S (AE E) s.heap H locs) (hl : lv_has ls md.2.2.1 lv)
    (hw : CS md.1 idx y cc nL ret n) (hM : Met l y (.code y cc nL ret :: GW) rm (va_Pc As (PreW E M)) Qc 0 0 (AE E)) (hn : As.length = n) (hst : st = As.reverse ++ rest) (hR : RM rm md.2.2.2.2 nL nc ns) (hrest : (rest.map fun v => v.category).sum ≤ 8) (d : decode md.2.1 pc = .ok (.invokestatic idx, 3)) :
    va_Run p l e R s m args below meth co H locs nc ns 0 0 (F0 m pc ls st) rest (Qc As.toArray) (AE E) := by
  obtain ⟨hx, hb, hml, hown, hts, hKK, hF, hE, hr, hlk, hRR, hl9⟩ := hK
  obtain ⟨w1, w2, w4, w5, w6, w7⟩ := hw
  subst hRR
  refine va_runS ⟨hx, hb, hml, hown, hts⟩ hM ⟨⟨hR.1, hR.2.1, hR.2.2.1, hR.2.2.2.1, hws_of hts w5, List.mem_cons_self, hts _ w5, hts _ w4, w6, sig_n w7, hts _ w1⟩, hts _ w2⟩ ⟨pre_blind, fun U hU hW => ⟨rfl, by rw [hU]; exact hP, va_K.moved hW.alike hKK, hF.at hW (by rw [hU]; exact hS)⟩⟩ rfl hn (by exact hl.1) hst (lv_room hrest) d ⟨hR.2.2.2.2.1, hR.2.2.2.2.2⟩
theorem run_N {host : String} {p : Program} {l : Launch} {e : Env} {R : Room} {s : State} {m : MethodId} {args : Array Value} {below : List Frame} {meth : Method} {co : Code} {H : Heap} {locs : List Loc} {ls : Array Slot} {Qc : Array Value → State → Outcome → State → Prop}
    (hK : KH p l R s m args meth co E md) (hP : va_P (eD E) vwCl (pic E M) H) (hS : va_S (AE E) s.heap H locs) (hl : lv_has ls md.2.2.1 lv)
    (hw : CN md.1 idx y host cc nL ret n) (hM : Met l y (.code y cc nL ret :: GW) rm (va_Pc As (PreW E M)) Qc 0 0 (AE E)) (hn : As.length = n) (hst : st = As.reverse ++ rest) (hR : RM rm md.2.2.2.2 nL nc ns) (hrest : (rest.map fun v => v.category).sum ≤ 8) (d : decode md.2.1 pc = .ok (.invokestatic idx, 3)) :
    va_Run p l e R s m args below meth co H locs nc ns 0 0 (F0 m pc ls st) rest (Qc As.toArray) (AE E) := by
  obtain ⟨hx, hb, hml, hown, hts, hKK, hF, hE, hr, hlk, hRR, hl9⟩ := hK
  obtain ⟨w1, w2, w4, w5, w6, w7⟩ := hw
  subst hRR
  refine va_runSN ⟨hx, hb, hml, hown, hts⟩ hM ⟨⟨⟨hR.1, hR.2.1, hR.2.2.1, hR.2.2.2.1, hws_of hts w5, List.mem_cons_self⟩, hts _ w5, hts _ w4, w6, sig_n w7, va_Nw.use rfl (hF.2.2.2.2.2.2.2.2.2.1 _ w1)⟩, hts _ w2, trivial⟩ ⟨pre_blind, fun U hU hW => ⟨rfl, by rw [hU]; exact hP, va_K.moved hW.alike hKK, hF.at hW (by rw [hU]; exact hS)⟩⟩ rfl hn (by exact hl.1) hst (lv_room hrest) d ⟨hR.2.2.2.2.1, hR.2.2.2.2.2⟩
theorem g_calli {Q : Int32 → Mem → Prop} (As rest : List Value) (hw : CV md.1 idx y cc nL ret n) (hs : RC c y.cls) (hC : CI y cc nL ret rm E (.ref (eA E c) :: As) M Q) (hn : As.length = n) (hst : st = As.reverse ++ .ref (eA E c) :: rest) (hR : RM rm md.2.2.2.2 nL nc ns) (hrest : (rest.map fun v => v.category).sum ≤ 8) (d : decode md.2.1 pc = .ok (.invokevirtual idx, 3)) (hq : pc + 3 = q) (k : ∀ r M1, Q r M1 → G x E md nc ns q lv (.int r :: rest) M1) : G x E md nc ns pc lv st M := by
  obtain ⟨p, l, e, R, s, m, args, below, meth, co, Z⟩ := x; intro hK H locs ls hP hS hl; subst hq
  refine va_calli (run_V hK hP hS hl hw hs (hC l hK.2.2.2.2.2.2.2.2.2.2.2) hn hst hR hrest d) hS (fun q _ h => h) (fun q h => h) (fun r u t H1 locs1 ht hvm hp hB hz1 hk1 hS1 => ?_)
  exact k r u hp hK H1 locs1 ls (by rw [← ht]; exact hB) hS1 hl
theorem g_calll {Q : Int64 → Mem → Prop} (As rest : List Value) (hw : CV md.1 idx y cc nL ret n) (hs : RC c y.cls) (hC : CL y cc nL ret rm E (.ref (eA E c) :: As) M Q) (hn : As.length = n) (hst : st = As.reverse ++ .ref (eA E c) :: rest) (hR : RM rm md.2.2.2.2 nL nc ns) (hrest : (rest.map fun v => v.category).sum ≤ 8) (d : decode md.2.1 pc = .ok (.invokevirtual idx, 3)) (hq : pc + 3 = q) (k : ∀ r M1, Q r M1 → G x E md nc ns q lv (.long r :: rest) M1) : G x E md nc ns pc lv st M := by
  obtain ⟨p, l, e, R, s, m, args, below, meth, co, Z⟩ := x; intro hK H locs ls hP hS hl; subst hq
  refine va_calll (run_V hK hP hS hl hw hs (hC l hK.2.2.2.2.2.2.2.2.2.2.2) hn hst hR hrest d) hS (fun q _ h => h) (fun q h => h) (fun r u t H1 locs1 ht hvm hp hB hz1 hk1 hS1 => ?_)
  exact k r u hp hK H1 locs1 ls (by rw [← ht]; exact hB) hS1 hl
theorem g_callv {Q : Mem → Prop} (As rest : List Value) (hw : CV md.1 idx y cc nL ret n) (hs : RC c y.cls) (hC : CU y cc nL ret rm E (.ref (eA E c) :: As) M Q) (hn : As.length = n) (hst : st = As.reverse ++ .ref (eA E c) :: rest) (hR : RM rm md.2.2.2.2 nL nc ns) (hrest : (rest.map fun v => v.category).sum ≤ 8) (d : decode md.2.1 pc = .ok (.invokevirtual idx, 3)) (hq : pc + 3 = q) (k : ∀ M1, Q M1 → G x E md nc ns q lv rest M1) : G x E md nc ns pc lv st M := by
  obtain ⟨p, l, e, R, s, m, args, below, meth, co, Z⟩ := x; intro hK H locs ls hP hS hl; subst hq
  refine va_callv (run_V hK hP hS hl hw hs (hC l hK.2.2.2.2.2.2.2.2.2.2.2) hn hst hR hrest d) hS (fun q _ h => h) (fun q h => h) (fun u t H1 locs1 ht hvm hp hB hz1 hk1 hS1 => ?_)
  exact k u hp hK H1 locs1 ls (by rw [← ht]; exact hB) hS1 hl
theorem g_scalli {Q : Int32 → Mem → Prop} (As rest : List Value) (hw : CS md.1 idx y cc nL ret n) (hC : CI y cc nL ret rm E As M Q) (hn : As.length = n) (hst : st = As.reverse ++ rest) (hR : RM rm md.2.2.2.2 nL nc ns) (hrest : (rest.map fun v => v.category).sum ≤ 8) (d : decode md.2.1 pc = .ok (.invokestatic idx, 3)) (hq : pc + 3 = q) (k : ∀ r M1, Q r M1 → G x E md nc ns q lv (.int r :: rest) M1) : G x E md nc ns pc lv st M := by
  obtain ⟨p, l, e, R, s, m, args, below, meth, co, Z⟩ := x; intro hK H locs ls hP hS hl; subst hq
  refine va_calli (run_S hK hP hS hl hw (hC l hK.2.2.2.2.2.2.2.2.2.2.2) hn hst hR hrest d) hS (fun q _ h => h) (fun q h => h) (fun r u t H1 locs1 ht hvm hp hB hz1 hk1 hS1 => ?_)
  exact k r u hp hK H1 locs1 ls (by rw [← ht]; exact hB) hS1 hl
theorem g_scalll {Q : Int64 → Mem → Prop} (As rest : List Value) (hw : CS md.1 idx y cc nL ret n) (hC : CL y cc nL ret rm E As M Q) (hn : As.length = n) (hst : st = As.reverse ++ rest) (hR : RM rm md.2.2.2.2 nL nc ns) (hrest : (rest.map fun v => v.category).sum ≤ 8) (d : decode md.2.1 pc = .ok (.invokestatic idx, 3)) (hq : pc + 3 = q) (k : ∀ r M1, Q r M1 → G x E md nc ns q lv (.long r :: rest) M1) : G x E md nc ns pc lv st M := by
  obtain ⟨p, l, e, R, s, m, args, below, meth, co, Z⟩ := x; intro hK H locs ls hP hS hl; subst hq
  refine va_calll (run_S hK hP hS hl hw (hC l hK.2.2.2.2.2.2.2.2.2.2.2) hn hst hR hrest d) hS (fun q _ h => h) (fun q h => h) (fun r u t H1 locs1 ht hvm hp hB hz1 hk1 hS1 => ?_)
  exact k r u hp hK H1 locs1 ls (by rw [← ht]; exact hB) hS1 hl
theorem g_scallv {Q : Mem → Prop} (As rest : List Value) (hw : CS md.1 idx y cc nL ret n) (hC : CU y cc nL ret rm E As M Q) (hn : As.length = n) (hst : st = As.reverse ++ rest) (hR : RM rm md.2.2.2.2 nL nc ns) (hrest : (rest.map fun v => v.category).sum ≤ 8) (d : decode md.2.1 pc = .ok (.invokestatic idx, 3)) (hq : pc + 3 = q) (k : ∀ M1, Q M1 → G x E md nc ns q lv rest M1) : G x E md nc ns pc lv st M := by
  obtain ⟨p, l, e, R, s, m, args, below, meth, co, Z⟩ := x; intro hK H locs ls hP hS hl; subst hq
  refine va_callv (run_S hK hP hS hl hw (hC l hK.2.2.2.2.2.2.2.2.2.2.2) hn hst hR hrest d) hS (fun q _ h => h) (fun q h => h) (fun u t H1 locs1 ht hvm hp hB hz1 hk1 hS1 => ?_)
  exact k u hp hK H1 locs1 ls (by rw [← ht]; exact hB) hS1 hl
theorem g_ncalli {host : String} {Q : Int32 → Mem → Prop} (As rest : List Value) (hw : CN md.1 idx y host cc nL ret n) (hC : CI y cc nL ret rm E As M Q) (hn : As.length = n) (hst : st = As.reverse ++ rest) (hR : RM rm md.2.2.2.2 nL nc ns) (hrest : (rest.map fun v => v.category).sum ≤ 8) (d : decode md.2.1 pc = .ok (.invokestatic idx, 3)) (hq : pc + 3 = q) (k : ∀ r M1, Q r M1 → G x E md nc ns q lv (.int r :: rest) M1) : G x E md nc ns pc lv st M := by
  obtain ⟨p, l, e, R, s, m, args, below, meth, co, Z⟩ := x; intro hK H locs ls hP hS hl; subst hq
  refine va_calli (run_N hK hP hS hl hw (hC l hK.2.2.2.2.2.2.2.2.2.2.2) hn hst hR hrest d) hS (fun q _ h => h) (fun q h => h) (fun r u t H1 locs1 ht hvm hp hB hz1 hk1 hS1 => ?_)
  exact k r u hp hK H1 locs1 ls (by rw [← ht]; exact hB) hS1 hl
theorem g_ncalll {host : String} {Q : Int64 → Mem → Prop} (As rest : List Value) (hw : CN md.1 idx y host cc nL ret n) (hC : CL y cc nL ret rm E As M Q) (hn : As.length = n) (hst : st = As.reverse ++ rest) (hR : RM rm md.2.2.2.2 nL nc ns) (hrest : (rest.map fun v => v.category).sum ≤ 8) (d : decode md.2.1 pc = .ok (.invokestatic idx, 3)) (hq : pc + 3 = q) (k : ∀ r M1, Q r M1 → G x E md nc ns q lv (.long r :: rest) M1) : G x E md nc ns pc lv st M := by
  obtain ⟨p, l, e, R, s, m, args, below, meth, co, Z⟩ := x; intro hK H locs ls hP hS hl; subst hq
  refine va_calll (run_N hK hP hS hl hw (hC l hK.2.2.2.2.2.2.2.2.2.2.2) hn hst hR hrest d) hS (fun q _ h => h) (fun q h => h) (fun r u t H1 locs1 ht hvm hp hB hz1 hk1 hS1 => ?_)
  exact k r u hp hK H1 locs1 ls (by rw [← ht]; exact hB) hS1 hl
theorem g_ncallv {host : String} {Q : Mem → Prop} (As rest : List Value) (hw : CN md.1 idx y host cc nL ret n) (hC : CU y cc nL ret rm E As M Q) (hn : As.length = n) (hst : st = As.reverse ++ rest) (hR : RM rm md.2.2.2.2 nL nc ns) (hrest : (rest.map fun v => v.category).sum ≤ 8) (d : decode md.2.1 pc = .ok (.invokestatic idx, 3)) (hq : pc + 3 = q) (k : ∀ M1, Q M1 → G x E md nc ns q lv rest M1) : G x E md nc ns pc lv st M := by
  obtain ⟨p, l, e, R, s, m, args, below, meth, co, Z⟩ := x; intro hK H locs ls hP hS hl; subst hq
  refine va_callv (run_N hK hP hS hl hw (hC l hK.2.2.2.2.2.2.2.2.2.2.2) hn hst hR hrest d) hS (fun q _ h => h) (fun q h => h) (fun u t H1 locs1 ht hvm hp hB hz1 hk1 hS1 => ?_)
  exact k u hp hK H1 locs1 ls (by rw [← ht]; exact hB) hS1 hl
end CallRows
