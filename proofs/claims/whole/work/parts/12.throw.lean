/-! methods that throw, and the law's own that catch -/
abbrev thrL : List Cond := svAtN RX10 128 "java/util/NoSuchElementException" "java/lang/RuntimeException" ["java/lang/Exception"] 13 prog_20_method_4_code
theorem thr_good : ∀ w ∈ thrL.filter goodWord, w ∈ GW := gw_all [13, 736, 745, 747, 750, 752, 737, 738, 25, 26, 739, 744, 748, 768, 726, 769, 728, 770, 730, 740, 742, 732, 764, 765, 767, 732, 755, 756, 757, 758, 758, 759, 760, 761, 761, 762, 763, 764, 754, 715, 723, 724, 725, 727, 729, 731, 735, 734, 733] (by decide +kernel) (by decide +kernel)
def thrB : List Cond := [.castable "java/util/NoSuchElementException" "java/util/NoSuchElementException", .declares ⟨"java/lang/RuntimeException", "<init>", "(Ljava/lang/String;)V"⟩, .declares ⟨"java/lang/Exception", "<init>", "(Ljava/lang/String;)V"⟩, .declares ⟨"java/lang/Throwable", "<init>", "(Ljava/lang/String;)V"⟩]
theorem thr_rest : ∀ w ∈ thrL.filter (fun w => !goodWord w), w ∈ thrB := by decide +kernel
theorem thr_ot : ∀ w ∈ Cond.classLink RX10 124 "java/util/NoSuchElementException" :: Cond.initialized "java/util/NoSuchElementException" :: thrL, vx_ot w = true := by decide +kernel
theorem SF.nest {E : EX} {U : State} (h : SF E U) : ∀ q ∈ nestL, va_Nw (.methodLinkNest q.1 q.2.1 q.2.2.1 q.2.2.2) U := h.2.2.2.2.2.2.2.2.2.1
theorem SF.decl {E : EX} {U : State} (h : SF E U) : ∀ q ∈ declL, va_Nw (.declares q) U := h.2.2.2.2.2.2.2.2.2.2.1
theorem SF.cast {E : EX} {U : State} (h : SF E U) : ∀ q ∈ castL, va_Nw (.castable q.1 q.2) U := h.2.2.2.2.2.2.2.2.2.2.2
theorem thr_hat {E : EX} {s : State} {args : Array Value} (hts : ∀ w ∈ GW, w.before args s = true) (hF : SF E s) : ∀ w ∈ thrL, w.before args s = true := by
  refine vx_hat (fun w h => hts w (thr_good w h)) thr_rest ?_
  refine vx_c (va_Nw.use rfl (hF.cast ("java/util/NoSuchElementException", "java/util/NoSuchElementException") (by decide))) (vx_c (va_Nw.use rfl (hF.decl ⟨"java/lang/RuntimeException", "<init>", "(Ljava/lang/String;)V"⟩ (by decide))) (vx_c (va_Nw.use rfl (hF.decl ⟨"java/lang/Exception", "<init>", "(Ljava/lang/String;)V"⟩ (by decide))) (vx_c (va_Nw.use rfl (hF.decl ⟨"java/lang/Throwable", "<init>", "(Ljava/lang/String;)V"⟩ (by decide))) vx_n)))
def BXE (E : EX) : String → Mem → State → Prop := fun n M t => n = "java/util/NoSuchElementException" ∧ PostW E M t
def CX (y : MethodName) (cc : ByteArray) (nL : Nat) (ret : Option FieldType) (rm : Room) (E : EX) (av : List Value) (M : Mem) (Q : Int32 → Mem → Prop) (QX : Mem → Prop) : Prop :=
  ∀ l : Launch, l.stackTraces = false → vx_Met l y (.code y cc nL ret :: GW) rm (va_Pc av (PreW E M)) (va_Qi Q (PostW E) (AE E)) (vx_X QX (BXE E) (AE E)) 1 6 (AE E)
def ZX (x : GX) (E : EX) (Q : Int32 → Mem → Prop) (QX : Mem → Prop) : Prop := match x with
  | (_, _, _, _, s, _, args, below, _, c, Z) => Z = vx_MQ below (va_Qi Q (PostW E) (AE E)) (vx_X QX (BXE E) (AE E)) args s 1 6 (AE E) ∧ ∀ z ∈ c.exceptionTable.toList, False
theorem CX.of {y : MethodName} {cc : ByteArray} {nL : Nat} {ret : Option FieldType} {rm : Room} {E : EX} {av : List Value} {M : Mem} {Q : Int32 → Mem → Prop} {QX : Mem → Prop} (hE : EH E) (hy : plainName y.cls = true) (hlen : (lg_sl av).length ≤ nL) (body : ∀ x, ZX x E Q QX → G x E (y.cls, cc, nL, ret, rm) 0 0 0 (lv_args 0 av) [] M) : CX y cc nL ret rm E av M Q QX := by
  intro l hl
  refine vx_ofW (cc := cc) (maxL := nL) (ret := ret) hy rfl ?_
  intro p e s m args below meth c s₁ B hml htab hv
  obtain ⟨rfl, hP, hK, hF⟩ := hv
  rw [lg_entry_eq]
  exact body (p, l, e, rm, s, m, _, below, meth, c, vx_MQ below (va_Qi Q (PostW E) (AE E)) (vx_X QX (BXE E) (AE E)) _ s 1 6 (AE E)) ⟨rfl, htab⟩ ⟨B.exec, B.bytes, hml, findClass_of_methodNamed B.named, fun w h => atoms_spec (ws := .code y cc nL ret :: GW) B.pre w (List.mem_cons_of_mem _ h), hK, hF, hE, B.returns, B.notSynchronized, rfl, hl⟩ s.heap [] _ hP va_S.rf (lv_entry av hlen)
theorem va_P_kept {D : va_G} {cl : List vw_C} {ws : va_W} {H H1 : Heap} (h : va_P D cl ws H) (hq : ∀ q : Nat, q < H.size → H1[q]? = H[q]?) : va_P D cl ws H1 := fun k q hk => (h k q hk).kept (hq _ (h k q hk).lt)
section ThrowRows
variable {x : GX} {E : EX} {md : MD} {pc q : Nat} {lv lv' : List (Nat × Value)} {st : List Value} {M : Mem}
theorem g_iretX {Q : Int32 → Mem → Prop} {QX : Mem → Prop} {v : Int32} (hz : ZX x E Q QX) (hr : md.2.2.2.1 = some .int) (d : decode md.2.1 pc = .ok (.ireturn, 1)) (h : Q v M) : G x E md 0 0 pc lv [.int v] M := by
  obtain ⟨p, l, e, R, s, m, args, below, meth, c, Z⟩ := x; intro hK H locs ls hP hS hl
  have hz : Z = _ := hz.1
  subst hz
  refine W.widen (k := 1) (n := 6) (Nat.zero_le _) (Nat.zero_le _) (vx_ret ?_)
  exact W.iret hK.1 hK.2.1 (hK.2.2.2.2.2.2.2.2.1.trans hr) (fun t ht hW => ⟨⟨v, M, rfl, h, by show va_P _ _ _ t.heap; rw [ht]; exact hP⟩, hS.F ht⟩) hS.2.2 d (hlocks := hK.2.2.2.2.2.2.2.2.2.1)
theorem g_throw {Q : Int32 → Mem → Prop} {QX : Mem → Prop} {si : Nat} {text : String} (hz : ZX x E Q QX) (hown : md.1 = RX10) (hstr : ∀ U, SF E U → ∃ sa, vk_R "ShipVoices" si text sa U)
    (d0 : decode md.2.1 pc = .ok (.new 124, 3)) (d3 : decode md.2.1 (pc + 3) = .ok (.dup, 1)) (d4 : decode md.2.1 (pc + 4) = .ok (.ldc si, 2)) (d6 : decode md.2.1 (pc + 6) = .ok (.invokespecial 128, 3)) (d9 : decode md.2.1 (pc + 9) = .ok (.athrow, 1))
    (hR : 5 < md.2.2.2.2.frames ∧ 82 ≤ md.2.2.2.2.locals ∧ 1 ≤ md.2.2.2.2.cells ∧ 6 ≤ md.2.2.2.2.slots) (h : QX M) : G x E md 0 0 pc lv [] M := by
  obtain ⟨p, l, e, R, s, m, args, below, meth, c, Z⟩ := x; intro hK H locs ls hP hS hl
  obtain ⟨hx, hb, hml, hown9, hts, hKK, hF, hE, hr, hlk, hRR, hl9⟩ := hK
  obtain ⟨hz, htab⟩ := hz
  subst hz; subst hRR
  rw [hown] at hown9
  obtain ⟨sa, hsa⟩ := hstr s hF
  exact sv_throw (A := AE E) hx hb hl9 (by decide +kernel) (by decide +kernel) (by decide +kernel) (by decide +kernel) hown9 (by decide +kernel) (by decide +kernel) (hts _ wm_714) (hts _ wm_16) hsa (thr_hat hts hF) thr_ot hF.2.2.1 hF.2.2.2.1 hS (hl.1.trans hml.symm) d0 d3 d4 d6 d9 (fun z hz => (htab z hz).elim) hR.1 hR.2.1 hR.2.2.1 hR.2.2.2 hlk
    (fun t ha hz9 hk9 => ⟨M, h, ⟨rfl, va_P_kept hP hk9⟩, Nat.le_trans hS.1 hz9, fun q h1 h2 => (hk9 q (Nat.lt_of_lt_of_le h1 hS.1)).trans (hS.2.1 q h1 h2)⟩) hS.2.2 (Nat.le_refl _) (Nat.le_refl _)
end ThrowRows
/-- the law's own methods with a handler -/
def CH (y : MethodName) (cc : ByteArray) (nL : Nat) (ret : Option FieldType) (hh : List (Nat × Nat × Nat × Nat)) (rm : Room) (E : EX) (av : List Value) (M : Mem) (Q : Int32 → Mem → Prop) : Prop :=
  ∀ l : Launch, l.stackTraces = false → Met l y (.codeWith y cc nL ret hh :: GW) rm (va_Pc av (PreW E M)) (va_Qi Q (PostW E) (AE E)) 1 6 (AE E)
def ZH (x : GX) (E : EX) (hh : List (Nat × Nat × Nat × Nat)) (Q : Int32 → Mem → Prop) : Prop := match x with
  | (_, _, _, _, s, _, args, below, _, c, Z) => Z = MQ below (va_Qi Q (PostW E) (AE E)) args s 1 6 (AE E) ∧ c.exceptionTable.toList = tableOf hh
theorem CH.of {y : MethodName} {cc : ByteArray} {nL : Nat} {ret : Option FieldType} {hh : List (Nat × Nat × Nat × Nat)} {rm : Room} {E : EX} {av : List Value} {M : Mem} {Q : Int32 → Mem → Prop} (hE : EH E) (hy : plainName y.cls = true) (hlen : (lg_sl av).length ≤ nL) (body : ∀ x, ZH x E hh Q → G x E (y.cls, cc, nL, ret, rm) 0 0 0 (lv_args 0 av) [] M) : CH y cc nL ret hh rm E av M Q := by
  intro l hl
  refine va_MetW (cc := cc) (maxL := nL) (ret := ret) (hh := hh) hy rfl ?_
  intro p e s m args below meth c s₁ B hml hv
  obtain ⟨rfl, hP, hK, hF⟩ := hv
  rw [lg_entry_eq]
  have htab := vx_table (x := y) B (atoms_spec (ws := .codeWith y cc nL ret hh :: GW) B.pre _ List.mem_cons_self)
  exact body (p, l, e, rm, s, m, _, below, meth, c, MQ below (va_Qi Q (PostW E) (AE E)) _ s 1 6 (AE E)) ⟨rfl, htab⟩ ⟨B.exec, B.bytes, hml, findClass_of_methodNamed B.named, fun w h => atoms_spec (ws := .codeWith y cc nL ret hh :: GW) B.pre w (List.mem_cons_of_mem _ h), hK, hF, hE, B.returns, B.notSynchronized, rfl, hl⟩ s.heap [] _ hP va_S.rf (lv_entry av hlen)
section CatchRows
variable {x : GX} {E : EX} {md : MD} {nc ns pc q : Nat} {lv lv' : List (Nat × Value)} {st : List Value} {M : Mem} {idx n c nL : Nat} {y : MethodName} {cc : ByteArray} {ret : Option FieldType} {rm : Room}
theorem g_iretH {Q : Int32 → Mem → Prop} {hh : List (Nat × Nat × Nat × Nat)} {v : Int32} (hz : ZH x E hh Q) (hr : md.2.2.2.1 = some .int) (d : decode md.2.1 pc = .ok (.ireturn, 1)) (h : Q v M) : G x E md 1 6 pc lv [.int v] M := by
  obtain ⟨p, l, e, R, s, m, args, below, meth, c, Z⟩ := x; intro hK H locs ls hP hS hl
  have hz : Z = _ := hz.1
  subst hz
  exact W.iret hK.1 hK.2.1 (hK.2.2.2.2.2.2.2.2.1.trans hr) (fun t ht hW => ⟨⟨v, M, rfl, h, by show va_P _ _ _ t.heap; rw [ht]; exact hP⟩, hS.F ht⟩) hS.2.2 d (hlocks := hK.2.2.2.2.2.2.2.2.2.1)
/-- a call of a method that may throw, under the handler of the law's own method -/
theorem g_xcalli {Q : Int32 → Mem → Prop} {QX : Mem → Prop} {QH : Int32 → Mem → Prop} {hh : List (Nat × Nat × Nat × Nat)} {z : ExceptionTableEntry} (As rest : List Value) (hz : ZH x E hh QH) (hw : CV md.1 idx y cc nL ret n) (hs : RC c y.cls) (hC : CX y cc nL ret rm E (.ref (eA E c) :: As) M Q QX) (hn : As.length = n) (hst : st = As.reverse ++ .ref (eA E c) :: rest)
    (hR : rm.cells = 1 ∧ rm.slots = 6 ∧ rm.frames + 1 ≤ md.2.2.2.2.frames ∧ 8 + (nL + 11) + rm.locals ≤ md.2.2.2.2.locals ∧ 1 ≤ md.2.2.2.2.cells ∧ 6 ≤ md.2.2.2.2.slots) (hrest : (rest.map fun v => v.category).sum ≤ 8) (d : decode md.2.1 pc = .ok (.invokevirtual idx, 3)) (hq : pc + 3 = q)
    (ht : tableOf hh = [z]) (hcov : covers z pc = true) (h0 : z.catchType ≠ 0) (hlink : Cond.classLink md.1 z.catchType "java/util/NoSuchElementException" ∈ GW)
    (k : ∀ r M1, Q r M1 → G x E md 1 6 q lv (.int r :: rest) M1) (kx : ∀ a M1, QX M1 → G x E md 1 6 z.handlerPc lv [.ref a] M1) : G x E md 0 0 pc lv st M := by
  obtain ⟨p, l, e, R, s, m, args, below, meth, co, Z⟩ := x; intro hK H locs ls hP hS hl; subst hq
  obtain ⟨hz, htab⟩ := hz
  have hK9 := hK
  obtain ⟨hx, hb, hml, hown, hts, hKK, hF, hE, hr, hlk, hRR, hl9⟩ := hK9
  obtain ⟨w1, w2, w3, w4, w5, w6, w7⟩ := hw
  obtain ⟨ci, ks, T, N, s1, s2⟩ := hs
  subst hRR
  refine vx_calli (A0 := AE E) (A1 := AE E) (AX := AE E) (free := AE E) (vx_runV ⟨hx, hb, hml, hown, hts⟩ (hC l hl9) ⟨⟨hR.1, hR.2.1, hR.2.2.1, hR.2.2.2.1, hws_of hts w5, List.mem_cons_self, hts _ w5, hts _ w4, w6, sig_n w7, hts _ w1⟩, hts _ w2, hts _ w3⟩ ⟨pre_blind, va_recv hKK hP s2 (pic_at s1), fun U hU hW => ⟨rfl, by rw [hU]; exact hP, va_K.moved hW.alike hKK, hF.at hW (by rw [hU]; exact hS)⟩⟩ rfl hn hl.1 hst (lv_room hrest) d ⟨by simpa using hR.2.2.2.2.1, by simpa using hR.2.2.2.2.2⟩) hS (fun q _ h => h) (fun q h => h) (fun q _ h => h)
    (fun Ec ce q9 u t H1 locs1 ht9 hvm hp hB hz1 hk1 hS1 hce hcv hcl => ?_) (fun r u t H1 locs1 ht9 hvm hp hB hz1 hk1 hS1 => ?_)
  · obtain ⟨rfl, hB⟩ := hB
    refine sv_catch hown z [] (htab.trans ht) hcov h0 (hts _ hlink) (va_Nw.use rfl (hF.cast ("java/util/NoSuchElementException", "java/util/NoSuchElementException") (by decide))) hce hcv hcl ?_
    have hk := kx q9 u hp hK H1 locs1 ls (by rw [← ht9]; exact hB) hS1 hl
    simpa using hk
  · have hk := k r u hp hK H1 locs1 ls (by rw [← ht9]; exact hB) hS1 hl
    simpa using hk
/-- the words of a call of the law's own method with a handler -/
def CW9 (own : String) (idx : Nat) (y : MethodName) (cc : ByteArray) (nL : Nat) (ret : Option FieldType) (hh : List (Nat × Nat × Nat × Nat)) (n : Nat) : Prop :=
  .methodLink own idx y ∈ GW ∧ .static y ∈ GW ∧ .initialized y.cls ∈ GW ∧ .codeWith y cc nL ret hh ∈ GW ∧ (y.cls ≠ "java/lang/invoke/MethodHandle" ∧ y.cls ≠ "java/lang/invoke/VarHandle") ∧ (parseMethodDescriptor y.desc).map (fun d => d.parameters.length) = some n
theorem g_hcalli {Q : Int32 → Mem → Prop} {hh : List (Nat × Nat × Nat × Nat)} (As rest : List Value) (hw : CW9 md.1 idx y cc nL ret hh n) (hC : CH y cc nL ret hh rm E As M Q) (hn : As.length = n) (hst : st = As.reverse ++ rest)
    (hR : rm.cells = 1 ∧ rm.slots = 6 ∧ rm.frames + 1 ≤ md.2.2.2.2.frames ∧ 8 + (nL + 11) + rm.locals ≤ md.2.2.2.2.locals ∧ nc + 1 ≤ md.2.2.2.2.cells ∧ ns + 6 ≤ md.2.2.2.2.slots) (hrest : (rest.map fun v => v.category).sum ≤ 8) (d : decode md.2.1 pc = .ok (.invokestatic idx, 3)) (hq : pc + 3 = q)
    (k : ∀ r M1, Q r M1 → G x E md (nc + 1) (ns + 6) q lv (.int r :: rest) M1) : G x E md nc ns pc lv st M := by
  obtain ⟨p, l, e, R, s, m, args, below, meth, co, Z⟩ := x; intro hK H locs ls hP hS hl; subst hq
  have hK9 := hK
  obtain ⟨hx, hb, hml, hown, hts, hKK, hF, hE, hr, hlk, hRR, hl9⟩ := hK9
  obtain ⟨w1, w2, w4, w5, w6, w7⟩ := hw
  subst hRR
  refine va_calli (vx_runSW ⟨hx, hb, hml, hown, hts⟩ (hC l hl9) ⟨⟨hR.1, hR.2.1, hR.2.2.1, hR.2.2.2.1, hws_of hts w5, List.mem_cons_self⟩, hts _ w5, hts _ w4, w6, sig_n w7, hts _ w1, hts _ w2⟩ ⟨pre_blind, fun U hU hW => ⟨rfl, by rw [hU]; exact hP, va_K.moved hW.alike hKK, hF.at hW (by rw [hU]; exact hS)⟩⟩ rfl hn hl.1 hst (lv_room hrest) d ⟨hR.2.2.2.2.1, hR.2.2.2.2.2⟩) hS (fun q _ h => h) (fun q h => h) (fun r u t H1 locs1 ht hvm hp hB hz1 hk1 hS1 => ?_)
  exact k r u hp hK H1 locs1 ls (by rw [← ht]; exact hB) hS1 hl
end CatchRows
