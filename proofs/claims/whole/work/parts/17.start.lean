theorem wm_19 : Cond.classLink "ShipVoicesLaw" 8 "ShipVoices" ∈ GW := gw_R 19 (by decide +kernel) (by decide +kernel)
theorem wm_20 : Cond.instantiable "ShipVoices" 13 ∈ GW := gw_R 20 (by decide +kernel) (by decide +kernel)
theorem wm_21 : Cond.methodLink "ShipVoicesLaw" 28 ⟨"ShipVoices", "<init>", "()V"⟩ ∈ GW := gw_R 21 (by decide +kernel) (by decide +kernel)
theorem wm_22 : Cond.instanceMethod ⟨"ShipVoices", "<init>", "()V"⟩ ∈ GW := gw_R 22 (by decide +kernel) (by decide +kernel)
theorem wm_23 : Cond.code ⟨"ShipVoices", "<init>", "()V"⟩ prog_1_method_1_code 1 none ∈ GW := gw_R 23 (by decide +kernel) (by decide +kernel)
theorem wm_838 : Cond.classLink "ShipVoicesLaw" 29 "ShipVoicesModel" ∈ GW := gw_R 838 (by decide +kernel) (by decide +kernel)
theorem wm_839 : Cond.instantiable "ShipVoicesModel" 44 ∈ GW := gw_R 839 (by decide +kernel) (by decide +kernel)
theorem wm_840 : Cond.methodLink "ShipVoicesLaw" 31 ⟨"ShipVoicesModel", "<init>", "()V"⟩ ∈ GW := gw_R 840 (by decide +kernel) (by decide +kernel)
theorem wm_841 : Cond.instanceMethod ⟨"ShipVoicesModel", "<init>", "()V"⟩ ∈ GW := gw_R 841 (by decide +kernel) (by decide +kernel)
theorem wm_842 : Cond.code ⟨"ShipVoicesModel", "<init>", "()V"⟩ prog_13_method_1_code 1 none ∈ GW := gw_R 842 (by decide +kernel) (by decide +kernel)
/-- the memory behind the constructors -/
def M0 : Mem := (fun c k => if c = 3 then (if k = 3 then (-1) else 0) else if c = 5 then (if k = 3 then (-1) else 0) else if c = 7 then (if k = 2 then (-1) else 0) else if c = 9 then (if k = 4 then 65535 else 0) else if c = 34 then (if k = 0 then (-1) else 0) else if c = 35 then (if k = 43 then (-1) else 0) else if c = 39 then (upd (upd (fun _ => 0) 0 (-1)) 1 (-1)) k else 0, fun _ _ => 0)
def adL (q1 q3 q5 : Nat) (u2 u4 : List Nat) : List Nat := [q1, (u2.getD 0 0), (u2.getD 1 0), (u2.getD 2 0), (u2.getD 3 0), (u2.getD 4 0), (u2.getD 5 0), (u2.getD 6 0), (u2.getD 7 0), (u2.getD 8 0), (u2.getD 9 0), (u2.getD 10 0), (u2.getD 11 0), (u2.getD 12 0), (u2.getD 13 0), (u2.getD 14 0), (u2.getD 15 0), (u2.getD 16 0), (u2.getD 17 0), (u2.getD 18 0), (u2.getD 19 0), (u2.getD 20 0), (u2.getD 21 0), (u2.getD 22 0), (u2.getD 23 0), (u2.getD 24 0), (u2.getD 25 0), (u2.getD 26 0), (u2.getD 27 0), (u2.getD 28 0), (u2.getD 29 0), (u2.getD 30 0), (u2.getD 31 0), (u2.getD 32 0), (u2.getD 33 0), q3, (u4.getD 0 0), (u4.getD 1 0), (u4.getD 2 0), (u4.getD 3 0), (u4.getD 4 0), (u4.getD 5 0), (u4.getD 6 0), (u4.getD 7 0), (u4.getD 8 0), (u4.getD 9 0), (u4.getD 10 0), (u4.getD 11 0), (u4.getD 12 0), (u4.getD 13 0), (u4.getD 14 0), (u4.getD 15 0), (u4.getD 16 0), (u4.getD 17 0), (u4.getD 18 0), (u4.getD 19 0), (u4.getD 20 0), (u4.getD 21 0), (u4.getD 22 0), (u4.getD 23 0), (u4.getD 24 0), (u4.getD 25 0), q5]
def E0 (D : va_G) (cA : Nat → ClassId) (base tW q1 q3 q5 : Nat) (u2 u4 : List Nat) : EX := (D.1, D.2, fun i => (adL q1 q3 q5 u2 u4).getD i 0, cA, base, tW)
set_option maxRecDepth 100000 in
set_option maxHeartbeats 4000000 in
theorem pic0 (D : va_G) (cA : Nat → ClassId) (base tW q1 q3 q5 : Nat) (u2 u4 : List Nat) : pic (E0 D cA base tW q1 q3 q5 u2 u4) M0 = (wf_X10 cA q1 u2 ++ wf_X11 cA q3 u4) ++ [(q5, .inl (cA 2, 1, .inr (.inl (fun _ => 0))))] := by
  have e : ∀ (l : List (Nat × va_E)), l = l := fun _ => rfl
  rfl
set_option maxHeartbeats 4000000 in
set_option maxRecDepth 100000 in
/-- the law up to its loop -/
theorem law_begin {x : GX} {D : va_G} {cA : Nat → ClassId} {A : Nat → Prop} {b : Nat} (k : ∀ (q1 q3 q5 : Nat) (u2 u4 : List Nat), GI x D (tysC cA) A mL_law 63 8839 23 [(0, .ref b), (1, .ref q1), (2, .ref q3), (3, .ref q5), (4, .int 0)] [] ((wf_X10 cA q1 u2 ++ wf_X11 cA q3 u4) ++ [(q5, .inl (cA 2, 1, .inr (.inl (fun _ => 0))))])) : GI x D (tysC cA) A mL_law 0 0 0 [(0, .ref b)] [] [] := by
  refine gi_new (ci := 10) (fs := [.null, .null, .null, .null, .null, .null, .null, .null, .null, .null, .int 0, .int 0, .int 0]) (q := 3) tyX10 tyX10_ok in_X10 rfl wm_19 wm_20 wm_1 (fun j hj => co_dec (P := fun j => defaultValue (tyX10 j) = vp_V [.null, .null, .null, .null, .null, .null, .null, .null, .null, .null, .int 0, .int 0, .int 0] j) (by decide +kernel) hj) (Nat.le_of_ble_eq_true rfl) (Nat.le_of_ble_eq_true rfl) dL_law_0 rfl (fun q1 => ?_)
  show GI x D (tysC cA) A mL_law 1 13 3 [(0, .ref b)] [.ref q1] [(q1, .inr (10, [.null, .null, .null, .null, .null, .null, .null, .null, .null, .null, .int 0, .int 0, .int 0]))]
  refine gi_dup (q := 4) dL_law_3 rfl rfl ?_
  refine gi_callI (wr := []) (q := 7) [] (k_X10 D cA) rfl wm_21 wm_22 wm_1 wm_23 ⟨⟨by decide, by decide⟩, by decide +kernel, rfl⟩ ⟨rfl, rfl, Nat.le_of_ble_eq_true rfl, Nat.le_of_ble_eq_true rfl, Nat.le_of_ble_eq_true rfl, Nat.le_of_ble_eq_true rfl⟩ (Nat.le_of_ble_eq_true rfl) rfl rfl rfl (show ∀ i ∈ ([] : List Nat), i ∉ [0] by decide) dL_law_4 rfl (fun u2 => ?_)
  show GI x D (tysC cA) A mL_law 35 4248 7 [(0, .ref b)] [.ref q1] (wf_X10 cA q1 u2)
  refine gi_astoren (lv' := [(0, .ref b), (1, .ref q1)]) (q := 8) [1, 0] dL_law_7 rfl (by decide) rfl rfl ?_
  refine gi_new (ci := 11) (fs := [.int 0, .null, .int 0, .null, .null, .null, .null, .int 0, .int 0, .null, .null, .int 0, .int 0, .int 0, .null, .null, .null, .null, .null, .null, .int 0, .null, .null, .int 0, .int 0, .int 0, .int 0, .int 0, .null, .null, .null, .null, .null, .null, .null, .null, .null, .int 0, .long 0, .long 0, .int 0, .null, .null, .int 0]) (q := 11) tyX11 tyX11_ok in_X11 rfl wm_838 wm_839 wm_12 (fun j hj => co_dec (P := fun j => defaultValue (tyX11 j) = vp_V [.int 0, .null, .int 0, .null, .null, .null, .null, .int 0, .int 0, .null, .null, .int 0, .int 0, .int 0, .null, .null, .null, .null, .null, .null, .int 0, .null, .null, .int 0, .int 0, .int 0, .int 0, .int 0, .null, .null, .null, .null, .null, .null, .null, .null, .null, .int 0, .long 0, .long 0, .int 0, .null, .null, .int 0] j) (by decide +kernel) hj) (Nat.le_of_ble_eq_true rfl) (Nat.le_of_ble_eq_true rfl) dL_law_8 rfl (fun q3 => ?_)
  show GI x D (tysC cA) A mL_law 36 4292 11 [(0, .ref b), (1, .ref q1)] [.ref q3] (wf_X10 cA q1 u2 ++ [(q3, .inr (11, [.int 0, .null, .int 0, .null, .null, .null, .null, .int 0, .int 0, .null, .null, .int 0, .int 0, .int 0, .null, .null, .null, .null, .null, .null, .int 0, .null, .null, .int 0, .int 0, .int 0, .int 0, .int 0, .null, .null, .null, .null, .null, .null, .null, .null, .null, .int 0, .long 0, .long 0, .int 0, .null, .null, .int 0]))])
  refine gi_dup (q := 12) dL_law_11 rfl rfl ?_
  refine gi_callI (wr := wf_X10 cA q1 u2) (q := 15) [0, 1, 2, 3, 4, 5, 6, 7, 8, 9, 10, 11, 12, 13, 14, 15, 16, 17, 18, 19, 20, 21, 22, 23, 24, 25, 26, 27, 28, 29, 30, 31, 32, 33, 34] (k_X11 D cA) rfl wm_840 wm_841 wm_12 wm_842 ⟨⟨by decide, by decide⟩, by decide +kernel, rfl⟩ ⟨rfl, rfl, Nat.le_of_ble_eq_true rfl, Nat.le_of_ble_eq_true rfl, Nat.le_of_ble_eq_true rfl, Nat.le_of_ble_eq_true rfl⟩ (Nat.le_of_ble_eq_true rfl) rfl rfl rfl (show ∀ i ∈ ([0, 1, 2, 3, 4, 5, 6, 7, 8, 9, 10, 11, 12, 13, 14, 15, 16, 17, 18, 19, 20, 21, 22, 23, 24, 25, 26, 27, 28, 29, 30, 31, 32, 33, 34] : List Nat), i ∉ [35] by decide) dL_law_12 rfl (fun u4 => ?_)
  show GI x D (tysC cA) A mL_law 62 8838 15 [(0, .ref b), (1, .ref q1)] [.ref q3] (wf_X10 cA q1 u2 ++ wf_X11 cA q3 u4)
  refine gi_astoren (lv' := [(0, .ref b), (1, .ref q1), (2, .ref q3)]) (q := 16) [1, 2, 0] dL_law_15 rfl (by decide) rfl rfl ?_
  refine gi_iconst (q := 17) dL_law_16 ki_1 rfl ?_
  refine gi_newa (atype := .long) (ty := .long) (N' := 1) (t := 2) (cA := cA 2) (a0 := (1, .inr (.inl (fun _ => 0)))) (q := 19) wm_201 rfl rfl (fun _ _ h => h) (fun _ => rfl) (by decide) rfl (by decide) (Nat.le_of_ble_eq_true rfl) (Nat.le_of_ble_eq_true rfl) dL_law_17 rfl (fun q5 => ?_)
  show GI x D (tysC cA) A mL_law 63 8839 19 [(0, .ref b), (1, .ref q1), (2, .ref q3)] [.ref q5] ((wf_X10 cA q1 u2 ++ wf_X11 cA q3 u4) ++ [(q5, .inl (cA 2, 1, .inr (.inl (fun _ => 0))))])
  refine gi_astoren (lv' := [(0, .ref b), (1, .ref q1), (2, .ref q3), (3, .ref q5)]) (q := 20) [1, 2, 3, 0] dL_law_19 rfl (by decide) rfl rfl ?_
  refine gi_iconst (q := 21) dL_law_20 ki_0 rfl ?_
  refine gi_istore (lv' := [(0, .ref b), (1, .ref q1), (2, .ref q3), (3, .ref q5), (4, .int 0)]) (q := 23) [1, 2, 3, 4, 0] dL_law_21 (by decide) rfl rfl ?_
  exact k q1 q3 q5 u2 u4
theorem k_known {args : Array Value} {s : State} (hts : ∀ w ∈ GW, w.before args s = true) : ∃ (dC : Nat → ClassId) (dI : Nat → Nat → Nat), ∀ (k : Nat) (q : vw_C), vwCl[k]? = some q → u_Kn s q.1 q.2.1 q.2.2 (dC k) (dI k) := by
  obtain ⟨c0, i0, h0⟩ := u_known (C := RX0) (T := TX0) (N := 2) (n := 2) hts in_X0 (hts _ wm_120)
  obtain ⟨c1, i1, h1⟩ := u_known (C := RX1) (T := TX1) (N := 6) (n := 6) hts in_X1 (hts _ wm_42)
  obtain ⟨c2, i2, h2⟩ := u_known (C := RX2) (T := TX2) (N := 2) (n := 2) hts in_X2 (hts _ wm_107)
  obtain ⟨c3, i3, h3⟩ := u_known (C := RX3) (T := TX3) (N := 11) (n := 11) hts in_X3 (hts _ wm_162)
  obtain ⟨c4, i4, h4⟩ := u_known (C := RX4) (T := TX4) (N := 1) (n := 1) hts in_X4 (hts _ wm_225)
  obtain ⟨c5, i5, h5⟩ := u_known (C := RX5) (T := TX5) (N := 7) (n := 7) hts in_X5 (hts _ wm_156)
  obtain ⟨c6, i6, h6⟩ := u_known (C := RX6) (T := TX6) (N := 5) (n := 5) hts in_X6 (hts _ wm_84)
  obtain ⟨c7, i7, h7⟩ := u_known (C := RX7) (T := TX7) (N := 2) (n := 2) hts in_X7 (hts _ wm_28)
  obtain ⟨c8, i8, h8⟩ := u_known (C := RX8) (T := TX8) (N := 3) (n := 3) hts in_X8 (hts _ wm_67)
  obtain ⟨c9, i9, h9⟩ := u_known (C := RX9) (T := TX9) (N := 5) (n := 5) hts in_X9 (hts _ wm_133)
  obtain ⟨c10, i10, h10⟩ := u_known (C := RX10) (T := TX10) (N := 13) (n := 13) hts in_X10 (hts _ wm_20)
  obtain ⟨c11, i11, h11⟩ := u_known (C := RX11) (T := TX11) (N := 44) (n := 44) hts in_X11 (hts _ wm_839)
  refine ⟨fun k => if k = 0 then c0 else if k = 1 then c1 else if k = 2 then c2 else if k = 3 then c3 else if k = 4 then c4 else if k = 5 then c5 else if k = 6 then c6 else if k = 7 then c7 else if k = 8 then c8 else if k = 9 then c9 else if k = 10 then c10 else c11, fun k => if k = 0 then i0 else if k = 1 then i1 else if k = 2 then i2 else if k = 3 then i3 else if k = 4 then i4 else if k = 5 then i5 else if k = 6 then i6 else if k = 7 then i7 else if k = 8 then i8 else if k = 9 then i9 else if k = 10 then i10 else i11, ?_⟩
  intro k q hq
  match k, hq with
  | 0, hq => cases hq; exact h0
  | 1, hq => cases hq; exact h1
  | 2, hq => cases hq; exact h2
  | 3, hq => cases hq; exact h3
  | 4, hq => cases hq; exact h4
  | 5, hq => cases hq; exact h5
  | 6, hq => cases hq; exact h6
  | 7, hq => cases hq; exact h7
  | 8, hq => cases hq; exact h8
  | 9, hq => cases hq; exact h9
  | 10, hq => cases hq; exact h10
  | 11, hq => cases hq; exact h11
  | k + 12, hq => simp [vwCl] at hq
theorem st_mem {w : Cond} (k : Nat) (h : tables_1[k]? = some w) : w ∈ lw_tbl := List.mem_append_right _ (List.mem_of_getElem? h)
theorem eq_int_eval {args : Array Value} {s : State} {t : Term} {v : Int32} (h : (Cond.eq t (.int v)).before args s = true) : t.eval args s none [] s = some (.int v) := by
  cases ht : t.eval args s none [] s with
  | none => simp [Cond.before, Cond.holds, Cond.value, Term.eval, ht] at h
  | some u => cases u <;> simp [Cond.before, Cond.holds, Cond.value, Term.eval, ht] at h ⊢ <;> exact h
theorem arr_known {args : Array Value} {s : State} {ty : FieldType} (h : (Cond.arrayClass ty).before args s = true) : ∃ cA : ClassId, ArrOfT s cA ty ∧ s.vm.findClass ("[" ++ ty.toString) = some cA := by
  obtain ⟨c, k, comp, h1, h2, h3⟩ := Cond.arrayClass_spec h
  exact ⟨c, fun n z => ⟨fun k9 e9 => (by cases e9), ⟨k, h2, comp, h3⟩⟩, h1⟩
theorem EH.ofD {E : EX} {M : Mem} (h : va_D (AE E) (pic E M)) : EH E := by
  refine ⟨fun i j hi hj e => ?_, fun i hi => ?_⟩
  · exact h.1 i j _ _ (pic_at (List.getElem?_eq_getElem hi)) (pic_at (List.getElem?_eq_getElem hj)) e
  · exact h.2 i _ (pic_at (List.getElem?_eq_getElem hi))
theorem gi_mk {p : Program} {l : Launch} {e : Env} {R : Room} {s : State} {m : MethodId} {args : Array Value} {below : List Frame} {meth : Method} {c : Code} {Z : State → Prop} {D : va_G} {tys : List (ClassId × FieldType)} {A : Nat → Prop} {md : MD} {nc ns pc : Nat} {lv : List (Nat × Value)} {st : List Value} {ws : va_W}
    (h : ∀ (H : Heap) (locs : List Loc) (ls : Array Slot), va_P D vwCl ws H → va_D A ws → va_S A s.heap H locs → lv_has ls md.2.2.1 lv → W p l e R s m args below meth c H locs nc ns Z (F0 m pc ls st)) : GI (p, l, e, R, s, m, args, below, meth, c, Z) D tys A md nc ns pc lv st ws := fun _ => h
set_option maxHeartbeats 4000000 in
set_option maxRecDepth 100000 in
/-- what the Statement gives of the start -/
theorem sf_start {s : State} {b : Nat} {E : EX} (hts : ∀ w ∈ lw_tbl, w.before #[Value.ref b] s = true) (hgv : (Jvm.Cond.and given_1 narrow_1).before #[Value.ref b] s = true) (hB : eB E = s.heap.size) (hW : (Term.static "ShipVoices$Telling" "WIDTHS" "[I").eval #[Value.ref b] s none [] s = some (.ref (eW E))) : SF E s := by
  have hs := flat_of_before _ hgv
  have hA : ∀ a : Nat, a < s.heap.size → ¬ AE E a := fun a ha h => by unfold AE at h; rw [hB] at h; omega
  have hel : ∀ j : Nat, j < 20 → (Term.elem (.static "ShipVoices$Telling" "WIDTHS" "[I") (.int (Int32.ofNat j))).eval #[Value.ref b] s none [] s = some (Value.int (wid j)) := by
    intro j hj
    refine eq_int_eval (hs _ ?_)
    exact co_dec (P := fun j => Cond.eq (Term.elem (.static "ShipVoices$Telling" "WIDTHS" "[I") (.int (Int32.ofNat j))) (.int (wid j)) ∈ flatC (Jvm.Cond.and given_1 narrow_1)) (N := 20) (by decide +kernel) hj
  obtain ⟨t, ht, hT⟩ := va_Tof (f := fun j => .int (wid j)) (A := AE E) (N := 20) (by decide) (hs (.arrayOf (.static "ShipVoices$Telling" "WIDTHS" "[I") .int) (by decide +kernel)) (eq_int_eval (hs (.eq (.length (.static "ShipVoices$Telling" "WIDTHS" "[I")) (.int 20)) (by decide +kernel))) hel hA
  have e1 : t = eW E := by
    have h9 := ht.symm.trans hW
    exact Value.ref.inj (Option.some.inj h9)
  subst e1
  have hstr : ∀ (k : Nat) (tx : String), (Cond.stringRef "ShipVoices" k tx).before #[Value.ref b] s = true → (Cond.exactly (.string "ShipVoices" k) "java/lang/String").before #[Value.ref b] s = true → ∃ sa, vk_R "ShipVoices" k tx sa s := by
    intro k tx h1 h2
    obtain ⟨a, _, _, _, h3, _⟩ := Cond.exactly_spec h2
    exact ⟨a, vk_R.of h1 h3⟩
  refine ⟨va_Zref (hts _ (st_mem 372 (by decide +kernel))) (hts _ (st_mem 4 (by decide +kernel))) ht hA, hT, vx_Zqof (hts _ (st_mem 741 (by decide +kernel))) (hts _ (st_mem 13 (by decide +kernel))) (hs _ (by decide +kernel)) hA, vx_Zqof (hts _ (st_mem 743 (by decide +kernel))) (hts _ (st_mem 13 (by decide +kernel))) (hs _ (by decide +kernel)) hA,
    hstr 126 "no such byte" (hts _ (st_mem 753 (by decide +kernel))) (hs _ (by decide +kernel)),
    hstr 137 "no such message" (hts _ (st_mem 792 (by decide +kernel))) (hs _ (by decide +kernel)),
    hstr 157 "no such clash" (hts _ (st_mem 800 (by decide +kernel))) (hs _ (by decide +kernel)),
    hstr 168 "no such text" (hts _ (st_mem 816 (by decide +kernel))) (hs _ (by decide +kernel)),
    hstr 177 "no such letter" (hts _ (st_mem 833 (by decide +kernel))) (hs _ (by decide +kernel)),
    ?_, ?_, ?_⟩
  · intro q hq
    simp only [nestL, List.mem_cons, List.not_mem_nil, or_false] at hq
    rcases hq with rfl | rfl
    · exact va_Nw.of rfl (hts _ (st_mem 335 (by decide +kernel)))
    · exact va_Nw.of rfl (hts _ (st_mem 485 (by decide +kernel)))
  · intro q hq
    simp only [declL, List.mem_cons, List.not_mem_nil, or_false] at hq
    rcases hq with rfl | rfl | rfl | rfl | rfl | rfl
    · exact va_Nw.of rfl (hts _ (st_mem 717 (by decide +kernel)))
    · exact va_Nw.of rfl (hts _ (st_mem 718 (by decide +kernel)))
    · exact va_Nw.of rfl (hts _ (st_mem 719 (by decide +kernel)))
    · exact va_Nw.of rfl (hts _ (st_mem 720 (by decide +kernel)))
    · exact va_Nw.of rfl (hts _ (st_mem 721 (by decide +kernel)))
    · exact va_Nw.of rfl (hts _ (st_mem 722 (by decide +kernel)))
  · intro q hq
    simp only [castL, List.mem_cons, List.not_mem_nil, or_false] at hq
    rcases hq with rfl | rfl | rfl | rfl | rfl | rfl | rfl | rfl | rfl | rfl | rfl | rfl | rfl | rfl | rfl | rfl
    · exact va_Nw.of rfl (hts _ (st_mem 716 (by decide +kernel)))
    · exact va_Nw.of rfl (hts _ (st_mem 1175 (by decide +kernel)))
    · exact va_Nw.of rfl (hts _ (st_mem 1176 (by decide +kernel)))
    · exact va_Nw.of rfl (hts _ (st_mem 1177 (by decide +kernel)))
    · exact va_Nw.of rfl (hts _ (st_mem 1178 (by decide +kernel)))
    · exact va_Nw.of rfl (hts _ (st_mem 1179 (by decide +kernel)))
    · exact va_Nw.of rfl (hts _ (st_mem 1180 (by decide +kernel)))
    · exact va_Nw.of rfl (hts _ (st_mem 1181 (by decide +kernel)))
    · exact va_Nw.of rfl (hts _ (st_mem 1182 (by decide +kernel)))
    · exact va_Nw.of rfl (hts _ (st_mem 1183 (by decide +kernel)))
    · exact va_Nw.of rfl (hts _ (st_mem 1184 (by decide +kernel)))
    · exact va_Nw.of rfl (hts _ (st_mem 1185 (by decide +kernel)))
    · exact va_Nw.of rfl (hts _ (st_mem 1186 (by decide +kernel)))
    · exact va_Nw.of rfl (hts _ (st_mem 1187 (by decide +kernel)))
    · exact va_Nw.of rfl (hts _ (st_mem 1188 (by decide +kernel)))
    · exact va_Nw.of rfl (hts _ (st_mem 1189 (by decide +kernel)))
theorem nest_start {s : State} {b : Nat} (hts : ∀ w ∈ lw_tbl, w.before #[Value.ref b] s = true) : ∀ q ∈ nestI, va_Nw (.methodLinkNest q.1 q.2.1 q.2.2.1 q.2.2.2) s := by
  intro q hq
  simp only [nestI, List.mem_cons, List.not_mem_nil, or_false] at hq
  rcases hq with rfl | rfl | rfl | rfl | rfl | rfl | rfl | rfl | rfl | rfl
  · exact va_Nw.of rfl (hts _ (st_mem 29 (by decide +kernel)))
  · exact va_Nw.of rfl (hts _ (st_mem 43 (by decide +kernel)))
  · exact va_Nw.of rfl (hts _ (st_mem 68 (by decide +kernel)))
  · exact va_Nw.of rfl (hts _ (st_mem 85 (by decide +kernel)))
  · exact va_Nw.of rfl (hts _ (st_mem 108 (by decide +kernel)))
  · exact va_Nw.of rfl (hts _ (st_mem 121 (by decide +kernel)))
  · exact va_Nw.of rfl (hts _ (st_mem 134 (by decide +kernel)))
  · exact va_Nw.of rfl (hts _ (st_mem 157 (by decide +kernel)))
  · exact va_Nw.of rfl (hts _ (st_mem 163 (by decide +kernel)))
  · exact va_Nw.of rfl (hts _ (st_mem 226 (by decide +kernel)))
set_option maxHeartbeats 4000000 in
set_option maxRecDepth 100000 in
/-- the law from its entry, out of its predicate -/
theorem whole_open (hpure : ∀ (xs : Nat → Int32) (L : Nat), L ≤ 3584 → ∃ n, n ≤ 1000 ∧ P_Law_law_23 xs L n 0 M0) {p : Program} {e : Env} {s : State} {m : MethodId} {below : List Frame} {meth : Method} {c : Code} (l : Launch) (hl9 : l.stackTraces = false) {b L : Nat} {xs : Nat → Int32} (hL : L ≤ 3584) (C0 : lw_At p s m meth c b L xs) : W p l e room_1 s m #[Value.ref b] below meth c s.heap [] 0 0 (lw_Z below #[Value.ref b] s) (entryFrame m ([Value.ref b] : List Value).toArray 7) := by
  obtain ⟨hx, hb, hr, hml, hown, hts, hX, hbl, hlocks, hgv⟩ := C0
  have htsG : ∀ w ∈ GW, w.before #[Value.ref b] s = true := fun w h => hts w (List.mem_filter.mp h).1
  obtain ⟨dC, dI, hKc⟩ := k_known htsG
  obtain ⟨cB, hB1, hB2⟩ := arr_known (htsG _ wm_40)
  obtain ⟨cI, hI1, hI2⟩ := arr_known (htsG _ wm_82)
  obtain ⟨cJ, hJ1, hJ2⟩ := arr_known (htsG _ wm_201)
  obtain ⟨cZ, hZ1, hZ2⟩ := arr_known (htsG _ wm_154)
  obtain ⟨cA, hcA⟩ : ∃ cA : Nat → ClassId, cA = fun k => if k = 0 then cB else if k = 1 then cI else if k = 2 then cJ else cZ := ⟨_, rfl⟩
  have hK : va_K (dC, dI) vwCl (tysC cA) s := by
    refine ⟨hKc, fun k q hk => ?_⟩
    rw [hcA] at hk
    match k, hk with
    | 0, hk => cases hk; exact ⟨hB1, hB2⟩
    | 1, hk => cases hk; exact ⟨hI1, hI2⟩
    | 2, hk => cases hk; exact ⟨hJ1, hJ2⟩
    | 3, hk => cases hk; exact ⟨hZ1, hZ2⟩
    | k + 4, hk => simp at hk
  obtain ⟨tW, htW⟩ : ∃ t : Nat, (Term.static "ShipVoices$Telling" "WIDTHS" "[I").eval #[Value.ref b] s none [] s = some (.ref t) := by
    have hs := flat_of_before _ hgv
    obtain ⟨t, ht, -⟩ := va_Tof (f := fun j => .int (wid j)) (A := fun _ => False) (N := 20) (by decide) (hs (.arrayOf (.static "ShipVoices$Telling" "WIDTHS" "[I") .int) (by decide +kernel)) (eq_int_eval (hs (.eq (.length (.static "ShipVoices$Telling" "WIDTHS" "[I")) (.int 20)) (by decide +kernel))) (fun j hj => eq_int_eval (hs _ (co_dec (P := fun j => Cond.eq (Term.elem (.static "ShipVoices$Telling" "WIDTHS" "[I") (.int (Int32.ofNat j))) (.int (wid j)) ∈ flatC (Jvm.Cond.and given_1 narrow_1)) (N := 20) (by decide +kernel) hj))) (fun _ _ h => h)
    exact ⟨t, ht⟩
  rw [lg_entry_eq]
  refine (law_begin (x := (p, l, e, room_1, s, m, #[Value.ref b], below, meth, c, lw_Z below #[Value.ref b] s)) (D := (dC, dI)) (cA := cA) (A := fun q => s.heap.size ≤ q) (b := b) (fun q1 q3 q5 u2 u4 => gi_mk (fun H locs ls hP hD hS hl => ?_))) ⟨hx, hb, hml, hown, htsG, hK, nest_start hts, hr, hlocks, rfl, fun q h => h⟩ s.heap [] _ (fun k q h => by simp at h) ⟨fun i j p q h => by simp at h, fun k q h => by simp at h⟩ va_S.rf (lv_entry [.ref b] (Nat.le_of_ble_eq_true rfl))
  rw [← pic0 (dC, dI) cA s.heap.size tW q1 q3 q5 u2 u4] at hP hD
  have hEH : EH (E0 (dC, dI) cA s.heap.size tW q1 q3 q5 u2 u4) := EH.ofD (M := M0) hD
  obtain ⟨n, hn, hP0⟩ := hpure xs L hL
  exact g_law (x := (p, l, e, room_1, s, m, #[Value.ref b], below, meth, c, lw_Z below #[Value.ref b] s)) (b := b) hEH ⟨rfl, rfl, rfl⟩ ⟨hX, hbl, Nat.not_le.mpr hbl⟩ n 0 63 8839 M0 (by omega) (by omega) hP0 ⟨hx, hb, hml, hown, htsG, hK, sf_start hts hgv rfl htW, hEH, hr, hlocks, rfl, hl9⟩ H locs ls hP hS hl
