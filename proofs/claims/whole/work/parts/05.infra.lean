/-! A static memory over the kit's worlds: all cells are made by the constructors; a state is two functions -/
def GW : List Cond := lw_tbl.filter goodWord
theorem gw_R {w : Cond} (k : Nat) (h : tables_1[k]? = some w) (hg : goodWord w = true) : w ∈ GW := List.mem_filter.mpr ⟨List.mem_append_right _ (List.mem_of_getElem? h), hg⟩
theorem gw_L {w : Cond} (k : Nat) (h : (k2_sels lw_privs)[k]? = some w) (hg : goodWord w = true) : w ∈ GW := List.mem_filter.mpr ⟨List.mem_append_left _ (List.mem_of_getElem? h), hg⟩
theorem gw_all {ws : List Cond} (ps : List Nat) (hp : ws = ps.filterMap (fun i => tables_1[i]?)) (h : ws.all goodWord = true) : ∀ w ∈ ws, w ∈ GW := by
  intro w hw
  have h1 := List.all_eq_true.mp h w hw
  rw [hp] at hw
  obtain ⟨i, -, hi⟩ := List.mem_filterMap.mp hw
  exact gw_R i hi h1
theorem gw_good {w : Cond} (h : w ∈ GW) : (w.onTables && w.keeps) = true ∨ ∃ ty, w = .arrayClass ty := good_of_word (List.mem_filter.mp h).2
abbrev Mem : Type := (Nat → Nat → Int32) × (Nat → Nat → Int64)
def putI (M : Mem) (c k : Nat) (v : Int32) : Mem := (fun a b => if a = c then (if b = k then v else M.1 a b) else M.1 a b, M.2)
def putL (M : Mem) (c k : Nat) (v : Int64) : Mem := (M.1, fun a b => if a = c then (if b = k then v else M.2 a b) else M.2 a b)
/-- dC, dI, addresses, array kinds (0 byte, 1 int, 2 long, 3 boolean), the first address that is ours, the address of WIDTHS -/
abbrev EX : Type := (Nat → ClassId) × (Nat → Nat → Nat) × (Nat → Nat) × (Nat → ClassId) × Nat × Nat
abbrev eD (E : EX) : va_G := (E.1, E.2.1)
abbrev eA (E : EX) : Nat → Nat := E.2.2.1
abbrev eC (E : EX) : Nat → ClassId := E.2.2.2.1
abbrev eB (E : EX) : Nat := E.2.2.2.2.1
abbrev eW (E : EX) : Nat := E.2.2.2.2.2
abbrev SHP : Type := (Nat × Nat) ⊕ (Nat × List Nat)
def shL : List SHP := [
  /- 0 x -/ .inr (10, [3, 5, 7, 9, 11, 13, 15, 17, 22, 36, 0, 0, 0]),
  /- 1 x.tape -/ .inr (7, [4, 0]),
  /- 2 x.tape.row -/ .inl (0, 400),
  /- 3 x.ear0 -/ .inr (1, [6, 0, 0, 0, 0, 0]),
  /- 4 x.ear0.bits -/ .inl (0, 300),
  /- 5 x.ear1 -/ .inr (1, [8, 0, 0, 0, 0, 0]),
  /- 6 x.ear1.bits -/ .inl (0, 300),
  /- 7 x.telling -/ .inr (8, [10, 0, 0]),
  /- 8 x.telling.numbers -/ .inl (1, 4),
  /- 9 x.sender -/ .inr (6, [12, 0, 0, 0, 0]),
  /- 10 x.sender.out -/ .inl (0, 16),
  /- 11 x.log -/ .inr (2, [14, 0]),
  /- 12 x.log.cells -/ .inl (1, 1600),
  /- 13 x.clashBook -/ .inr (0, [16, 0]),
  /- 14 x.clashBook.made -/ .inl (1, 200),
  /- 15 x.textBook -/ .inr (9, [18, 19, 20, 21, 0]),
  /- 16 x.textBook.usedUp -/ .inl (3, 200),
  /- 17 x.textBook.pieces -/ .inl (1, 500),
  /- 18 x.textBook.whole -/ .inl (1, 100),
  /- 19 x.textBook.newest -/ .inl (1, 5),
  /- 20 x.parting -/ .inr (5, [23, 33, 34, 35, 0, 0, 1]),
  /- 21 x.parting.matching -/ .inr (3, [24, 25, 26, 27, 28, 29, 30, 31, 32, 0, 0]),
  /- 22 x.parting.matching.squares -/ .inl (2, 256),
  /- 23 x.parting.matching.rowDual -/ .inl (2, 32),
  /- 24 x.parting.matching.columnDual -/ .inl (2, 32),
  /- 25 x.parting.matching.slack -/ .inl (2, 32),
  /- 26 x.parting.matching.columnOf -/ .inl (1, 32),
  /- 27 x.parting.matching.rowOf -/ .inl (1, 32),
  /- 28 x.parting.matching.from -/ .inl (1, 32),
  /- 29 x.parting.matching.queue -/ .inl (1, 32),
  /- 30 x.parting.matching.seen -/ .inl (3, 32),
  /- 31 x.parting.inLog -/ .inl (1, 16),
  /- 32 x.parting.follows -/ .inl (1, 16),
  /- 33 x.parting.track -/ .inl (1, 16),
  /- 34 x.meeting -/ .inr (4, [0]),
  /- 35 m -/ .inr (11, [0, 38, 0, 39, 40, 41, 42, 0, 0, 43, 44, 0, 0, 0, 45, 46, 47, 48, 49, 50, 0, 51, 52, 0, 0, 0, 0, 0, 53, 54, 55, 56, 57, 58, 59, 60, 61, 0, 1, 1, 0, 62, 63, 0]),
  /- 36 m.tape -/ .inl (1, 400),
  /- 37 m.levelOf -/ .inl (1, 2),
  /- 38 m.onesOf -/ .inl (1, 2),
  /- 39 m.putOf -/ .inl (1, 2),
  /- 40 m.bits -/ .inl (1, 600),
  /- 41 m.log -/ .inl (1, 1600),
  /- 42 m.used -/ .inl (3, 200),
  /- 43 m.field -/ .inl (1, 4),
  /- 44 m.textShip -/ .inl (1, 100),
  /- 45 m.textRow -/ .inl (1, 100),
  /- 46 m.textMany -/ .inl (1, 100),
  /- 47 m.textBy -/ .inl (1, 100),
  /- 48 m.textLetters -/ .inl (1, 500),
  /- 49 m.out -/ .inl (1, 60),
  /- 50 m.word -/ .inl (1, 120),
  /- 51 m.place -/ .inl (1, 16),
  /- 52 m.newPlace -/ .inl (1, 16),
  /- 53 m.follows -/ .inl (1, 16),
  /- 54 m.follower -/ .inl (1, 16),
  /- 55 m.track -/ .inl (1, 16),
  /- 56 m.told -/ .inl (1, 16),
  /- 57 m.price -/ .inl (2, 256),
  /- 58 m.may -/ .inl (3, 256),
  /- 59 m.fixed -/ .inl (3, 16),
  /- 60 m.far -/ .inl (2, 16),
  /- 61 m.via -/ .inl (1, 16),
  /- 62 out -/ .inl (2, 1)]
def fval (E : EX) (M : Mem) (c k : Nat) (kd : Nat) : Value := match kd with
  | 0 => .int (M.1 c k)
  | 1 => .long (M.2 c k)
  | n + 2 => .ref (eA E n)
def cellE (E : EX) (M : Mem) (c : Nat) (h : SHP) : va_E := match h with
  | .inl (t, n) => if t = 2 then .inl (eC E 2, n, .inr (.inl (M.2 c))) else .inl (eC E t, n, .inl (M.1 c))
  | .inr (ci, ks) => .inr (ci, (List.range ks.length).map fun k => fval E M c k (ks.getD k 0))
def pic (E : EX) (M : Mem) : va_W := shL.zipIdx.map fun q => (eA E q.2, cellE E M q.2 q.1)
theorem pic_at {E : EX} {M : Mem} {c : Nat} {h : SHP} (hs : shL[c]? = some h) : (pic E M)[c]? = some (eA E c, cellE E M c h) := by
  unfold pic
  rw [List.getElem?_map, List.getElem?_zipIdx, hs]
  simp
theorem pic_back {E : EX} {M : Mem} {c : Nat} {q : Nat × va_E} (h : (pic E M)[c]? = some q) : ∃ s, shL[c]? = some s ∧ q = (eA E c, cellE E M c s) := by
  cases hs : shL[c]? with
  | none =>
    unfold pic at h
    rw [List.getElem?_map, List.getElem?_zipIdx, hs] at h
    simp at h
  | some s => exact ⟨s, rfl, Option.some.inj (h.symm.trans (pic_at hs))⟩
theorem cellE_congr {E : EX} {M M' : Mem} {c : Nat} {h : SHP} (h1 : M'.1 c = M.1 c) (h2 : M'.2 c = M.2 c) : cellE E M' c h = cellE E M c h := by
  cases h with
  | inl q => simp only [cellE, h1, h2]
  | inr q =>
    simp only [cellE]
    congr 2
    refine List.map_congr_left fun k _ => ?_
    unfold fval
    split <;> simp only [h1, h2]
theorem pic_set {E : EX} {M M' : Mem} {c : Nat} {h : SHP} {x : va_E} (hs : shL[c]? = some h) (hx : cellE E M' c h = x) (ho : ∀ c', c' ≠ c → M'.1 c' = M.1 c' ∧ M'.2 c' = M.2 c') : (pic E M).set c (eA E c, x) = pic E M' := by
  refine List.ext_getElem? fun i => ?_
  rw [List.getElem?_set]
  by_cases hi : c = i
  · subst hi
    rw [if_pos rfl, if_pos (by
      have := pic_at (E := E) (M := M) hs
      exact (List.getElem?_eq_some_iff.mp this).1), pic_at hs, hx]
  · rw [if_neg hi]
    cases hs' : shL[i]? with
    | none =>
      have hn : ∀ N : Mem, (pic E N)[i]? = none := fun N => by
        unfold pic
        rw [List.getElem?_map, List.getElem?_zipIdx, hs']
        rfl
      rw [hn, hn]
    | some s => rw [pic_at hs', pic_at hs', cellE_congr (ho i (fun q => hi q.symm)).1 (ho i (fun q => hi q.symm)).2]
theorem putI_ne1 {M : Mem} {c k c' : Nat} {v : Int32} (h : c' ≠ c) : (putI M c k v).1 c' = M.1 c' := by funext b; simp [putI, h]
theorem putI_2 {M : Mem} {c k : Nat} {v : Int32} : (putI M c k v).2 = M.2 := rfl
theorem putL_1 {M : Mem} {c k : Nat} {v : Int64} : (putL M c k v).1 = M.1 := rfl
theorem putL_ne2 {M : Mem} {c k c' : Nat} {v : Int64} (h : c' ≠ c) : (putL M c k v).2 c' = M.2 c' := by funext b; simp [putL, h]
theorem putI_same {M : Mem} {c k : Nat} {v : Int32} : (putI M c k v).1 c k = v := by simp [putI]
theorem putI_k {M : Mem} {c k k' : Nat} {v : Int32} (h : k' ≠ k) : (putI M c k v).1 c k' = M.1 c k' := by simp [putI, h]
theorem putL_same {M : Mem} {c k : Nat} {v : Int64} : (putL M c k v).2 c k = v := by simp [putL]
theorem putL_k {M : Mem} {c k k' : Nat} {v : Int64} (h : k' ≠ k) : (putL M c k v).2 c k' = M.2 c k' := by simp [putL, h]
theorem putI_upd {M : Mem} {c k : Nat} {v : Int32} : (putI M c k v).1 c = upd (M.1 c) k v := by funext b; simp [putI, upd]
theorem putL_upd {M : Mem} {c k : Nat} {v : Int64} : (putL M c k v).2 c = vp_updL (M.2 c) k v := by funext b; simp [putL, vp_updL]
/-- what may change: everything from the first address of ours on -/
def AE (E : EX) : Nat → Prop := fun q => eB E ≤ q
abbrev tysE (E : EX) : List (ClassId × FieldType) := [(eC E 0, .byte), (eC E 1, .int), (eC E 2, .long), (eC E 3, .boolean)]
def EH (E : EX) : Prop := (∀ i j, i < shL.length → j < shL.length → eA E i = eA E j → i = j) ∧ ∀ i, i < shL.length → eB E ≤ eA E i
theorem EH.D {E : EX} (h : EH E) (M : Mem) : va_D (AE E) (pic E M) := by
  refine ⟨fun i j p q hp hq e => ?_, fun k q hk => ?_⟩
  · obtain ⟨s, hs, rfl⟩ := pic_back hp
    obtain ⟨s', hs', rfl⟩ := pic_back hq
    exact h.1 i j (List.getElem?_eq_some_iff.mp hs).1 (List.getElem?_eq_some_iff.mp hs').1 e
  · obtain ⟨s, hs, rfl⟩ := pic_back hk
    exact h.2 k (List.getElem?_eq_some_iff.mp hs).1
def widL : List Int32 := [16, 16, 8, 8, 15, 15, 8, 0, 31, 0, 0, 0, 3, 3, 3, 20, 12, 3, 0, 0]
def wid (j : Nat) : Int32 := widL.getD j 0
def nestL : List (String × Nat × MethodName × String) := [("ShipVoices$Ear", 53, ⟨"ShipVoices", "checkAfter", "(II)I"⟩, "ShipVoices"), ("ShipVoices$Sender", 64, ⟨"ShipVoices", "checkAfter", "(II)I"⟩, "ShipVoices")]
def declL : List MethodName := [⟨"java/lang/RuntimeException", "<init>", "()V"⟩, ⟨"java/lang/RuntimeException", "<init>", "(Ljava/lang/String;)V"⟩, ⟨"java/lang/Exception", "<init>", "()V"⟩, ⟨"java/lang/Exception", "<init>", "(Ljava/lang/String;)V"⟩, ⟨"java/lang/Throwable", "<init>", "()V"⟩, ⟨"java/lang/Throwable", "<init>", "(Ljava/lang/String;)V"⟩]
def castL : List (String × String) := [("java/util/NoSuchElementException", "java/util/NoSuchElementException"), ("ShipVoices", "java/lang/Object"), ("ShipVoices$Tape", "java/lang/Object"), ("ShipVoices$Ear", "java/lang/Object"), ("ShipVoices$Telling", "java/lang/Object"), ("ShipVoices$Sender", "java/lang/Object"), ("ShipVoices$Log", "java/lang/Object"), ("ShipVoices$ClashBook", "java/lang/Object"), ("ShipVoices$TextBook", "java/lang/Object"), ("ShipVoices$Parting", "java/lang/Object"), ("ShipVoices$Matching", "java/lang/Object"), ("ShipVoices$Meeting", "java/lang/Object"), ("ShipVoicesModel", "java/lang/Object"), ("java/util/NoSuchElementException", "java/lang/Object"), ("java/lang/Throwable", "java/lang/Object"), ("java/lang/String", "java/lang/Object")]
/-- what is there from the start, and stays -/
def SF (E : EX) (U : State) : Prop :=
  va_Z "ShipVoices$Telling" "WIDTHS" "[I" (.ref (eW E)) (AE E) U U.heap ∧ va_T .int (eW E) 20 (fun j => .int (wid j)) (AE E) U U.heap ∧
  vx_Zq Bundle.tN "UNASSIGNED_STACK" Bundle.steD (AE E) U U.heap ∧ vx_Zq Bundle.tN "SUPPRESSED_SENTINEL" Bundle.listD (AE E) U U.heap ∧
  (∃ sa, vk_R "ShipVoices" 126 "no such byte" sa U) ∧ (∃ sa, vk_R "ShipVoices" 137 "no such message" sa U) ∧ (∃ sa, vk_R "ShipVoices" 157 "no such clash" sa U) ∧ (∃ sa, vk_R "ShipVoices" 168 "no such text" sa U) ∧ (∃ sa, vk_R "ShipVoices" 177 "no such letter" sa U) ∧
  (∀ q ∈ nestL, va_Nw (.methodLinkNest q.1 q.2.1 q.2.2.1 q.2.2.2) U) ∧ (∀ q ∈ declL, va_Nw (.declares q) U) ∧ ∀ q ∈ castL, va_Nw (.castable q.1 q.2) U
