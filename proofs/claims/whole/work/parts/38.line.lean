/-! the line that is told: levels in bytes -/
def lvl (s : Nat × Int32 × (Nat → Int32)) (b : Int32) : Int32 := if b = 1 then s.2.1 else 1 - s.2.1
def adb (s : Nat × Int32 × (Nat → Int32)) (b : Int32) : Nat × Int32 × (Nat → Int32) :=
  (s.1 + 1, lvl s b, upd s.2.2 (s.1 / 8) ((if s.1 % 8 = 0 then 0 else s.2.2 (s.1 / 8)) ||| (lvl s b <<< ((7 - nI (s.1 % 8)) &&& 31))))
def COut (C : Mem) (s : Nat × Int32 × (Nat → Int32)) : Prop := C.1 9 1 = nI s.1 ∧ C.1 9 2 = s.2.1 ∧ (s.2.1 = 0 ∨ s.2.1 = 1) ∧ ∀ k, 8 * k < s.1 → C.1 10 k &&& 255 = s.2.2 k
def MOut (X : Mem) (s : Nat × Int32 × (Nat → Int32)) : Prop := X.1 35 27 = nI s.1 ∧ X.1 35 25 = s.2.1 ∧ (s.2.1 = 0 ∨ s.2.1 = 1) ∧ ∀ k, 8 * k < s.1 → X.1 49 k = s.2.2 k
theorem lvl_01 {s : Nat × Int32 × (Nat → Int32)} {b : Int32} (h : s.2.1 = 0 ∨ s.2.1 = 1) : lvl s b = 0 ∨ lvl s b = 1 := by
  unfold lvl
  by_cases hb : b = 1
  · rw [if_pos hb]; exact h
  · rw [if_neg hb]
    rcases h with h | h
    · rw [h]; exact Or.inr rfl
    · rw [h]; exact Or.inl rfl
theorem sh255 : ∀ r, r < 8 → ((1 : Int32) <<< ((7 - nI r) &&& 31)) &&& 255 = (1 : Int32) <<< ((7 - nI r) &&& 31) := by decide +kernel
theorem sh0 : ∀ r, r < 8 → ((0 : Int32) <<< ((7 - nI r) &&& 31)) &&& 255 = (0 : Int32) <<< ((7 - nI r) &&& 31) := by decide +kernel
theorem byteOr {x y : Int32} (h : y &&& 255 = y) : (Int32.toInt8 (x ||| y)).toInt32 &&& 255 = (x &&& 255) ||| y := by
  rw [bp_b]
  rw [← h]
  refine b_ext fun i hi => ?_
  rw [b_and, b_or, b_or, b_and, b_and]
  cases bt x i <;> cases bt y i <;> cases bt 255 i <;> rfl
theorem adb_at {s : Nat × Int32 × (Nat → Int32)} {b : Int32} : (adb s b).2.2 (s.1 / 8) = (if s.1 % 8 = 0 then 0 else s.2.2 (s.1 / 8)) ||| (lvl s b <<< ((7 - nI (s.1 % 8)) &&& 31)) := by
  unfold adb upd
  dsimp only
  rw [if_pos rfl]
theorem adb_ne {s : Nat × Int32 × (Nat → Int32)} {b : Int32} {k : Nat} (h : k ≠ s.1 / 8) : (adb s b).2.2 k = s.2.2 k := by
  unfold adb upd
  dsimp only
  rw [if_neg h]
theorem P_caddBit {s : Nat × Int32 × (Nat → Int32)} {b : Int32} {M : Mem} {Q : Mem → Prop} (h : COut M s) (hn : s.1 < 128)
    (hQ : ∀ N, Same [9, 10] M N → COut N (adb s b) → N.1 9 3 = M.1 9 3 → N.1 9 4 = M.1 9 4 → Q N) : P_Sender_addBit b M Q := by
  obtain ⟨h1, h2, h3, h4⟩ := h
  have hl := lvl_01 (b := b) h3
  have hr : s.1 % 8 < 8 := Nat.mod_lt _ (by omega)
  have hy : (lvl s b <<< ((7 - nI (s.1 % 8)) &&& 31)) &&& 255 = lvl s b <<< ((7 - nI (s.1 % 8)) &&& 31) := by
    rcases hl with hl | hl
    · rw [hl]; exact sh0 _ hr
    · rw [hl]; exact sh255 _ hr
  have fin : ∀ x : Int32, x &&& 255 = (if s.1 % 8 = 0 then 0 else s.2.2 (s.1 / 8)) → Q (putI (putI (putI M 9 2 (lvl s b)) 10 (s.1 / 8) (Int32.toInt8 (x ||| (lvl s b <<< ((7 - nI (s.1 % 8)) &&& 31)))).toInt32) 9 1 (nI (s.1 + 1))) := fun x hx => by
    refine hQ _ ((((Same.refl _ _).putI (by simp)).putI (by simp)).putI (by simp)) ⟨rfl, rfl, hl, fun k hk => ?_⟩ rfl rfl
    have hk : 8 * k < s.1 + 1 := hk
    rw [putI_ne1 (by omega), putI_at]
    by_cases hks : k = s.1 / 8
    · rw [if_pos ⟨rfl, hks⟩, byteOr hy, hx, hks, adb_at]
    · rw [if_neg (fun x => hks x.2), putI_ne1 (by omega), adb_ne hks]
      exact h4 k (by omega)
  have b56 : ∀ x : Int32, x &&& 255 = (if s.1 % 8 = 0 then 0 else s.2.2 (s.1 / 8)) → P_Sender_addBit_56 Q (nI (s.1 / 8)) x (putI M 9 2 (lvl s b)) := fun x hx => by
    unfold P_Sender_addBit_56
    rw [show (putI M 9 2 (lvl s b)).1 9 1 = nI s.1 from h1, show (putI M 9 2 (lvl s b)).1 9 2 = lvl s b from rfl, pk_andN (by omega) (m := 7) 3 (by decide), cl_nI (n := s.1 / 8) (by omega), nI_1]
    exact ⟨in_nI (by omega) (by omega), fin x hx⟩
  have b33 : P_Sender_addBit_33 Q (nI (s.1 / 8)) (lvl s b) M := by
    unfold P_Sender_addBit_33
    rw [h1, pk_andN (by omega) (m := 7) 3 (by decide), cl_nI (n := s.1 / 8) (by omega)]
    refine ⟨fun hz => ⟨in_nI (by omega) (by omega), b56 _ ?_⟩, fun hz => b56 _ ?_⟩
    · have : s.1 % 2 ^ 3 ≠ 0 := fun x => hz (by rw [x]; rfl)
      rw [if_neg (by omega), h4 _ (by omega)]
    · have : s.1 % 2 ^ 3 = 0 := (nI_eq (b := 0) (by omega) (by omega)).mp hz
      rw [if_pos (by omega)]
      rfl
  unfold P_Sender_addBit
  rw [h1, h2, pk_shrN (by omega) _ 3 (by decide)]
  refine br_T (nI_lt (b := 16) (by omega) (by omega)) ⟨fun hb => ?_, fun hb => ?_⟩
  · have : lvl s b = 1 - s.2.1 := by unfold lvl; rw [if_neg hb]
    rw [← this]
    exact b33
  · have : lvl s b = s.2.1 := by unfold lvl; rw [if_pos hb]
    rw [← this]
    exact b33
def MK (M N : Mem) : Prop := Same [35, 49] M N ∧ (∀ f, f ≠ 25 → f ≠ 27 → N.1 35 f = M.1 35 f) ∧ N.2 = M.2
theorem MK.trans {M N O : Mem} (h1 : MK M N) (h2 : MK N O) : MK M O := ⟨h1.1.trans h2.1, fun f f1 f2 => (h2.2.1 f f1 f2).trans (h1.2.1 f f1 f2), h2.2.2.trans h1.2.2⟩
theorem P_mlevel {s : Nat × Int32 × (Nat → Int32)} {b : Int32} {M : Mem} {Q : Mem → Prop} (h : MOut M s) (hn : s.1 < 480) (hb : b = 0 ∨ b = 1)
    (hQ : ∀ N, MK M N → MOut N (adb s b) → Q N) : P_Mo_level b M Q := by
  obtain ⟨h1, h2, h3, h4⟩ := h
  have hl := lvl_01 (b := b) h3
  have dv : nI s.1 / 8 = nI (s.1 / 8) := pk_div (d := 8) (by omega) (by omega) (by omega)
  have rm : nI s.1 - nI (s.1 / 8) * 8 = nI (s.1 % 8) := by
    have := pk_rem (a := s.1) (d := 8) (by omega) (by omega) (by omega)
    rw [pk_div (by omega) (by omega) (by omega)] at this
    exact this
  have fin : ∀ Y, Same [35, 49] M Y → (∀ f, f ≠ 25 → Y.1 35 f = M.1 35 f) → Y.2 = M.2 → Y.1 35 25 = lvl s b → (∀ k, 8 * k < s.1 → k ≠ s.1 / 8 → Y.1 49 k = s.2.2 k) → Y.1 49 (s.1 / 8) = (if s.1 % 8 = 0 then 0 else s.2.2 (s.1 / 8)) → P_Mo_level_37 Q Y := fun Y y1 y2 y3 y4 y5 y6 => by
    unfold P_Mo_level_37
    rw [show Y.1 35 27 = nI s.1 from (y2 27 (by omega)).trans h1, dv, rm, cl_nI (n := s.1 / 8) (by omega), y4, y6, nI_1]
    refine ⟨in_nI (by omega) (by omega), hQ _ ⟨(y1.putI (by simp)).putI (by simp), fun f f1 f2 => ?_, y3⟩ ⟨rfl, ?_, hl, fun k hk => ?_⟩⟩
    · rw [putI_at, if_neg (fun x => f2 x.2), putI_ne1 (by omega)]
      exact y2 f f1
    · rw [putI_at, if_neg (by omega), putI_ne1 (by omega)]
      exact y4
    · have hk : 8 * k < s.1 + 1 := hk
      rw [putI_ne1 (by omega), putI_at]
      by_cases hks : k = s.1 / 8
      · rw [if_pos ⟨rfl, hks⟩, hks, adb_at]
      · rw [if_neg (fun x => hks x.2), adb_ne hks]
        exact y5 k (by omega) hks
  have b14 : ∀ Y, Same [35, 49] M Y → (∀ f, f ≠ 25 → Y.1 35 f = M.1 35 f) → Y.2 = M.2 → Y.1 35 25 = lvl s b → Y.1 49 = M.1 49 → P_Mo_level_14 Q Y := fun Y y1 y2 y3 y4 y5 => by
    unfold P_Mo_level_14
    rw [show Y.1 35 27 = nI s.1 from (y2 27 (by omega)).trans h1, dv, rm, cl_nI (n := s.1 / 8) (by omega)]
    refine ⟨fun hz => fin Y y1 y2 y3 y4 (fun k hk _ => ?_) ?_, fun hz => ⟨in_nI (by omega) (by omega), fin _ (y1.putI (by simp)) (fun f f1 => ?_) y3 ?_ (fun k hk hks => ?_) ?_⟩⟩
    · rw [y5]; exact h4 k hk
    · have : s.1 % 8 ≠ 0 := fun x => hz (by rw [x]; rfl)
      rw [if_neg this, y5]
      exact h4 _ (by omega)
    · rw [putI_ne1 (by omega)]; exact y2 f f1
    · rw [putI_ne1 (by omega)]; exact y4
    · rw [putI_at, if_neg (fun x => hks x.2), y5]; exact h4 k hk
    · have : s.1 % 8 = 0 := (nI_eq (b := 0) (by omega) (by omega)).mp hz
      rw [if_pos this, putI_same]
  unfold P_Mo_level
  refine ⟨fun h0 => b14 M (Same.refl _ _) (fun _ _ => rfl) rfl ?_ rfl, fun h0 => b14 _ ((Same.refl _ _).putI (by simp)) (fun f f1 => ?_) rfl ?_ ?_⟩
  · have : b = 1 := by rcases hb with hb | hb; exact absurd hb h0; exact hb
    unfold lvl
    rw [if_pos this]; exact h2
  · rw [putI_at, if_neg (fun x => f1 x.2)]
  · rw [putI_same, h2]
    unfold lvl
    rw [h0, if_neg (by decide)]
  · rw [putI_ne1 (by omega)]
/-! marks -/
def mk1 (s : Nat × Int32 × (Nat → Int32)) : Nat → Nat × Int32 × (Nat → Int32)
  | 0 => s
  | n + 1 => adb (mk1 s n) 1
def markS (s : Nat × Int32 × (Nat → Int32)) : Nat × Int32 × (Nat → Int32) := adb (mk1 (adb s 0) 6) 0
theorem adb_n (s : Nat × Int32 × (Nat → Int32)) (b : Int32) : (adb s b).1 = s.1 + 1 := rfl
theorem mk1_n (s : Nat × Int32 × (Nat → Int32)) (n : Nat) : (mk1 s n).1 = s.1 + n := by
  induction n with
  | zero => rfl
  | succ n ih => unfold mk1; rw [adb_n, ih]; omega
theorem markS_n (s : Nat × Int32 × (Nat → Int32)) : (markS s).1 = s.1 + 8 := by
  unfold markS
  rw [adb_n, mk1_n, adb_n]
theorem P_cmark {s : Nat × Int32 × (Nat → Int32)} {M : Mem} {Q : Mem → Prop} (h : COut M s) (hn : s.1 + 8 ≤ 128)
    (hQ : ∀ N, Same [9, 10] M N → COut N (markS s) → Q N) : P_Sender_addMark M Q := by
  unfold P_Sender_addMark
  refine P_caddBit h (by omega) (fun N1 s1 o1 _ _ => ⟨7, ?_⟩)
  have key : ∀ d i, i + d = 6 → ∀ N, Same [9, 10] M N → COut N (mk1 (adb s 0) i) → P_Sender_addMark_7 Q (d + 1) (nI i) N := by
    intro d
    induction d with
    | zero =>
      intro i hi N hS hN
      have : i = 6 := by omega
      subst this
      unfold P_Sender_addMark_7
      refine br_T (by decide) (P_caddBit hN (by rw [mk1_n, adb_n]; omega) (fun O s2 o2 _ _ => hQ O (hS.trans s2) o2))
    | succ d ih =>
      intro i hi N hS hN
      unfold P_Sender_addMark_7
      rw [nI_1]
      exact br_F (nI_ge (b := 6) (by omega) (by omega)) (P_caddBit hN (by rw [mk1_n, adb_n]; omega) (fun O s2 o2 _ _ => ih (i + 1) (by omega) O (hS.trans s2) o2))
  exact key 6 0 rfl N1 s1 o1
theorem P_mmark {s : Nat × Int32 × (Nat → Int32)} {M : Mem} {Q : Mem → Prop} (h : MOut M s) (hn : s.1 + 8 ≤ 480)
    (hQ : ∀ N, MK M N → MOut N (markS s) → Q N) : P_Mo_mark M Q := by
  unfold P_Mo_mark
  refine P_mlevel h (by omega) (Or.inl rfl) (fun N1 s1 o1 => ⟨7, ?_⟩)
  have key : ∀ d i, i + d = 6 → ∀ N, MK M N → MOut N (mk1 (adb s 0) i) → P_Mo_mark_7 Q (d + 1) (nI i) N := by
    intro d
    induction d with
    | zero =>
      intro i hi N hS hN
      have : i = 6 := by omega
      subst this
      unfold P_Mo_mark_7
      refine br_T (by decide) (P_mlevel hN (by rw [mk1_n, adb_n]; omega) (Or.inl rfl) (fun O s2 o2 => hQ O (hS.trans s2) o2))
    | succ d ih =>
      intro i hi N hS hN
      unfold P_Mo_mark_7
      rw [nI_1]
      exact br_F (nI_ge (b := 6) (by omega) (by omega)) (P_mlevel hN (by rw [mk1_n, adb_n]; omega) (Or.inr rfl) (fun O s2 o2 => ih (i + 1) (by omega) O (hS.trans s2) o2))
  exact key 6 0 rfl N1 s1 o1
/-! the rest of a byte -/
def padS (s : Nat × Int32 × (Nat → Int32)) : Nat → Nat × Int32 × (Nat → Int32)
  | 0 => s
  | n + 1 => adb (padS s n) 0
theorem padS_n (s : Nat × Int32 × (Nat → Int32)) (n : Nat) : (padS s n).1 = s.1 + n := by
  induction n with
  | zero => rfl
  | succ n ih => unfold padS; rw [adb_n, ih]; omega
def restN (n : Nat) : Nat := (8 - n % 8) % 8
theorem P_cpad {s : Nat × Int32 × (Nat → Int32)} {M : Mem} {Q : Mem → Prop} (h : COut M s) (hn : s.1 ≤ 122)
    (hQ : ∀ N, Same [9, 10] M N → COut N (padS s (restN s.1)) → Q N) : ∃ m, P_Sender_tell_95 Q m 0 M := by
  have hr : restN s.1 < 8 := Nat.mod_lt _ (by omega)
  have hr2 : (s.1 + restN s.1) % 8 = 0 := by unfold restN; omega
  have hr3 : ∀ i, i < restN s.1 → (s.1 + i) % 8 ≠ 0 := by unfold restN; omega
  have key : ∀ d i, i + d = restN s.1 → ∀ N, Same [9, 10] M N → COut N (padS s i) → P_Sender_tell_95 Q (d + 1) (nI i) N := by
    intro d
    induction d with
    | zero =>
      intro i hi N hS hN
      have : i = restN s.1 := by omega
      subst this
      unfold P_Sender_tell_95
      rw [hN.1, padS_n, pk_andN (by omega) (m := 7) 3 (by decide)]
      exact br_F (nI_ge (b := 8) (by omega) (by omega)) (br_T (by rw [show (s.1 + restN s.1) % 2 ^ 3 = 0 from hr2]; rfl) (hQ N hS hN))
    | succ d ih =>
      intro i hi N hS hN
      unfold P_Sender_tell_95
      have := hr3 i (by omega)
      rw [hN.1, padS_n, pk_andN (by omega) (m := 7) 3 (by decide), nI_1]
      exact br_F (nI_ge (b := 8) (by omega) (by omega)) (br_F (by rw [show (0 : Int32) = nI 0 from rfl, nI_eq (by omega) (by omega)]; exact this) (P_caddBit hN (by rw [padS_n]; omega) (fun O s2 o2 _ _ => ih (i + 1) (by omega) O (hS.trans s2) o2)))
  exact ⟨restN s.1 + 1, key _ 0 (by omega) M (Same.refl _ _) h⟩
theorem P_mpad {s : Nat × Int32 × (Nat → Int32)} {M : Mem} {Q : Int32 → Mem → Prop} (h : MOut M s) (hn : s.1 ≤ 400)
    (hQ : ∀ N, MK M N → MOut N (padS s (restN s.1)) → Q (nI ((s.1 + restN s.1) / 8)) (putI N 35 23 (nI ((s.1 + restN s.1) / 8)))) : ∃ m, P_Mo_build_201 Q m M := by
  have hr : restN s.1 < 8 := Nat.mod_lt _ (by omega)
  have hr2 : (s.1 + restN s.1) % 8 = 0 := by unfold restN; omega
  have hr3 : ∀ i, i < restN s.1 → (s.1 + i) % 8 ≠ 0 := by unfold restN; omega
  have dv : ∀ n, n < 1000 → nI n / 8 = nI (n / 8) := fun n hn => pk_div (d := 8) (by omega) (by omega) (by omega)
  have rm : ∀ n, n < 1000 → nI n - nI (n / 8) * 8 = nI (n % 8) := fun n hn => by
    have := pk_rem (a := n) (d := 8) (by omega) (by omega) (by omega)
    rw [pk_div (by omega) (by omega) (by omega)] at this
    exact this
  have key : ∀ d i, i + d = restN s.1 → ∀ N, MK M N → MOut N (padS s i) → P_Mo_build_201 Q (d + 1) N := by
    intro d
    induction d with
    | zero =>
      intro i hi N hS hN
      have : i = restN s.1 := by omega
      subst this
      unfold P_Mo_build_201
      rw [hN.1, padS_n, dv _ (by omega), rm _ (by omega)]
      exact br_T (by rw [hr2]; rfl) (hQ N hS hN)
    | succ d ih =>
      intro i hi N hS hN
      unfold P_Mo_build_201
      have := hr3 i (by omega)
      rw [hN.1, padS_n, dv _ (by omega), rm _ (by omega)]
      exact br_F (by rw [show (0 : Int32) = nI 0 from rfl, nI_eq (by omega) (by omega)]; exact this) (P_mlevel hN (by rw [padS_n]; omega) (Or.inl rfl) (fun O s2 o2 => ih (i + 1) (by omega) O (hS.trans s2) o2))
  exact ⟨restN s.1 + 1, key _ 0 (by omega) M ⟨Same.refl _ _, fun _ _ _ => rfl, rfl⟩ h⟩
/-! stuffing -/
def tst (t : (Nat × Int32 × (Nat → Int32)) × Nat) (b : Int32) : (Nat × Int32 × (Nat → Int32)) × Nat :=
  if (if b = 1 then t.2 + 1 else 0) = 5 then (adb (adb t.1 b) 0, 0) else (adb t.1 b, if b = 1 then t.2 + 1 else 0)
def BT (t : (Nat × Int32 × (Nat → Int32)) × Nat) (i : Nat) : Prop := 5 * t.1.1 + t.2 ≤ 45 + 6 * i ∧ t.2 < 5
theorem BT.step {t : (Nat × Int32 × (Nat → Int32)) × Nat} {i : Nat} {b : Int32} (h : BT t i) : BT (tst t b) (i + 1) := by
  obtain ⟨h1, h2⟩ := h
  unfold tst
  by_cases hb : b = 1
  · rw [if_pos hb]
    by_cases h5 : t.2 + 1 = 5
    · rw [if_pos h5]
      refine ⟨?_, by omega⟩
      show 5 * (t.1.1 + 1 + 1) + 0 ≤ _
      omega
    · rw [if_neg h5]
      refine ⟨?_, ?_⟩
      · show 5 * (t.1.1 + 1) + (t.2 + 1) ≤ _
        omega
      · show t.2 + 1 < 5
        omega
  · rw [if_neg hb, if_neg (by omega)]
    refine ⟨?_, by show 0 < 5; omega⟩
    show 5 * (t.1.1 + 1) + 0 ≤ _
    omega
def CSt (C : Mem) (t : (Nat × Int32 × (Nat → Int32)) × Nat) (c : Int32) : Prop := COut C t.1 ∧ C.1 9 3 = nI t.2 ∧ C.1 9 4 = c
theorem P_stuffed {t : (Nat × Int32 × (Nat → Int32)) × Nat} {c b : Int32} {i : Nat} {M : Mem} {Q : Mem → Prop} (h : CSt M t c) (hB : BT t i) (hi : i ≤ 90)
    (hQ : ∀ N, Same [9, 10] M N → CSt N (tst t b) (dbl c b) → Q N) : P_Sender_addStuffed b M Q := by
  obtain ⟨h1, h2, h3⟩ := h
  obtain ⟨b1, b2⟩ := hB
  unfold P_Sender_addStuffed
  rw [h3]
  refine P_checkAfter (P_caddBit (s := t.1) ⟨h1.1, h1.2.1, h1.2.2.1, h1.2.2.2⟩ (by omega) (fun N s1 o1 e3 e4 => ?_))
  have e3 : N.1 9 3 = nI t.2 := e3.trans h2
  have e4 : N.1 9 4 = dbl c b := e4
  have sM : Same [9, 10] M N := ((Same.refl _ _).putI (by simp)).trans s1
  have fin : ∀ o : Nat, o ≤ 5 → (if b = 1 then t.2 + 1 else 0) = o → P_Sender_addStuffed_33 Q (nI o) N := fun o ho hoe => by
    unfold P_Sender_addStuffed_33
    refine ⟨fun h5 => hQ _ (sM.putI (by simp)) ⟨?_, ?_, ?_⟩, fun h5 => ?_⟩
    · have : ¬ o = 5 := fun x => h5 (by rw [x]; rfl)
      unfold tst
      rw [hoe, if_neg this]
      exact ⟨o1.1, o1.2.1, o1.2.2.1, o1.2.2.2⟩
    · have : ¬ o = 5 := fun x => h5 (by rw [x]; rfl)
      unfold tst
      rw [hoe, if_neg this]
      rfl
    · exact e4
    · have h5 : o = 5 := (nI_eq (b := 5) (by omega) (by omega)).mp h5
      subst h5
      refine P_caddBit (s := adb t.1 b) ⟨o1.1, o1.2.1, o1.2.2.1, o1.2.2.2⟩ (by rw [adb_n]; omega) (fun O s2 o2 _ e4' => hQ _ (((sM.putI (by simp)).trans s2).putI (by simp)) ⟨?_, ?_, ?_⟩)
      · unfold tst
        rw [hoe, if_pos rfl]
        exact ⟨o2.1, o2.2.1, o2.2.2.1, o2.2.2.2⟩
      · unfold tst
        rw [hoe, if_pos rfl]
        rfl
      · exact e4'.trans e4
  refine ⟨fun hb => fin 0 (by omega) (by rw [if_neg hb]), fun hb => ?_⟩
  rw [e3, nI_1]
  exact fin (t.2 + 1) (by omega) (by rw [if_pos hb])
