/-! numbers, bit by bit -/
def bitV (v : Int32) (j : Nat) : Int32 := (v >>> (nI j &&& 31)) &&& 1
def nbL (v : Int32) : Nat → List Int32
  | 0 => []
  | w + 1 => bitV v w :: nbL v w
theorem nbL_len (v : Int32) (w : Nat) : (nbL v w).length = w := by
  induction w with
  | zero => rfl
  | succ w ih => unfold nbL; rw [List.length_cons, ih]
theorem nbL_01 (v : Int32) (w : Nat) : ∀ b ∈ nbL v w, b = 0 ∨ b = 1 := by
  induction w with
  | zero => intro b hb; cases hb
  | succ w ih =>
    intro b hb
    unfold nbL at hb
    rcases List.mem_cons.mp hb with h | h
    · rw [h]; exact one_bit _
    · exact ih b h
def tsL (t : (Nat × Int32 × (Nat → Int32)) × Nat) (l : List Int32) : (Nat × Int32 × (Nat → Int32)) × Nat := l.foldl tst t
def ckL (c : Int32) (l : List Int32) : Int32 := l.foldl dbl c
theorem tsL_app (t : (Nat × Int32 × (Nat → Int32)) × Nat) (l m : List Int32) : tsL t (l ++ m) = tsL (tsL t l) m := List.foldl_append
theorem ckL_app (c : Int32) (l m : List Int32) : ckL c (l ++ m) = ckL (ckL c l) m := List.foldl_append
theorem BT.list {t : (Nat × Int32 × (Nat → Int32)) × Nat} {i : Nat} (l : List Int32) (h : BT t i) : BT (tsL t l) (i + l.length) := by
  induction l generalizing t i with
  | nil => exact h
  | cons b l ih =>
    have := ih (h.step (b := b))
    rw [List.length_cons, show i + (l.length + 1) = i + 1 + l.length by omega]
    exact this
theorem P_caddNumber {t : (Nat × Int32 × (Nat → Int32)) × Nat} {c v : Int32} {i w : Nat} {M : Mem} {Q : Mem → Prop} (h : CSt M t c) (hB : BT t i) (hi : i + w ≤ 90) (hw : w ≤ 31)
    (hQ : ∀ N, Same [9, 10] M N → CSt N (tsL t (nbL v w)) (ckL c (nbL v w)) → Q N) : P_Sender_addNumber v (nI w) M Q := by
  have key : ∀ w, w ≤ 31 → ∀ (t : (Nat × Int32 × (Nat → Int32)) × Nat) (c : Int32) (i : Nat) (N : Mem), CSt N t c → BT t i → i + w ≤ 90 → Same [9, 10] M N → (∀ O, Same [9, 10] M O → CSt O (tsL t (nbL v w)) (ckL c (nbL v w)) → Q O) → P_Sender_addNumber_4 Q (w + 1) v (nI w - 1) N := by
    intro w
    induction w with
    | zero =>
      intro _ t c i N hN hB hi hS hQ
      unfold P_Sender_addNumber_4
      exact br_T (by decide) (hQ N hS hN)
    | succ w ih =>
      intro hw t c i N hN hB hi hS hQ
      unfold P_Sender_addNumber_4
      rw [show nI (w + 1) - 1 = nI w from pk_sub (a := w + 1) (b := 1) (by omega), nI_m1]
      exact br_F (nI_pos (by omega)) (P_stuffed hN hB (by omega) (fun O s1 h1 => ih (by omega) _ _ (i + 1) O h1 hB.step (by omega) (hS.trans s1) hQ))
  unfold P_Sender_addNumber
  exact ⟨w + 1, key w hw t c i M h hB hi (Same.refl _ _) hQ⟩
/-! what is told: the numbers with their widths -/
def wd (l : List (Int32 × Nat)) : List Int32 := l.flatMap (fun p => nbL p.1 p.2)
def s00 : Nat × Int32 × (Nat → Int32) := (0, 0, fun _ => 0)
def sMk : Nat × Int32 × (Nat → Int32) := markS (adb s00 0)
/-- the whole line of a word -/
def lineS (l : List Int32) : Nat × Int32 × (Nat → Int32) := padS (markS (tsL (sMk, 0) (l ++ nbL (ckL 65535 l ^^^ 65535) 16)).1) (restN (markS (tsL (sMk, 0) (l ++ nbL (ckL 65535 l ^^^ 65535) 16)).1).1)
theorem BT0 : BT (sMk, 0) 0 := by
  unfold BT sMk
  dsimp only
  rw [markS_n, adb_n]
  unfold s00
  dsimp only
  omega
theorem line_n {l : List Int32} (hl : l.length ≤ 72) : (markS (tsL (sMk, 0) (l ++ nbL (ckL 65535 l ^^^ 65535) 16)).1).1 ≤ 122 := by
  have h := BT0.list (l ++ nbL (ckL 65535 l ^^^ 65535) 16)
  rw [List.length_append, nbL_len] at h
  obtain ⟨h1, h2⟩ := h
  rw [markS_n]
  omega
theorem P_tell {M : Mem} {Q : Mem → Prop} {k : Nat} (hk : M.1 7 1 = nI k) (h1 : 1 ≤ k) (h5 : k ≤ 5)
    (hQ : ∀ N, Same [9, 10] M N → COut N (lineS (nbL (nI k) 4 ++ nbL (M.1 7 2) 20 ++ nbL (M.1 8 0) (fw k 0) ++ nbL (M.1 8 1) (fw k 1) ++ nbL (M.1 8 2) (fw k 2) ++ nbL (M.1 8 3) (fw k 3))) → Q N) : P_Sender_tell M Q := by
  have hw := fun i hi => fw_le k (by omega) i hi
  have ho := (fo_le k (by omega) 4 (by omega)).2
  have eo : fo k 4 = 0 + fw k 0 + fw k 1 + fw k 2 + fw k 3 := rfl
  unfold P_Sender_tell
  refine P_caddBit (s := s00) ⟨rfl, rfl, Or.inl rfl, fun k hk => absurd hk (Nat.not_lt_zero _)⟩ (by show 0 < 128; omega) (fun N1 s1 o1 _ _ => ?_)
  refine P_cmark o1 (by rw [adb_n]; show 0 + 1 + 8 ≤ 128; omega) (fun N2 s2 o2 => ?_)
  have s12 : Same [9, 10] M N2 := ((((Same.refl _ _).putI (by simp)).putI (by simp)).trans s1).trans s2
  unfold P_Telling_kind P_Telling_ship
  dsimp only
  rw [show (putI (putI N2 9 3 0) 9 4 65535).1 7 1 = nI k by show N2.1 7 1 = nI k; rw [(s12 7 (by decide)).1]; exact hk]
  have c2 : CSt (putI (putI N2 9 3 0) 9 4 65535) (sMk, 0) 65535 := ⟨⟨o2.1, o2.2.1, o2.2.2.1, o2.2.2.2⟩, rfl, rfl⟩
  refine P_caddNumber (w := 4) (i := 0) c2 BT0 (by omega) (by omega) (fun N3 s3 c3 => ?_)
  have s13 : Same [9, 10] M N3 := ((s12.putI (by simp)).putI (by simp)).trans s3
  rw [(s13 7 (by decide)).1]
  have b3 := BT0.list (nbL (nI k) 4)
  rw [nbL_len] at b3
  refine P_caddNumber (w := 20) (i := 0 + 4) c3 b3 (by omega) (by omega) (fun N4 s4 c4 => ⟨5, ?_⟩)
  have s14 : Same [9, 10] M N4 := s13.trans s4
  have b4 := b3.list (nbL (M.1 7 2) 20)
  rw [nbL_len] at b4
  rw [← tsL_app, ← ckL_app] at c4
  rw [← tsL_app] at b4
  have step : ∀ i, i < 4 → ∀ (N : Mem) (n : Nat) (L : List Int32), Same [9, 10] M N → CSt N (tsL (sMk, 0) L) (ckL 65535 L) → BT (tsL (sMk, 0) L) n → n + fw k i ≤ 90 → (∀ O, Same [9, 10] M O → CSt O (tsL (sMk, 0) (L ++ nbL (M.1 8 i) (fw k i))) (ckL 65535 (L ++ nbL (M.1 8 i) (fw k i))) → P_Sender_tell_51 Q (4 - i) (nI (i + 1)) O) → P_Sender_tell_51 Q (4 - i + 1) (nI i) N := fun i hi N n L sN cN bN hn hO => by
    unfold P_Sender_tell_51 P_Telling_number
    dsimp only
    have n7 : N.1 7 1 = nI k := by rw [(sN 7 (by decide)).1]; exact hk
    refine br_F (nI_ge (b := 4) (by omega) (by omega)) (br_F (nI_pos (by omega)) (br_F (nI_ge (b := 4) (by omega) (by omega)) ⟨in_nI (by omega) (by omega), P_width n7 h1 h5 hi ?_⟩))
    rw [cl_nI (by omega), (sN 8 (by decide)).1, nI_1]
    refine P_caddNumber (i := n) cN bN hn (hw i hi) (fun O sO cO => ?_)
    rw [← tsL_app, ← ckL_app] at cO
    exact hO O (sN.trans sO) cO
  have blen : ∀ {n : Nat} {L : List Int32} (v : Int32) (w : Nat), BT (tsL (sMk, 0) L) n → BT (tsL (sMk, 0) (L ++ nbL v w)) (n + w) := fun {n L} v w h => by
    have := h.list (nbL v w)
    rw [nbL_len, ← tsL_app] at this
    exact this
  have w0 := hw 0 (by omega)
  have w1 := hw 1 (by omega)
  have w2 := hw 2 (by omega)
  have w3 := hw 3 (by omega)
  refine step 0 (by omega) N4 24 _ s14 c4 b4 (by omega) (fun N5 s5 c5 => ?_)
  have b5 := blen (M.1 8 0) (fw k 0) b4
  refine step 1 (by omega) N5 _ _ s5 c5 b5 (by omega) (fun N6 s6 c6 => ?_)
  have b6 := blen (M.1 8 1) (fw k 1) b5
  refine step 2 (by omega) N6 _ _ s6 c6 b6 (by omega) (fun N7 s7 c7 => ?_)
  have b7 := blen (M.1 8 2) (fw k 2) b6
  refine step 3 (by omega) N7 _ _ s7 c7 b7 (by omega) (fun N8 s8 c8 => ?_)
  have b8 := blen (M.1 8 3) (fw k 3) b7
  have hlen : (nbL (nI k) 4 ++ nbL (M.1 7 2) 20 ++ nbL (M.1 8 0) (fw k 0) ++ nbL (M.1 8 1) (fw k 1) ++ nbL (M.1 8 2) (fw k 2) ++ nbL (M.1 8 3) (fw k 3)).length ≤ 72 := by
    rw [List.length_append, List.length_append, List.length_append, List.length_append, List.length_append, nbL_len, nbL_len, nbL_len, nbL_len, nbL_len, nbL_len]
    omega
  generalize nbL (nI k) 4 ++ nbL (M.1 7 2) 20 ++ nbL (M.1 8 0) (fw k 0) ++ nbL (M.1 8 1) (fw k 1) ++ nbL (M.1 8 2) (fw k 2) ++ nbL (M.1 8 3) (fw k 3) = L at *
  unfold P_Sender_tell_51
  refine br_T (by decide) ?_
  rw [c8.2.2]
  refine P_caddNumber (w := 16) c8 b8 (by omega) (by omega) (fun N9 s9 c9 => ?_)
  rw [← tsL_app] at c9
  have hn := line_n hlen
  rw [markS_n] at hn
  refine P_cmark c9.1 (by omega) (fun N10 s10 o10 => ?_)
  refine P_cpad o10 (line_n hlen) (fun N11 s11 o11 => hQ N11 (((s8.trans s9).trans s10).trans s11) o11)
/-! the model's word -/
def WRD (X : Mem) (l : List Int32) : Prop := X.1 35 24 = nI l.length ∧ ∀ j (h : j < l.length), X.1 50 j = l[j]
def MW (M N : Mem) : Prop := Same [35, 50] M N ∧ (∀ f, f ≠ 24 → N.1 35 f = M.1 35 f) ∧ N.2 = M.2
theorem MW.trans {M N O : Mem} (h1 : MW M N) (h2 : MW N O) : MW M O := ⟨h1.1.trans h2.1, fun f f1 => (h2.2.1 f f1).trans (h1.2.1 f f1), h2.2.2.trans h1.2.2⟩
theorem MW.refl (M : Mem) : MW M M := ⟨Same.refl _ _, fun _ _ => rfl, rfl⟩
theorem P_say {M : Mem} {Q : Mem → Prop} {l : List Int32} {v : Int32} {w : Nat} (h : WRD M l) (hl : l.length + w ≤ 120) (hw : w ≤ 31)
    (hQ : ∀ N, MW M N → WRD N (l ++ nbL v w) → Q N) : P_Mo_say v (nI w) M Q := by
  have key : ∀ w, w ≤ 31 → ∀ (l : List Int32) (N : Mem), l.length + w ≤ 120 → MW M N → WRD N l → (∀ O, MW M O → WRD O (l ++ nbL v w) → Q O) → P_Mo_say_4 Q (w + 1) v (nI w - 1) N := by
    intro w
    induction w with
    | zero =>
      intro _ l N hl hS hN hQ
      unfold P_Mo_say_4
      exact br_T (by decide) (hQ N hS (by unfold nbL; rw [List.append_nil]; exact hN))
    | succ w ih =>
      intro hw l N hl hS hN hQ
      unfold P_Mo_say_4
      rw [show nI (w + 1) - 1 = nI w from pk_sub (a := w + 1) (b := 1) (by omega), nI_m1, hN.1, cl_nI (n := l.length) (by omega), nI_1]
      refine br_F (nI_pos (by omega)) ⟨in_nI (by omega) (by omega), ih (by omega) (l ++ [bitV v w]) _ (by rw [List.length_append, List.length_singleton]; omega) (hS.trans ⟨((Same.refl _ _).putI (by simp)).putI (by simp), fun f hf => ?_, rfl⟩) ⟨?_, fun j hj => ?_⟩ (fun O h1 h2 => hQ O h1 ?_)⟩
      · rw [putI_at, if_neg (fun x => hf x.2), putI_ne1 (by omega)]
      · rw [List.length_append, List.length_singleton]; rfl
      · rw [putI_ne1 (by omega), putI_at]
        rw [List.length_append, List.length_singleton] at hj
        by_cases hjl : j = l.length
        · rw [if_pos ⟨rfl, hjl⟩]
          subst hjl
          rw [List.getElem_append_right (Nat.le_refl _)]
          simp
          rfl
        · rw [if_neg (fun x => hjl x.2), List.getElem_append_left (by omega)]
          exact hN.2 j (by omega)
      · rw [List.append_assoc] at h2
        exact h2
  unfold P_Mo_say
  exact ⟨w + 1, key w hw l M hl (MW.refl M) h hQ⟩
theorem ckL_take {l : List Int32} {i : Nat} (h : i < l.length) : ckL 65535 (l.take (i + 1)) = dbl (ckL 65535 (l.take i)) l[i] := by
  rw [List.take_succ_eq_append_getElem h, ckL_app]
  rfl
theorem tsL_take {t : (Nat × Int32 × (Nat → Int32)) × Nat} {l : List Int32} {i : Nat} (h : i < l.length) : tsL t (l.take (i + 1)) = tst (tsL t (l.take i)) l[i] := by
  rw [List.take_succ_eq_append_getElem h, tsL_app]
  rfl
theorem P_mbuild {M : Mem} {Q : Int32 → Mem → Prop} {l : List Int32} (h : WRD M l) (hl : l.length ≤ 72) (h01 : ∀ b ∈ l, b = 0 ∨ b = 1)
    (hQ : ∀ N, Same [35, 49, 50] M N → (∀ f, f ≠ 23 → f ≠ 24 → f ≠ 25 → f ≠ 27 → N.1 35 f = M.1 35 f) → N.2 = M.2 → MOut N (lineS l) → N.1 35 23 = nI ((lineS l).1 / 8) → Q (nI ((lineS l).1 / 8)) N) : ∃ m, P_Mo_build_68 Q m 65535 0 M := by
  have hn := line_n hl
  have ln : (lineS l).1 = (markS (tsL (sMk, 0) (l ++ nbL (ckL 65535 l ^^^ 65535) 16)).1).1 + restN (markS (tsL (sMk, 0) (l ++ nbL (ckL 65535 l ^^^ 65535) 16)).1).1 := by
    unfold lineS
    rw [padS_n]
  have stf : ∀ L : List Int32, L = l ++ nbL (ckL 65535 l ^^^ 65535) 16 → ∀ Y, WRD Y L → Same [35, 49, 50] M Y → (∀ f, f ≠ 24 → f ≠ 25 → f ≠ 27 → Y.1 35 f = M.1 35 f) → Y.2 = M.2 → MOut Y sMk → ∃ m, P_Mo_build_133 Q m 0 0 Y := by
    intro L eL Y wY sY fY lY oY
    have hLl : L.length = l.length + 16 := by rw [eL, List.length_append, nbL_len]
    have hL01 : ∀ b ∈ L, b = 0 ∨ b = 1 := fun b hb => by
      rw [eL] at hb
      rcases List.mem_append.mp hb with hb | hb
      · exact h01 b hb
      · exact nbL_01 _ _ b hb
    have key : ∀ d i, i + d = L.length → ∀ N, MK Y N → MOut N (tsL (sMk, 0) (L.take i)).1 → P_Mo_build_133 Q (d + 1) (nI (tsL (sMk, 0) (L.take i)).2) (nI i) N := by
      intro d
      induction d with
      | zero =>
        intro i hi N kN oN
        have : i = L.length := by omega
        subst this
        rw [List.take_length] at oN ⊢
        have n24 : N.1 35 24 = nI L.length := (kN.2.1 24 (by omega) (by omega)).trans wY.1
        unfold P_Mo_build_133
        rw [n24]
        rw [eL] at oN
        have hn2 := hn
        rw [markS_n] at hn2
        refine br_T (nI_le (by omega) (by omega)) (P_mmark oN (by omega) (fun O kO oO => P_mpad oO (by omega) (fun O2 kO2 oO2 => ?_)))
        rw [← ln]
        have k3 := (kN.trans kO).trans kO2
        refine hQ _ (((sY.trans (k3.1.mono (by simp)))).putI (by simp)) (fun f f1 f2 f3 f4 => ?_) (k3.2.2.trans lY) ?_ rfl
        · rw [putI_at, if_neg (fun x => f1 x.2)]
          exact (k3.2.1 f f3 f4).trans (fY f f2 f3 f4)
        · exact ⟨oO2.1, oO2.2.1, oO2.2.2.1, oO2.2.2.2⟩
      | succ d ih =>
        intro i hi N kN oN
        have hil : i < L.length := by omega
        have n24 : N.1 35 24 = nI L.length := (kN.2.1 24 (by omega) (by omega)).trans wY.1
        have n50 : N.1 50 i = L[i] := by rw [(kN.1 50 (by decide)).1]; exact wY.2 i hil
        have hb : L[i] = 0 ∨ L[i] = 1 := hL01 _ (List.getElem_mem hil)
        have bt := BT0.list (L.take i)
        rw [List.length_take, Nat.min_eq_left (by omega)] at bt
        obtain ⟨bt1, bt2⟩ := bt
        have nx : ∀ O, MK Y O → MOut O (tsL (sMk, 0) (L.take (i + 1))).1 → P_Mo_build_133 Q (d + 1) (nI (tsL (sMk, 0) (L.take (i + 1))).2) (nI (i + 1)) O := fun O kO oO => ih (i + 1) (by omega) O kO oO
        rw [tsL_take hil] at nx
        generalize tsL (sMk, 0) (L.take i) = t at *
        unfold P_Mo_build_133
        rw [n24, cl_nI (n := i) (by omega), n50]
        refine br_F (nI_ge (by omega) (by omega)) ⟨in_nI (by omega) (by omega), P_mlevel oN (by omega) hb (fun O kO oO => ?_)⟩
        have o50 : O.1 50 i = L[i] := by rw [(kO.1 50 (by decide)).1]; exact n50
        rw [o50]
        have kYO := kN.trans kO
        have fin : ∀ o : Nat, o ≤ 5 → (if L[i] = 1 then t.2 + 1 else 0) = o → P_Mo_build_172 (fun v8 v9 M => P_Mo_build_133 Q (d + 1) v8 v9 M) Q (nI i) (nI o) O := fun o ho hoe => by
          unfold P_Mo_build_172
          unfold tst at nx
          rw [hoe] at nx
          rw [nI_1 i]
          refine ⟨fun h5 => ?_, fun h5 => ?_⟩
          · have h5 : o = 5 := by have := (nle_of (e := 5) (by omega) (by omega)).mp h5; omega
            rw [if_pos h5] at nx
            exact P_mlevel oO (by rw [adb_n]; omega) (Or.inl rfl) (fun O2 kO2 oO2 => nx O2 (kYO.trans kO2) oO2)
          · have h5 : ¬ o = 5 := fun x => h5 (by rw [x]; decide)
            rw [if_neg h5] at nx
            exact nx O kYO oO
        refine ⟨fun h1 => fin 0 (by omega) (by rw [if_neg h1]), fun h1 => ?_⟩
        rw [nI_1]
        exact fin (t.2 + 1) (by omega) (by rw [if_pos h1])
    exact ⟨L.length + 1, key L.length 0 (by omega) Y ⟨Same.refl _ _, fun _ _ _ => rfl, rfl⟩ oY⟩
  have key : ∀ d i, i + d = l.length → P_Mo_build_68 Q (d + 1) (ckL 65535 (l.take i)) (nI i) M := by
    intro d
    induction d with
    | zero =>
      intro i hi
      have : i = l.length := by omega
      subst this
      rw [List.take_length]
      unfold P_Mo_build_68
      rw [h.1]
      refine br_T (nI_le (by omega) (by omega)) (P_say (w := 16) h (by omega) (by omega) (fun N9 k9 w9 => ?_))
      refine P_mlevel (s := s00) ⟨rfl, rfl, Or.inl rfl, fun k hk => absurd hk (Nat.not_lt_zero _)⟩ (by show 0 < 480; omega) (Or.inl rfl) (fun N10 k10 o10 => ?_)
      refine P_mmark o10 (by rw [adb_n]; show 0 + 1 + 8 ≤ 480; omega) (fun N11 k11 o11 => ?_)
      have kk := k10.trans k11
      refine stf _ rfl N11 ⟨?_, fun j hj => ?_⟩ ?_ (fun f f1 f2 f3 => ?_) ?_ o11
      · rw [kk.2.1 24 (by omega) (by omega)]; exact w9.1
      · rw [(kk.1 50 (by decide)).1]; exact w9.2 j hj
      · exact (((k9.1.mono (by simp)).putI (by simp)).putI (by simp)).trans (kk.1.mono (by simp))
      · rw [kk.2.1 f f2 f3, putI_at, if_neg (fun x => f2 x.2), putI_at, if_neg (fun x => f3 x.2)]
        exact k9.2.1 f f1
      · exact kk.2.2.trans k9.2.2
    | succ d ih =>
      intro i hi
      have hil : i < l.length := by omega
      unfold P_Mo_build_68
      rw [h.1, cl_nI (n := i) (by omega), h.2 i hil, nI_1]
      refine br_F (nI_ge (by omega) (by omega)) ⟨in_nI (by omega) (by omega), P_doubled ?_⟩
      have := ih (i + 1) (by omega)
      rw [ckL_take hil] at this
      exact this
  exact ⟨l.length + 1, key l.length 0 (by omega)⟩
