/-! the class makes a parting -/
theorem P_begin {n : Nat} {M : Mem} {Q : Mem → Prop} (h1 : 1 ≤ n) (hn : n ≤ 16)
    (hQ : ∀ N, Same [21, 22, 23, 24, 26, 27] M N → N.1 21 9 = nI n → N.1 21 10 = nI (2 * n) → (∀ i, i < 256 → (N.2 22 i).toInt = FORB) → (∀ c, c < 2 * n → (N.2 23 c).toInt = 0 ∧ (N.2 24 c).toInt = 0 ∧ N.1 26 c = -1 ∧ N.1 27 c = -1) → Q N) : P_Matching_begin (nI n) M Q := by
  have k50 : ∀ d c, c + d = 2 * n → ∀ N, Same [21, 22, 23, 24, 26, 27] M N → N.1 21 9 = nI n → N.1 21 10 = nI (2 * n) → (∀ i, i < 256 → (N.2 22 i).toInt = FORB) → (∀ x, x < c → (N.2 23 x).toInt = 0 ∧ (N.2 24 x).toInt = 0 ∧ N.1 26 x = -1 ∧ N.1 27 x = -1) → P_Matching_begin_50 Q (d + 1) (nI c) N := by
    intro d
    induction d with
    | zero =>
      intro c hc N sN a9 a10 a22 hN
      have : c = 2 * n := by omega
      subst this
      unfold P_Matching_begin_50
      rw [a10]
      exact br_T (nI_le (by omega) (by omega)) (hQ N sN a9 a10 a22 hN)
    | succ d ih =>
      intro c hc N sN a9 a10 a22 hN
      unfold P_Matching_begin_50
      rw [a10, nI_1, cl_nI (n := c) (by omega)]
      refine br_F (nI_ge (by omega) (by omega)) ⟨in_nI (by omega) (by omega), ih (c + 1) (by omega) _ ((((sN.putL (by simp)).putL (by simp)).putI (by simp)).putI (by simp)) a9 a10 a22 (fun x hx => ?_)⟩
      show ((putL (putL N 23 c 0) 24 c 0).2 23 x).toInt = 0 ∧ ((putL (putL N 23 c 0) 24 c 0).2 24 x).toInt = 0 ∧ (putI (putI N 26 c (-1)) 27 c (-1)).1 26 x = -1 ∧ (putI (putI N 26 c (-1)) 27 c (-1)).1 27 x = -1
      by_cases hxc : x = c
      · subst hxc
        rw [putL_at, if_neg (by omega), putL_at, if_pos ⟨rfl, rfl⟩, putL_at, if_pos ⟨rfl, rfl⟩, putI_ne1 (by omega), putI_same, putI_same]
        exact ⟨by decide, by decide, rfl, rfl⟩
      · obtain ⟨b1, b2, b3, b4⟩ := hN x (by omega)
        rw [putL_at, if_neg (by omega), putL_at, if_neg (fun y => hxc y.2), putL_at, if_neg (fun y => hxc y.2), putI_ne1 (by omega), putI_at, if_neg (fun y => hxc y.2), putI_at, if_neg (fun y => hxc y.2), putI_ne1 (by omega)]
        refine ⟨b1, ?_, b3, b4⟩
        show ((putL N 23 c 0).2 24 x).toInt = 0
        rw [putL_at, if_neg (by omega)]
        exact b2
  have k26 : ∀ d i, i + d = 256 → ∀ N, Same [21, 22, 23, 24, 26, 27] M N → N.1 21 9 = nI n → N.1 21 10 = nI (2 * n) → (∀ x, x < i → (N.2 22 x).toInt = FORB) → P_Matching_begin_26 Q (d + 1) (nI i) N := by
    intro d
    induction d with
    | zero =>
      intro i hi N sN a9 a10 hN
      have : i = 256 := by omega
      subst this
      unfold P_Matching_begin_26
      exact br_T (by decide) ⟨2 * n + 1, k50 (2 * n) 0 (by omega) N sN a9 a10 hN (fun x hx => absurd hx (Nat.not_lt_zero _))⟩
    | succ d ih =>
      intro i hi N sN a9 a10 hN
      unfold P_Matching_begin_26
      rw [nI_1, cl_nI (n := i) (by omega)]
      refine br_F (nI_ge (b := 256) (by omega) (by omega)) ⟨in_nI (by omega) (by omega), ih (i + 1) (by omega) _ (sN.putL (by simp)) a9 a10 (fun x hx => ?_)⟩
      rw [putL_at]
      by_cases hxi : x = i
      · rw [if_pos ⟨rfl, hxi⟩]; exact FORB_is
      · rw [if_neg (fun y => hxi y.2)]; exact hN x (by omega)
  unfold P_Matching_begin P_J9_min_7cf53 P_J9_max_7cf53
  refine br_F (nI_nlt (a := 16) (by omega) (by omega)) (br_T (nI_lt (a := 0) (by omega) (by omega)) ⟨257, ?_⟩)
  rw [show (2 : Int32) * nI n = nI (2 * n) from pk_mul 2 n]
  exact k26 256 0 rfl _ (((Same.refl _ _).putI (by simp)).putI (by simp)) rfl rfl (fun x hx => absurd hx (Nat.not_lt_zero _))
theorem if_iff {P R : Prop} [Decidable P] [Decidable R] {x y : Int} (h : P ↔ R) : (if P then x else y) = if R then x else y := by
  by_cases hp : P
  · rw [if_pos hp, if_pos (h.mp hp)]
  · rw [if_neg hp, if_neg (fun r => hp (h.mpr r))]
section Make
variable {n : Nat} {s : Nat → Nat} {sp : Int32}
/-- the pairs below (k, j) are allowed, where they may be -/
def AL (g : Nat → Int32) (s : Nat → Nat) (n : Nat) (sp : Int) (k j : Nat) (M : Mem) : Prop := M.1 21 9 = nI n ∧ M.1 21 10 = nI (2 * n) ∧ ∀ k' j', k' < n → j' < n → (M.2 22 (16 * k' + j')).toInt = if (k' < k ∨ (k' = k ∧ j' < j)) ∧ aP g s n sp k' j' = true then pP g s k' j' else FORB
theorem P_near {e k j : Nat} {M : Mem} {Q : Mem → Prop} (pr : PR (M.1 12) s n) (hn : n ≤ 16) (hk : k < n) (hj : j < k) (hsp : 1 ≤ sp.toInt ∧ sp.toInt ≤ 1000) (h11 : M.1 11 1 = nI e) (he : e ≤ 200) (h31 : ∀ i, i < n → M.1 31 i = nI (s i)) (hse : ∀ i, i < n → s i < e) (al : AL (M.1 12) s n sp.toInt k j M)
    (hQ : ∀ N, Same [22] M N → AL (M.1 12) s n sp.toInt k (j + 1) N → Q N) : P_Parting_allowIfNear (nI k) (nI j) sp M Q := by
  have hjn : j < n := by omega
  have hsk := hse k hk
  have hsj := hse j hjn
  unfold P_Parting_allowIfNear
  rw [cl_nI (n := k) (by omega), cl_nI (n := j) (by omega), h31 k hk, h31 j hjn]
  refine ⟨in_nI (by omega) (by omega), in_nI (by omega) (by omega), P_cell_in (f := 3) h11 he hsk (by omega) (P_cell_in (f := 3) h11 he hsj (by omega) (P_cell_in (f := 4) h11 he hsk (by omega) (P_cell_in (f := 4) h11 he hsj (by omega) (P_cell_in (f := 5) h11 he hsk (by omega) (P_cell_in (f := 5) h11 he hsj (by omega) ?_)))))⟩
  have rk := pr.1 k hk
  have rj := pr.1 j hjn
  have hp := sq64 (a := M.1 12 (8 * s k + 4)) (b := M.1 12 (8 * s j + 4)) (c := M.1 12 (8 * s k + 5)) (d := M.1 12 (8 * s j + 5)) rk.1 rj.1 rk.2.1 rj.2.1
  obtain ⟨ht1, ht2⟩ := td64 (s := sp) (a := M.1 12 (8 * s k + 3)) (b := M.1 12 (8 * s j + 3)) hsp rk.2.2 rj.2.2
  have iff := aP_iff (sp := sp.toInt) pr hk hjn
  rw [j_le, ht1, show (0 : Int64).toInt = 0 by decide, j_lt, ht2, hp]
  have skip : ¬ aP (M.1 12) s n sp.toInt k j = true → Q M := fun hno => by
    refine hQ M (Same.refl _ _) ⟨al.1, al.2.1, fun k' j' h1 h2 => ?_⟩
    rw [al.2.2 k' j' h1 h2]
    by_cases hkj : k' = k ∧ j' = j
    · rw [hkj.1, hkj.2, if_neg (fun x => by omega), if_neg (fun x => hno x.2)]
    · have : (k' < k ∨ (k' = k ∧ j' < j)) ↔ (k' < k ∨ (k' = k ∧ j' < j + 1)) := by omega
      exact if_iff ⟨fun x => ⟨this.mp x.1, x.2⟩, fun x => ⟨this.mpr x.1, x.2⟩⟩
  have iff2 : aP (M.1 12) s n sp.toInt k j = true ↔ (M.1 12 (8 * s j + 3)).toInt < (M.1 12 (8 * s k + 3)).toInt ∧ ((M.1 12 (8 * s k + 4)).toInt - (M.1 12 (8 * s j + 4)).toInt) * ((M.1 12 (8 * s k + 4)).toInt - (M.1 12 (8 * s j + 4)).toInt) + ((M.1 12 (8 * s k + 5)).toInt - (M.1 12 (8 * s j + 5)).toInt) * ((M.1 12 (8 * s k + 5)).toInt - (M.1 12 (8 * s j + 5)).toInt) ≤ sp.toInt * ((M.1 12 (8 * s k + 3)).toInt - (M.1 12 (8 * s j + 3)).toInt) * (sp.toInt * ((M.1 12 (8 * s k + 3)).toInt - (M.1 12 (8 * s j + 3)).toInt)) := iff
  refine ⟨fun h1 => skip (fun x => ?_), fun h1 => ⟨fun h2 => skip (fun x => ?_), fun h2 => ?_⟩⟩
  · have := (iff2.mp x).1
    omega
  · have := (iff2.mp x).2
    omega
  · have hyes : aP (M.1 12) s n sp.toInt k j = true := iff2.mpr ⟨by omega, by omega⟩
    unfold P_Matching_allow
    refine P_isPos al.1 hn (by omega) (fun _ => br_F (by decide) ?_) (fun x => absurd hk x)
    refine P_isPos al.1 hn (by omega) (fun _ => br_F (by decide) ?_) (fun x => absurd hjn x)
    rw [show nI k * 16 = nI (16 * k) by rw [show (16 : Int32) = nI 16 from rfl, pk_mul, Nat.mul_comm], nI_add, cl_nI (n := 16 * k + j) (by omega)]
    refine ⟨in_nI (by omega) (by omega), hQ _ ((Same.refl _ _).putL (by simp)) ⟨al.1, al.2.1, fun k' j' h1 h2 => ?_⟩⟩
    rw [putL_at]
    by_cases hkj : k' = k ∧ j' = j
    · rw [if_pos ⟨rfl, by omega⟩, hkj.1, hkj.2, if_pos ⟨Or.inr ⟨rfl, by omega⟩, hyes⟩]
      exact hp
    · have : (k' < k ∨ (k' = k ∧ j' < j)) ↔ (k' < k ∨ (k' = k ∧ j' < j + 1)) := by omega
      rw [if_neg (fun x => hkj (by have := x.2; omega)), al.2.2 k' j' h1 h2]
      exact if_iff ⟨fun x => ⟨this.mp x.1, x.2⟩, fun x => ⟨this.mpr x.1, x.2⟩⟩
theorem P_draw {A : Nat → Nat → Bool} {p : Nat → Nat → Int} {C : Nat → Option Nat} {M : Mem} {Q : Mem → Prop} (hAj : ∀ k j, A k j = true → j < k) (hp : ∀ k j, k < n → j < n → 0 ≤ p k j ∧ p k j ≤ PMX) (hn : n ≤ 16) (pm : PM n A p M) (h4 : M.1 20 4 = nI n) (hc2 : ∀ r c, r < n → C r = some c → c < 2 * n) (hcn : ∀ r, r < n → C r ≠ none) (h26 : ∀ r, r < n → M.1 26 r = oI (C r)) (vF : Val n A (fol n C))
    (hQ : ∀ N, Same [20, 32, 33] M N → N.1 20 4 = nI n → N.1 20 5 = nI (cnN (fol n C) n) → (∀ i, i < n → N.1 32 i = oI (fol n C i) ∧ N.1 33 i = nI (TR (fol n C) n i)) → (N.2 20 6).toInt = csF n p (fol n C) → Q N) : P_Parting_drawTracks M Q := by
  have key : ∀ d k, k + d = n → ∀ N, Same [20, 32, 33] M N → N.1 20 4 = nI n → N.1 20 5 = nI (cnN (fol n C) k) → (∀ i, i < k → N.1 32 i = oI (fol n C i) ∧ N.1 33 i = nI (TR (fol n C) k i)) → (N.2 20 6).toInt = csF k p (fol n C) → P_Parting_drawTracks_12 Q (d + 1) (nI k) N := by
    intro d
    induction d with
    | zero =>
      intro k hk N sN a4 a5 aN a6
      have : k = n := by omega
      subst this
      unfold P_Parting_drawTracks_12
      rw [a4]
      exact br_T (nI_le (by omega) (by omega)) (hQ N sN a4 a5 aN a6)
    | succ d ih =>
      intro k hk N sN a4 a5 aN a6
      have hkn : k < n := by omega
      have pmN : PM n A p N := pm.congr (sN 21 (by decide)).1 (sN 22 (by decide)).2
      have n26 : N.1 26 k = oI (C k) := by rw [(sN 26 (by decide)).1]; exact h26 k hkn
      have nx := ih (k + 1) (by omega)
      unfold P_Parting_drawTracks_12 P_Matching_followedBy
      rw [a4]
      refine br_F (nI_ge (by omega) (by omega)) (P_isPos pmN.1 hn (by omega) (fun _ => br_F (by decide) ⟨in_nI (by omega) (by omega), ?_⟩) (fun x => absurd hkn x))
      rw [cl_nI (n := k) (by omega), n26]
      have none_case : fol n C k = none → vp_in (nI k) 16 ∧ ((-1 : Int32) < 0 → P_Parting_drawTracks_78 (fun v1 M => P_Parting_drawTracks_12 Q (d + 1) v1 M) Q (nI k) (putI N 32 k (-1))) ∧ (¬ (-1 : Int32) < 0 → (nI k ≤ -1 → P_Parting_drawTracks_78 (fun v1 M => P_Parting_drawTracks_12 Q (d + 1) v1 M) Q (nI k) (putI N 32 k (-1))) ∧ (¬ nI k ≤ -1 → vp_in (-1) 16 ∧ P_Matching_squareOf (nI k) (-1) (putI (putI N 32 k (-1)) 33 k (N.1 33 ((-1 : Int32)).toNatClampNeg)) fun r7 M6 => P_Parting_drawTracks_12 Q (d + 1) (nI k + 1) (putL M6 20 6 (N.2 20 6 + r7)))) := fun hz => by
        refine ⟨in_nI (by omega) (by omega), br_T (by decide) ?_⟩
        unfold P_Parting_drawTracks_78
        rw [cl_nI (n := k) (by omega), show (putI N 32 k (-1)).1 20 5 = nI (cnN (fol n C) k) from a5, nI_1, nI_1]
        refine ⟨in_nI (by omega) (by omega), nx _ (((sN.putI (by simp)).putI (by simp)).putI (by simp)) ?_ ?_ (fun i hi => ?_) ?_⟩
        · rw [putI_at, if_neg (by omega)]; exact a4
        · rw [putI_same]
          congr 1
          exact (cntB_succ_t (by rw [hz]; rfl)).symm
        · rw [putI_ne1 (c' := 32) (by omega), putI_ne1 (c' := 32) (by omega), putI_at, putI_ne1 (c' := 33) (by omega), putI_at]
          by_cases hik : i = k
          · rw [if_pos ⟨rfl, hik⟩, if_pos ⟨rfl, hik⟩, hik, TR_at, hz]
            exact ⟨rfl, rfl⟩
          · rw [if_neg (fun x => hik x.2), if_neg (fun x => hik x.2), TR_lt (by omega), putI_ne1 (by omega)]
            exact aN i (by omega)
        · show (N.2 20 6).toInt = _
          rw [a6]
          unfold csF
          rw [sz_succ, hz]
          show _ = _ + 0
          omega
      cases hy : C k with
      | none => exact absurd hy (hcn k hkn)
      | some c =>
        have hcc := hc2 k c hkn hy
        show P_Matching_isPosition (nI c) N _
        refine P_isPos pmN.1 hn hcc (fun hcn2 => br_F (by decide) ?_) (fun hcn2 => br_T rfl (none_case (fol_none hy hcn2)))
        have hz : fol n C k = some c := fol_of hy hcn2
        have hA := (vF.1 k c hkn hz).1
        have hck := hAj k c hA
        rw [n26, hy]
        show vp_in (nI k) 16 ∧ (nI c < 0 → _) ∧ (¬ nI c < 0 → (nI k ≤ nI c → _) ∧ (¬ nI k ≤ nI c → vp_in (nI c) 16 ∧ P_Matching_squareOf (nI k) (nI c) (putI (putI N 32 k (nI c)) 33 k (N.1 33 (nI c).toNatClampNeg)) fun r7 M6 => P_Parting_drawTracks_12 Q (d + 1) (nI k + 1) (putL M6 20 6 (N.2 20 6 + r7))))
        refine ⟨in_nI (by omega) (by omega), br_F (nI_pos (by omega)) (br_F (nI_ge (by omega) (by omega)) ⟨in_nI (by omega) (by omega), ?_⟩)⟩
        unfold P_Matching_squareOf
        have p9 : (putI (putI N 32 k (nI c)) 33 k (N.1 33 (nI c).toNatClampNeg)).1 21 9 = nI n := pmN.1
        refine P_isPos p9 hn (by omega) (fun _ => br_F (by decide) ?_) (fun x => absurd hkn x)
        refine P_isPos p9 hn (by omega) (fun _ => br_F (by decide) ?_) (fun x => absurd hcn2 x)
        rw [show nI k * 16 = nI (16 * k) by rw [show (16 : Int32) = nI 16 from rfl, pk_mul, Nat.mul_comm], nI_add, cl_nI (n := 16 * k + c) (by omega), cl_nI (n := c) (by omega), nI_1]
        have e22 : (N.2 22 (16 * k + c)).toInt = p k c := by rw [pmN.2.2 k c hkn hcn2, if_pos hA]
        have vk : Val k A (fol n C) := ⟨fun i j hi h => ⟨(vF.1 i j (by omega) h).1, by have := hAj i j (vF.1 i j (by omega) h).1; omega⟩, vF.2.mono (by omega)⟩
        have cr := csF_rng (A := A) (p := p) (F := fol n C) (n := k) (by omega) (fun i j hi h => hp i j (by omega) (by have := hAj i j h; omega)) vk
        have pr := hp k c hkn hcn2
        refine ⟨in_nI (by omega) (by omega), nx _ (((sN.putI (by simp)).putI (by simp)).putL (by simp)) a4 ?_ (fun i hi => ?_) ?_⟩
        · show N.1 20 5 = _
          rw [a5]
          congr 1
          exact (cntB_succ_f (by rw [hz]; exact Bool.false_ne_true)).symm
        · show (putI (putI N 32 k (nI c)) 33 k (N.1 33 c)).1 32 i = _ ∧ (putI (putI N 32 k (nI c)) 33 k (N.1 33 c)).1 33 i = _
          rw [putI_ne1 (c' := 32) (by omega), putI_at, putI_at]
          by_cases hik : i = k
          · rw [if_pos ⟨rfl, hik⟩, if_pos ⟨rfl, hik⟩, hik, TR_at, hz]
            exact ⟨rfl, (aN c hck).2⟩
          · rw [if_neg (fun x => hik x.2), if_neg (fun x => hik x.2), TR_lt (by omega), putI_ne1 (by omega)]
            exact aN i (by omega)
        · rw [putL_at, if_pos ⟨rfl, rfl⟩]
          show (N.2 20 6 + N.2 22 (16 * k + c)).toInt = _
          rw [j_add (by rw [a6, e22]; unfold BIG PMX at *; omega) (by rw [a6, e22]; unfold BIG PMX at *; omega), a6, e22]
          unfold csF
          rw [sz_succ, hz]
          show _ = _ + (p k c - 0)
          omega
  unfold P_Parting_drawTracks
  refine ⟨n + 1, key n 0 (by omega) _ (((Same.refl _ _).putI (by simp)).putL (by simp)) ?_ rfl (fun i hi => absurd hi (Nat.not_lt_zero _)) ?_⟩
  · show (putI M 20 5 0).1 20 4 = nI n
    rw [putI_at, if_neg (by omega)]; exact h4
  · rw [putL_at, if_pos ⟨rfl, rfl⟩]
    show (0 : Int64).toInt = 0
    decide
theorem P_make {e : Nat} {ship : Int32} {M : Mem} {Q : Int32 → Mem → Prop} (h11 : M.1 11 1 = nI e) (he : e ≤ 200) (pr : PR (M.1 12) (gS (M.1 12) ship e).2 (gS (M.1 12) ship e).1) (hsp : 1 ≤ sp.toInt ∧ sp.toInt ≤ 1000)
    (hno : ((gS (M.1 12) ship e).1 = 0 ∨ 16 < (gS (M.1 12) ship e).1) → Q (-1) M)
    (hQ : 1 ≤ (gS (M.1 12) ship e).1 → (gS (M.1 12) ship e).1 ≤ 16 → ∀ N G, Same [20, 21, 22, 23, 24, 25, 26, 27, 28, 29, 30, 31, 32, 33] M N → N.1 20 4 = nI (gS (M.1 12) ship e).1 → Lex (gS (M.1 12) ship e).1 (aP (M.1 12) (gS (M.1 12) ship e).2 (gS (M.1 12) ship e).1 sp.toInt) (pP (M.1 12) (gS (M.1 12) ship e).2) G → (∀ i, i < (gS (M.1 12) ship e).1 → N.1 31 i = nI ((gS (M.1 12) ship e).2 i) ∧ N.1 32 i = oI (G i) ∧ N.1 33 i = nI (TR G (gS (M.1 12) ship e).1 i)) → (N.2 20 6).toInt = csF (gS (M.1 12) ship e).1 (pP (M.1 12) (gS (M.1 12) ship e).2) G → Q (nI (cnN G (gS (M.1 12) ship e).1)) N) : P_Parting_make ship sp M Q := by
  have ok := (gS_ok (M.1 12) ship e).1
  have cl := cntB_le (isB (M.1 12) 1 ship) e
  have gn := gS_n (M.1 12) ship e
  unfold P_Parting_make
  refine P_howMany h11 he ?_
  rw [← gn]
  refine ⟨fun h => hno (Or.inl ?_), fun h => ⟨fun h2 => ?_, fun h2 => hno (Or.inr ?_)⟩⟩
  · have := (nlt_of (a := 1) (by omega) (by omega)).mp h
    omega
  · have h1 : 1 ≤ (gS (M.1 12) ship e).1 := by
      rcases Nat.lt_or_ge (gS (M.1 12) ship e).1 1 with z | z
      · exact absurd ((nlt_of (a := 1) (by omega) (by omega)).mpr z) h
      · exact z
    have h16 : (gS (M.1 12) ship e).1 ≤ 16 := (nle_of (a := 16) (by omega) (by omega)).mp h2
    refine P_gather h11 he h16 (fun N1 s1 f1 l1 a4 a31 => ?_)
    rw [a4]
    refine P_begin h1 h16 (fun N2 s2 b9 b10 b22 bN => ?_)
    have hQ' := hQ h1 h16
    generalize hs : (gS (M.1 12) ship e).2 = s at *
    generalize hnn : (gS (M.1 12) ship e).1 = n at *
    have sM : Same [20, 21, 22, 23, 24, 26, 27, 31] M N2 := (s1.mono (by simp)).trans (s2.mono (by simp))
    have m12 : N2.1 12 = M.1 12 := (sM 12 (by decide)).1
    have c4 : N2.1 20 4 = nI n := by rw [(s2 20 (by decide)).1]; exact a4
    have c31 : ∀ i, i < n → N2.1 31 i = nI (s i) := fun i hi => by rw [(s2 31 (by decide)).1]; exact a31 i hi
    have k43 : ∀ d k, k + d = n → ∀ N, Same [22] N2 N → AL (M.1 12) s n sp.toInt k 0 N → P_Parting_make_43 Q (d + 1) sp (nI k) N := by
      intro d
      induction d with
      | zero =>
        intro k hk N sN al
        have : k = n := by omega
        subst this
        unfold P_Parting_make_43
        rw [show N.1 20 4 = nI k by rw [(sN 20 (by decide)).1]; exact c4]
        have pm : PM k (aP (M.1 12) s k sp.toInt) (pP (M.1 12) s) N := ⟨al.1, al.2.1, fun k' j' h3 h4 => by
          rw [al.2.2 k' j' h3 h4]
          by_cases ha : aP (M.1 12) s k sp.toInt k' j' = true
          · rw [if_pos ⟨Or.inl h3, ha⟩, if_pos ha]
          · rw [if_neg (fun x => ha x.2), if_neg ha]⟩
        have as : AS k (aP (M.1 12) s k sp.toInt) (pP (M.1 12) s) 0 (fun _ => 0) (fun _ => 0) (fun _ => none) (fun _ => none) N := by
          refine ⟨pm, ⟨fun r hr => ?_, fun c hc => ?_, fun c hc => ?_, fun r hr => ?_⟩, ⟨fun _ _ _ h => (by cases h), fun _ _ _ h => (by cases h)⟩, ⟨fun r _ hr => absurd hr (Nat.not_lt_zero _), fun _ _ _ h => (by cases h), fun _ _ => ⟨Int.le_refl _, fun _ => rfl⟩, fun r hr => absurd hr (Nat.not_lt_zero _), fun _ _ => rfl⟩, fun r hr => ⟨fun _ => Nat.zero_le _, fun _ => rfl⟩⟩
          · rw [(sN 23 (by decide)).2]; exact (bN r hr).1
          · rw [(sN 24 (by decide)).2]; exact (bN c hc).2.1
          · rw [(sN 27 (by decide)).1]; exact (bN c hc).2.2.2
          · rw [(sN 26 (by decide)).1]; exact (bN r hr).2.2.1
        have hAj := aP_lt (g := M.1 12) (s := s) (n := k) (sp := sp.toInt)
        have hp := pP_rng pr
        refine br_T (nI_le (by omega) (by omega)) (P_msolve hAj hp h16 as (fun N3 C' s3 pm3 g1 g2 g3 lx => ?_))
        refine P_draw hAj hp h16 pm3 ?_ g1 g2 g3 lx.1.1 (fun N4 s4 d4 d5 dN d6 => ?_)
        · rw [(s3 20 (by decide)).1, (sN 20 (by decide)).1]; exact c4
        · rw [d5]
          refine hQ' N4 (fol k C') ?_ d4 lx (fun i hi => ⟨?_, dN i hi⟩) d6
          · exact (((sM.mono (by simp)).trans (sN.mono (by simp))).trans (s3.mono (by simp))).trans (s4.mono (by simp))
          · rw [(s4 31 (by decide)).1, (s3 31 (by decide)).1, (sN 31 (by decide)).1]; exact c31 i hi
      | succ d ih =>
        intro k hk N sN al
        have hkn : k < n := by omega
        unfold P_Parting_make_43
        rw [show N.1 20 4 = nI n by rw [(sN 20 (by decide)).1]; exact c4]
        refine br_F (nI_ge (by omega) (by omega)) ?_
        have k55 : ∀ d' j, j + d' = k → ∀ N', Same [22] N2 N' → AL (M.1 12) s n sp.toInt k j N' → P_Parting_make_55 (fun v3 v5 M => P_Parting_make_43 Q (d + 1) v3 v5 M) Q (d' + 1) sp (nI k) (nI j) N' := by
          intro d'
          induction d' with
          | zero =>
            intro j hj N' s' al'
            have : j = k := by omega
            subst this
            unfold P_Parting_make_55
            rw [nI_1 j]
            refine br_T (nI_le (by omega) (by omega)) (ih (j + 1) (by omega) N' s' ⟨al'.1, al'.2.1, fun k' j' h3 h4 => ?_⟩)
            rw [al'.2.2 k' j' h3 h4]
            by_cases ha : aP (M.1 12) s n sp.toInt k' j' = true
            · have := aP_lt k' j' ha
              have e1 : (k' < j ∨ (k' = j ∧ j' < j)) ↔ (k' < j + 1 ∨ (k' = j + 1 ∧ j' < 0)) := by omega
              exact if_iff ⟨fun x => ⟨e1.mp x.1, x.2⟩, fun x => ⟨e1.mpr x.1, x.2⟩⟩
            · rw [if_neg (fun x => ha x.2), if_neg (fun x => ha x.2)]
          | succ d' ih' =>
            intro j hj N' s' al'
            unfold P_Parting_make_55
            rw [nI_1 j]
            have e12 : N'.1 12 = M.1 12 := ((s' 12 (by decide)).1).trans m12
            refine br_F (nI_ge (by omega) (by omega)) (P_near (e := e) (s := s) (n := n) (by rw [e12]; exact pr) h16 hkn (by omega) hsp ?_ he (fun i hi => ?_) (fun i hi => (ok i hi).1) (by rw [e12]; exact al') (fun N3 s3 al3 => ih' (j + 1) (by omega) N3 (s'.trans s3) (by rw [e12] at al3; exact al3)))
            · rw [(s' 11 (by decide)).1, (sM 11 (by decide)).1]; exact h11
            · rw [(s' 31 (by decide)).1]; exact c31 i hi
        exact ⟨k + 1, k55 k 0 (by omega) N sN al⟩
    refine ⟨n + 1, k43 n 0 (by omega) N2 (Same.refl _ _) ⟨b9, b10, fun k' j' h3 h4 => ?_⟩⟩
    rw [b22 _ (by omega), if_neg (fun x => by omega)]
  · rcases Nat.lt_or_ge 16 (gS (M.1 12) ship e).1 with z | z
    · exact z
    · exact absurd ((nle_of (a := 16) (by omega) (by omega)).mpr z) h2
end Make
/-! part -/
theorem cnN_congr {F G : Nat → Option Nat} {n : Nat} (h : ∀ i, i < n → F i = G i) : cnN F n = cnN G n := cntB_congr (fun i hi => by rw [h i hi])
theorem TR_congr {F G : Nat → Option Nat} {n : Nat} (h : ∀ i, i < n → F i = G i) : ∀ k, k ≤ n → TR F k = TR G k := by
  intro k
  induction k with
  | zero => intro _; rfl
  | succ k ih =>
    intro hk
    have e := ih (by omega)
    show un (TR F k) k (match F k with | none => cnN F k | some j => TR F k j) = un (TR G k) k (match G k with | none => cnN G k | some j => TR G k j)
    rw [e, h k (by omega), cnN_congr (G := G) (fun i hi => h i (by omega))]
theorem csF_congr {n : Nat} {p q : Nat → Nat → Int} {F G : Nat → Option Nat} (h : ∀ i, i < n → F i = G i) (hp : p = q) : csF n p F = csF n q G := by
  rw [hp]
  exact sz_congr (fun i hi => by rw [h i hi])
theorem Inv.parted {k : Nat} {M O : Mem} (h : Inv k M) (hc : ∀ c, (c < 20 ∨ c = 34 ∨ (35 < c ∧ c < 51)) → O.1 c = M.1 c) (hf : ∀ f, f ≠ 0 → f ≠ 37 → f ≠ 40 → O.1 35 f = M.1 35 f) (hP : IPart O) : Inv (k + 1) O := by
  obtain ⟨a1, a2, a3, a4, a5, a6, a7, a8, a9, a10⟩ := h
  have c := fun n hn => hc n hn
  have f := fun n (h1 : n ≠ 0) (h2 : n ≠ 37) (h3 : n ≠ 40) => hf n h1 h2 h3
  exact ⟨a1.congr (by rw [c 1 (by omega)]) (f 2 (by decide) (by decide) (by decide)) (c 36 (by omega)) (c 2 (by omega)), a2.congr (by rw [c 0 (by omega)]) (f 7 (by decide) (by decide) (by decide)), a3.congr (Nat.le_succ k) (c 37 (by omega)) (c 38 (by omega)) (c 39 (by omega)) (c 40 (by omega)) (c 3 (by omega)) (c 4 (by omega)), a4.congr (Nat.le_succ k) (c 37 (by omega)) (c 38 (by omega)) (c 39 (by omega)) (c 40 (by omega)) (c 5 (by omega)) (c 6 (by omega)), a5.congr (by rw [c 3 (by omega)]) (by rw [c 5 (by omega)]) (f 8 (by decide) (by decide) (by decide)), a6.congr (by rw [c 0 (by omega)]) (f 12 (by decide) (by decide) (by decide)) (by rw [c 0 (by omega)]) (f 13 (by decide) (by decide) (by decide)),
    a7.congr (by rw [c 11 (by omega)]) (f 11 (by decide) (by decide) (by decide)) (c 41 (by omega)) (c 12 (by omega)) (by rw [c 0 (by omega)]; exact Int.le_refl _) (c 14 (by omega)) (by rw [c 13 (by omega)]) (c 16 (by omega)) (c 42 (by omega)) (by rw [c 15 (by omega)]) (f 20 (by decide) (by decide) (by decide)) (c 18 (by omega)) (c 47 (by omega)) (c 44 (by omega)) (c 45 (by omega)) (c 46 (by omega)) (c 17 (by omega)) (c 48 (by omega)),
    a8.congr (by rw [c 9 (by omega)]) (f 23 (by decide) (by decide) (by decide)) (c 49 (by omega)) (c 10 (by omega)), hP, a10.congr (by rw [c 34 (by omega)]) (f 43 (by decide) (by decide) (by decide))⟩
/-- the two rows of the log give the same problem -/
theorem part_same {g g' : Nat → Int32} {s : Nat → Nat} {n e : Nat} {sp : Int} {G : Nat → Option Nat} (hg : ∀ j, j < 8 * e → g' j = g j) (hs : ∀ i, i < n → s i < e) (lx : Lex n (aP g' s n sp) (pP g' s) G) : Lex n (aP g s n sp) (pP g s) G ∧ csF n (pP g' s) G = csF n (pP g s) G := by
  have eT : ∀ i, i < n → tI g' (s i) = tI g (s i) ∧ xI g' (s i) = xI g (s i) ∧ yI g' (s i) = yI g (s i) := fun i hi => by
    have := hs i hi
    unfold tI xI yI
    rw [hg _ (by omega), hg _ (by omega), hg _ (by omega)]
    exact ⟨rfl, rfl, rfl⟩
  have pe : ∀ k j, k < n → j < n → pP g' s k j = pP g s k j := fun k j hk hj => by
    unfold pP
    rw [(eT k hk).2.1, (eT k hk).2.2, (eT j hj).2.1, (eT j hj).2.2]
  have ae : ∀ k j, aP g' s n sp k j = aP g s n sp k j := fun k j => by
    by_cases hjk : j < k
    · by_cases hkn : k < n
      · unfold aP
        rw [pe k j hkn (by omega), (eT k hkn).1, (eT j (by omega)).1]
      · unfold aP
        simp only [decide_eq_false hkn, Bool.and_false, Bool.false_and]
    · unfold aP
      simp only [decide_eq_false hjk, Bool.false_and]
  rw [show aP g' s n sp = aP g s n sp from funext fun k => funext fun j => ae k j] at lx
  have vf : ∀ H, Val n (aP g s n sp) H → ∀ l, sz (fun k => ow (pP g' s) l k (H k)) n = sz (fun k => ow (pP g s) l k (H k)) n := fun H vH l => sz_congr (fun i hi => by
    cases hz : H i with
    | none =>
      show (0 : Int) = 0
      rfl
    | some j =>
      show pP g' s i j - l = pP g s i j - l
      rw [pe i j hi (vH.1 i j hi hz).2])
  have oe : ∀ H, Opt n (aP g s n sp) (pP g' s) H ↔ Opt n (aP g s n sp) (pP g s) H := fun H => by
    constructor
    · exact fun o => ⟨o.1, fun G' v' => by have := o.2 G' v'; unfold VF at this ⊢; rw [vf H o.1, vf G' v'] at this; exact this⟩
    · exact fun o => ⟨o.1, fun G' v' => by have := o.2 G' v'; unfold VF at this ⊢; rw [vf H o.1, vf G' v']; exact this⟩
  exact ⟨⟨(oe G).mp lx.1, fun i hi H oH => lx.2 i hi H ((oe H).mpr oH)⟩, vf G lx.1.1 0⟩
theorem PR_same {g g' : Nat → Int32} {s : Nat → Nat} {n e : Nat} (hg : ∀ j, j < 8 * e → g' j = g j) (hs : ∀ i, i < n → s i < e) (pr : PR g s n) : PR g' s n := by
  have eT : ∀ i, i < n → tI g' (s i) = tI g (s i) ∧ xI g' (s i) = xI g (s i) ∧ yI g' (s i) = yI g (s i) := fun i hi => by
    have := hs i hi
    unfold tI xI yI
    rw [hg _ (by omega), hg _ (by omega), hg _ (by omega)]
    exact ⟨rfl, rfl, rfl⟩
  refine ⟨fun i hi => ?_, fun i j hij hj => ?_⟩
  · rw [(eT i hi).1, (eT i hi).2.1, (eT i hi).2.2]; exact pr.1 i hi
  · rw [(eT i (by omega)).1, (eT j hj).1]; exact pr.2 i j hij hj
theorem part_yes {k e n : Nat} {s : Nat → Nat} {b : Int32} {G : Nat → Option Nat} {M N N2 : Mem} {K : Mem → Prop} (h : Inv k M) (l3 : ∀ j, j < 8 * e → M.1 41 j = M.1 12 j) (he : e ≤ 200) (hs : ∀ i, i < n → s i < e) (g16 : n ≤ 16) (pr : PR (M.1 12) s n) (hsp : 1 ≤ b.toInt ∧ b.toInt ≤ 1000)
    (sN : Same [20, 21, 22, 23, 24, 25, 26, 27, 28, 29, 30, 31, 32, 33] M N) (n4 : N.1 20 4 = nI n) (lx : Lex n (aP (M.1 12) s n b.toInt) (pP (M.1 12) s) G) (nN : ∀ i, i < n → N.1 31 i = nI (s i) ∧ N.1 32 i = oI (G i) ∧ N.1 33 i = nI (TR G n i)) (n6 : (N.2 20 6).toInt = csF n (pP (M.1 12) s) G) (hK : ∀ N, Inv (k + 1) N → K N)
    (s2 : Same [52] (putI N 35 0 0) N2) (a52 : ∀ i, i < n → N2.1 52 i = nI (s i)) : ∃ q, P_Mo_part_149 (fun r2 M2 => (nI (cnN G n) = r2 → K M2) ∧ (¬ nI (cnN G n) = r2 → (0 : Int32) = 1)) q b (nI n) 0 N2 := by
  have m41 : (putI N 35 0 0).1 41 = M.1 41 := (sN 41 (by decide)).1
  have e41 : N2.1 41 = M.1 41 := ((s2 41 (by decide)).1).trans m41
  have pr2 : PR (N2.1 41) s n := by rw [e41]; exact PR_same l3 hs pr
  refine P_mo149 pr2 g16 hsp a52 (fun i hi => by have := hs i hi; omega) (fun N3 G3 s3 f3 n37 lx3 nN3 n38 => ?_)
  rw [e41] at lx3 n38
  obtain ⟨lx3', cs⟩ := part_same l3 hs lx3
  have eq := lex_unique lx lx3'
  have n38' : (N3.2 35 38).toInt = csF n (pP (M.1 12) s) G := by
    rw [n38, cs]
    exact (csF_congr eq rfl).symm
  rw [cnN_congr eq]
  have sA : Same [35, 51, 52, 53, 54, 55, 56, 57, 58, 59, 60, 61] N N3 := (((Same.refl _ _).putI (by simp)).trans (s2.mono (by simp))).trans (s3.mono (by simp))
  refine res_eq rfl (hK N3 (h.parted (fun c hc => ?_) (fun f f1 f2 f3' => ?_) ⟨⟨n, g16, ?_, n37, fun i hi => ?_⟩, ?_⟩))
  · exact ((sA c (by simp; omega)).1).trans (sN c (by simp; omega)).1
  · rw [f3 f f2 f3', (s2 35 (by decide)).1, putI_at, if_neg (fun x => f1 x.2), (sN 35 (by decide)).1]
  · rw [(sA 20 (by decide)).1]; exact n4
  · obtain ⟨q1, q2, q3⟩ := nN i hi
    obtain ⟨r1, r2, r3⟩ := nN3 i hi
    rw [(sA 31 (by decide)).1, (sA 32 (by decide)).1, (sA 33 (by decide)).1, q1, q2, q3, r1, r2, r3, eq i hi, TR_congr eq _ (Nat.le_refl _)]
    exact ⟨rfl, rfl, rfl⟩
  · rw [(sA 20 (by decide)).2, j_eq, n6, n38']
theorem part_none {k : Nat} {M N : Mem} {K : Mem → Prop} (h : Inv k M) (hK : ∀ N, Inv (k + 1) N → K N) (sN : Same [52] (putI M 35 0 0) N) : K N := by
  have iP := h.2.2.2.2.2.2.2.2.1
  have s2 : Same [35, 52] M N := ((Same.refl _ _).putI (by simp)).trans (sN.mono (by simp))
  refine hK N (h.parted (fun c hc => (s2 c (by simp; omega)).1) (fun f f1 _ _ => ?_) (iP.congr (by rw [(s2 20 (by decide)).1]) ?_ (s2 31 (by decide)).1 (s2 51 (by decide)).1 (s2 32 (by decide)).1 (s2 56 (by decide)).1 (s2 33 (by decide)).1 (s2 55 (by decide)).1 (by rw [(s2 20 (by decide)).2]) ?_))
  · rw [(sN 35 (by decide)).1, putI_at, if_neg (fun x => f1 x.2)]
  · rw [(sN 35 (by decide)).1, putI_at, if_neg (by omega)]
  · rw [(sN 35 (by decide)).2]; rfl
theorem op_part {k : Nat} {M : Mem} {K : Mem → Prop} (h : Inv k M) (a b : Int32) (hK : ∀ N, Inv (k + 1) N → K N) : P_Sv_part a b M fun r M1 => P_Mo_part a b M1 fun r2 M2 => (r = r2 → K M2) ∧ (¬ r = r2 → (0 : Int32) = 1) := by
  obtain ⟨e, iLog, -, -⟩ := h.2.2.2.2.2.2.1
  have pr := PR_of (ship := a) iLog
  obtain ⟨he, l1, l2, l3, -, -, -⟩ := iLog
  have gc : gS (M.1 41) a e = gS (M.1 12) a e := gS_congr l3 e (Nat.le_refl _)
  have ok := (gS_ok (M.1 12) a e).1
  unfold P_Sv_part
  refine ⟨fun h1 => ?_, fun h1 => ⟨fun h2 => ?_, fun h2 => ?_⟩⟩
  · unfold P_Mo_part
    exact br_T h1 (res_eq rfl (part_none h hK (Same.refl _ _)))
  · have hsp : 1 ≤ b.toInt ∧ b.toInt ≤ 1000 := by
      rw [i_lt, show (1 : Int32).toInt = 1 by decide] at h1
      rw [i_le, show (1000 : Int32).toInt = 1000 by decide] at h2
      omega
    refine P_make l1 he pr hsp (fun hno => ?_) (fun g1 g16 N G sN n4 lx nN n6 => ?_)
    · unfold P_Mo_part
      have m41 : (putI M 35 0 0).1 41 = M.1 41 := putI_ne1 (by omega)
      have m11 : (putI M 35 0 0).1 35 11 = nI e := by rw [putI_at, if_neg (by omega)]; exact l2
      refine br_F h1 (br_T h2 (P_mogather (M := putI M 35 0 0) m11 he (fun _ N sN => res_eq rfl (part_none h hK sN)) (fun x1 x2 => ?_)))
      rw [m41, gc] at x1 x2
      omega
    · have m41 : (putI N 35 0 0).1 41 = M.1 41 := (putI_ne1 (by omega)).trans (sN 41 (by decide)).1
      have m11 : (putI N 35 0 0).1 35 11 = nI e := by rw [putI_at, if_neg (by omega), (sN 35 (by decide)).1]; exact l2
      unfold P_Mo_part
      refine br_F h1 (br_T h2 (P_mogather (M := putI N 35 0 0) (e := e) m11 he (fun hno => ?_) (fun x1 x2 N2 s2 a52 => ?_)))
      · rw [m41, gc] at hno
        omega
      · rw [m41, gc] at a52 ⊢
        exact part_yes h l3 he (fun i hi => (ok i hi).1) g16 pr hsp sN n4 lx nN n6 hK s2 a52
  · unfold P_Mo_part
    exact br_F h1 (br_F h2 (res_eq rfl (part_none h hK (Same.refl _ _))))
