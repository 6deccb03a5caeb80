/-! the books: clashes and texts as they are noted -/
theorem P_clashNote {Q : Mem → Prop} {M : Mem} {e : Nat} (h11 : M.1 11 1 = nI (e + 1)) (he : e < 200) (hk : M.1 12 (8 * e) = 5) (hQ : Q (putI (putI M 14 e (nI (clN (M.1 12) e))) 13 1 (M.1 13 1 + nI (clN (M.1 12) e)))) : P_ClashBook_note (nI e) M Q := by
  unfold P_ClashBook_note
  refine br_F (nI_pos (by omega)) (br_T ((nlt_of (a := 200) (by omega) (by omega)).mpr he) ?_)
  have key : ∀ d j, j + d = e → P_ClashBook_note_17 Q (d + 1) (nI e) (nI (cntB (clB (M.1 12) e) j)) (nI j) M := by
    intro d
    induction d with
    | zero =>
      intro j hj
      have : j = e := by omega
      subst this
      unfold P_ClashBook_note_17
      refine br_T (nI_le (by omega) (by omega)) ⟨in_nI he (by omega), ?_⟩
      rw [cl_nI (by omega)]
      exact hQ
    | succ d ih =>
      intro j hj
      unfold P_ClashBook_note_17
      refine br_F (nI_ge (by omega) (by omega)) (P_doClash h11 (by omega) (by omega) (by omega) hk ?_)
      cases hc : clB (M.1 12) e j
      · refine br_T rfl ?_
        rw [nI_1]
        have := ih (j + 1) (by omega)
        rwa [cntB_succ_f (by rw [hc]; decide)] at this
      · refine br_F (by decide) ?_
        rw [nI_1, nI_1]
        have := ih (j + 1) (by omega)
        rwa [cntB_succ_t hc] at this
  exact ⟨e + 1, key e 0 (by omega)⟩
theorem cntB_sub {p q : Nat → Bool} {n : Nat} (h : ∀ x, x < n → p x = true → q x = true) : cntB p n ≤ cntB q n := by
  induction n with
  | zero => exact Nat.le_refl _
  | succ n ih =>
    have := ih (fun x hx => h x (by omega))
    unfold cntB
    by_cases hp : p n = true
    · rw [if_pos hp, if_pos (h n (by omega) hp)]; omega
    · rw [if_neg hp]; omega
theorem cntB_one {p q : Nat → Bool} {n i : Nat} (h : ∀ x, x < n → p x = true → q x = true) (hi : i < n) (h1 : p i = false) (h2 : q i = true) : cntB p n + 1 ≤ cntB q n := by
  induction n with
  | zero => exact absurd hi (Nat.not_lt_zero _)
  | succ n ih =>
    unfold cntB
    by_cases hin : i = n
    · subst hin
      have := cntB_sub (p := p) (q := q) (n := i) (fun x hx => h x (by omega))
      rw [h1, h2]
      simp
      omega
    · have := ih (fun x hx => h x (by omega)) (by omega)
      by_cases hp : p n = true
      · rw [if_pos hp, if_pos (h n (by omega) hp)]; omega
      · rw [if_neg hp]; omega
theorem cntB_two {p q : Nat → Bool} {n i j : Nat} (h : ∀ x, x < n → p x = true → q x = true) (hi : i < n) (hj : j < n) (hij : i ≠ j) (h1 : p i = false) (h2 : q i = true) (h3 : p j = false) (h4 : q j = true) : cntB p n + 2 ≤ cntB q n := by
  have a := cntB_one (p := p) (q := fun x => p x || decide (x = i)) (n := n) (i := i) (fun x hx hp => by simp [hp]) hi h1 (by simp)
  have b := cntB_one (p := fun x => p x || decide (x = i)) (q := q) (n := n) (i := j) (fun x hx hp => by
    simp at hp
    rcases hp with hp | hp
    · exact h x hx hp
    · rw [hp]; exact h2) hj (by simp [h3]; omega) h4
  omega
theorem cntB_flip {p q : Nat → Bool} {n i : Nat} (h : ∀ x, x < n → x ≠ i → p x = q x) (hi : i < n) (h1 : p i = false) (h2 : q i = true) : cntB q n = cntB p n + 1 := by
  induction n with
  | zero => exact absurd hi (Nat.not_lt_zero _)
  | succ n ih =>
    by_cases hin : i = n
    · subst hin
      rw [cntB_succ_t h2, cntB_succ_f (by rw [h1]; decide), cntB_congr (fun x hx => h x (by omega) (by omega))]
    · have := ih (fun x hx => h x (by omega)) (by omega)
      unfold cntB
      rw [this, h n (by omega) (fun x => hin x.symm)]
      omega
theorem cntB_all {p : Nat → Bool} {n : Nat} : cntB p n = n ↔ ∀ x, x < n → p x = true := by
  induction n with
  | zero => exact ⟨fun _ x hx => absurd hx (Nat.not_lt_zero _), fun _ => rfl⟩
  | succ n ih =>
    have hle := cntB_le p n
    by_cases hp : p n = true
    · rw [cntB_succ_t hp]
      constructor
      · intro h x hx
        by_cases hxn : x = n
        · rw [hxn]; exact hp
        · exact ih.mp (by omega) x (by omega)
      · intro h
        rw [ih.mpr (fun x hx => h x (by omega))]
    · rw [cntB_succ_f hp]
      constructor
      · intro h; omega
      · intro h; exact absurd (h n (by omega)) hp
def sameT (g : Nat → Int32) (i v : Nat) : Bool := isB g 4 (g (8 * v + 1)) i && decide (g (8 * i + 4) = g (8 * v + 4)) && decide (g (8 * i + 6) = g (8 * v + 6))
def cand (u g : Nat → Int32) (v p i : Nat) : Bool := decide (u i = 0) && sameT g i v && decide (g (8 * i + 5) = nI p)
theorem sameT_congr {g h : Nat → Int32} {e i v : Nat} (hg : ∀ j, j < 8 * e → g j = h j) (hi : i < e) (hv : v < e) : sameT g i v = sameT h i v := by
  unfold sameT isB
  rw [hg (8 * i) (by omega), hg (8 * i + 1) (by omega), hg (8 * v + 1) (by omega), hg (8 * i + 4) (by omega), hg (8 * v + 4) (by omega), hg (8 * i + 6) (by omega), hg (8 * v + 6) (by omega)]
theorem P_oneText {Q : Int32 → Mem → Prop} {M : Mem} {e i v : Nat} (h : M.1 11 1 = nI e) (he : e ≤ 200) (hi : i < e) (hv : v < e) (hQ : Q (if sameT (M.1 12) i v then 1 else 0) M) : P_TextBook_areOfOneText (nI i) (nI v) M Q := by
  unfold P_TextBook_areOfOneText
  refine P_cell_in (f := 1) h he hv (by omega) (P_isOf_in h he hi ?_)
  unfold sameT at hQ
  cases ha : isB (M.1 12) 4 (M.1 12 (8 * v + 1)) i
  · exact br_T rfl (by rw [ha] at hQ; exact hQ)
  · rw [ha] at hQ
    refine br_F (by decide) (P_cell_in (f := 4) h he hi (by omega) (P_cell_in (f := 4) h he hv (by omega) ?_))
    by_cases hb : M.1 12 (8 * i + 4) = M.1 12 (8 * v + 4)
    · refine br_T' hb (P_cell_in (f := 6) h he hi (by omega) (P_cell_in (f := 6) h he hv (by omega) ?_))
      by_cases hd : M.1 12 (8 * i + 6) = M.1 12 (8 * v + 6)
      · exact br_T' hd (by simpa [hb, hd] using hQ)
      · exact br_F' hd (by simpa [hb, hd] using hQ)
    · exact br_F' hb (by simpa [hb] using hQ)
theorem P_moisOf {Q : Int32 → Mem → Prop} {M : Mem} {i v : Nat} (hi : i < 200) (hv : v < 200) (hQ : Q (if sameT (M.1 41) i v then 1 else 0) M) : P_Mo_isOf (nI i) (nI v) M Q := by
  unfold P_Mo_isOf
  rw [ix_m0, ix_m0, show nI (8 * i) + 1 = nI (8 * i + 1) from nI_add _ 1, show nI (8 * v) + 1 = nI (8 * v + 1) from nI_add _ 1, show nI (8 * i) + 4 = nI (8 * i + 4) from nI_add _ 4, show nI (8 * v) + 4 = nI (8 * v + 4) from nI_add _ 4, show nI (8 * i) + 6 = nI (8 * i + 6) from nI_add _ 6, show nI (8 * v) + 6 = nI (8 * v + 6) from nI_add _ 6]
  rw [cl_nI (n := 8 * i) (by omega), cl_nI (n := 8 * i + 1) (by omega), cl_nI (n := 8 * v + 1) (by omega), cl_nI (n := 8 * i + 4) (by omega), cl_nI (n := 8 * v + 4) (by omega), cl_nI (n := 8 * i + 6) (by omega), cl_nI (n := 8 * v + 6) (by omega)]
  have iv : ∀ n, n < 1600 → vp_in (nI n) 1600 := fun n hn => in_nI hn (by omega)
  unfold sameT isB at hQ
  refine ⟨iv _ (by omega), ?_⟩
  by_cases h1 : M.1 41 (8 * i) = 4
  · refine br_T' h1 ⟨iv _ (by omega), iv _ (by omega), ?_⟩
    by_cases h2 : M.1 41 (8 * i + 1) = M.1 41 (8 * v + 1)
    · refine br_T' h2 ⟨iv _ (by omega), iv _ (by omega), ?_⟩
      by_cases h3 : M.1 41 (8 * i + 4) = M.1 41 (8 * v + 4)
      · refine br_T' h3 ⟨iv _ (by omega), iv _ (by omega), ?_⟩
        by_cases h4 : M.1 41 (8 * i + 6) = M.1 41 (8 * v + 6)
        · exact br_T' h4 (by simpa [h1, h2, h3, h4] using hQ)
        · exact br_F' h4 (by simpa [h1, h2, h3, h4] using hQ)
      · exact br_F' h3 (by simpa [h1, h2, h3] using hQ)
    · exact br_F' h2 (by simpa [h1, h2] using hQ)
  · exact br_F' h1 (by simpa [h1] using hQ)
/-- the parts of the text of v are all there -/
def allB (u g : Nat → Int32) (v m n : Nat) : Bool := decide (cntB (fun p => (lastB (cand u g v p) n).isSome) m = m)
theorem P_findNewest {Q : Int32 → Mem → Prop} {M : Mem} {e m : Nat} (h11 : M.1 11 1 = nI (e + 1)) (he : e < 200) (hm : m ≤ 5)
    (hr : ∀ i, i < e + 1 → sameT (M.1 12) i e = true → ∃ w : Nat, w < m ∧ M.1 12 (8 * i + 5) = nI w)
    (hQ : ∀ N, Same [19] M N → (∀ p, p < m → N.1 19 p = oI (lastB (cand (M.1 16) (M.1 12) e p) (e + 1))) → Q (if allB (M.1 16) (M.1 12) e m (e + 1) then 1 else 0) N) : P_TextBook_findNewest (nI e) (nI m) M Q := by
  unfold P_TextBook_findNewest
  have k2 : ∀ d i, i + d = e + 1 → ∀ N, Same [19] M N → (∀ p, p < m → N.1 19 p = oI (lastB (cand (M.1 16) (M.1 12) e p) i)) → P_TextBook_findNewest_29 Q (d + 1) (nI e) (nI m) (nI (cntB (fun p => (lastB (cand (M.1 16) (M.1 12) e p) i).isSome) m)) (nI i) N := by
    intro d
    induction d with
    | zero =>
      intro i hi N hS hN
      have : i = e + 1 := by omega
      subst this
      unfold P_TextBook_findNewest_29
      have hq := hQ N hS hN
      have hc := cntB_le (fun p => (lastB (cand (M.1 16) (M.1 12) e p) (e + 1)).isSome) m
      unfold allB at hq
      refine br_T (nI_lt (by omega) (by omega)) ⟨fun hn => ?_, fun hn => ?_⟩
      · rw [decide_eq_false (fun x => hn (by rw [x]))] at hq
        exact hq
      · rw [decide_eq_true ((nI_eq (by omega) (by omega)).mp hn)] at hq
        exact hq
    | succ d ih =>
      intro i hi N hS hN
      unfold P_TextBook_findNewest_29
      have e11 : N.1 11 1 = nI (e + 1) := by rw [(hS 11 (by decide)).1]; exact h11
      have e12 : N.1 12 = M.1 12 := (hS 12 (by decide)).1
      have e16 : N.1 16 = M.1 16 := (hS 16 (by decide)).1
      refine br_F (nI_nlt (by omega) (by omega)) (br_F (nI_ge (b := 200) (by omega) (by omega)) (P_cell_in (f := 5) e11 (by omega) (by omega) (by omega) ⟨in_nI (by omega) (by omega), ?_⟩))
      rw [cl_nI (by omega), e16, nI_1]
      have skip : (∀ p, p < m → cand (M.1 16) (M.1 12) e p i = false) → P_TextBook_findNewest_29 Q (d + 1) (nI e) (nI m) (nI (cntB (fun p => (lastB (cand (M.1 16) (M.1 12) e p) i).isSome) m)) (nI (i + 1)) N := fun hn => by
        have e1 : ∀ p, p < m → lastB (cand (M.1 16) (M.1 12) e p) (i + 1) = lastB (cand (M.1 16) (M.1 12) e p) i := fun p hp => by
          show (if cand (M.1 16) (M.1 12) e p i = true then some i else lastB (cand (M.1 16) (M.1 12) e p) i) = _
          rw [hn p hp]; rfl
        have := ih (i + 1) (by omega) N hS (fun p hp => by rw [e1 p hp]; exact hN p hp)
        rwa [cntB_congr (q := fun p => (lastB (cand (M.1 16) (M.1 12) e p) i).isSome) (fun p hp => by show (lastB _ (i + 1)).isSome = _; rw [e1 p hp])] at this
      refine ⟨fun hu => skip (fun p hp => by unfold cand; simp [hu]), fun hu => P_oneText e11 (by omega) (by omega) (by omega) ?_⟩
      rw [e12]
      cases ht : sameT (M.1 12) i e
      · exact br_T rfl (skip (fun p hp => by unfold cand; simp [ht]))
      · refine br_F (by decide) ?_
        obtain ⟨w, hw, ew⟩ := hr i (by omega) ht
        rw [ew]
        refine br_F (nI_pos (by omega)) (br_F (nI_ge hw (by omega)) ⟨in_nI (by omega) (by omega), ?_⟩)
        rw [cl_nI (by omega), hN w hw]
        have cw : ∀ p, p < m → cand (M.1 16) (M.1 12) e p i = decide (w = p) := fun p hp => by
          unfold cand
          rw [ht, hu, ew]
          by_cases hwp : w = p
          · simp [hwp]
          · simp [hwp, nI_eq (show w < 2 ^ 31 by omega) (show p < 2 ^ 31 by omega)]
        have e1 : ∀ p, p < m → lastB (cand (M.1 16) (M.1 12) e p) (i + 1) = if p = w then some i else lastB (cand (M.1 16) (M.1 12) e p) i := fun p hp => by
          show (if cand (M.1 16) (M.1 12) e p i = true then some i else lastB (cand (M.1 16) (M.1 12) e p) i) = _
          rw [cw p hp]
          by_cases hpw : p = w
          · simp [hpw]
          · simp [hpw, show ¬ w = p from fun x => hpw x.symm]
        have nx := ih (i + 1) (by omega) (putI N 19 w (nI i)) (hS.putI (by simp)) (fun p hp => by
          rw [e1 p hp, putI_at]
          by_cases hpw : p = w
          · rw [if_pos ⟨rfl, hpw⟩, if_pos hpw]; rfl
          · rw [if_neg (fun x => hpw x.2), if_neg hpw]; exact hN p hp)
        unfold P_TextBook_findNewest_101
        rw [cl_nI (by omega), nI_1]
        refine ⟨fun hl => ⟨in_nI (by omega) (by omega), ?_⟩, fun hl => ⟨in_nI (by omega) (by omega), ?_⟩⟩
        · rw [show nI (cntB (fun p => (lastB (cand (M.1 16) (M.1 12) e p) i).isSome) m) + 0 = nI (cntB (fun p => (lastB (cand (M.1 16) (M.1 12) e p) i).isSome) m) from nI_add _ 0]
          rwa [cntB_congr (q := fun p => (lastB (cand (M.1 16) (M.1 12) e p) i).isSome) (fun p hp => by
            show (lastB _ (i + 1)).isSome = (lastB _ i).isSome
            rw [e1 p hp]
            by_cases hpw : p = w
            · subst hpw
              rw [if_pos rfl]
              cases hz : lastB (cand (M.1 16) (M.1 12) e p) i
              · rw [hz] at hl; exact absurd rfl hl
              · rfl
            · rw [if_neg hpw])] at nx
        · have hz : lastB (cand (M.1 16) (M.1 12) e w) i = none := by
            cases hz : lastB (cand (M.1 16) (M.1 12) e w) i with
            | none => rfl
            | some z =>
              rw [hz] at hl
              have hz2 := (lastB_lt hz).1
              exact absurd hl (by show ¬ nI z = -1; rw [i_eq, i_nI (by omega), i_m1]; omega)
          rw [nI_1]
          rwa [cntB_flip (p := fun p => (lastB (cand (M.1 16) (M.1 12) e p) i).isSome) (i := w) (fun p hp hpw => by
            show (lastB _ i).isSome = (lastB _ (i + 1)).isSome
            rw [e1 p hp, if_neg hpw]) hw (by show (lastB _ i).isSome = false; rw [hz]; rfl) (by show (lastB _ (i + 1)).isSome = true; rw [e1 w hw, if_pos rfl]; rfl)] at nx
  have k1 : ∀ d j, j + d = 5 → ∀ N, Same [19] M N → (∀ p, p < j → N.1 19 p = -1) → P_TextBook_findNewest_3 Q (d + 1) (nI e) (nI m) (nI j) N := by
    intro d
    induction d with
    | zero =>
      intro j hj N hS hN
      have : j = 5 := by omega
      subst this
      unfold P_TextBook_findNewest_3
      refine br_T (nI_le (a := 5) (by omega) (by omega)) ⟨e + 2, ?_⟩
      have := k2 (e + 1) 0 (by omega) N hS (fun p hp => hN p (by omega))
      have z : ∀ n, cntB (fun p => (lastB (cand (M.1 16) (M.1 12) e p) 0).isSome) n = 0 := fun n => by
        induction n with
        | zero => rfl
        | succ n ih => rw [cntB_succ_f (by show ¬ (none : Option Nat).isSome = true; decide)]; exact ih
      rw [z] at this
      exact this
    | succ d ih =>
      intro j hj N hS hN
      unfold P_TextBook_findNewest_3
      refine br_F (nI_ge (b := 5) (by omega) (by omega)) ⟨in_nI (by omega) (by omega), ?_⟩
      rw [cl_nI (by omega), nI_1]
      refine ih (j + 1) (by omega) _ (hS.putI (by simp)) (fun p hp => ?_)
      rw [putI_at]
      by_cases hpj : p = j
      · rw [if_pos ⟨rfl, hpj⟩]
      · rw [if_neg (fun x => hpj x.2)]; exact hN p (by omega)
  exact ⟨6, k1 5 0 rfl M (Same.refl _ _) (fun p hp => absurd hp (Nat.not_lt_zero _))⟩
/-! the class joins -/
theorem P_cjoin_59 {Q : Mem → Prop} {M : Mem} {e : Nat} (h11 : M.1 11 1 = nI (e + 1)) (he : e < 200)
    (hQ : ∀ N, Same [16] M N → (∀ i, i < 200 → N.1 16 i = if i < e + 1 ∧ sameT (M.1 12) i e = true then 1 else M.1 16 i) → Q N) : ∃ m, P_TextBook_join_59 Q m (nI e) 0 M := by
  have key : ∀ d i, i + d = e + 1 → ∀ N, Same [16] M N → (∀ j, j < 200 → N.1 16 j = if j < i ∧ sameT (M.1 12) j e = true then 1 else M.1 16 j) → P_TextBook_join_59 Q (d + 1) (nI e) (nI i) N := by
    intro d
    induction d with
    | zero =>
      intro i hi N hS hN
      have : i = e + 1 := by omega
      subst this
      unfold P_TextBook_join_59
      exact br_T (nI_lt (by omega) (by omega)) (hQ N hS hN)
    | succ d ih =>
      intro i hi N hS hN
      unfold P_TextBook_join_59
      have e11 : N.1 11 1 = nI (e + 1) := by rw [(hS 11 (by decide)).1]; exact h11
      have e12 : N.1 12 = M.1 12 := (hS 12 (by decide)).1
      refine br_F (nI_nlt (by omega) (by omega)) (br_F (nI_ge (b := 200) (by omega) (by omega)) (P_oneText e11 (by omega) (by omega) (by omega) ?_))
      rw [e12, nI_1]
      cases ht : sameT (M.1 12) i e
      · refine br_T rfl (ih (i + 1) (by omega) N hS (fun j hj => ?_))
        rw [hN j hj]
        by_cases hji : j = i
        · subst hji; simp [ht]
        · simp [show j < i + 1 ↔ j < i by omega]
      · refine br_F (by decide) ⟨in_nI (by omega) (by omega), ?_⟩
        rw [cl_nI (by omega)]
        refine ih (i + 1) (by omega) _ (hS.putI (by simp)) (fun j hj => ?_)
        rw [putI_at]
        by_cases hji : j = i
        · subst hji; simp [ht]
        · simp [hji, hN j hj, show j < i + 1 ↔ j < i by omega]
  exact ⟨e + 2, key (e + 1) 0 (by omega) M (Same.refl _ _) (fun j hj => by simp)⟩
theorem P_cjoin {Q : Mem → Prop} {M : Mem} {e m t : Nat} (h11 : M.1 11 1 = nI (e + 1)) (he : e < 200) (hm : m ≤ 5) (h15 : M.1 15 4 = nI t) (ht : t < 100)
    (hQ : ∀ N, Same [15, 16, 17, 18] M N → N.1 15 4 = nI (t + 1) → N.1 18 t = nI e → (∀ i, i < t → N.1 18 i = M.1 18 i) → (∀ p, p < m → N.1 17 (5 * t + p) = M.1 19 p) → (∀ j, j < 5 * t → N.1 17 j = M.1 17 j) → (∀ i, i < 200 → N.1 16 i = if i < e + 1 ∧ sameT (M.1 12) i e = true then 1 else M.1 16 i) → Q N) : P_TextBook_join (nI e) (nI m) M Q := by
  unfold P_TextBook_join
  have key : ∀ d w, w + d = m → ∀ N, Same [17] M N → (∀ p, p < w → N.1 17 (5 * t + p) = M.1 19 p) → (∀ j, j < 5 * t → N.1 17 j = M.1 17 j) → P_TextBook_join_3 Q (d + 1) (nI e) (nI m) (nI w) N := by
    intro d
    induction d with
    | zero =>
      intro w hw N hS h1 h2
      have : w = m := by omega
      subst this
      unfold P_TextBook_join_3
      have e15 : N.1 15 4 = nI t := by rw [(hS 15 (by decide)).1]; exact h15
      rw [e15, cl_nI (by omega), nI_1]
      refine br_T (nI_le (by omega) (by omega)) ⟨in_nI ht (by omega), ?_⟩
      have hS2 : Same [15, 17, 18] M (putI (putI N 18 t (nI e)) 15 4 (nI (t + 1))) := ((hS.mono (by simp)).putI (by simp)).putI (by simp)
      refine P_cjoin_59 (by rw [(hS2 11 (by decide)).1]; exact h11) he (fun O hO h3 => ?_)
      rw [(hS2 12 (by decide)).1, (hS2 16 (by decide)).1] at h3
      have e18 : O.1 18 = (putI (putI N 18 t (nI e)) 15 4 (nI (t + 1))).1 18 := (hO 18 (by decide)).1
      have e17 : O.1 17 = N.1 17 := (hO 17 (by decide)).1
      have m18 : N.1 18 = M.1 18 := (hS 18 (by decide)).1
      refine hQ O ((hS2.mono (by simp)).trans (hO.mono (by simp))) ?_ ?_ (fun i hi => ?_) (fun p hp => by rw [e17]; exact h1 p hp) (fun j hj => by rw [e17]; exact h2 j hj) h3
      · rw [(hO 15 (by decide)).1]; rfl
      · rw [e18, putI_at, if_neg (by omega), putI_at, if_pos ⟨rfl, rfl⟩]
      · rw [e18, putI_at, if_neg (by omega), putI_at, if_neg (by omega), m18]
    | succ d ih =>
      intro w hw N hS h1 h2
      unfold P_TextBook_join_3
      have e15 : N.1 15 4 = nI t := by rw [(hS 15 (by decide)).1]; exact h15
      have e19 : N.1 19 = M.1 19 := (hS 19 (by decide)).1
      rw [e15, show nI t * 5 = nI (t * 5) from pk_mul t 5, nI_add, cl_nI (n := t * 5 + w) (by omega), cl_nI (n := w) (by omega), nI_1 w, e19, Nat.mul_comm t 5]
      refine br_F (nI_ge (by omega) (by omega)) ⟨in_nI (by omega) (by omega), in_nI (by omega) (by omega), ih (w + 1) (by omega) _ (hS.putI (by simp)) (fun p hp => ?_) (fun j hj => ?_)⟩
      · rw [putI_at]
        by_cases hpw : p = w
        · rw [if_pos ⟨rfl, by omega⟩, hpw]
        · rw [if_neg (by omega)]; exact h1 p (by omega)
      · rw [putI_at, if_neg (by omega)]; exact h2 j hj
  exact ⟨m + 1, key m 0 (by omega) M (Same.refl _ _) (fun p hp => absurd hp (Nat.not_lt_zero _)) (fun _ _ => rfl)⟩
theorem P_ctnote {Q : Mem → Prop} {M : Mem} {e m t : Nat} (h11 : M.1 11 1 = nI (e + 1)) (he : e < 200) (hk : M.1 12 (8 * e + 6) = nI m) (hm : m ≤ 5) (h15 : M.1 15 4 = nI t) (ht : t < 100)
    (hr : ∀ i, i < e + 1 → sameT (M.1 12) i e = true → ∃ w : Nat, w < m ∧ M.1 12 (8 * i + 5) = nI w)
    (h0 : allB (M.1 16) (M.1 12) e m (e + 1) = false → ∀ N, Same [19] M N → Q N)
    (h1 : allB (M.1 16) (M.1 12) e m (e + 1) = true → ∀ N, Same [15, 16, 17, 18, 19] M N → N.1 15 4 = nI (t + 1) → N.1 18 t = nI e → (∀ i, i < t → N.1 18 i = M.1 18 i) → (∀ p, p < m → N.1 17 (5 * t + p) = oI (lastB (cand (M.1 16) (M.1 12) e p) (e + 1))) → (∀ j, j < 5 * t → N.1 17 j = M.1 17 j) → (∀ i, i < 200 → N.1 16 i = if i < e + 1 ∧ sameT (M.1 12) i e = true then 1 else M.1 16 i) → Q N) : P_TextBook_note (nI e) M Q := by
  unfold P_TextBook_note
  refine P_cell_in (f := 6) h11 (by omega) (by omega) (by omega) ?_
  rw [hk, h15]
  refine br_F (nI_ge (b := 100) ht (by omega)) (br_F (nI_nlt (a := 5) hm (by omega)) (P_findNewest h11 he hm hr (fun N hS hN => ?_)))
  cases hb : allB (M.1 16) (M.1 12) e m (e + 1)
  · exact br_T rfl (h0 hb N hS)
  · refine br_F (by decide) (P_cjoin (t := t) (by rw [(hS 11 (by decide)).1]; exact h11) he hm (by rw [(hS 15 (by decide)).1]; exact h15) ht (fun O hO a1 a2 a3 a4 a5 a6 => ?_))
    rw [(hS 18 (by decide)).1] at a3
    rw [(hS 17 (by decide)).1] at a5
    rw [(hS 12 (by decide)).1, (hS 16 (by decide)).1] at a6
    exact h1 hb O ((hS.mono (by simp)).trans (hO.mono (by simp))) a1 a2 a3 (fun p hp => by rw [a4 p hp]; exact hN p hp) a5 a6
/-! the model joins -/
def jL (g : Nat → Int32) (o : Nat → Option Nat) (p : Nat) : Int32 := g (8 * (o p).getD 0 + 7)
def jR (f : Nat → Int32) (t : Nat) (L : Nat → Int32) : Nat → Nat → Int32
  | 0 => f
  | w + 1 => upd (jR f t L w) (5 * t + w) (L w)
theorem jR_lo {f L : Nat → Int32} {t w j : Nat} (h : j < 5 * t) : jR f t L w j = f j := by
  induction w with
  | zero => rfl
  | succ w ih =>
    unfold jR upd
    rw [if_neg (by omega)]
    exact ih
theorem jR_at {f L : Nat → Int32} {t w p : Nat} (h : p < w) : jR f t L w (5 * t + p) = L p := by
  induction w with
  | zero => exact absurd h (Nat.not_lt_zero _)
  | succ w ih =>
    unfold jR upd
    by_cases hp : p = w
    · rw [if_pos (by omega), hp]
    · rw [if_neg (by omega)]
      exact ih (by omega)
def jU (f g : Nat → Int32) (v : Nat) : Nat → Nat → Int32
  | 0 => f
  | i + 1 => if sameT g i v then upd (jU f g v i) i 1 else jU f g v i
theorem jU_at (f g : Nat → Int32) (v n i : Nat) : jU f g v n i = if i < n ∧ sameT g i v = true then 1 else f i := by
  induction n with
  | zero => simp [jU]
  | succ n ih =>
    unfold jU
    by_cases hs : sameT g n v = true
    · rw [if_pos hs]
      unfold upd
      by_cases hi : i = n
      · subst hi; simp [hs]
      · rw [if_neg hi, ih]; simp [show i < n + 1 ↔ i < n by omega]
    · rw [if_neg hs, ih]
      by_cases hi : i = n
      · subst hi; simp [hs]
      · simp [show i < n + 1 ↔ i < n by omega]
theorem P_mojoin_26 {K15 : Int32 → Int32 → Int32 → Mem → Prop} {Q : Mem → Prop} {M : Mem} {e v m w t : Nat} (h11 : M.1 35 11 = nI e) (he : e ≤ 200) (hv : v < e) (hw : w < 5) (h20 : M.1 35 20 = nI t) (ht : t < 100)
    (h0 : lastB (cand (M.1 42) (M.1 41) v w) e = none → Q M)
    (h1 : ∀ a, lastB (cand (M.1 42) (M.1 41) v w) e = some a → K15 (nI v) (nI m) (nI (w + 1)) (putI M 48 (5 * t + w) (M.1 41 (8 * a + 7)))) : ∃ n, P_Mo_join_26 K15 Q n (nI v) (nI m) (nI w) (-1) 0 M := by
  have key : ∀ d i, i + d = e → P_Mo_join_26 K15 Q (d + 1) (nI v) (nI m) (nI w) (oI (lastB (cand (M.1 42) (M.1 41) v w) i)) (nI i) M := by
    intro d
    induction d with
    | zero =>
      intro i hi
      have : i = e := by omega
      subst this
      unfold P_Mo_join_26
      rw [h11, h20]
      refine br_T (nI_le (by omega) (by omega)) ?_
      cases hz : lastB (cand (M.1 42) (M.1 41) v w) i with
      | none => exact br_T' rfl (h0 hz)
      | some a =>
        have ha := (lastB_lt hz).1
        refine br_F' (by show ¬ nI a = -1; rw [i_eq, i_nI (by omega), i_m1]; omega) ?_
        show vp_in (8 * nI a + 7) 1600 ∧ vp_in (5 * nI t + nI w) 500 ∧ K15 (nI v) (nI m) (nI w + 1) (putI M 48 (5 * nI t + nI w).toNatClampNeg (M.1 41 (8 * nI a + 7).toNatClampNeg))
        rw [show (8 : Int32) * nI a + 7 = nI (8 * a + 7) from ix_m a 7, show (5 : Int32) * nI t = nI (5 * t) from pk_mul 5 t, nI_add, nI_1, cl_nI (n := 5 * t + w) (by omega), cl_nI (n := 8 * a + 7) (by omega)]
        exact ⟨in_nI (by omega) (by omega), in_nI (by omega) (by omega), h1 a hz⟩
    | succ d ih =>
      intro i hi
      unfold P_Mo_join_26
      rw [h11, cl_nI (n := i) (by omega), nI_1 i]
      have no : cand (M.1 42) (M.1 41) v w i = false → P_Mo_join_26 K15 Q (d + 1) (nI v) (nI m) (nI w) (oI (lastB (cand (M.1 42) (M.1 41) v w) i)) (nI (i + 1)) M := fun hc => by
        have := ih (i + 1) (by omega)
        rwa [show lastB (cand (M.1 42) (M.1 41) v w) (i + 1) = lastB (cand (M.1 42) (M.1 41) v w) i by
          show (if cand (M.1 42) (M.1 41) v w i = true then some i else lastB (cand (M.1 42) (M.1 41) v w) i) = _
          rw [hc]; rfl] at this
      refine br_F (nI_ge (by omega) (by omega)) ⟨in_nI (by omega) (by omega), fun hu => no (by unfold cand; simp [hu]), fun hu => P_moisOf (by omega) (by omega) ?_⟩
      cases hs : sameT (M.1 41) i v
      · exact br_T rfl (no (by unfold cand; simp [hs]))
      · refine br_F (by decide) ?_
        rw [show (8 : Int32) * nI i + 5 = nI (8 * i + 5) from ix_m i 5, cl_nI (n := 8 * i + 5) (by omega)]
        refine ⟨in_nI (by omega) (by omega), fun h5 => no (by unfold cand; simp [h5]), fun h5 => ?_⟩
        have := ih (i + 1) (by omega)
        rwa [show lastB (cand (M.1 42) (M.1 41) v w) (i + 1) = some i by
          show (if cand (M.1 42) (M.1 41) v w i = true then some i else lastB (cand (M.1 42) (M.1 41) v w) i) = _
          rw [show cand (M.1 42) (M.1 41) v w i = true by unfold cand; simp [hu, hs, h5]]; rfl] at this
  exact ⟨e + 1, key e 0 (by omega)⟩
theorem P_mojoin_194 {Q : Mem → Prop} {M : Mem} {e v : Nat} (h11 : M.1 35 11 = nI e) (he : e ≤ 200) (hv : v < e) (hQ : Q (setRow M 42 (jU (M.1 42) (M.1 41) v e))) : ∃ n, P_Mo_join_194 Q n (nI v) 0 M := by
  have key : ∀ d i, i + d = e → P_Mo_join_194 Q (d + 1) (nI v) (nI i) (setRow M 42 (jU (M.1 42) (M.1 41) v i)) := by
    intro d
    induction d with
    | zero =>
      intro i hi
      have : i = e := by omega
      subst this
      unfold P_Mo_join_194
      exact br_T (by show M.1 35 11 ≤ nI i; rw [h11]; exact nI_le (by omega) (by omega)) hQ
    | succ d ih =>
      intro i hi
      have n : P_Mo_join_194 Q (d + 1) (nI v) (nI (i + 1)) (setRow M 42 (if sameT (M.1 41) i v then upd (jU (M.1 42) (M.1 41) v i) i 1 else jU (M.1 42) (M.1 41) v i)) := ih (i + 1) (by omega)
      unfold P_Mo_join_194
      rw [nI_1, cl_nI (n := i) (by omega)]
      refine br_F (by show ¬ M.1 35 11 ≤ nI i; rw [h11]; exact nI_ge (by omega) (by omega)) (P_moisOf (M := setRow M 42 (jU (M.1 42) (M.1 41) v i)) (by omega) (by omega) ?_)
      have e41 : (setRow M 42 (jU (M.1 42) (M.1 41) v i)).1 41 = M.1 41 := rfl
      rw [e41]
      cases hs : sameT (M.1 41) i v
      · rw [hs] at n
        exact br_T rfl n
      · rw [hs] at n
        refine br_F (by decide) ⟨in_nI (by omega) (by omega), ?_⟩
        rw [setRow_put]
        exact n
  have k0 := key e 0 (by omega)
  rw [show jU (M.1 42) (M.1 41) v 0 = M.1 42 from rfl, setRow_own] at k0
  exact ⟨e + 1, k0⟩
theorem mj_loop {Q : Mem → Prop} {M : Mem} {e v m t : Nat} (h11 : M.1 35 11 = nI e) (he : e ≤ 200) (hv : v < e) (hm : m ≤ 5) (h20 : M.1 35 20 = nI t) (ht : t < 100) :
    ∀ n f, n ≤ m → (∀ q, q < n → (lastB (cand (M.1 42) (M.1 41) v q) e).isSome = true) → P_Mo_join_15 Q f (nI v) (nI m) (nI n) (setRow M 48 (jR (M.1 48) t (jL (M.1 41) (fun p => lastB (cand (M.1 42) (M.1 41) v p) e)) n)) → P_Mo_join_15 Q (f + n) (nI v) (nI m) 0 M := by
  intro n
  induction n with
  | zero =>
    intro f _ _ h
    rw [show jR (M.1 48) t (jL (M.1 41) (fun p => lastB (cand (M.1 42) (M.1 41) v p) e)) 0 = M.1 48 from rfl, setRow_own] at h
    exact h
  | succ n ih =>
    intro f hn hs h
    rw [show f + (n + 1) = f + 1 + n by omega]
    refine ih (f + 1) (by omega) (fun q hq => hs q (by omega)) ?_
    unfold P_Mo_join_15
    refine br_F (nI_ge (by omega) (by omega)) (P_mojoin_26 (M := setRow M 48 (jR (M.1 48) t (jL (M.1 41) (fun p => lastB (cand (M.1 42) (M.1 41) v p) e)) n)) (e := e) (t := t) h11 he hv (by omega) h20 ht (fun hz => ?_) (fun a ha => ?_))
    · have hz : lastB (cand (M.1 42) (M.1 41) v n) e = none := hz
      have := hs n (by omega)
      rw [hz] at this
      cases this
    · have ha : lastB (cand (M.1 42) (M.1 41) v n) e = some a := ha
      rw [setRow_put]
      have el : (setRow M 48 (jR (M.1 48) t (jL (M.1 41) (fun p => lastB (cand (M.1 42) (M.1 41) v p) e)) n)).1 41 (8 * a + 7) = jL (M.1 41) (fun p => lastB (cand (M.1 42) (M.1 41) v p) e) n := by
        show M.1 41 (8 * a + 7) = M.1 41 (8 * (lastB (cand (M.1 42) (M.1 41) v n) e).getD 0 + 7)
        rw [ha]; rfl
      rw [el]
      exact h
theorem P_mojoin_no {Q : Mem → Prop} {M : Mem} {e v m t p : Nat} (h11 : M.1 35 11 = nI e) (he : e ≤ 200) (hv : v < e) (hm : m ≤ 5) (h6 : M.1 41 (8 * v + 6) = nI m) (h20 : M.1 35 20 = nI t) (ht : t < 100)
    (hp : p < m) (hn : lastB (cand (M.1 42) (M.1 41) v p) e = none) (hq : ∀ q, q < p → (lastB (cand (M.1 42) (M.1 41) v q) e).isSome = true)
    (hQ : Q (setRow M 48 (jR (M.1 48) t (jL (M.1 41) (fun p => lastB (cand (M.1 42) (M.1 41) v p) e)) p))) : P_Mo_join (nI v) M Q := by
  unfold P_Mo_join
  rw [show (8 : Int32) * nI v + 6 = nI (8 * v + 6) from ix_m v 6, cl_nI (n := 8 * v + 6) (by omega), h6]
  refine ⟨in_nI (by omega) (by omega), 1 + p, mj_loop h11 he hv hm h20 ht p 1 (by omega) hq ?_⟩
  unfold P_Mo_join_15
  refine br_F (nI_ge (by omega) (by omega)) (P_mojoin_26 (M := setRow M 48 (jR (M.1 48) t (jL (M.1 41) (fun p => lastB (cand (M.1 42) (M.1 41) v p) e)) p)) (e := e) (t := t) h11 he hv (by omega) h20 ht (fun _ => hQ) (fun a ha => ?_))
  have ha : lastB (cand (M.1 42) (M.1 41) v p) e = some a := ha
  rw [hn] at ha
  cases ha
theorem P_mojoin_yes {Q : Mem → Prop} {M : Mem} {e v m t : Nat} (h11 : M.1 35 11 = nI e) (he : e ≤ 200) (hv : v < e) (hm : m ≤ 5) (h6 : M.1 41 (8 * v + 6) = nI m) (h20 : M.1 35 20 = nI t) (ht : t < 100)
    (hq : ∀ q, q < m → (lastB (cand (M.1 42) (M.1 41) v q) e).isSome = true)
    (hQ : Q (setRow (putI (putI (putI (putI (putI (setRow M 48 (jR (M.1 48) t (jL (M.1 41) (fun p => lastB (cand (M.1 42) (M.1 41) v p) e)) m)) 44 t (M.1 41 (8 * v + 1))) 45 t (M.1 41 (8 * v + 4))) 46 t (nI (4 * m))) 47 t (nI v)) 35 20 (nI (t + 1))) 42 (jU (M.1 42) (M.1 41) v e))) : P_Mo_join (nI v) M Q := by
  unfold P_Mo_join
  rw [show (8 : Int32) * nI v + 6 = nI (8 * v + 6) from ix_m v 6, cl_nI (n := 8 * v + 6) (by omega), h6]
  refine ⟨in_nI (by omega) (by omega), 1 + m, mj_loop h11 he hv hm h20 ht m 1 (by omega) hq ?_⟩
  unfold P_Mo_join_15
  have e20 : (setRow M 48 (jR (M.1 48) t (jL (M.1 41) (fun p => lastB (cand (M.1 42) (M.1 41) v p) e)) m)).1 35 20 = nI t := h20
  rw [e20, cl_nI (n := t) (by omega), show (8 : Int32) * nI v + 1 = nI (8 * v + 1) from ix_m v 1, show (8 : Int32) * nI v + 4 = nI (8 * v + 4) from ix_m v 4, cl_nI (n := 8 * v + 1) (by omega), cl_nI (n := 8 * v + 4) (by omega), show (4 : Int32) * nI m = nI (4 * m) from pk_mul 4 m, nI_1]
  exact br_T (nI_le (by omega) (by omega)) ⟨in_nI (by omega) (by omega), in_nI (by omega) (by omega), in_nI (by omega) (by omega), P_mojoin_194 (M := putI (putI (putI (putI (putI (setRow M 48 (jR (M.1 48) t (jL (M.1 41) (fun p => lastB (cand (M.1 42) (M.1 41) v p) e)) m)) 44 t (M.1 41 (8 * v + 1))) 45 t (M.1 41 (8 * v + 4))) 46 t (nI (4 * m))) 47 t (nI v)) 35 20 (nI (t + 1))) (e := e) h11 he hv hQ⟩
