/-! positions are gathered, in order -/
def ahB (g : Nat → Int32) (k x : Nat) : Bool :=
  if g (8 * k + 3) = g (8 * x + 3) then (if g (8 * k + 4) = g (8 * x + 4) then decide (g (8 * k + 5) < g (8 * x + 5)) else decide (g (8 * k + 4) < g (8 * x + 4))) else decide (g (8 * k + 3) < g (8 * x + 3))
theorem ahB_congr {g h : Nat → Int32} {e k x : Nat} (hg : ∀ j, j < 8 * e → g j = h j) (hk : k < e) (hx : x < e) : ahB g k x = ahB h k x := by
  unfold ahB
  rw [hg (8 * k + 3) (by omega), hg (8 * x + 3) (by omega), hg (8 * k + 4) (by omega), hg (8 * x + 4) (by omega), hg (8 * k + 5) (by omega), hg (8 * x + 5) (by omega)]
theorem i_tri {a b : Int32} (h : ¬ a = b) (h2 : b ≤ a) : ¬ a < b := by
  rw [i_lt, i_le] at *
  omega
theorem P_cmp {a b : Int32} {M : Mem} {Q : Int32 → Mem → Prop} (h0 : a = b → Q 0 M) (h1 : ¬ a = b → ¬ a < b → Q 1 M) (hm : a < b → Q (-1) M) : P_J6_compare_7cf53 a b M Q := by
  unfold P_J6_compare_7cf53
  exact ⟨fun h => ⟨fun h2 => h1 h2 (i_tri h2 h), fun h2 => h0 h2⟩, fun h => hm (i_nle.mp h)⟩
theorem P_cahead {e k x : Nat} {M : Mem} {Q : Int32 → Mem → Prop} (h : M.1 11 1 = nI e) (he : e ≤ 200) (hk : k < e) (hx : x < e) (hQ : Q (if ahB (M.1 12) k x then 1 else 0) M) : P_Parting_isAhead (nI k) (nI x) M Q := by
  unfold P_Parting_isAhead
  unfold ahB at hQ
  refine ⟨4, ?_⟩
  have yes : ∀ r : Int32, r = -1 → Q 1 M → (0 ≤ r → Q 0 M) ∧ (¬ 0 ≤ r → Q 1 M) := fun r hr hq => br_F (by rw [hr]; decide) hq
  have no : ∀ r : Int32, r = 1 → Q 0 M → (0 ≤ r → Q 0 M) ∧ (¬ 0 ≤ r → Q 1 M) := fun r hr hq => br_T (by rw [hr]; decide) hq
  unfold P_Parting_isAhead_2
  refine br_F (by decide) (P_cell_in (f := 3) h he hk (by omega) (P_cell_in (f := 3) h he hx (by omega) (P_cmp (fun e3 => br_T rfl ?_) (fun n3 l3 => br_F (by decide) (no 1 rfl ?_)) (fun l3 => br_F (by decide) (yes (-1) rfl ?_)))))
  · rw [if_pos e3] at hQ
    unfold P_Parting_isAhead_2
    refine br_F (by decide) (P_cell_in (f := 4) h he hk (by omega) (P_cell_in (f := 4) h he hx (by omega) (P_cmp (fun e4 => br_T rfl ?_) (fun n4 l4 => br_F (by decide) (no 1 rfl ?_)) (fun l4 => br_F (by decide) (yes (-1) rfl ?_)))))
    · rw [if_pos e4] at hQ
      unfold P_Parting_isAhead_2
      refine br_F (by decide) (P_cell_in (f := 5) h he hk (by omega) (P_cell_in (f := 5) h he hx (by omega) (P_cmp (fun e5 => br_T rfl ?_) (fun n5 l5 => br_F (by decide) (no 1 rfl ?_)) (fun l5 => br_F (by decide) (yes (-1) rfl ?_)))))
      · unfold P_Parting_isAhead_2
        refine br_T (by decide) ?_
        rw [decide_eq_false (by rw [e5, i_lt]; omega)] at hQ
        exact hQ
      · rw [decide_eq_false l5] at hQ; exact hQ
      · rw [decide_eq_true l5] at hQ; exact hQ
    · rw [if_neg n4, decide_eq_false l4] at hQ; exact hQ
    · have n4 : ¬ M.1 12 (8 * k + 4) = M.1 12 (8 * x + 4) := fun e => by rw [e, i_lt] at l4; omega
      rw [if_neg n4, decide_eq_true l4] at hQ; exact hQ
  · rw [if_neg n3, decide_eq_false l3] at hQ; exact hQ
  · have n3 : ¬ M.1 12 (8 * k + 3) = M.1 12 (8 * x + 3) := fun e => by rw [e, i_lt] at l3; omega
    rw [if_neg n3, decide_eq_true l3] at hQ; exact hQ
theorem P_moahead {k x : Nat} {M : Mem} {Q : Int32 → Mem → Prop} (hk : k < 200) (hx : x < k) (hQ : Q (if ahB (M.1 41) k x then 1 else 0) M) : P_Mo_isAhead (nI k) (nI x) M Q := by
  unfold P_Mo_isAhead
  unfold ahB at hQ
  rw [show (8 : Int32) * nI k + 3 = nI (8 * k + 3) from ix_m k 3, show (8 : Int32) * nI x + 3 = nI (8 * x + 3) from ix_m x 3, show (8 : Int32) * nI k + 4 = nI (8 * k + 4) from ix_m k 4, show (8 : Int32) * nI x + 4 = nI (8 * x + 4) from ix_m x 4, show (8 : Int32) * nI k + 5 = nI (8 * k + 5) from ix_m k 5, show (8 : Int32) * nI x + 5 = nI (8 * x + 5) from ix_m x 5]
  rw [cl_nI (n := 8 * k + 3) (by omega), cl_nI (n := 8 * x + 3) (by omega), cl_nI (n := 8 * k + 4) (by omega), cl_nI (n := 8 * x + 4) (by omega), cl_nI (n := 8 * k + 5) (by omega), cl_nI (n := 8 * x + 5) (by omega)]
  have iv : ∀ n, n < 1600 → vp_in (nI n) 1600 := fun n hn => in_nI hn (by omega)
  refine ⟨iv _ (by omega), iv _ (by omega), fun e3 => ⟨iv _ (by omega), iv _ (by omega), fun e4 => ⟨iv _ (by omega), iv _ (by omega), fun e5 => ?_, fun n5 => ⟨fun l5 => ?_, fun l5 => ?_⟩⟩, fun n4 => ⟨fun l4 => ?_, fun l4 => ?_⟩⟩, fun n3 => ⟨fun l3 => ?_, fun l3 => ?_⟩⟩
  · rw [if_pos e3, if_pos e4, decide_eq_false (by rw [e5, i_lt]; omega)] at hQ
    exact br_T (nI_le (by omega) (by omega)) hQ
  · rw [if_pos e3, if_pos e4, decide_eq_false (i_tri n5 l5)] at hQ; exact hQ
  · rw [if_pos e3, if_pos e4, decide_eq_true (i_nle.mp l5)] at hQ; exact hQ
  · rw [if_pos e3, if_neg n4, decide_eq_false (i_tri n4 l4)] at hQ; exact hQ
  · rw [if_pos e3, if_neg n4, decide_eq_true (i_nle.mp l4)] at hQ; exact hQ
  · rw [if_neg n3, decide_eq_false (i_tri n3 l3)] at hQ; exact hQ
  · rw [if_neg n3, decide_eq_true (i_nle.mp l3)] at hQ; exact hQ
/-! one more is put in its place -/
def pI (g : Nat → Int32) (k : Nat) (s : Nat → Nat) : Nat → Nat
  | 0 => 0
  | t + 1 => if ahB g k (s t) then pI g k s t else t + 1
def insF (s : Nat → Nat) (pos k : Nat) : Nat → Nat := fun i => if i < pos then s i else if i = pos then k else s (i - 1)
theorem pI_le (g : Nat → Int32) (k : Nat) (s : Nat → Nat) (t : Nat) : pI g k s t ≤ t := by
  induction t with
  | zero => exact Nat.le_refl _
  | succ t ih =>
    unfold pI
    split <;> omega
theorem pI_hi {g : Nat → Int32} {k : Nat} {s : Nat → Nat} {t : Nat} : ∀ i, pI g k s t ≤ i → i < t → ahB g k (s i) = true := by
  induction t with
  | zero => intro i _ hi; exact absurd hi (Nat.not_lt_zero _)
  | succ t ih =>
    intro i h hi
    unfold pI at h
    by_cases ha : ahB g k (s t) = true
    · rw [if_pos ha] at h
      by_cases hit : i = t
      · rw [hit]; exact ha
      · exact ih i h (by omega)
    · rw [if_neg ha] at h
      omega
theorem pI_lo {g : Nat → Int32} {k : Nat} {s : Nat → Nat} {t : Nat} (h : 0 < pI g k s t) : ahB g k (s (pI g k s t - 1)) = false := by
  induction t with
  | zero => exact absurd h (Nat.lt_irrefl 0)
  | succ t ih =>
    by_cases ha : ahB g k (s t) = true
    · have e : pI g k s (t + 1) = pI g k s t := by
        show (if ahB g k (s t) = true then pI g k s t else t + 1) = _
        rw [if_pos ha]
      rw [e] at h ⊢
      exact ih h
    · have e : pI g k s (t + 1) = t + 1 := by
        show (if ahB g k (s t) = true then pI g k s t else t + 1) = _
        rw [if_neg ha]
      rw [e]
      exact Bool.eq_false_iff.mpr ha
theorem pI_congr {g h : Nat → Int32} {e k : Nat} {s : Nat → Nat} (hg : ∀ j, j < 8 * e → g j = h j) (hk : k < e) {t : Nat} (hs : ∀ i, i < t → s i < e) : pI g k s t = pI h k s t := by
  induction t with
  | zero => rfl
  | succ t ih =>
    unfold pI
    rw [ahB_congr hg hk (hs t (by omega)), ih (fun i hi => hs i (by omega))]
def tI (g : Nat → Int32) (i : Nat) : Int := (g (8 * i + 3)).toInt
theorem ahB_t {g : Nat → Int32} {k x : Nat} (h : ahB g k x = true) : tI g k ≤ tI g x := by
  unfold ahB at h
  unfold tI
  by_cases e : g (8 * k + 3) = g (8 * x + 3)
  · rw [e]; exact Int.le_refl _
  · rw [if_neg e] at h
    have := (i_lt _ _).mp (of_decide_eq_true h)
    omega
theorem ahB_f {g : Nat → Int32} {k x : Nat} (h : ahB g k x = false) : tI g x ≤ tI g k := by
  unfold ahB at h
  unfold tI
  by_cases e : g (8 * k + 3) = g (8 * x + 3)
  · rw [e]; exact Int.le_refl _
  · rw [if_neg e] at h
    have := of_decide_eq_false h
    rw [i_lt] at this
    omega
/-- the first e entries of the log: how many positions, in which order -/
def gS (g : Nat → Int32) (ship : Int32) : Nat → Nat × (Nat → Nat)
  | 0 => (0, fun _ => 0)
  | e + 1 => if isB g 1 ship e then ((gS g ship e).1 + 1, insF (gS g ship e).2 (pI g e (gS g ship e).2 (gS g ship e).1) e) else gS g ship e
theorem gS_t {g : Nat → Int32} {ship : Int32} {e : Nat} (h : isB g 1 ship e = true) : gS g ship (e + 1) = ((gS g ship e).1 + 1, insF (gS g ship e).2 (pI g e (gS g ship e).2 (gS g ship e).1) e) := by
  show (if isB g 1 ship e = true then _ else _) = _
  rw [if_pos h]
theorem gS_f {g : Nat → Int32} {ship : Int32} {e : Nat} (h : ¬ isB g 1 ship e = true) : gS g ship (e + 1) = gS g ship e := by
  show (if isB g 1 ship e = true then _ else _) = _
  rw [if_neg h]
theorem gS_n (g : Nat → Int32) (ship : Int32) (e : Nat) : (gS g ship e).1 = cntB (isB g 1 ship) e := by
  induction e with
  | zero => rfl
  | succ e ih =>
    by_cases h : isB g 1 ship e = true
    · rw [gS_t h, cntB_succ_t h]
      show (gS g ship e).1 + 1 = _
      rw [ih]
    · rw [gS_f h, cntB_succ_f h, ih]
theorem gS_ok (g : Nat → Int32) (ship : Int32) (e : Nat) : (∀ i, i < (gS g ship e).1 → (gS g ship e).2 i < e ∧ isB g 1 ship ((gS g ship e).2 i) = true) ∧ ∀ i j, i ≤ j → j < (gS g ship e).1 → tI g ((gS g ship e).2 i) ≤ tI g ((gS g ship e).2 j) := by
  induction e with
  | zero => exact ⟨fun i hi => absurd hi (Nat.not_lt_zero _), fun i j _ hj => absurd hj (Nat.not_lt_zero _)⟩
  | succ e ih =>
    obtain ⟨h1, h2⟩ := ih
    by_cases h : isB g 1 ship e = true
    · rw [gS_t h]
      have hp := pI_le g e (gS g ship e).2 (gS g ship e).1
      have hhi := pI_hi (g := g) (k := e) (s := (gS g ship e).2) (t := (gS g ship e).1)
      have hlo := pI_lo (g := g) (k := e) (s := (gS g ship e).2) (t := (gS g ship e).1)
      generalize pI g e (gS g ship e).2 (gS g ship e).1 = pos at *
      generalize (gS g ship e).2 = s at *
      generalize (gS g ship e).1 = n at *
      refine ⟨fun i hi => ?_, fun i j hij hj => ?_⟩
      · have hi : i < n + 1 := hi
        show insF s pos e i < e + 1 ∧ isB g 1 ship (insF s pos e i) = true
        unfold insF
        by_cases a : i < pos
        · rw [if_pos a]
          have := h1 i (by omega)
          exact ⟨by omega, this.2⟩
        · rw [if_neg a]
          by_cases b : i = pos
          · rw [if_pos b]; exact ⟨by omega, h⟩
          · rw [if_neg b]
            have := h1 (i - 1) (by omega)
            exact ⟨by omega, this.2⟩
      · have hj : j < n + 1 := hj
        show tI g (insF s pos e i) ≤ tI g (insF s pos e j)
        have low : ∀ i, i < pos → tI g (s i) ≤ tI g e := fun i hi => by
          have a := h2 i (pos - 1) (by omega) (by omega)
          have b := ahB_f (hlo (by omega))
          omega
        have high : ∀ i, pos ≤ i → i < n → tI g e ≤ tI g (s i) := fun i hi hi2 => ahB_t (hhi i hi hi2)
        unfold insF
        by_cases a : i < pos
        · rw [if_pos a]
          by_cases a' : j < pos
          · rw [if_pos a']; exact h2 i j hij (by omega)
          · rw [if_neg a']
            by_cases b' : j = pos
            · rw [if_pos b']; exact low i a
            · rw [if_neg b']; exact h2 i (j - 1) (by omega) (by omega)
        · rw [if_neg a, if_neg (show ¬ j < pos by omega)]
          by_cases b : i = pos
          · rw [if_pos b]
            by_cases b' : j = pos
            · rw [if_pos b']; exact Int.le_refl _
            · rw [if_neg b']; exact high (j - 1) (by omega) (by omega)
          · rw [if_neg b, if_neg (show ¬ j = pos by omega)]
            exact h2 (i - 1) (j - 1) (by omega) (by omega)
    · rw [gS_f h]
      exact ⟨fun i hi => by have := h1 i hi; exact ⟨by omega, this.2⟩, h2⟩
theorem gS_congr {g h : Nat → Int32} {E : Nat} {ship : Int32} (hg : ∀ j, j < 8 * E → g j = h j) : ∀ e, e ≤ E → gS g ship e = gS h ship e := by
  intro e
  induction e with
  | zero => intro _; rfl
  | succ e ih =>
    intro he
    have ib : isB g 1 ship e = isB h 1 ship e := by
      unfold isB
      rw [hg (8 * e) (by omega), hg (8 * e + 1) (by omega)]
    have i2 := ih (by omega)
    by_cases hb : isB g 1 ship e = true
    · rw [gS_t hb, gS_t (by rw [← ib]; exact hb), i2]
      rw [pI_congr (h := h) hg (by omega) (fun i hi => by have := ((gS_ok h ship e).1 i hi).1; omega)]
    · rw [gS_f hb, gS_f (by rw [← ib]; exact hb), i2]
/-! the class gathers -/
theorem P_insert {e k n : Nat} {s : Nat → Nat} {M : Mem} {Q : Mem → Prop} (h : M.1 11 1 = nI e) (he : e ≤ 200) (hk : k < e) (hn : n < 16) (h4 : M.1 20 4 = nI n) (hs : ∀ i, i < n → M.1 31 i = nI (s i)) (hse : ∀ i, i < n → s i < e)
    (hQ : ∀ N, Same [20, 31] M N → (∀ f, f ≠ 4 → N.1 20 f = M.1 20 f) → N.2 = M.2 → N.1 20 4 = nI (n + 1) → (∀ i, i < n + 1 → N.1 31 i = nI (insF s (pI (M.1 12) k s n) k i)) → Q N) : P_Parting_insert (nI k) M Q := by
  have key : ∀ t, t ≤ n → pI (M.1 12) k s n = pI (M.1 12) k s t → ∀ N, Same [31] M N → N.2 = M.2 → (∀ i, i < t → N.1 31 i = nI (s i)) → (∀ i, t < i → i ≤ n → N.1 31 i = nI (s (i - 1))) → P_Parting_insert_5 Q (t + 1) (nI k) (nI t) N := by
    intro t
    have fin : ∀ t, t ≤ n → pI (M.1 12) k s n = t → ∀ N, Same [31] M N → N.2 = M.2 → (∀ i, i < t → N.1 31 i = nI (s i)) → (∀ i, t < i → i ≤ n → N.1 31 i = nI (s (i - 1))) → P_Parting_insert_45 Q (nI k) (nI t) N := fun t ht hp N sN lN a1 a2 => by
      unfold P_Parting_insert_45
      rw [cl_nI (n := t) (by omega), show N.1 20 4 = nI n by rw [(sN 20 (by decide)).1]; exact h4, nI_1]
      refine ⟨in_nI (by omega) (by omega), hQ _ (((sN.mono (by simp)).putI (by simp)).putI (by simp)) (fun f hf => ?_) lN rfl (fun i hi => ?_)⟩
      · rw [putI_at, if_neg (fun x => hf x.2), putI_ne1 (by omega), (sN 20 (by decide)).1]
      · rw [putI_ne1 (by omega), putI_at, hp]
        unfold insF
        by_cases b1 : i < t
        · rw [if_pos b1, if_neg (by omega)]; exact a1 i b1
        · rw [if_neg b1]
          by_cases b2 : i = t
          · rw [if_pos ⟨rfl, b2⟩, if_pos b2]
          · rw [if_neg (fun x => b2 x.2), if_neg b2]; exact a2 i (by omega) (by omega)
    induction t with
    | zero =>
      intro ht hp N sN lN a1 a2
      unfold P_Parting_insert_5
      exact br_T (by decide) (fin 0 ht hp N sN lN a1 a2)
    | succ t ih =>
      intro ht hp N sN lN a1 a2
      have hp' : pI (M.1 12) k s n = if ahB (M.1 12) k (s t) = true then pI (M.1 12) k s t else t + 1 := hp
      unfold P_Parting_insert_5
      rw [show nI (t + 1) - 1 = nI t from pk_sub (a := t + 1) (b := 1) (by omega), cl_nI (n := t) (by omega), a1 t (by omega), nI_m1, show nI (t + 1) - 1 = nI t from pk_sub (a := t + 1) (b := 1) (by omega), cl_nI (n := t + 1) (by omega)]
      refine br_F (by rw [show (0 : Int32) = nI 0 from rfl, nle_of (by omega) (by omega)]; omega) ⟨in_nI (by omega) (by omega), P_cahead (e := e) (by rw [(sN 11 (by decide)).1]; exact h) he hk (hse t (by omega)) ?_⟩
      rw [(sN 12 (by decide)).1, a1 t (by omega)]
      cases hb : ahB (M.1 12) k (s t)
      · rw [hb] at hp'
        exact br_T rfl (fin (t + 1) ht hp' N sN lN a1 a2)
      · rw [hb] at hp'
        refine br_F (by decide) ⟨in_nI (by omega) (by omega), ih (by omega) hp' _ (sN.putI (by simp)) lN (fun i hi => ?_) (fun i hi hi2 => ?_)⟩
        · rw [putI_at, if_neg (by omega)]; exact a1 i (by omega)
        · rw [putI_at]
          by_cases hit : i = t + 1
          · rw [if_pos ⟨rfl, hit⟩, hit]; rfl
          · rw [if_neg (fun x => hit x.2)]; exact a2 i (by omega) hi2
  unfold P_Parting_insert
  rw [h4]
  exact ⟨n + 1, key n (Nat.le_refl _) rfl M (Same.refl _ _) rfl hs (fun i h1 h2 => by omega)⟩
theorem P_gather {e : Nat} {ship : Int32} {M : Mem} {Q : Mem → Prop} (h : M.1 11 1 = nI e) (he : e ≤ 200) (h16 : (gS (M.1 12) ship e).1 ≤ 16)
    (hQ : ∀ N, Same [20, 31] M N → (∀ f, f ≠ 4 → N.1 20 f = M.1 20 f) → N.2 = M.2 → N.1 20 4 = nI (gS (M.1 12) ship e).1 → (∀ i, i < (gS (M.1 12) ship e).1 → N.1 31 i = nI ((gS (M.1 12) ship e).2 i)) → Q N) : P_Parting_gather ship M Q := by
  have mono : ∀ i, i ≤ e → (gS (M.1 12) ship i).1 ≤ 16 := fun i hi => by
    rw [gS_n] at h16 ⊢
    have := cntB_mono (isB (M.1 12) 1 ship) hi
    omega
  have key : ∀ d i, i + d = e → ∀ N, Same [20, 31] M N → (∀ f, f ≠ 4 → N.1 20 f = M.1 20 f) → N.2 = M.2 → N.1 20 4 = nI (gS (M.1 12) ship i).1 → (∀ j, j < (gS (M.1 12) ship i).1 → N.1 31 j = nI ((gS (M.1 12) ship i).2 j)) → P_Parting_gather_13 Q (d + 1) ship (nI e) (nI i) N := by
    intro d
    induction d with
    | zero =>
      intro i hi N sN fN lN n4 n31
      have : i = e := by omega
      subst this
      unfold P_Parting_gather_13
      exact br_T (nI_le (by omega) (by omega)) (hQ N sN fN lN n4 n31)
    | succ d ih =>
      intro i hi N sN fN lN n4 n31
      have m1 := mono (i + 1) (by omega)
      have m0 := mono i (by omega)
      unfold P_Parting_gather_13
      rw [n4, nI_1]
      have n11 : N.1 11 1 = nI e := by rw [(sN 11 (by decide)).1]; exact h
      have n12 : N.1 12 = M.1 12 := (sN 12 (by decide)).1
      have nob : ¬ isB (M.1 12) 1 ship i = true → P_Parting_gather_13 Q (d + 1) ship (nI e) (nI (i + 1)) N := fun hb =>
        ih (i + 1) (by omega) N sN fN lN (by rw [gS_f hb]; exact n4) (by rw [gS_f hb]; exact n31)
      refine br_F (nI_ge (by omega) (by omega)) ⟨fun hf => nob (fun hb => ?_), fun hf => P_isOf_in n11 he (by omega) ?_⟩
      · rw [gS_t hb] at m1
        have m1 : (gS (M.1 12) ship i).1 + 1 ≤ 16 := m1
        have := (nle_of (e := 16) (by omega) (by omega)).mp hf
        omega
      · rw [n12]
        cases hb : isB (M.1 12) 1 ship i
        · exact br_T rfl (nob (by rw [hb]; decide))
        · have ok := (gS_ok (M.1 12) ship i).1
          rw [gS_t hb] at m1
          have m1 : (gS (M.1 12) ship i).1 + 1 ≤ 16 := m1
          refine br_F (by decide) (P_insert n11 he (by omega) (by omega) n4 n31 (fun j hj => by have := (ok j hj).1; omega) (fun N2 s2 f2 l2 a4 a31 => ih (i + 1) (by omega) N2 (sN.trans s2) (fun f hf => (f2 f hf).trans (fN f hf)) (l2.trans lN) ?_ ?_))
          · rw [gS_t hb]; exact a4
          · rw [gS_t hb]
            rw [n12] at a31
            exact a31
  unfold P_Parting_gather P_Log_entries
  dsimp only
  rw [show (putI M 20 4 0).1 11 1 = nI e from h]
  refine ⟨e + 1, key e 0 (by omega) _ ((Same.refl _ _).putI (by simp)) (fun f hf => ?_) rfl rfl (fun j hj => absurd hj (Nat.not_lt_zero _))⟩
  rw [putI_at, if_neg (fun x => hf x.2)]
theorem P_howMany {e : Nat} {ship : Int32} {M : Mem} {Q : Int32 → Mem → Prop} (h : M.1 11 1 = nI e) (he : e ≤ 200) (hQ : Q (nI (cntB (isB (M.1 12) 1 ship) e)) M) : P_Log_howMany 1 ship M Q := by
  have key : ∀ d i, i + d = e → P_Log_howMany_5 Q (d + 1) 1 ship (nI (cntB (isB (M.1 12) 1 ship) i)) (nI i) M := by
    intro d
    induction d with
    | zero =>
      intro i hi
      have : i = e := by omega
      subst this
      unfold P_Log_howMany_5
      rw [h]
      exact br_T (nI_le (by omega) (by omega)) hQ
    | succ d ih =>
      intro i hi
      have nx := ih (i + 1) (by omega)
      unfold P_Log_howMany_5
      rw [h, nI_1 i]
      refine br_F (nI_ge (by omega) (by omega)) (P_isOf_in h he (by omega) ?_)
      cases hb : isB (M.1 12) 1 ship i
      · rw [cntB_succ_f (by rw [hb]; decide)] at nx
        exact br_T rfl nx
      · rw [cntB_succ_t hb] at nx
        rw [nI_1]
        exact br_F (by decide) nx
  unfold P_Log_howMany
  exact ⟨e + 1, key e 0 (by omega)⟩
/-! the model gathers -/
theorem P_moins {k n : Nat} {s : Nat → Nat} {a1 a2 : Int32} {M : Mem} {Q : Int32 → Mem → Prop} {K24 : Int32 → Int32 → Int32 → Int32 → Mem → Prop} (hk : k < 200) (hn : n < 16) (hs : ∀ i, i < n → M.1 52 i = nI (s i)) (hse : ∀ i, i < n → s i < k)
    (hQ : ∀ N, Same [52] M N → (∀ i, i < n + 1 → N.1 52 i = nI (insF s (pI (M.1 41) k s n) k i)) → K24 a1 a2 (nI (n + 1)) (nI (k + 1)) N) : ∃ q, P_Mo_part_77 K24 Q q a1 a2 (nI n) (nI k) (nI n) M := by
  have key : ∀ t, t ≤ n → pI (M.1 41) k s n = pI (M.1 41) k s t → ∀ N, Same [52] M N → (∀ i, i < t → N.1 52 i = nI (s i)) → (∀ i, t < i → i ≤ n → N.1 52 i = nI (s (i - 1))) → P_Mo_part_77 K24 Q (t + 1) a1 a2 (nI n) (nI k) (nI t) N := by
    intro t
    have fin : ∀ t, t ≤ n → pI (M.1 41) k s n = t → ∀ N, Same [52] M N → (∀ i, i < t → N.1 52 i = nI (s i)) → (∀ i, t < i → i ≤ n → N.1 52 i = nI (s (i - 1))) → P_Mo_part_122 K24 Q a1 a2 (nI n) (nI k) (nI t) N := fun t ht hp N sN b1 b2 => by
      unfold P_Mo_part_122
      rw [cl_nI (n := t) (by omega), nI_1 n, nI_1 k]
      refine ⟨in_nI (by omega) (by omega), hQ _ (sN.putI (by simp)) (fun i hi => ?_)⟩
      rw [putI_at, hp]
      unfold insF
      by_cases c1 : i < t
      · rw [if_pos c1, if_neg (by omega)]; exact b1 i c1
      · rw [if_neg c1]
        by_cases c2 : i = t
        · rw [if_pos ⟨rfl, c2⟩, if_pos c2]
        · rw [if_neg (fun x => c2 x.2), if_neg c2]; exact b2 i (by omega) (by omega)
    induction t with
    | zero =>
      intro ht hp N sN b1 b2
      unfold P_Mo_part_77
      exact br_T (by decide) (fin 0 ht hp N sN b1 b2)
    | succ t ih =>
      intro ht hp N sN b1 b2
      have hp' : pI (M.1 41) k s n = if ahB (M.1 41) k (s t) = true then pI (M.1 41) k s t else t + 1 := hp
      unfold P_Mo_part_77
      rw [show nI (t + 1) - 1 = nI t from pk_sub (a := t + 1) (b := 1) (by omega), cl_nI (n := t) (by omega), b1 t (by omega), nI_m1, show nI (t + 1) - 1 = nI t from pk_sub (a := t + 1) (b := 1) (by omega), cl_nI (n := t + 1) (by omega)]
      refine br_F (by rw [show (0 : Int32) = nI 0 from rfl, nle_of (by omega) (by omega)]; omega) ⟨in_nI (by omega) (by omega), P_moahead hk (hse t (by omega)) ?_⟩
      rw [(sN 41 (by decide)).1, b1 t (by omega)]
      cases hb : ahB (M.1 41) k (s t)
      · rw [hb] at hp'
        exact br_T rfl (fin (t + 1) ht hp' N sN b1 b2)
      · rw [hb] at hp'
        refine br_F (by decide) ⟨in_nI (by omega) (by omega), ih (by omega) hp' _ (sN.putI (by simp)) (fun i hi => ?_) (fun i hi hi2 => ?_)⟩
        · rw [putI_at, if_neg (by omega)]; exact b1 i (by omega)
        · rw [putI_at]
          by_cases hit : i = t + 1
          · rw [if_pos ⟨rfl, hit⟩, hit]; rfl
          · rw [if_neg (fun x => hit x.2)]; exact b2 i (by omega) hi2
  exact ⟨n + 1, key n (Nat.le_refl _) rfl M (Same.refl _ _) hs (fun i h1 h2 => by omega)⟩
theorem P_mogather {e : Nat} {ship sp : Int32} {M : Mem} {Q : Int32 → Mem → Prop} (h : M.1 35 11 = nI e) (he : e ≤ 200)
    (hno : ((gS (M.1 41) ship e).1 = 0 ∨ 16 < (gS (M.1 41) ship e).1) → ∀ N, Same [52] M N → Q (-1) N)
    (hQ : 1 ≤ (gS (M.1 41) ship e).1 → (gS (M.1 41) ship e).1 ≤ 16 → ∀ N, Same [52] M N → (∀ i, i < (gS (M.1 41) ship e).1 → N.1 52 i = nI ((gS (M.1 41) ship e).2 i)) → ∃ q, P_Mo_part_149 Q q sp (nI (gS (M.1 41) ship e).1) 0 N) : ∃ q, P_Mo_part_24 Q q ship sp 0 0 M := by
  have key : ∀ d i, i + d = e → ∀ N, Same [52] M N → (gS (M.1 41) ship i).1 ≤ 16 → (∀ j, j < (gS (M.1 41) ship i).1 → N.1 52 j = nI ((gS (M.1 41) ship i).2 j)) → P_Mo_part_24 Q (d + 1) ship sp (nI (gS (M.1 41) ship i).1) (nI i) N := by
    intro d
    induction d with
    | zero =>
      intro i hi N sN h16 n52
      have : i = e := by omega
      subst this
      unfold P_Mo_part_24
      rw [show N.1 35 11 = nI i by rw [(sN 35 (by decide)).1]; exact h]
      refine br_T (nI_le (by omega) (by omega)) ⟨fun hz => hQ ?_ h16 N sN n52, fun hz => hno (Or.inl ((nI_eq (b := 0) (by omega) (by omega)).mp hz)) N sN⟩
      rcases Nat.eq_zero_or_pos (gS (M.1 41) ship i).1 with z | z
      · exact absurd (by rw [z]; rfl) hz
      · exact z
    | succ d ih =>
      intro i hi N sN h16 n52
      have n41 : N.1 41 = M.1 41 := (sN 41 (by decide)).1
      unfold P_Mo_part_24
      rw [show N.1 35 11 = nI e by rw [(sN 35 (by decide)).1]; exact h, ix_m0, show nI (8 * i) + 1 = nI (8 * i + 1) from nI_add _ 1, cl_nI (n := 8 * i) (by omega), cl_nI (n := 8 * i + 1) (by omega), n41, nI_1 i]
      have nob : ¬ isB (M.1 41) 1 ship i = true → P_Mo_part_24 Q (d + 1) ship sp (nI (gS (M.1 41) ship i).1) (nI (i + 1)) N := fun hb => by
        have := ih (i + 1) (by omega) N sN (by rw [gS_f hb]; exact h16) (by rw [gS_f hb]; exact n52)
        rwa [gS_f hb] at this
      refine br_F (nI_ge (by omega) (by omega)) ⟨in_nI (by omega) (by omega), fun h1 => nob (by unfold isB; simp [h1]), fun h1 => ⟨in_nI (by omega) (by omega), fun h2 => ?_, fun h2 => nob (by unfold isB; simp [h2])⟩⟩
      have hb : isB (M.1 41) 1 ship i = true := by unfold isB; simp [h1, h2]
      have ok := (gS_ok (M.1 41) ship i).1
      refine ⟨fun h3 => ?_, fun h3 => hno (Or.inr ?_) N sN⟩
      · have h3 : (gS (M.1 41) ship i).1 ≠ 16 := fun x => h3 (by rw [x]; rfl)
        refine P_moins (by omega) (by omega) n52 (fun j hj => (ok j hj).1) (fun N2 s2 a52 => ?_)
        have nx := ih (i + 1) (by omega) N2 (sN.trans s2)
        rw [gS_t hb] at nx
        rw [n41] at a52
        exact nx (by show (gS (M.1 41) ship i).1 + 1 ≤ 16; omega) a52
      · have h3 := (nI_eq (b := 16) (by omega) (by omega)).mp h3
        rw [gS_n] at h3 ⊢
        have a := cntB_mono (isB (M.1 41) 1 ship) (i := i + 1) (n := e) (by omega)
        rw [cntB_succ_t hb] at a
        omega
  exact ⟨e + 1, key e 0 (by omega) M (Same.refl _ _) (by show 0 ≤ 16; omega) (fun j hj => absurd hj (Nat.not_lt_zero _))⟩
