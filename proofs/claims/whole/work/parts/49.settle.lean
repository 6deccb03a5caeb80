/-! all columns are held; what the duals say then -/
def DF (n : Nat) (A : Nat → Nat → Bool) (p : Nat → Nat → Int) (u v : Nat → Int) (R : Nat → Option Nat) : Prop :=
  (∀ r c, r < 2 * n → c < 2 * n → u r + v c ≤ wp n A p r c) ∧ (∀ c r, c < 2 * n → R c = some r → u r + v c = wp n A p r c) ∧ (∀ c, c < 2 * n → v c ≤ 0) ∧ (∀ r, r < n → 0 ≤ u r ∧ u r ≤ BIG) ∧ (∀ r, n ≤ r → u r = 0)
def TS (n : Nat) (A : Nat → Nat → Bool) (p : Nat → Nat → Int) (u v : Nat → Int) (R C : Nat → Option Nat) (M : Mem) : Prop :=
  PM n A p M ∧ DM n u v R C M ∧ MOk n R C ∧ (∀ c, c < 2 * n → R c ≠ none) ∧ (∀ r, r < n → C r ≠ none) ∧ DF n A p u v R
def fol (n : Nat) (C : Nat → Option Nat) (k : Nat) : Option Nat := match C k with
  | none => none
  | some c => if c < n then some c else none
theorem fol_some {n : Nat} {C : Nat → Option Nat} {k j : Nat} (h : fol n C k = some j) : C k = some j ∧ j < n := by
  unfold fol at h
  cases hz : C k with
  | none => rw [hz] at h; cases h
  | some c =>
    rw [hz] at h
    have h : (if c < n then some c else none) = some j := h
    by_cases hc : c < n
    · rw [if_pos hc] at h; cases h; exact ⟨rfl, hc⟩
    · rw [if_neg hc] at h; cases h
theorem fol_of {n : Nat} {C : Nat → Option Nat} {k j : Nat} (h : C k = some j) (hj : j < n) : fol n C k = some j := by
  unfold fol
  rw [h]
  show (if j < n then some j else none) = some j
  rw [if_pos hj]
theorem fol_none {n : Nat} {C : Nat → Option Nat} {k c : Nat} (h : C k = some c) (hc : ¬ c < n) : fol n C k = none := by
  unfold fol
  rw [h]
  show (if c < n then some c else none) = none
  rw [if_neg hc]
theorem php_set {N y0 : Nat} {q : Nat → Bool} {g : Nat → Nat} (hg : ∀ x, x < N → q x = true → g x < N ∧ q (g x) = true ∧ g x ≠ y0) (hi : ∀ x x', x < N → x' < N → q x = true → q x' = true → g x = g x' → x = x') (hy : y0 < N) (hq : q y0 = true) : False := by
  have := php (N + 1) N (fun i => if i = N then y0 else if q i then g i else i) (fun i hi => by
    by_cases h1 : i = N
    · rw [if_pos h1]; exact hy
    · rw [if_neg h1]
      by_cases h2 : q i = true
      · rw [if_pos h2]; exact (hg i (by omega) h2).1
      · rw [if_neg h2]; omega) (fun i j hi' hj e => by
    by_cases h1 : i = N
    · rw [if_pos h1] at e
      by_cases h2 : j = N
      · omega
      · rw [if_neg h2] at e
        by_cases h3 : q j = true
        · rw [if_pos h3] at e
          exact absurd e.symm (hg j (by omega) h3).2.2
        · rw [if_neg h3] at e
          rw [← e] at h3
          exact absurd hq h3
    · rw [if_neg h1] at e
      by_cases h2 : j = N
      · rw [if_pos h2] at e
        by_cases h3 : q i = true
        · rw [if_pos h3] at e
          exact absurd e (hg i (by omega) h3).2.2
        · rw [if_neg h3] at e
          rw [e] at h3
          exact absurd hq h3
      · rw [if_neg h2] at e
        by_cases h3 : q i = true
        · rw [if_pos h3] at e
          by_cases h4 : q j = true
          · rw [if_pos h4] at e
            exact hi i j (by omega) (by omega) h3 h4 e
          · rw [if_neg h4] at e
            have := (hg i (by omega) h3).2.1
            rw [e] at this
            exact absurd this h4
        · rw [if_neg h3] at e
          by_cases h4 : q j = true
          · rw [if_pos h4] at e
            have := (hg j (by omega) h4).2.1
            rw [← e] at this
            exact absurd this h3
          · rw [if_neg h4] at e
            exact e)
  omega
theorem lastB_none {q : Nat → Bool} {N : Nat} (h : lastB q N = none) : ∀ i, i < N → q i = false := by
  induction N with
  | zero => intro i hi; exact absurd hi (Nat.not_lt_zero _)
  | succ N ih =>
    intro i hi
    have h : (if q N = true then some N else lastB q N) = none := h
    by_cases hq : q N = true
    · rw [if_pos hq] at h; cases h
    · rw [if_neg hq] at h
      by_cases hin : i = N
      · rw [hin]; exact Bool.eq_false_iff.mpr hq
      · exact ih h i (by omega)
section Settle
variable {n : Nat} {A : Nat → Nat → Bool} {p : Nat → Nat → Int} {u v : Nat → Int} {R C : Nat → Option Nat}
theorem wp_real {r c : Nat} (hr : r < n) (hc : c < n) (hA : A r c = true) : wp n A p r c = p r c := by
  unfold wp
  rw [if_pos hr, if_pos hc, if_pos hA]
theorem wp_alone {r c : Nat} (hr : r < n) (hc : n ≤ c) : wp n A p r c = BIG := by
  unfold wp
  rw [if_pos hr, if_neg (by omega)]
theorem wp_spare {r c : Nat} (hr : n ≤ r) : wp n A p r c = 0 := by
  unfold wp
  rw [if_neg (by omega)]
theorem wp_forb {r c : Nat} (hr : r < n) (hc : c < n) (hA : ¬ A r c = true) : wp n A p r c = FORB := by
  unfold wp
  rw [if_pos hr, if_pos hc, if_neg hA]
/-- columns alone have no dual -/
theorem alone_v (df : DF n A p u v R) (mk : MOk n R C) (tot : ∀ c, c < 2 * n → R c ≠ none) {c : Nat} (hc : n ≤ c) (hc2 : c < 2 * n) : v c = 0 := by
  obtain ⟨d1, d2, d3, d4, d5⟩ := df
  cases hz : R c with
  | none => exact absurd hz (tot c hc2)
  | some r =>
    have h1 := d2 c r hc2 hz
    have h2 := d3 c hc2
    by_cases hr : r < n
    · rw [wp_alone hr hc] at h1
      have := (d4 r hr).2
      omega
    · rw [wp_spare (by omega), d5 r (by omega)] at h1
      omega
theorem fol_val (hAj : ∀ k j, A k j = true → j < k) (df : DF n A p u v R) (mk : MOk n R C) : Val n A (fol n C) := by
  obtain ⟨d1, d2, d3, d4, d5⟩ := df
  refine ⟨fun k j hk h => ?_, fun k k' j hk hk' h h' => ?_⟩
  · obtain ⟨h1, h2⟩ := fol_some h
    refine ⟨?_, h2⟩
    by_cases hA : A k j = true
    · exact hA
    · have e := d2 j k (by omega) (mk.2 k j (by omega) h1).2
      rw [wp_forb hk h2 hA] at e
      have := (d4 k hk).2
      have := d3 j (by omega)
      unfold FORB BIG at *
      omega
  · have h1 := (mk.2 k j (by omega) (fol_some h).1).2
    have h2 := (mk.2 k' j (by omega) (fol_some h').1).2
    rw [h1] at h2
    cases h2
    rfl
theorem fol_cert (hAj : ∀ k j, A k j = true → j < k) (df : DF n A p u v R) (mk : MOk n R C) (tot : ∀ c, c < 2 * n → R c ≠ none) (tr : ∀ r, r < n → C r ≠ none) : Cert n 0 A p BIG (fol n C) (fun k => BIG - u k) (fun j => - v j) := by
  have vf := fol_val hAj df mk
  have av := fun c h1 h2 => alone_v (c := c) df mk tot h1 h2
  obtain ⟨d1, d2, d3, d4, d5⟩ := df
  have cz : cut 0 (fol n C) = fol n C := by funext k; unfold cut; rw [if_neg (by omega)]
  refine ⟨fun k hk => ?_, fun j hj => ?_, fun k j _ hk hj hA _ => ?_, fun k hk => ?_, fun j hj hf => ?_⟩
  · have := (d4 k hk).2
    show 0 ≤ BIG - u k
    omega
  · have := d3 j (by omega)
    show 0 ≤ - v j
    omega
  · have := d1 k j (by omega) (by omega)
    rw [wp_real hk hj hA] at this
    show 0 ≤ p k j - BIG + (BIG - u k) + - v j
    omega
  · rw [cz]
    cases hz : fol n C k with
    | none =>
      show 0 + (BIG - u k) + 0 = 0
      cases hy : C k with
      | none => exact absurd hy (tr k hk)
      | some c =>
        obtain ⟨h1, h2⟩ := mk.2 k c (by omega) hy
        by_cases hc : c < n
        · rw [fol_of hy hc] at hz; cases hz
        · have e := d2 c k h1 h2
          rw [wp_alone hk (by omega), av c (by omega) h1] at e
          omega
    | some j =>
      obtain ⟨h1, h2⟩ := fol_some hz
      have e := d2 j k (by omega) (mk.2 k j (by omega) h1).2
      rw [wp_real hk h2 (vf.1 k j hk hz).1] at e
      show p k j - BIG + (BIG - u k) + - v j = 0
      omega
  · rw [cz] at hf
    cases hz : R j with
    | none => exact absurd hz (tot j (by omega))
    | some r =>
      have e := d2 j r (by omega) hz
      by_cases hr : r < n
      · exact absurd (fol_of (mk.1 j r (by omega) hz).2 hj) (hf r hr)
      · rw [wp_spare (by omega), d5 r (by omega)] at e
        show - v j = 0
        omega
theorem fol_opt (hAj : ∀ k j, A k j = true → j < k) (df : DF n A p u v R) (mk : MOk n R C) (tot : ∀ c, c < 2 * n → R c ≠ none) (tr : ∀ r, r < n → C r ≠ none) : Opt n A p (fol n C) :=
  ⟨fol_val hAj df mk, fun H vH => cert_min (fol_cert hAj df mk tot tr) (fol_val hAj df mk) vH (fun i hi => absurd hi (Nat.not_lt_zero _)) (by omega)⟩
/-- where the search ends without the row's own column, no best parting gives it the column -/
theorem no_way {k c left : Nat} {sb : Nat → Bool} {H : Nat → Option Nat} (hAj : ∀ k j, A k j = true → j < k) (df : DF n A p u v R) (mk : MOk n R C) (tot : ∀ c, c < 2 * n → R c ≠ none) (tr : ∀ r, r < n → C r ≠ none) (hk : k < n) (hl : C k = some left)
    (s1 : ∀ x, sb x = true → x < 2 * n ∧ ∃ r, R x = some r ∧ k < r) (sc : sb c = true) (hc : c < n) (sl : sb left = false)
    (cl : ∀ x r x' r', sb x = true → R x = some r → x' < 2 * n → R x' = some r' → k ≤ r' → u r + v x' = wp n A p r x' → sb x' = true)
    (oH : Opt n A p H) (eH : ∀ i, i < k → H i = fol n C i) (hH : H k = some c) : False := by
  obtain ⟨t1, t2, t3⟩ := cert_tight (fol_cert hAj df mk tot tr) (fol_val hAj df mk) oH
  have av := fun c h1 h2 => alone_v (c := c) df mk tot h1 h2
  have df' := df
  obtain ⟨d1, d2, d3, d4, d5⟩ := df'
  obtain ⟨hl2, hRl⟩ := mk.2 k left (by omega) hl
  have ht1 : ∀ i j, i < n → H i = some j → j < n ∧ u i + v j = wp n A p i j := fun i j hi h => by
    obtain ⟨hA, hj⟩ := oH.1.1 i j hi h
    have e : p i j - BIG + (BIG - u i) + - v j = 0 := t1 i j hi h
    refine ⟨hj, ?_⟩
    rw [wp_real hi hj hA]
    omega
  have ht2 : ∀ i, i < n → H i = none → u i = BIG := fun i hi h => by
    have e : BIG - u i = 0 := t2 i hi h
    omega
  have ht3 : ∀ j, j < n → (∀ i, i < n → H i ≠ some j) → v j = 0 := fun j hj h => by
    have e : - v j = 0 := t3 j hj h
    omega
  /- what a row behind takes is not settled -/
  have uns : ∀ i j r, i < n → k < i → H i = some j → R j = some r → k ≤ r := fun i j r hi hki h hr => by
    rcases Nat.lt_or_ge r k with z | z
    · have hj := (ht1 i j hi h).1
      have : H r = some j := by rw [eH r z]; exact fol_of (mk.1 j r (by omega) hr).2 hj
      have := oH.1.2 r i j (by omega) hi this h
      omega
    · exact z
  have hcl : c ≠ left := fun e => by rw [e, sl] at sc; cases sc
  by_cases hsp : ∃ x r, sb x = true ∧ R x = some r ∧ n ≤ r
  · obtain ⟨x0, r0, hx0, hr0, hn0⟩ := hsp
    have zero_in : ∀ x r, x < 2 * n → R x = some r → k ≤ r → v x = 0 → sb x = true := fun x r hx hr hkr hv => by
      refine cl x0 r0 x r hx0 hr0 hx hr hkr ?_
      rw [wp_spare hn0, d5 r0 hn0, hv]
      rfl
    /- columns outside with an unsettled row -/
    have out : ∀ x r, x < 2 * n → R x = some r → k ≤ r → sb x = false → x < n ∧ ∃ i, i < n ∧ k < i ∧ H i = some x ∧ ∃ y, C i = some y ∧ y < 2 * n ∧ R y = some i ∧ sb y = false ∧ y ≠ left := fun x r hx hr hkr hs => by
      have hv : v x ≠ 0 := fun e => by rw [zero_in x r hx hr hkr e] at hs; cases hs
      have hxn : x < n := by
        rcases Nat.lt_or_ge x n with z | z
        · exact z
        · exact absurd (av x z hx) hv
      refine ⟨hxn, ?_⟩
      by_cases hex : ∃ i, i < n ∧ H i = some x
      · obtain ⟨i, hi, hHi⟩ := hex
        have hik : k < i := by
          rcases Nat.lt_or_ge k i with z | z
          · exact z
          · exfalso
            by_cases hik : i = k
            · rw [hik, hH] at hHi
              cases hHi
              rw [sc] at hs; cases hs
            · rw [eH i (by omega)] at hHi
              have := (mk.2 i x (by omega) (fol_some hHi).1).2
              rw [hr] at this
              cases this
              omega
        refine ⟨i, hi, hik, hHi, ?_⟩
        cases hy : C i with
        | none => exact absurd hy (tr i hi)
        | some y =>
          obtain ⟨y1, y2⟩ := mk.2 i y (by omega) hy
          refine ⟨y, rfl, y1, y2, ?_, fun e => ?_⟩
          · cases hb : sb y
            · rfl
            · have := cl y i x r hb y2 hx hr hkr (ht1 i x hi hHi).2
              rw [this] at hs; cases hs
          · rw [e, hRl] at y2
            cases y2
            omega
      · exact absurd (ht3 x hxn (fun i hi e => hex ⟨i, hi, e⟩)) hv
    let q : Nat → Bool := fun x => !sb x && (match R x with | none => false | some r => decide (k ≤ r))
    let inv : Nat → Option Nat := fun x => lastB (fun i => decide (H i = some x)) n
    have hq : ∀ x, x < 2 * n → q x = true → ∃ r, R x = some r ∧ k ≤ r ∧ sb x = false := fun x hx h => by
      have h : (!sb x && (match R x with | none => false | some r => decide (k ≤ r))) = true := h
      cases hz : R x with
      | none => rw [hz] at h; simp at h
      | some r =>
        rw [hz] at h
        simp at h
        exact ⟨r, rfl, h.2, h.1⟩
    have qof : ∀ x r, R x = some r → k ≤ r → sb x = false → q x = true := fun x r h1 h2 h3 => by
      show (!sb x && (match R x with | none => false | some r => decide (k ≤ r))) = true
      rw [h1, h3]
      simp [h2]
    have hinv : ∀ x i, i < n → H i = some x → inv x = some i := fun x i hi h => by
      show lastB (fun i => decide (H i = some x)) n = some i
      cases hz : lastB (fun i => decide (H i = some x)) n with
      | none =>
        have := lastB_none hz i hi
        rw [decide_eq_true h] at this; cases this
      | some i' =>
        obtain ⟨h1, h2⟩ := lastB_lt hz
        rw [oH.1.2 i' i x h1 hi (of_decide_eq_true h2) h]
    refine php_set (N := 2 * n) (y0 := left) (q := q) (g := fun x => (C ((inv x).getD 0)).getD 0) (fun x hx hqx => ?_) (fun x x' hx hx' hqx hqx' e => ?_) hl2 (qof left k hRl (Nat.le_refl _) sl)
    · obtain ⟨r, h1, h2, h3⟩ := hq x hx hqx
      obtain ⟨-, i, g1, g2, g3, y, g4, g5, g6, g7, g8⟩ := out x r hx h1 h2 h3
      show (C ((inv x).getD 0)).getD 0 < 2 * n ∧ q ((C ((inv x).getD 0)).getD 0) = true ∧ (C ((inv x).getD 0)).getD 0 ≠ left
      rw [hinv x i g1 g3]
      show (C i).getD 0 < 2 * n ∧ q ((C i).getD 0) = true ∧ (C i).getD 0 ≠ left
      rw [g4]
      exact ⟨g5, qof y i g6 (by omega) g7, g8⟩
    · obtain ⟨r, h1, h2, h3⟩ := hq x hx hqx
      obtain ⟨-, i, g1, g2, g3, y, g4, g5, g6, g7, g8⟩ := out x r hx h1 h2 h3
      obtain ⟨r', h1', h2', h3'⟩ := hq x' hx' hqx'
      obtain ⟨-, i', g1', g2', g3', y', g4', g5', g6', g7', g8'⟩ := out x' r' hx' h1' h2' h3'
      have e : (C ((inv x).getD 0)).getD 0 = (C ((inv x').getD 0)).getD 0 := e
      rw [hinv x i g1 g3, hinv x' i' g1' g3'] at e
      have e : (C i).getD 0 = (C i').getD 0 := e
      rw [g4, g4'] at e
      have e : y = y' := e
      rw [e, g6'] at g6
      cases g6
      rw [g3] at g3'
      cases g3'
      rfl
  · have real : ∀ x, sb x = true → ∃ r, R x = some r ∧ k < r ∧ r < n := fun x hx => by
      obtain ⟨h1, r, h2, h3⟩ := s1 x hx
      refine ⟨r, h2, h3, ?_⟩
      rcases Nat.lt_or_ge r n with z | z
      · exact z
      · exact absurd ⟨x, r, hx, h2, z⟩ hsp
    have some_j : ∀ x r, sb x = true → R x = some r → ∃ j, H r = some j ∧ sb j = true := fun x r hx hr => by
      obtain ⟨r', e1, e2, e3⟩ := real x hx
      rw [hr] at e1
      cases e1
      cases hz : H r with
      | some j =>
        obtain ⟨h1, h2⟩ := ht1 r j e3 hz
        refine ⟨j, rfl, ?_⟩
        cases hy : R j with
        | none => exact absurd hy (tot j (by omega))
        | some r2 => exact cl x r j r2 hx hr (by omega) hy (uns r j r2 e3 e2 hz hy) h2
      | none =>
        exfalso
        have hu := ht2 r e3 hz
        have al : ∀ y, n ≤ y → y < 2 * n → ∀ r2, R y = some r2 → k ≤ r2 → sb y = true := fun y hy hy2 r2 h2 hk2 => by
          refine cl x r y r2 hx hr hy2 h2 hk2 ?_
          rw [wp_alone e3 hy, av y hy hy2, hu]
          omega
        have hold : ∀ i, i < n → ∃ r2, R (n + i) = some r2 ∧ r2 < n ∧ r2 ≠ k := fun i hi => by
          cases hy : R (n + i) with
          | none => exact absurd hy (tot (n + i) (by omega))
          | some r2 =>
            refine ⟨r2, rfl, ?_, fun e => ?_⟩
            · rcases Nat.lt_or_ge r2 n with z | z
              · exact z
              · exact absurd ⟨n + i, r2, al (n + i) (by omega) (by omega) r2 hy (by omega), hy, z⟩ hsp
            · rw [e] at hy
              have h1 := al (n + i) (by omega) (by omega) k hy (Nat.le_refl _)
              have h2 := (mk.1 (n + i) k (by omega) hy).2
              rw [hl] at h2
              cases h2
              rw [sl] at h1; cases h1
        have := php (n + 1) n (fun i => if i = n then k else (R (n + i)).getD 0) (fun i hi => by
          by_cases h : i = n
          · rw [if_pos h]; exact hk
          · rw [if_neg h]
            obtain ⟨r2, h1, h2, -⟩ := hold i (by omega)
            rw [h1]; exact h2) (fun i j hi hj e => by
          by_cases h : i = n
          · rw [if_pos h] at e
            by_cases h' : j = n
            · omega
            · rw [if_neg h'] at e
              obtain ⟨r2, h1, -, h3⟩ := hold j (by omega)
              rw [h1] at e
              exact absurd e.symm h3
          · rw [if_neg h] at e
            obtain ⟨r2, h1, -, h3⟩ := hold i (by omega)
            rw [h1] at e
            by_cases h' : j = n
            · rw [if_pos h'] at e
              exact absurd e h3
            · rw [if_neg h'] at e
              obtain ⟨r2', h1', -, h3'⟩ := hold j (by omega)
              rw [h1'] at e
              have e : r2 = r2' := e
              have a1 := (mk.1 (n + i) r2 (by omega) h1).2
              have a2 := (mk.1 (n + j) r2' (by omega) h1').2
              rw [e, a2] at a1
              have := Option.some.inj a1
              omega)
        omega
    refine php_set (N := 2 * n) (y0 := c) (q := sb) (g := fun x => (H ((R x).getD 0)).getD 0) (fun x hx hqx => ?_) (fun x x' hx hx' hqx hqx' e => ?_) (by omega) sc
    · obtain ⟨r, e1, e2, e3⟩ := real x hqx
      obtain ⟨j, g1, g2⟩ := some_j x r hqx e1
      show (H ((R x).getD 0)).getD 0 < 2 * n ∧ sb ((H ((R x).getD 0)).getD 0) = true ∧ (H ((R x).getD 0)).getD 0 ≠ c
      rw [e1]
      show (H r).getD 0 < 2 * n ∧ sb ((H r).getD 0) = true ∧ (H r).getD 0 ≠ c
      rw [g1]
      refine ⟨(s1 j g2).1, g2, fun e => ?_⟩
      have e : j = c := e
      rw [e] at g1
      have := oH.1.2 r k c e3 hk g1 hH
      omega
    · obtain ⟨r, e1, e2, e3⟩ := real x hqx
      obtain ⟨j, g1, g2⟩ := some_j x r hqx e1
      obtain ⟨r', e1', e2', e3'⟩ := real x' hqx'
      obtain ⟨j', g1', g2'⟩ := some_j x' r' hqx' e1'
      have e : (H ((R x).getD 0)).getD 0 = (H ((R x').getD 0)).getD 0 := e
      rw [e1, e1'] at e
      have e : (H r).getD 0 = (H r').getD 0 := e
      rw [g1, g1'] at e
      have e : j = j' := e
      rw [← e] at g1'
      have hrr := oH.1.2 r r' j e3 e3' g1 g1'
      have a1 := (mk.1 x r hx e1).2
      have a2 := (mk.1 x' r' hx' e1').2
      rw [hrr, a2] at a1
      cases a1
      rfl
end Settle
