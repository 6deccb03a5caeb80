/-! spare rows; a column is given -/
section Give
variable {n : Nat} {A : Nat → Nat → Bool} {p : Nat → Nat → Int} {u v : Nat → Int} {R C : Nat → Option Nat}
theorem P_fill {M : Mem} {Q : Mem → Prop} (as : AS n A p n u v R C M) (hn : n ≤ 16) (hQ : ∀ (N : Mem) (R' C' : Nat → Option Nat), Same [26, 27] M N → TS n A p u v R' C' N → Q N) : P_Matching_fillSpareRows M Q := by
  obtain ⟨pm, ⟨m23, m24, m27, m26⟩, mk, ⟨d1, d2, d3, d4, d5⟩, hC⟩ := as
  have key : ∀ d c, c + d = 2 * n → ∀ (N : Mem) (Rc Cc : Nat → Option Nat) (sp : Nat), Same [26, 27] M N → (∀ x, x < 2 * n → N.1 27 x = oI (Rc x)) → (∀ r, r < 2 * n → N.1 26 r = oI (Cc r)) → MOk n Rc Cc → (∀ x, x < c → Rc x ≠ none) → (∀ x, c ≤ x → Rc x = R x) → n ≤ sp → sp ≤ 2 * n → (∀ r, r < 2 * n → (Cc r = none ↔ sp ≤ r)) → (∀ x r, x < 2 * n → Rc x = some r → u r + v x = wp n A p r x) → P_Matching_fillSpareRows_7 Q (d + 1) (nI sp) (nI c) N := by
    intro d
    induction d with
    | zero =>
      intro c hc N Rc Cc sp sN n27 n26 mkc i1 i2 i3 i4 i5 i6
      have : c = 2 * n := by omega
      subst this
      unfold P_Matching_fillSpareRows_7
      have n21 : N.1 21 10 = nI (2 * n) := by rw [(sN 21 (by decide)).1]; exact pm.2.1
      rw [n21]
      refine br_T (nI_le (by omega) (by omega)) (hQ N Rc Cc sN ⟨pm.congr (sN 21 (by decide)).1 (sN 22 (by decide)).2, ⟨fun r hr => by rw [(sN 23 (by decide)).2]; exact m23 r hr, fun x hx => by rw [(sN 24 (by decide)).2]; exact m24 x hx, n27, n26⟩, mkc, i1, fun r hr e => ?_, ⟨fun r x hr hx => ?_, i6, fun x hx => (d3 x hx).1, d4, d5⟩⟩)
      · have := (i5 r (by omega)).mp e
        omega
      · by_cases hrn : r < n
        · exact d1 r x hrn hx
        · rw [d5 r (by omega), wp_spare (by omega)]
          have := (d3 x hx).1
          omega
    | succ d ih =>
      intro c hc N Rc Cc sp sN n27 n26 mkc i1 i2 i3 i4 i5 i6
      have hc2 : c < 2 * n := by omega
      have n21 : N.1 21 10 = nI (2 * n) := by rw [(sN 21 (by decide)).1]; exact pm.2.1
      unfold P_Matching_fillSpareRows_7
      rw [n21, cl_nI (n := c) (by omega), n27 c hc2, nI_1 c]
      refine br_F (nI_ge (by omega) (by omega)) ⟨in_nI (by omega) (by omega), ?_⟩
      cases hz : Rc c with
      | some r =>
        have hr := (mkc.1 c r hc2 hz).1
        refine br_F' (nI_ne1 (by omega)) (ih (c + 1) (by omega) N Rc Cc sp sN n27 n26 mkc (fun x hx => ?_) (fun x hx => i2 x (by omega)) i3 i4 i5 i6)
        by_cases hxc : x = c
        · rw [hxc, hz]; intro e; cases e
        · exact i1 x (by omega)
      | none =>
        have hv : v c = 0 := (d3 c hc2).2 (by rw [← i2 c (Nat.le_refl _)]; exact hz)
        have hsp : sp < 2 * n := by
          rcases Nat.lt_or_ge sp (2 * n) with y | y
          · exact y
          · exfalso
            have hs : ∀ i, i < 2 * n → ∃ x, Cc i = some x ∧ x < 2 * n ∧ Rc x = some i := fun i hi => by
              cases hy : Cc i with
              | none => have := (i5 i hi).mp hy; omega
              | some x => exact ⟨x, rfl, mkc.2 i x hi hy⟩
            have := php (2 * n + 1) (2 * n) (fun i => if i = 2 * n then c else (Cc i).getD 0) (fun i hi => by
              by_cases h : i = 2 * n
              · rw [if_pos h]; exact hc2
              · rw [if_neg h]
                obtain ⟨x, h1, h2, -⟩ := hs i (by omega)
                rw [h1]; exact h2) (fun i j hi hj e => by
              by_cases h : i = 2 * n
              · rw [if_pos h] at e
                by_cases h' : j = 2 * n
                · omega
                · rw [if_neg h'] at e
                  obtain ⟨x, h1, -, h3⟩ := hs j (by omega)
                  rw [h1] at e
                  have e : c = x := e
                  rw [← e, hz] at h3; cases h3
              · rw [if_neg h] at e
                obtain ⟨x, h1, -, h3⟩ := hs i (by omega)
                rw [h1] at e
                by_cases h' : j = 2 * n
                · rw [if_pos h'] at e
                  have e : x = c := e
                  rw [e, hz] at h3; cases h3
                · rw [if_neg h'] at e
                  obtain ⟨x', h1', -, h3'⟩ := hs j (by omega)
                  rw [h1'] at e
                  have e : x = x' := e
                  rw [e, h3'] at h3
                  cases h3
                  rfl)
            omega
        have Csp : Cc sp = none := (i5 sp hsp).mpr (Nat.le_refl _)
        refine br_T' rfl (P_place n21 hn hsp hc2 ?_)
        rw [nI_1]
        refine ih (c + 1) (by omega) _ (uo Rc c (some sp)) (uo Cc sp (some c)) (sp + 1) ((sN.putI (by simp)).putI (by simp)) (fun x hx => ?_) (fun r hr => ?_) ⟨fun x r hx hw => ?_, fun r x hr hw => ?_⟩ (fun x hx => ?_) (fun x hx => ?_) (by omega) (by omega) (fun r hr => ?_) (fun x r hx hw => ?_)
        · rw [putI_ne1 (by omega), putI_at]
          by_cases hxc : x = c
          · rw [if_pos ⟨rfl, hxc⟩, hxc, uo_at]; rfl
          · rw [if_neg (fun y => hxc y.2), uo_ne hxc]; exact n27 x hx
        · rw [putI_at]
          by_cases hrr : r = sp
          · rw [if_pos ⟨rfl, hrr⟩, hrr, uo_at]; rfl
          · rw [if_neg (fun y => hrr y.2), uo_ne hrr, putI_ne1 (by omega)]; exact n26 r hr
        · by_cases hxc : x = c
          · rw [hxc, uo_at] at hw
            cases hw
            rw [hxc]
            exact ⟨hsp, uo_at _ _ _⟩
          · rw [uo_ne hxc] at hw
            obtain ⟨a1, a2⟩ := mkc.1 x r hx hw
            refine ⟨a1, ?_⟩
            rw [uo_ne (fun y => by rw [y, Csp] at a2; cases a2)]
            exact a2
        · by_cases hrr : r = sp
          · rw [hrr, uo_at] at hw
            cases hw
            rw [hrr]
            exact ⟨hc2, uo_at _ _ _⟩
          · rw [uo_ne hrr] at hw
            obtain ⟨a1, a2⟩ := mkc.2 r x hr hw
            refine ⟨a1, ?_⟩
            rw [uo_ne (fun y => by rw [y, hz] at a2; cases a2)]
            exact a2
        · by_cases hxc : x = c
          · rw [hxc, uo_at]; intro e; cases e
          · rw [uo_ne hxc]; exact i1 x (by omega)
        · rw [uo_ne (by omega)]; exact i2 x (by omega)
        · by_cases hrr : r = sp
          · rw [hrr, uo_at]
            exact ⟨fun e => (by cases e), fun e => (by omega)⟩
          · rw [uo_ne hrr, i5 r hr]
            omega
        · by_cases hxc : x = c
          · rw [hxc, uo_at] at hw
            cases hw
            rw [hxc, hv, d5 sp (by omega), wp_spare (by omega)]
            rfl
          · rw [uo_ne hxc] at hw
            exact i6 x r hx hw
  unfold P_Matching_fillSpareRows
  rw [pm.1]
  exact ⟨2 * n + 1, key (2 * n) 0 (by omega) M R C n (Same.refl _ _) m27 m26 mk (fun x hx => absurd hx (Nat.not_lt_zero _)) (fun x _ => rfl) (Nat.le_refl _) (by omega) hC d2⟩
theorem TS_v {M : Mem} (hp : ∀ k j, k < n → j < n → 0 ≤ p k j ∧ p k j ≤ PMX) (ts : TS n A p u v R C M) {c : Nat} (hc : c < 2 * n) : -BIG ≤ v c ∧ v c ≤ 0 := by
  obtain ⟨-, -, mk, tot, -, d1, d2, d3, d4, d5⟩ := ts
  refine ⟨?_, d3 c hc⟩
  cases hz : R c with
  | none => exact absurd hz (tot c hc)
  | some r =>
    have h1 := d2 c r hc hz
    have h2 := (wp_rng (A := A) hp r c).1
    by_cases hr : r < n
    · have := (d4 r hr).2
      omega
    · rw [d5 r (by omega)] at h1
      unfold BIG
      omega
theorem P_tight {r c : Nat} {M : Mem} {Q : Int32 → Mem → Prop} (hp : ∀ k j, k < n → j < n → 0 ≤ p k j ∧ p k j ≤ PMX) (hn : n ≤ 16) (ts : TS n A p u v R C M) (hr : r < 2 * n) (hc : c < 2 * n) (h1 : u r + v c = wp n A p r c → Q 1 M) (h0 : ¬ u r + v c = wp n A p r c → Q 0 M) : P_Matching_isTight (nI r) (nI c) M Q := by
  have vb := TS_v hp ts hc
  obtain ⟨pm, ⟨m23, m24, -, -⟩, mk, tot, -, d1, d2, d3, d4, d5⟩ := ts
  have ub : 0 ≤ u r ∧ u r ≤ BIG := by
    by_cases hrn : r < n
    · exact d4 r hrn
    · rw [d5 r (by omega)]; unfold BIG; omega
  unfold P_Matching_isTight
  refine P_price pm hn hr hc (fun x hx => ?_)
  rw [cl_nI (n := r) (by omega), cl_nI (n := c) (by omega), j_le, hx, FORB_is]
  have hs : (M.2 23 r + M.2 24 c).toInt = u r + v c := by rw [j_add (by rw [m23 r hr, m24 c hc]; unfold BIG at *; omega) (by rw [m23 r hr, m24 c hc]; unfold BIG at *; omega), m23 r hr, m24 c hc]
  refine ⟨fun hf => h0 (fun e => by unfold FORB BIG at *; omega), fun hf => ⟨in_nI (by omega) (by omega), in_nI (by omega) (by omega), ?_⟩⟩
  rw [j_eq, hx, hs]
  exact ⟨fun e => h0 (fun y => e y.symm), fun e => h1 e.symm⟩
theorem TS.congr {M N : Mem} (h : TS n A p u v R C M) (s : Same [28, 29, 30] M N) : TS n A p u v R C N := by
  obtain ⟨pm, ⟨m23, m24, m27, m26⟩, rest⟩ := h
  exact ⟨pm.congr (s 21 (by decide)).1 (s 22 (by decide)).2, ⟨fun r hr => by rw [(s 23 (by decide)).2]; exact m23 r hr, fun c hc => by rw [(s 24 (by decide)).2]; exact m24 c hc, fun c hc => by rw [(s 27 (by decide)).1]; exact m27 c hc, fun r hr => by rw [(s 26 (by decide)).1]; exact m26 r hr⟩, rest⟩
/-- the columns that are seen, in the order of the queue -/
def BI (n : Nat) (A : Nat → Nat → Bool) (p : Nat → Nat → Int) (u v : Nat → Int) (R : Nat → Option Nat) (k c0 : Nat) (sb : Nat → Bool) (fr : Nat → Option Nat) (qu od : Nat → Nat) (qn : Nat) (M : Mem) : Prop :=
  (cntB sb (2 * n) = qn ∧ (∀ x, sb x = true → x < 2 * n ∧ ∃ r, R x = some r ∧ k ≤ r) ∧ (∀ i, i < qn → sb (qu i) = true) ∧ (∀ x, sb x = true → od x < qn ∧ qu (od x) = x) ∧
    (∀ x, sb x = true → match fr x with | none => x = c0 | some x' => sb x' = true ∧ od x' < od x ∧ ∃ r, R x' = some r ∧ k < r ∧ u r + v x = wp n A p r x) ∧ sb c0 = true) ∧
  (∀ x, x < 2 * n → M.1 30 x = if sb x then 1 else 0) ∧ (∀ x, sb x = true → M.1 28 x = oI (fr x)) ∧ (∀ i, i < qn → M.1 29 i = nI (qu i))
theorem P_lookOn {k c0 lv r0 qn : Nat} {sb : Nat → Bool} {fr : Nat → Option Nat} {qu od : Nat → Nat} {M : Mem} {Q : Int32 → Mem → Prop} (hp : ∀ k j, k < n → j < n → 0 ≤ p k j ∧ p k j ≤ PMX) (hn : n ≤ 16) (hk : k < n) (ts : TS n A p u v R C M) (bi : BI n A p u v R k c0 sb fr qu od qn M) (hlv : sb lv = true) (hr0 : R lv = some r0) (hkr : k < r0)
    (hQ : ∀ (N : Mem) (sb' : Nat → Bool) (fr' : Nat → Option Nat) (qu' od' : Nat → Nat) (qn' : Nat), Same [28, 29, 30] M N → BI n A p u v R k c0 sb' fr' qu' od' qn' N → (∀ x, sb x = true → sb' x = true) → (∀ i, i < qn → qu' i = qu i) → qn ≤ qn' → (∀ x' r', x' < 2 * n → R x' = some r' → k ≤ r' → u r0 + v x' = wp n A p r0 x' → sb' x' = true) → Q (nI qn') N) : P_Matching_lookOnFrom (nI k) (nI lv) (nI qn) M Q := by
  have mk := ts.2.2.1
  have tot := ts.2.2.2.1
  have hlv2 : lv < 2 * n := (bi.1.2.1 lv hlv).1
  have hr02 : r0 < 2 * n := (mk.1 lv r0 hlv2 hr0).1
  have key : ∀ d x, x + d = 2 * n → ∀ (N : Mem) (sb' : Nat → Bool) (fr' : Nat → Option Nat) (qu' od' : Nat → Nat) (qn' : Nat), Same [28, 29, 30] M N → BI n A p u v R k c0 sb' fr' qu' od' qn' N → (∀ x, sb x = true → sb' x = true) → (∀ i, i < qn → qu' i = qu i) → qn ≤ qn' → (∀ x' r', x' < x → R x' = some r' → k ≤ r' → u r0 + v x' = wp n A p r0 x' → sb' x' = true) → P_Matching_lookOnFrom_38 Q (d + 1) (nI k) (nI lv) (nI qn') (nI r0) (nI x) N := by
    intro d
    induction d with
    | zero =>
      intro x hx N sb' fr' qu' od' qn' sN bi' m1 m2 m3 cl
      have : x = 2 * n := by omega
      subst this
      unfold P_Matching_lookOnFrom_38
      have n21 : N.1 21 10 = nI (2 * n) := by rw [(sN 21 (by decide)).1]; exact ts.1.2.1
      rw [n21]
      exact br_T (nI_le (by omega) (by omega)) (hQ N sb' fr' qu' od' qn' sN bi' m1 m2 m3 cl)
    | succ d ih =>
      intro x hx N sb' fr' qu' od' qn' sN bi' m1 m2 m3 cl
      have hx2 : x < 2 * n := by omega
      have n21 : N.1 21 10 = nI (2 * n) := by rw [(sN 21 (by decide)).1]; exact ts.1.2.1
      have tsN := ts.congr sN
      have bi'' := bi'
      obtain ⟨⟨b1, b2, b3, b4, b5, b6⟩, b7, b8, b9⟩ := bi'
      have skip : (∀ r', R x = some r' → k ≤ r' → u r0 + v x = wp n A p r0 x → sb' x = true) → P_Matching_lookOnFrom_38 Q (d + 1) (nI k) (nI lv) (nI qn') (nI r0) (nI (x + 1)) N := fun hs =>
        ih (x + 1) (by omega) N sb' fr' qu' od' qn' sN bi'' m1 m2 m3 (fun x' r' hx' h1 h2 h3 => by
          by_cases hxx : x' = x
          · rw [hxx] at h1 h3 ⊢; exact hs r' h1 h2 h3
          · exact cl x' r' (by omega) h1 h2 h3)
      unfold P_Matching_lookOnFrom_38
      rw [n21, cl_nI (n := x) (by omega), b7 x hx2, nI_1 x]
      refine br_F (nI_ge (by omega) (by omega)) ⟨in_nI (by omega) (by omega), ?_⟩
      cases hb : sb' x
      · cases hz : R x with
        | none => exact absurd hz (tot x hx2)
        | some r1 =>
          have hr1 := (mk.1 x r1 hx2 hz).1
          have n27 : N.1 27 x = nI r1 := by rw [tsN.2.1.2.2.1 x hx2, hz]; rfl
          rw [n27]
          refine br_T' rfl ⟨fun hlt => skip (fun r' e hk' _ => ?_), fun hlt => ?_⟩
          · rw [hz] at e
            cases e
            have := (nlt_of (by omega) (by omega)).mp hlt
            omega
          · have hkr1 : k ≤ r1 := by
              rcases Nat.lt_or_ge r1 k with z | z
              · exact absurd ((nlt_of (by omega) (by omega)).mpr z) hlt
              · exact z
            refine P_tight hp hn tsN hr02 hx2 (fun ht => br_F (by decide) ?_) (fun ht => br_T rfl (skip (fun _ _ _ e => absurd e ht)))
            have hqn : qn' < 2 * n := by rw [← b1]; exact cntB_lt hx2 hb
            refine br_F (nI_ge (b := 32) (by omega) (by omega)) ⟨in_nI (by omega) (by omega), ?_⟩
            rw [cl_nI (n := qn') (by omega), nI_1]
            have hlv' : sb' lv = true := m1 lv hlv
            have hne : lv ≠ x := fun e => by rw [e, hb] at hlv'; cases hlv'
            refine ih (x + 1) (by omega) _ (fun y => if y = x then true else sb' y) (uo fr' x (some lv)) (un qu' qn' x) (un od' x qn') (qn' + 1) (((sN.putI (by simp)).putI (by simp)).putI (by simp)) ⟨⟨?_, fun y hy => ?_, fun i hi => ?_, fun y hy => ?_, fun y hy => ?_, ?_⟩, fun y hy => ?_, fun y hy => ?_, fun i hi => ?_⟩ (fun y hy => ?_) (fun i hi => ?_) (by omega) (fun x' r' hx' h1 h2 h3 => ?_)
            · rw [← b1]
              exact cntB_flip (i := x) (fun y _ hy => by rw [if_neg hy]) hx2 hb (by rw [if_pos rfl])
            · by_cases hyx : y = x
              · rw [hyx]; exact ⟨hx2, r1, hz, hkr1⟩
              · have hy : (if y = x then true else sb' y) = true := hy
                rw [if_neg hyx] at hy; exact b2 y hy
            · show (if un qu' qn' x i = x then true else sb' (un qu' qn' x i)) = true
              unfold un
              by_cases hiq : i = qn'
              · rw [if_pos hiq, if_pos rfl]
              · rw [if_neg hiq]
                have := b3 i (by omega)
                by_cases hq : qu' i = x
                · rw [if_pos hq]
                · rw [if_neg hq]; exact this
            · unfold un
              by_cases hyx : y = x
              · rw [if_pos hyx]; exact ⟨by omega, by rw [if_pos rfl, hyx]⟩
              · have hy : (if y = x then true else sb' y) = true := hy
                rw [if_neg hyx] at hy
                obtain ⟨h1, h2⟩ := b4 y hy
                rw [if_neg hyx, if_neg (by omega)]
                exact ⟨by omega, h2⟩
            · by_cases hyx : y = x
              · rw [hyx, uo_at]
                show (if lv = x then true else sb' lv) = true ∧ un od' x qn' lv < un od' x qn' x ∧ _
                unfold un
                rw [if_neg hne, if_neg hne, if_pos rfl]
                exact ⟨hlv', (b4 lv hlv').1, r0, hr0, hkr, ht⟩
              · have hy : (if y = x then true else sb' y) = true := hy
                rw [if_neg hyx] at hy
                have h5 := b5 y hy
                rw [uo_ne hyx]
                cases hw : fr' y with
                | none => rw [hw] at h5; exact h5
                | some x' =>
                  rw [hw] at h5
                  obtain ⟨e1, e2, r, e3, e4, e5⟩ := h5
                  have hxx : x' ≠ x := fun e => by rw [e, hb] at e1; cases e1
                  show (if x' = x then true else sb' x') = true ∧ un od' x qn' x' < un od' x qn' y ∧ _
                  unfold un
                  rw [if_neg hxx, if_neg hxx, if_neg hyx]
                  exact ⟨e1, e2, r, e3, e4, e5⟩
            · show (if c0 = x then true else sb' c0) = true
              by_cases hcx : c0 = x
              · rw [if_pos hcx]
              · rw [if_neg hcx]; exact b6
            · show _ = if (if y = x then true else sb' y) = true then 1 else 0
              rw [putI_ne1 (by omega), putI_ne1 (by omega), putI_at]
              by_cases hyx : y = x
              · rw [if_pos ⟨rfl, hyx⟩, if_pos hyx]; rfl
              · rw [if_neg (fun e => hyx e.2), if_neg hyx]; exact b7 y hy
            · rw [putI_ne1 (by omega), putI_at]
              by_cases hyx : y = x
              · rw [if_pos ⟨rfl, hyx⟩, hyx, uo_at]; rfl
              · have hy : (if y = x then true else sb' y) = true := hy
                rw [if_neg hyx] at hy
                rw [if_neg (fun e => hyx e.2), uo_ne hyx, putI_ne1 (by omega)]; exact b8 y hy
            · rw [putI_at]
              unfold un
              by_cases hiq : i = qn'
              · rw [if_pos ⟨rfl, hiq⟩, if_pos hiq]
              · rw [if_neg (fun e => hiq e.2), if_neg hiq, putI_ne1 (by omega), putI_ne1 (by omega)]; exact b9 i (by omega)
            · show (if y = x then true else sb' y) = true
              by_cases hyx : y = x
              · rw [if_pos hyx]
              · rw [if_neg hyx]; exact m1 y hy
            · unfold un
              rw [if_neg (by omega)]; exact m2 i hi
            · show (if x' = x then true else sb' x') = true
              by_cases hxx : x' = x
              · rw [if_pos hxx]
              · rw [if_neg hxx]; exact cl x' r' (by omega) h1 h2 h3
      · exact br_F' (by decide) (skip (fun _ _ _ _ => hb))
  unfold P_Matching_lookOnFrom P_Matching_lookOnFrom_21
  have h21 := ts.1.2.1
  refine P_isCol h21 hn hlv2 (br_F (by decide) ⟨in_nI (by omega) (by omega), ?_⟩)
  rw [cl_nI (n := lv) (by omega), show M.1 27 lv = nI r0 by rw [ts.2.1.2.2.1 lv hlv2, hr0]; rfl]
  exact P_isCol h21 hn hr02 (br_F' (by decide) ⟨2 * n + 1, key (2 * n) 0 (by omega) M sb fr qu od qn (Same.refl _ _) bi (fun _ h => h) (fun _ _ => rfl) (Nat.le_refl _) (fun x' r' hx' => absurd hx' (Nat.not_lt_zero _))⟩)
end Give
