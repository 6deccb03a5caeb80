/-! a column is given, a row is settled, all is solved -/
section Sv
variable {n : Nat} {A : Nat → Nat → Bool} {p : Nat → Nat → Int} {u v : Nat → Int} {R C : Nat → Option Nat}
theorem P_give {k c r : Nat} {M : Mem} {Q : Int32 → Mem → Prop} (hAj : ∀ k j, A k j = true → j < k) (hp : ∀ k j, k < n → j < n → 0 ≤ p k j ∧ p k j ≤ PMX) (hn : n ≤ 16) (hk : k < n) (hc : c < n) (ts : TS n A p u v R C M) (hR : R c = some r) (hkr : k < r) (ht : u k + v c = wp n A p k c)
    (h1 : ∀ (N : Mem) (R' C' : Nat → Option Nat), Same [26, 27, 28, 29, 30] M N → TS n A p u v R' C' N → (∀ i, i < k → C' i = C i) → C' k = some c → Q 1 N)
    (h0 : ∀ N, Same [28, 29, 30] M N → (∀ H, Opt n A p H → (∀ i, i < k → H i = fol n C i) → H k ≠ some c) → Q 0 N) : P_Matching_giveColumn (nI k) (nI c) M Q := by
  have ts' := ts
  obtain ⟨pm, ⟨m23, m24, m27, m26⟩, mk, tot, tr, df⟩ := ts'
  cases hl : C k with
  | none => exact absurd hl (tr k hk)
  | some left =>
    obtain ⟨hl2, hRl⟩ := mk.2 k left (by omega) hl
    have hcl : c ≠ left := fun e => by
      rw [e, hRl] at hR
      cases hR
      omega
    have key : ∀ d i, i + d = 2 * n → ∀ (N : Mem) (sb : Nat → Bool) (fr : Nat → Option Nat) (qu od : Nat → Nat) (qn : Nat), Same [28, 29, 30] M N → BI n A p u v R k c sb fr qu od qn N → sb left = false → (∀ i', i' < i → i' < qn → ∀ r x' r', R (qu i') = some r → x' < 2 * n → R x' = some r' → k ≤ r' → u r + v x' = wp n A p r x' → sb x' = true) → P_Matching_giveColumn_61 Q (d + 1) (nI k) (nI left) (nI qn) (nI i) N := by
      intro d
      induction d with
      | zero =>
        intro i hi N sb fr qu od qn sN bi sl cl
        have : i = 2 * n := by omega
        subst this
        obtain ⟨⟨b1, b2, b3, b4, b5, b6⟩, b7, b8, b9⟩ := bi
        have hq := cntB_le sb (2 * n)
        unfold P_Matching_giveColumn_61
        refine br_T (nI_le (by omega) (by omega)) (h0 N sN (fun H oH eH e => no_way (sb := sb) (left := left) hAj df mk tot tr hk hl (fun x hx => ?_) b6 hc sl (fun x r1 x' r' hx h1 h2 h3 h4 h5 => ?_) oH eH e))
        · obtain ⟨g1, r1, g2, g3⟩ := b2 x hx
          refine ⟨g1, r1, g2, ?_⟩
          rcases Nat.lt_or_ge k r1 with z | z
          · exact z
          · have : r1 = k := by omega
            rw [this] at g2
            have g4 := (mk.1 x k g1 g2).2
            rw [hl] at g4
            cases g4
            rw [hx] at sl; cases sl
        · obtain ⟨g1, g2⟩ := b4 x hx
          exact cl (od x) (by omega) g1 r1 x' r' (by rw [g2]; exact h1) h2 h3 h4 h5
      | succ d ih =>
        intro i hi N sb fr qu od qn sN bi sl cl
        have bi' := bi
        obtain ⟨⟨b1, b2, b3, b4, b5, b6⟩, b7, b8, b9⟩ := bi'
        have hq := cntB_le sb (2 * n)
        unfold P_Matching_giveColumn_61
        by_cases hiq : i < qn
        · have n21 : N.1 21 10 = nI (2 * n) := by rw [(sN 21 (by decide)).1]; exact pm.2.1
          have sq := b3 i hiq
          obtain ⟨g1, r1, g2, g3⟩ := b2 (qu i) sq
          have hkr1 : k < r1 := by
            rcases Nat.lt_or_ge k r1 with z | z
            · exact z
            · have : r1 = k := by omega
              rw [this] at g2
              have g4 := (mk.1 (qu i) k g1 g2).2
              rw [hl] at g4
              have g4 := Option.some.inj g4
              rw [← g4, sl] at sq; cases sq
          rw [n21, cl_nI (n := i) (by omega), b9 i hiq, nI_1]
          refine br_F (nI_ge (by omega) (by omega)) (br_F (nI_ge (by omega) (by omega)) ⟨in_nI (by omega) (by omega), P_lookOn hp hn hk (ts.congr sN) bi sq g2 hkr1 (fun N2 sb' fr' qu' od' qn' s2 bi2 mm1 mm2 mm3 cl2 => ?_)⟩)
          have sN2 : Same [28, 29, 30] M N2 := sN.trans s2
          have n221 : N2.1 21 10 = nI (2 * n) := by rw [(sN2 21 (by decide)).1]; exact pm.2.1
          have bi2' := bi2
          obtain ⟨⟨e1, e2, e3, e4, e5, e6⟩, e7, e8, e9⟩ := bi2'
          refine P_isCol n221 hn hl2 (br_F (by decide) ⟨in_nI (by omega) (by omega), ?_⟩)
          rw [cl_nI (n := left) (by omega), e7 left hl2]
          cases hb : sb' left
          · refine br_T rfl (ih (i + 1) (by omega) N2 sb' fr' qu' od' qn' sN2 bi2 hb (fun i' hi' hiq' r2 x' r' h1 h2 h3 h4 h5 => ?_))
            by_cases hii : i' = i
            · rw [hii, mm2 i hiq, g2] at h1
              cases h1
              exact cl2 x' r' h2 h3 h4 h5
            · rw [mm2 i' (by omega)] at h1
              exact mm1 x' (cl i' (by omega) (by omega) r2 x' r' h1 h2 h3 h4 h5)
          · refine br_F (by decide) ?_
            have tsN2 := ts.congr sN2
            have hq2 := cntB_le sb' (2 * n)
            /- the row's own column is let go -/
            have R0n : ∀ x, x ≠ left → uo R left none x = R x := fun x hx => uo_ne hx
            have C0n : ∀ r, r ≠ k → uo C k none r = C r := fun r hr => uo_ne hr
            refine P_moveAlong (R := uo R left none) (C := uo C k none) (fr := fr') (od := od') (seen := fun x => sb' x = true) (Pok := fun r x => u r + v x = wp n A p r x) n221 hn (by omega) (fun x hx hxl => ?_) (fun r' hr' hrk => ?_) e8 ⟨fun x r' hx hw => ?_, fun r' x hr' hw => ?_⟩ (uo_at _ _ _) (uo_at _ _ _) (fun x hx => ?_) hb (fun N4 R' C' ct x1 x2 x3 x4 x5 x6 x7 x8 x9 x10 x11 => ?_)
            · rw [R0n x hxl]; exact tsN2.2.1.2.2.1 x hx
            · rw [C0n r' hrk]; exact tsN2.2.1.2.2.2 r' hr'
            · by_cases hxl : x = left
              · rw [hxl, uo_at] at hw; cases hw
              · rw [R0n x hxl] at hw
                obtain ⟨a1, a2⟩ := mk.1 x r' hx hw
                refine ⟨a1, ?_⟩
                rw [C0n r' (fun e => by rw [e, hl] at a2; cases a2; exact hxl rfl)]
                exact a2
            · by_cases hrk : r' = k
              · rw [hrk, uo_at] at hw; cases hw
              · rw [C0n r' hrk] at hw
                obtain ⟨a1, a2⟩ := mk.2 r' x hr' hw
                refine ⟨a1, ?_⟩
                rw [R0n x (fun e => by rw [e, hRl] at a2; cases a2; exact hrk rfl)]
                exact a2
            · have h5 := e5 x hx
              refine ⟨(e2 x hx).1, by have := (e4 x hx).1; omega, ?_⟩
              cases hw : fr' x with
              | none =>
                rw [hw] at h5
                have h5 : x = c := h5
                show u k + v x = wp n A p k x
                rw [h5]; exact ht
              | some x' =>
                rw [hw] at h5
                obtain ⟨f1, f2, r2, f3, f4, f5⟩ := h5
                refine ⟨f1, f2, r2, ?_, f5⟩
                rw [R0n x' (fun e => by rw [e, hRl] at f3; cases f3; omega)]
                exact f3
            · have s4 : Same [26, 27, 28, 29, 30] M N4 := (sN2.mono (by simp)).trans (x1.mono (by simp))
              obtain ⟨d1, d2, d3, d4, d5⟩ := df
              have hct : ct = c := by
                have h5 := e5 ct x10
                rw [x11] at h5
                exact h5
              refine h1 N4 R' C' s4 ⟨pm.congr (s4 21 (by decide)).1 (s4 22 (by decide)).2, ⟨fun r' hr' => by rw [(s4 23 (by decide)).2]; exact m23 r' hr', fun x hx => by rw [(s4 24 (by decide)).2]; exact m24 x hx, x2, x3⟩, x4, fun x hx e => ?_, fun r' hr' e => ?_, ⟨d1, fun x r' hx hw => ?_, d3, d4, d5⟩⟩ (fun i' hi' => ?_) (by rw [x9, hct])
              · obtain ⟨y1, y2⟩ := x6 x e
                rw [R0n x y1] at y2
                exact tot x hx y2
              · by_cases hrk : r' = k
                · rw [hrk, x9] at e; cases e
                · have := x8 r' e
                  rw [C0n r' hrk] at this
                  exact tr r' hr' this
              · rcases x5 x r' hw with h | h
                · exact h
                · by_cases hxl : x = left
                  · rw [hxl, uo_at] at h; cases h
                  · rw [R0n x hxl] at h
                    exact d2 x r' hx h
              · have hne : i' ≠ k := by omega
                by_cases hd : C' i' = uo C k none i'
                · rw [hd, C0n i' hne]
                · rcases x7 i' hd with e | ⟨c', g1', g2'⟩
                  · omega
                  · by_cases hcl' : c' = left
                    · rw [hcl', uo_at] at g2'; cases g2'
                    · rw [R0n c' hcl'] at g2'
                      obtain ⟨-, r2, f1, f2⟩ := e2 c' g1'
                      rw [g2'] at f1
                      cases f1
                      omega
        · refine br_T (nI_le (by omega) (by omega)) (h0 N sN (fun H oH eH e => no_way (sb := sb) (left := left) hAj df mk tot tr hk hl (fun x hx => ?_) b6 hc sl (fun x r1 x' r' hx h1 h2 h3 h4 h5 => ?_) oH eH e))
          · obtain ⟨g1, r1, g2, g3⟩ := b2 x hx
            refine ⟨g1, r1, g2, ?_⟩
            rcases Nat.lt_or_ge k r1 with z | z
            · exact z
            · have : r1 = k := by omega
              rw [this] at g2
              have g4 := (mk.1 x k g1 g2).2
              rw [hl] at g4
              cases g4
              rw [hx] at sl; cases sl
          · obtain ⟨g1, g2⟩ := b4 x hx
            exact cl (od x) (by omega) g1 r1 x' r' (by rw [g2]; exact h1) h2 h3 h4 h5
    have k10 : ∀ d i, i + d = 2 * n → ∀ N, Same [28, 30] M N → (∀ x, x < i → N.1 28 x = -1 ∧ N.1 30 x = 0) → P_Matching_giveColumn_10 Q (d + 1) (nI k) (nI c) (nI left) (nI i) N := by
      intro d
      induction d with
      | zero =>
        intro i hi N sN hN
        have : i = 2 * n := by omega
        subst this
        unfold P_Matching_giveColumn_10
        have n21 : N.1 21 10 = nI (2 * n) := by rw [(sN 21 (by decide)).1]; exact pm.2.1
        rw [n21, cl_nI (n := c) (by omega)]
        refine br_T (nI_le (by omega) (by omega)) ⟨in_nI (by omega) (by omega), in_nI (n := 0) (by omega) (by omega), 2 * n + 1, key (2 * n) 0 (by omega) _ (fun x => decide (x = c)) (fun _ => none) (fun _ => c) (fun _ => 0) 1 (((sN.mono (by simp)).putI (by simp)).putI (by simp)) ⟨⟨?_, fun x hx => ?_, fun i hi => ?_, fun x hx => ?_, fun x hx => ?_, ?_⟩, fun x hx => ?_, fun x hx => ?_, fun i hi => ?_⟩ ?_ (fun i' hi' => absurd hi' (Nat.not_lt_zero _))⟩
        · have h0 : ∀ q, cntB (fun _ => false) q = 0 := fun q => by
            induction q with
            | zero => rfl
            | succ q ih => rw [cntB_succ_f (by decide)]; exact ih
          have := cntB_flip (p := fun _ => false) (q := fun x => decide (x = c)) (n := 2 * n) (i := c) (fun x _ hx => by rw [decide_eq_false hx]) (by omega) rfl (decide_eq_true rfl)
          rw [h0] at this
          exact this
        · have : x = c := of_decide_eq_true hx
          rw [this]
          exact ⟨by omega, r, hR, by omega⟩
        · exact decide_eq_true rfl
        · have : x = c := of_decide_eq_true hx
          exact ⟨Nat.one_pos, this.symm⟩
        · exact of_decide_eq_true hx
        · exact decide_eq_true rfl
        · show _ = if decide (x = c) = true then 1 else 0
          rw [putI_ne1 (by omega), putI_at]
          by_cases hxc : x = c
          · rw [if_pos ⟨rfl, hxc⟩, decide_eq_true hxc]; rfl
          · rw [if_neg (fun e => hxc e.2), decide_eq_false hxc]; exact (hN x hx).2
        · have hx : x = c := of_decide_eq_true hx
          rw [putI_ne1 (by omega), putI_ne1 (by omega)]
          exact (hN x (by omega)).1
        · have : i = 0 := by omega
          rw [this]
          exact putI_same
        · exact decide_eq_false (fun e => hcl e.symm)
      | succ d ih =>
        intro i hi N sN hN
        unfold P_Matching_giveColumn_10
        have n21 : N.1 21 10 = nI (2 * n) := by rw [(sN 21 (by decide)).1]; exact pm.2.1
        rw [n21, nI_1, cl_nI (n := i) (by omega)]
        refine br_F (nI_ge (by omega) (by omega)) ⟨in_nI (by omega) (by omega), ih (i + 1) (by omega) _ ((sN.putI (by simp)).putI (by simp)) (fun x hx => ?_)⟩
        by_cases hxi : x = i
        · subst hxi
          exact ⟨by rw [putI_ne1 (by omega), putI_same], putI_same⟩
        · obtain ⟨h1, h2⟩ := hN x (by omega)
          exact ⟨by rw [putI_ne1 (by omega), putI_at, if_neg (fun e => hxi e.2)]; exact h1, by rw [putI_at, if_neg (fun e => hxi e.2), putI_ne1 (by omega)]; exact h2⟩
    unfold P_Matching_giveColumn
    rw [cl_nI (n := k) (by omega), m26 k (by omega), hl]
    exact ⟨in_nI (by omega) (by omega), 2 * n + 1, k10 (2 * n) 0 (by omega) M (Same.refl _ _) (fun x hx => absurd hx (Nat.not_lt_zero _))⟩
theorem P_settle {k : Nat} {M : Mem} {Q : Mem → Prop} (hAj : ∀ k j, A k j = true → j < k) (hp : ∀ k j, k < n → j < n → 0 ≤ p k j ∧ p k j ≤ PMX) (hn : n ≤ 16) (hk : k < n) (ts : TS n A p u v R C M)
    (hQ : ∀ (N : Mem) (R' C' : Nat → Option Nat), Same [26, 27, 28, 29, 30] M N → TS n A p u v R' C' N → (∀ i, i < k → C' i = C i) → (∀ H, Opt n A p H → (∀ i, i < k → H i = fol n C i) → ∀ j, H k = some j → ∃ j', j' ≤ j ∧ fol n C' k = some j') → Q N) : P_Matching_settle (nI k) M Q := by
  have ts' := ts
  obtain ⟨pm, ⟨m23, m24, m27, m26⟩, mk, tot, tr, df⟩ := ts'
  cases hl : C k with
  | none => exact absurd hl (tr k hk)
  | some left =>
    obtain ⟨hl2, hRl⟩ := mk.2 k left (by omega) hl
    have key : ∀ d c, c + d = n → ∀ N, Same [28, 29, 30] M N → c ≤ left → (∀ c', c' < c → ∀ H, Opt n A p H → (∀ i, i < k → H i = fol n C i) → H k ≠ some c') → P_Matching_settle_2 Q (d + 1) (nI k) (nI c) N := by
      intro d
      induction d with
      | zero =>
        intro c hc N sN hcl hno
        have : c = n := by omega
        subst this
        unfold P_Matching_settle_2
        have n21 : N.1 21 9 = nI c := by rw [(sN 21 (by decide)).1]; exact pm.1
        rw [n21]
        refine br_T (nI_le (by omega) (by omega)) (hQ N R C (sN.mono (by simp)) (ts.congr sN) (fun _ _ => rfl) (fun H oH eH j hj => ?_))
        exact absurd hj (hno j (oH.1.1 k j hk hj).2 H oH eH)
      | succ d ih =>
        intro c hc N sN hcl hno
        have hcn : c < n := by omega
        have tsN := ts.congr sN
        have n21 : N.1 21 9 = nI n := by rw [(sN 21 (by decide)).1]; exact pm.1
        have n26 : N.1 26 k = nI left := by rw [tsN.2.1.2.2.2 k (by omega), hl]; rfl
        unfold P_Matching_settle_2
        rw [n21, cl_nI (n := k) (by omega), cl_nI (n := c) (by omega), n26, nI_1 c]
        refine br_F (nI_ge (by omega) (by omega)) ⟨in_nI (by omega) (by omega), fun hne => ?_, fun he => ?_⟩
        · have hne : left ≠ c := fun e => hne (by rw [e])
          have go : ∀ N2, Same [28, 29, 30] M N2 → (∀ H, Opt n A p H → (∀ i, i < k → H i = fol n C i) → H k ≠ some c) → P_Matching_settle_2 Q (d + 1) (nI k) (nI (c + 1)) N2 := fun N2 s2 hx => ih (c + 1) (by omega) N2 s2 (by omega) (fun c' hc' H oH eH => by
            by_cases hcc : c' = c
            · rw [hcc]; exact hx H oH eH
            · exact hno c' (by omega) H oH eH)
          cases hz : R c with
          | none => exact absurd hz (tot c (by omega))
          | some r =>
            obtain ⟨hr, hCr⟩ := mk.1 c r (by omega) hz
            have n27 : N.1 27 c = nI r := by rw [tsN.2.1.2.2.1 c (by omega), hz]; rfl
            rw [n27]
            refine ⟨in_nI (by omega) (by omega), fun hle => go N sN (fun H oH eH e => ?_), fun hle => ?_⟩
            · have hle := (nle_of (by omega) (by omega)).mp hle
              by_cases hrk : r = k
              · rw [hrk, hl] at hCr
                cases hCr
                exact hne rfl
              · have h1 : H r = some c := by rw [eH r (by omega)]; exact fol_of hCr hcn
                have := oH.1.2 r k c (by omega) hk h1 e
                exact hrk this
            · have hkr : k < r := by
                rcases Nat.lt_or_ge k r with y | y
                · exact y
                · exact absurd ((nle_of (by omega) (by omega)).mpr y) hle
              refine P_tight hp hn tsN (by omega) (by omega) (fun ht => br_F (by decide) ?_) (fun ht => br_T rfl (go N sN (fun H oH eH e => ht ?_)))
              · refine P_give hAj hp hn hk hcn tsN hz hkr ht (fun N2 R' C' s2 ts2 pre hck => br_F (by decide) ?_) (fun N2 s2 hx => br_T rfl (go N2 (sN.trans s2) hx))
                refine hQ N2 R' C' ((sN.mono (by simp)).trans s2) ts2 pre (fun H oH eH j hj => ⟨c, ?_, fol_of hck hcn⟩)
                rcases Nat.lt_or_ge j c with y | y
                · exact absurd hj (hno j y H oH eH)
                · exact y
              · obtain ⟨t1, -, -⟩ := cert_tight (fol_cert hAj df mk tot tr) (fol_val hAj df mk) oH
                have e2 : p k c - BIG + (BIG - u k) + - v c = 0 := t1 k c hk e
                rw [wp_real hk hcn (oH.1.1 k c hk e).1]
                omega
        · have he : left = c := (nI_eq (by omega) (by omega)).mp he
          refine hQ N R C (sN.mono (by simp)) tsN (fun _ _ => rfl) (fun H oH eH j hj => ⟨c, ?_, fol_of (by rw [hl, he]) hcn⟩)
          rcases Nat.lt_or_ge j c with y | y
          · exact absurd hj (hno j y H oH eH)
          · exact y
    unfold P_Matching_settle
    exact ⟨n + 1, key n 0 (by omega) M (Same.refl _ _) (by omega) (fun c' hc' => absurd hc' (Nat.not_lt_zero _))⟩
theorem P_msolve {M : Mem} {Q : Mem → Prop} (hAj : ∀ k j, A k j = true → j < k) (hp : ∀ k j, k < n → j < n → 0 ≤ p k j ∧ p k j ≤ PMX) (hn : n ≤ 16) (as : AS n A p 0 u v R C M)
    (hQ : ∀ (N : Mem) (C' : Nat → Option Nat), Same [23, 24, 25, 26, 27, 28, 29, 30] M N → PM n A p N → (∀ r c, r < n → C' r = some c → c < 2 * n) → (∀ r, r < n → C' r ≠ none) → (∀ r, r < n → N.1 26 r = oI (C' r)) → Lex n A p (fol n C') → Q N) : P_Matching_solve M Q := by
  have k27 : ∀ d k, k + d = n → ∀ (N : Mem) (u v : Nat → Int) (R C : Nat → Option Nat), Same [23, 24, 25, 26, 27, 28, 29, 30] M N → TS n A p u v R C N → (∀ i, i < k → ∀ H, Opt n A p H → (∀ i', i' < i → H i' = fol n C i') → ∀ j, H i = some j → ∃ j', j' ≤ j ∧ fol n C i = some j') → P_Matching_solve_27 Q (d + 1) (nI k) N := by
    intro d
    induction d with
    | zero =>
      intro k hk N u v R C sN ts lx
      have : k = n := by omega
      subst this
      obtain ⟨pm, ⟨m23, m24, m27, m26⟩, mk, tot, tr, df⟩ := ts
      unfold P_Matching_solve_27
      rw [pm.1]
      exact br_T (nI_le (by omega) (by omega)) (hQ N C sN pm (fun r c hr h => (mk.2 r c (by omega) h).1) tr (fun r hr => m26 r (by omega)) ⟨fol_opt hAj df mk tot tr, fun i hi H oH eH j hj => lx i hi H oH eH j hj⟩)
    | succ d ih =>
      intro k hk N u v R C sN ts lx
      unfold P_Matching_solve_27
      rw [ts.1.1, nI_1]
      refine br_F (nI_ge (by omega) (by omega)) (P_settle hAj hp hn (by omega) ts (fun N2 R' C' s2 ts2 pre lk => ih (k + 1) (by omega) N2 u v R' C' (sN.trans (s2.mono (by simp))) ts2 (fun i hi H oH eH j hj => ?_)))
      have fe : ∀ i', i' < k → fol n C' i' = fol n C i' := fun i' hi' => by unfold fol; rw [pre i' hi']
      by_cases hik : i = k
      · subst hik
        exact lk H oH (fun i' hi' => by rw [eH i' hi', fe i' hi']) j hj
      · rw [fe i (by omega)]
        exact lx i (by omega) H oH (fun i' hi' => by rw [eH i' hi', fe i' (by omega)]) j hj
  have k2 : ∀ d k, k + d = n → ∀ (N : Mem) (u v : Nat → Int) (R C : Nat → Option Nat), Same [23, 24, 25, 26, 27, 28, 30] M N → AS n A p k u v R C N → P_Matching_solve_2 Q (d + 1) (nI k) N := by
    intro d
    induction d with
    | zero =>
      intro k hk N u v R C sN as
      have : k = n := by omega
      subst this
      unfold P_Matching_solve_2
      rw [as.1.1]
      refine br_T (nI_le (by omega) (by omega)) (P_fill as hn (fun N2 R' C' s2 ts => ⟨k + 1, k27 k 0 (by omega) N2 u v R' C' ((sN.mono (by simp)).trans (s2.mono (by simp))) ts (fun i hi => absurd hi (Nat.not_lt_zero _))⟩))
    | succ d ih =>
      intro k hk N u v R C sN as
      unfold P_Matching_solve_2
      rw [as.1.1, nI_1]
      exact br_F (nI_ge (by omega) (by omega)) (P_admit as hn (by omega) hp (fun N2 u' v' R' C' s2 as2 => ih (k + 1) (by omega) N2 u' v' R' C' (sN.trans s2) as2))
  unfold P_Matching_solve
  exact ⟨n + 1, k2 n 0 (by omega) M u v R C (Same.refl _ _) as⟩
end Sv
