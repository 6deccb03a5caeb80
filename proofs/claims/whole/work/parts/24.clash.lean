/-! clashes -/
theorem cntB_le (p : Nat → Bool) (n : Nat) : cntB p n ≤ n := by
  induction n with
  | zero => exact Nat.le_refl _
  | succ n ih => unfold cntB; split <;> omega
theorem cntB_mono (p : Nat → Bool) {i n : Nat} (h : i ≤ n) : cntB p i ≤ cntB p n := by
  induction n with
  | zero => rw [show i = 0 by omega]; exact Nat.le_refl _
  | succ n ih =>
    by_cases hi : i = n + 1
    · rw [hi]; exact Nat.le_refl _
    · have h1 := ih (by omega)
      have e1 : cntB p (n + 1) = cntB p n + (if p n then 1 else 0) := rfl
      omega
theorem cntB_succ_t {p : Nat → Bool} {n : Nat} (h : p n = true) : cntB p (n + 1) = cntB p n + 1 := by
  show cntB p n + (if p n then 1 else 0) = _
  rw [if_pos h]
theorem cntB_succ_f {p : Nat → Bool} {n : Nat} (h : ¬ p n = true) : cntB p (n + 1) = cntB p n := by
  show cntB p n + (if p n then 1 else 0) = _
  rw [if_neg h]; rfl
theorem cntB_congr {p q : Nat → Bool} {n : Nat} (h : ∀ i, i < n → p i = q i) : cntB p n = cntB q n := by
  induction n with
  | zero => rfl
  | succ n ih =>
    show cntB p n + _ = cntB q n + _
    rw [ih (fun i hi => h i (by omega)), h n (by omega)]
theorem cntB_hit {p : Nat → Bool} {n j : Nat} (h : j < cntB p n) : ∃ r, r < n ∧ p r = true ∧ cntB p r = j := by
  induction n with
  | zero => exact absurd h (Nat.not_lt_zero _)
  | succ n ih =>
    by_cases hj : j < cntB p n
    · obtain ⟨r, h1, h2, h3⟩ := ih hj
      exact ⟨r, by omega, h2, h3⟩
    · by_cases hp : p n = true
      · rw [cntB_succ_t hp] at h
        exact ⟨n, by omega, hp, by omega⟩
      · rw [cntB_succ_f hp] at h
        exact absurd h hj
theorem sumN_mono (f : Nat → Nat) {i n : Nat} (h : i ≤ n) : sumN f i ≤ sumN f n := by
  induction n with
  | zero => rw [show i = 0 by omega]; exact Nat.le_refl _
  | succ n ih =>
    by_cases hi : i = n + 1
    · rw [hi]; exact Nat.le_refl _
    · have h1 := ih (by omega)
      have e1 : sumN f (n + 1) = sumN f n + f n := rfl
      omega
theorem sumN_hit {f : Nat → Nat} {n k : Nat} (h : k < sumN f n) : ∃ l, l < n ∧ sumN f l ≤ k ∧ k < sumN f l + f l := by
  induction n with
  | zero => exact absurd h (Nat.not_lt_zero _)
  | succ n ih =>
    by_cases hj : k < sumN f n
    · obtain ⟨r, h1, h2, h3⟩ := ih hj
      exact ⟨r, by omega, h2, h3⟩
    · exact ⟨n, by omega, by omega, h⟩
theorem sumN_congr {f g : Nat → Nat} {n : Nat} (h : ∀ i, i < n → f i = g i) : sumN f n = sumN g n := by
  induction n with
  | zero => rfl
  | succ n ih =>
    show sumN f n + _ = sumN g n + _
    rw [ih (fun i hi => h i (by omega)), h n (by omega)]
theorem sumN_le {f : Nat → Nat} {n c : Nat} (h : ∀ i, i < n → f i ≤ c) : sumN f n ≤ n * c := by
  induction n with
  | zero => exact Nat.zero_le _
  | succ n ih =>
    have h1 := ih (fun i hi => h i (by omega))
    have h2 := h n (by omega)
    show sumN f n + f n ≤ (n + 1) * c
    rw [Nat.succ_mul]
    omega
theorem clN_le (g : Nat → Int32) (l : Nat) : clN g l ≤ l := cntB_le _ _
theorem clS_le (g : Nat → Int32) {n : Nat} (hn : n ≤ 200) : sumN (clN g) n ≤ 40000 := by
  have h := sumN_le (f := clN g) (n := n) (c := 200) (fun i hi => by have := clN_le g i; omega)
  omega
theorem clB_congr {g h : Nat → Int32} {e l r : Nat} (hg : ∀ j, j < 8 * e → g j = h j) (hl : l < e) (hr : r < e) : clB g l r = clB h l r := by
  unfold clB
  rw [hg (8 * l) (by omega), hg (8 * r) (by omega), hg (8 * l + 1) (by omega), hg (8 * r + 1) (by omega), hg (8 * l + 4) (by omega), hg (8 * r + 4) (by omega), hg (8 * l + 3) (by omega), hg (8 * r + 3) (by omega), hg (8 * r + 5) (by omega)]
theorem clN_congr {g h : Nat → Int32} {e l : Nat} (hg : ∀ j, j < 8 * e → g j = h j) (hl : l < e) : clN g l = clN h l := cntB_congr (fun i hi => clB_congr hg hl (by omega))
theorem i_nle {a b : Int32} : ¬ a ≤ b ↔ b < a := by rw [i_le, i_lt]; omega
theorem P_isClash {Q : Int32 → Mem → Prop} {M : Mem} {l r : Nat} (hl : l < 200) (hr : r < 200) (hQ : Q (if clB (M.1 41) l r then 1 else 0) M) : P_Mo_isClash (nI l) (nI r) M Q := by
  unfold P_Mo_isClash
  rw [ix_m0, ix_m0, show nI (8 * l) + 1 = nI (8 * l + 1) from nI_1 _, show nI (8 * r) + 1 = nI (8 * r + 1) from nI_1 _, show nI (8 * l) + 4 = nI (8 * l + 4) from nI_add _ 4, show nI (8 * r) + 4 = nI (8 * r + 4) from nI_add _ 4, show nI (8 * l) + 3 = nI (8 * l + 3) from nI_add _ 3, show nI (8 * r) + 3 = nI (8 * r + 3) from nI_add _ 3, show nI (8 * r) + 5 = nI (8 * r + 5) from nI_add _ 5]
  rw [cl_nI (n := 8 * l) (by omega), cl_nI (n := 8 * r) (by omega), cl_nI (n := 8 * l + 1) (by omega), cl_nI (n := 8 * r + 1) (by omega), cl_nI (n := 8 * l + 4) (by omega), cl_nI (n := 8 * r + 4) (by omega), cl_nI (n := 8 * l + 3) (by omega), cl_nI (n := 8 * r + 3) (by omega), cl_nI (n := 8 * r + 5) (by omega)]
  have iv : ∀ n, n < 1600 → vp_in (nI n) 1600 := fun n hn => in_nI hn (by omega)
  refine ⟨iv _ (by omega), fun h1 => ?_, fun h1 => ⟨iv _ (by omega), fun h2 => ?_, fun h2 => ⟨iv _ (by omega), iv _ (by omega), fun h3 => ?_, fun h3 => ⟨iv _ (by omega), iv _ (by omega), fun h4 => ⟨iv _ (by omega), iv _ (by omega), iv _ (by omega), fun h5 => ?_, fun h5 => ?_⟩, fun h4 => ?_⟩⟩⟩⟩
  · simpa [clB, h1] using hQ
  · simpa [clB, h2] using hQ
  · simpa [clB, h3] using hQ
  · have h6 : ¬ M.1 41 (8 * l + 3) < M.1 41 (8 * r + 3) + 60 * M.1 41 (8 * r + 5) := fun h => (i_nle.mpr h) h5
    simpa [clB, h6] using hQ
  · have h6 : M.1 41 (8 * l + 3) < M.1 41 (8 * r + 3) + 60 * M.1 41 (8 * r + 5) := i_nle.mp h5
    simpa [clB, h1, h2, h3, h4, h6] using hQ
  · simpa [clB, h4] using hQ
theorem P_doClash {Q : Int32 → Mem → Prop} {M : Mem} {e l r : Nat} (h : M.1 11 1 = nI e) (he : e ≤ 200) (hl : l < e) (hr : r < e) (hk : M.1 12 (8 * l) = 5) (hQ : Q (if clB (M.1 12) l r then 1 else 0) M) : P_ClashBook_doClash (nI l) (nI r) M Q := by
  unfold P_ClashBook_doClash
  refine P_cell_in (f := 0) h he hr (by omega) ⟨fun h2 => ?_, fun h2 => P_cell_in (f := 4) h he hr (by omega) (P_cell_in (f := 4) h he hl (by omega) ⟨fun h4 => ?_, fun h4 => P_cell_in (f := 1) h he hr (by omega) (P_cell_in (f := 1) h he hl (by omega) ⟨fun h3 => P_cell_in (f := 3) h he hr (by omega) (P_cell_in (f := 5) h he hr (by omega) (P_cell_in (f := 3) h he hl (by omega) ⟨fun h5 => ?_, fun h5 => ?_⟩)), fun h3 => ?_⟩)⟩)⟩
  · have h2 : ¬ M.1 12 (8 * r) = 5 := h2
    simpa [clB, h2] using hQ
  · have h4 : ¬ M.1 12 (8 * l + 4) = M.1 12 (8 * r + 4) := fun e => h4 e.symm
    simpa [clB, h4] using hQ
  · have h6 : ¬ M.1 12 (8 * l + 3) < M.1 12 (8 * r + 3) + 60 * M.1 12 (8 * r + 5) := fun h => by
      rw [Int32.mul_comm] at h
      exact (i_nle.mpr h) h5
    simpa [clB, h6] using hQ
  · have h2 : M.1 12 (8 * r) = 5 := h2
    have h6 : M.1 12 (8 * l + 3) < M.1 12 (8 * r + 3) + 60 * M.1 12 (8 * r + 5) := by
      rw [Int32.mul_comm]
      exact i_nle.mp h5
    have h3 : ¬ M.1 12 (8 * l + 1) = M.1 12 (8 * r + 1) := fun e => h3 e.symm
    simpa [clB, h2, hk, h3, h4.symm, h6] using hQ
  · have h3 : M.1 12 (8 * l + 1) = M.1 12 (8 * r + 1) := h3.symm
    simpa [clB, h3] using hQ
theorem P_moclashes {Q : Int32 → Mem → Prop} {M : Mem} {e : Nat} (h : M.1 35 11 = nI e) (he : e ≤ 200) (hQ : Q (nI (sumN (clN (M.1 41)) e)) (putI M 35 0 0)) : P_Mo_clashes M Q := by
  obtain ⟨N, hN⟩ : ∃ N, N = putI M 35 0 0 := ⟨_, rfl⟩
  have h35 : N.1 35 11 = nI e := by rw [hN]; exact h
  have h41 : M.1 41 = N.1 41 := by rw [hN]; rfl
  rw [← hN, h41] at hQ
  have inner : ∀ (K9 : Int32 → Int32 → Mem → Prop) (l : Nat), l < e → ∀ (d t s : Nat), t + d = l → K9 (nI (s + clN (N.1 41) l)) (nI (l + 1)) N → P_Mo_clashes_19 K9 Q (d + 1) (nI (s + cntB (clB (N.1 41) l) t)) (nI l) (nI t) N := by
    intro K9 l hl d
    induction d with
    | zero =>
      intro t s ht hk
      unfold P_Mo_clashes_19
      rw [show t = l by omega, nI_1]
      exact br_T (nI_le (Nat.le_refl _) (by omega)) hk
    | succ d ih =>
      intro t s ht hk
      unfold P_Mo_clashes_19
      refine br_F (nI_ge (by omega) (by omega)) (P_isClash (by omega) (by omega) ?_)
      by_cases hp : clB (N.1 41) l t = true
      · rw [if_pos hp]
        refine br_F (by decide) ?_
        rw [nI_1, nI_1, show s + cntB (clB (N.1 41) l) t + 1 = s + cntB (clB (N.1 41) l) (t + 1) by rw [cntB_succ_t hp]; omega]
        exact ih (t + 1) s (by omega) hk
      · rw [if_neg hp]
        refine br_T rfl ?_
        rw [nI_1, show s + cntB (clB (N.1 41) l) t = s + cntB (clB (N.1 41) l) (t + 1) by rw [cntB_succ_f hp]]
        exact ih (t + 1) s (by omega) hk
  have outer : ∀ (d l : Nat), l + d = e → P_Mo_clashes_9 Q (d + 1) (nI (sumN (clN (N.1 41)) l)) (nI l) N := by
    intro d
    induction d with
    | zero =>
      intro l hl
      unfold P_Mo_clashes_9
      rw [h35, show l = e by omega]
      exact br_T (nI_le (Nat.le_refl _) (by omega)) hQ
    | succ d ih =>
      intro l hl
      unfold P_Mo_clashes_9
      rw [h35]
      exact br_F (nI_ge (by omega) (by omega)) ⟨l + 1, inner _ l (by omega) l 0 _ (by omega) (ih (l + 1) (by omega))⟩
  unfold P_Mo_clashes
  rw [← hN]
  exact ⟨e + 1, outer e 0 (by omega)⟩
theorem op_clashes {k : Nat} {M : Mem} {K : Mem → Prop} (h : Inv k M) (hK : ∀ N, Inv (k + 1) N → K N) : P_Sv_clashes M fun r M1 => P_Mo_clashes M1 fun r2 M2 => (r = r2 → K M2) ∧ (¬ r = r2 → (0 : Int32) = 1) := by
  obtain ⟨e, ⟨he, l1, l2, l3, -⟩, ⟨-, c2⟩, -⟩ := h.2.2.2.2.2.2.1
  show P_Mo_clashes M _
  refine P_moclashes l2 he (res_eq ?_ (hK _ (h.thrown 0)))
  show M.1 13 1 = _
  rw [c2, sumN_congr (fun i hi => clN_congr (fun j hj => (l3 j hj).symm) hi)]
theorem P_laterOf {Q : Int32 → Mem → Prop} {M : Mem} {f : Nat → Nat} {k l : Nat} (h : ∀ i, i < 200 → M.1 14 i = nI (f i)) (hf : ∀ i, i < 200 → f i ≤ 200) (hl : l < 200) (h1 : sumN f l ≤ k) (h2 : k < sumN f l + f l) (hQ : Q (nI l) M) : P_ClashBook_laterOf (nI k) M Q := by
  have hb : ∀ i, i ≤ 200 → sumN f i ≤ 40000 := fun i hi => by
    have := sumN_le (f := f) (n := i) (c := 200) (fun j hj => hf j (by omega))
    omega
  have key : ∀ (d i : Nat), i + d = l → P_ClashBook_laterOf_4 Q (d + 1) (nI k) (nI (sumN f i)) (nI i) M := by
    intro d
    induction d with
    | zero =>
      intro i hi
      have : i = l := by omega
      subst this
      unfold P_ClashBook_laterOf_4
      refine br_F (by rw [show (200 : Int32) = nI 200 from rfl, nle_of (by omega) (by omega)]; omega) ⟨in_nI hl (by omega), ?_⟩
      rw [cl_nI (by omega), h i hl, nI_add]
      have := hb i (by omega); have := hf i hl
      exact br_F (by rw [nle_of (by omega) (by omega)]; omega) hQ
    | succ d ih =>
      intro i hi
      unfold P_ClashBook_laterOf_4
      refine br_F (by rw [show (200 : Int32) = nI 200 from rfl, nle_of (by omega) (by omega)]; omega) ⟨in_nI (by omega) (by omega), ?_⟩
      rw [cl_nI (by omega), h i (by omega), nI_add, nI_1]
      have h3 := sumN_mono f (show i + 1 ≤ l by omega)
      have h4 : sumN f (i + 1) = sumN f i + f i := rfl
      have := hb l (by omega); have := hf l hl
      exact br_T (by rw [nle_of (by omega) (by omega)]; omega) (ih (i + 1) (by omega))
  unfold P_ClashBook_laterOf
  exact ⟨l + 1, key l 0 (by omega)⟩
theorem P_earlierOf {Q : Int32 → Mem → Prop} {M : Mem} {f : Nat → Nat} {k l r e : Nat} (h : ∀ i, i < 200 → M.1 14 i = nI (f i)) (hf : ∀ i, i < 200 → f i ≤ 200) (h11 : M.1 11 1 = nI e) (he : e ≤ 200) (hl : l < e) (hk5 : M.1 12 (8 * l) = 5) (h1 : sumN f l ≤ k) (h2 : k < 100000) (hr : r < l) (hp : clB (M.1 12) l r = true) (hc : cntB (clB (M.1 12) l) r = k - sumN f l) (hQ : Q (nI r) M) : P_ClashBook_earlierOf (nI k) (nI l) M Q := by
  have second : ∀ (d i : Nat), i + d = r → P_ClashBook_earlierOf_41 Q (d + 1) (nI l) (nI (k - sumN f l - cntB (clB (M.1 12) l) i)) (nI i) M := by
    intro d
    induction d with
    | zero =>
      intro i hi
      have : i = r := by omega
      subst this
      unfold P_ClashBook_earlierOf_41
      refine br_F (nI_ge (by omega) (by omega)) (P_doClash h11 he hl (by omega) hk5 ?_)
      rw [if_pos hp, show k - sumN f l - cntB (clB (M.1 12) l) i = 0 by omega]
      exact br_F (by decide) (br_T' rfl hQ)
    | succ d ih =>
      intro i hi
      unfold P_ClashBook_earlierOf_41
      refine br_F (nI_ge (by omega) (by omega)) (P_doClash h11 he hl (by omega) hk5 ?_)
      by_cases hq : clB (M.1 12) l i = true
      · have h3 := cntB_mono (clB (M.1 12) l) (show i + 1 ≤ r by omega)
        rw [cntB_succ_t hq] at h3
        rw [if_pos hq]
        refine br_F (by decide) (br_F' (nI_ne0 (by omega) (by omega)) ?_)
        rw [nI_1, show nI (k - sumN f l - cntB (clB (M.1 12) l) i) + (-1) = nI (k - sumN f l - cntB (clB (M.1 12) l) (i + 1)) by
          rw [cntB_succ_t hq, show k - sumN f l - cntB (clB (M.1 12) l) i = (k - sumN f l - (cntB (clB (M.1 12) l) i + 1)) + 1 by omega]; exact pk_m1 _]
        exact ih (i + 1) (by omega)
      · rw [if_neg hq]
        refine br_T rfl ?_
        rw [nI_1, ← cntB_succ_f hq]
        exact ih (i + 1) (by omega)
  have first : ∀ (d i : Nat), i + d = l → P_ClashBook_earlierOf_6 Q (d + 1) (nI l) (nI (k - sumN f i)) (nI i) M := by
    intro d
    induction d with
    | zero =>
      intro i hi
      have : i = l := by omega
      subst this
      unfold P_ClashBook_earlierOf_6
      exact br_T (nI_le (Nat.le_refl _) (by omega)) ⟨r + 1, second r 0 (by omega)⟩
    | succ d ih =>
      intro i hi
      unfold P_ClashBook_earlierOf_6
      refine br_F (nI_ge (by omega) (by omega)) (br_F (by rw [show (200 : Int32) = nI 200 from rfl, nle_of (by omega) (by omega)]; omega) ⟨in_nI (by omega) (by omega), ?_⟩)
      have h3 := sumN_mono f (show i + 1 ≤ l by omega)
      have h4 : sumN f (i + 1) = sumN f i + f i := rfl
      rw [cl_nI (by omega), h i (by omega), pk_sub (by omega), nI_1, show k - sumN f i - f i = k - sumN f (i + 1) by omega]
      exact ih (i + 1) (by omega)
  unfold P_ClashBook_earlierOf
  exact ⟨l + 1, first l 0 (by omega)⟩
theorem P_clashOf {Q : Int32 → Mem → Prop} {M : Mem} {e k : Nat} (h : M.1 35 11 = nI e) (he : e ≤ 200) (hk : k < 2147483648)
    (hN : sumN (clN (M.1 41)) e ≤ k → Q (-1) M) (hY : ∀ l r, l < e → r < l → sumN (clN (M.1 41)) l ≤ k → clB (M.1 41) l r = true → cntB (clB (M.1 41) l) r = k - sumN (clN (M.1 41)) l → k < sumN (clN (M.1 41)) l + clN (M.1 41) l → Q (nI (200 * l + r)) M) : P_Mo_clashOf (nI k) M Q := by
  have pass : ∀ (K4 : Int32 → Int32 → Mem → Prop) (l s : Nat), l < e → s < 2147483648 → clN (M.1 41) l ≤ s → K4 (nI (s - clN (M.1 41) l)) (nI (l + 1)) M → ∀ (d t : Nat), t + d = l → P_Mo_clashOf_15 K4 Q (d + 1) (nI (s - cntB (clB (M.1 41) l) t)) (nI l) (nI t) M := by
    intro K4 l s hl hs hc hk4 d
    induction d with
    | zero =>
      intro t ht
      have : t = l := by omega
      subst this
      unfold P_Mo_clashOf_15
      rw [nI_1]
      exact br_T (nI_le (Nat.le_refl _) (by omega)) hk4
    | succ d ih =>
      intro t ht
      unfold P_Mo_clashOf_15
      refine br_F (nI_ge (by omega) (by omega)) (P_isClash (by omega) (by omega) ?_)
      by_cases hp : clB (M.1 41) l t = true
      · have h3 := cntB_mono (clB (M.1 41) l) (show t + 1 ≤ l by omega)
        have h5 : clN (M.1 41) l = cntB (clB (M.1 41) l) l := rfl
        rw [cntB_succ_t hp] at h3
        rw [if_pos hp]
        refine br_F' (by decide) (br_F' (nI_ne0 (by omega) (by omega)) ?_)
        rw [nI_1, show nI (s - cntB (clB (M.1 41) l) t) + (-1) = nI (s - cntB (clB (M.1 41) l) (t + 1)) by
          rw [cntB_succ_t hp, show s - cntB (clB (M.1 41) l) t = (s - (cntB (clB (M.1 41) l) t + 1)) + 1 by omega]; exact pk_m1 _]
        exact ih (t + 1) (by omega)
      · rw [if_neg hp]
        refine br_T' rfl ?_
        rw [nI_1, ← cntB_succ_f hp]
        exact ih (t + 1) (by omega)
  have hit : ∀ (K4 : Int32 → Int32 → Mem → Prop) (l s r : Nat), l < e → s < 2147483648 → r < l → clB (M.1 41) l r = true → cntB (clB (M.1 41) l) r = s → Q (nI (200 * l + r)) M → ∀ (d t : Nat), t + d = r → P_Mo_clashOf_15 K4 Q (d + 1) (nI (s - cntB (clB (M.1 41) l) t)) (nI l) (nI t) M := by
    intro K4 l s r hl hs hr hpr hcr hQ d
    induction d with
    | zero =>
      intro t ht
      have : t = r := by omega
      subst this
      unfold P_Mo_clashOf_15
      refine br_F (nI_ge (by omega) (by omega)) (P_isClash (by omega) (by omega) ?_)
      rw [if_pos hpr, show s - cntB (clB (M.1 41) l) t = 0 by omega]
      refine br_F' (by decide) (br_T' rfl ?_)
      rw [show (200 : Int32) = nI 200 from rfl, pk_mul, nI_add]
      exact hQ
    | succ d ih =>
      intro t ht
      unfold P_Mo_clashOf_15
      refine br_F (nI_ge (by omega) (by omega)) (P_isClash (by omega) (by omega) ?_)
      by_cases hp : clB (M.1 41) l t = true
      · have h3 := cntB_mono (clB (M.1 41) l) (show t + 1 ≤ r by omega)
        rw [cntB_succ_t hp] at h3
        rw [if_pos hp]
        refine br_F' (by decide) (br_F' (nI_ne0 (by omega) (by omega)) ?_)
        rw [nI_1, show nI (s - cntB (clB (M.1 41) l) t) + (-1) = nI (s - cntB (clB (M.1 41) l) (t + 1)) by
          rw [cntB_succ_t hp, show s - cntB (clB (M.1 41) l) t = (s - (cntB (clB (M.1 41) l) t + 1)) + 1 by omega]; exact pk_m1 _]
        exact ih (t + 1) (by omega)
      · rw [if_neg hp]
        refine br_T' rfl ?_
        rw [nI_1, ← cntB_succ_f hp]
        exact ih (t + 1) (by omega)
  have outer : ∀ (d l : Nat), l + d = e → sumN (clN (M.1 41)) l ≤ k → P_Mo_clashOf_4 Q (d + 1) (nI (k - sumN (clN (M.1 41)) l)) (nI l) M := by
    intro d
    induction d with
    | zero =>
      intro l hl hs
      have : l = e := by omega
      subst this
      unfold P_Mo_clashOf_4
      rw [h]
      exact br_T (nI_le (Nat.le_refl _) (by omega)) (hN hs)
    | succ d ih =>
      intro l hl hs
      unfold P_Mo_clashOf_4
      rw [h]
      refine br_F (nI_ge (by omega) (by omega)) ?_
      by_cases hc : k < sumN (clN (M.1 41)) l + clN (M.1 41) l
      · obtain ⟨r, r1, r2, r3⟩ := cntB_hit (p := clB (M.1 41) l) (n := l) (j := k - sumN (clN (M.1 41)) l) (by show _ < clN (M.1 41) l; omega)
        exact ⟨r + 1, hit _ l _ r (by omega) (by omega) r1 r2 r3 (hY l r (by omega) r1 hs r2 r3 hc) r 0 (by omega)⟩
      · have h4 : sumN (clN (M.1 41)) (l + 1) = sumN (clN (M.1 41)) l + clN (M.1 41) l := rfl
        refine ⟨l + 1, pass _ l (k - sumN (clN (M.1 41)) l) (by omega) (by omega) (by omega) ?_ l 0 (by omega)⟩
        have := ih (l + 1) (by omega) (by omega)
        rw [show k - sumN (clN (M.1 41)) l - clN (M.1 41) l = k - sumN (clN (M.1 41)) (l + 1) by omega]
        exact this
  unfold P_Mo_clashOf
  exact ⟨e + 1, outer e 0 (by omega) (Nat.zero_le _)⟩
theorem op_clash {k : Nat} {M : Mem} {K : Mem → Prop} (h : Inv k M) (a b : Int32) (hK : ∀ N, Inv (k + 1) N → K N) : P_Law_clash a b M fun r M1 => P_Mo_clash a b M1 fun r2 M2 => P_Mo_thrown M2 fun r3 M3 => (r3 = r → (¬ r = 0 → K M3) ∧ (r = 0 → vp_in 0 1 ∧ ((M3.2 62 0) = (Int32.toInt64 r2) → K M3) ∧ (¬ (M3.2 62 0) = (Int32.toInt64 r2) → (0 : Int32) = 1))) ∧ (¬ r3 = r → (0 : Int32) = 1) := by
  obtain ⟨e, ⟨he, l1, l2, l3, -⟩, ⟨c1, c2⟩, -⟩ := h.2.2.2.2.2.2.1
  have hX : ∀ v', P_Mo_thrown (putI M 35 0 1) fun r3 M3 => (r3 = 1 → (¬ (1 : Int32) = 0 → K M3) ∧ ((1 : Int32) = 0 → vp_in 0 1 ∧ ((M3.2 62 0) = (Int32.toInt64 v') → K M3) ∧ (¬ (M3.2 62 0) = (Int32.toInt64 v') → (0 : Int32) = 1))) ∧ (¬ r3 = 1 → (0 : Int32) = 1) := fun v' => fin_x (hK _ (h.thrown 1))
  have hs := clS_le (M.1 12) he
  have eS : ∀ l, l ≤ e → sumN (clN (M.1 41)) l = sumN (clN (M.1 12)) l := fun l hl => sumN_congr (fun i hi => clN_congr l3 (by omega))
  unfold P_Law_clash P_Sv_clash P_ClashBook_total P_Mo_clash
  refine ⟨fun h1 => br_T h1 (br_T' rfl (hX _)), fun h1 => ?_⟩
  obtain ⟨n, hn, rfl⟩ := nn_of h1
  have out : ∀ M1 : Mem, M1 = M → sumN (clN (M.1 12)) e ≤ n → (P_Mo_clashOf (nI n) M1 fun r6 M5 => P_Mo_clash_22 (fun r2 M2 => P_Mo_thrown M2 fun r3 M3 => (r3 = 1 → (¬ (1 : Int32) = 0 → K M3) ∧ ((1 : Int32) = 0 → vp_in 0 1 ∧ ((M3.2 62 0) = (Int32.toInt64 r2) → K M3) ∧ (¬ (M3.2 62 0) = (Int32.toInt64 r2) → (0 : Int32) = 1))) ∧ (¬ r3 = 1 → (0 : Int32) = 1)) b r6 M5) := by
    intro M1 e1 hle
    subst e1
    refine P_clashOf l2 he hn (fun _ => br_T' rfl (hX _)) (fun l r hl hr h5 h6 h7 h8 => ?_)
    exfalso
    have h9 := sumN_mono (clN (M1.1 41)) (show l + 1 ≤ e by omega)
    have h10 : sumN (clN (M1.1 41)) (l + 1) = sumN (clN (M1.1 41)) l + clN (M1.1 41) l := rfl
    rw [eS e (Nat.le_refl _)] at h9
    omega
  refine ⟨fun h2 => br_F h1 ⟨fun h3 => br_T' rfl (hX _), fun h3 => ⟨fun h4 => out M rfl ?_, fun h4 => br_T' rfl (hX _)⟩⟩, fun h2 => ⟨fun h3 => br_F h1 (br_T h3 (br_T' rfl (hX _))), fun h3 => ⟨fun h4 => ?_, fun h4 => br_F h1 (br_F h3 (br_F h4 (br_T' rfl (hX _))))⟩⟩⟩
  · rw [c2, nle_of (by omega) hn] at h2; exact h2
  rw [c2, nle_of (by omega) hn] at h2
  obtain ⟨l, hl, hl1, hl2⟩ := sumN_hit (show n < sumN (clN (M.1 12)) e by omega)
  obtain ⟨r, r1, r2, r3⟩ := cntB_hit (p := clB (M.1 12) l) (n := l) (j := n - sumN (clN (M.1 12)) l) (by show _ < clN (M.1 12) l; omega)
  have hk5 : M.1 12 (8 * l) = 5 := by
    have r2' := r2
    unfold clB at r2'
    simp only [Bool.and_eq_true, decide_eq_true_eq] at r2'
    exact r2'.1.1.1.1
  have hf0 : ∀ i, i ≤ l → sumN (fun k => if k < e then clN (M.1 12) k else 0) i = sumN (clN (M.1 12)) i := fun i hi => sumN_congr (fun j hj => if_pos (by omega))
  have hfl : ∀ i, i < 200 → (fun k => if k < e then clN (M.1 12) k else 0) i ≤ 200 := fun i hi => by
    show (if i < e then clN (M.1 12) i else 0) ≤ 200
    split
    · have := clN_le (M.1 12) i; omega
    · omega
  refine P_laterOf c1 hfl (l := l) (by omega) (by rw [hf0 l (Nat.le_refl _)]; exact hl1) (by rw [hf0 l (Nat.le_refl _)]; show n < _ + (if l < e then clN (M.1 12) l else 0); rw [if_pos hl]; exact hl2) ?_
  have uniq : ∀ l' r', l' < e → r' < l' → sumN (clN (M.1 41)) l' ≤ n → clB (M.1 41) l' r' = true → cntB (clB (M.1 41) l') r' = n - sumN (clN (M.1 41)) l' → n < sumN (clN (M.1 41)) l' + clN (M.1 41) l' → l' = l ∧ r' = r := by
    intro l' r' g1 g2 g3 g4 g5 g6
    rw [eS l' (by omega)] at g3 g5 g6
    rw [clN_congr l3 g1] at g6
    have e1 : l' = l := by
      rcases Nat.lt_trichotomy l' l with q | q | q
      · have h9 := sumN_mono (clN (M.1 12)) (show l' + 1 ≤ l by omega)
        have h10 : sumN (clN (M.1 12)) (l' + 1) = sumN (clN (M.1 12)) l' + clN (M.1 12) l' := rfl
        omega
      · exact q
      · have h9 := sumN_mono (clN (M.1 12)) (show l + 1 ≤ l' by omega)
        have h10 : sumN (clN (M.1 12)) (l + 1) = sumN (clN (M.1 12)) l + clN (M.1 12) l := rfl
        omega
    subst e1
    refine ⟨rfl, ?_⟩
    rw [clB_congr l3 g1 (by omega)] at g4
    have e5 : cntB (clB (M.1 41) l') r' = cntB (clB (M.1 12) l') r' := cntB_congr (fun i hi => clB_congr l3 g1 (by omega))
    rw [e5] at g5
    rcases Nat.lt_trichotomy r' r with q | q | q
    · have h9 := cntB_mono (clB (M.1 12) l') (show r' + 1 ≤ r by omega)
      rw [cntB_succ_t g4] at h9
      omega
    · exact q
    · have h9 := cntB_mono (clB (M.1 12) l') (show r + 1 ≤ r' by omega)
      rw [cntB_succ_t r2] at h9
      omega
  have model : ∀ (v : Int32) (Q : Int32 → Mem → Prop) (N : Mem), N.1 = M.1 → (¬ b = 0 → Q (nI r) (putI N 35 0 0)) → (b = 0 → Q (nI l) (putI N 35 0 0)) → P_Mo_clashOf (nI n) N fun r6 M5 => P_Mo_clash_22 Q b r6 M5 := by
    intro v Q N hN1 hQ1 hQ2
    refine P_clashOf (by rw [hN1]; exact l2) he hn (fun hle => ?_) (fun l' r' g1 g2 g3 g4 g5 g6 => ?_)
    · rw [hN1, eS e (Nat.le_refl _)] at hle
      omega
    · rw [hN1] at g3 g4 g5 g6
      obtain ⟨rfl, rfl⟩ := uniq l' r' g1 g2 g3 g4 g5 g6
      unfold P_Mo_clash_22
      refine br_F' ?_ ?_
      · rw [i_eq, i_nI (by omega), i_m1]; omega
      · rw [show (200 : Int32) = nI 200 from rfl, pk_rem (by omega) (by omega) (by omega), pk_div (by omega) (by omega) (by omega), show (200 * l' + r') % 200 = r' by omega, show (200 * l' + r') / 200 = l' by omega]
        exact ⟨hQ1, hQ2⟩
  refine ⟨fun hb => ?_, fun hb => ⟨in01, ?_⟩⟩
  · refine P_earlierOf c1 hfl l1 he hl hk5 (by rw [hf0 l (Nat.le_refl _)]; exact hl1) (by omega) r1 r2 (by rw [hf0 l (Nat.le_refl _)]; exact r3) ⟨in01, ?_⟩
    exact br_F h1 (br_F h3 (br_T h4 (model 0 _ _ rfl (fun _ => fin_ok rfl (hK _ ((h.out _).thrown 0))) (fun q => absurd q hb))))
  · exact br_F h1 (br_F h3 (br_T h4 (model 0 _ _ rfl (fun q => absurd hb q) (fun _ => fin_ok rfl (hK _ ((h.out _).thrown 0))))))
