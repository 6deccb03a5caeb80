/-! the model raises a parting -/
def PD (n : Nat) (A : Nat → Nat → Bool) (p : Nat → Nat → Int) (M : Mem) : Prop := ∀ k j, k < n → j < n → M.1 58 (16 * k + j) = (if A k j then 1 else 0) ∧ (M.2 57 (16 * k + j)).toInt = p k j
def ST (n m : Nat) (A : Nat → Nat → Bool) (p : Nat → Nat → Int) (F : Nat → Option Nat) (M : Mem) : Prop :=
  PD n A p M ∧ (∀ k, k < n → M.1 59 k = if k < m then 1 else 0) ∧ (∀ k, k < n → M.1 53 k = oI (F k)) ∧ (∀ j k, j < n → k < n → F k = some j → M.1 54 j = nI k) ∧ (∀ j, j < n → (∀ k, k < n → F k ≠ some j) → M.1 54 j = -1)
def FR (n : Nat) (f : Nat → Int) (v : Nat → Nat) (M : Mem) : Prop := ∀ j, j < n → (M.2 60 j).toInt = f j ∧ (f j ≠ GRT → M.1 61 j = nI (v j))
theorem ST.congr {n m : Nat} {A : Nat → Nat → Bool} {p : Nat → Nat → Int} {F : Nat → Option Nat} {M N : Mem} (h : ST n m A p F M) (h58 : N.1 58 = M.1 58) (h57 : N.2 57 = M.2 57) (h59 : N.1 59 = M.1 59) (h53 : N.1 53 = M.1 53) (h54 : N.1 54 = M.1 54) : ST n m A p F N := by
  unfold ST PD at h ⊢
  rw [h58, h57, h59, h53, h54]
  exact h
theorem GRT_is : (2305843009213693951 : Int64).toInt = GRT := by decide
theorem ix16 (k j : Nat) : 16 * nI k + nI j = nI (16 * k + j) := by rw [show (16 : Int32) * nI k = nI (16 * k) from pk_mul 16 k, nI_add]
theorem nI_ne1 {k : Nat} (h : k < 2147483648) : ¬ nI k = -1 := by rw [i_eq, i_nI h, i_m1]; omega
section Raise
variable {n m : Nat} {A : Nat → Nat → Bool} {p : Nat → Nat → Int} {l : Int} {F : Nat → Option Nat} {a b : Nat → Int}
/-- the column is not a fixed row's -/
def TT (m : Nat) (F : Nat → Option Nat) (i : Nat) : Prop := ∀ i', i' < m → F i' ≠ some i
theorem P_lowers {k i : Nat} {h : Int64} {f : Nat → Int} {v : Nat → Nat} {M : Mem} {Q : Int32 → Mem → Prop} (st : ST n m A p F M) (fr : FR n f v M) (vF : Val n A F) (hn : n ≤ 16) (hm : m ≤ n) (hp : ∀ k j, k < n → j < n → 0 ≤ p k j ∧ p k j ≤ PMX) (hk : k < n) (hi : i < n) (h0 : 0 ≤ h.toInt) (h1 : h.toInt ≤ GRT)
    (hQ1 : A k i = true → h.toInt + p k i < f i → TT m F i → (h + M.2 57 (16 * k + i)).toInt = h.toInt + p k i → Q 1 (putI (putL M 60 i (h + M.2 57 (16 * k + i))) 61 i (nI k)))
    (hQ0 : (A k i = true → TT m F i → f i ≤ h.toInt + p k i) → Q 0 M) : P_Mo_lowers (nI k) (nI i) h M Q := by
  obtain ⟨pd, s59, s53, s54, s54n⟩ := st
  obtain ⟨d1, d2⟩ := pd k i hk hi
  have pk := hp k i hk hi
  have hs : (h + M.2 57 (16 * k + i)).toInt = h.toInt + p k i := by rw [j_add (by rw [d2]; unfold GRT PMX at *; omega) (by rw [d2]; unfold GRT PMX at *; omega), d2]
  unfold P_Mo_lowers P_Mo_lowers_65
  rw [ix16, cl_nI (n := 16 * k + i) (by omega), cl_nI (n := i) (by omega), d1]
  have v2 : vp_in (nI (16 * k + i)) 256 := in_nI (by omega) (by omega)
  have v1 : vp_in (nI i) 16 := in_nI (by omega) (by omega)
  refine ⟨v2, ?_⟩
  cases hA : A k i
  · exact br_T rfl (hQ0 (fun x => by rw [hA] at x; cases x))
  · refine br_F (by decide) ⟨v1, ?_⟩
    rw [j_lt, hs, (fr i hi).1]
    refine ⟨fun hlt => ?_, fun hlt => hQ0 (fun _ _ => by omega)⟩
    by_cases hex : ∃ k', k' < n ∧ F k' = some i
    · obtain ⟨k', hk', hF⟩ := hex
      rw [s54 i k' hi hk' hF]
      refine br_F (nI_ne1 (by omega)) ⟨in_nI (by omega) (by omega), ?_⟩
      rw [cl_nI (n := k') (by omega), s59 k' hk']
      by_cases hkm : k' < m
      · rw [if_pos hkm]
        exact br_F (by decide) (hQ0 (fun _ hT => absurd hF (hT k' hkm)))
      · rw [if_neg hkm]
        exact br_T rfl ⟨v2, v1, hQ1 hA hlt (fun i' hi' x => by have := vF.2 i' k' i (by omega) hk' x hF; omega) hs⟩
    · rw [s54n i hi (fun k' hk' x => hex ⟨k', hk', x⟩)]
      exact br_T rfl ⟨v2, v1, hQ1 hA hlt (fun i' hi' x => hex ⟨i', by omega, x⟩) hs⟩
def BF (n m : Nat) (A : Nat → Nat → Bool) (p : Nat → Nat → Int) (l : Int) (F : Nat → Option Nat) (b f : Nat → Int) (v : Nat → Nat) (M : Mem) : Prop := ST n m A p F M ∧ FR n f v M ∧ FI n m A p l F b f v
theorem FI_le {f : Nat → Int} {v : Nat → Nat} (h : FI n m A p l F b f v) {j : Nat} (hj : j < n) : f j ≤ GRT := by
  obtain ⟨tm, T, -, h2⟩ := h
  exact (h2 j hj).1
theorem low_step {k i : Nat} {h : Int64} {f : Nat → Int} {v : Nat → Nat} {M : Mem} {Q : Int32 → Mem → Prop} (bf : BF n m A p l F b f v M) (vF : Val n A F) (c : Cert n m A p l F a b) (hn : n ≤ 16) (hm : m ≤ n) (hp : ∀ k j, k < n → j < n → 0 ≤ p k j ∧ p k j ≤ PMX) (hmk : m ≤ k) (hk : k < n) (hi : i < n)
    (src : match F k with | none => h.toInt = 0 | some x => x ≠ i ∧ f x ≠ GRT ∧ h.toInt = f x - p k x)
    (hQ1 : ∀ N f' v', Same [60, 61] M N → BF n m A p l F b f' v' N → (∀ j, f' j ≤ f j) → f' i ≤ h.toInt + p k i → sz f' n < sz f n → Q 1 N)
    (hQ0 : (A k i = true → TT m F i → f i ≤ h.toInt + p k i) → Q 0 M) : P_Mo_lowers (nI k) (nI i) h M Q := by
  obtain ⟨st, fr, fi⟩ := bf
  have ca := c.1 k hk
  have fi' := fi
  obtain ⟨tm, T, -, fj⟩ := fi'
  have hh : 0 ≤ h.toInt ∧ h.toInt ≤ GRT := by
    cases hz : F k with
    | none =>
      rw [hz] at src
      have src : h.toInt = 0 := src
      unfold GRT; omega
    | some x =>
      rw [hz] at src
      obtain ⟨-, x2, x3⟩ := src
      have hx := (vF.1 k x hk hz).2
      have he := cert_eq c hk (by rw [cut_ge hmk]; exact hz)
      have := ((fj x hx).2 x2).2.2.1
      have := (fj x hx).1
      have := hp k x hk hx
      omega
  refine P_lowers st fr vF hn hm hp hk hi hh.1 hh.2 (fun hA hlt hT hs => ?_) hQ0
  have hr := c.2.2.1 k i hmk hk hi hA hT
  have hne : F k ≠ some i := fun x => by
    rw [x] at src
    exact src.1 rfl
  have up : FI n m A p l F b (uz f i (h.toInt + p k i)) (un v i k) := by
    refine FI_upd vF.2 fi hp hi hk hmk hA hT hne hlt ?_ ?_
    · cases hz : F k with
      | none =>
        rw [hz] at src
        have src : h.toInt = 0 := src
        have ha := cert_a0 c hk (by rw [cut_ge hmk]; exact hz)
        omega
      | some x =>
        rw [hz] at src
        obtain ⟨-, x2, x3⟩ := src
        have hx := (vF.1 k x hk hz).2
        have he := cert_eq c hk (by rw [cut_ge hmk]; exact hz)
        have := ((fj x hx).2 x2).2.2.1
        omega
    · cases hz : F k with
      | none =>
        rw [hz] at src
        have src : h.toInt = 0 := src
        show h.toInt + p k i = p k i
        omega
      | some x =>
        rw [hz] at src
        obtain ⟨-, x2, x3⟩ := src
        have hx := (vF.1 k x hk hz).2
        have he := cert_eq c hk (by rw [cut_ge hmk]; exact hz)
        exact ⟨hx, x2, by omega, by omega⟩
  have s1 : Same [60, 61] M (putI (putL M 60 i (h + M.2 57 (16 * k + i))) 61 i (nI k)) := ((Same.refl _ _).putL (by simp)).putI (by simp)
  refine hQ1 _ _ _ s1 ⟨st.congr rfl rfl rfl rfl rfl, fun j hj => ?_, up⟩ (fun j => ?_) (by unfold uz; rw [if_pos rfl]; exact Int.le_refl _) ?_
  · unfold uz un
    by_cases hji : j = i
    · subst hji
      rw [if_pos rfl, if_pos rfl, putI_same]
      refine ⟨?_, fun _ => rfl⟩
      show ((putL M 60 j (h + M.2 57 (16 * k + j))).2 60 j).toInt = _
      rw [putL_at, if_pos ⟨rfl, rfl⟩]; exact hs
    · rw [if_neg hji, if_neg hji]
      refine ⟨?_, fun hg => ?_⟩
      · show ((putL M 60 i (h + M.2 57 (16 * k + i))).2 60 j).toInt = _
        rw [putL_at, if_neg (fun x => hji x.2)]
        exact (fr j hj).1
      · rw [putI_at, if_neg (fun x => hji x.2)]
        exact (fr j hj).2 hg
  · unfold uz
    by_cases hji : j = i
    · rw [if_pos hji, hji]; omega
    · rw [if_neg hji]; exact Int.le_refl _
  · rw [sz_uz hi]; omega
/-! the free rows begin -/
def Ph1 (n m : Nat) (A : Nat → Nat → Bool) (p : Nat → Nat → Int) (F : Nat → Option Nat) (K : Nat) (f : Nat → Int) : Prop := ∀ k i, m ≤ k → k < K → i < n → F k = none → A k i = true → TT m F i → f i ≤ p k i
theorem P_r71 {k : Nat} {f : Nat → Int} {v : Nat → Nat} {M : Mem} {Q : Int32 → Mem → Prop} {K38 : Int32 → Int64 → Int32 → Mem → Prop} {G : Int64} (bf : BF n m A p l F b f v M) (vF : Val n A F) (c : Cert n m A p l F a b) (hn : n ≤ 16) (hm : m ≤ n) (hp : ∀ k j, k < n → j < n → 0 ≤ p k j ∧ p k j ≤ PMX) (hmk : m ≤ k) (hk : k < n) (hF : F k = none) (ph : Ph1 n m A p F k f)
    (hK : ∀ N f' v', Same [60, 61] M N → BF n m A p l F b f' v' N → Ph1 n m A p F (k + 1) f' → K38 (nI n) G (nI (k + 1)) N) : ∃ q, P_Mo_raises_71 K38 Q q (nI n) G (nI k) 0 M := by
  have key : ∀ d i, i + d = n → ∀ N f v, Same [60, 61] M N → BF n m A p l F b f v N → Ph1 n m A p F k f → (∀ i', i' < i → A k i' = true → TT m F i' → f i' ≤ p k i') → P_Mo_raises_71 K38 Q (d + 1) (nI n) G (nI k) (nI i) N := by
    intro d
    induction d with
    | zero =>
      intro i hi N f v sN bf ph hd
      have : i = n := by omega
      subst this
      unfold P_Mo_raises_71
      rw [nI_1 k]
      refine br_T (nI_le (by omega) (by omega)) (hK N f v sN bf (fun k' i' h1 h2 h3 h4 h5 h6 => ?_))
      by_cases hkk : k' = k
      · subst hkk; exact hd i' h3 h5 h6
      · exact ph k' i' h1 (by omega) h3 h4 h5 h6
    | succ d ih =>
      intro i hi N f v sN bf ph hd
      unfold P_Mo_raises_71
      rw [nI_1 i]
      refine br_F (nI_ge (by omega) (by omega)) (low_step bf vF c hn hm hp hmk hk (by omega) (by rw [hF]; show (0 : Int64).toInt = 0; decide) (fun N' f' v' s' bf' hle hli hlt => ?_) (fun h0 => ?_))
      · refine ih (i + 1) (by omega) N' f' v' (sN.trans s') bf' (fun k' i' h1 h2 h3 h4 h5 h6 => ?_) (fun i' hi' h5 h6 => ?_)
        · have := ph k' i' h1 h2 h3 h4 h5 h6
          have := hle i'
          omega
        · have := hle i'
          by_cases hii : i' = i
          · subst hii
            rw [show (0 : Int64).toInt = 0 by decide] at hli
            omega
          · have := hd i' (by omega) h5 h6
            omega
      · refine ih (i + 1) (by omega) N f v sN bf ph (fun i' hi' h5 h6 => ?_)
        by_cases hii : i' = i
        · subst hii
          have := h0 h5 h6
          rw [show (0 : Int64).toInt = 0 by decide] at this
          omega
        · exact hd i' (by omega) h5 h6
  exact ⟨n + 1, key n 0 (by omega) M f v (Same.refl _ _) bf ph (fun i' hi' => absurd hi' (Nat.not_lt_zero _))⟩
theorem P_r38 {f : Nat → Int} {v : Nat → Nat} {M : Mem} {Q : Int32 → Mem → Prop} {G : Int64} (bf : BF n m A p l F b f v M) (vF : Val n A F) (c : Cert n m A p l F a b) (hn : n ≤ 16) (hm : m ≤ n) (hp : ∀ k j, k < n → j < n → 0 ≤ p k j ∧ p k j ≤ PMX)
    (hK : ∀ N f' v', Same [60, 61] M N → BF n m A p l F b f' v' N → Ph1 n m A p F n f' → ∃ q, P_Mo_raises_102 Q q (nI n) G 1 N) : ∃ q, P_Mo_raises_38 Q q (nI n) G 0 M := by
  have key : ∀ d k, k + d = n → ∀ N f v, Same [60, 61] M N → BF n m A p l F b f v N → Ph1 n m A p F k f → P_Mo_raises_38 Q (d + 1) (nI n) G (nI k) N := by
    intro d
    induction d with
    | zero =>
      intro k hk N f v sN bf ph
      have : k = n := by omega
      subst this
      unfold P_Mo_raises_38
      exact br_T (nI_le (by omega) (by omega)) (hK N f v sN bf ph)
    | succ d ih =>
      intro k hk N f v sN bf ph
      have hkn : k < n := by omega
      unfold P_Mo_raises_38
      rw [nI_1 k, cl_nI (n := k) (by omega), bf.1.2.1 k hkn, bf.1.2.2.1 k hkn]
      refine br_F (nI_ge (by omega) (by omega)) ⟨in_nI (by omega) (by omega), ?_⟩
      by_cases hkm : k < m
      · rw [if_pos hkm]
        exact br_F' (by decide) (ih (k + 1) (by omega) N f v sN bf (fun k' i' h1 h2 => ph k' i' h1 (by omega)))
      · rw [if_neg hkm]
        refine br_T' rfl ?_
        cases hz : F k with
        | none =>
          refine br_T rfl (P_r71 bf vF c hn hm hp (by omega) hkn hz ph (fun N' f' v' s' bf' ph' => ih (k + 1) (by omega) N' f' v' (sN.trans s') bf' ph'))
        | some x =>
          have hx := (vF.1 k x hkn hz).2
          refine br_F (nI_ne1 (by omega)) (ih (k + 1) (by omega) N f v sN bf (fun k' i' h1 h2 h3 h4 => ?_))
          by_cases hkk : k' = k
          · rw [hkk, hz] at h4; cases h4
          · exact ph k' i' h1 (by omega) h3 h4
  exact ⟨n + 1, key n 0 (by omega) M f v (Same.refl _ _) bf (fun k' i' h1 h2 => absurd h2 (Nat.not_lt_zero _))⟩
theorem P_r7 {M : Mem} {Q : Int32 → Mem → Prop} (st : ST n m A p F M) (hn : n ≤ 16)
    (hK : ∀ N f' v', Same [60, 61] M N → BF n m A p l F b f' v' N → ∃ q, P_Mo_raises_38 Q q (nI n) 2305843009213693951 0 N) : P_Mo_raises (nI n) M Q := by
  have key : ∀ d j, j + d = n → ∀ N, Same [60, 61] M N → (∀ i, i < j → (N.2 60 i).toInt = GRT) → P_Mo_raises_7 Q (d + 1) (nI n) 2305843009213693951 (nI j) N := by
    intro d
    induction d with
    | zero =>
      intro j hj N sN hN
      have : j = n := by omega
      subst this
      unfold P_Mo_raises_7
      refine br_T (nI_le (by omega) (by omega)) (hK N (fun _ => GRT) (fun _ => 0) sN ⟨st.congr (sN 58 (by decide)).1 (sN 57 (by decide)).2 (sN 59 (by decide)).1 (sN 53 (by decide)).1 (sN 54 (by decide)).1, fun i hi => ⟨hN i hi, fun x => absurd rfl x⟩, fun _ => 0, 1, fun _ => Nat.one_pos, fun i hi => ⟨Int.le_refl _, fun x => absurd rfl x⟩⟩)
    | succ d ih =>
      intro j hj N sN hN
      unfold P_Mo_raises_7
      rw [nI_1 j, cl_nI (n := j) (by omega)]
      refine br_F (nI_ge (by omega) (by omega)) ⟨in_nI (by omega) (by omega), ih (j + 1) (by omega) _ ((sN.putL (by simp)).putI (by simp)) (fun i hi => ?_)⟩
      show ((putL N 60 j 2305843009213693951).2 60 i).toInt = GRT
      rw [putL_at]
      by_cases hij : i = j
      · rw [if_pos ⟨rfl, hij⟩]; exact GRT_is
      · rw [if_neg (fun x => hij x.2)]; exact hN i (by omega)
  unfold P_Mo_raises
  exact ⟨n + 1, key n 0 (by omega) M (Same.refl _ _) (fun i hi => absurd hi (Nat.not_lt_zero _))⟩
/-! a pass over all columns -/
def FPx (n m : Nat) (A : Nat → Nat → Bool) (p : Nat → Nat → Int) (F : Nat → Option Nat) (f : Nat → Int) (x I : Nat) : Prop := ∀ k, m ≤ k → k < n → F k = some x → f x ≠ GRT → ∀ i, i < I → i ≠ x → A k i = true → TT m F i → f i ≤ f x - p k x + p k i
/-- nothing was lowered yet, or the sum has fallen -/
def Flg (n : Nat) (f0 f : Nat → Int) (g : Int32) (P : Prop) : Prop := (g = 0 ∧ f = f0 ∧ P) ∨ (g = 1 ∧ sz f n < sz f0 n)
theorem P_r162 {x k : Nat} {g : Int32} {f0 f : Nat → Int} {v : Nat → Nat} {M : Mem} {Q : Int32 → Mem → Prop} {K102 : Int32 → Int64 → Int32 → Mem → Prop} {K113 : Int32 → Int64 → Int32 → Int32 → Mem → Prop} {G : Int64} (bf : BF n m A p l F b f v M) (vF : Val n A F) (c : Cert n m A p l F a b) (hn : n ≤ 16) (hm : m ≤ n) (hp : ∀ k j, k < n → j < n → 0 ≤ p k j ∧ p k j ≤ PMX) (hmk : m ≤ k) (hk : k < n) (hx : x < n) (hF : F k = some x) (hg : f x ≠ GRT) (ph : Ph1 n m A p F n f) (fl : Flg n f0 f g (∀ x', x' < x → FPx n m A p F f0 x' n))
    (hK : ∀ N f' v' g', Same [60, 61] M N → BF n m A p l F b f' v' N → Ph1 n m A p F n f' → Flg n f0 f' g' (∀ x', x' < x + 1 → FPx n m A p F f0 x' n) → K113 (nI n) G g' (nI (x + 1)) N) : ∃ q, P_Mo_raises_162 K102 K113 Q q (nI n) G g (nI x) (nI k) 0 M := by
  have key : ∀ d i, i + d = n → ∀ N f v g, Same [60, 61] M N → BF n m A p l F b f v N → f x ≠ GRT → Ph1 n m A p F n f → Flg n f0 f g ((∀ x', x' < x → FPx n m A p F f0 x' n) ∧ FPx n m A p F f0 x i) → P_Mo_raises_162 K102 K113 Q (d + 1) (nI n) G g (nI x) (nI k) (nI i) N := by
    intro d
    induction d with
    | zero =>
      intro i hi N f v g sN bf hg ph fl
      have : i = n := by omega
      subst this
      unfold P_Mo_raises_162
      rw [nI_1 x]
      refine br_T (nI_le (by omega) (by omega)) (hK N f v g sN bf ph ?_)
      rcases fl with ⟨g1, g2, g3, g4⟩ | ⟨g1, g2⟩
      · refine Or.inl ⟨g1, g2, fun x' hx' => ?_⟩
        by_cases hxx : x' = x
        · rw [hxx]; exact g4
        · exact g3 x' (by omega)
      · exact Or.inr ⟨g1, g2⟩
    | succ d ih =>
      intro i hi N f v g sN bf hg ph fl
      unfold P_Mo_raises_162
      have ns : n ≤ 16 := hn
      rw [nI_1 i, ix16, cl_nI (n := x) (by omega), cl_nI (n := 16 * k + x) (by omega)]
      refine br_F (nI_ge (by omega) (by omega)) ⟨fun hix => ?_, fun hix => ?_⟩
      · have hix : i = x := (nI_eq (by omega) (by omega)).mp hix
        refine ih (i + 1) (by omega) N f v g sN bf hg ph ?_
        rcases fl with ⟨g1, g2, g3, g4⟩ | ⟨g1, g2⟩
        · refine Or.inl ⟨g1, g2, g3, fun k' h1 h2 h3 h4 i' h5 h6 h7 h8 => g4 k' h1 h2 h3 h4 i' (by omega) h6 h7 h8⟩
        · exact Or.inr ⟨g1, g2⟩
      · have hix : i ≠ x := fun e => hix (by rw [e])
        have e60 := (bf.2.1 x hx).1
        have e57 := (bf.1.1 k x hk hx).2
        have hpx := hp k x hk hx
        have hle := FI_le bf.2.2 hx
        have hge : l - b x ≤ f x := by
          obtain ⟨tm, T, -, fj⟩ := bf.2.2
          exact ((fj x hx).2 hg).2.2.1
        have he := cert_eq c hk (by rw [cut_ge hmk]; exact hF)
        have hak := c.1 k hk
        have hs : (N.2 60 x - N.2 57 (16 * k + x)).toInt = f x - p k x := by rw [j_sub (by rw [e60, e57]; unfold GRT PMX at *; omega) (by rw [e60, e57]; unfold GRT PMX at *; omega), e60, e57]
        refine ⟨in_nI (by omega) (by omega), in_nI (by omega) (by omega), low_step bf vF c hn hm hp hmk hk (by omega) (by rw [hF]; exact ⟨fun e => hix e.symm, hg, hs⟩) (fun N' f' v' s' bf' hle' hli hlt => br_F (by decide) ?_) (fun h0 => br_T rfl ?_)⟩
        · have hx' : f' x ≠ GRT := by
            have := hle' x
            omega
          refine ih (i + 1) (by omega) N' f' v' 1 (sN.trans s') bf' hx' (fun k' i' h1 h2 h3 h4 h5 h6 => ?_) (Or.inr ⟨rfl, ?_⟩)
          · have := ph k' i' h1 h2 h3 h4 h5 h6
            have := hle' i'
            omega
          · rcases fl with ⟨-, g2, -⟩ | ⟨-, g2⟩
            · rw [← g2]; exact hlt
            · omega
        · refine ih (i + 1) (by omega) N f v g sN bf hg ph ?_
          rcases fl with ⟨g1, g2, g3, g4⟩ | ⟨g1, g2⟩
          · refine Or.inl ⟨g1, g2, g3, fun k' h1 h2 h3 h4 i' h5 h6 h7 h8 => ?_⟩
            by_cases hii : i' = i
            · have hkk : k' = k := vF.2 k' k x h2 hk h3 hF
              subst hkk hii
              have := h0 h7 h8
              rw [hs] at this
              rw [← g2]
              exact this
            · exact g4 k' h1 h2 h3 h4 i' (by omega) h6 h7 h8
          · exact Or.inr ⟨g1, g2⟩
  refine ⟨n + 1, key n 0 (by omega) M f v g (Same.refl _ _) bf hg ph ?_⟩
  rcases fl with ⟨g1, g2, g3⟩ | ⟨g1, g2⟩
  · exact Or.inl ⟨g1, g2, g3, fun k' _ _ _ _ i' h5 => absurd h5 (Nat.not_lt_zero _)⟩
  · exact Or.inr ⟨g1, g2⟩
theorem P_r113 {f0 : Nat → Int} {v : Nat → Nat} {M : Mem} {Q : Int32 → Mem → Prop} {K102 : Int32 → Int64 → Int32 → Mem → Prop} (bf : BF n m A p l F b f0 v M) (vF : Val n A F) (c : Cert n m A p l F a b) (hn : n ≤ 16) (hm : m ≤ n) (hp : ∀ k j, k < n → j < n → 0 ≤ p k j ∧ p k j ≤ PMX) (ph : Ph1 n m A p F n f0)
    (hK : ∀ N f' v' g', Same [60, 61] M N → BF n m A p l F b f' v' N → Ph1 n m A p F n f' → Flg n f0 f' g' (∀ x', x' < n → FPx n m A p F f0 x' n) → K102 (nI n) 2305843009213693951 g' N) : ∃ q, P_Mo_raises_113 K102 Q q (nI n) 2305843009213693951 0 0 M := by
  have key : ∀ d x, x + d = n → ∀ N f v g, Same [60, 61] M N → BF n m A p l F b f v N → Ph1 n m A p F n f → Flg n f0 f g (∀ x', x' < x → FPx n m A p F f0 x' n) → P_Mo_raises_113 K102 Q (d + 1) (nI n) 2305843009213693951 g (nI x) N := by
    intro d
    induction d with
    | zero =>
      intro x hx N f v g sN bf ph fl
      have : x = n := by omega
      subst this
      unfold P_Mo_raises_113
      exact br_T (nI_le (by omega) (by omega)) (hK N f v g sN bf ph fl)
    | succ d ih =>
      intro x hx N f v g sN bf ph fl
      have hxn : x < n := by omega
      unfold P_Mo_raises_113
      rw [nI_1 x, cl_nI (n := x) (by omega), j_eq, (bf.2.1 x hxn).1, GRT_is]
      have skip : (∀ k, m ≤ k → k < n → F k = some x → f x = GRT) → P_Mo_raises_113 K102 Q (d + 1) (nI n) 2305843009213693951 g (nI (x + 1)) N := fun hsk => by
        refine ih (x + 1) (by omega) N f v g sN bf ph ?_
        rcases fl with ⟨g1, g2, g3⟩ | ⟨g1, g2⟩
        · refine Or.inl ⟨g1, g2, fun x' hx' => ?_⟩
          by_cases hxx : x' = x
          · subst hxx
            exact fun k h1 h2 h3 h4 => absurd (by rw [← g2]; exact hsk k h1 h2 h3) h4
          · exact g3 x' (by omega)
        · exact Or.inr ⟨g1, g2⟩
      refine br_F (nI_ge (by omega) (by omega)) ⟨in_nI (by omega) (by omega), fun hg => skip (fun _ _ _ _ => hg), fun hg => ?_⟩
      by_cases hex : ∃ k', k' < n ∧ F k' = some x
      · obtain ⟨k', hk', hF⟩ := hex
        rw [bf.1.2.2.2.1 x k' hxn hk' hF]
        refine br_F (nI_ne1 (by omega)) ⟨in_nI (by omega) (by omega), ?_⟩
        rw [cl_nI (n := k') (by omega), bf.1.2.1 k' hk']
        by_cases hkm : k' < m
        · rw [if_pos hkm]
          exact br_F (by decide) (skip (fun k h1 h2 h3 => by have := vF.2 k k' x h2 hk' h3 hF; omega))
        · rw [if_neg hkm]
          exact br_T rfl (P_r162 bf vF c hn hm hp (by omega) hk' hxn hF hg ph fl (fun N' f' v' g' s' bf' ph' fl' => ih (x + 1) (by omega) N' f' v' g' (sN.trans s') bf' ph' fl'))
      · rw [bf.1.2.2.2.2 x hxn (fun k' hk' e => hex ⟨k', hk', e⟩)]
        exact br_T rfl (skip (fun k h1 h2 h3 => absurd ⟨k, h2, h3⟩ hex))
  exact ⟨n + 1, key n 0 (by omega) M f0 v 0 (Same.refl _ _) bf ph (Or.inl ⟨rfl, rfl, fun x' hx' => absurd hx' (Nat.not_lt_zero _)⟩)⟩
theorem FI_nn {f : Nat → Int} {v : Nat → Nat} (c : Cert n m A p l F a b) (vF : Val n A F) (hp : ∀ k j, k < n → j < n → 0 ≤ p k j ∧ p k j ≤ PMX) (hl0 : 0 ≤ l) (h : FI n m A p l F b f v) {j : Nat} (hj : j < n) : 0 ≤ f j := by
  obtain ⟨tm, T, -, fj⟩ := h
  by_cases hg : f j = GRT
  · rw [hg]; unfold GRT; omega
  · have h1 := ((fj j hj).2 hg).2.2.1
    by_cases hex : ∃ k, k < n ∧ cut m F k = some j
    · obtain ⟨k, hk, hz⟩ := hex
      have he := cert_eq c hk hz
      have := c.1 k hk
      have := hp k j hk hj
      omega
    · have := c.2.2.2.2 j hj (fun k hk e => hex ⟨k, hk, e⟩)
      omega
theorem P_r102 {f : Nat → Int} {v : Nat → Nat} {M : Mem} {Q : Int32 → Mem → Prop} (bf : BF n m A p l F b f v M) (vF : Val n A F) (c : Cert n m A p l F a b) (hn : n ≤ 16) (hm : m ≤ n) (hp : ∀ k j, k < n → j < n → 0 ≤ p k j ∧ p k j ≤ PMX) (hl0 : 0 ≤ l) (ph : Ph1 n m A p F n f)
    (hK : ∀ N f' v', Same [60, 61] M N → BF n m A p l F b f' v' N → Fix n m A p F f' → ∃ q, P_Mo_raises_231 Q q (nI n) 2305843009213693951 (-1) 0 N) : ∃ q, P_Mo_raises_102 Q q (nI n) 2305843009213693951 1 M := by
  have done : ∀ q N f v, Same [60, 61] M N → BF n m A p l F b f v N → Ph1 n m A p F n f → (∀ x', x' < n → FPx n m A p F f x' n) → P_Mo_raises_102 Q (q + 1) (nI n) 2305843009213693951 0 N := fun q N f v sN bf ph fp => by
    unfold P_Mo_raises_102
    exact br_T rfl (hK N f v sN bf ⟨fun k i h1 h2 h3 h4 h5 h6 => ph k i h1 h2 h3 h4 h5 h6, fun k x i h1 h2 h3 h4 h5 h6 h7 h8 h9 => fp x h3 k h1 h2 h5 h6 i h4 h7 h8 h9⟩)
  have key : ∀ W : Nat, ∀ N f v, Same [60, 61] M N → BF n m A p l F b f v N → Ph1 n m A p F n f → (sz f n).toNat ≤ W → P_Mo_raises_102 Q (W + 2) (nI n) 2305843009213693951 1 N := by
    intro W
    induction W with
    | zero =>
      intro N f v sN bf ph hW
      unfold P_Mo_raises_102
      refine br_F (by decide) (P_r113 bf vF c hn hm hp ph (fun N' f' v' g' s' bf' ph' fl => ?_))
      rcases fl with ⟨g1, g2, g3⟩ | ⟨g1, g2⟩
      · rw [g1]
        exact done 0 N' f' v' (sN.trans s') bf' ph' (by rw [g2]; exact g3)
      · have := sz_le (f := fun _ => 0) (g := f') (n := n) (fun j hj => FI_nn c vF hp hl0 bf'.2.2 hj)
        rw [sz_zero (fun _ _ => rfl)] at this
        omega
    | succ W ih =>
      intro N f v sN bf ph hW
      unfold P_Mo_raises_102
      refine br_F (by decide) (P_r113 bf vF c hn hm hp ph (fun N' f' v' g' s' bf' ph' fl => ?_))
      rcases fl with ⟨g1, g2, g3⟩ | ⟨g1, g2⟩
      · rw [g1]
        exact done (W + 1) N' f' v' (sN.trans s') bf' ph' (by rw [g2]; exact g3)
      · rw [g1]
        have := sz_le (f := fun _ => 0) (g := f') (n := n) (fun j hj => FI_nn c vF hp hl0 bf'.2.2 hj)
        rw [sz_zero (fun _ _ => rfl)] at this
        exact ih N' f' v' (sN.trans s') bf' ph' (by omega)
  exact ⟨_, key (sz f n).toNat M f v (Same.refl _ _) bf ph (Nat.le_refl _)⟩
/-! the nearest free column -/
def FC (n : Nat) (F : Nat → Option Nat) (j : Nat) : Prop := ∀ k, k < n → F k ≠ some j
theorem P_r231 {f : Nat → Int} {v : Nat → Nat} {M : Mem} {Q : Int32 → Mem → Prop} (bf : BF n m A p l F b f v M) (hn : n ≤ 16)
    (h0 : (∀ j, j < n → FC n F j → f j = GRT) → Q 0 M)
    (h1 : ∀ y, y < n → FC n F y → f y ≠ GRT → (∀ j, j < n → FC n F j → f y ≤ f j) → ∃ q, P_Mo_raises_332 Q q (nI y) (putI (putL M 35 39 (M.2 35 39 + M.2 60 y)) 35 40 (M.1 35 40 + 1))) : ∃ q, P_Mo_raises_231 Q q (nI n) 2305843009213693951 (-1) 0 M := by
  have key : ∀ d j, j + d = n → ∀ o : Option Nat, (match o with | none => ∀ j', j' < j → FC n F j' → f j' = GRT | some y => y < j ∧ FC n F y ∧ f y ≠ GRT ∧ ∀ j', j' < j → FC n F j' → f y ≤ f j') → P_Mo_raises_231 Q (d + 1) (nI n) 2305843009213693951 (oI o) (nI j) M := by
    intro d
    induction d with
    | zero =>
      intro j hj o ho
      have : j = n := by omega
      subst this
      unfold P_Mo_raises_231
      refine br_T (nI_le (by omega) (by omega)) ?_
      cases o with
      | none => exact br_T' rfl (h0 ho)
      | some y =>
        obtain ⟨y1, y2, y3, y4⟩ := ho
        refine br_F' (nI_ne1 (by omega)) ⟨in_nI (by omega) (by omega), ?_⟩
        show ∃ q, P_Mo_raises_332 Q q (nI y) (putI (putL M 35 39 (M.2 35 39 + M.2 60 (nI y).toNatClampNeg)) 35 40 (M.1 35 40 + 1))
        rw [cl_nI (n := y) (by omega)]
        exact h1 y y1 y2 y3 y4
    | succ d ih =>
      intro j hj o ho
      have hjn : j < n := by omega
      unfold P_Mo_raises_231
      rw [nI_1 j, cl_nI (n := j) (by omega)]
      have eg : (2305843009213693951 : Int64) ≤ M.2 60 j ↔ GRT ≤ f j := by rw [j_le, GRT_is, (bf.2.1 j hjn).1]
      have hle := FI_le bf.2.2 hjn
      have keep : (FC n F j → f j = GRT) → P_Mo_raises_231 Q (d + 1) (nI n) 2305843009213693951 (oI o) (nI (j + 1)) M := fun hc => by
        refine ih (j + 1) (by omega) o ?_
        cases o with
        | none =>
          exact fun j' hj' hf => by
            by_cases hjj : j' = j
            · subst hjj; exact hc hf
            · exact ho j' (by omega) hf
        | some y =>
          obtain ⟨y1, y2, y3, y4⟩ := ho
          refine ⟨by omega, y2, y3, fun j' hj' hf => ?_⟩
          by_cases hjj : j' = j
          · subst hjj
            rw [hc hf]
            exact FI_le bf.2.2 (by omega)
          · exact y4 j' (by omega) hf
      refine br_F (nI_ge (by omega) (by omega)) ⟨in_nI (by omega) (by omega), ?_⟩
      by_cases hex : ∃ k', k' < n ∧ F k' = some j
      · obtain ⟨k', hk', hF⟩ := hex
        rw [bf.1.2.2.2.1 j k' hjn hk' hF]
        exact br_F' (nI_ne1 (by omega)) (keep (fun hc => absurd hF (hc k' hk')))
      · have hfc : FC n F j := fun k' hk' e => hex ⟨k', hk', e⟩
        rw [bf.1.2.2.2.2 j hjn hfc]
        refine br_T' rfl ⟨fun hg => keep (fun _ => by have := eg.mp hg; omega), fun hg => ?_⟩
        have hg' : f j ≠ GRT := fun e => hg (eg.mpr (by omega))
        cases o with
        | none =>
          refine br_T rfl (ih (j + 1) (by omega) (some j) ⟨by omega, hfc, hg', fun j' hj' hf => ?_⟩)
          by_cases hjj : j' = j
          · subst hjj; exact Int.le_refl _
          · rw [ho j' (by omega) hf]; exact hle
        | some y =>
          obtain ⟨y1, y2, y3, y4⟩ := ho
          refine br_F (nI_ne1 (by omega)) ⟨in_nI (by omega) (by omega), ?_⟩
          show (M.2 60 (nI y).toNatClampNeg ≤ M.2 60 j → _) ∧ (¬ M.2 60 (nI y).toNatClampNeg ≤ M.2 60 j → _)
          rw [cl_nI (n := y) (by omega), j_le, (bf.2.1 y (by omega)).1, (bf.2.1 j hjn).1]
          refine ⟨fun hc => ih (j + 1) (by omega) (some y) ⟨by omega, y2, y3, fun j' hj' hf => ?_⟩, fun hc => ih (j + 1) (by omega) (some j) ⟨by omega, hfc, hg', fun j' hj' hf => ?_⟩⟩
          · by_cases hjj : j' = j
            · subst hjj; exact hc
            · exact y4 j' (by omega) hf
          · by_cases hjj : j' = j
            · subst hjj; exact Int.le_refl _
            · have := y4 j' (by omega) hf
              omega
  exact ⟨n + 1, key n 0 (by omega) none (fun j' hj' => absurd hj' (Nat.not_lt_zero _))⟩
end Raise
