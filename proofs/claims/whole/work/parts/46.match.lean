/-! the class' matching: rows and columns, and a chain that moves on -/
theorem php : ∀ (N K : Nat) (f : Nat → Nat), (∀ i, i < N → f i < K) → (∀ i j, i < N → j < N → f i = f j → i = j) → N ≤ K := by
  intro N
  induction N with
  | zero => intro K _ _ _; omega
  | succ N ih =>
    intro K f h1 h2
    have hN := h1 N (by omega)
    have := ih (K - 1) (fun i => if f i = K - 1 then f N else f i) (fun i hi => by
      have a := h1 i (by omega)
      by_cases e : f i = K - 1
      · rw [if_pos e]
        have : f N ≠ f i := fun x => by have := h2 N i (by omega) (by omega) x; omega
        omega
      · rw [if_neg e]; omega) (fun i j hi hj e => by
      by_cases e1 : f i = K - 1
      · rw [if_pos e1] at e
        by_cases e2 : f j = K - 1
        · exact h2 i j (by omega) (by omega) (by omega)
        · rw [if_neg e2] at e
          have := h2 N j (by omega) (by omega) e
          omega
      · rw [if_neg e1] at e
        by_cases e2 : f j = K - 1
        · rw [if_pos e2] at e
          have := h2 i N (by omega) (by omega) e
          omega
        · rw [if_neg e2] at e
          exact h2 i j (by omega) (by omega) e)
    omega
def FORB : Int := 1125899906842624
/-- the price of a column for a row -/
def wp (n : Nat) (A : Nat → Nat → Bool) (p : Nat → Nat → Int) (r c : Nat) : Int := if r < n then (if c < n then (if A r c then p r c else FORB) else BIG) else 0
def PM (n : Nat) (A : Nat → Nat → Bool) (p : Nat → Nat → Int) (M : Mem) : Prop := M.1 21 9 = nI n ∧ M.1 21 10 = nI (2 * n) ∧ ∀ k j, k < n → j < n → (M.2 22 (16 * k + j)).toInt = if A k j then p k j else FORB
theorem PM.congr {n : Nat} {A : Nat → Nat → Bool} {p : Nat → Nat → Int} {M N : Mem} (h : PM n A p M) (h1 : N.1 21 = M.1 21) (h2 : N.2 22 = M.2 22) : PM n A p N := by
  unfold PM at h ⊢
  rw [h1, h2]
  exact h
def MOk (n : Nat) (R C : Nat → Option Nat) : Prop := (∀ c r, c < 2 * n → R c = some r → r < 2 * n ∧ C r = some c) ∧ (∀ r c, r < 2 * n → C r = some c → c < 2 * n ∧ R c = some r)
theorem ALONE_is : (1099511627776 : Int64).toInt = BIG := by decide
theorem FORB_is : (1125899906842624 : Int64).toInt = FORB := by decide
section Mat
variable {n : Nat} {A : Nat → Nat → Bool} {p : Nat → Nat → Int}
theorem P_isCol {c : Nat} {M : Mem} {Q : Int32 → Mem → Prop} (h : M.1 21 10 = nI (2 * n)) (hn : n ≤ 16) (hc : c < 2 * n) (hQ : Q 1 M) : P_Matching_isColumn (nI c) M Q := by
  unfold P_Matching_isColumn
  rw [h]
  exact br_F (nI_pos (by omega)) (br_F (nI_ge (by omega) (by omega)) hQ)
theorem P_noCol {M : Mem} {Q : Int32 → Mem → Prop} (hQ : Q 0 M) : P_Matching_isColumn (-1) M Q := by
  unfold P_Matching_isColumn
  exact br_T (by decide) hQ
theorem P_isPos {c : Nat} {M : Mem} {Q : Int32 → Mem → Prop} (h : M.1 21 9 = nI n) (hn : n ≤ 16) (hc : c < 2 * n) (h1 : c < n → Q 1 M) (h0 : ¬ c < n → Q 0 M) : P_Matching_isPosition (nI c) M Q := by
  unfold P_Matching_isPosition
  rw [h]
  refine br_F (nI_pos (by omega)) ⟨fun hl => h0 ?_, fun hl => h1 ?_⟩
  · have := (nle_of (by omega) (by omega)).mp hl
    omega
  · rcases Nat.lt_or_ge c n with z | z
    · exact z
    · exact absurd ((nle_of (by omega) (by omega)).mpr z) hl
theorem P_noPos {M : Mem} {Q : Int32 → Mem → Prop} (hQ : Q 0 M) : P_Matching_isPosition (-1) M Q := by
  unfold P_Matching_isPosition
  exact br_T (by decide) hQ
theorem P_price {r c : Nat} {M : Mem} {Q : Int64 → Mem → Prop} (h : PM n A p M) (hn : n ≤ 16) (hr : r < 2 * n) (hc : c < 2 * n) (hQ : ∀ x : Int64, x.toInt = wp n A p r c → Q x M) : P_Matching_price (nI r) (nI c) M Q := by
  unfold P_Matching_price
  obtain ⟨h1, h2, h3⟩ := h
  unfold wp at hQ
  rw [h1, show nI r * 16 = nI (16 * r) by rw [show (16 : Int32) = nI 16 from rfl, pk_mul, Nat.mul_comm], nI_add]
  refine ⟨fun hl => ⟨fun hc2 => hQ _ ?_, fun hc2 => ?_⟩, fun hl => hQ _ ?_⟩
  · have hl := (nlt_of (by omega) (by omega)).mp hl
    have hc2 := (nle_of (by omega) (by omega)).mp hc2
    rw [if_pos hl, if_neg (by omega)]
    exact ALONE_is
  · have hl := (nlt_of (by omega) (by omega)).mp hl
    have hc3 : c < n := by
      rcases Nat.lt_or_ge c n with z | z
      · exact z
      · exact absurd ((nle_of (by omega) (by omega)).mpr z) hc2
    rw [cl_nI (n := 16 * r + c) (by omega)]
    refine ⟨in_nI (by omega) (by omega), hQ _ ?_⟩
    rw [if_pos hl, if_pos hc3]
    exact h3 r c hl hc3
  · have : ¬ r < n := fun x => hl ((nlt_of (by omega) (by omega)).mpr x)
    rw [if_neg this]
    decide
theorem P_place {r c : Nat} {M : Mem} {Q : Mem → Prop} (h : M.1 21 10 = nI (2 * n)) (hn : n ≤ 16) (hr : r < 2 * n) (hc : c < 2 * n) (hQ : Q (putI (putI M 27 c (nI r)) 26 r (nI c))) : P_Matching_place (nI r) (nI c) M Q := by
  unfold P_Matching_place
  refine P_isCol h hn hr (br_F (by decide) (P_isCol h hn hc (br_F (by decide) ?_)))
  rw [cl_nI (n := r) (by omega), cl_nI (n := c) (by omega)]
  exact ⟨in_nI (by omega) (by omega), in_nI (by omega) (by omega), hQ⟩
/-- the columns of a chain, from the last one back -/
def Chn (n : Nat) (R fr : Nat → Option Nat) (od : Nat → Nat) (seen : Nat → Prop) (Pok : Nat → Nat → Prop) (rho : Nat) : Prop :=
  ∀ c, seen c → c < 2 * n ∧ od c < 2 * n ∧ match fr c with
    | none => Pok rho c
    | some c' => seen c' ∧ od c' < od c ∧ ∃ r, R c' = some r ∧ Pok r c
/-- a chain half moved: the column c waits, the row rho has none -/
def MV (n : Nat) (R C : Nat → Option Nat) (od : Nat → Nat) (seen : Nat → Prop) (Pok : Nat → Nat → Prop) (rho e : Nat) (M N : Mem) (Rc Cc : Nat → Option Nat) (c s : Nat) : Prop :=
  (s + od c ≤ od e ∧ seen c ∧ Same [26, 27] M N) ∧ ((∀ x, x < 2 * n → x ≠ c → N.1 27 x = oI (Rc x)) ∧ (∀ r, r < 2 * n → r ≠ rho → N.1 26 r = oI (Cc r))) ∧ (MOk n Rc Cc ∧ Rc c = none ∧ Cc rho = none) ∧
  (∀ x, Rc x ≠ R x → od c ≤ od x) ∧ (∀ x r, Rc x = some r → Pok r x ∨ R x = some r) ∧ (∀ x, Rc x = none → x = c ∨ R x = none) ∧ (c ≠ e → Rc e ≠ none) ∧ (∀ r, Cc r ≠ C r → ∃ c', seen c' ∧ R c' = some r) ∧ (∀ r, Cc r = none → C r = none)
theorem P_moveAlong {M : Mem} {Q : Mem → Prop} {R C fr : Nat → Option Nat} {od : Nat → Nat} {seen : Nat → Prop} {Pok : Nat → Nat → Prop} {rho e : Nat} (h21 : M.1 21 10 = nI (2 * n)) (hn : n ≤ 16) (hrho : rho < 2 * n)
    (r27 : ∀ c, c < 2 * n → c ≠ e → M.1 27 c = oI (R c)) (r26 : ∀ r, r < 2 * n → r ≠ rho → M.1 26 r = oI (C r)) (r28 : ∀ c, seen c → M.1 28 c = oI (fr c)) (mk : MOk n R C) (Re : R e = none) (Cr : C rho = none) (ch : Chn n R fr od seen Pok rho) (he : seen e)
    (hQ : ∀ N R' C' ct, Same [26, 27] M N → (∀ c, c < 2 * n → N.1 27 c = oI (R' c)) → (∀ r, r < 2 * n → N.1 26 r = oI (C' r)) → MOk n R' C' → (∀ c r, R' c = some r → Pok r c ∨ R c = some r) → (∀ c, R' c = none → c ≠ e ∧ R c = none) → (∀ r, C' r ≠ C r → r = rho ∨ ∃ c', seen c' ∧ R c' = some r) → (∀ r, C' r = none → C r = none) → C' rho = some ct → seen ct → fr ct = none → Q N) : P_Matching_moveAlong (nI rho) (nI e) M Q := by
  have step : ∀ (N : Mem) (Rc Cc : Nat → Option Nat) (c s : Nat), MV n R C od seen Pok rho e M N Rc Cc c s → ∀ q, (∀ N1 Rc1 Cc1 c1 s1, od c1 < od c → MV n R C od seen Pok rho e M N1 Rc1 Cc1 c1 s1 → P_Matching_moveAlong_5 Q q (nI rho) (nI c1) (nI s1) N1) → P_Matching_moveAlong_5 Q (q + 1) (nI rho) (nI c) (nI s) N := by
    intro N Rc Cc c s mv q nx
    obtain ⟨⟨hs, hc, sN⟩, ⟨n27, n26⟩, ⟨mkc, Rcc, Ccr⟩, i1, i2, i3, i4, i5, i6⟩ := mv
    obtain ⟨c1, c2, c3⟩ := ch c hc
    have e2 := (ch e he).2.1
    have n21 : N.1 21 10 = nI (2 * n) := by rw [(sN 21 (by decide)).1]; exact h21
    have n28 : N.1 28 c = oI (fr c) := by rw [(sN 28 (by decide)).1]; exact r28 c hc
    /- the last of the chain -/
    have last : fr c = none → Q (putI (putI N 27 c (nI rho)) 26 rho (nI c)) := fun hz => by
      rw [hz] at c3
      have c3 : Pok rho c := c3
      refine hQ _ (uo Rc c (some rho)) (uo Cc rho (some c)) c ((sN.putI (by simp)).putI (by simp)) (fun x hx => ?_) (fun r hr => ?_) ⟨fun x r hx hw => ?_, fun r x hr hw => ?_⟩ (fun x r hw => ?_) (fun x hw => ?_) (fun r hd => ?_) (fun r hw => ?_) (uo_at _ _ _) hc hz
      · rw [putI_ne1 (by omega), putI_at]
        by_cases hxc : x = c
        · rw [if_pos ⟨rfl, hxc⟩, hxc, uo_at]; rfl
        · rw [if_neg (fun y => hxc y.2), uo_ne hxc]; exact n27 x hx hxc
      · rw [putI_at]
        by_cases hrr : r = rho
        · rw [if_pos ⟨rfl, hrr⟩, hrr, uo_at]; rfl
        · rw [if_neg (fun y => hrr y.2), uo_ne hrr, putI_ne1 (by omega)]; exact n26 r hr hrr
      · by_cases hxc : x = c
        · rw [hxc, uo_at] at hw
          cases hw
          rw [hxc]
          exact ⟨hrho, uo_at _ _ _⟩
        · rw [uo_ne hxc] at hw
          obtain ⟨a1, a2⟩ := mkc.1 x r hx hw
          refine ⟨a1, ?_⟩
          rw [uo_ne (fun y => by rw [y, Ccr] at a2; cases a2)]
          exact a2
      · by_cases hrr : r = rho
        · rw [hrr, uo_at] at hw
          cases hw
          rw [hrr]
          exact ⟨c1, uo_at _ _ _⟩
        · rw [uo_ne hrr] at hw
          obtain ⟨a1, a2⟩ := mkc.2 r x hr hw
          refine ⟨a1, ?_⟩
          rw [uo_ne (fun y => by rw [y, Rcc] at a2; cases a2)]
          exact a2
      · by_cases hxc : x = c
        · rw [hxc, uo_at] at hw
          cases hw
          rw [hxc]
          exact Or.inl c3
        · rw [uo_ne hxc] at hw
          exact i2 x r hw
      · by_cases hxc : x = c
        · rw [hxc, uo_at] at hw; cases hw
        · rw [uo_ne hxc] at hw
          refine ⟨fun y => ?_, ?_⟩
          · rw [y] at hw
            exact i4 (fun z => hxc (y.trans z.symm)) hw
          · rcases i3 x hw with h | h
            · exact absurd h hxc
            · exact h
      · by_cases hrr : r = rho
        · exact Or.inl hrr
        · rw [uo_ne hrr] at hd
          exact Or.inr (i5 r hd)
      · by_cases hrr : r = rho
        · rw [hrr, uo_at] at hw; cases hw
        · rw [uo_ne hrr] at hw
          exact i6 r hw
    unfold P_Matching_moveAlong_5
    rw [n21, cl_nI (n := c) (by omega), n28]
    cases hz : fr c with
    | none =>
      refine ⟨fun _ => P_place n21 hn hrho c1 (last hz), fun _ => ⟨in_nI (by omega) (by omega), P_noCol (br_T rfl (P_place n21 hn hrho c1 (last hz)))⟩⟩
    | some c' =>
      rw [hz] at c3
      obtain ⟨g1, g2, r, g3, g4⟩ := c3
      have c1' := (ch c' g1).1
      have hcc : c' ≠ c := fun y => by rw [y] at g2; omega
      have Rcc' : Rc c' = some r := by
        by_cases hy : Rc c' = R c'
        · rw [hy]; exact g3
        · have := i1 c' hy; omega
      obtain ⟨hr, Ccr'⟩ := mkc.1 c' r c1' Rcc'
      have hrr : r ≠ rho := fun y => by rw [y, Ccr] at Ccr'; cases Ccr'
      have n27' : N.1 27 c' = nI r := by rw [n27 c' c1' hcc, Rcc']; rfl
      refine br_F (nI_ge (by omega) (by omega)) ⟨in_nI (by omega) (by omega), P_isCol n21 hn c1' (br_F (by decide) ?_)⟩
      rw [n28, hz]
      show vp_in (nI c') 32 ∧ P_Matching_place (N.1 27 (nI c').toNatClampNeg) (nI c) N fun M7 => P_Matching_moveAlong_5 Q q (nI rho) (M7.1 28 c) (nI s + 1) M7
      rw [cl_nI (n := c') (by omega), n27', nI_1]
      refine ⟨in_nI (by omega) (by omega), P_place n21 hn hr c1 ?_⟩
      rw [show (putI (putI N 27 c (nI r)) 26 r (nI c)).1 28 c = N.1 28 c from rfl, n28, hz]
      refine nx _ (uo (uo Rc c (some r)) c' none) (uo Cc r (some c)) c' (s + 1) g2 ⟨⟨by omega, g1, (sN.putI (by simp)).putI (by simp)⟩, ⟨fun x hx hxc => ?_, fun r' hr' hrho' => ?_⟩, ⟨⟨fun x r' hx hw => ?_, fun r' x hr' hw => ?_⟩, uo_at _ _ _, ?_⟩, fun x hx => ?_, fun x r' hw => ?_, fun x hw => ?_, fun _ => ?_, fun r' hd => ?_, fun r' hw => ?_⟩
      · rw [putI_ne1 (by omega), putI_at, uo_ne hxc]
        by_cases hxc2 : x = c
        · rw [if_pos ⟨rfl, hxc2⟩, hxc2, uo_at]; rfl
        · rw [if_neg (fun y => hxc2 y.2), uo_ne hxc2]; exact n27 x hx hxc2
      · rw [putI_at]
        by_cases h2 : r' = r
        · rw [if_pos ⟨rfl, h2⟩, h2, uo_at]; rfl
        · rw [if_neg (fun y => h2 y.2), uo_ne h2, putI_ne1 (by omega)]; exact n26 r' hr' hrho'
      · by_cases hxc2 : x = c'
        · rw [hxc2, uo_at] at hw; cases hw
        · rw [uo_ne hxc2] at hw
          by_cases hxc3 : x = c
          · rw [hxc3, uo_at] at hw
            cases hw
            rw [hxc3]
            exact ⟨hr, uo_at _ _ _⟩
          · rw [uo_ne hxc3] at hw
            obtain ⟨a1, a2⟩ := mkc.1 x r' hx hw
            refine ⟨a1, ?_⟩
            rw [uo_ne (fun y => by rw [y, Ccr'] at a2; cases a2; exact hxc2 rfl)]
            exact a2
      · by_cases h2 : r' = r
        · rw [h2, uo_at] at hw
          cases hw
          rw [h2]
          exact ⟨c1, by rw [uo_ne (fun y => hcc y.symm), uo_at]⟩
        · rw [uo_ne h2] at hw
          obtain ⟨a1, a2⟩ := mkc.2 r' x hr' hw
          refine ⟨a1, ?_⟩
          rw [uo_ne (fun y => by rw [y, Rcc'] at a2; cases a2; exact h2 rfl), uo_ne (fun y => by rw [y, Rcc] at a2; cases a2)]
          exact a2
      · rw [uo_ne (fun y => hrr y.symm)]; exact Ccr
      · by_cases hxc2 : x = c'
        · rw [hxc2]; exact Nat.le_refl _
        · rw [uo_ne hxc2] at hx
          by_cases hxc3 : x = c
          · rw [hxc3]; omega
          · rw [uo_ne hxc3] at hx
            have := i1 x hx
            omega
      · by_cases hxc2 : x = c'
        · rw [hxc2, uo_at] at hw; cases hw
        · rw [uo_ne hxc2] at hw
          by_cases hxc3 : x = c
          · rw [hxc3, uo_at] at hw
            cases hw
            rw [hxc3]
            exact Or.inl g4
          · rw [uo_ne hxc3] at hw
            exact i2 x r' hw
      · by_cases hxc2 : x = c'
        · exact Or.inl hxc2
        · rw [uo_ne hxc2] at hw
          by_cases hxc3 : x = c
          · rw [hxc3, uo_at] at hw; cases hw
          · rw [uo_ne hxc3] at hw
            rcases i3 x hw with h | h
            · exact absurd h hxc3
            · exact Or.inr h
      · have hec : e ≠ c' := fun y => by rw [y] at hs; omega
        rw [uo_ne hec]
        by_cases he2 : e = c
        · rw [he2, uo_at]; intro y; cases y
        · rw [uo_ne he2]
          exact i4 (fun y => he2 y.symm)
      · by_cases h2 : r' = r
        · rw [h2]; exact ⟨c', g1, g3⟩
        · rw [uo_ne h2] at hd
          exact i5 r' hd
      · by_cases h2 : r' = r
        · rw [h2, uo_at] at hw; cases hw
        · rw [uo_ne h2] at hw
          exact i6 r' hw
  have key : ∀ d, ∀ (N : Mem) (Rc Cc : Nat → Option Nat) (c s : Nat), od c ≤ d → MV n R C od seen Pok rho e M N Rc Cc c s → P_Matching_moveAlong_5 Q (d + 1) (nI rho) (nI c) (nI s) N := by
    intro d
    induction d with
    | zero => exact fun N Rc Cc c s hd mv => step N Rc Cc c s mv 0 (fun N1 Rc1 Cc1 c1 s1 hlt _ => absurd hlt (by omega))
    | succ d ih => exact fun N Rc Cc c s hd mv => step N Rc Cc c s mv (d + 1) (fun N1 Rc1 Cc1 c1 s1 hlt mv1 => ih N1 Rc1 Cc1 c1 s1 (by omega) mv1)
  unfold P_Matching_moveAlong
  exact ⟨_, key (od e) M R C e 0 (Nat.le_refl _) ⟨⟨by omega, he, Same.refl _ _⟩, ⟨r27, r26⟩, ⟨mk, Re, Cr⟩, fun x hx => absurd rfl hx, fun x r hw => Or.inr hw, fun x hw => Or.inr hw, fun hy => absurd rfl hy, fun r hd => absurd rfl hd, fun r hw => hw⟩⟩
end Mat
