/-! shortest chains: what the model's search keeps -/
def GRT : Int := 2305843009213693951
/-- the chain behind a column: shorter, or as short and told earlier -/
def FIp (p : Nat → Nat → Int) (l : Int) (F : Nat → Option Nat) (b : Nat → Int) (f : Nat → Int) (v : Nat → Nat) (tm : Nat → Nat) (j : Nat) : Prop :=
  match F (v j) with
  | none => f j = p (v j) j
  | some x => f x ≠ GRT ∧ f x - p (v j) x + p (v j) j ≤ f j ∧ (f x + b x < f j + b j ∨ (f x + b x = f j + b j ∧ tm x < tm j))
def FI (n m : Nat) (A : Nat → Nat → Bool) (p : Nat → Nat → Int) (l : Int) (F : Nat → Option Nat) (b : Nat → Int) (f : Nat → Int) (v : Nat → Nat) : Prop :=
  ∃ (tm : Nat → Nat) (T : Nat), (∀ j, tm j < T) ∧ ∀ j, j < n → f j ≤ GRT ∧ (f j ≠ GRT → f j ≤ PMX * (cntB (fun i => decide (f i ≠ GRT)) n : Nat) ∧ (∀ i, i < m → F i ≠ some j) ∧ l - b j ≤ f j ∧ m ≤ v j ∧ v j < n ∧ A (v j) j = true ∧ F (v j) ≠ some j ∧ FIp p l F b f v tm j)
def un (v : Nat → Nat) (j k : Nat) : Nat → Nat := fun i => if i = j then k else v i
section SSP
variable {n m : Nat} {A : Nat → Nat → Bool} {p : Nat → Nat → Int} {l : Int} {F : Nat → Option Nat} {a b : Nat → Int} {f : Nat → Int} {v : Nat → Nat}
theorem cntB_pos {q : Nat → Bool} {n j : Nat} (hj : j < n) (h : q j = true) : 1 ≤ cntB q n := by
  induction n with
  | zero => exact absurd hj (Nat.not_lt_zero _)
  | succ n ih =>
    by_cases hjn : j = n
    · subst hjn; rw [cntB_succ_t h]; omega
    · have := ih (by omega)
      have := cntB_mono q (show n ≤ n + 1 by omega)
      omega
theorem reach_cnt {w : Int} {i : Nat} (hi : i < n) (hw : w ≠ GRT) : cntB (fun j => decide (f j ≠ GRT)) n ≤ cntB (fun j => decide (uz f i w j ≠ GRT)) n ∧ (f i = GRT → cntB (fun j => decide (f j ≠ GRT)) n + 1 ≤ cntB (fun j => decide (uz f i w j ≠ GRT)) n) := by
  have sub : ∀ x, x < n → decide (f x ≠ GRT) = true → decide (uz f i w x ≠ GRT) = true := fun x _ hx => by
    unfold uz
    by_cases hxi : x = i
    · rw [if_pos hxi]; exact decide_eq_true hw
    · rw [if_neg hxi]; exact hx
  exact ⟨cntB_sub sub, fun hg => cntB_one sub hi (by simp [hg]) (by unfold uz; rw [if_pos rfl]; exact decide_eq_true hw)⟩
/-- a column is lowered -/
theorem FI_upd {k i : Nat} {w : Int} (hF : injF n F) (h : FI n m A p l F b f v) (hp : ∀ k j, k < n → j < n → 0 ≤ p k j ∧ p k j ≤ PMX) (hi : i < n) (hk : k < n) (hmk : m ≤ k) (hA : A k i = true) (hT : ∀ i', i' < m → F i' ≠ some i) (hne : F k ≠ some i) (hw : w < f i) (hlb : l - b i ≤ w)
    (hc : match F k with | none => w = p k i | some x => x < n ∧ f x ≠ GRT ∧ w = f x - p k x + p k i ∧ f x + b x ≤ w + b i) : FI n m A p l F b (uz f i w) (un v i k) := by
  obtain ⟨tm, T, h1, h2⟩ := h
  have hi2 := (h2 i hi).1
  have hwG : w ≠ GRT := by omega
  obtain ⟨c1, c2⟩ := reach_cnt (f := f) hi hwG
  refine ⟨fun j => if j = i then T else tm j, T + 1, fun j => ?_, fun j hj => ?_⟩
  · dsimp only
    by_cases hji : j = i
    · rw [if_pos hji]; omega
    · rw [if_neg hji]; have := h1 j; omega
  · by_cases hji : j = i
    · subst hji
      have ev : un v j k j = k := by unfold un; rw [if_pos rfl]
      have ef : uz f j w j = w := by unfold uz; rw [if_pos rfl]
      rw [ev, ef]
      refine ⟨by omega, fun _ => ⟨?_, hT, hlb, hmk, hk, hA, hne, ?_⟩⟩
      · cases hz : F k with
        | none =>
          rw [hz] at hc
          have hc : w = p k j := hc
          have := hp k j hk hj
          have := cntB_pos (q := fun i => decide (uz f j w i ≠ GRT)) hj (by rw [ef]; exact decide_eq_true hwG)
          unfold PMX at *
          omega
        | some x =>
          rw [hz] at hc
          obtain ⟨hx, hxG, hwe, -⟩ := hc
          have px := hp k x hk hx
          have pj := hp k j hk hj
          have ux := ((h2 x hx).2 hxG).1
          by_cases hg : f j = GRT
          · have := c2 hg
            unfold PMX at *
            omega
          · have uj := ((h2 j hj).2 hg).1
            unfold PMX at *
            omega
      · unfold FIp
        rw [ev]
        cases hz : F k with
        | none =>
          rw [hz] at hc
          show uz f j w j = p k j
          rw [ef]; exact hc
        | some x =>
          rw [hz] at hc
          obtain ⟨hx, hxG, hwe, hle⟩ := hc
          have hxj : x ≠ j := fun e => hne (by rw [hz, e])
          have ex : uz f j w x = f x := by unfold uz; rw [if_neg hxj]
          show uz f j w x ≠ GRT ∧ uz f j w x - p k x + p k j ≤ uz f j w j ∧ (uz f j w x + b x < uz f j w j + b j ∨ (uz f j w x + b x = uz f j w j + b j ∧ (if x = j then T else tm x) < (if j = j then T else tm j)))
          rw [ex, ef, if_neg hxj, if_pos rfl]
          have := h1 x
          refine ⟨hxG, by omega, ?_⟩
          by_cases he : f x + b x = w + b j
          · exact Or.inr ⟨he, by omega⟩
          · exact Or.inl (by omega)
    · have ev : un v i k j = v j := by unfold un; rw [if_neg hji]
      have ef : uz f i w j = f j := by unfold uz; rw [if_neg hji]
      rw [ev, ef]
      refine ⟨(h2 j hj).1, fun hg => ?_⟩
      obtain ⟨g1, g2, g3, g4, g5, g6, g7, g8⟩ := (h2 j hj).2 hg
      refine ⟨by unfold PMX at *; omega, g2, g3, g4, g5, g6, g7, ?_⟩
      unfold FIp at g8 ⊢
      rw [ev]
      cases hz : F (v j) with
      | none =>
        rw [hz] at g8
        show uz f i w j = _
        rw [ef]; exact g8
      | some x =>
        rw [hz] at g8
        obtain ⟨y1, y2, y3⟩ := g8
        show uz f i w x ≠ GRT ∧ uz f i w x - p (v j) x + p (v j) j ≤ uz f i w j ∧ (uz f i w x + b x < uz f i w j + b j ∨ (uz f i w x + b x = uz f i w j + b j ∧ (if x = i then T else tm x) < (if j = i then T else tm j)))
        rw [ef, if_neg hji]
        by_cases hxi : x = i
        · subst hxi
          have ex : uz f x w x = w := by unfold uz; rw [if_pos rfl]
          rw [ex]
          exact ⟨hwG, by omega, Or.inl (by omega)⟩
        · have ex : uz f i w x = f x := by unfold uz; rw [if_neg hxi]
          rw [ex, if_neg hxi]
          exact ⟨y1, y2, y3⟩
/-- at the end of the search nothing can be lowered -/
def Fix (n m : Nat) (A : Nat → Nat → Bool) (p : Nat → Nat → Int) (F : Nat → Option Nat) (f : Nat → Int) : Prop :=
  (∀ k i, m ≤ k → k < n → i < n → F k = none → A k i = true → (∀ i', i' < m → F i' ≠ some i) → f i ≤ p k i) ∧
  ∀ k x i, m ≤ k → k < n → x < n → i < n → F k = some x → f x ≠ GRT → i ≠ x → A k i = true → (∀ i', i' < m → F i' ≠ some i) → f i ≤ f x - p k x + p k i
def dl (l D : Int) (b f : Nat → Int) (j : Nat) : Int := min (f j - l + b j) (D - l)
def dk (l D : Int) (b f : Nat → Int) (o : Option Nat) : Int := match o with
  | none => 0
  | some x => dl l D b f x
/-- the new prices: for the next certificate -/
def a1 (m : Nat) (l D : Int) (F : Nat → Option Nat) (a b f : Nat → Int) (k : Nat) : Int := a k + dk l D b f (cut m F k)
def b1 (l D : Int) (b f : Nat → Int) (j : Nat) : Int := b j + (D - l) - dl l D b f j
theorem cert_a0 (c : Cert n m A p l F a b) {k : Nat} (hk : k < n) (h : cut m F k = none) : a k = 0 := by
  have := c.2.2.2.1 k hk
  rw [h] at this
  have this : 0 + a k + 0 = 0 := this
  omega
theorem cert_eq (c : Cert n m A p l F a b) {k x : Nat} (hk : k < n) (h : cut m F k = some x) : p k x - l + a k + b x = 0 := by
  have := c.2.2.2.1 k hk
  rw [h] at this
  exact this
theorem cut_ge {k : Nat} (h : m ≤ k) : cut m F k = F k := by unfold cut; rw [if_neg (by omega)]
theorem dl_ge0 {D : Int} (c : Cert n m A p l F a b) (h : FI n m A p l F b f v) (hl : l ≤ D) (hD : D ≤ GRT) {j : Nat} (hj : j < n) : 0 ≤ dl l D b f j := by
  obtain ⟨tm, T, -, h2⟩ := h
  have hb := c.2.1 j hj
  unfold dl
  by_cases hg : f j = GRT
  · rw [hg]; omega
  · have := ((h2 j hj).2 hg).2.2.1
    omega
/-- feasible for the new prices -/
theorem new_feas {D : Int} (c : Cert n m A p l F a b) (vF : Val n A F) (h : FI n m A p l F b f v) (fx : Fix n m A p F f) (hp : ∀ k j, k < n → j < n → 0 ≤ p k j ∧ p k j ≤ PMX) (hl : l ≤ D) (hD : D ≤ GRT) {k j : Nat} (hmk : m ≤ k) (hk : k < n) (hj : j < n) (hA : A k j = true) (hT : ∀ i, i < m → F i ≠ some j) : 0 ≤ p k j - D + a1 m l D F a b f k + b1 l D b f j := by
  have h0 := c.2.2.1 k j hmk hk hj hA hT
  have hb := c.2.1 j hj
  unfold a1 b1
  rw [cut_ge hmk]
  cases hz : F k with
  | none =>
    have := fx.1 k j hmk hk hj hz hA hT
    have ha := cert_a0 c hk (by rw [cut_ge hmk]; exact hz)
    show 0 ≤ p k j - D + (a k + 0) + (b j + (D - l) - dl l D b f j)
    unfold dl
    omega
  | some x =>
    have hx := (vF.1 k x hk hz).2
    have he := cert_eq c hk (by rw [cut_ge hmk]; exact hz)
    show 0 ≤ p k j - D + (a k + dl l D b f x) + (b j + (D - l) - dl l D b f j)
    by_cases hjx : j = x
    · subst hjx; omega
    · by_cases hg : f x = GRT
      · unfold dl
        rw [hg]
        have := c.2.1 x hx
        omega
      · have := fx.2 k x j hmk hk hx hj hz hg hjx hA hT
        unfold dl
        omega
theorem new_a {D : Int} (c : Cert n m A p l F a b) (vF : Val n A F) (h : FI n m A p l F b f v) (hl : l ≤ D) (hD : D ≤ GRT) {k : Nat} (hk : k < n) : 0 ≤ a1 m l D F a b f k := by
  have := c.1 k hk
  unfold a1
  cases hz : cut m F k with
  | none => show 0 ≤ a k + 0; omega
  | some x =>
    have := dl_ge0 (D := D) c h hl hD (vF.1 k x hk (cut_some hz).2).2
    show 0 ≤ a k + dl l D b f x
    omega
theorem new_b {D : Int} (c : Cert n m A p l F a b) {j : Nat} (hj : j < n) : 0 ≤ b1 l D b f j := by
  have := c.2.1 j hj
  unfold b1 dl
  omega
/-- the kept ones stay tight -/
theorem new_kept {D : Int} (c : Cert n m A p l F a b) {k x : Nat} (hmk : m ≤ k) (hk : k < n) (hz : F k = some x) : p k x - D + a1 m l D F a b f k + b1 l D b f x = 0 := by
  have he := cert_eq c hk (by rw [cut_ge hmk]; exact hz)
  unfold a1 b1
  rw [cut_ge hmk, hz]
  show p k x - D + (a k + dl l D b f x) + (b x + (D - l) - dl l D b f x) = 0
  omega
theorem new_alone {D : Int} (c : Cert n m A p l F a b) {k : Nat} (hk : k < n) (hz : cut m F k = none) : a1 m l D F a b f k = 0 := by
  unfold a1
  rw [hz]
  show a k + 0 = 0
  rw [cert_a0 c hk hz]
  rfl
/-- the new ones are tight -/
theorem new_path {D : Int} (c : Cert n m A p l F a b) (vF : Val n A F) (fx : Fix n m A p F f) {j k : Nat} (hmk : m ≤ k) (hk : k < n) (hj : j < n) (hA : A k j = true) (hT : ∀ i, i < m → F i ≠ some j) (hne : F k ≠ some j) (hle : f j + b j ≤ D)
    (hc : match F k with | none => f j = p k j | some x => f x ≠ GRT ∧ f x - p k x + p k j ≤ f j ∧ f x + b x ≤ f j + b j) : p k j - D + a1 m l D F a b f k + b1 l D b f j = 0 := by
  unfold a1 b1
  rw [cut_ge hmk]
  cases hz : F k with
  | none =>
    rw [hz] at hc
    have hc : f j = p k j := hc
    have ha := cert_a0 c hk (by rw [cut_ge hmk]; exact hz)
    show p k j - D + (a k + 0) + (b j + (D - l) - dl l D b f j) = 0
    unfold dl
    omega
  | some x =>
    rw [hz] at hc
    obtain ⟨h1, h2, h3⟩ := hc
    have hx := (vF.1 k x hk hz).2
    have he := cert_eq c hk (by rw [cut_ge hmk]; exact hz)
    have h4 := fx.2 k x j hmk hk hx hj hz h1 (fun e => hne (by rw [hz, e])) hA hT
    show p k j - D + (a k + dl l D b f x) + (b j + (D - l) - dl l D b f j) = 0
    unfold dl
    omega
theorem new_free {D : Int} (c : Cert n m A p l F a b) (hl : l ≤ D) {j : Nat} (hj : j < n) (hb : b j = 0) (hD : D ≤ f j) : b1 l D b f j = 0 := by
  unfold b1 dl
  omega
/-- no column is left: the certificate for the great price -/
theorem cert_last (c : Cert n m A p l F a b) (vF : Val n A F) (h : FI n m A p l F b f v) (fx : Fix n m A p F f) (hp : ∀ k j, k < n → j < n → 0 ≤ p k j ∧ p k j ≤ PMX) (hn : n ≤ 16) (hl : l ≤ BIG) (hfree : ∀ j, j < n → (∀ k, k < n → cut m F k ≠ some j) → f j = GRT) :
    Cert n m A p BIG F (fun k => a k + (match cut m F k with | none => 0 | some x => if f x = GRT then BIG - l else 0)) (fun j => b j + if f j = GRT then 0 else BIG - l) := by
  obtain ⟨tm, T, -, h2⟩ := h
  have hcnt := cntB_le (fun i => decide (f i ≠ GRT)) n
  refine ⟨fun k hk => ?_, fun j hj => ?_, fun k j hmk hk hj hA hT => ?_, fun k hk => ?_, fun j hj hf => ?_⟩
  · have := c.1 k hk
    dsimp only
    cases hz : cut m F k with
    | none => show 0 ≤ a k + 0; omega
    | some x =>
      show 0 ≤ a k + if f x = GRT then BIG - l else 0
      split <;> omega
  · have := c.2.1 j hj
    dsimp only
    split <;> omega
  · have h0 := c.2.2.1 k j hmk hk hj hA hT
    have pj := hp k j hk hj
    dsimp only
    rw [cut_ge hmk]
    cases hz : F k with
    | none =>
      have := fx.1 k j hmk hk hj hz hA hT
      show 0 ≤ p k j - BIG + (a k + 0) + (b j + if f j = GRT then 0 else BIG - l)
      rw [if_neg (by unfold GRT PMX at *; omega)]
      omega
    | some x =>
      have hx := (vF.1 k x hk hz).2
      show 0 ≤ p k j - BIG + (a k + if f x = GRT then BIG - l else 0) + (b j + if f j = GRT then 0 else BIG - l)
      by_cases hg : f x = GRT
      · rw [if_pos hg]
        split <;> omega
      · rw [if_neg hg]
        have hj2 : f j ≠ GRT := by
          by_cases hjx : j = x
          · rw [hjx]; exact hg
          · have := fx.2 k x j hmk hk hx hj hz hg hjx hA hT
            have ux := ((h2 x hx).2 hg).1
            have px := hp k x hk hx
            unfold GRT PMX at *
            omega
        rw [if_neg hj2]
        omega
  · have h0 := c.2.2.2.1 k hk
    dsimp only
    cases hz : cut m F k with
    | none =>
      rw [hz] at h0
      have h0 : 0 + a k + 0 = 0 := h0
      show 0 + (a k + 0) + 0 = 0
      omega
    | some x =>
      rw [hz] at h0
      have h0 : p k x - l + a k + b x = 0 := h0
      show p k x - BIG + (a k + if f x = GRT then BIG - l else 0) + (b x + if f x = GRT then 0 else BIG - l) = 0
      split <;> omega
  · dsimp only
    rw [c.2.2.2.2 j hj hf, if_pos (hfree j hj hf)]
    rfl
end SSP
