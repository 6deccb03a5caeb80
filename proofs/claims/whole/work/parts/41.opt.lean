/-! the best parting: sums, partings, certificates -/
def sz (f : Nat → Int) : Nat → Int
  | 0 => 0
  | n + 1 => sz f n + f n
theorem sz_le {f g : Nat → Int} {n : Nat} (h : ∀ i, i < n → f i ≤ g i) : sz f n ≤ sz g n := by
  induction n with
  | zero => exact Int.le_refl _
  | succ n ih =>
    have h1 := ih (fun i hi => h i (by omega))
    have h2 := h n (by omega)
    unfold sz
    omega
theorem sz_congr {f g : Nat → Int} {n : Nat} (h : ∀ i, i < n → f i = g i) : sz f n = sz g n := by
  induction n with
  | zero => rfl
  | succ n ih =>
    unfold sz
    rw [ih (fun i hi => h i (by omega)), h n (by omega)]
theorem sz_add (f g : Nat → Int) (n : Nat) : sz (fun i => f i + g i) n = sz f n + sz g n := by
  induction n with
  | zero => rfl
  | succ n ih =>
    unfold sz
    rw [ih]
    omega
theorem sz_neg (f : Nat → Int) (n : Nat) : sz (fun i => - f i) n = - sz f n := by
  induction n with
  | zero => rfl
  | succ n ih =>
    unfold sz
    rw [ih]
    omega
theorem sz_eq {f g : Nat → Int} {n : Nat} (h : ∀ i, i < n → f i ≤ g i) (he : sz f n = sz g n) : ∀ i, i < n → f i = g i := by
  induction n with
  | zero => intro i hi; exact absurd hi (Nat.not_lt_zero _)
  | succ n ih =>
    intro i hi
    have h1 := sz_le (f := f) (g := g) (n := n) (fun i hi => h i (by omega))
    have h2 := h n (by omega)
    unfold sz at he
    by_cases hin : i = n
    · subst hin; omega
    · exact ih (fun i hi => h i (by omega)) (by omega) i (by omega)
theorem sz_succ (f : Nat → Int) (n : Nat) : sz f (n + 1) = sz f n + f n := rfl
def uz (f : Nat → Int) (j : Nat) (v : Int) : Nat → Int := fun i => if i = j then v else f i
theorem sz_uz {f : Nat → Int} {j n : Nat} {v : Int} (h : j < n) : sz (uz f j v) n = sz f n - f j + v := by
  induction n with
  | zero => exact absurd h (Nat.not_lt_zero _)
  | succ n ih =>
    unfold sz
    by_cases hj : j = n
    · subst hj
      rw [sz_congr (f := uz f j v) (g := f) (fun i hi => by unfold uz; rw [if_neg (by omega)])]
      unfold uz
      rw [if_pos rfl]
      omega
    · rw [ih (by omega)]
      have : uz f j v n = f n := by unfold uz; rw [if_neg (by omega)]
      rw [this]
      omega
theorem sz_zero {f : Nat → Int} {n : Nat} (h : ∀ i, i < n → f i = 0) : sz f n = 0 := by
  induction n with
  | zero => rfl
  | succ n ih =>
    unfold sz
    rw [ih (fun i hi => h i (by omega)), h n (by omega)]
    rfl
def ob (b : Nat → Int) (o : Option Nat) : Int := match o with
  | none => 0
  | some j => b j
def injF (n : Nat) (F : Nat → Option Nat) : Prop := ∀ k k' j, k < n → k' < n → F k = some j → F k' = some j → k = k'
theorem injF.mono {n m : Nat} {F : Nat → Option Nat} (h : injF n F) (hm : m ≤ n) : injF m F := fun k k' j h1 h2 => h k k' j (by omega) (by omega)
theorem ob_uz {b : Nat → Int} {j : Nat} {v : Int} {o : Option Nat} (h : o ≠ some j) : ob (uz b j v) o = ob b o := by
  unfold ob
  cases o with
  | none => rfl
  | some i =>
    dsimp only
    unfold uz
    rw [if_neg (fun x => h (by rw [x]))]
theorem sumInj_le {n : Nat} {H : Nat → Option Nat} : ∀ (N : Nat) (b : Nat → Int), injF N H → (∀ k j, k < N → H k = some j → j < n) → (∀ j, j < n → 0 ≤ b j) → sz (fun k => ob b (H k)) N ≤ sz b n := by
  intro N
  induction N with
  | zero =>
    intro b _ _ hb
    have := sz_le (f := fun _ => 0) (g := b) (n := n) hb
    rw [sz_zero (fun _ _ => rfl)] at this
    exact this
  | succ N ih =>
    intro b hi hr hb
    rw [sz_succ]
    cases hz : H N with
    | none =>
      have := ih b (hi.mono (by omega)) (fun k j hk => hr k j (by omega)) hb
      show _ + 0 ≤ _
      omega
    | some j =>
      have hj := hr N j (by omega) hz
      have h1 := ih (uz b j 0) (hi.mono (by omega)) (fun k j hk => hr k j (by omega)) (fun i hi2 => by
        unfold uz
        by_cases hij : i = j
        · rw [if_pos hij]; exact Int.le_refl _
        · rw [if_neg hij]; exact hb i hi2)
      rw [sz_uz hj, sz_congr (g := fun k => ob b (H k)) (fun k hk => ob_uz (fun x => by have := hi k N j (by omega) (by omega) x hz; omega))] at h1
      show _ + b j ≤ _
      omega
theorem sumInj_eq {n : Nat} {H : Nat → Option Nat} : ∀ (N : Nat) (b : Nat → Int), injF N H → (∀ k j, k < N → H k = some j → j < n) → (∀ j, j < n → (∀ k, k < N → H k ≠ some j) → b j = 0) → sz (fun k => ob b (H k)) N = sz b n := by
  intro N
  induction N with
  | zero =>
    intro b _ _ hb
    exact (sz_zero (fun j hj => hb j hj (fun k hk => absurd hk (Nat.not_lt_zero _)))).symm
  | succ N ih =>
    intro b hi hr hb
    rw [sz_succ]
    cases hz : H N with
    | none =>
      have := ih b (hi.mono (by omega)) (fun k j hk => hr k j (by omega)) (fun j hj hk => hb j hj (fun k hk2 => by
        by_cases hkN : k = N
        · rw [hkN, hz]; intro x; cases x
        · exact hk k (by omega)))
      show _ + 0 = _
      omega
    | some j =>
      have hj := hr N j (by omega) hz
      have h1 := ih (uz b j 0) (hi.mono (by omega)) (fun k j hk => hr k j (by omega)) (fun i hi2 hk => by
        unfold uz
        by_cases hij : i = j
        · rw [if_pos hij]
        · rw [if_neg hij]
          refine hb i hi2 (fun k hk2 => ?_)
          by_cases hkN : k = N
          · rw [hkN, hz]; intro x; cases x; exact hij rfl
          · exact hk k (by omega))
      rw [sz_uz hj, sz_congr (g := fun k => ob b (H k)) (fun k hk => ob_uz (fun x => by have := hi k N j (by omega) (by omega) x hz; omega))] at h1
      show _ + b j = _
      omega
theorem sumInj_free {n N : Nat} {H : Nat → Option Nat} {b : Nat → Int} (hi : injF N H) (hr : ∀ k j, k < N → H k = some j → j < n) (hb : ∀ j, j < n → 0 ≤ b j) (he : sz b n ≤ sz (fun k => ob b (H k)) N) : ∀ j, j < n → (∀ k, k < N → H k ≠ some j) → b j = 0 := fun j hj hk => by
  have h1 := sumInj_le N (uz b j 0) hi hr (fun i hi2 => by
    unfold uz
    by_cases hij : i = j
    · rw [if_pos hij]; exact Int.le_refl _
    · rw [if_neg hij]; exact hb i hi2)
  rw [sz_uz hj, sz_congr (g := fun k => ob b (H k)) (fun k hk2 => ob_uz (hk k hk2))] at h1
  have := hb j hj
  omega
/-! partings -/
def BIG : Int := 1099511627776
def PMX : Int := 17179869184
def ow (p : Nat → Nat → Int) (l : Int) (k : Nat) (o : Option Nat) : Int := match o with
  | none => 0
  | some j => p k j - l
def VF (n : Nat) (p : Nat → Nat → Int) (F : Nat → Option Nat) : Int := sz (fun k => ow p BIG k (F k)) n
def Val (n : Nat) (A : Nat → Nat → Bool) (F : Nat → Option Nat) : Prop := (∀ k j, k < n → F k = some j → A k j = true ∧ j < n) ∧ injF n F
def Opt (n : Nat) (A : Nat → Nat → Bool) (p : Nat → Nat → Int) (F : Nat → Option Nat) : Prop := Val n A F ∧ ∀ G, Val n A G → VF n p F ≤ VF n p G
def Lex (n : Nat) (A : Nat → Nat → Bool) (p : Nat → Nat → Int) (F : Nat → Option Nat) : Prop :=
  Opt n A p F ∧ ∀ k, k < n → ∀ G, Opt n A p G → (∀ i, i < k → G i = F i) → ∀ j, G k = some j → ∃ j', j' ≤ j ∧ F k = some j'
theorem lex_unique {n : Nat} {A : Nat → Nat → Bool} {p : Nat → Nat → Int} {F G : Nat → Option Nat} (hF : Lex n A p F) (hG : Lex n A p G) : ∀ k, k < n → F k = G k := by
  have key : ∀ m, m ≤ n → ∀ i, i < m → F i = G i := by
    intro m
    induction m with
    | zero => intro _ i hi; exact absurd hi (Nat.not_lt_zero _)
    | succ m ih =>
      intro hm i hi
      have hs := ih (by omega)
      by_cases him : i = m
      · subst him
        cases hf : F i with
        | none =>
          cases hg : G i with
          | none => rfl
          | some j =>
            obtain ⟨j', -, h2⟩ := hF.2 i (by omega) G hG.1 (fun i hi => (hs i hi).symm) j hg
            rw [hf] at h2; cases h2
        | some j =>
          obtain ⟨j1, h1, h2⟩ := hG.2 i (by omega) F hF.1 hs j hf
          obtain ⟨j2, h3, h4⟩ := hF.2 i (by omega) G hG.1 (fun i hi => (hs i hi).symm) j1 h2
          rw [hf] at h4
          cases h4
          rw [h2, show j = j1 by omega]
      · exact hs i (by omega)
  exact fun k hk => key n (Nat.le_refl _) k hk
theorem Opt.eq {n : Nat} {A : Nat → Nat → Bool} {p : Nat → Nat → Int} {F G : Nat → Option Nat} (hF : Opt n A p F) (hG : Opt n A p G) : VF n p F = VF n p G := by
  have := hF.2 G hG.1
  have := hG.2 F hF.1
  omega
/-- the rows below m are fixed -/
def cut (m : Nat) (F : Nat → Option Nat) : Nat → Option Nat := fun k => if k < m then none else F k
/-- a certificate, for the price l of a row alone -/
def Cert (n m : Nat) (A : Nat → Nat → Bool) (p : Nat → Nat → Int) (l : Int) (F : Nat → Option Nat) (a b : Nat → Int) : Prop :=
  (∀ k, k < n → 0 ≤ a k) ∧ (∀ j, j < n → 0 ≤ b j) ∧
  (∀ k j, m ≤ k → k < n → j < n → A k j = true → (∀ i, i < m → F i ≠ some j) → 0 ≤ p k j - l + a k + b j) ∧
  (∀ k, k < n → ow p l k (cut m F k) + a k + ob b (cut m F k) = 0) ∧
  (∀ j, j < n → (∀ k, k < n → cut m F k ≠ some j) → b j = 0)
theorem cut_inj {n m : Nat} {F : Nat → Option Nat} (h : injF n F) : injF n (cut m F) := fun k k' j h1 h2 h3 h4 => by
  unfold cut at h3 h4
  by_cases hk : k < m
  · rw [if_pos hk] at h3; cases h3
  · by_cases hk' : k' < m
    · rw [if_pos hk'] at h4; cases h4
    · rw [if_neg hk] at h3
      rw [if_neg hk'] at h4
      exact h k k' j h1 h2 h3 h4
theorem cut_some {m : Nat} {F : Nat → Option Nat} {k j : Nat} (h : cut m F k = some j) : m ≤ k ∧ F k = some j := by
  unfold cut at h
  by_cases hk : k < m
  · rw [if_pos hk] at h; cases h
  · rw [if_neg hk] at h
    exact ⟨by omega, h⟩
section Certs
variable {n m : Nat} {A : Nat → Nat → Bool} {p : Nat → Nat → Int} {l : Int} {F H : Nat → Option Nat} {a b : Nat → Int}
theorem cert_pt (c : Cert n m A p l F a b) (vH : Val n A H) (hm : ∀ i, i < m → H i = F i) (hmn : m ≤ n) : ∀ k, k < n → - a k - ob b (cut m H k) ≤ ow p l k (cut m H k) := fun k hk => by
  have h1 := c.1 k hk
  cases hz : cut m H k with
  | none =>
    unfold ow ob
    dsimp only
    omega
  | some j =>
    obtain ⟨hmk, hj⟩ := cut_some hz
    have h2 := c.2.2.1 k j hmk hk (vH.1 k j hk hj).2 (vH.1 k j hk hj).1 (fun i hi x => by
      have := vH.2 i k j (by omega) hk (by rw [hm i hi]; exact x) hj
      omega)
    unfold ow ob
    dsimp only
    omega
theorem cert_sum (c : Cert n m A p l F a b) (vF : Val n A F) : sz (fun k => ow p l k (cut m F k)) n = - sz a n - sz b n := by
  have e1 : sz (fun k => ow p l k (cut m F k)) n = sz (fun k => - (a k + ob b (cut m F k))) n := sz_congr (fun k hk => by have := c.2.2.2.1 k hk; omega)
  rw [e1, sz_neg (fun k => a k + ob b (cut m F k)), sz_add a, sumInj_eq n b (cut_inj vF.2) (fun k j hk hz => (vF.1 k j hk (cut_some hz).2).2) c.2.2.2.2]
  omega
theorem cert_le (c : Cert n m A p l F a b) (vF : Val n A F) (vH : Val n A H) (hm : ∀ i, i < m → H i = F i) (hmn : m ≤ n) : sz (fun k => ow p l k (cut m F k)) n ≤ sz (fun k => ow p l k (cut m H k)) n := by
  have e := cert_sum c vF
  have h1 := sz_le (cert_pt c vH hm hmn)
  have h2 : sz (fun k => - a k - ob b (cut m H k)) n = - sz a n - sz (fun k => ob b (cut m H k)) n := by
    rw [sz_congr (g := fun k => - (a k + ob b (cut m H k))) (fun k _ => by omega), sz_neg (fun k => a k + ob b (cut m H k)), sz_add a]
    omega
  have h3 := sumInj_le n b (cut_inj (m := m) vH.2) (fun k j hk hz => (vH.1 k j hk (cut_some hz).2).2) c.2.1
  omega
end Certs
theorem cut_split (n m : Nat) (p : Nat → Nat → Int) (l : Int) (F : Nat → Option Nat) : sz (fun k => ow p l k (F k)) n = sz (fun k => if k < m then ow p l k (F k) else 0) n + sz (fun k => ow p l k (cut m F k)) n := by
  rw [← sz_add]
  refine sz_congr (fun k hk => ?_)
  unfold cut
  by_cases h : k < m
  · rw [if_pos h, if_pos h]; show _ = _ + ow p l k none; unfold ow; dsimp only; omega
  · rw [if_neg h, if_neg h]; omega
theorem cert_min {n m : Nat} {A : Nat → Nat → Bool} {p : Nat → Nat → Int} {F H : Nat → Option Nat} {a b : Nat → Int} (c : Cert n m A p BIG F a b) (vF : Val n A F) (vH : Val n A H) (hm : ∀ i, i < m → H i = F i) (hmn : m ≤ n) : VF n p F ≤ VF n p H := by
  unfold VF
  rw [cut_split n m p BIG F, cut_split n m p BIG H, sz_congr (f := fun k => if k < m then ow p BIG k (H k) else 0) (g := fun k => if k < m then ow p BIG k (F k) else 0) (fun k hk => by
    by_cases h : k < m
    · rw [if_pos h, if_pos h, hm k h]
    · rw [if_neg h, if_neg h])]
  have := cert_le c vF vH hm hmn
  omega
/-- a best parting keeps to the certificate -/
theorem cert_tight {n : Nat} {A : Nat → Nat → Bool} {p : Nat → Nat → Int} {F H : Nat → Option Nat} {a b : Nat → Int} (c : Cert n 0 A p BIG F a b) (vF : Val n A F) (oH : Opt n A p H) : (∀ k j, k < n → H k = some j → p k j - BIG + a k + b j = 0) ∧ (∀ k, k < n → H k = none → a k = 0) ∧ ∀ j, j < n → (∀ k, k < n → H k ≠ some j) → b j = 0 := by
  have cz : ∀ G : Nat → Option Nat, cut 0 G = G := fun G => by funext k; unfold cut; rw [if_neg (by omega)]
  have e := cert_sum c vF
  have hp := cert_pt c oH.1 (fun i hi => absurd hi (Nat.not_lt_zero _)) (by omega)
  have h1 := sz_le hp
  have h2 : sz (fun k => - a k - ob b (cut 0 H k)) n = - sz a n - sz (fun k => ob b (cut 0 H k)) n := by
    rw [sz_congr (g := fun k => - (a k + ob b (cut 0 H k))) (fun k _ => by omega), sz_neg (fun k => a k + ob b (cut 0 H k)), sz_add a]
    omega
  have h3 := sumInj_le n b (cut_inj (m := 0) oH.1.2) (fun k j hk hz => (oH.1.1 k j hk (cut_some hz).2).2) c.2.1
  have h4 := oH.2 F vF
  unfold VF at h4
  rw [cz H] at h1 h2 h3 hp
  rw [cz F] at e
  have hpt := sz_eq (f := fun k => - a k - ob b (H k)) (g := fun k => ow p BIG k (H k)) hp (by omega)
  refine ⟨fun k j hk hz => ?_, fun k hk hz => ?_, sumInj_free oH.1.2 (fun k j hk hz => (oH.1.1 k j hk hz).2) c.2.1 (by omega)⟩
  · have e1 : - a k - ob b (H k) = ow p BIG k (H k) := hpt k hk
    rw [hz] at e1
    have e1 : - a k - b j = p k j - BIG := e1
    omega
  · have e1 : - a k - ob b (H k) = ow p BIG k (H k) := hpt k hk
    rw [hz] at e1
    have e1 : - a k - 0 = 0 := e1
    omega
/-! how many follow, and at what cost -/
def cnF (n : Nat) (F : Nat → Option Nat) : Nat := cntB (fun k => (F k).isSome) n
def csF (n : Nat) (p : Nat → Nat → Int) (F : Nat → Option Nat) : Int := sz (fun k => ow p 0 k (F k)) n
theorem VF_eq (n : Nat) (p : Nat → Nat → Int) (F : Nat → Option Nat) : VF n p F = csF n p F - BIG * cnF n F := by
  unfold VF csF cnF BIG
  induction n with
  | zero => rfl
  | succ n ih =>
    unfold sz cntB
    rw [ih]
    cases hz : F n with
    | none => show _ + 0 = _ + 0 - _ * ((_ + 0 : Nat) : Int); omega
    | some j => show _ + (p n j - 1099511627776) = _ + (p n j - 0) - _ * ((_ + 1 : Nat) : Int); omega
theorem csF_rng {n : Nat} {A : Nat → Nat → Bool} {p : Nat → Nat → Int} {F : Nat → Option Nat} (hn : n ≤ 16) (hp : ∀ k j, k < n → A k j = true → 0 ≤ p k j ∧ p k j ≤ PMX) (v : Val n A F) : 0 ≤ csF n p F ∧ csF n p F < BIG := by
  unfold csF BIG
  have key : ∀ m, m ≤ n → 0 ≤ sz (fun k => ow p 0 k (F k)) m ∧ sz (fun k => ow p 0 k (F k)) m ≤ PMX * m := by
    intro m
    induction m with
    | zero => intro _; exact ⟨Int.le_refl _, Int.le_refl _⟩
    | succ m ih =>
      intro hm
      obtain ⟨h1, h2⟩ := ih (by omega)
      unfold PMX at h2 hp ⊢
      unfold sz
      cases hz : F m with
      | none =>
        show 0 ≤ _ + 0 ∧ _ + 0 ≤ _
        omega
      | some j =>
        have := hp m j (by omega) (v.1 m j (by omega) hz).1
        show 0 ≤ _ + (p m j - 0) ∧ _ + (p m j - 0) ≤ _
        omega
  have := key n (Nat.le_refl _)
  unfold PMX at this
  omega
theorem VF_iff {n : Nat} {A : Nat → Nat → Bool} {p : Nat → Nat → Int} {F G : Nat → Option Nat} (hn : n ≤ 16) (hp : ∀ k j, k < n → A k j = true → 0 ≤ p k j ∧ p k j ≤ PMX) (vF : Val n A F) (vG : Val n A G) : VF n p F = VF n p G ↔ cnF n F = cnF n G ∧ csF n p F = csF n p G := by
  have h1 := csF_rng hn hp vF
  have h2 := csF_rng hn hp vG
  rw [VF_eq, VF_eq]
  unfold BIG at *
  omega
