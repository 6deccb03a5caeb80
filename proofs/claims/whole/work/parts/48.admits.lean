/-! all rows are admitted -/
def DU (n : Nat) (A : Nat → Nat → Bool) (p : Nat → Nat → Int) (k : Nat) (u v : Nat → Int) (R : Nat → Option Nat) : Prop :=
  (∀ r c, r < k → c < 2 * n → u r + v c ≤ wp n A p r c) ∧ (∀ c r, c < 2 * n → R c = some r → u r + v c = wp n A p r c) ∧ (∀ c, c < 2 * n → v c ≤ 0 ∧ (R c = none → v c = 0)) ∧ (∀ r, r < k → 0 ≤ u r ∧ u r ≤ BIG) ∧ (∀ r, k ≤ r → u r = 0)
def DM (n : Nat) (u v : Nat → Int) (R C : Nat → Option Nat) (M : Mem) : Prop := (∀ r, r < 2 * n → (M.2 23 r).toInt = u r) ∧ (∀ c, c < 2 * n → (M.2 24 c).toInt = v c) ∧ (∀ c, c < 2 * n → M.1 27 c = oI (R c)) ∧ (∀ r, r < 2 * n → M.1 26 r = oI (C r))
def AS (n : Nat) (A : Nat → Nat → Bool) (p : Nat → Nat → Int) (k : Nat) (u v : Nat → Int) (R C : Nat → Option Nat) (M : Mem) : Prop :=
  PM n A p M ∧ DM n u v R C M ∧ MOk n R C ∧ DU n A p k u v R ∧ ∀ r, r < 2 * n → (C r = none ↔ k ≤ r)
theorem cntB_lt {q : Nat → Bool} {N c : Nat} (hc : c < N) (h : q c = false) : cntB q N < N := by
  have h1 := cntB_one (p := q) (q := fun _ => true) (n := N) (i := c) (fun _ _ _ => rfl) hc h rfl
  have h2 := cntB_le (fun _ => true) N
  omega
theorem free_alone {n k : Nat} {R C : Nat → Option Nat} (hk : k < n) (mk : MOk n R C) (hC : ∀ r, r < 2 * n → (C r = none ↔ k ≤ r)) : ∃ z, n ≤ z ∧ z < 2 * n ∧ R z = none := by
  by_cases h : ∃ z, n ≤ z ∧ z < 2 * n ∧ R z = none
  · exact h
  · exfalso
    have hs : ∀ i, i < n → ∃ r, R (n + i) = some r ∧ r < k ∧ C r = some (n + i) := fun i hi => by
      cases hz : R (n + i) with
      | none => exact absurd ⟨n + i, by omega, by omega, hz⟩ h
      | some r =>
        obtain ⟨h1, h2⟩ := mk.1 (n + i) r (by omega) hz
        refine ⟨r, rfl, ?_, h2⟩
        rcases Nat.lt_or_ge r k with z | z
        · exact z
        · have := (hC r h1).mpr z
          rw [this] at h2; cases h2
    have := php n k (fun i => (R (n + i)).getD 0) (fun i hi => by
      obtain ⟨r, h1, h2, -⟩ := hs i hi
      show (R (n + i)).getD 0 < k
      rw [h1]; exact h2) (fun i j hi hj e => by
      obtain ⟨r, h1, h2, h3⟩ := hs i hi
      obtain ⟨r', h1', h2', h3'⟩ := hs j hj
      have e : (R (n + i)).getD 0 = (R (n + j)).getD 0 := e
      rw [h1, h1'] at e
      have e : r = r' := e
      rw [e, h3'] at h3
      have := Option.some.inj h3
      omega)
    omega
/-- a row is being admitted -/
def AI (n : Nat) (A : Nat → Nat → Bool) (p : Nat → Nat → Int) (k : Nat) (R : Nat → Option Nat) (u v sl : Nat → Int) (fr : Nat → Option Nat) (sb : Nat → Bool) (od : Nat → Nat) (st reached : Nat) (last : Option Nat) : Prop :=
  ((∀ r c, r ≤ k → c < 2 * n → u r + v c ≤ wp n A p r c) ∧ (∀ c r, c < 2 * n → R c = some r → u r + v c = wp n A p r c) ∧ (∀ c, c < 2 * n → v c ≤ 0 ∧ (R c = none → v c = 0)) ∧ (∀ r, r ≤ k → 0 ≤ u r) ∧ (∀ r, k < r → u r = 0)) ∧
  ((∀ c, sb c = true → c < 2 * n ∧ ∃ r, r < k ∧ R c = some r) ∧ cntB sb (2 * n) = st ∧
    ∀ c, sb c = true → od c < st ∧ match fr c with | none => u k + v c = wp n A p k c | some c' => sb c' = true ∧ od c' < od c ∧ ∃ r, R c' = some r ∧ u r + v c = wp n A p r c) ∧
  ((∀ c, c < 2 * n → 0 ≤ sl c ∧ sl c ≤ FAR) ∧ (∀ c, c < 2 * n → sb c = false → (∀ r, (r = k ∨ ∃ c', sb c' = true ∧ R c' = some r) → r ≠ reached → sl c ≤ wp n A p r c - u r - v c) ∧
    (sl c = FAR ∨ match fr c with | none => sl c = wp n A p k c - u k - v c | some c' => sb c' = true ∧ ∃ r, R c' = some r ∧ sl c = wp n A p r c - u r - v c))) ∧
  ((last = none ∧ reached = k) ∨ ∃ c', last = some c' ∧ sb c' = true ∧ R c' = some reached)
section Admits
variable {n : Nat} {A : Nat → Nat → Bool} {p : Nat → Nat → Int}
theorem P_admit {k : Nat} {u0 v0 : Nat → Int} {R C : Nat → Option Nat} {M : Mem} {Q : Mem → Prop} (as : AS n A p k u0 v0 R C M) (hn : n ≤ 16) (hk : k < n) (hp : ∀ k j, k < n → j < n → 0 ≤ p k j ∧ p k j ≤ PMX)
    (hQ : ∀ (N : Mem) (u v : Nat → Int) (R' C' : Nat → Option Nat), Same [23, 24, 25, 26, 27, 28, 30] M N → AS n A p (k + 1) u v R' C' N → Q N) : P_Matching_admit (nI k) M Q := by
  obtain ⟨pm, ⟨m23, m24, m27, m26⟩, mk, du, hC⟩ := as
  obtain ⟨z, z1, z2, z3⟩ := free_alone hk mk hC
  have Ck : C k = none := (hC k (by omega)).mpr (Nat.le_refl _)
  have rlt : ∀ c r, c < 2 * n → R c = some r → r < k := fun c r hc h => by
    obtain ⟨h1, h2⟩ := mk.1 c r hc h
    rcases Nat.lt_or_ge r k with y | y
    · exact y
    · have := (hC r h1).mpr y
      rw [this] at h2; cases h2
  have hinj : ∀ c c' r, c < 2 * n → c' < 2 * n → R c = some r → R c' = some r → c = c' := fun c c' r hc hc' h h' => by
    have h1 := (mk.1 c r hc h).2
    rw [(mk.1 c' r hc' h').2] at h1
    cases h1
    rfl
  have key : ∀ d st, st + d = 2 * n → ∀ (N : Mem) (u v sl : Nat → Int) (fr : Nat → Option Nat) (sb : Nat → Bool) (od : Nat → Nat) (reached : Nat) (last : Option Nat), Same [23, 24, 25, 28, 30] M N → (∀ r, r < 2 * n → (N.2 23 r).toInt = u r) → (∀ c, c < 2 * n → (N.2 24 c).toInt = v c) → (∀ c, c < 2 * n → (N.2 25 c).toInt = sl c) → (∀ c, c < 2 * n → N.1 28 c = oI (fr c)) → (∀ c, c < 2 * n → N.1 30 c = if sb c then 1 else 0) → AI n A p k R u v sl fr sb od st reached last → P_Matching_admit_46 Q (d + 1) (nI k) (nI reached) (oI last) (nI st) N := by
    intro d
    induction d with
    | zero =>
      intro st hst N u v sl fr sb od reached last sN h23 h24 h25 h28 h30 ai
      obtain ⟨-, ⟨b1, b2, -⟩, -⟩ := ai
      have zs : sb z = false := by
        cases hb : sb z
        · rfl
        · obtain ⟨-, r, -, hr⟩ := b1 z hb
          rw [z3] at hr; cases hr
      have := cntB_lt z2 zs
      omega
    | succ d ih =>
      intro st hst N u v sl fr sb od reached last sN h23 h24 h25 h28 h30 ai
      obtain ⟨⟨a1, a2, a3, a4, a5⟩, ⟨b1, b2, b3⟩, ⟨s1, s2⟩, hl⟩ := ai
      have zs : sb z = false := by
        cases hb : sb z
        · rfl
        · obtain ⟨-, r, -, hr⟩ := b1 z hb
          rw [z3] at hr; cases hr
      have hreach : reached = k ∨ ∃ c', sb c' = true ∧ R c' = some reached := by
        rcases hl with ⟨-, h⟩ | ⟨c', -, h1, h2⟩
        · exact Or.inl h
        · exact Or.inr ⟨c', h1, h2⟩
      have rk : ∀ r, (r = k ∨ ∃ c', sb c' = true ∧ R c' = some r) → r ≤ k := fun r h => by
        rcases h with h | ⟨c', h1, h2⟩
        · omega
        · have := rlt c' r (b1 c' h1).1 h2
          omega
      have uB : ∀ r, r ≤ k → u r ≤ BIG := fun r hr => by
        have h1 := a1 r z hr z2
        have h2 := (a3 z z2).2 z3
        unfold wp at h1
        rw [if_pos (by omega), if_neg (by omega)] at h1
        omega
      have vB : ∀ c, c < 2 * n → -BIG ≤ v c ∧ v c ≤ 0 := fun c hc => by
        refine ⟨?_, (a3 c hc).1⟩
        cases hz : R c with
        | none => rw [(a3 c hc).2 hz]; unfold BIG; omega
        | some r =>
          have h1 := a2 c r hc hz
          have h2 := uB r (by have := rlt c r hc hz; omega)
          have h3 := (wp_rng (A := A) hp r c).1
          omega
      have n21 : N.1 21 10 = nI (2 * n) := by rw [(sN 21 (by decide)).1]; exact pm.2.1
      have pmN : PM n A p N := pm.congr (sN 21 (by decide)).1 (sN 22 (by decide)).2
      have hrk := rk reached hreach
      unfold P_Matching_admit_46
      rw [n21]
      refine br_F (nI_ge (by omega) (by omega)) (P_lookFrom (u := u) (v := v) (sl := sl) (fr := fr) (sb := sb) pmN hn hp (by omega) h23 h24 h25 h28 h30 ⟨a4 reached hrk, uB reached hrk⟩ vB ⟨z, z2, zs⟩ (fun N1 sl1 fr1 y t1 t2 t3 t4 t5 y1 y2 y3 => ?_))
      have sN1 : Same [23, 24, 25, 28, 30] M N1 := sN.trans (t1.mono (by simp))
      have n121 : N1.1 21 10 = nI (2 * n) := by rw [(sN1 21 (by decide)).1]; exact pm.2.1
      have pmN1 : PM n A p N1 := pm.congr (sN1 21 (by decide)).1 (sN1 22 (by decide)).2
      /- all rows that are reached have looked -/
      have q1 : ∀ c, c < 2 * n → sb c = false → ∀ r, (r = k ∨ ∃ c', sb c' = true ∧ R c' = some r) → sl1 c ≤ wp n A p r c - u r - v c := fun c hc hb r hr => by
        by_cases hw : wp n A p reached c - u reached - v c < sl c
        · have e := (t4 c hc hb hw).1
          by_cases hrr : r = reached
          · rw [e, hrr]; exact Int.le_refl _
          · have := (s2 c hc hb).1 r hr hrr
            omega
        · have e := (t5 c hc (fun x => hw x.2)).1
          by_cases hrr : r = reached
          · rw [e, hrr]; omega
          · have := (s2 c hc hb).1 r hr hrr
            omega
      have q2 : ∀ c, c < 2 * n → sb c = false → match fr1 c with | none => sl1 c = wp n A p k c - u k - v c | some c' => sb c' = true ∧ ∃ r, R c' = some r ∧ sl1 c = wp n A p r c - u r - v c := fun c hc hb => by
        by_cases hw : wp n A p reached c - u reached - v c < sl c
        · obtain ⟨e1, e2⟩ := t4 c hc hb hw
          rw [e1, e2]
          rcases hl with ⟨h1, h2⟩ | ⟨c', h1, h2, h3⟩
          · rw [h1, h2]
          · rw [h1]; exact ⟨h2, reached, h3, rfl⟩
        · obtain ⟨e1, e2⟩ := t5 c hc (fun x => hw x.2)
          rw [e1, e2]
          rcases (s2 c hc hb).2 with h | h
          · have w1 := wp_rng (A := A) hp reached c
            have w2 := vB c hc
            have w3 := a4 reached hrk
            unfold FAR FORB BIG at *
            omega
          · exact h
      have q0 : ∀ c, c < 2 * n → 0 ≤ sl1 c ∧ sl1 c ≤ FAR := fun c hc => by
        by_cases hw : sb c = false ∧ wp n A p reached c - u reached - v c < sl c
        · have e := (t4 c hc hw.1 hw.2).1
          have := a1 reached c hrk hc
          have := (s1 c hc).2
          omega
        · rw [(t5 c hc hw).1]; exact s1 c hc
      refine P_isCol n121 hn y1 (br_F' (by decide) ?_)
      rw [cl_nI (n := y) (by omega)]
      refine ⟨in_nI (by omega) (by omega), P_shift (u := u) (v := v) (sl := sl1) (R := R) (sb := sb) pmN1 hn hk (fun r hr => by rw [(t1 23 (by decide)).2]; exact h23 r hr) (fun c hc => by rw [(t1 24 (by decide)).2]; exact h24 c hc) t2 (fun c hc => by rw [(sN1 27 (by decide)).1]; exact m27 c hc) (fun c hc => by rw [(t1 30 (by decide)).1]; exact h30 c hc) (fun c hc hb => (b1 c hb).2) hinj (by rw [t2 y y1]; exact q0 y y1) (fun r hr => ?_) (fun c hc => ?_) q0 (fun N2 u' v' sl2 w1 w2 w3 w4 w5 w6 w7 w8 w9 => ?_)⟩
      · by_cases hrk2 : r ≤ k
        · have := uB r hrk2
          have := a4 r hrk2
          unfold BIG FAR at *
          omega
        · rw [a5 r (by omega)]; unfold FAR; omega
      · have := vB c hc
        unfold BIG FAR at *
        omega
      rw [t2 y y1] at w5 w6 w8 w9
      have w5' : ∀ r, (r = k ∨ ∃ c', sb c' = true ∧ R c' = some r) → u' r = u r + sl1 y := fun r h => by
        rcases h with h | ⟨c', h1, h2⟩
        · rw [h]; exact w5
        · exact w6 c' r (b1 c' h1).1 h1 h2
      have w7' : ∀ r, ¬ (r = k ∨ ∃ c', sb c' = true ∧ R c' = some r) → u' r = u r := fun r h => w7 r (fun e => h (Or.inl e)) (fun c hc h1 h2 => h (Or.inr ⟨c, h1, h2⟩))
      have dp : 0 ≤ sl1 y := (q0 y y1).1
      have vs : ∀ c, c < 2 * n → sb c = true → v' c = v c - sl1 y := fun c hc hb => by rw [w8 c hc, hb]; rfl
      have vu : ∀ c, c < 2 * n → sb c = false → v' c = v c := fun c hc hb => by rw [w8 c hc, hb]; rfl
      have ss : ∀ c, c < 2 * n → sb c = true → sl2 c = sl1 c := fun c hc hb => by rw [w9 c hc, hb]; rfl
      have su : ∀ c, c < 2 * n → sb c = false → sl2 c = sl1 c - sl1 y := fun c hc hb => by rw [w9 c hc, hb]; rfl
      have sN2 : Same [23, 24, 25, 28, 30] M N2 := sN1.trans (w1.mono (by simp))
      have sN3 : Same [23, 24, 25, 28, 30] M (putI N2 30 y 1) := sN2.putI (by simp)
      /- the new duals -/
      have f1 : ∀ r c, r ≤ k → c < 2 * n → u' r + v' c ≤ wp n A p r c := fun r c hr hc => by
        have h0 := a1 r c hr hc
        by_cases hre : r = k ∨ ∃ c', sb c' = true ∧ R c' = some r
        · rw [w5' r hre]
          cases hb : sb c
          · rw [vu c hc hb]
            have := q1 c hc hb r hre
            have := y3 c hc hb
            omega
          · rw [vs c hc hb]; omega
        · rw [w7' r hre]
          cases hb : sb c
          · rw [vu c hc hb]; exact h0
          · rw [vs c hc hb]; omega
      have f2 : ∀ c r, c < 2 * n → R c = some r → u' r + v' c = wp n A p r c := fun c r hc hR => by
        have h0 := a2 c r hc hR
        cases hb : sb c
        · rw [vu c hc hb, w7' r (fun h => ?_)]
          · exact h0
          · rcases h with h | ⟨c', h1, h2⟩
            · have := rlt c r hc hR
              omega
            · have := hinj c c' r hc (b1 c' h1).1 hR h2
              rw [this, h1] at hb; cases hb
        · rw [vs c hc hb, w5' r (Or.inr ⟨c, hb, hR⟩)]; omega
      have f3 : ∀ c, c < 2 * n → v' c ≤ 0 ∧ (R c = none → v' c = 0) := fun c hc => by
        obtain ⟨h1, h2⟩ := a3 c hc
        cases hb : sb c
        · rw [vu c hc hb]; exact ⟨h1, h2⟩
        · rw [vs c hc hb]
          refine ⟨by omega, fun hz => ?_⟩
          obtain ⟨-, r, -, hr⟩ := b1 c hb
          rw [hz] at hr; cases hr
      have f4 : ∀ r, r ≤ k → 0 ≤ u' r := fun r hr => by
        have := a4 r hr
        by_cases hre : r = k ∨ ∃ c', sb c' = true ∧ R c' = some r
        · rw [w5' r hre]; omega
        · rw [w7' r hre]; exact this
      have f5 : ∀ r, k < r → u' r = 0 := fun r hr => by
        rw [w7' r (fun h => by have := rk r h; omega)]; exact a5 r hr
      have g3 : ∀ c, sb c = true → od c < st ∧ match fr1 c with | none => u' k + v' c = wp n A p k c | some c' => sb c' = true ∧ od c' < od c ∧ ∃ r, R c' = some r ∧ u' r + v' c = wp n A p r c := fun c hb => by
        have hc := (b1 c hb).1
        obtain ⟨h1, h2⟩ := b3 c hb
        rw [(t5 c hc (fun x => by rw [hb] at x; cases x.1)).2, vs c hc hb]
        refine ⟨h1, ?_⟩
        cases hz : fr c with
        | none =>
          rw [hz] at h2
          have h2 : u k + v c = wp n A p k c := h2
          show u' k + (v c - sl1 y) = wp n A p k c
          rw [w5]; omega
        | some c' =>
          rw [hz] at h2
          obtain ⟨e1, e2, r, e3, e4⟩ := h2
          refine ⟨e1, e2, r, e3, ?_⟩
          rw [w5' r (Or.inr ⟨c', e1, e3⟩)]; omega
      have gy : match fr1 y with | none => u' k + v' y = wp n A p k y | some c' => sb c' = true ∧ ∃ r, R c' = some r ∧ u' r + v' y = wp n A p r y := by
        have h2 := q2 y y1 y2
        rw [vu y y1 y2]
        cases hz : fr1 y with
        | none =>
          rw [hz] at h2
          have h2 : sl1 y = wp n A p k y - u k - v y := h2
          show u' k + v y = wp n A p k y
          rw [w5]; omega
        | some c' =>
          rw [hz] at h2
          obtain ⟨e1, r, e3, e4⟩ := h2
          refine ⟨e1, r, e3, ?_⟩
          rw [w5' r (Or.inr ⟨c', e1, e3⟩)]; omega
      have m30 : ∀ c, c < 2 * n → (putI N2 30 y 1).1 30 c = if (if c = y then true else sb c) then 1 else 0 := fun c hc => by
        rw [putI_at]
        by_cases hcy : c = y
        · rw [if_pos ⟨rfl, hcy⟩, if_pos hcy]; rfl
        · rw [if_neg (fun x => hcy x.2), if_neg hcy, (w1 30 (by decide)).1, (t1 30 (by decide)).1]
          exact h30 c hc
      have m28 : ∀ c, c < 2 * n → (putI N2 30 y 1).1 28 c = oI (fr1 c) := fun c hc => by
        rw [putI_ne1 (by omega), (w1 28 (by decide)).1]; exact t3 c hc
      have m27y : N2.1 27 y = oI (R y) := by rw [(sN2 27 (by decide)).1]; exact m27 y y1
      have stlt : st < 2 * n := by omega
      have cnt1 : cntB (fun c => if c = y then true else sb c) (2 * n) = st + 1 := by
        rw [← b2]
        exact cntB_flip (i := y) (fun x _ hx => by rw [if_neg hx]) y1 y2 (by rw [if_pos rfl])
      have ch1 : ∀ c, (if c = y then true else sb c) = true → (if c = y then st else od c) < st + 1 ∧ match fr1 c with | none => u' k + v' c = wp n A p k c | some c' => (if c' = y then true else sb c') = true ∧ (if c' = y then st else od c') < (if c = y then st else od c) ∧ ∃ r, R c' = some r ∧ u' r + v' c = wp n A p r c := fun c hb => by
        by_cases hcy : c = y
        · rw [if_pos hcy, hcy]
          refine ⟨by omega, ?_⟩
          cases hz : fr1 y with
          | none => rw [hz] at gy; exact gy
          | some c' =>
            rw [hz] at gy
            obtain ⟨e1, r, e3, e4⟩ := gy
            have hcy' : c' ≠ y := fun x => by rw [x, y2] at e1; cases e1
            have := (b3 c' e1).1
            show (if c' = y then true else sb c') = true ∧ (if c' = y then st else od c') < st ∧ _
            rw [if_neg hcy', if_neg hcy']
            exact ⟨e1, this, r, e3, e4⟩
        · rw [if_neg hcy] at hb ⊢
          obtain ⟨h1, h2⟩ := g3 c hb
          refine ⟨by omega, ?_⟩
          cases hz : fr1 c with
          | none => rw [hz] at h2; exact h2
          | some c' =>
            rw [hz] at h2
            obtain ⟨e1, e2, r, e3, e4⟩ := h2
            have hcy' : c' ≠ y := fun x => by rw [x, y2] at e1; cases e1
            show (if c' = y then true else sb c') = true ∧ (if c' = y then st else od c') < od c ∧ _
            rw [if_neg hcy', if_neg hcy']
            exact ⟨e1, e2, r, e3, e4⟩
      rw [m27y]
      cases hz : R y with
      | none =>
        refine P_noPos (br_T' rfl ?_)
        refine P_moveAlong (R := R) (C := C) (fr := fr1) (od := fun c => if c = y then st else od c) (seen := fun c => (if c = y then true else sb c) = true) (Pok := fun r c => u' r + v' c = wp n A p r c) ?_ hn (by omega) (fun c hc _ => ?_) (fun r hr _ => ?_) (fun c hc => ?_) mk hz Ck (fun c hc => ?_) ?_ (fun N4 R' C' ct x1 x2 x3 x4 x5 x6 x7 x8 x9 x10 x11 => ?_)
        · rw [(sN3 21 (by decide)).1]; exact pm.2.1
        · rw [(sN3 27 (by decide)).1]; exact m27 c hc
        · rw [(sN3 26 (by decide)).1]; exact m26 r hr
        · refine m28 c ?_
          by_cases hcy : c = y
          · omega
          · have hc : (if c = y then true else sb c) = true := hc
            rw [if_neg hcy] at hc
            exact (b1 c hc).1
        · obtain ⟨h1, h2⟩ := ch1 c hc
          refine ⟨?_, by show (if c = y then st else od c) < 2 * n; omega, h2⟩
          by_cases hcy : c = y
          · omega
          · have hc : (if c = y then true else sb c) = true := hc
            rw [if_neg hcy] at hc
            exact (b1 c hc).1
        · show (if y = y then true else sb y) = true
          rw [if_pos rfl]
        · have s4 : Same [23, 24, 25, 26, 27, 28, 30] M N4 := (sN3.mono (by simp)).trans (x1.mono (by simp))
          refine hQ N4 u' v' R' C' s4 ⟨pm.congr (s4 21 (by decide)).1 (s4 22 (by decide)).2, ⟨fun r hr => ?_, fun c hc => ?_, x2, x3⟩, x4, ⟨fun r c hr hc => f1 r c (by omega) hc, fun c r hc hR => ?_, fun c hc => ⟨(f3 c hc).1, fun h => (f3 c hc).2 (x6 c h).2⟩, fun r hr => ⟨f4 r (by omega), ?_⟩, fun r hr => f5 r (by omega)⟩, fun r hr => ⟨fun h => ?_, fun h => ?_⟩⟩
          · rw [(x1 23 (by decide)).2]; exact w2 r hr
          · rw [(x1 24 (by decide)).2]; exact w3 c hc
          · rcases x5 c r hR with h | h
            · exact h
            · exact f2 c r hc h
          · have h1 := f1 r z (by omega) z2
            have h2 := (f3 z z2).2 z3
            unfold wp at h1
            rw [if_pos (by omega), if_neg (by omega)] at h1
            omega
          · have h2 := (hC r hr).mp (x8 r h)
            rcases Nat.lt_or_ge k r with y' | y'
            · exact y'
            · have : r = k := by omega
              rw [this, x9] at h; cases h
          · by_cases hd : C' r = C r
            · rw [hd]; exact (hC r hr).mpr (by omega)
            · rcases x7 r hd with e | ⟨c', h1, h2⟩
              · omega
              · have h1 : (if c' = y then true else sb c') = true := h1
                have : c' < 2 * n := by
                  by_cases hcy : c' = y
                  · omega
                  · rw [if_neg hcy] at h1; exact (b1 c' h1).1
                have := rlt c' r this h2
                omega
      | some r1 =>
        have hr1 := rlt y r1 y1 hz
        have n39 : (putI N2 30 y 1).1 21 9 = nI n := by rw [(sN3 21 (by decide)).1]; exact pm.1
        refine P_isPos n39 hn (by omega) (fun _ => br_F' (by decide) ?_) (fun x => absurd (show r1 < n by omega) x)
        rw [nI_1]
        refine ih (st + 1) (by omega) (putI N2 30 y 1) u' v' sl2 fr1 (fun c => if c = y then true else sb c) (fun c => if c = y then st else od c) r1 (some y) sN3 w2 w3 w4 m28 m30 ⟨⟨f1, f2, f3, f4, f5⟩, ⟨fun c hb => ?_, cnt1, ch1⟩, ⟨fun c hc => ?_, fun c hc hb => ⟨fun r hr hne => ?_, Or.inr ?_⟩⟩, Or.inr ⟨y, rfl, if_pos rfl, hz⟩⟩
        · by_cases hcy : c = y
          · rw [hcy]; exact ⟨y1, r1, hr1, hz⟩
          · have hb : (if c = y then true else sb c) = true := hb
            rw [if_neg hcy] at hb
            exact b1 c hb
        · have := q0 c hc
          cases hb : sb c
          · rw [su c hc hb]
            have := y3 c hc hb
            omega
          · rw [ss c hc hb]; exact this
        · have hb : (if c = y then true else sb c) = false := hb
          by_cases hcy : c = y
          · rw [if_pos hcy] at hb; cases hb
          · rw [if_neg hcy] at hb
            have hr2 : r = k ∨ ∃ c', sb c' = true ∧ R c' = some r := by
              rcases hr with h | ⟨c', h1, h2⟩
              · exact Or.inl h
              · by_cases hcy' : c' = y
                · rw [hcy', hz] at h2
                  cases h2
                  exact absurd rfl hne
                · have h1 : (if c' = y then true else sb c') = true := h1
                  rw [if_neg hcy'] at h1
                  exact Or.inr ⟨c', h1, h2⟩
            have := q1 c hc hb r hr2
            rw [su c hc hb, w5' r hr2, vu c hc hb]
            omega
        · have hb : (if c = y then true else sb c) = false := hb
          by_cases hcy : c = y
          · rw [if_pos hcy] at hb; cases hb
          · rw [if_neg hcy] at hb
            have h2 := q2 c hc hb
            rw [su c hc hb, vu c hc hb]
            cases hw : fr1 c with
            | none =>
              rw [hw] at h2
              have h2 : sl1 c = wp n A p k c - u k - v c := h2
              show sl1 c - sl1 y = wp n A p k c - u' k - v c
              rw [w5]; omega
            | some c' =>
              rw [hw] at h2
              obtain ⟨e1, r, e3, e4⟩ := h2
              refine ⟨?_, r, e3, ?_⟩
              · show (if c' = y then true else sb c') = true
                by_cases hcy' : c' = y
                · rw [if_pos hcy']
                · rw [if_neg hcy']; exact e1
              · rw [w5' r (Or.inr ⟨c', e1, e3⟩)]; omega
  have k2 : ∀ d i, i + d = 2 * n → ∀ N, Same [25, 28, 30] M N → (∀ c, c < i → (N.2 25 c).toInt = FAR ∧ N.1 28 c = -1 ∧ N.1 30 c = 0) → P_Matching_admit_2 Q (d + 1) (nI k) (nI i) N := by
    intro d
    induction d with
    | zero =>
      intro i hi N sN hN
      have : i = 2 * n := by omega
      subst this
      unfold P_Matching_admit_2
      have n21 : N.1 21 10 = nI (2 * n) := by rw [(sN 21 (by decide)).1]; exact pm.2.1
      rw [n21]
      obtain ⟨d1, d2, d3, d4, d5⟩ := du
      refine br_T (nI_le (by omega) (by omega)) ⟨2 * n + 1, key (2 * n) 0 (by omega) N u0 v0 (fun _ => FAR) (fun _ => none) (fun _ => false) (fun _ => 0) k none (sN.mono (by simp)) (fun r hr => by rw [(sN 23 (by decide)).2]; exact m23 r hr) (fun c hc => by rw [(sN 24 (by decide)).2]; exact m24 c hc) (fun c hc => (hN c hc).1) (fun c hc => (hN c hc).2.1) (fun c hc => (hN c hc).2.2) ⟨⟨fun r c hr hc => ?_, d2, d3, fun r hr => ?_, fun r hr => d5 r (by omega)⟩, ⟨fun c hb => ?_, ?_, fun c hb => ?_⟩, ⟨fun c hc => ⟨by show 0 ≤ FAR; unfold FAR; omega, Int.le_refl _⟩, fun c hc _ => ⟨fun r hr hne => ?_, Or.inl rfl⟩⟩, Or.inl ⟨rfl, rfl⟩⟩⟩
      · by_cases hrk : r = k
        · rw [hrk, d5 k (Nat.le_refl _)]
          have := (d3 c hc).1
          have := (wp_rng (A := A) hp k c).1
          omega
        · exact d1 r c (by omega) hc
      · by_cases hrk : r = k
        · rw [hrk, d5 k (Nat.le_refl _)]; exact Int.le_refl _
        · exact (d4 r (by omega)).1
      · cases hb
      · have : ∀ q, cntB (fun _ => false) q = 0 := fun q => by
          induction q with
          | zero => rfl
          | succ q ih => rw [cntB_succ_f (by decide)]; exact ih
        exact this _
      · cases hb
      · rcases hr with h | ⟨c', h1, -⟩
        · exact absurd h hne
        · cases h1
    | succ d ih =>
      intro i hi N sN hN
      unfold P_Matching_admit_2
      have n21 : N.1 21 10 = nI (2 * n) := by rw [(sN 21 (by decide)).1]; exact pm.2.1
      rw [n21, nI_1, cl_nI (n := i) (by omega)]
      refine br_F (nI_ge (by omega) (by omega)) ⟨in_nI (by omega) (by omega), ih (i + 1) (by omega) _ (((sN.putL (by simp)).putI (by simp)).putI (by simp)) (fun c hc => ?_)⟩
      by_cases hci : c = i
      · subst hci
        refine ⟨?_, by rw [putI_ne1 (by omega), putI_same], putI_same⟩
        show ((putL N 25 c 1152921504606846976).2 25 c).toInt = FAR
        rw [putL_at, if_pos ⟨rfl, rfl⟩]
        exact FAR_is
      · obtain ⟨h1, h2, h3⟩ := hN c (by omega)
        refine ⟨?_, ?_, ?_⟩
        · show ((putL N 25 i 1152921504606846976).2 25 c).toInt = FAR
          rw [putL_at, if_neg (fun x => hci x.2)]
          exact h1
        · rw [putI_ne1 (by omega), putI_at, if_neg (fun x => hci x.2)]; exact h2
        · rw [putI_at, if_neg (fun x => hci x.2), putI_ne1 (by omega)]; exact h3
  unfold P_Matching_admit
  exact ⟨2 * n + 1, k2 (2 * n) 0 (by omega) M (Same.refl _ _) (fun c hc => absurd hc (Nat.not_lt_zero _))⟩
end Admits
