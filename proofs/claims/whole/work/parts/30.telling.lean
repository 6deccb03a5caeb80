/-! a frame's fields -/
def setRow (M : Mem) (c : Nat) (f : Nat → Int32) : Mem := (fun a => if a = c then f else M.1 a, M.2)
theorem setRow_at (M : Mem) (c : Nat) (f : Nat → Int32) : (setRow M c f).1 c = f := if_pos rfl
theorem setRow_ne {M : Mem} {c d : Nat} {f : Nat → Int32} (h : d ≠ c) : (setRow M c f).1 d = M.1 d := if_neg h
theorem setRow_put (M : Mem) (c k : Nat) (f : Nat → Int32) (v : Int32) : putI (setRow M c f) c k v = setRow M c (upd f k v) := by
  unfold putI setRow upd
  congr 1
  funext a b
  by_cases h : a = c <;> by_cases h2 : b = k <;> simp [h, h2]
theorem setRow_own (M : Mem) (c : Nat) : setRow M c (M.1 c) = M := by
  unfold setRow
  refine Prod.ext (funext fun a => ?_) rfl
  by_cases h : a = c
  · simp [h]
  · simp [h]
theorem putI_row (M : Mem) (c k : Nat) (v : Int32) : putI M c k v = setRow M c (upd (M.1 c) k v) := by
  rw [← setRow_put, setRow_own]
theorem mix_row {A B : Mem} {c : Nat} {f : Nat → Int32} (h : 35 ≤ c) : setRow (mix A B) c f = mix A (setRow B c f) := by
  unfold setRow mix
  refine Prod.ext (funext fun a => ?_) rfl
  by_cases h1 : a < 35
  · simp [h1, show ¬ a = c by omega]
  · simp [h1]
def widN : List Nat := [16, 16, 8, 8, 15, 15, 8, 0, 31, 0, 0, 0, 3, 3, 3, 20, 12, 3, 0, 0]
def fw (k i : Nat) : Nat := widN.getD ((k - 1) * 4 + i) 0
def fo (k : Nat) : Nat → Nat
  | 0 => 0
  | i + 1 => fo k i + fw k i
theorem wid_N : ∀ j, j < 20 → wid j = nI (widN.getD j 0) := by decide +kernel
theorem fw_le : ∀ k, k < 6 → ∀ i, i < 4 → fw k i ≤ 31 := by decide +kernel
theorem fo_le : ∀ k, k < 6 → ∀ i, i < 5 → fo k i ≤ fo k 4 ∧ fo k i ≤ 48 := by decide +kernel
def sg (x w : Nat) : Int32 := if x / 2 ^ (w - 1) = 1 then nI x - ((1 : Int32) <<< (nI w &&& 31)) else nI x
def fv (g : Nat → Int32) (a k i : Nat) : Int32 := if fw k i = 0 then -1 else if k = 1 then sg (rv g (a + 24 + fo k i) (fw k i)) (fw k i) else nI (rv g (a + 24 + fo k i) (fw k i))
def lets (x : Int32) : Nat → Bool
  | 0 => true
  | n + 1 => lets x n && decide (((x >>> ((nI (5 * n)) &&& 31)) &&& 31) ≤ 26)
def toldB (k : Nat) (n : Nat → Int32) : Bool :=
  if k = 2 then lets (n 0) 3 && lets (n 1) 3
  else if k = 4 then !decide (n 2 < 2) && !decide (5 < n 2) && !decide (n 2 ≤ n 1) && lets (n 3) 4
  else if k = 5 then !decide (2250 ≤ n 0) && !decide (n 1 ≤ 0)
  else true
def lenB (k L : Nat) : Bool := decide (24 ≤ L) && decide (1 ≤ k) && decide (k ≤ 5) && decide (L = 24 + fo k 4)
def fB (g : Nat → Int32) (a L : Nat) : Bool := lenB (rv g a 4) L && toldB (rv g a 4) (fv g a (rv g a 4))
def rK (g : Nat → Int32) (a L : Nat) : Int32 := if fB g a L then nI (rv g a 4) else 0
def rS (g : Nat → Int32) (a L : Nat) : Int32 := if fB g a L then nI (rv g (a + 4) 20) else -1
def rF (g : Nat → Int32) (a L i : Nat) : Int32 := if fB g a L then fv g a (rv g a 4) i else -1
theorem lets_false {x : Int32} {n m : Nat} (h : lets x n = false) (hm : n ≤ m) : lets x m = false := by
  induction m with
  | zero => rw [show n = 0 by omega] at h; exact h
  | succ m ih =>
    by_cases hn : n = m + 1
    · rw [← hn]; exact h
    · unfold lets; rw [ih (by omega)]; rfl
theorem P_letters {x : Int32} {n : Nat} {Q : Int32 → Mem → Prop} {M : Mem} (hn : n ≤ 5) (hQ : Q (if lets x n then 1 else 0) M) : P_Telling_areLetters x (nI n) M Q := by
  unfold P_Telling_areLetters
  have key : ∀ d j, j + d = n → lets x j = true → P_Telling_areLetters_2 Q (d + 1) x (nI n) (nI j) M := by
    intro d
    induction d with
    | zero =>
      intro j hj ht
      have : j = n := by omega
      subst this
      unfold P_Telling_areLetters_2
      rw [ht] at hQ
      exact br_T (nI_le (by omega) (by omega)) hQ
    | succ d ih =>
      intro j hj ht
      unfold P_Telling_areLetters_2
      rw [show nI j * 5 = nI (5 * j) by rw [show (5 : Int32) = nI 5 from rfl, pk_mul, Nat.mul_comm]]
      refine br_F (nI_ge (by omega) (by omega)) ⟨fun h => ?_, fun h => ?_⟩
      · rw [nI_1]
        exact ih (j + 1) (by omega) (by unfold lets; rw [ht]; simpa using h)
      · have : lets x n = false := lets_false (n := j + 1) (by unfold lets; rw [ht]; simpa using h) (by omega)
        rw [this] at hQ
        exact hQ
  exact ⟨n + 1, key n 0 (by omega) rfl⟩
theorem P_moletters {x : Int32} {n : Nat} {Q : Int32 → Mem → Prop} {M : Mem} (hn : n ≤ 5) (hQ : Q (if lets x n then 1 else 0) M) : P_Mo_areLetters x (nI n) M Q := by
  unfold P_Mo_areLetters
  have key : ∀ d j, j + d = n → lets x j = true → P_Mo_areLetters_2 Q (d + 1) x (nI n) (nI j) M := by
    intro d
    induction d with
    | zero =>
      intro j hj ht
      have : j = n := by omega
      subst this
      unfold P_Mo_areLetters_2
      rw [ht] at hQ
      exact br_T (nI_le (by omega) (by omega)) hQ
    | succ d ih =>
      intro j hj ht
      unfold P_Mo_areLetters_2
      rw [show 5 * nI j = nI (5 * j) from pk_mul 5 j]
      refine br_F (nI_ge (by omega) (by omega)) ⟨fun h => ?_, fun h => ?_⟩
      · rw [nI_1]
        exact ih (j + 1) (by omega) (by unfold lets; rw [ht]; simpa using h)
      · have : lets x n = false := lets_false (n := j + 1) (by unfold lets; rw [ht]; simpa using h) (by omega)
        rw [this] at hQ
        exact hQ
  exact ⟨n + 1, key n 0 (by omega) rfl⟩
/-! the class' telling -/
theorem P_width {k i : Nat} {Q : Int32 → Mem → Prop} {M : Mem} (h : M.1 7 1 = nI k) (h1 : 1 ≤ k) (h5 : k ≤ 5) (hi : i < 4) (hQ : Q (nI (fw k i)) M) : P_Telling_width (nI i) M Q := by
  unfold P_Telling_width
  rw [h, show nI k - 1 = nI (k - 1) from pk_sub (b := 1) h1, show nI (k - 1) * 4 = nI ((k - 1) * 4) from pk_mul _ 4, nI_add]
  refine br_F (nI_pos (by omega)) (br_F (nI_ge (b := 4) (by omega) (by omega)) (br_F (nI_pos (by omega)) (br_F (nI_ge (b := 20) (by omega) (by omega)) ⟨in_nI (by omega) (by omega), ?_⟩)))
  rw [cl_nI (by omega), wid_N _ (by omega)]
  exact hQ
theorem P_bodyBits {k : Nat} {Q : Int32 → Mem → Prop} {M : Mem} (h : M.1 7 1 = nI k) (h1 : 1 ≤ k) (h5 : k ≤ 5) (hQ : Q (nI (fo k 4)) M) : P_Telling_bodyBits M Q := by
  unfold P_Telling_bodyBits
  have key : ∀ d j, j + d = 4 → P_Telling_bodyBits_4 Q (d + 1) (nI (fo k j)) (nI j) M := by
    intro d
    induction d with
    | zero =>
      intro j hj
      have : j = 4 := by omega
      subst this
      unfold P_Telling_bodyBits_4
      exact br_T (nI_le (a := 4) (by omega) (by omega)) hQ
    | succ d ih =>
      intro j hj
      unfold P_Telling_bodyBits_4
      refine br_F (nI_ge (b := 4) (by omega) (by omega)) (P_width h h1 h5 (by omega) ?_)
      rw [nI_add, nI_1]
      exact ih (j + 1) (by omega)
  exact ⟨5, key 4 0 rfl⟩
theorem P_told {k : Nat} {Q : Int32 → Mem → Prop} {M : Mem} (h : M.1 7 1 = nI k) (h5 : k ≤ 5) (hQ : Q (if toldB k (M.1 8) then 1 else 0) M) : P_Telling_isAsTold M Q := by
  have ne : ∀ a b : Nat, a < 6 → b < 6 → a ≠ b → ¬ nI a = nI b := fun a b ha hb hab => by rw [nI_eq (by omega) (by omega)]; exact hab
  have iv : ∀ n, n < 4 → vp_in (nI n) 4 := fun n hn => in_nI hn (by omega)
  unfold P_Telling_isAsTold
  rw [h]
  refine ⟨fun hk => ?_, fun hk => ?_, fun hk => ?_, fun hk => ?_, fun e2 e3 e4 e5 => ?_⟩
  · have : k = 2 := (nI_eq (b := 2) (by omega) (by omega)).mp hk
    subst this
    refine ⟨iv 0 (by omega), P_letters (n := 3) (by omega) ?_⟩
    unfold toldB at hQ
    rw [if_pos rfl] at hQ
    cases ha : lets (M.1 8 0) 3
    · exact br_T rfl (by rw [ha] at hQ; exact hQ)
    · refine br_F (by decide) ⟨iv 1 (by omega), P_letters (n := 3) (by omega) ?_⟩
      cases hb : lets (M.1 8 1) 3
      · exact br_T rfl (by rw [ha, hb] at hQ; exact hQ)
      · exact br_F (by decide) (by rw [ha, hb] at hQ; exact hQ)
  · have : k = 3 := (nI_eq (b := 3) (by omega) (by omega)).mp hk
    subst this
    simpa [toldB] using hQ
  · have : k = 4 := (nI_eq (b := 4) (by omega) (by omega)).mp hk
    subst this
    refine ⟨iv 2 (by omega), ⟨fun c1 => ?_, fun c1 => ⟨fun c2 => ?_, fun c2 => ⟨iv 1 (by omega), ⟨fun c3 => ?_, fun c3 => ⟨iv 3 (by omega), P_letters (n := 4) (by omega) ?_⟩⟩⟩⟩⟩⟩
    · simpa [toldB, c1] using hQ
    · simpa [toldB, c1, c2] using hQ
    · simpa [toldB, c1, c2, c3] using hQ
    · cases ha : lets (M.1 8 3) 4
      · exact br_T rfl (by simpa [toldB, c1, c2, c3, ha] using hQ)
      · exact br_F (by decide) (by simpa only [toldB, c1, c2, c3, ha, decide_false, Bool.not_false, Bool.and_self, if_true, reduceIte, show ¬ (4 = 2) by omega] using hQ)
  · have : k = 5 := (nI_eq (b := 5) (by omega) (by omega)).mp hk
    subst this
    refine ⟨iv 0 (by omega), ⟨fun c1 => ?_, fun c1 => ⟨iv 1 (by omega), ⟨fun c2 => ?_, fun c2 => ?_⟩⟩⟩⟩
    · simpa [toldB, c1] using hQ
    · simpa [toldB, c1, c2] using hQ
    · simpa only [toldB, c1, c2, decide_false, Bool.not_false, Bool.and_self, if_true, reduceIte, show ¬ (5 = 2) by omega, show ¬ (5 = 4) by omega] using hQ
  · have n2 : k ≠ 2 := fun x => e2 (by rw [x]; rfl)
    have n4 : k ≠ 4 := fun x => e4 (by rw [x]; rfl)
    have n5 : k ≠ 5 := fun x => e5 (by rw [x]; rfl)
    simpa [toldB, n2, n4, n5] using hQ
theorem sgq {x w : Nat} (hw : 1 ≤ w) (hw2 : w ≤ 31) (hx : x < 2 ^ w) : x / 2 ^ (w - 1) < 2 := by
  rw [Nat.div_lt_iff_lt_mul (Nat.two_pow_pos _), show 2 * 2 ^ (w - 1) = 2 ^ w by rw [Nat.mul_comm, ← Nat.pow_succ]; congr 1; omega]
  exact hx
theorem lt31 {x w : Nat} (hw2 : w ≤ 31) (hx : x < 2 ^ w) : x < 2 ^ 31 := Nat.lt_of_lt_of_le hx (Nat.pow_le_pow_right (by omega) hw2)
theorem P_csigned {k x w : Nat} {Q : Int32 → Mem → Prop} {M : Mem} (h : M.1 7 1 = nI k) (h5 : k ≤ 5) (hw : 1 ≤ w) (hw2 : w ≤ 31) (hx : x < 2 ^ w) (hQ : Q (if k = 1 then sg x w else nI x) M) : P_Telling_signed (nI x) (nI w) M Q := by
  unfold P_Telling_signed P_Telling_signed_23 P_Telling_signed_24
  have hq := sgq hw hw2 hx
  have hxx := lt31 hw2 hx
  have e1 : nI w - 1 = nI (w - 1) := pk_sub (b := 1) hw
  have e2 : (nI x >>> (nI (w - 1) &&& 31)) = nI (x / 2 ^ (w - 1)) := pk_shrN hxx _ _ (s_of _ (by omega))
  rw [h, e1, e2]
  refine ⟨fun hk => br_T rfl ?_, fun hk => ?_⟩
  · have : k ≠ 1 := fun e => hk (by rw [e]; rfl)
    rw [if_neg this] at hQ
    exact hQ
  · have : k = 1 := (nI_eq (b := 1) (by omega) (by omega)).mp hk
    rw [if_pos this] at hQ
    unfold sg at hQ
    rcases (show x / 2 ^ (w - 1) = 0 ∨ x / 2 ^ (w - 1) = 1 by generalize x / 2 ^ (w - 1) = z at hq; omega) with q | q
    · rw [q] at hQ ⊢
      exact br_F' (by decide) (br_T rfl hQ)
    · rw [q] at hQ ⊢
      exact br_T' (by decide) (br_F (by decide) hQ)
theorem P_mosigned {x w : Nat} {Q : Int32 → Mem → Prop} {M : Mem} (hw : 1 ≤ w) (hw2 : w ≤ 31) (hx : x < 2 ^ w) (hQ : Q (sg x w) M) : P_Mo_signed (nI x) (nI w) M Q := by
  unfold P_Mo_signed
  have hq := sgq hw hw2 hx
  have hxx := lt31 hw2 hx
  have e1 : nI w - 1 = nI (w - 1) := pk_sub (b := 1) hw
  have e2 : (nI x >>> (nI (w - 1) &&& 31)) = nI (x / 2 ^ (w - 1)) := pk_shrN hxx _ _ (s_of _ (by omega))
  rw [e1, e2]
  unfold sg at hQ
  rcases (show x / 2 ^ (w - 1) = 0 ∨ x / 2 ^ (w - 1) = 1 by generalize x / 2 ^ (w - 1) = z at hq; omega) with q | q
  · rw [q] at hQ ⊢
    exact br_F' (by decide) hQ
  · rw [q] at hQ ⊢
    exact br_T' (by decide) hQ
theorem toldB_congr {k : Nat} {f g : Nat → Int32} (h : ∀ i, i < 4 → f i = g i) : toldB k f = toldB k g := by
  unfold toldB
  rw [h 0 (by omega), h 1 (by omega), h 2 (by omega), h 3 (by omega)]
theorem P_readAll_61 {c k : Nat} {Q : Int32 → Mem → Prop} {M : Mem} (hc : c + 1 ≠ 8) (h : M.1 7 1 = nI k) (h1 : 1 ≤ k) (h5 : k ≤ 5) (hb : BitsOk (M.1 (c + 1)) 0 (24 + fo k 4))
    (hQ : ∀ N, Same [8] M N → (∀ i, i < 4 → N.1 8 i = fv (M.1 (c + 1)) 0 k i) → Q (if toldB k (fv (M.1 (c + 1)) 0 k) then 1 else 0) N) : ∃ m, P_Telling_readAll_61 c Q m 24 0 M := by
  have key : ∀ d j, j + d = 4 → ∀ N, Same [8] M N → (∀ i, i < j → N.1 8 i = fv (M.1 (c + 1)) 0 k i) → P_Telling_readAll_61 c Q (d + 1) (nI (24 + fo k j)) (nI j) N := by
    intro d
    induction d with
    | zero =>
      intro j hj N hS hN
      have : j = 4 := by omega
      subst this
      unfold P_Telling_readAll_61
      have h7 : N.1 7 1 = nI k := by rw [(hS 7 (by decide)).1]; exact h
      refine br_T (nI_le (a := 4) (by omega) (by omega)) (P_told h7 h5 ?_)
      rw [toldB_congr hN]
      exact hQ N hS hN
    | succ d ih =>
      intro j hj N hS hN
      unfold P_Telling_readAll_61
      have h7 : N.1 7 1 = nI k := by rw [(hS 7 (by decide)).1]; exact h
      have hg : N.1 (c + 1) = M.1 (c + 1) := (hS (c + 1) (by simp; omega)).1
      have hw := fw_le k (by omega) j (by omega)
      have ho := (fo_le k (by omega) (j + 1) (by omega)).1
      have ho2 := (fo_le k (by omega) (j + 1) (by omega)).2
      have ho3 := (fo_le k (by omega) 4 (by omega)).2
      have eo : fo k (j + 1) = fo k j + fw k j := rfl
      have nxt : ∀ v, v = fv (M.1 (c + 1)) 0 k j → P_Telling_readAll_61 c Q (d + 1) (nI (24 + fo k (j + 1))) (nI (j + 1)) (putI N 8 j v) := fun v hv =>
        ih (j + 1) (by omega) _ (hS.putI (by simp)) (fun i hi => by
          rw [putI_at]
          by_cases hij : i = j
          · rw [if_pos ⟨rfl, hij⟩, hv, hij]
          · rw [if_neg (fun x => hij x.2)]
            exact hN i (by omega))
      refine br_F (nI_ge (b := 4) (by omega) (by omega)) (P_width h7 h1 h5 (by omega) ⟨fun hw0 => ?_, fun hw0 => ?_⟩)
      · have hwp : 1 ≤ fw k j := by
          rcases Nat.eq_zero_or_pos (fw k j) with z | z
          · rw [z] at hw0; exact absurd rfl hw0
          · exact z
        refine P_number (by rw [hg]; exact fun i hi => by have := hb (24 + fo k j + i) (by omega); rwa [Nat.zero_add] at this) (by omega) (by omega) ?_
        refine P_csigned h7 h5 hwp hw (rv_lt _ _ _) ?_
        unfold P_Telling_readAll_100
        refine ⟨in_nI (by omega) (by omega), ?_⟩
        rw [cl_nI (by omega), nI_add, nI_1, Nat.add_assoc, ← eo]
        refine nxt _ ?_
        unfold fv
        rw [if_neg (show ¬ fw k j = 0 by omega), hg, Nat.zero_add]
      · have hw1 : fw k j = 0 := (nI_eq (b := 0) (by omega) (by omega)).mp hw0
        unfold P_Telling_readAll_100
        refine ⟨in_nI (by omega) (by omega), ?_⟩
        rw [cl_nI (by omega), nI_add, nI_1, Nat.add_assoc, ← eo]
        refine nxt _ ?_
        unfold fv
        rw [if_pos hw1]
  have k0 := key 4 0 rfl M (Same.refl _ _) (fun i hi => absurd hi (Nat.not_lt_zero _))
  exact ⟨5, k0⟩
theorem P_readAll {c L : Nat} {Q : Int32 → Mem → Prop} {M : Mem} (hc : c = 3 ∨ c = 5) (h5 : M.1 c 5 = nI L) (hL : L ≤ 284) (hb : BitsOk (M.1 (c + 1)) 0 L)
    (h1 : fB (M.1 (c + 1)) 0 L = true → ∀ N, Same [7, 8] M N → N.1 7 1 = nI (rv (M.1 (c + 1)) 0 4) → N.1 7 2 = nI (rv (M.1 (c + 1)) 4 20) → (∀ i, i < 4 → N.1 8 i = fv (M.1 (c + 1)) 0 (rv (M.1 (c + 1)) 0 4) i) → Q 1 N)
    (h0 : fB (M.1 (c + 1)) 0 L = false → ∀ N, Same [7, 8] M N → Q 0 N) : P_Telling_readAll c M Q := by
  unfold P_Telling_readAll P_Ear_frameBits
  rw [h5]
  have hk16 := rv_lt (M.1 (c + 1)) 0 4
  refine ⟨fun hl => ?_, fun hl => ?_⟩
  · have hl : 24 ≤ L := (nle_of (e := 24) (by omega) (by omega)).mp hl
    refine P_number (a := 0) (n := 4) (fun i hi => hb i (by omega)) (by omega) (by omega) ?_
    have g1 : ∀ v, (putI M 7 1 v).1 (c + 1) = M.1 (c + 1) := fun v => putI_ne1 (by omega)
    refine P_number (a := 4) (n := 20) (fun i hi => by rw [g1]; have := hb (4 + i) (by omega); rwa [Nat.zero_add] at this) (by omega) (by omega) ?_
    rw [g1]
    generalize hk : rv (M.1 (c + 1)) 0 4 = k at *
    generalize hs : nI (rv (M.1 (c + 1)) 4 20) = s at *
    have hS : Same [7, 8] M (putI (putI M 7 1 (nI k)) 7 2 s) := ((Same.refl _ _).putI (by simp)).putI (by simp)
    have hm : (putI (putI M 7 1 (nI k)) 7 2 s).1 (c + 1) = M.1 (c + 1) := (hS (c + 1) (by simp; omega)).1
    unfold P_Telling_isKind
    show ((nI k < 1 → _) ∧ (¬ nI k < 1 → (5 < nI k → _) ∧ (¬ 5 < nI k → _)))
    refine ⟨fun k1 => br_T rfl (h0 ?_ _ hS), fun k1 => ⟨fun k5 => br_T rfl (h0 ?_ _ hS), fun k5 => br_F (by decide) ?_⟩⟩
    · have : k < 1 := (nlt_of (a := 1) (by omega) (by omega)).mp k1
      unfold fB lenB
      rw [hk, show k = 0 by omega]
      simp
    · have : 5 < k := (nlt_of (e := 5) (by omega) (by omega)).mp k5
      unfold fB lenB
      rw [hk]
      simp [show ¬ k ≤ 5 by omega]
    · have k1' : 1 ≤ k := by
        rcases Nat.lt_or_ge k 1 with z | z
        · exact absurd ((nlt_of (a := 1) (by omega) (by omega)).mpr z) k1
        · exact z
      have k5' : k ≤ 5 := by
        rcases Nat.lt_or_ge 5 k with z | z
        · exact absurd ((nlt_of (e := 5) (by omega) (by omega)).mpr z) k5
        · exact z
      have hf := (fo_le k (by omega) 4 (by omega)).2
      refine P_bodyBits (k := k) rfl k1' k5' ?_
      have e5 : (putI (putI M 7 1 (nI k)) 7 2 s).1 c 5 = nI L := by rw [(hS c (by simp; omega)).1]; exact h5
      rw [e5, show (24 : Int32) + nI (fo k 4) = nI (24 + fo k 4) from nI_add 24 _]
      refine ⟨fun he => ?_, fun he => h0 ?_ _ hS⟩
      · have he : L = 24 + fo k 4 := (nI_eq (by omega) (by omega)).mp he
        refine P_readAll_61 (k := k) (by omega) rfl k1' k5' (by rw [hm, ← he]; exact hb) (fun N hN h8 => ?_)
        rw [hm] at h8 ⊢
        have hS2 : Same [7, 8] M N := hS.trans (hN.mono (by simp))
        have hfb : fB (M.1 (c + 1)) 0 L = toldB k (fv (M.1 (c + 1)) 0 k) := by
          unfold fB lenB
          rw [hk]
          simp [hl, k1', k5', ← he]
        rw [← hfb]
        have e1 : N.1 7 1 = nI k := by rw [(hN 7 (by decide)).1]; rfl
        have e2 : N.1 7 2 = s := by rw [(hN 7 (by decide)).1]; rfl
        cases hv : fB (M.1 (c + 1)) 0 L
        · exact h0 hv N hS2
        · exact h1 hv N hS2 e1 e2 h8
      · have he : L ≠ 24 + fo k 4 := fun x => he (by rw [x])
        unfold fB lenB
        rw [hk]
        simp [he]
  · have hl : ¬ 24 ≤ L := fun x => hl ((nle_of (e := 24) (by omega) (by omega)).mpr x)
    refine h0 ?_ M (Same.refl _ _)
    unfold fB lenB
    simp [hl]
theorem P_readFrom {c L : Nat} {Q : Mem → Prop} {M : Mem} (hc : c = 3 ∨ c = 5) (h5 : M.1 c 5 = nI L) (hL : L ≤ 284) (hb : BitsOk (M.1 (c + 1)) 0 L)
    (hQ : ∀ N, Same [7, 8] M N → N.1 7 1 = rK (M.1 (c + 1)) 0 L → N.1 7 2 = rS (M.1 (c + 1)) 0 L → (∀ i, i < 4 → N.1 8 i = rF (M.1 (c + 1)) 0 L i) → Q N) : P_Telling_readFrom c M Q := by
  unfold P_Telling_readFrom
  refine P_readAll hc h5 hL hb (fun hf N hS e1 e2 e3 => br_F' (by decide) (hQ N hS ?_ ?_ (fun i hi => ?_))) (fun hf N hS => br_T' rfl ?_)
  · unfold rK; rw [hf]; exact e1
  · unfold rS; rw [hf]; exact e2
  · unfold rF; rw [hf]; exact e3 i hi
  · unfold P_Telling_setNumbers
    have iv : ∀ n, n < 4 → vp_in (nI n) 4 := fun n hn => in_nI hn (by omega)
    refine ⟨iv 0 (by omega), iv 1 (by omega), iv 2 (by omega), iv 3 (by omega), hQ _ (((((((hS.putI (by simp)).putI (by simp)).putI (by simp)).putI (by simp)).putI (by simp)).putI (by simp))) ?_ ?_ (fun i hi => ?_)⟩
    · unfold rK; rw [hf]; rfl
    · unfold rS; rw [hf]; rfl
    · unfold rF; rw [hf]
      rcases (show i = 0 ∨ i = 1 ∨ i = 2 ∨ i = 3 by omega) with rfl | rfl | rfl | rfl <;> rfl
/-! the model's fields -/
def ff (g : Nat → Int32) (a k L : Nat) (f : Nat → Int32) (i : Nat) : Int32 := if i < 4 then (if lenB k L then fv g a k i else -1) else f i
theorem row_congr {M : Mem} {c : Nat} {f g : Nat → Int32} (h : ∀ i, f i = g i) : setRow M c f = setRow M c g := by rw [show f = g from funext h]
theorem P_mofields {a k L : Nat} {Q : Int32 → Mem → Prop} {M : Mem} (hk : k < 16) (h24 : 24 ≤ L) (hL : L ≤ 284) (ha : a ≤ 300) (hb : BitsOk (M.1 40) a L)
    (hQ : Q (if lenB k L && toldB k (fv (M.1 40) a k) then 1 else 0) (setRow M 43 (ff (M.1 40) a k L (M.1 43)))) : P_Mo_fields (nI k) (nI (a + 24)) (nI (L - 24)) M Q := by
  have iv : ∀ n, n < 4 → vp_in (nI n) 4 := fun n hn => in_nI hn (by omega)
  have rd : ∀ (o n : Nat) (f : Nat → Int32) (R : Int32 → Mem → Prop), 24 + o + n ≤ L → n ≤ 31 → R (nI (rv (M.1 40) (a + 24 + o) n)) (setRow M 43 f) → P_Mo_read (nI (a + 24 + o)) (nI n) (setRow M 43 f) R := fun o n f R h1 h2 h3 =>
    P_moread (M := setRow M 43 f) (fun i hi => by have := hb (24 + o + i) (by omega); show M.1 40 _ = 0 ∨ M.1 40 _ = 1; rwa [show a + 24 + o + i = a + (24 + o + i) by omega]) h2 (by omega) h3
  have sn : ∀ (o n : Nat) (f : Nat → Int32) (R : Int32 → Mem → Prop), 24 + o + n ≤ L → 1 ≤ n → n ≤ 31 → R (sg (rv (M.1 40) (a + 24 + o) n) n) (setRow M 43 f) → P_Mo_read (nI (a + 24 + o)) (nI n) (setRow M 43 f) fun r M' => P_Mo_signed r (nI n) M' R := fun o n f R h1 h0 h2 h3 =>
    rd o n f _ h1 h2 (P_mosigned h0 h2 (rv_lt _ _ _) h3)
  have ne : ∀ b : Nat, b < 16 → k ≠ b → ¬ nI k = nI b := fun b hb hab => by rw [nI_eq (by omega) (by omega)]; exact hab
  have bad : ∀ f : Nat → Int32, lenB k L = false → (∀ i, f i = if i < 4 then -1 else M.1 43 i) → Q 0 (setRow M 43 f) := fun f hl hf => by
    rw [hl] at hQ
    rw [row_congr (g := ff (M.1 40) a k L (M.1 43)) (fun i => by unfold ff; rw [hf, hl]; rfl)]
    exact hQ
  have main : ∀ f : Nat → Int32, (∀ i, f i = if i < 4 then -1 else M.1 43 i) → P_Mo_fields_3 Q 1 (nI k) (nI (a + 24)) (nI (L - 24)) 4 (setRow M 43 f) := by
    intro f hf
    have e24 : ∀ b, b ≤ 48 → (nI (L - 24) = nI b ↔ L = 24 + b) := fun b hb => by rw [nI_eq (by omega) (by omega)]; omega
    have good : lenB k L = true → ∀ F : Nat → Int32, (∀ i, i < 4 → F i = fv (M.1 40) a k i) → (∀ i, 4 ≤ i → F i = f i) → ∀ r : Int32, r = (if toldB k F then 1 else 0) → Q r (setRow M 43 F) := fun hl F h1 h2 r hr => by
      rw [row_congr (f := F) (g := ff (M.1 40) a k L (M.1 43)) (fun i => by
        unfold ff
        by_cases hi : i < 4
        · rw [if_pos hi, hl, if_pos rfl]; exact h1 i hi
        · rw [if_neg hi, h2 i (by omega), hf, if_neg hi])]
      rw [hr, toldB_congr h1]
      rw [hl, Bool.true_and] at hQ
      exact hQ
    have len : ∀ b, fo k 4 = b → 1 ≤ k → k ≤ 5 → L = 24 + b → lenB k L = true := fun b h1 h2 h3 h4 => by
      unfold lenB
      rw [h1]
      simp [h24, h2, h3, h4]
    have nlen : ∀ b, fo k 4 = b → L ≠ 24 + b → lenB k L = false := fun b h1 h4 => by
      unfold lenB
      rw [h1]
      simp [h4]
    unfold P_Mo_fields_3
    refine br_T (by decide) ⟨fun q => ?_, fun q => ?_, fun q => ?_, fun q => ?_, fun q => ?_, fun q1 q2 q3 q4 q5 => ?_⟩
    · have : k = 1 := (nI_eq (b := 1) (by omega) (by omega)).mp q
      subst this
      refine ⟨fun hl => ?_, fun hl => bad f (nlen 48 rfl (fun x => hl ((e24 48 (by omega)).mpr x))) hf⟩
      have hl := (e24 48 (by omega)).mp hl
      refine sn 0 16 _ _ (by omega) (by omega) (by omega) ⟨iv 0 (by omega), ?_⟩
      rw [setRow_put, show nI (a + 24) + 16 = nI (a + 24 + 16) from nI_add _ 16]
      refine sn 16 16 _ _ (by omega) (by omega) (by omega) ⟨iv 1 (by omega), ?_⟩
      rw [setRow_put, show nI (a + 24) + 32 = nI (a + 24 + 32) from nI_add _ 32]
      refine sn 32 8 _ _ (by omega) (by omega) (by omega) ⟨iv 2 (by omega), ?_⟩
      rw [setRow_put, show nI (a + 24) + 40 = nI (a + 24 + 40) from nI_add _ 40]
      refine sn 40 8 _ _ (by omega) (by omega) (by omega) ⟨iv 3 (by omega), ?_⟩
      rw [setRow_put]
      refine good (len 48 rfl (by omega) (by omega) hl) _ (fun i hi => ?_) (fun i hi => ?_) _ rfl
      · rcases (show i = 0 ∨ i = 1 ∨ i = 2 ∨ i = 3 by omega) with rfl | rfl | rfl | rfl <;> rfl
      · simp [upd, show ¬ i = 0 by omega, show ¬ i = 1 by omega, show ¬ i = 2 by omega, show ¬ i = 3 by omega]
    · have : k = 2 := (nI_eq (b := 2) (by omega) (by omega)).mp q
      subst this
      refine ⟨fun hl => ?_, fun hl => bad f (nlen 38 rfl (fun x => hl ((e24 38 (by omega)).mpr x))) hf⟩
      have hl := (e24 38 (by omega)).mp hl
      refine rd 0 15 _ _ (by omega) (by omega) ⟨iv 0 (by omega), ?_⟩
      rw [setRow_put, show nI (a + 24) + 15 = nI (a + 24 + 15) from nI_add _ 15]
      refine rd 15 15 _ _ (by omega) (by omega) ⟨iv 1 (by omega), ?_⟩
      rw [setRow_put, show nI (a + 24) + 30 = nI (a + 24 + 30) from nI_add _ 30]
      refine rd 30 8 _ _ (by omega) (by omega) ⟨iv 2 (by omega), ?_⟩
      rw [setRow_put]
      generalize hF : upd (upd (upd f 0 (nI (rv (M.1 40) (a + 24 + 0) 15))) 1 (nI (rv (M.1 40) (a + 24 + 15) 15))) 2 (nI (rv (M.1 40) (a + 24 + 30) 8)) = F
      have fin : ∀ r : Int32, r = (if toldB 2 F then 1 else 0) → Q r (setRow M 43 F) := good (len 38 rfl (by omega) (by omega) hl) F (fun i hi => by
        subst hF
        rcases (show i = 0 ∨ i = 1 ∨ i = 2 ∨ i = 3 by omega) with rfl | rfl | rfl | rfl
        · rfl
        · rfl
        · rfl
        · exact (hf 3).trans rfl) (fun i hi => by subst hF; simp [upd, show ¬ i = 0 by omega, show ¬ i = 1 by omega, show ¬ i = 2 by omega])
      refine P_moletters (n := 3) (by omega) ?_
      rw [setRow_at]
      cases hA : lets (F 0) 3
      · exact br_T rfl (fin 0 (by simp [toldB, hA]))
      · refine br_F (by decide) (P_moletters (n := 3) (by omega) ?_)
        cases hB : lets (F 1) 3
        · exact br_T rfl (fin 0 (by simp [toldB, hB]))
        · exact br_F (by decide) (fin 1 (by simp [toldB, hA, hB]))
    · have : k = 3 := (nI_eq (b := 3) (by omega) (by omega)).mp q
      subst this
      refine ⟨fun hl => ?_, fun hl => bad f (nlen 31 rfl (fun x => hl ((e24 31 (by omega)).mpr x))) hf⟩
      have hl := (e24 31 (by omega)).mp hl
      refine rd 0 31 _ _ (by omega) (by omega) ⟨iv 0 (by omega), ?_⟩
      rw [setRow_put]
      refine good (len 31 rfl (by omega) (by omega) hl) _ (fun i hi => ?_) (fun i hi => ?_) _ rfl
      · rcases (show i = 0 ∨ i = 1 ∨ i = 2 ∨ i = 3 by omega) with rfl | rfl | rfl | rfl
        · rfl
        · exact (hf 1).trans rfl
        · exact (hf 2).trans rfl
        · exact (hf 3).trans rfl
      · simp [upd, show ¬ i = 0 by omega]
    · have : k = 4 := (nI_eq (b := 4) (by omega) (by omega)).mp q
      subst this
      refine ⟨fun hl => ?_, fun hl => bad f (nlen 29 rfl (fun x => hl ((e24 29 (by omega)).mpr x))) hf⟩
      have hl := (e24 29 (by omega)).mp hl
      refine rd 0 3 _ _ (by omega) (by omega) ⟨iv 0 (by omega), ?_⟩
      rw [setRow_put, show nI (a + 24) + 3 = nI (a + 24 + 3) from nI_add _ 3]
      refine rd 3 3 _ _ (by omega) (by omega) ⟨iv 1 (by omega), ?_⟩
      rw [setRow_put, show nI (a + 24) + 6 = nI (a + 24 + 6) from nI_add _ 6]
      refine rd 6 3 _ _ (by omega) (by omega) ⟨iv 2 (by omega), ?_⟩
      rw [setRow_put, show nI (a + 24) + 9 = nI (a + 24 + 9) from nI_add _ 9]
      refine rd 9 20 _ _ (by omega) (by omega) ⟨iv 3 (by omega), ?_⟩
      rw [setRow_put]
      generalize hF : upd (upd (upd (upd f 0 (nI (rv (M.1 40) (a + 24 + 0) 3))) 1 (nI (rv (M.1 40) (a + 24 + 3) 3))) 2 (nI (rv (M.1 40) (a + 24 + 6) 3))) 3 (nI (rv (M.1 40) (a + 24 + 9) 20)) = F
      have fin : ∀ r : Int32, r = (if toldB 4 F then 1 else 0) → Q r (setRow M 43 F) := good (len 29 rfl (by omega) (by omega) hl) F (fun i hi => by
        subst hF
        rcases (show i = 0 ∨ i = 1 ∨ i = 2 ∨ i = 3 by omega) with rfl | rfl | rfl | rfl <;> rfl) (fun i hi => by subst hF; simp [upd, show ¬ i = 0 by omega, show ¬ i = 1 by omega, show ¬ i = 2 by omega, show ¬ i = 3 by omega])
      have e2 : ∃ n : Nat, n < 8 ∧ F 2 = nI n := ⟨_, rv_lt (M.1 40) (a + 24 + 6) 3, by subst hF; rfl⟩
      obtain ⟨n, hn, en⟩ := e2
      show (F 2 ≤ 1 → _) ∧ (¬ F 2 ≤ 1 → (6 ≤ F 2 → _) ∧ (¬ 6 ≤ F 2 → (F 2 ≤ F 1 → _) ∧ (¬ F 2 ≤ F 1 → _)))
      have c1 : F 2 ≤ 1 ↔ F 2 < 2 := by rw [en, show (1 : Int32) = nI 1 from rfl, show (2 : Int32) = nI 2 from rfl, nle_of (by omega) (by omega), nlt_of (by omega) (by omega)]; omega
      have c2 : 6 ≤ F 2 ↔ 5 < F 2 := by rw [en, show (6 : Int32) = nI 6 from rfl, show (5 : Int32) = nI 5 from rfl, nle_of (by omega) (by omega), nlt_of (by omega) (by omega)]; omega
      rw [c1, c2]
      refine ⟨fun d1 => fin 0 (by simp [toldB, d1]), fun d1 => ⟨fun d2 => fin 0 (by simp [toldB, d2]), fun d2 => ⟨fun d3 => fin 0 (by simp [toldB, d3]), fun d3 => P_moletters (n := 4) (by omega) ?_⟩⟩⟩
      try rw [setRow_at]
      cases hA : lets (F 3) 4
      · exact br_T rfl (fin 0 (by simp [toldB, hA]))
      · exact br_F (by decide) (fin 1 (by simp only [toldB, d1, d2, d3, hA, decide_false, Bool.not_false, Bool.and_self, if_true, reduceIte, show ¬ (4 = 2) by omega]))
    · have : k = 5 := (nI_eq (b := 5) (by omega) (by omega)).mp q
      subst this
      refine ⟨fun hl => ?_, fun hl => bad f (nlen 15 rfl (fun x => hl ((e24 15 (by omega)).mpr x))) hf⟩
      have hl := (e24 15 (by omega)).mp hl
      refine rd 0 12 _ _ (by omega) (by omega) ⟨iv 0 (by omega), ?_⟩
      rw [setRow_put, show nI (a + 24) + 12 = nI (a + 24 + 12) from nI_add _ 12]
      refine rd 12 3 _ _ (by omega) (by omega) ⟨iv 1 (by omega), ?_⟩
      rw [setRow_put]
      generalize hF : upd (upd f 0 (nI (rv (M.1 40) (a + 24 + 0) 12))) 1 (nI (rv (M.1 40) (a + 24 + 12) 3)) = F
      have fin : ∀ r : Int32, r = (if toldB 5 F then 1 else 0) → Q r (setRow M 43 F) := good (len 15 rfl (by omega) (by omega) hl) F (fun i hi => by
        subst hF
        rcases (show i = 0 ∨ i = 1 ∨ i = 2 ∨ i = 3 by omega) with rfl | rfl | rfl | rfl
        · rfl
        · rfl
        · exact (hf 2).trans rfl
        · exact (hf 3).trans rfl) (fun i hi => by subst hF; simp [upd, show ¬ i = 0 by omega, show ¬ i = 1 by omega])
      show (2250 ≤ F 0 → _) ∧ (¬ 2250 ≤ F 0 → (F 1 ≤ 0 → _) ∧ (¬ F 1 ≤ 0 → _))
      refine ⟨fun d1 => fin 0 (by simp [toldB, d1]), fun d1 => ⟨fun d2 => fin 0 (by simp [toldB, d2]), fun d2 => fin 1 (by simp only [toldB, d1, d2, decide_false, Bool.not_false, Bool.and_self, if_true, reduceIte, show ¬ (5 = 2) by omega, show ¬ (5 = 4) by omega])⟩⟩
    · refine bad f ?_ hf
      unfold lenB
      have : ¬ (1 ≤ k ∧ k ≤ 5) := fun x => by
        rcases (show k = 1 ∨ k = 2 ∨ k = 3 ∨ k = 4 ∨ k = 5 by omega) with rfl | rfl | rfl | rfl | rfl
        · exact q1 rfl
        · exact q2 rfl
        · exact q3 rfl
        · exact q4 rfl
        · exact q5 rfl
      by_cases z : 1 ≤ k
      · simp [show ¬ k ≤ 5 from fun x => this ⟨z, x⟩]
      · simp [z]
  unfold P_Mo_fields
  refine ⟨5, ?_⟩
  have st : ∀ (n j : Nat) (f : Nat → Int32), j < 4 → P_Mo_fields_3 Q n (nI k) (nI (a + 24)) (nI (L - 24)) (nI (j + 1)) (setRow M 43 (upd f j (-1))) → P_Mo_fields_3 Q (n + 1) (nI k) (nI (a + 24)) (nI (L - 24)) (nI j) (setRow M 43 f) := fun n j f hj hh => by
    unfold P_Mo_fields_3
    refine br_F (nI_ge (b := 4) (by omega) (by omega)) ⟨iv j hj, ?_⟩
    rw [cl_nI (by omega), nI_1, setRow_put]
    exact hh
  have h0 := st 4 0 (M.1 43) (by omega) (st 3 1 _ (by omega) (st 2 2 _ (by omega) (st 1 3 _ (by omega) (main _ (fun i => by
    by_cases hi : i < 4
    · rcases (show i = 0 ∨ i = 1 ∨ i = 2 ∨ i = 3 by omega) with rfl | rfl | rfl | rfl <;> rfl
    · simp [upd, hi, show ¬ i = 0 by omega, show ¬ i = 1 by omega, show ¬ i = 2 by omega, show ¬ i = 3 by omega])))))
  rw [setRow_own] at h0
  exact h0
