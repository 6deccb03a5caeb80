/-! two memories in one: the class' cells of A, the model's of B -/
def mix (A B : Mem) : Mem := (fun c => if c < 35 then A.1 c else B.1 c, fun c => if c < 35 then A.2 c else B.2 c)
theorem mix_lo {A B : Mem} {c : Nat} (h : c < 35) : (mix A B).1 c = A.1 c := if_pos h
theorem mix_hi {A B : Mem} {c : Nat} (h : 35 ≤ c) : (mix A B).1 c = B.1 c := if_neg (by omega)
theorem mix_putI {A B : Mem} {c k : Nat} {v : Int32} (h : 35 ≤ c) : putI (mix A B) c k v = mix A (putI B c k v) := by
  unfold putI mix
  congr 1
  funext a b
  by_cases h1 : a < 35
  · simp [h1, show ¬ a = c by omega]
  · simp [h1]
theorem mix_putL {A B : Mem} {c k : Nat} {v : Int64} (h : 35 ≤ c) : putL (mix A B) c k v = mix A (putL B c k v) := by
  unfold putL mix
  congr 1
  funext a b
  by_cases h1 : a < 35
  · simp [h1, show ¬ a = c by omega]
  · simp [h1]
theorem mix_self (M : Mem) : mix M M = M := by
  unfold mix
  simp
/-- N has M's model -/
def Hi (M N : Mem) : Prop := ∀ c, 35 ≤ c → N.1 c = M.1 c ∧ N.2 c = M.2 c
theorem hi_mix {M N : Mem} (h : Hi M N) : N = mix N M := by
  unfold mix
  refine Prod.ext (funext fun c => ?_) (funext fun c => ?_)
  · by_cases hc : c < 35
    · simp [hc]
    · simp [hc, (h c (by omega)).1]
  · by_cases hc : c < 35
    · simp [hc]
    · simp [hc, (h c (by omega)).2]
theorem Hi.refl (M : Mem) : Hi M M := fun _ _ => ⟨rfl, rfl⟩
theorem Hi.trans {M N O : Mem} (h1 : Hi M N) (h2 : Hi N O) : Hi M O := fun c hc => ⟨(h2 c hc).1.trans (h1 c hc).1, (h2 c hc).2.trans (h1 c hc).2⟩
theorem Hi.putI {M N : Mem} {c k : Nat} {v : Int32} (h : Hi M N) (hc : c < 35) : Hi M (putI N c k v) := fun d hd => ⟨(putI_ne1 (by omega)).trans (h d hd).1, (h d hd).2⟩
theorem Hi.putL {M N : Mem} {c k : Nat} {v : Int64} (h : Hi M N) (hc : c < 35) : Hi M (putL N c k v) := fun d hd => ⟨(h d hd).1, (putL_ne2 (by omega)).trans (h d hd).2⟩
/-! bits read as a number -/
theorem s_of (n : Nat) (hn : n < 32) : ((nI n &&& 31).toBitVec.smod 32).toNat = n := s_l n hn
theorem shl1 {x : Nat} (h : x < 1073741824) : nI x <<< ((1 : Int32) &&& 31) = nI (2 * x) := by
  rw [pk_shlN ((1 : Int32) &&& 31) 1 (by decide) (by omega), Nat.mul_comm]
theorem nx_or {a b : Nat} : nI a ||| nI b = nI (a ||| b) := by
  apply Int32.toBitVec_inj.mp
  rw [Int32.toBitVec_or]
  show BitVec.ofNat 32 a ||| BitVec.ofNat 32 b = BitVec.ofNat 32 (a ||| b)
  rw [BitVec.ofNat_or]
theorem or1 {x : Nat} {b : Int32} (h : x < 1073741824) (hb : b = 0 ∨ b = 1) : (nI x <<< ((1 : Int32) &&& 31)) ||| b = nI (2 * x + if b = 0 then 0 else 1) := by
  rw [shl1 h]
  rcases hb with rfl | rfl
  · rw [show (0 : Int32) = nI 0 from rfl, nx_or]
    simp
  · rw [show (1 : Int32) = nI 1 from rfl, nx_or]
    have e := Nat.shiftLeft_add_eq_or_of_lt (i := 1) (b := 1) (by decide) x
    rw [Nat.shiftLeft_eq, show x * 2 ^ 1 = 2 * x by omega] at e
    rw [← e]
    congr 1
def rv (g : Nat → Int32) (a : Nat) : Nat → Nat
  | 0 => 0
  | n + 1 => 2 * rv g a n + if g (a + n) = 0 then 0 else 1
theorem rv_lt (g : Nat → Int32) (a n : Nat) : rv g a n < 2 ^ n := by
  induction n with
  | zero => exact Nat.one_pos
  | succ n ih =>
    unfold rv
    rw [Nat.pow_succ]
    split <;> omega
theorem rv_congr {g h : Nat → Int32} {a b n : Nat} (e : ∀ j, j < n → g (a + j) = h (b + j)) : rv g a n = rv h b n := by
  induction n with
  | zero => rfl
  | succ n ih =>
    unfold rv
    rw [ih (fun j hj => e j (by omega)), e n (by omega)]
def BitsOk (g : Nat → Int32) (a n : Nat) : Prop := ∀ j, j < n → g (a + j) = 0 ∨ g (a + j) = 1
theorem rv_lt' {g : Nat → Int32} {a n N : Nat} (h : n ≤ N) : rv g a n < 2 ^ N := Nat.lt_of_lt_of_le (rv_lt g a n) (Nat.pow_le_pow_right (by omega) h)
theorem P_number {c a n : Nat} {Q : Int32 → Mem → Prop} {M : Mem} (hb : BitsOk (M.1 (c + 1)) a n) (hn : n ≤ 31) (ha : a + n ≤ 300) (hQ : Q (nI (rv (M.1 (c + 1)) a n)) M) : P_Ear_number c (nI a) (nI n) M Q := by
  unfold P_Ear_number
  have key : ∀ d j, j + d = n → P_Ear_number_5 c Q (d + 1) (nI a) (nI n) (nI (rv (M.1 (c + 1)) a j)) (nI (a + j)) M := by
    intro d
    induction d with
    | zero =>
      intro j hj
      unfold P_Ear_number_5
      rw [nI_add]
      have : j = n := by omega
      subst this
      exact br_T (nI_le (by omega) (by omega)) hQ
    | succ d ih =>
      intro j hj
      unfold P_Ear_number_5 P_Ear_bitAt
      rw [nI_add]
      refine br_F (nI_ge (by omega) (by omega)) (br_F (nI_pos (by omega)) (br_F (nI_ge (b := 300) (by omega) (by omega)) ⟨in_nI (by omega) (by omega), ?_⟩))
      dsimp only
      rw [cl_nI (by omega), or1 (rv_lt' (N := 30) (by omega)) (hb j (by omega)), nI_1]
      exact ih (j + 1) (by omega)
  exact ⟨n + 1, key n 0 (by omega)⟩
theorem P_moread {a n : Nat} {Q : Int32 → Mem → Prop} {M : Mem} (hb : BitsOk (M.1 40) a n) (hn : n ≤ 31) (ha : a + n ≤ 600) (hQ : Q (nI (rv (M.1 40) a n)) M) : P_Mo_read (nI a) (nI n) M Q := by
  unfold P_Mo_read
  have key : ∀ d j, j + d = n → P_Mo_read_5 Q (d + 1) (nI a) (nI n) (nI (rv (M.1 40) a j)) (nI j) M := by
    intro d
    induction d with
    | zero =>
      intro j hj
      unfold P_Mo_read_5
      have : j = n := by omega
      subst this
      exact br_T (nI_le (by omega) (by omega)) hQ
    | succ d ih =>
      intro j hj
      unfold P_Mo_read_5
      rw [nI_add]
      refine br_F (nI_ge (by omega) (by omega)) ⟨in_nI (by omega) (by omega), ?_⟩
      rw [cl_nI (by omega), or1 (rv_lt' (N := 30) (by omega)) (hb j (by omega)), nI_1]
      exact ih (j + 1) (by omega)
  exact ⟨n + 1, key n 0 (by omega)⟩
/-- the check, bit by bit -/
def dbl (a b : Int32) : Int32 := if ((a >>> ((15 : Int32) &&& 31)) &&& 1) = b then ((a <<< ((1 : Int32) &&& 31)) &&& 65535) else (((a <<< ((1 : Int32) &&& 31)) &&& 65535) ^^^ 4129)
def ck (g : Nat → Int32) (a : Nat) : Nat → Int32
  | 0 => 65535
  | n + 1 => dbl (ck g a n) (g (a + n))
theorem ck_congr {g h : Nat → Int32} {a b n : Nat} (e : ∀ j, j < n → g (a + j) = h (b + j)) : ck g a n = ck h b n := by
  induction n with
  | zero => rfl
  | succ n ih =>
    unfold ck
    rw [ih (fun j hj => e j (by omega)), e n (by omega)]
theorem P_doubled {a b : Int32} {Q : Int32 → Mem → Prop} {M : Mem} (hQ : Q (dbl a b) M) : P_Mo_doubled a b M Q := by
  unfold P_Mo_doubled
  by_cases h : ((a >>> ((15 : Int32) &&& 31)) &&& 1) = b
  · exact br_T h (by unfold dbl at hQ; rw [if_pos h] at hQ; exact hQ)
  · exact br_F h (by unfold dbl at hQ; rw [if_neg h] at hQ; exact hQ)
theorem P_checkAfter {a b : Int32} {Q : Int32 → Mem → Prop} {M : Mem} (hQ : Q (dbl a b) M) : P_Sv_checkAfter a b M Q := P_doubled hQ
def okC (g : Nat → Int32) (a L : Nat) : Prop := ck g a L ^^^ 65535 = nI (rv g (a + L) 16)
theorem okC_congr {g h : Nat → Int32} {a b n : Nat} (e : ∀ j, j < n + 16 → g (a + j) = h (b + j)) : okC g a n ↔ okC h b n := by
  unfold okC
  rw [ck_congr (fun j hj => e j (by omega)), rv_congr (g := g) (h := h) (a := a + n) (b := b + n) (fun j hj => by have := e (n + j) (by omega); rw [← Nat.add_assoc, ← Nat.add_assoc] at this; exact this)]
theorem P_isChecked {c L : Nat} {Q : Int32 → Mem → Prop} {M : Mem} (h5 : M.1 c 5 = nI L) (hL : L + 16 ≤ 300) (hb : BitsOk (M.1 (c + 1)) 0 (L + 16)) (h1 : okC (M.1 (c + 1)) 0 L → Q 1 M) (h0 : ¬ okC (M.1 (c + 1)) 0 L → Q 0 M) : P_Ear_isChecked c M Q := by
  unfold P_Ear_isChecked
  have key : ∀ d j, j + d = L → P_Ear_isChecked_5 c Q (d + 1) (ck (M.1 (c + 1)) 0 j) (nI j) M := by
    intro d
    induction d with
    | zero =>
      intro j hj
      have : j = L := by omega
      subst this
      unfold P_Ear_isChecked_5
      rw [h5]
      refine br_T (nI_le (by omega) (by omega)) (P_number (n := 16) (fun i hi => by have := hb (j + i) (by omega); rwa [Nat.zero_add] at this) (by omega) (by omega) ?_)
      unfold okC at h1 h0
      rw [Nat.zero_add] at h1 h0
      exact ⟨h0, h1⟩
    | succ d ih =>
      intro j hj
      unfold P_Ear_isChecked_5 P_Ear_bitAt
      rw [h5]
      refine br_F (nI_ge (by omega) (by omega)) (br_F (nI_pos (by omega)) (br_F (nI_ge (b := 300) (by omega) (by omega)) ⟨in_nI (by omega) (by omega), P_checkAfter ?_⟩))
      rw [cl_nI (by omega), nI_1]
      have := ih (j + 1) (by omega)
      unfold ck at this
      rw [Nat.zero_add] at this
      exact this
  exact ⟨L + 1, key L 0 (by omega)⟩
theorem P_moends {ch p : Nat} {Q : Int32 → Mem → Prop} {M : Mem} (hch : ch < 2) (hp : 24 ≤ p) (hp2 : p ≤ 300) (hb : BitsOk (M.1 40) (300 * ch) p) (h1 : okC (M.1 40) (300 * ch) (p - 16) → P_Mo_note (nI ch) (nI (p - 16)) M fun M3 => Q 1 M3) (h0 : ¬ okC (M.1 40) (300 * ch) (p - 16) → Q 0 (putI M 35 8 ((M.1 35 8) + 1))) : P_Mo_ends (nI ch) (nI p) M Q := by
  unfold P_Mo_ends
  have e3 : (300 : Int32) * nI ch = nI (300 * ch) := pk_mul 300 ch
  have e16 : nI p - 16 = nI (p - 16) := pk_sub (b := 16) (by omega)
  have key : ∀ d j, j + d = p - 16 → P_Mo_ends_14 Q (d + 1) (nI ch) (nI p) (ck (M.1 40) (300 * ch) j) (nI j) M := by
    intro d
    induction d with
    | zero =>
      intro j hj
      have : j = p - 16 := by omega
      subst this
      unfold P_Mo_ends_14
      rw [e3, e16, nI_add, show nI (300 * ch + p) - 16 = nI (300 * ch + (p - 16)) by rw [show (16 : Int32) = nI 16 from rfl, pk_sub (by omega)]; congr 1; omega]
      refine br_T (nI_le (by omega) (by omega)) (P_moread (n := 16) (fun i hi => by have := hb (p - 16 + i) (by omega); rwa [← Nat.add_assoc] at this) (by omega) (by omega) ?_)
      exact ⟨h1, h0⟩
    | succ d ih =>
      intro j hj
      unfold P_Mo_ends_14
      rw [e3, e16, nI_add (300 * ch) j]
      refine br_F (nI_ge (by omega) (by omega)) ⟨in_nI (by omega) (by omega), P_doubled ?_⟩
      rw [cl_nI (by omega), nI_1]
      exact ih (j + 1) (by omega)
  exact br_T (nI_le (a := 24) (by omega) (by omega)) ⟨p - 16 + 1, key (p - 16) 0 (by omega)⟩
/-- the level of the tape at a bit -/
def tb (g : Nat → Int32) (i : Nat) : Int32 := (g (i / 8) >>> ((7 - nI (i % 8)) &&& 31)) &&& 1
theorem one_bit (x : Int32) : x &&& 1 = 0 ∨ x &&& 1 = 1 := by
  obtain ⟨j, hj, e⟩ := pk_andE x (m := 1) 1 (by decide)
  rw [e]
  rcases (show j = 0 ∨ j = 1 by omega) with rfl | rfl
  · exact Or.inl rfl
  · exact Or.inr rfl
theorem tb_bit (g : Nat → Int32) (i : Nat) : tb g i = 0 ∨ tb g i = 1 := one_bit _
theorem b_1 (i : Nat) : bt 1 i = decide (i = 0) := by
  by_cases h : 32 ≤ i
  · rw [b_big h]; simp; omega
  · have : ∀ i, i < 32 → bt 1 i = decide (i = 0) := by decide +kernel
    exact this i (by omega)
theorem low_bit (x : Int32) {s : Nat} (h : s ≤ 7) : ((x &&& 255) >>> (nI s &&& 31)) &&& 1 = (x >>> (nI s &&& 31)) &&& 1 := by
  apply b_ext
  intro i hi
  rw [b_and, b_and, b_1]
  by_cases h0 : i = 0
  · subst h0
    rw [b_sshr s (by omega) _ (by omega), b_sshr s (by omega) _ (by omega), if_pos (by omega), if_pos (by omega), b_and, b_255]
    simp
    omega
  · simp [h0]
theorem tb_congr {g h : Nat → Int32} {i : Nat} (e : h (i / 8) = g (i / 8) &&& 255) : tb h i = tb g i := by
  unfold tb
  rw [e, show (7 : Int32) - nI (i % 8) = nI (7 - i % 8) from pk_sub (a := 7) (by omega)]
  exact low_bit _ (by omega)
theorem P_levelAt {i u : Nat} {Q : Int32 → Mem → Prop} {M : Mem} (h1 : M.1 1 1 = nI u) (hu : u ≤ 400) (hi : i < 8 * u) (hQ : Q (tb (M.1 2) i) M) : P_Tape_levelAt (nI i) M Q := by
  unfold P_Tape_levelAt
  rw [pk_shrN (by omega) _ 3 (by decide), h1, pk_andN (by omega) (m := 7) 3 (by decide)]
  refine br_F (nI_pos (by omega)) (br_F (nI_ge (by omega) (by omega)) ⟨in_nI (by omega) (by omega), ?_⟩)
  rw [cl_nI (by omega)]
  exact hQ
