/-! build -/
theorem ushr_in (x : Int32) {w : Nat} (hw : w ≤ 31) : (x.toUInt32 >>> ((nI w).toUInt32 &&& Int32.toUInt32 31)).toInt32 = 0 ↔ ∃ n : Nat, n < 2 ^ w ∧ x = nI n := by
  have e := pk_ushr x (nI w) w (s_u w (by omega))
  have hp : 2 ^ w ≤ 2 ^ 31 := Nat.pow_le_pow_right (by omega) hw
  constructor
  · intro h
    rw [h] at e
    have e : x.toBitVec.toNat / 2 ^ w = 0 := e.symm
    refine ⟨x.toBitVec.toNat, (Nat.div_eq_zero_iff_lt (Nat.two_pow_pos w)).mp e, ?_⟩
    apply Int32.toBitVec_inj.mp
    show x.toBitVec = BitVec.ofNat 32 x.toBitVec.toNat
    rw [BitVec.ofNat_toNat, BitVec.setWidth_eq]
  · rintro ⟨n, hn, rfl⟩
    rw [pk_ushrN (by omega) (nI w) w (s_u w (by omega)), Nat.div_eq_of_lt hn]
    rfl
theorem nat_in {x : Int32} {m : Nat} (hm : m ≤ 2147483648) : (∃ n : Nat, n < m ∧ x = nI n) ↔ 0 ≤ x.toInt ∧ x.toInt < m := by
  constructor
  · rintro ⟨n, hn, rfl⟩
    rw [i_nI (by omega)]
    omega
  · rintro ⟨h1, h2⟩
    obtain ⟨n, hn, rfl⟩ := i_of h1
    rw [i_nI hn] at h2
    exact ⟨n, by omega, rfl⟩
def inR (x lo hi : Int32) : Prop := ¬ x < lo ∧ ¬ hi < x
theorem inR_iff (x lo hi : Int32) : inR x lo hi ↔ lo.toInt ≤ x.toInt ∧ x.toInt ≤ hi.toInt := by
  unfold inR
  rw [i_lt, i_lt]
  omega
theorem P_isIn {x lo hi : Int32} {M : Mem} {Q : Int32 → Mem → Prop} (h1 : inR x lo hi → Q 1 M) (h0 : ¬ inR x lo hi → Q 0 M) : P_Mo_isIn x lo hi M Q := by
  unfold P_Mo_isIn
  exact ⟨fun a => h0 (fun x => x.1 a), fun a => ⟨fun b => h0 (fun x => x.2 b), fun b => h1 ⟨a, b⟩⟩⟩
/-- what the model asks of the numbers -/
def okM (k : Nat) (a b c d : Int32) : Prop :=
  if k = 1 then inR a (-32768) 32767 ∧ inR b (-32768) 32767 ∧ inR c (-128) 127 ∧ inR d (-128) 127
  else if k = 2 then inR a 0 32767 ∧ inR b 0 32767 ∧ inR c 0 255 ∧ lets a 3 = true ∧ lets b 3 = true
  else if k = 3 then 0 ≤ a
  else if k = 4 then inR a 0 511 ∧ inR (a &&& 7) 2 5 ∧ ¬ (a &&& 7) ≤ ((a >>> ((3 : Int32) &&& 31)) &&& 7) ∧ inR b 0 1023 ∧ inR c 0 1023 ∧ lets b 2 = true ∧ lets c 2 = true
  else inR a 0 2249 ∧ inR b 1 7
def wM (k : Nat) (a b c d : Int32) : List Int32 :=
  if k = 1 then nbL a 16 ++ nbL b 16 ++ nbL c 8 ++ nbL d 8
  else if k = 2 then nbL a 15 ++ nbL b 15 ++ nbL c 8
  else if k = 3 then nbL a 31
  else if k = 4 then nbL a 9 ++ nbL b 10 ++ nbL c 10
  else nbL a 12 ++ nbL b 3
theorem P_letr {x : Int32} {n : Nat} {M : Mem} {Q : Int32 → Mem → Prop} (hn : n ≤ 5) (h1 : lets x n = true → Q 1 M) (h0 : ¬ lets x n = true → Q 0 M) : P_Mo_areLetters x (nI n) M Q := by
  refine P_moletters hn ?_
  cases h : lets x n
  · exact h0 (by rw [h]; decide)
  · exact h1 h
theorem P_says {k : Nat} {a b c d : Int32} {M : Mem} {l : List Int32} {Q : Int32 → Mem → Prop} (k1 : 1 ≤ k) (k5 : k ≤ 5) (h : WRD M l) (hl : l.length = 24)
    (h1 : okM k a b c d → ∀ N, MW M N → WRD N (l ++ wM k a b c d) → Q 1 N) (h0 : ¬ okM k a b c d → Q 0 M) : P_Mo_says (nI k) a b c d M Q := by
  have ne : ∀ x y : Nat, x < 6 → y < 6 → x ≠ y → ¬ nI x = nI y := fun x y hx hy hxy => by rw [nI_eq (by omega) (by omega)]; exact hxy
  have say : ∀ (v : Int32) (w : Nat) (N : Mem) (L : List Int32) (R : Mem → Prop), w ≤ 31 → L.length + w ≤ 120 → WRD N L → (∀ O, MW N O → WRD O (L ++ nbL v w) → R O) → P_Mo_say v (nI w) N R := fun v w N L R hw hL hN hR => P_say hN hL hw hR
  unfold P_Mo_says
  unfold okM wM at h1
  unfold okM at h0
  rcases (show k = 1 ∨ k = 2 ∨ k = 3 ∨ k = 4 ∨ k = 5 by omega) with rfl | rfl | rfl | rfl | rfl
  · rw [if_pos rfl, if_pos rfl] at h1
    rw [if_pos rfl] at h0
    refine ⟨fun _ => ?_, fun x => absurd x (by decide), fun x => absurd x (by decide), fun x => absurd x (by decide), fun x => absurd rfl x⟩
    refine P_isIn (fun c1 => br_F (by decide) ?_) (fun c1 => br_T rfl (h0 (fun x => c1 x.1)))
    refine P_isIn (fun c2 => br_F (by decide) ?_) (fun c2 => br_T rfl (h0 (fun x => c2 x.2.1)))
    refine P_isIn (fun c3 => br_F (by decide) ?_) (fun c3 => br_T rfl (h0 (fun x => c3 x.2.2.1)))
    refine P_isIn (fun c4 => br_F' (by decide) ?_) (fun c4 => br_T' rfl (h0 (fun x => c4 x.2.2.2)))
    refine say a 16 M l _ (by omega) (by omega) h (fun N1 s1 w1 => say b 16 N1 _ _ (by omega) (by rw [List.length_append, nbL_len]; omega) w1 (fun N2 s2 w2 => say c 8 N2 _ _ (by omega) (by rw [List.length_append, List.length_append, nbL_len, nbL_len]; omega) w2 (fun N3 s3 w3 => say d 8 N3 _ _ (by omega) (by rw [List.length_append, List.length_append, List.length_append, nbL_len, nbL_len, nbL_len]; omega) w3 (fun N4 s4 w4 => h1 ⟨c1, c2, c3, c4⟩ N4 (((s1.trans s2).trans s3).trans s4) ?_))))
    rw [List.append_assoc, List.append_assoc, List.append_assoc] at w4
    rw [List.append_assoc, List.append_assoc]
    exact w4
  · rw [if_neg (by omega), if_pos rfl, if_neg (by omega), if_pos rfl] at h1
    rw [if_neg (by omega), if_pos rfl] at h0
    refine ⟨fun x => absurd x (by decide), fun _ => ?_, fun x => absurd x (by decide), fun x => absurd x (by decide), fun _ x => absurd rfl x⟩
    refine P_isIn (fun c1 => br_F (by decide) ?_) (fun c1 => br_T rfl (h0 (fun x => c1 x.1)))
    refine P_isIn (fun c2 => br_F (by decide) ?_) (fun c2 => br_T rfl (h0 (fun x => c2 x.2.1)))
    refine P_isIn (fun c3 => br_F (by decide) ?_) (fun c3 => br_T rfl (h0 (fun x => c3 x.2.2.1)))
    refine P_letr (n := 3) (by omega) (fun c4 => br_F (by decide) ?_) (fun c4 => br_T rfl (h0 (fun x => c4 x.2.2.2.1)))
    refine P_letr (n := 3) (by omega) (fun c5 => br_F' (by decide) ?_) (fun c5 => br_T' rfl (h0 (fun x => c5 x.2.2.2.2)))
    refine say a 15 M l _ (by omega) (by omega) h (fun N1 s1 w1 => say b 15 N1 _ _ (by omega) (by rw [List.length_append, nbL_len]; omega) w1 (fun N2 s2 w2 => say c 8 N2 _ _ (by omega) (by rw [List.length_append, List.length_append, nbL_len, nbL_len]; omega) w2 (fun N3 s3 w3 => h1 ⟨c1, c2, c3, c4, c5⟩ N3 ((s1.trans s2).trans s3) ?_)))
    rw [List.append_assoc, List.append_assoc] at w3
    rw [List.append_assoc]
    exact w3
  · rw [if_neg (by omega), if_neg (by omega), if_pos rfl, if_neg (by omega), if_neg (by omega), if_pos rfl] at h1
    rw [if_neg (by omega), if_neg (by omega), if_pos rfl] at h0
    refine ⟨fun x => absurd x (by decide), fun x => absurd x (by decide), fun _ => ?_, fun x => absurd x (by decide), fun _ _ x => absurd rfl x⟩
    exact ⟨fun c1 => say a 31 M l _ (by omega) (by omega) h (fun N1 s1 w1 => h1 c1 N1 s1 w1), h0⟩
  · rw [if_neg (by omega), if_neg (by omega), if_neg (by omega), if_pos rfl, if_neg (by omega), if_neg (by omega), if_neg (by omega), if_pos rfl] at h1
    rw [if_neg (by omega), if_neg (by omega), if_neg (by omega), if_pos rfl] at h0
    refine ⟨fun x => absurd x (by decide), fun x => absurd x (by decide), fun x => absurd x (by decide), fun _ => ?_, fun _ _ _ x => absurd rfl x⟩
    refine P_isIn (fun c1 => br_F (by decide) ?_) (fun c1 => br_T rfl (h0 (fun x => c1 x.1)))
    refine P_isIn (fun c2 => br_F (by decide) ?_) (fun c2 => br_T rfl (h0 (fun x => c2 x.2.1)))
    refine ⟨fun c3 => h0 (fun x => x.2.2.1 c3), fun c3 => ?_⟩
    refine P_isIn (fun c4 => br_F (by decide) ?_) (fun c4 => br_T rfl (h0 (fun x => c4 x.2.2.2.1)))
    refine P_isIn (fun c5 => br_F (by decide) ?_) (fun c5 => br_T rfl (h0 (fun x => c5 x.2.2.2.2.1)))
    refine P_letr (n := 2) (by omega) (fun c6 => br_F (by decide) ?_) (fun c6 => br_T rfl (h0 (fun x => c6 x.2.2.2.2.2.1)))
    refine P_letr (n := 2) (by omega) (fun c7 => br_F' (by decide) ?_) (fun c7 => br_T' rfl (h0 (fun x => c7 x.2.2.2.2.2.2)))
    refine say a 9 M l _ (by omega) (by omega) h (fun N1 s1 w1 => say b 10 N1 _ _ (by omega) (by rw [List.length_append, nbL_len]; omega) w1 (fun N2 s2 w2 => say c 10 N2 _ _ (by omega) (by rw [List.length_append, List.length_append, nbL_len, nbL_len]; omega) w2 (fun N3 s3 w3 => h1 ⟨c1, c2, c3, c4, c5, c6, c7⟩ N3 ((s1.trans s2).trans s3) ?_)))
    rw [List.append_assoc, List.append_assoc] at w3
    rw [List.append_assoc]
    exact w3
  · rw [if_neg (by omega), if_neg (by omega), if_neg (by omega), if_neg (by omega), if_neg (by omega), if_neg (by omega), if_neg (by omega), if_neg (by omega)] at h1
    rw [if_neg (by omega), if_neg (by omega), if_neg (by omega), if_neg (by omega)] at h0
    refine ⟨fun x => absurd x (by decide), fun x => absurd x (by decide), fun x => absurd x (by decide), fun x => absurd x (by decide), fun _ _ _ _ => br_T' rfl ?_⟩
    refine P_isIn (fun c1 => br_F (by decide) ?_) (fun c1 => br_T rfl (h0 (fun x => c1 x.1)))
    refine P_isIn (fun c2 => br_F' (by decide) ?_) (fun c2 => br_T' rfl (h0 (fun x => c2 x.2)))
    refine say a 12 M l _ (by omega) (by omega) h (fun N1 s1 w1 => say b 3 N1 _ _ (by omega) (by rw [List.length_append, nbL_len]; omega) w1 (fun N2 s2 w2 => h1 ⟨c1, c2⟩ N2 (s1.trans s2) ?_))
    rw [List.append_assoc] at w2
    exact w2
/-! what the class asks -/
def fitB (k i : Nat) (x : Int32) : Bool :=
  if fw k i = 0 then true
  else if k = 1 then decide (¬ x < -((1 : Int32) <<< ((nI (fw k i) - 1) &&& 31))) && decide (¬ ((1 : Int32) <<< ((nI (fw k i) - 1) &&& 31)) ≤ x)
  else decide ((x.toUInt32 >>> ((nI (fw k i)).toUInt32 &&& Int32.toUInt32 31)).toInt32 = 0)
def fitA (k : Nat) (n : Nat → Int32) : Nat → Bool
  | 0 => true
  | i + 1 => fitA k n i && fitB k i (n i)
theorem fitA_false {k : Nat} {n : Nat → Int32} {i m : Nat} (h : fitA k n i = false) (hm : i ≤ m) : fitA k n m = false := by
  induction m with
  | zero => rw [show i = 0 by omega] at h; exact h
  | succ m ih =>
    by_cases hn : i = m + 1
    · rw [← hn]; exact h
    · unfold fitA; rw [ih (by omega)]; rfl
theorem P_fits {k i : Nat} {x : Int32} {M : Mem} {Q : Int32 → Mem → Prop} (h : M.1 7 1 = nI k) (h5 : k ≤ 5) (hw : fw k i ≠ 0) (hQ : Q (if fitB k i x then 1 else 0) M) : P_Telling_fits x (nI (fw k i)) M Q := by
  unfold P_Telling_fits
  rw [h]
  unfold fitB at hQ
  rw [if_neg hw] at hQ
  refine ⟨fun hk => ?_, fun hk => ?_⟩
  · have : ¬ k = 1 := fun x => hk (by rw [x]; rfl)
    rw [if_neg this] at hQ
    refine ⟨fun hz => ?_, fun hz => ?_⟩
    · rw [decide_eq_false hz] at hQ; exact hQ
    · rw [decide_eq_true hz] at hQ; exact hQ
  · have : k = 1 := (nI_eq (b := 1) (by omega) (by omega)).mp hk
    rw [if_pos this] at hQ
    refine ⟨fun h1 => ?_, fun h1 => ⟨fun h2 => ?_, fun h2 => ?_⟩⟩
    · rw [decide_eq_false (p := ¬ x < _) (fun y => y h1), Bool.false_and] at hQ; exact hQ
    · rw [decide_eq_false (p := ¬ _ ≤ x) (fun y => y h2), Bool.and_false] at hQ; exact hQ
    · rw [decide_eq_true h1, decide_eq_true h2] at hQ; exact hQ
theorem P_inFields {k : Nat} {M : Mem} {Q : Int32 → Mem → Prop} (h : M.1 7 1 = nI k) (h1 : 1 ≤ k) (h5 : k ≤ 5) (hQ : Q (if fitA k (M.1 8) 4 then 1 else 0) M) : P_Telling_areInFields M Q := by
  have key : ∀ d i, i + d = 4 → fitA k (M.1 8) i = true → P_Telling_areInFields_2 Q (d + 1) (nI i) M := by
    intro d
    induction d with
    | zero =>
      intro i hi ht
      have : i = 4 := by omega
      subst this
      unfold P_Telling_areInFields_2
      rw [ht] at hQ
      exact br_T (by decide) hQ
    | succ d ih =>
      intro i hi ht
      unfold P_Telling_areInFields_2
      have hw := fw_le k (by omega) i (by omega)
      refine br_F (nI_ge (b := 4) (by omega) (by omega)) (P_width h h1 h5 (by omega) ?_)
      rw [nI_1, cl_nI (n := i) (by omega)]
      refine ⟨fun hz => ih (i + 1) (by omega) ?_, fun hz => ⟨in_nI (by omega) (by omega), P_fits h h5 ?_ ?_⟩⟩
      · have hz : fw k i ≤ 0 := (nle_of (a := 0) (by omega) (by omega)).mp hz
        unfold fitA fitB
        rw [ht, if_pos (by omega)]
        rfl
      · intro x
        rw [x] at hz
        exact hz (by decide)
      · cases hf : fitB k i (M.1 8 i)
        · have : fitA k (M.1 8) 4 = false := fitA_false (i := i + 1) (by unfold fitA; rw [ht, hf]; rfl) (by omega)
          rw [this] at hQ
          exact br_T' rfl hQ
        · exact br_F' (by decide) (ih (i + 1) (by omega) (by unfold fitA; rw [ht, hf]; rfl))
  unfold P_Telling_areInFields
  exact ⟨5, key 4 0 rfl rfl⟩
theorem P_compose99 {k : Nat} {M : Mem} {Q : Int32 → Mem → Prop} (h : M.1 7 1 = nI k) (h1 : 1 ≤ k) (h5 : k ≤ 5) (hQ1 : fitA k (M.1 8) 4 = true → toldB k (M.1 8) = true → Q 1 M) (hQ0 : ¬ (fitA k (M.1 8) 4 = true ∧ toldB k (M.1 8) = true) → Q 0 M) : P_Telling_compose_99 Q M := by
  unfold P_Telling_compose_99
  refine P_inFields h h1 h5 ?_
  cases hf : fitA k (M.1 8) 4
  · exact br_T rfl (hQ0 (by simp [hf]))
  · refine br_F (by decide) (P_told h h5 ?_)
    cases ht : toldB k (M.1 8)
    · exact br_T rfl (hQ0 (by simp [ht]))
    · exact br_F (by decide) (hQ1 hf ht)
/-! the same is asked, the same is told -/
theorem bitV_nat {x j : Nat} (hx : x < 2 ^ 31) (hj : j ≤ 31) : bitV (nI x) j = nI (x / 2 ^ j % 2) := by
  unfold bitV
  rw [pk_shrN hx _ j (s_of j (by omega)), pk_andN (Nat.lt_of_le_of_lt (Nat.div_le_self _ _) (by omega)) (m := 1) 1 (by decide)]
def nbN (x : Nat) : Nat → List Int32
  | 0 => []
  | w + 1 => nI (x / 2 ^ w % 2) :: nbN x w
theorem nbL_nat {x w : Nat} (hx : x < 2 ^ 31) (hw : w ≤ 31) : nbL (nI x) w = nbN x w := by
  induction w with
  | zero => rfl
  | succ w ih => unfold nbL nbN; rw [ih (by omega), bitV_nat hx (by omega)]
theorem nbN_split (x w v : Nat) : nbN x (w + v) = nbN (x / 2 ^ v) w ++ nbN x v := by
  induction w with
  | zero => rw [Nat.zero_add]; rfl
  | succ w ih =>
    rw [show w + 1 + v = (w + v) + 1 by omega]
    unfold nbN
    rw [ih, Nat.div_div_eq_div_mul, ← Nat.pow_add, Nat.add_comm v w]
    rfl
theorem nbN_congr {x y w : Nat} (h : ∀ j, j < w → x / 2 ^ j % 2 = y / 2 ^ j % 2) : nbN x w = nbN y w := by
  induction w with
  | zero => rfl
  | succ w ih => unfold nbN; rw [ih (fun j hj => h j (by omega)), h w (by omega)]
theorem letN {x n : Nat} (hx : x < 2 ^ 31) (hn : 5 * n ≤ 31) : (nI x >>> (nI (5 * n) &&& 31)) &&& 31 = nI (x / 2 ^ (5 * n) % 2 ^ 5) := by
  rw [pk_shrN hx _ (5 * n) (s_of _ (by omega)), pk_andN (Nat.lt_of_le_of_lt (Nat.div_le_self _ _) (by omega)) (m := 31) 5 (by decide)]
theorem lets4 {b c : Nat} (hb : b < 1024) (hc : c < 1024) : lets (nI (b * 1024 + c)) 4 = (lets (nI c) 2 && lets (nI b) 2) := by
  unfold lets lets lets lets lets
  rw [letN (n := 0) (by omega) (by omega), letN (n := 1) (by omega) (by omega), letN (n := 2) (by omega) (by omega), letN (n := 3) (by omega) (by omega), letN (x := c) (n := 0) (by omega) (by omega), letN (x := c) (n := 1) (by omega) (by omega), letN (x := b) (n := 0) (by omega) (by omega), letN (x := b) (n := 1) (by omega) (by omega)]
  rw [show (b * 1024 + c) / 2 ^ (5 * 0) % 2 ^ 5 = c / 2 ^ (5 * 0) % 2 ^ 5 by omega, show (b * 1024 + c) / 2 ^ (5 * 1) % 2 ^ 5 = c / 2 ^ (5 * 1) % 2 ^ 5 by omega, show (b * 1024 + c) / 2 ^ (5 * 2) % 2 ^ 5 = b / 2 ^ (5 * 0) % 2 ^ 5 by omega, show (b * 1024 + c) / 2 ^ (5 * 3) % 2 ^ 5 = b / 2 ^ (5 * 1) % 2 ^ 5 by omega]
  simp only [Bool.true_and, Bool.and_assoc]
theorem or10 {b c : Nat} (hb : b < 1024) (hc : c < 1024) : (nI b <<< ((10 : Int32) &&& 31)) ||| nI c = nI (b * 1024 + c) := by
  rw [pk_shlN ((10 : Int32) &&& 31) 10 (by decide) (by omega), nx_or]
  have e := Nat.shiftLeft_add_eq_or_of_lt (i := 10) (b := c) (by omega) b
  rw [Nat.shiftLeft_eq] at e
  rw [← e]
theorem lets_of {x : Int32} {n : Nat} : lets x n = true ∨ lets x n = false := by cases lets x n <;> simp
