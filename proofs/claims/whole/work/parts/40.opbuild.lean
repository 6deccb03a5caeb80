/-! build -/
theorem ushr_in (x : Int32) {w : Nat} (hw : w ≤ 31) : (x.toUInt32 >>> ((nI w).toUInt32 &&& Int32.toUInt32 31)).toInt32 = 0 ↔ ∃ n : Nat, n < 2 ^ w ∧ x = nI n := by
  have e := pk_ushr x (nI w) w (s_u w (by omega))
  have hp : 2 ^ w ≤ 2 ^ 31 := Nat.pow_le_pow_right (by omega) hw
  constructor
  · intro h
    rw [h] at e
    have e : x.toBitVec.toNat / 2 ^ w = 0 := e.symm
    refine ⟨x.toBitVec.toNat, (Nat.div_eq_zero_iff_lt (Nat.two_pow_pos w)).mp e, ?_⟩
    apply Int32.toBitVec_inj.mp
    show x.toBitVec = BitVec.ofNat 32 x.toBitVec.toNat
    rw [BitVec.ofNat_toNat, BitVec.setWidth_eq]
  · rintro ⟨n, hn, rfl⟩
    rw [pk_ushrN (by omega) (nI w) w (s_u w (by omega)), Nat.div_eq_of_lt hn]
    rfl
theorem nat_in {x : Int32} {m : Nat} (hm : m ≤ 2147483648) : (∃ n : Nat, n < m ∧ x = nI n) ↔ 0 ≤ x.toInt ∧ x.toInt < m := by
  constructor
  · rintro ⟨n, hn, rfl⟩
    rw [i_nI (by omega)]
    omega
  · rintro ⟨h1, h2⟩
    obtain ⟨n, hn, rfl⟩ := i_of h1
    rw [i_nI hn] at h2
    exact ⟨n, by omega, rfl⟩
def inR (x lo hi : Int32) : Prop := ¬ x < lo ∧ ¬ hi < x
theorem inR_iff (x lo hi : Int32) : inR x lo hi ↔ lo.toInt ≤ x.toInt ∧ x.toInt ≤ hi.toInt := by
  unfold inR
  rw [i_lt, i_lt]
  omega
theorem P_isIn {x lo hi : Int32} {M : Mem} {Q : Int32 → Mem → Prop} (h1 : inR x lo hi → Q 1 M) (h0 : ¬ inR x lo hi → Q 0 M) : P_Mo_isIn x lo hi M Q := by
  unfold P_Mo_isIn
  exact ⟨fun a => h0 (fun x => x.1 a), fun a => ⟨fun b => h0 (fun x => x.2 b), fun b => h1 ⟨a, b⟩⟩⟩
/-- what the model asks of the numbers -/
def okM (k : Nat) (a b c d : Int32) : Prop :=
  if k = 1 then inR a (-32768) 32767 ∧ inR b (-32768) 32767 ∧ inR c (-128) 127 ∧ inR d (-128) 127
  else if k = 2 then inR a 0 32767 ∧ inR b 0 32767 ∧ inR c 0 255 ∧ lets a 3 = true ∧ lets b 3 = true
  else if k = 3 then 0 ≤ a
  else if k = 4 then inR a 0 511 ∧ inR (a &&& 7) 2 5 ∧ ¬ (a &&& 7) ≤ ((a >>> ((3 : Int32) &&& 31)) &&& 7) ∧ inR b 0 1023 ∧ inR c 0 1023 ∧ lets b 2 = true ∧ lets c 2 = true
  else inR a 0 2249 ∧ inR b 1 7
def wM (k : Nat) (a b c d : Int32) : List Int32 :=
  if k = 1 then nbL a 16 ++ nbL b 16 ++ nbL c 8 ++ nbL d 8
  else if k = 2 then nbL a 15 ++ nbL b 15 ++ nbL c 8
  else if k = 3 then nbL a 31
  else if k = 4 then nbL a 9 ++ nbL b 10 ++ nbL c 10
  else nbL a 12 ++ nbL b 3
theorem P_letr {x : Int32} {n : Nat} {M : Mem} {Q : Int32 → Mem → Prop} (hn : n ≤ 5) (h1 : lets x n = true → Q 1 M) (h0 : ¬ lets x n = true → Q 0 M) : P_Mo_areLetters x (nI n) M Q := by
  refine P_moletters hn ?_
  cases h : lets x n
  · exact h0 (by rw [h]; decide)
  · exact h1 h
theorem P_says {k : Nat} {a b c d : Int32} {M : Mem} {l : List Int32} {Q : Int32 → Mem → Prop} (k1 : 1 ≤ k) (k5 : k ≤ 5) (h : WRD M l) (hl : l.length = 24)
    (h1 : okM k a b c d → ∀ N, MW M N → WRD N (l ++ wM k a b c d) → Q 1 N) (h0 : ¬ okM k a b c d → Q 0 M) : P_Mo_says (nI k) a b c d M Q := by
  have ne : ∀ x y : Nat, x < 6 → y < 6 → x ≠ y → ¬ nI x = nI y := fun x y hx hy hxy => by rw [nI_eq (by omega) (by omega)]; exact hxy
  have say : ∀ (v : Int32) (w : Nat) (N : Mem) (L : List Int32) (R : Mem → Prop), w ≤ 31 → L.length + w ≤ 120 → WRD N L → (∀ O, MW N O → WRD O (L ++ nbL v w) → R O) → P_Mo_say v (nI w) N R := fun v w N L R hw hL hN hR => P_say hN hL hw hR
  unfold P_Mo_says
  unfold okM wM at h1
  unfold okM at h0
  rcases (show k = 1 ∨ k = 2 ∨ k = 3 ∨ k = 4 ∨ k = 5 by omega) with rfl | rfl | rfl | rfl | rfl
  · rw [if_pos rfl, if_pos rfl] at h1
    rw [if_pos rfl] at h0
    refine ⟨fun _ => ?_, fun x => absurd x (by decide), fun x => absurd x (by decide), fun x => absurd x (by decide), fun x => absurd rfl x⟩
    refine P_isIn (fun c1 => br_F (by decide) ?_) (fun c1 => br_T rfl (h0 (fun x => c1 x.1)))
    refine P_isIn (fun c2 => br_F (by decide) ?_) (fun c2 => br_T rfl (h0 (fun x => c2 x.2.1)))
    refine P_isIn (fun c3 => br_F (by decide) ?_) (fun c3 => br_T rfl (h0 (fun x => c3 x.2.2.1)))
    refine P_isIn (fun c4 => br_F' (by decide) ?_) (fun c4 => br_T' rfl (h0 (fun x => c4 x.2.2.2)))
    refine say a 16 M l _ (by omega) (by omega) h (fun N1 s1 w1 => say b 16 N1 _ _ (by omega) (by rw [List.length_append, nbL_len]; omega) w1 (fun N2 s2 w2 => say c 8 N2 _ _ (by omega) (by rw [List.length_append, List.length_append, nbL_len, nbL_len]; omega) w2 (fun N3 s3 w3 => say d 8 N3 _ _ (by omega) (by rw [List.length_append, List.length_append, List.length_append, nbL_len, nbL_len, nbL_len]; omega) w3 (fun N4 s4 w4 => h1 ⟨c1, c2, c3, c4⟩ N4 (((s1.trans s2).trans s3).trans s4) ?_))))
    rw [List.append_assoc, List.append_assoc, List.append_assoc] at w4
    rw [List.append_assoc, List.append_assoc]
    exact w4
  · rw [if_neg (by omega), if_pos rfl, if_neg (by omega), if_pos rfl] at h1
    rw [if_neg (by omega), if_pos rfl] at h0
    refine ⟨fun x => absurd x (by decide), fun _ => ?_, fun x => absurd x (by decide), fun x => absurd x (by decide), fun _ x => absurd rfl x⟩
    refine P_isIn (fun c1 => br_F (by decide) ?_) (fun c1 => br_T rfl (h0 (fun x => c1 x.1)))
    refine P_isIn (fun c2 => br_F (by decide) ?_) (fun c2 => br_T rfl (h0 (fun x => c2 x.2.1)))
    refine P_isIn (fun c3 => br_F (by decide) ?_) (fun c3 => br_T rfl (h0 (fun x => c3 x.2.2.1)))
    refine P_letr (n := 3) (by omega) (fun c4 => br_F (by decide) ?_) (fun c4 => br_T rfl (h0 (fun x => c4 x.2.2.2.1)))
    refine P_letr (n := 3) (by omega) (fun c5 => br_F' (by decide) ?_) (fun c5 => br_T' rfl (h0 (fun x => c5 x.2.2.2.2)))
    refine say a 15 M l _ (by omega) (by omega) h (fun N1 s1 w1 => say b 15 N1 _ _ (by omega) (by rw [List.length_append, nbL_len]; omega) w1 (fun N2 s2 w2 => say c 8 N2 _ _ (by omega) (by rw [List.length_append, List.length_append, nbL_len, nbL_len]; omega) w2 (fun N3 s3 w3 => h1 ⟨c1, c2, c3, c4, c5⟩ N3 ((s1.trans s2).trans s3) ?_)))
    rw [List.append_assoc, List.append_assoc] at w3
    rw [List.append_assoc]
    exact w3
  · rw [if_neg (by omega), if_neg (by omega), if_pos rfl, if_neg (by omega), if_neg (by omega), if_pos rfl] at h1
    rw [if_neg (by omega), if_neg (by omega), if_pos rfl] at h0
    refine ⟨fun x => absurd x (by decide), fun x => absurd x (by decide), fun _ => ?_, fun x => absurd x (by decide), fun _ _ x => absurd rfl x⟩
    exact ⟨fun c1 => say a 31 M l _ (by omega) (by omega) h (fun N1 s1 w1 => h1 c1 N1 s1 w1), h0⟩
  · rw [if_neg (by omega), if_neg (by omega), if_neg (by omega), if_pos rfl, if_neg (by omega), if_neg (by omega), if_neg (by omega), if_pos rfl] at h1
    rw [if_neg (by omega), if_neg (by omega), if_neg (by omega), if_pos rfl] at h0
    refine ⟨fun x => absurd x (by decide), fun x => absurd x (by decide), fun x => absurd x (by decide), fun _ => ?_, fun _ _ _ x => absurd rfl x⟩
    refine P_isIn (fun c1 => br_F (by decide) ?_) (fun c1 => br_T rfl (h0 (fun x => c1 x.1)))
    refine P_isIn (fun c2 => br_F (by decide) ?_) (fun c2 => br_T rfl (h0 (fun x => c2 x.2.1)))
    refine ⟨fun c3 => h0 (fun x => x.2.2.1 c3), fun c3 => ?_⟩
    refine P_isIn (fun c4 => br_F (by decide) ?_) (fun c4 => br_T rfl (h0 (fun x => c4 x.2.2.2.1)))
    refine P_isIn (fun c5 => br_F (by decide) ?_) (fun c5 => br_T rfl (h0 (fun x => c5 x.2.2.2.2.1)))
    refine P_letr (n := 2) (by omega) (fun c6 => br_F (by decide) ?_) (fun c6 => br_T rfl (h0 (fun x => c6 x.2.2.2.2.2.1)))
    refine P_letr (n := 2) (by omega) (fun c7 => br_F' (by decide) ?_) (fun c7 => br_T' rfl (h0 (fun x => c7 x.2.2.2.2.2.2)))
    refine say a 9 M l _ (by omega) (by omega) h (fun N1 s1 w1 => say b 10 N1 _ _ (by omega) (by rw [List.length_append, nbL_len]; omega) w1 (fun N2 s2 w2 => say c 10 N2 _ _ (by omega) (by rw [List.length_append, List.length_append, nbL_len, nbL_len]; omega) w2 (fun N3 s3 w3 => h1 ⟨c1, c2, c3, c4, c5, c6, c7⟩ N3 ((s1.trans s2).trans s3) ?_)))
    rw [List.append_assoc, List.append_assoc] at w3
    rw [List.append_assoc]
    exact w3
  · rw [if_neg (by omega), if_neg (by omega), if_neg (by omega), if_neg (by omega), if_neg (by omega), if_neg (by omega), if_neg (by omega), if_neg (by omega)] at h1
    rw [if_neg (by omega), if_neg (by omega), if_neg (by omega), if_neg (by omega)] at h0
    refine ⟨fun x => absurd x (by decide), fun x => absurd x (by decide), fun x => absurd x (by decide), fun x => absurd x (by decide), fun _ _ _ _ => br_T' rfl ?_⟩
    refine P_isIn (fun c1 => br_F (by decide) ?_) (fun c1 => br_T rfl (h0 (fun x => c1 x.1)))
    refine P_isIn (fun c2 => br_F' (by decide) ?_) (fun c2 => br_T' rfl (h0 (fun x => c2 x.2)))
    refine say a 12 M l _ (by omega) (by omega) h (fun N1 s1 w1 => say b 3 N1 _ _ (by omega) (by rw [List.length_append, nbL_len]; omega) w1 (fun N2 s2 w2 => h1 ⟨c1, c2⟩ N2 (s1.trans s2) ?_))
    rw [List.append_assoc] at w2
    exact w2
/-! what the class asks -/
def fitB (k i : Nat) (x : Int32) : Bool :=
  if fw k i = 0 then true
  else if k = 1 then decide (¬ x < -((1 : Int32) <<< ((nI (fw k i) - 1) &&& 31))) && decide (¬ ((1 : Int32) <<< ((nI (fw k i) - 1) &&& 31)) ≤ x)
  else decide ((x.toUInt32 >>> ((nI (fw k i)).toUInt32 &&& Int32.toUInt32 31)).toInt32 = 0)
def fitA (k : Nat) (n : Nat → Int32) : Nat → Bool
  | 0 => true
  | i + 1 => fitA k n i && fitB k i (n i)
theorem fitA_false {k : Nat} {n : Nat → Int32} {i m : Nat} (h : fitA k n i = false) (hm : i ≤ m) : fitA k n m = false := by
  induction m with
  | zero => rw [show i = 0 by omega] at h; exact h
  | succ m ih =>
    by_cases hn : i = m + 1
    · rw [← hn]; exact h
    · unfold fitA; rw [ih (by omega)]; rfl
theorem P_fits {k i : Nat} {x : Int32} {M : Mem} {Q : Int32 → Mem → Prop} (h : M.1 7 1 = nI k) (h5 : k ≤ 5) (hw : fw k i ≠ 0) (hQ : Q (if fitB k i x then 1 else 0) M) : P_Telling_fits x (nI (fw k i)) M Q := by
  unfold P_Telling_fits
  rw [h]
  unfold fitB at hQ
  rw [if_neg hw] at hQ
  refine ⟨fun hk => ?_, fun hk => ?_⟩
  · have : ¬ k = 1 := fun x => hk (by rw [x]; rfl)
    rw [if_neg this] at hQ
    refine ⟨fun hz => ?_, fun hz => ?_⟩
    · rw [decide_eq_false hz] at hQ; exact hQ
    · rw [decide_eq_true hz] at hQ; exact hQ
  · have : k = 1 := (nI_eq (b := 1) (by omega) (by omega)).mp hk
    rw [if_pos this] at hQ
    refine ⟨fun h1 => ?_, fun h1 => ⟨fun h2 => ?_, fun h2 => ?_⟩⟩
    · rw [decide_eq_false (p := ¬ x < _) (fun y => y h1), Bool.false_and] at hQ; exact hQ
    · rw [decide_eq_false (p := ¬ _ ≤ x) (fun y => y h2), Bool.and_false] at hQ; exact hQ
    · rw [decide_eq_true h1, decide_eq_true h2] at hQ; exact hQ
theorem P_inFields {k : Nat} {M : Mem} {Q : Int32 → Mem → Prop} (h : M.1 7 1 = nI k) (h1 : 1 ≤ k) (h5 : k ≤ 5) (hQ : Q (if fitA k (M.1 8) 4 then 1 else 0) M) : P_Telling_areInFields M Q := by
  have key : ∀ d i, i + d = 4 → fitA k (M.1 8) i = true → P_Telling_areInFields_2 Q (d + 1) (nI i) M := by
    intro d
    induction d with
    | zero =>
      intro i hi ht
      have : i = 4 := by omega
      subst this
      unfold P_Telling_areInFields_2
      rw [ht] at hQ
      exact br_T (by decide) hQ
    | succ d ih =>
      intro i hi ht
      unfold P_Telling_areInFields_2
      have hw := fw_le k (by omega) i (by omega)
      refine br_F (nI_ge (b := 4) (by omega) (by omega)) (P_width h h1 h5 (by omega) ?_)
      rw [nI_1, cl_nI (n := i) (by omega)]
      refine ⟨fun hz => ih (i + 1) (by omega) ?_, fun hz => ⟨in_nI (by omega) (by omega), P_fits h h5 ?_ ?_⟩⟩
      · have hz : fw k i ≤ 0 := (nle_of (a := 0) (by omega) (by omega)).mp hz
        unfold fitA fitB
        rw [ht, if_pos (by omega)]
        rfl
      · intro x
        rw [x] at hz
        exact hz (by decide)
      · cases hf : fitB k i (M.1 8 i)
        · have : fitA k (M.1 8) 4 = false := fitA_false (i := i + 1) (by unfold fitA; rw [ht, hf]; rfl) (by omega)
          rw [this] at hQ
          exact br_T' rfl hQ
        · exact br_F' (by decide) (ih (i + 1) (by omega) (by unfold fitA; rw [ht, hf]; rfl))
  unfold P_Telling_areInFields
  exact ⟨5, key 4 0 rfl rfl⟩
theorem P_compose99 {k : Nat} {M : Mem} {Q : Int32 → Mem → Prop} (h : M.1 7 1 = nI k) (h1 : 1 ≤ k) (h5 : k ≤ 5) (hQ1 : fitA k (M.1 8) 4 = true → toldB k (M.1 8) = true → Q 1 M) (hQ0 : ¬ (fitA k (M.1 8) 4 = true ∧ toldB k (M.1 8) = true) → Q 0 M) : P_Telling_compose_99 Q M := by
  unfold P_Telling_compose_99
  refine P_inFields h h1 h5 ?_
  cases hf : fitA k (M.1 8) 4
  · exact br_T rfl (hQ0 (by simp [hf]))
  · refine br_F (by decide) (P_told h h5 ?_)
    cases ht : toldB k (M.1 8)
    · exact br_T rfl (hQ0 (by simp [ht]))
    · exact br_F (by decide) (hQ1 hf ht)
/-! the same is asked, the same is told -/
theorem bitV_nat {x j : Nat} (hx : x < 2 ^ 31) (hj : j ≤ 31) : bitV (nI x) j = nI (x / 2 ^ j % 2) := by
  unfold bitV
  rw [pk_shrN hx _ j (s_of j (by omega)), pk_andN (Nat.lt_of_le_of_lt (Nat.div_le_self _ _) (by omega)) (m := 1) 1 (by decide)]
def nbN (x : Nat) : Nat → List Int32
  | 0 => []
  | w + 1 => nI (x / 2 ^ w % 2) :: nbN x w
theorem nbL_nat {x w : Nat} (hx : x < 2 ^ 31) (hw : w ≤ 31) : nbL (nI x) w = nbN x w := by
  induction w with
  | zero => rfl
  | succ w ih => unfold nbL nbN; rw [ih (by omega), bitV_nat hx (by omega)]
theorem nbN_split (x w v : Nat) : nbN x (w + v) = nbN (x / 2 ^ v) w ++ nbN x v := by
  induction w with
  | zero => rw [Nat.zero_add]; rfl
  | succ w ih =>
    rw [show w + 1 + v = (w + v) + 1 by omega]
    show nI (x / 2 ^ (w + v) % 2) :: nbN x (w + v) = nI (x / 2 ^ v / 2 ^ w % 2) :: (nbN (x / 2 ^ v) w ++ nbN x v)
    rw [ih, Nat.div_div_eq_div_mul, ← Nat.pow_add, Nat.add_comm v w]
theorem nbN_congr {x y w : Nat} (h : ∀ j, j < w → x / 2 ^ j % 2 = y / 2 ^ j % 2) : nbN x w = nbN y w := by
  induction w with
  | zero => rfl
  | succ w ih => unfold nbN; rw [ih (fun j hj => h j (by omega)), h w (by omega)]
theorem letN {x n : Nat} (hx : x < 2 ^ 31) (hn : 5 * n ≤ 31) : (nI x >>> (nI (5 * n) &&& 31)) &&& 31 = nI (x / 2 ^ (5 * n) % 2 ^ 5) := by
  rw [pk_shrN hx _ (5 * n) (s_of _ (by omega)), pk_andN (Nat.lt_of_le_of_lt (Nat.div_le_self _ _) (by omega)) (m := 31) 5 (by decide)]
theorem lets4 {b c : Nat} (hb : b < 1024) (hc : c < 1024) : lets (nI (b * 1024 + c)) 4 = (lets (nI c) 2 && lets (nI b) 2) := by
  unfold lets lets lets lets lets
  rw [letN (n := 0) (by omega) (by omega), letN (n := 1) (by omega) (by omega), letN (n := 2) (by omega) (by omega), letN (n := 3) (by omega) (by omega), letN (x := c) (n := 0) (by omega) (by omega), letN (x := c) (n := 1) (by omega) (by omega), letN (x := b) (n := 0) (by omega) (by omega), letN (x := b) (n := 1) (by omega) (by omega)]
  rw [show (b * 1024 + c) / 2 ^ (5 * 0) % 2 ^ 5 = c / 2 ^ (5 * 0) % 2 ^ 5 by omega, show (b * 1024 + c) / 2 ^ (5 * 1) % 2 ^ 5 = c / 2 ^ (5 * 1) % 2 ^ 5 by omega, show (b * 1024 + c) / 2 ^ (5 * 2) % 2 ^ 5 = b / 2 ^ (5 * 0) % 2 ^ 5 by omega, show (b * 1024 + c) / 2 ^ (5 * 3) % 2 ^ 5 = b / 2 ^ (5 * 1) % 2 ^ 5 by omega]
  simp only [Bool.true_and, Bool.and_assoc]
theorem or10 {b c : Nat} (hb : b < 1024) (hc : c < 1024) : (nI b <<< ((10 : Int32) &&& 31)) ||| nI c = nI (b * 1024 + c) := by
  rw [pk_shlN ((10 : Int32) &&& 31) 10 (by decide) (by omega), nx_or]
  have e := Nat.shiftLeft_add_eq_or_of_lt (i := 10) (b := c) (by omega) b
  rw [Nat.shiftLeft_eq] at e
  rw [← e]
theorem lets_of {x : Int32} {n : Nat} : lets x n = true ∨ lets x n = false := by cases lets x n <;> simp
theorem fitA4 (k : Nat) (n : Nat → Int32) : fitA k n 4 = true ↔ fitB k 0 (n 0) = true ∧ fitB k 1 (n 1) = true ∧ fitB k 2 (n 2) = true ∧ fitB k 3 (n 3) = true := by
  show ((((true && fitB k 0 (n 0)) && fitB k 1 (n 1)) && fitB k 2 (n 2)) && fitB k 3 (n 3)) = true ↔ _
  simp only [Bool.true_and, Bool.and_eq_true, and_assoc]
theorem fitB_0 {k i : Nat} {x : Int32} (h : fw k i = 0) : fitB k i x = true := by unfold fitB; rw [if_pos h]
theorem fitB_u {k i w : Nat} {x : Int32} (h : fw k i = w) (h0 : w ≠ 0) (hw : w ≤ 31) (hk : k ≠ 1) : fitB k i x = true ↔ ∃ n : Nat, n < 2 ^ w ∧ x = nI n := by
  unfold fitB
  rw [h, if_neg h0, if_neg hk, decide_eq_true_eq]
  exact ushr_in x hw
theorem fitB_s {i : Nat} {x lo hi h1 : Int32} (hlo : -((1 : Int32) <<< ((nI (fw 1 i) - 1) &&& 31)) = lo) (hhi : ((1 : Int32) <<< ((nI (fw 1 i) - 1) &&& 31)) = hi) (hh : hi.toInt = h1.toInt + 1) (h0 : fw 1 i ≠ 0) : fitB 1 i x = true ↔ inR x lo h1 := by
  unfold fitB
  rw [if_neg h0, if_pos rfl, hlo, hhi, inR_iff, Bool.and_eq_true, decide_eq_true_eq, decide_eq_true_eq, i_lt, i_le, hh]
  omega
theorem t_lit {x : Int32} {z : Int} (h : x.toInt = z) : x.toInt = z := h
theorem ok1 {a b c d : Int32} {n : Nat → Int32} (h0 : n 0 = a) (h1 : n 1 = b) (h2 : n 2 = c) (h3 : n 3 = d) : (fitA 1 n 4 = true ∧ toldB 1 n = true) ↔ okM 1 a b c d := by
  rw [fitA4, h0, h1, h2, h3, fitB_s (i := 0) (lo := -32768) (hi := 32768) (h1 := 32767) (by decide) (by decide) (by decide) (by decide), fitB_s (i := 1) (lo := -32768) (hi := 32768) (h1 := 32767) (by decide) (by decide) (by decide) (by decide), fitB_s (i := 2) (lo := -128) (hi := 128) (h1 := 127) (by decide) (by decide) (by decide) (by decide), fitB_s (i := 3) (lo := -128) (hi := 128) (h1 := 127) (by decide) (by decide) (by decide) (by decide)]
  unfold okM toldB
  simp
theorem ok2 {a b c d : Int32} {n : Nat → Int32} (h0 : n 0 = a) (h1 : n 1 = b) (h2 : n 2 = c) : (fitA 2 n 4 = true ∧ toldB 2 n = true) ↔ okM 2 a b c d := by
  unfold okM toldB
  rw [fitA4, h0, h1, h2, fitB_u (w := 15) rfl (by omega) (by omega) (by omega), fitB_u (w := 15) rfl (by omega) (by omega) (by omega), fitB_u (w := 8) rfl (by omega) (by omega) (by omega), fitB_0 (i := 3) rfl, if_pos rfl, if_neg (by omega), if_pos rfl, nat_in (by omega), nat_in (by omega), nat_in (by omega), inR_iff, inR_iff, inR_iff, show (0 : Int32).toInt = 0 by decide, show (32767 : Int32).toInt = 32767 by decide, show (255 : Int32).toInt = 255 by decide, Bool.and_eq_true]
  constructor
  · rintro ⟨⟨g1, g2, g3, -⟩, g4, g5⟩
    exact ⟨by omega, by omega, by omega, g4, g5⟩
  · rintro ⟨g1, g2, g3, g4, g5⟩
    exact ⟨⟨by omega, by omega, by omega, rfl⟩, g4, g5⟩
theorem ok3 {a b c d : Int32} {n : Nat → Int32} (h0 : n 0 = a) : (fitA 3 n 4 = true ∧ toldB 3 n = true) ↔ okM 3 a b c d := by
  have ha := i_rng a
  unfold okM toldB
  rw [fitA4, h0, fitB_u (w := 31) rfl (by omega) (by omega) (by omega), fitB_0 (i := 1) rfl, fitB_0 (i := 2) rfl, fitB_0 (i := 3) rfl, if_neg (by omega), if_neg (by omega), if_neg (by omega), if_neg (by omega), if_neg (by omega), if_pos rfl, nat_in (by omega), i_le, show (0 : Int32).toInt = 0 by decide]
  constructor
  · rintro ⟨⟨g1, -⟩, -⟩
    exact g1.1
  · intro g
    exact ⟨⟨⟨g, by omega⟩, rfl, rfl, rfl⟩, rfl⟩
theorem ok5 {a b c d : Int32} {n : Nat → Int32} (h0 : n 0 = a) (h1 : n 1 = b) : (fitA 5 n 4 = true ∧ toldB 5 n = true) ↔ okM 5 a b c d := by
  unfold okM toldB
  rw [fitA4, h0, h1, fitB_u (w := 12) rfl (by omega) (by omega) (by omega), fitB_u (w := 3) rfl (by omega) (by omega) (by omega), fitB_0 (i := 2) rfl, fitB_0 (i := 3) rfl, if_neg (by omega), if_neg (by omega), if_pos rfl, if_neg (by omega), if_neg (by omega), if_neg (by omega), if_neg (by omega), nat_in (by omega), nat_in (by omega), inR_iff, inR_iff, Bool.and_eq_true, Bool.not_eq_true', Bool.not_eq_true', decide_eq_false_iff_not, decide_eq_false_iff_not, i_le, i_le, show (0 : Int32).toInt = 0 by decide, show (2250 : Int32).toInt = 2250 by decide, show (2249 : Int32).toInt = 2249 by decide, show (7 : Int32).toInt = 7 by decide, show (1 : Int32).toInt = 1 by decide]
  constructor
  · rintro ⟨⟨g1, g2, -⟩, g4, g5⟩
    exact ⟨by omega, by omega⟩
  · rintro ⟨g1, g2⟩
    exact ⟨⟨by omega, by omega, rfl, rfl⟩, by omega, by omega⟩
theorem ok4 {a b c : Nat} {d : Int32} {n : Nat → Int32} (ha : a < 512) (hb : b < 1024) (hc : c < 1024) (h0 : n 0 = nI (a / 64)) (h1 : n 1 = nI (a / 8 % 8)) (h2 : n 2 = nI (a % 8)) (h3 : n 3 = nI (b * 1024 + c)) : (fitA 4 n 4 = true ∧ toldB 4 n = true) ↔ okM 4 (nI a) (nI b) (nI c) d := by
  have e7 : nI a &&& 7 = nI (a % 8) := pk_andN (by omega) (m := 7) 3 (by decide)
  have e3 : (nI a >>> ((3 : Int32) &&& 31)) &&& 7 = nI (a / 8 % 8) := by rw [pk_shrN (by omega) _ 3 (by decide), pk_andN (by omega) (m := 7) 3 (by decide)]
  unfold okM toldB
  rw [fitA4, h0, h1, h2, h3, fitB_u (w := 3) rfl (by omega) (by omega) (by omega), fitB_u (w := 3) rfl (by omega) (by omega) (by omega), fitB_u (w := 3) rfl (by omega) (by omega) (by omega), fitB_u (w := 20) rfl (by omega) (by omega) (by omega), if_neg (by omega), if_pos rfl, if_neg (by omega), if_neg (by omega), if_neg (by omega), if_pos rfl, e7, e3, lets4 hb hc, inR_iff, inR_iff, inR_iff, inR_iff]
  rw [Bool.and_eq_true, Bool.and_eq_true, Bool.and_eq_true, Bool.and_eq_true, Bool.not_eq_true', Bool.not_eq_true', Bool.not_eq_true', decide_eq_false_iff_not, decide_eq_false_iff_not, decide_eq_false_iff_not, i_lt, i_lt, i_le, i_nI (n := a % 8) (by omega), i_nI (n := a / 8 % 8) (by omega), i_nI (n := a) (by omega), i_nI (n := b) (by omega), i_nI (n := c) (by omega), show (0 : Int32).toInt = 0 by decide, show (511 : Int32).toInt = 511 by decide, show (1023 : Int32).toInt = 1023 by decide, show (2 : Int32).toInt = 2 by decide, show (5 : Int32).toInt = 5 by decide]
  have f0 : ∃ m : Nat, m < 2 ^ 3 ∧ nI (a / 64) = nI m := ⟨_, by omega, rfl⟩
  have f1 : ∃ m : Nat, m < 2 ^ 3 ∧ nI (a / 8 % 8) = nI m := ⟨_, by omega, rfl⟩
  have f2 : ∃ m : Nat, m < 2 ^ 3 ∧ nI (a % 8) = nI m := ⟨_, by omega, rfl⟩
  have f3 : ∃ m : Nat, m < 2 ^ 20 ∧ nI (b * 1024 + c) = nI m := ⟨_, by omega, rfl⟩
  constructor
  · rintro ⟨-, ⟨⟨g1, g2⟩, g3⟩, g4, g5⟩
    exact ⟨by omega, by omega, g3, by omega, by omega, g5, g4⟩
  · rintro ⟨-, g2, g3, -, -, g5, g4⟩
    exact ⟨⟨f0, f1, f2, f3⟩, ⟨⟨by omega, by omega⟩, g3⟩, g4, g5⟩
theorem w4 {a b c : Nat} (ha : a < 512) (hb : b < 1024) (hc : c < 1024) : nbL (nI (a / 64)) 3 ++ nbL (nI (a / 8 % 8)) 3 ++ nbL (nI (a % 8)) 3 ++ nbL (nI (b * 1024 + c)) 20 = nbL (nI a) 9 ++ nbL (nI b) 10 ++ nbL (nI c) 10 := by
  rw [nbL_nat (by omega) (by omega), nbL_nat (by omega) (by omega), nbL_nat (by omega) (by omega), nbL_nat (by omega) (by omega), nbL_nat (x := a) (by omega) (by omega), nbL_nat (x := b) (by omega) (by omega), nbL_nat (x := c) (by omega) (by omega)]
  have e1 : nbN (b * 1024 + c) 20 = nbN b 10 ++ nbN c 10 := by
    rw [show (20 : Nat) = 10 + 10 from rfl, nbN_split, show (b * 1024 + c) / 2 ^ 10 = b by omega]
    congr 1
    refine nbN_congr (fun j hj => ?_)
    rcases (show j = 0 ∨ j = 1 ∨ j = 2 ∨ j = 3 ∨ j = 4 ∨ j = 5 ∨ j = 6 ∨ j = 7 ∨ j = 8 ∨ j = 9 by omega) with rfl | rfl | rfl | rfl | rfl | rfl | rfl | rfl | rfl | rfl <;> omega
  have e2 : nbN a 9 = nbN (a / 64) 3 ++ nbN (a / 8 % 8) 3 ++ nbN (a % 8) 3 := by
    rw [show (9 : Nat) = 6 + 3 from rfl, nbN_split, show (6 : Nat) = 3 + 3 from rfl, nbN_split, show a / 2 ^ 3 / 2 ^ 3 = a / 64 by omega]
    congr 1
    · congr 1
      refine nbN_congr (fun j hj => ?_)
      rcases (show j = 0 ∨ j = 1 ∨ j = 2 by omega) with rfl | rfl | rfl <;> omega
    · refine nbN_congr (fun j hj => ?_)
      rcases (show j = 0 ∨ j = 1 ∨ j = 2 by omega) with rfl | rfl | rfl <;> omega
  rw [e1, e2]
  simp only [List.append_assoc]
theorem wC {k : Nat} {a b c d : Int32} (h1 : 1 ≤ k) (h5 : k ≤ 5) (h4 : k ≠ 4) : nbL a (fw k 0) ++ nbL b (fw k 1) ++ nbL c (fw k 2) ++ nbL d (fw k 3) = wM k a b c d := by
  rcases (show k = 1 ∨ k = 2 ∨ k = 3 ∨ k = 5 by omega) with rfl | rfl | rfl | rfl
  · rfl
  · show nbL a 15 ++ nbL b 15 ++ nbL c 8 ++ [] = nbL a 15 ++ nbL b 15 ++ nbL c 8
    rw [List.append_nil]
  · show nbL a 31 ++ [] ++ [] ++ [] = nbL a 31
    rw [List.append_nil, List.append_nil, List.append_nil]
  · show nbL a 12 ++ nbL b 3 ++ [] ++ [] = nbL a 12 ++ nbL b 3
    rw [List.append_nil, List.append_nil]
theorem wM_len {k : Nat} {a b c d : Int32} (h1 : 1 ≤ k) (h5 : k ≤ 5) : (wM k a b c d).length ≤ 48 := by
  unfold wM
  rcases (show k = 1 ∨ k = 2 ∨ k = 3 ∨ k = 4 ∨ k = 5 by omega) with rfl | rfl | rfl | rfl | rfl <;> simp [nbL_len]
theorem wM_01 {k : Nat} {a b c d : Int32} : ∀ x ∈ wM k a b c d, x = 0 ∨ x = 1 := by
  intro x hx
  unfold wM at hx
  split at hx
  · simp only [List.mem_append] at hx
    rcases hx with ((hx | hx) | hx) | hx <;> exact nbL_01 _ _ x hx
  · split at hx
    · simp only [List.mem_append] at hx
      rcases hx with (hx | hx) | hx <;> exact nbL_01 _ _ x hx
    · split at hx
      · exact nbL_01 _ _ x hx
      · split at hx
        · simp only [List.mem_append] at hx
          rcases hx with (hx | hx) | hx <;> exact nbL_01 _ _ x hx
        · simp only [List.mem_append] at hx
          rcases hx with hx | hx <;> exact nbL_01 _ _ x hx
theorem lineS_n {l : List Int32} (hl : l.length ≤ 72) : (lineS l).1 % 8 = 0 ∧ (lineS l).1 ≤ 128 := by
  have hn := line_n hl
  unfold lineS
  rw [padS_n]
  unfold restN
  omega
theorem Inv.built {k : Nat} {M O : Mem} (h : Inv k M) (hc : ∀ c, c ∉ [7, 8, 9, 10, 35, 49, 50] → O.1 c = M.1 c) (h20 : O.2 20 = M.2 20) (h35 : O.2 35 = M.2 35) (hf : ∀ f, f ≠ 0 → f ≠ 23 → f ≠ 24 → f ≠ 25 → f ≠ 27 → O.1 35 f = M.1 35 f) (hO : IOut O) : Inv (k + 1) O := by
  obtain ⟨a1, a2, a3, a4, a5, a6, a7, a8, a9, a10⟩ := h
  have c := fun n hn => hc n hn
  have f := fun n (h1 : n ≠ 0) (h2 : n ≠ 23) (h3 : n ≠ 24) (h4 : n ≠ 25) (h5 : n ≠ 27) => hf n h1 h2 h3 h4 h5
  refine ⟨a1.congr (by rw [c 1 (by decide)]) (f 2 (by decide) (by decide) (by decide) (by decide) (by decide)) (c 36 (by decide)) (c 2 (by decide)), a2.congr (by rw [c 0 (by decide)]) (f 7 (by decide) (by decide) (by decide) (by decide) (by decide)), a3.congr (Nat.le_succ k) (c 37 (by decide)) (c 38 (by decide)) (c 39 (by decide)) (c 40 (by decide)) (c 3 (by decide)) (c 4 (by decide)), a4.congr (Nat.le_succ k) (c 37 (by decide)) (c 38 (by decide)) (c 39 (by decide)) (c 40 (by decide)) (c 5 (by decide)) (c 6 (by decide)), a5.congr (by rw [c 3 (by decide)]) (by rw [c 5 (by decide)]) (f 8 (by decide) (by decide) (by decide) (by decide) (by decide)), a6.congr (by rw [c 0 (by decide)]) (f 12 (by decide) (by decide) (by decide) (by decide) (by decide)) (by rw [c 0 (by decide)]) (f 13 (by decide) (by decide) (by decide) (by decide) (by decide)),
    a7.congr (by rw [c 11 (by decide)]) (f 11 (by decide) (by decide) (by decide) (by decide) (by decide)) (c 41 (by decide)) (c 12 (by decide)) (by rw [c 0 (by decide)]; exact Int.le_refl _) (c 14 (by decide)) (by rw [c 13 (by decide)]) (c 16 (by decide)) (c 42 (by decide)) (by rw [c 15 (by decide)]) (f 20 (by decide) (by decide) (by decide) (by decide) (by decide)) (c 18 (by decide)) (c 47 (by decide)) (c 44 (by decide)) (c 45 (by decide)) (c 46 (by decide)) (c 17 (by decide)) (c 48 (by decide)),
    hO, a9.congr (by rw [c 20 (by decide)]) (f 37 (by decide) (by decide) (by decide) (by decide) (by decide)) (c 31 (by decide)) (c 51 (by decide)) (c 32 (by decide)) (c 56 (by decide)) (c 33 (by decide)) (c 55 (by decide)) (by rw [h20]) (by rw [h35]), a10.congr (by rw [c 34 (by decide)]) (f 43 (by decide) (by decide) (by decide) (by decide) (by decide))⟩
theorem P_kind {x : Int32} {M : Mem} {Q : Int32 → Mem → Prop} (h1 : inR x 1 5 → Q 1 M) (h0 : ¬ inR x 1 5 → Q 0 M) : P_Telling_isKind x M Q := by
  unfold P_Telling_isKind
  exact ⟨fun a => h0 (fun x => x.1 a), fun a => ⟨fun b => h0 (fun x => x.2 b), fun b => h1 ⟨a, b⟩⟩⟩
theorem op_build {k : Nat} {M : Mem} {K : Mem → Prop} (h : Inv k M) (a1 a2 a3 a4 a5 a6 : Int32) (hK : ∀ N, Inv (k + 1) N → K N) : P_Sv_build a1 a2 a3 a4 a5 a6 M fun r M1 => P_Mo_build a1 a2 a3 a4 a5 a6 M1 fun r2 M2 => (r = r2 → K M2) ∧ (¬ r = r2 → (0 : Int32) = 1) := by
  have iO := h.2.2.2.2.2.2.2.1
  /- a refusal -/
  have no : ∀ N O : Mem, Same [7, 8] M N → Same [35, 50] N O → (∀ f, f ≠ 0 → f ≠ 24 → O.1 35 f = N.1 35 f) → O.2 = N.2 → K O := fun N O h1 h2 h3 h4 => by
    have e : ∀ c, c ∉ [7, 8, 35, 50] → O.1 c = M.1 c := fun c hc => by
      simp only [List.mem_cons, List.not_mem_nil, or_false, not_or] at hc
      exact (h2 c (by simp; omega)).1.trans (h1 c (by simp; omega)).1
    have f : ∀ f, f ≠ 0 → f ≠ 24 → O.1 35 f = M.1 35 f := fun f f1 f2 => by rw [h3 f f1 f2, (h1 35 (by decide)).1]
    refine hK O (h.built (fun c hc => e c (by simp at hc ⊢; omega)) (by rw [h4, (h1 20 (by decide)).2]) (by rw [h4, (h1 35 (by decide)).2]) (fun x x1 _ x3 _ _ => f x x1 x3) (iO.congr (by rw [e 9 (by decide)]) (f 23 (by decide) (by decide)) (e 49 (by decide)) (e 10 (by decide))))
  have mf : ∀ (N : Mem) (f : Nat), f ≠ 0 → (putI N 35 0 0).1 35 f = N.1 35 f := fun N f hf => by rw [putI_at, if_neg (fun x => hf x.2)]
  unfold P_Sv_build P_Telling_compose
  refine P_kind (fun ck => br_F (by decide) ?_) (fun ck => br_T rfl (br_T' rfl ?_))
  · have ck' := (inR_iff a1 1 5).mp ck
    rw [show (1 : Int32).toInt = 1 by decide, show (5 : Int32).toInt = 5 by decide] at ck'
    obtain ⟨q, hq, rfl⟩ := i_of (a := a1) (by omega)
    rw [i_nI hq] at ck'
    have q1 : 1 ≤ q := by omega
    have q5 : q ≤ 5 := by omega
    /- the ship is refused -/
    have noship : ¬ inR a2 0 1048575 → ∀ N, Same [7, 8] M N → P_Mo_build (nI q) a2 a3 a4 a5 a6 N fun r2 M2 => ((-1 : Int32) = r2 → K M2) ∧ (¬ (-1 : Int32) = r2 → (0 : Int32) = 1) := fun hs N sN => by
      unfold P_Mo_build
      refine P_isIn (fun _ => br_F (by decide) (P_isIn (fun x => absurd x hs) (fun _ => br_T' rfl ?_))) (fun x => absurd ck x)
      exact res_eq rfl (no N _ sN ((Same.refl _ _).putI (by simp)) (fun f f1 _ => mf N f f1) rfl)
    /- the numbers are refused or told -/
    have mo : inR a2 0 1048575 → ∀ (N : Mem) (r : Int32), (okM q a3 a4 a5 a6 → ∀ O, Same [35, 49, 50] N O → (∀ f, f ≠ 0 → f ≠ 23 → f ≠ 24 → f ≠ 25 → f ≠ 27 → O.1 35 f = N.1 35 f) → O.2 = N.2 → MOut O (lineS (nbL (nI q) 4 ++ nbL a2 20 ++ wM q a3 a4 a5 a6)) → O.1 35 23 = nI ((lineS (nbL (nI q) 4 ++ nbL a2 20 ++ wM q a3 a4 a5 a6)).1 / 8) → r = nI ((lineS (nbL (nI q) 4 ++ nbL a2 20 ++ wM q a3 a4 a5 a6)).1 / 8) ∧ K O) → (¬ okM q a3 a4 a5 a6 → r = -1 ∧ Same [7, 8] M N) → P_Mo_build (nI q) a2 a3 a4 a5 a6 N fun r2 M2 => (r = r2 → K M2) ∧ (¬ r = r2 → (0 : Int32) = 1) := fun hs N r g1 g0 => by
      unfold P_Mo_build
      refine P_isIn (fun _ => br_F (by decide) (P_isIn (fun _ => br_F' (by decide) ?_) (fun x => absurd hs x))) (fun x => absurd ck x)
      refine P_say (w := 4) (l := []) ⟨rfl, fun j hj => absurd hj (Nat.not_lt_zero _)⟩ (by show 0 + 4 ≤ 120; omega) (by omega) (fun N1 s1 w1 => ?_)
      rw [List.nil_append] at w1
      refine P_say (w := 20) w1 (by rw [nbL_len]; omega) (by omega) (fun N2 s2 w2 => ?_)
      have sA : MW (putI (putI N 35 0 0) 35 24 0) N2 := s1.trans s2
      have sB : Same [35, 50] N N2 := (((Same.refl _ _).putI (by simp)).putI (by simp)).trans sA.1
      have fB : ∀ f, f ≠ 0 → f ≠ 24 → N2.1 35 f = N.1 35 f := fun f f1 f2 => by
        rw [sA.2.1 f f2, putI_at, if_neg (fun x => f2 x.2)]
        exact mf N f f1
      refine P_says q1 q5 w2 (by rw [List.length_append, nbL_len, nbL_len]) (fun hok N3 s3 w3 => br_F' (by decide) ?_) (fun hok => br_T' rfl ?_)
      · refine P_mbuild w3 (by have := wM_len (a := a3) (b := a4) (c := a5) (d := a6) q1 q5; rw [List.length_append, List.length_append, nbL_len, nbL_len]; omega) (fun b hb => ?_) (fun O sO fO lO oO nO => ?_)
        · simp only [List.mem_append] at hb
          rcases hb with (hb | hb) | hb
          · exact nbL_01 _ _ b hb
          · exact nbL_01 _ _ b hb
          · exact wM_01 b hb
        · have g := g1 hok O ((sB.mono (by simp)).trans ((s3.1.mono (by simp)).trans sO)) (fun f f1 f2 f3 f4 f5 => ?_) (lO.trans (s3.2.2.trans sA.2.2)) oO nO
          · exact res_eq g.1 (g.2)
          · rw [fO f f2 f3 f4 f5, s3.2.1 f f3]
            exact fB f f1 f3
      · obtain ⟨e1, e2⟩ := g0 hok
        rw [e1]
        exact res_eq rfl (no N N2 e2 sB fB sA.2.2)
    have ship : inR a2 0 1048575 ↔ ¬ a2 < 0 ∧ a2 < 1048576 := by
      rw [inR_iff, i_lt, i_lt, show (0 : Int32).toInt = 0 by decide, show (1048575 : Int32).toInt = 1048575 by decide, show (1048576 : Int32).toInt = 1048576 by decide]
      omega
    /- it is told -/
    have yes : inR a2 0 1048575 → ∀ N, Same [7, 8] M N → N.1 7 1 = nI q → N.1 7 2 = a2 → (okM q a3 a4 a5 a6) → (nbL (nI q) 4 ++ nbL (N.1 7 2) 20 ++ nbL (N.1 8 0) (fw q 0) ++ nbL (N.1 8 1) (fw q 1) ++ nbL (N.1 8 2) (fw q 2) ++ nbL (N.1 8 3) (fw q 3) = nbL (nI q) 4 ++ nbL a2 20 ++ wM q a3 a4 a5 a6) → P_Sender_tell N fun M3 => P_Sender_bytes M3 fun r5 M4 => P_Mo_build (nI q) a2 a3 a4 a5 a6 M4 fun r2 M2 => (r5 = r2 → K M2) ∧ (¬ r5 = r2 → (0 : Int32) = 1) := fun hs N sN n1 n2 hok hw => by
      refine P_tell n1 q1 q5 (fun N2 s2 o2 => ?_)
      rw [hw] at o2
      have hlen : (nbL (nI q) 4 ++ nbL a2 20 ++ wM q a3 a4 a5 a6).length ≤ 72 := by
        have := wM_len (a := a3) (b := a4) (c := a5) (d := a6) q1 q5
        rw [List.length_append, List.length_append, nbL_len, nbL_len]; omega
      obtain ⟨d1, d2⟩ := lineS_n hlen
      unfold P_Sender_bytes
      rw [o2.1, pk_shrN (by omega) _ 3 (by decide)]
      refine mo hs N2 _ (fun _ O sO fO lO oO nO => ⟨rfl, ?_⟩) (fun x => absurd hok x)
      have sMN2 : Same [7, 8, 9, 10] M N2 := (sN.mono (by simp)).trans (s2.mono (by simp))
      refine hK O (h.built (fun c hc => ?_) ?_ ?_ (fun f f1 f2 f3 f4 f5 => ?_) ?_)
      · simp only [List.mem_cons, List.not_mem_nil, or_false, not_or] at hc
        exact (sO c (by simp; omega)).1.trans (sMN2 c (by simp; omega)).1
      · rw [lO, (sMN2 20 (by decide)).2]
      · rw [lO, (sMN2 35 (by decide)).2]
      · rw [fO f f1 f2 f3 f4 f5, (sMN2 35 (by decide)).1]
      · refine ⟨(lineS (nbL (nI q) 4 ++ nbL a2 20 ++ wM q a3 a4 a5 a6)).1 / 8, by omega, ?_, nO, fun j hj => ?_⟩
        · rw [(sO 9 (by decide)).1, o2.1]
          congr 1
          omega
        · rw [(sO 10 (by decide)).1, oO.2.2.2 j (by omega), o2.2.2.2 j (by omega)]
    refine ⟨fun hn => br_T' rfl (noship (fun x => (ship.mp x).1 hn) M (Same.refl _ _)), fun hn => ⟨fun hl => ?_, fun hl => br_T' rfl (noship (fun x => hl (ship.mp x).2) M (Same.refl _ _))⟩⟩
    have hs : inR a2 0 1048575 := ship.mpr ⟨hn, hl⟩
    have iv : ∀ n, n < 4 → vp_in (nI n) 4 := fun n hn => in_nI hn (by omega)
    unfold P_Telling_setNumbers
    have s7 : Same [7, 8] M (putI (putI M 7 1 (nI q)) 7 2 a2) := ((Same.refl _ _).putI (by simp)).putI (by simp)
    have s8 : ∀ b0 b1 b2 b3, Same [7, 8] M (putI (putI (putI (putI (putI (putI M 7 1 (nI q)) 7 2 a2) 8 0 b0) 8 1 b1) 8 2 b2) 8 3 b3) := fun _ _ _ _ => (((s7.putI (by simp)).putI (by simp)).putI (by simp)).putI (by simp)
    refine ⟨fun h4 => ⟨iv 0 (by omega), iv 1 (by omega), iv 2 (by omega), iv 3 (by omega), ?_⟩, fun h4 => ?_⟩
    · have h4 : q ≠ 4 := fun x => h4 (by rw [x]; rfl)
      have okE : (fitA q ((putI (putI (putI (putI (putI (putI M 7 1 (nI q)) 7 2 a2) 8 0 a3) 8 1 a4) 8 2 a5) 8 3 a6).1 8) 4 = true ∧ toldB q ((putI (putI (putI (putI (putI (putI M 7 1 (nI q)) 7 2 a2) 8 0 a3) 8 1 a4) 8 2 a5) 8 3 a6).1 8) = true) ↔ okM q a3 a4 a5 a6 := by
        rcases (show q = 1 ∨ q = 2 ∨ q = 3 ∨ q = 5 by omega) with rfl | rfl | rfl | rfl
        · exact ok1 rfl rfl rfl rfl
        · exact ok2 rfl rfl rfl
        · exact ok3 rfl
        · exact ok5 rfl rfl
      refine P_compose99 rfl q1 q5 (fun f1 f2 => br_F' (by decide) (yes hs _ (s8 _ _ _ _) rfl rfl (okE.mp ⟨f1, f2⟩) ?_)) (fun hno => br_T' rfl (mo hs _ (-1) (fun x => absurd (okE.mpr x) hno) (fun _ => ⟨rfl, s8 _ _ _ _⟩)))
      show nbL (nI q) 4 ++ nbL a2 20 ++ nbL a3 (fw q 0) ++ nbL a4 (fw q 1) ++ nbL a5 (fw q 2) ++ nbL a6 (fw q 3) = _
      rw [← wC q1 q5 h4]
      simp only [List.append_assoc]
    · have h4 : q = 4 := (nI_eq (b := 4) (by omega) (by omega)).mp h4
      subst h4
      have refuse : ¬ okM 4 a3 a4 a5 a6 → P_Mo_build (nI 4) a2 a3 a4 a5 a6 (putI (putI M 7 1 (nI 4)) 7 2 a2) fun r2 M2 => ((-1 : Int32) = r2 → K M2) ∧ (¬ (-1 : Int32) = r2 → (0 : Int32) = 1) := fun hno => mo hs _ (-1) (fun x => absurd x hno) (fun _ => ⟨rfl, s7⟩)
      have r9 : inR a3 0 511 → (a3.toUInt32 >>> ((9 : Int32).toUInt32 &&& Int32.toUInt32 31)).toInt32 = 0 := fun x => by
        rw [inR_iff, show (0 : Int32).toInt = 0 by decide, show (511 : Int32).toInt = 511 by decide] at x
        exact (ushr_in a3 (w := 9) (by omega)).mpr ((nat_in (by omega)).mpr (by omega))
      have r10 : ∀ y : Int32, inR y 0 1023 → (y.toUInt32 >>> ((10 : Int32).toUInt32 &&& Int32.toUInt32 31)).toInt32 = 0 := fun y x => by
        rw [inR_iff, show (0 : Int32).toInt = 0 by decide, show (1023 : Int32).toInt = 1023 by decide] at x
        exact (ushr_in y (w := 10) (by omega)).mpr ((nat_in (by omega)).mpr (by omega))
      have ok4' : okM 4 a3 a4 a5 a6 → inR a3 0 511 ∧ inR a4 0 1023 ∧ inR a5 0 1023 := fun x => by
        unfold okM at x
        rw [if_neg (by omega), if_neg (by omega), if_neg (by omega), if_pos rfl] at x
        exact ⟨x.1, x.2.2.2.1, x.2.2.2.2.1⟩
      refine ⟨fun c1 => br_T' rfl (refuse (fun x => c1 (r9 (ok4' x).1))), fun c1 => ⟨fun c2 => br_T' rfl (refuse (fun x => c2 (r10 _ (ok4' x).2.1))), fun c2 => ⟨fun c3 => ⟨iv 0 (by omega), iv 1 (by omega), iv 2 (by omega), iv 3 (by omega), ?_⟩, fun c3 => br_T' rfl (refuse (fun x => c3 (r10 _ (ok4' x).2.2)))⟩⟩⟩
      obtain ⟨a, ha, rfl⟩ := (ushr_in a3 (w := 9) (by omega)).mp c1
      obtain ⟨b, hb, rfl⟩ := (ushr_in a4 (w := 10) (by omega)).mp c2
      obtain ⟨c, hc, rfl⟩ := (ushr_in a5 (w := 10) (by omega)).mp c3
      rw [or10 hb hc, show nI a &&& 7 = nI (a % 8) from pk_andN (by omega) (m := 7) 3 (by decide), show (nI a >>> ((3 : Int32) &&& 31)) &&& 7 = nI (a / 8 % 8) by rw [pk_shrN (by omega) _ 3 (by decide), pk_andN (by omega) (m := 7) 3 (by decide)], show nI a >>> ((6 : Int32) &&& 31) = nI (a / 64) from pk_shrN (by omega) _ 6 (by decide)]
      have okE : (fitA 4 ((putI (putI (putI (putI (putI (putI M 7 1 (nI 4)) 7 2 a2) 8 0 (nI (a / 64))) 8 1 (nI (a / 8 % 8))) 8 2 (nI (a % 8))) 8 3 (nI (b * 1024 + c))).1 8) 4 = true ∧ toldB 4 ((putI (putI (putI (putI (putI (putI M 7 1 (nI 4)) 7 2 a2) 8 0 (nI (a / 64))) 8 1 (nI (a / 8 % 8))) 8 2 (nI (a % 8))) 8 3 (nI (b * 1024 + c))).1 8) = true) ↔ okM 4 (nI a) (nI b) (nI c) a6 := ok4 ha hb hc rfl rfl rfl rfl
      refine P_compose99 rfl q1 q5 (fun f1 f2 => br_F' (by decide) (yes hs _ (s8 _ _ _ _) rfl rfl (okE.mp ⟨f1, f2⟩) ?_)) (fun hno => br_T' rfl (mo hs _ (-1) (fun x => absurd (okE.mpr x) hno) (fun _ => ⟨rfl, s8 _ _ _ _⟩)))
      show nbL (nI 4) 4 ++ nbL a2 20 ++ nbL (nI (a / 64)) 3 ++ nbL (nI (a / 8 % 8)) 3 ++ nbL (nI (a % 8)) 3 ++ nbL (nI (b * 1024 + c)) 20 = nbL (nI 4) 4 ++ nbL a2 20 ++ (nbL (nI a) 9 ++ nbL (nI b) 10 ++ nbL (nI c) 10)
      rw [← w4 ha hb hc]
      simp only [List.append_assoc]
  · unfold P_Mo_build
    exact P_isIn (fun x => absurd x ck) (fun _ => br_T rfl (res_eq rfl (no M _ (Same.refl _ _) ((Same.refl _ _).putI (by simp)) (fun f f1 _ => mf M f f1) rfl)))
