/-! longs -/
theorem j_lt (a b : Int64) : a < b ↔ a.toInt < b.toInt := Int64.lt_iff_toInt_lt
theorem j_le (a b : Int64) : a ≤ b ↔ a.toInt ≤ b.toInt := Int64.le_iff_toInt_le
theorem j_eq (a b : Int64) : a = b ↔ a.toInt = b.toInt := Int64.toInt_inj.symm
theorem bm64 {x : Int} (h1 : -9223372036854775808 ≤ x) (h2 : x ≤ 9223372036854775807) : x.bmod (2 ^ 64) = x := by
  rw [Int.bmod_eq_of_le] <;> omega
theorem j_add {a b : Int64} (h1 : -9223372036854775808 ≤ a.toInt + b.toInt) (h2 : a.toInt + b.toInt ≤ 9223372036854775807) : (a + b).toInt = a.toInt + b.toInt := by
  rw [Int64.toInt_add, bm64 h1 h2]
theorem j_sub {a b : Int64} (h1 : -9223372036854775808 ≤ a.toInt - b.toInt) (h2 : a.toInt - b.toInt ≤ 9223372036854775807) : (a - b).toInt = a.toInt - b.toInt := by
  rw [Int64.toInt_sub, bm64 h1 h2]
theorem j_mul {a b : Int64} (h1 : -9223372036854775808 ≤ a.toInt * b.toInt) (h2 : a.toInt * b.toInt ≤ 9223372036854775807) : (a * b).toInt = a.toInt * b.toInt := by
  rw [Int64.toInt_mul, bm64 h1 h2]
theorem j_neg {a : Int64} (h : -9223372036854775807 ≤ a.toInt) : (-a).toInt = -a.toInt := by
  have h2 := Int64.toInt_lt a
  rw [Int64.toInt_neg, bm64 (by omega) (by omega)]
theorem j_i (a : Int32) : (Int32.toInt64 a).toInt = a.toInt := Int32.toInt_toInt64 a
theorem j_to32 {a : Int64} (h1 : -2147483648 ≤ a.toInt) (h2 : a.toInt ≤ 2147483647) : (Int64.toInt32 a).toInt = a.toInt := by
  rw [Int64.toInt_toInt32, bm32 h1 h2]
/-- a product's bounds -/
theorem mul_bd {x y X Y : Int} (hx : -X ≤ x ∧ x ≤ X) (hy : -Y ≤ y ∧ y ≤ Y) : -(X * Y) ≤ x * y ∧ x * y ≤ X * Y := by
  have hX : 0 ≤ X := by omega
  have hY : 0 ≤ Y := by omega
  have h : (x * y).natAbs ≤ (X * Y).natAbs := by
    rw [Int.natAbs_mul, Int.natAbs_mul]
    exact Nat.mul_le_mul (by omega) (by omega)
  have h2 : 0 ≤ X * Y := Int.mul_nonneg hX hY
  omega
theorem xor_sign (a b : Int64) : (0 ≤ a ^^^ b) ↔ (a.toInt < 0 ↔ b.toInt < 0) := by
  have h1 : (a ^^^ b).toBitVec.msb = decide ((a ^^^ b).toInt < 0) := BitVec.msb_eq_toInt
  have h2 : a.toBitVec.msb = decide (a.toInt < 0) := BitVec.msb_eq_toInt
  have h3 : b.toBitVec.msb = decide (b.toInt < 0) := BitVec.msb_eq_toInt
  rw [Int64.toBitVec_xor, BitVec.msb_xor, h2, h3] at h1
  rw [j_le, show (0 : Int64).toInt = 0 from (by decide)]
  by_cases ha : a.toInt < 0 <;> by_cases hb : b.toInt < 0 <;> simp [ha, hb] at h1 ⊢ <;> omega
theorem P_floorDiv {Q : Int64 → Mem → Prop} {M : Mem} {a b : Int64} (hb : 0 < b.toInt) (hb2 : b.toInt ≤ 1000000000000000000) (ha : -1000000000000000000 ≤ a.toInt ∧ a.toInt ≤ 1000000000000000000) (hQ : ∀ r : Int64, b.toInt * r.toInt ≤ a.toInt → a.toInt < b.toInt * r.toInt + b.toInt → Q r M) : P_J9_floorDiv_f86c9 a b M Q := by
  have hb0 : ¬ b = 0 := by rw [j_eq, show (0 : Int64).toInt = 0 from (by decide)]; omega
  have hbm : b ≠ -1 := by rw [ne_eq, j_eq, show (-1 : Int64).toInt = -1 from (by decide)]; omega
  have hq : (a / b).toInt = a.toInt.tdiv b.toInt := Int64.toInt_div_of_ne_right a b hbm
  have e1 := Int.mul_tdiv_add_tmod a.toInt b.toInt
  have e2 := Int.tmod_lt_of_pos a.toInt hb
  have e3 := Int.lt_tmod_of_pos a.toInt hb
  generalize hqq : a.toInt.tdiv b.toInt = qq at hq e1
  generalize hmm : a.toInt.tmod b.toInt = mm at e1 e2 e3
  have e4 : 0 ≤ a.toInt → 0 ≤ mm := fun h => by rw [← hmm]; exact Int.tmod_nonneg _ h
  have e5 : a.toInt < 0 → mm ≤ 0 := fun h => by
    have h1 := Int.tmod_nonneg b.toInt (show 0 ≤ -a.toInt by omega)
    rw [Int.neg_tmod, hmm] at h1
    omega
  unfold P_J9_floorDiv_f86c9
  refine ⟨hb0, fun h1 => ?_, fun h1 => ?_⟩
  · have h2 : 0 ≤ a.toInt := by
      rw [xor_sign] at h1
      rcases Int.lt_or_le a.toInt 0 with h | h
      · exact absurd (h1.mp h) (by omega)
      · exact h
    have h3 := e4 h2
    exact hQ _ (by rw [hq]; omega) (by rw [hq]; omega)
  · have h2 : a.toInt < 0 := by
      rw [xor_sign] at h1
      rcases Int.lt_or_le a.toInt 0 with h | h
      · exact h
      · exact absurd (show (a.toInt < 0 ↔ b.toInt < 0) from ⟨fun x => by omega, fun x => by omega⟩) h1
    have h3 := e5 h2
    have hbq : qq * b.toInt = b.toInt * qq := Int.mul_comm _ _
    have e6 : (a / b * b).toInt = qq * b.toInt := by rw [j_mul, hq] <;> rw [hq] <;> omega
    have hql : -1000000000000000000 ≤ qq ∧ qq ≤ 1000000000000000000 := by
      have h9 : qq = a.toInt.tdiv b.toInt := hqq.symm
      have h8 := Int.natAbs_tdiv_le_natAbs a.toInt b.toInt
      rw [hqq] at h8
      omega
    refine ⟨fun h4 => ?_, fun h4 => ?_⟩
    · rw [j_eq, e6] at h4
      exact hQ _ (by rw [hq]; omega) (by rw [hq]; omega)
    · rw [j_eq, e6] at h4
      have l1 : (1 : Int64).toInt = 1 := by decide
      have e7 : (a / b - 1).toInt = qq - 1 := by rw [j_sub, hq, l1] <;> rw [hq, l1] <;> omega
      have e8 : b.toInt * (qq - 1) = b.toInt * qq - b.toInt := by rw [Int.mul_sub]; omega
      exact hQ _ (by rw [e7, e8]; omega) (by rw [e7, e8]; omega)
/-! the least of a row, the first of the least ones -/
def amN (f : Nat → Int) : Nat → Nat
  | 0 => 0
  | n + 1 => if f (n + 1) < f (amN f n) then n + 1 else amN f n
theorem amN_spec (f : Nat → Int) (n : Nat) : amN f n ≤ n ∧ (∀ t, t ≤ n → f (amN f n) ≤ f t) ∧ ∀ t, t < amN f n → f (amN f n) < f t := by
  induction n with
  | zero => exact ⟨Nat.le_refl _, fun t ht => by rw [show t = 0 by omega]; exact Int.le_refl _, fun t ht => absurd ht (Nat.not_lt_zero _)⟩
  | succ n ih =>
    obtain ⟨i1, i2, i3⟩ := ih
    unfold amN
    by_cases h : f (n + 1) < f (amN f n)
    · rw [if_pos h]
      refine ⟨Nat.le_refl _, fun t ht => ?_, fun t ht => ?_⟩
      · by_cases ht2 : t = n + 1
        · rw [ht2]; exact Int.le_refl _
        · have := i2 t (by omega); omega
      · have := i2 t (by omega); omega
    · rw [if_neg h]
      refine ⟨by omega, fun t ht => ?_, i3⟩
      by_cases ht2 : t = n + 1
      · rw [ht2]; omega
      · exact i2 t (by omega)
theorem amN_uniq {f : Nat → Int} {n m : Nat} (hm : m ≤ n) (h1 : ∀ t, t ≤ n → f m ≤ f t) (h2 : ∀ t, t < m → f m < f t) : amN f n = m := by
  obtain ⟨i1, i2, i3⟩ := amN_spec f n
  rcases Nat.lt_trichotomy (amN f n) m with h | h | h
  · have := h2 _ h; have := i2 m hm; omega
  · exact h
  · have := i3 _ h; have := h1 _ i1; omega
/-- the square of the distance -/
def quad (A B C D : Int) (t : Nat) : Int := (A + B * t) * (A + B * t) + (C + D * t) * (C + D * t)
theorem quad_step (A B C D : Int) (t : Nat) : quad A B C D (t + 1) = quad A B C D t + ((B * B + D * D) * (2 * (t : Int) + 1) + 2 * (A * B + C * D)) := by
  unfold quad
  rw [show ((t + 1 : Nat) : Int) = (t : Int) + 1 by omega]
  grind
theorem quad_down {A B C D a b : Int} (ha : B * B + D * D = a) (hb : A * B + C * D = b) {s : Nat} (h : ∀ t : Nat, t < s → a * (2 * (t : Int) + 1) + 2 * b < 0) : ∀ t : Nat, t < s → quad A B C D s < quad A B C D t := by
  intro t ht
  induction s with
  | zero => exact absurd ht (Nat.not_lt_zero _)
  | succ s ih =>
    have h1 := h s (Nat.lt_succ_self _)
    have h2 := quad_step A B C D s
    rw [ha, hb] at h2
    by_cases hts : t = s
    · rw [hts]; omega
    · have := ih (fun t ht => h t (by omega)) (by omega)
      omega
theorem quad_up {A B C D a b : Int} (ha : B * B + D * D = a) (hb : A * B + C * D = b) {s : Nat} (h : ∀ t : Nat, s ≤ t → 0 ≤ a * (2 * (t : Int) + 1) + 2 * b) : ∀ t : Nat, s ≤ t → quad A B C D s ≤ quad A B C D t := by
  intro t ht
  induction t with
  | zero => rw [show s = 0 by omega]; exact Int.le_refl _
  | succ t ih =>
    by_cases hts : s = t + 1
    · rw [hts]; exact Int.le_refl _
    · have h1 := h t (by omega)
      have h2 := quad_step A B C D t
      rw [ha, hb] at h2
      have := ih (by omega)
      omega
/-- the two seconds that the class looks at hold the first of the least ones -/
theorem quad_am {A B C D q : Int} (ha : 0 < B * B + D * D) (h1 : (B * B + D * D) * q ≤ -(A * B + C * D)) (h2 : -(A * B + C * D) < (B * B + D * D) * q + (B * B + D * D)) (s : Nat) (hs : (s : Int) = max 0 (min q 3600)) :
    amN (quad A B C D) 3600 = if s < 3600 ∧ quad A B C D (s + 1) < quad A B C D s then s + 1 else s := by
  generalize hA : B * B + D * D = a at *
  generalize hBb : A * B + C * D = b at *
  have lo : ∀ t : Nat, (t : Int) + 1 ≤ q → a * (2 * (t : Int) + 1) + 2 * b < 0 := fun t ht => by
    have e1 : a * ((t : Int) + 1) ≤ a * q := Int.mul_le_mul_of_nonneg_left ht (by omega)
    have e2 : a * (2 * (t : Int) + 1) = 2 * (a * ((t : Int) + 1)) - a := by grind
    omega
  have hi : ∀ t : Nat, q + 1 ≤ (t : Int) → 0 ≤ a * (2 * (t : Int) + 1) + 2 * b := fun t ht => by
    have e1 : a * (q + 1) ≤ a * (t : Int) := Int.mul_le_mul_of_nonneg_left ht (by omega)
    have e2 : a * (2 * (t : Int) + 1) = 2 * (a * (t : Int)) + a := by grind
    have e3 : a * (q + 1) = a * q + a := by grind
    omega
  have dn := quad_down hA hBb (s := s) (fun t ht => lo t (by omega))
  have up : ∀ t : Nat, s + 1 ≤ t → t ≤ 3600 → quad A B C D (s + 1) ≤ quad A B C D t := fun t ht ht2 => quad_up hA hBb (s := s + 1) (fun t ht => hi t (by omega)) t ht
  by_cases hc : s < 3600 ∧ quad A B C D (s + 1) < quad A B C D s
  · rw [if_pos hc]
    refine amN_uniq (by omega) (fun t ht => ?_) (fun t ht => ?_)
    · rcases Nat.lt_or_ge t (s + 1) with h | h
      · by_cases hts : t = s
        · rw [hts]; omega
        · have := dn t (by omega); omega
      · exact up t h ht
    · by_cases hts : t = s
      · rw [hts]; exact hc.2
      · have := dn t (by omega); omega
  · rw [if_neg hc]
    refine amN_uniq (by omega) (fun t ht => ?_) dn
    rcases Nat.lt_trichotomy t s with h | h | h
    · have := dn t h; omega
    · rw [h]; exact Int.le_refl _
    · have h3 := up t (by omega) ht
      have h4 : ¬ quad A B C D (s + 1) < quad A B C D s := fun x => hc ⟨by omega, x⟩
      omega
