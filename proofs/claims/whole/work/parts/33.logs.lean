/-! the books, one entry more -/
theorem IText_plain {e : Nat} {M N : Mem} (h : IText e M) (he : e < 200) (g12 : ∀ j, j < 8 * e → N.1 12 j = M.1 12 j) (h16 : N.1 16 = M.1 16) (h42 : ∀ i, i < e → N.1 42 i = M.1 42 i) (h42e : N.1 42 e = 0)
    (h15 : N.1 15 4 = M.1 15 4) (h20 : N.1 35 20 = M.1 35 20) (h18 : N.1 18 = M.1 18) (h47 : N.1 47 = M.1 47) (h44 : N.1 44 = M.1 44) (h45 : N.1 45 = M.1 45) (h46 : N.1 46 = M.1 46) (h17 : N.1 17 = M.1 17)
    (h48 : ∀ t, M.1 35 20 = nI t → t < 100 → ∀ j, j < 5 * t → N.1 48 j = M.1 48 j) : IText (e + 1) N := by
  obtain ⟨a1, a2, t, t1, t2, t3, t4⟩ := h
  have hc := cntB_le (fun i => decide (M.1 16 i = 1)) e
  unfold IText
  rw [h16, h15, h20, h18, h47, h44, h45, h46, h17]
  refine ⟨fun i hi => ?_, fun i hi hi2 => a2 i (by omega) hi2, t, t1, t2, Nat.le_trans t3 (cntB_mono _ (by omega)), fun i hi => ?_⟩
  · by_cases hie : i = e
    · subst hie
      rw [a2 i (by omega) (by omega), h42e]
      exact ⟨rfl, Or.inl rfl⟩
    · rw [h42 i (by omega)]
      exact a1 i (by omega)
  · obtain ⟨w, b1, b2, b3, b4, b5, b6, b7, b8⟩ := t4 i hi
    refine ⟨w, by omega, ?_, b3, b4, ?_, ?_, ?_, fun p hp hp5 => ?_⟩
    · rw [g12 _ (by omega)]; exact b2
    · rw [g12 _ (by omega)]; exact b5
    · rw [g12 _ (by omega)]; exact b6
    · rw [g12 _ (by omega)]; exact b7
    · rw [g12 _ (by omega)] at hp
      obtain ⟨j, c1, c2, c3⟩ := b8 p hp hp5
      refine ⟨j, by omega, c2, ?_⟩
      rw [g12 _ (by omega), h48 t t2 (by omega) _ (by omega)]
      exact c3
theorem IText_join {e m t : Nat} {M N : Mem} (h : IText e M) (he : e < 200) (ht : t < 100) (h15 : M.1 15 4 = nI t) (g12 : ∀ j, j < 8 * e → N.1 12 j = M.1 12 j)
    (k0 : N.1 12 (8 * e) = 4) (k6 : N.1 12 (8 * e + 6) = nI m) (hm2 : 2 ≤ m) (hm5 : m ≤ 5)
    (all : ∀ p, p < m → (lastB (cand (M.1 16) (N.1 12) e p) (e + 1)).isSome = true)
    (n16 : ∀ i, i < 200 → N.1 16 i = if i < e + 1 ∧ sameT (N.1 12) i e = true then 1 else M.1 16 i)
    (n42 : ∀ i, i < e + 1 → N.1 42 i = N.1 16 i) (n15 : N.1 15 4 = nI (t + 1)) (n20 : N.1 35 20 = nI (t + 1))
    (n18 : N.1 18 t = nI e) (n18' : ∀ i, i < t → N.1 18 i = M.1 18 i) (n47 : N.1 47 t = nI e) (n47' : ∀ i, i < t → N.1 47 i = M.1 47 i)
    (n44 : N.1 44 t = N.1 12 (8 * e + 1)) (n44' : ∀ i, i < t → N.1 44 i = M.1 44 i) (n45 : N.1 45 t = N.1 12 (8 * e + 4)) (n45' : ∀ i, i < t → N.1 45 i = M.1 45 i)
    (n46 : N.1 46 t = N.1 12 (8 * e + 6) * 4) (n46' : ∀ i, i < t → N.1 46 i = M.1 46 i)
    (n17 : ∀ p, p < m → N.1 17 (5 * t + p) = oI (lastB (cand (M.1 16) (N.1 12) e p) (e + 1))) (n17' : ∀ j, j < 5 * t → N.1 17 j = M.1 17 j)
    (n48 : ∀ p, p < m → N.1 48 (5 * t + p) = jL (N.1 12) (fun p => lastB (cand (M.1 16) (N.1 12) e p) (e + 1)) p) (n48' : ∀ j, j < 5 * t → N.1 48 j = M.1 48 j) : IText (e + 1) N := by
  obtain ⟨a1, a2, t', t1, t2, t3, t4⟩ := h
  have hc := cntB_le (fun i => decide (M.1 16 i = 1)) e
  have : t' = t := (nI_eq (by omega) (by omega)).mp (t1.symm.trans h15)
  subst this
  have hit : ∀ p, p < m → ∃ i, i < e + 1 ∧ lastB (cand (M.1 16) (N.1 12) e p) (e + 1) = some i ∧ M.1 16 i = 0 ∧ sameT (N.1 12) i e = true ∧ N.1 12 (8 * i + 5) = nI p := fun p hp => by
    have h1 := all p hp
    cases hz : lastB (cand (M.1 16) (N.1 12) e p) (e + 1) with
    | none => rw [hz] at h1; cases h1
    | some i =>
      obtain ⟨h2, h3⟩ := lastB_lt hz
      unfold cand at h3
      simp only [Bool.and_eq_true, decide_eq_true_eq] at h3
      exact ⟨i, h2, rfl, h3.1.1, h3.1.2, h3.2⟩
  refine ⟨fun i hi => ?_, fun i hi hi2 => ?_, t' + 1, n15, n20, ?_, fun i hi => ?_⟩
  · refine ⟨(n42 i hi).symm, ?_⟩
    rw [n16 i (by omega)]
    split
    · exact Or.inr rfl
    · by_cases hie : i = e
      · subst hie; exact Or.inl (a2 i (by omega) (by omega))
      · exact (a1 i (by omega)).2
  · rw [n16 i hi2, if_neg (by omega)]
    exact a2 i (by omega) hi2
  · obtain ⟨i0, p1, p2, p3, p4, p5⟩ := hit 0 (by omega)
    obtain ⟨i1, q1, q2, q3, q4, q5⟩ := hit 1 (by omega)
    have hne : i0 ≠ i1 := fun x => by
      rw [x, q5] at p5
      exact absurd p5 (by decide)
    have m1 := cntB_mono (fun i => decide (M.1 16 i = 1)) (i := e) (n := e + 1) (by omega)
    have m2 := cntB_two (p := fun i => decide (M.1 16 i = 1)) (q := fun i => decide (N.1 16 i = 1)) (n := e + 1) (i := i0) (j := i1) (fun x hx hp => by
      simp only [decide_eq_true_eq] at hp ⊢
      rw [n16 x (by omega)]
      split
      · rfl
      · exact hp) p1 q1 hne (by simp [p3]) (by simp [n16 i0 (by omega), p1, p4]) (by simp [q3]) (by simp [n16 i1 (by omega), q1, q4])
    omega
  · by_cases hit2 : i = t'
    · subst hit2
      refine ⟨e, by omega, k0, n18, n47, n44, n45, n46, fun p hp hp5 => ?_⟩
      rw [k6] at hp
      have hpm : p < m := (nlt_of (by omega) (by omega)).mp hp
      obtain ⟨j, p1, p2, p3, p4, p5⟩ := hit p hpm
      refine ⟨j, p1, ?_, ?_⟩
      · rw [n17 p hpm, p2]; rfl
      · rw [n48 p hpm]
        unfold jL
        dsimp only
        rw [p2]; rfl
    · obtain ⟨w, b1, b2, b3, b4, b5, b6, b7, b8⟩ := t4 i (by omega)
      refine ⟨w, by omega, ?_, ?_, ?_, ?_, ?_, ?_, fun p hp hp5 => ?_⟩
      · rw [g12 _ (by omega)]; exact b2
      · rw [n18' i (by omega)]; exact b3
      · rw [n47' i (by omega)]; exact b4
      · rw [g12 _ (by omega), n44' i (by omega)]; exact b5
      · rw [g12 _ (by omega), n45' i (by omega)]; exact b6
      · rw [g12 _ (by omega), n46' i (by omega)]; exact b7
      · rw [g12 _ (by omega)] at hp
        obtain ⟨j, c1, c2, c3⟩ := b8 p hp hp5
        refine ⟨j, by omega, ?_, ?_⟩
        · rw [n17' _ (by omega)]; exact c2
        · rw [g12 _ (by omega), n48' _ (by omega)]
          exact c3
theorem ILog_add {e : Nat} {M N : Mem} (h : ILog e M) (he : e < 200) (n11 : N.1 11 1 = nI (e + 1)) (n35 : N.1 35 11 = nI (e + 1)) (g12 : ∀ j, j < 8 * e → N.1 12 j = M.1 12 j)
    (g41 : ∀ j, j < 8 * e + 8 → N.1 41 j = N.1 12 j) (rec : RecOk (fun f => N.1 12 (8 * e + f))) (h3 : N.1 12 (8 * e + 3) = M.1 0 10) (h10 : N.1 0 10 = M.1 0 10) : ILog (e + 1) N := by
  obtain ⟨a1, a2, a3, a4, a5, a6, a7⟩ := h
  refine ⟨by omega, n11, n35, fun j hj => g41 j (by omega), fun i hi => ?_, fun i hi => ?_, fun i j hij hj => ?_⟩
  · by_cases hie : i = e
    · subst hie; exact rec
    · have r := a5 i (by omega)
      unfold RecOk at r ⊢
      dsimp only at r ⊢
      rw [g12 (8 * i + 3) (by omega), g12 (8 * i + 2) (by omega), g12 (8 * i + 0) (by omega), g12 (8 * i + 4) (by omega), g12 (8 * i + 5) (by omega), g12 (8 * i + 6) (by omega), g12 (8 * i + 7) (by omega)]
      exact r
  · rw [h10]
    by_cases hie : i = e
    · subst hie; rw [h3]; exact Int.le_refl _
    · rw [g12 _ (by omega)]; exact a6 i (by omega)
  · by_cases hje : j = e
    · subst hje
      rw [h3]
      by_cases hie : i = j
      · subst hie; rw [h3]; exact Int.le_refl _
      · rw [g12 _ (by omega)]; exact a6 i (by omega)
    · rw [g12 _ (by omega), g12 _ (by omega)]; exact a7 i j hij (by omega)
theorem IClash_add {e : Nat} {M N : Mem} (h : IClash e M) (he : e < 200) (g12 : ∀ j, j < 8 * e → N.1 12 j = M.1 12 j)
    (n14 : ∀ k, k < 200 → k ≠ e → N.1 14 k = M.1 14 k) (n14e : N.1 14 e = nI (clN (N.1 12) e)) (n13 : N.1 13 1 = M.1 13 1 + nI (clN (N.1 12) e)) : IClash (e + 1) N := by
  obtain ⟨a1, a2⟩ := h
  refine ⟨fun k hk => ?_, ?_⟩
  · by_cases hke : k = e
    · subst hke
      rw [n14e, if_pos (by omega)]
    · rw [n14 k hk hke, a1 k hk]
      by_cases hlt : k < e
      · rw [if_pos hlt, if_pos (by omega), clN_congr (e := e) g12 hlt]
      · rw [if_neg hlt, if_neg (by omega)]
  · rw [n13, a2, nI_add]
    show _ = nI (sumN (clN (N.1 12)) e + clN (N.1 12) e)
    rw [sumN_congr (f := clN (N.1 12)) (g := clN (M.1 12)) (fun i hi => clN_congr (e := e) g12 hi)]
theorem clN_0 {g : Nat → Int32} {l : Nat} (h : g (8 * l) ≠ 5) : clN g l = 0 := by
  have : ∀ n, cntB (clB g l) n = 0 := fun n => by
    induction n with
    | zero => rfl
    | succ n ih => rw [cntB_succ_f (by unfold clB; simp [h])]; exact ih
  exact this l
/-! a new row of the log is as it is read -/
theorem sg16 {x : Nat} (hx : x < 65536) : -32768 ≤ (sg x 16).toInt ∧ (sg x 16).toInt ≤ 32767 := by
  unfold sg
  by_cases h : x / 2 ^ (16 - 1) = 1
  · rw [if_pos h, show ((1 : Int32) <<< (nI 16 &&& 31)) = nI 65536 by decide, i_sub (by rw [i_nI (by omega), i_nI (by omega)]; omega) (by rw [i_nI (by omega), i_nI (by omega)]; omega), i_nI (by omega), i_nI (by omega)]
    omega
  · rw [if_neg h, i_nI (by omega)]
    omega
theorem sg8 {x : Nat} (hx : x < 256) : -128 ≤ (sg x 8).toInt ∧ (sg x 8).toInt ≤ 127 := by
  unfold sg
  by_cases h : x / 2 ^ (8 - 1) = 1
  · rw [if_pos h, show ((1 : Int32) <<< (nI 8 &&& 31)) = nI 256 by decide, i_sub (by rw [i_nI (by omega), i_nI (by omega)]; omega) (by rw [i_nI (by omega), i_nI (by omega)]; omega), i_nI (by omega), i_nI (by omega)]
    omega
  · rw [if_neg h, i_nI (by omega)]
    omega
theorem rK_is {g : Nat → Int32} {a L n : Nat} (h1 : 1 ≤ n) (h5 : n ≤ 5) (h : rK g a L = nI n) : fB g a L = true ∧ rv g a 4 = n := by
  unfold rK at h
  have := rv_lt g a 4
  cases hf : fB g a L
  · rw [hf] at h
    have h : nI 0 = nI n := h
    have := (nI_eq (by omega) (by omega)).mp h
    omega
  · rw [hf] at h
    exact ⟨rfl, (nI_eq (by omega) (by omega)).mp h⟩
theorem fB_rng {g : Nat → Int32} {a L : Nat} (h : fB g a L = true) : 24 ≤ L ∧ 1 ≤ rv g a 4 ∧ rv g a 4 ≤ 5 ∧ L = 24 + fo (rv g a 4) 4 ∧ toldB (rv g a 4) (fv g a (rv g a 4)) = true := by
  unfold fB lenB at h
  simp only [Bool.and_eq_true, decide_eq_true_eq] at h
  exact ⟨h.1.1.1.1, h.1.1.1.2, h.1.1.2, h.1.2, h.2⟩
theorem rec_new {g r : Nat → Int32} {L ch s : Nat} (hch : ch < 2) (hs : s ≤ 2000000) (h0 : r 0 = rK g 0 L) (h2 : r 2 = nI ch) (h3 : r 3 = nI s) (h4 : ∀ i, i < 4 → r (4 + i) = rF g 0 L i) : RecOk r := by
  refine ⟨⟨s, hs, h3⟩, ?_, fun h => ?_, fun h => ?_⟩
  · rw [h2]
    rcases (show ch = 0 ∨ ch = 1 by omega) with rfl | rfl
    · exact Or.inl rfl
    · exact Or.inr rfl
  · obtain ⟨f1, f2⟩ := rK_is (n := 1) (by omega) (by omega) (h0.symm.trans h)
    have e : ∀ i, i < 4 → r (4 + i) = fv g 0 1 i := fun i hi => by
      rw [h4 i hi]; unfold rF; rw [f1, f2]; rfl
    have b16 := fun o => rv_lt g o 16
    have b8 := fun o => rv_lt g o 8
    refine ⟨?_, ?_, ?_, ?_⟩
    · rw [e 0 (by omega)]; exact sg16 (b16 _)
    · rw [e 1 (by omega)]; exact sg16 (b16 _)
    · rw [e 2 (by omega)]; exact sg8 (b8 _)
    · rw [e 3 (by omega)]; exact sg8 (b8 _)
  · obtain ⟨f1, f2⟩ := rK_is (n := 4) (by omega) (by omega) (h0.symm.trans h)
    have e : ∀ i, i < 4 → r (4 + i) = fv g 0 4 i := fun i hi => by
      rw [h4 i hi]; unfold rF; rw [f1, f2]; rfl
    obtain ⟨-, -, -, -, ht⟩ := fB_rng f1
    rw [f2] at ht
    have e1 : fv g 0 4 1 = nI (rv g (0 + 24 + fo 4 1) 3) := rfl
    have e2 : fv g 0 4 2 = nI (rv g (0 + 24 + fo 4 2) 3) := rfl
    have b1 := rv_lt g (0 + 24 + fo 4 1) 3
    have b2 := rv_lt g (0 + 24 + fo 4 2) 3
    unfold toldB at ht
    rw [if_neg (by omega), if_pos rfl, e1, e2] at ht
    simp only [Bool.and_eq_true, Bool.not_eq_true', decide_eq_false_iff_not] at ht
    obtain ⟨⟨⟨t1, t2⟩, t3⟩, -⟩ := ht
    have t1 : ¬ rv g (0 + 24 + fo 4 2) 3 < 2 := fun x => t1 ((nlt_of (a := 2) (by omega) (by omega)).mpr x)
    have t2 : ¬ 5 < rv g (0 + 24 + fo 4 2) 3 := fun x => t2 ((nlt_of (e := 5) (by omega) (by omega)).mpr x)
    rw [nle_of (by omega) (by omega)] at t3
    exact ⟨rv g (0 + 24 + fo 4 2) 3, rv g (0 + 24 + fo 4 1) 3, by omega, by omega, by omega, (e 2 (by omega)).trans e2, (e 1 (by omega)).trans e1⟩
/-! the same bits in the two memories -/
section Eq
variable {g h : Nat → Int32} {a L : Nat}
theorem rv_eq (hh : ∀ j, j < L → h (a + j) = g j) {o n : Nat} (ho : o + n ≤ L) : rv h (a + o) n = rv g o n :=
  rv_congr (fun j hj => by rw [Nat.add_assoc]; exact hh _ (by omega))
theorem rv_eq0 (hh : ∀ j, j < L → h (a + j) = g j) {n : Nat} (ho : n ≤ L) : rv h a n = rv g 0 n := by
  have := rv_eq hh (o := 0) (n := n) (by omega)
  rwa [Nat.add_zero] at this
theorem fv_eq (hh : ∀ j, j < L → h (a + j) = g j) {k i : Nat} (hk : k ≤ 5) (hl : L = 24 + fo k 4) (hi : i < 4) : fv h a k i = fv g 0 k i := by
  unfold fv
  have ho := (fo_le k (by omega) (i + 1) (by omega)).1
  have eo : fo k (i + 1) = fo k i + fw k i := rfl
  rw [show a + 24 + fo k i = a + (24 + fo k i) by omega, rv_eq hh (by omega), show 0 + 24 + fo k i = 24 + fo k i by omega]
theorem fB_eq (hh : ∀ j, j < L → h (a + j) = g j) (hL : 4 ≤ L) : fB h a L = fB g 0 L := by
  unfold fB
  rw [rv_eq0 hh hL]
  cases hl : lenB (rv g 0 4) L
  · rw [Bool.false_and, Bool.false_and]
  · unfold lenB at hl
    simp only [Bool.and_eq_true, decide_eq_true_eq] at hl
    rw [toldB_congr (fun i hi => fv_eq hh hl.1.2 hl.2 hi)]
theorem rK_eq (hh : ∀ j, j < L → h (a + j) = g j) (hL : 4 ≤ L) : rK h a L = rK g 0 L := by
  unfold rK
  rw [fB_eq hh hL, rv_eq0 hh hL]
theorem rS_eq (hh : ∀ j, j < L → h (a + j) = g j) (hL : 4 ≤ L) : rS h a L = rS g 0 L := by
  unfold rS
  rw [fB_eq hh hL]
  cases hf : fB g 0 L
  · rfl
  · have := (fB_rng hf).1
    rw [rv_eq hh (by omega)]
theorem rF_eq (hh : ∀ j, j < L → h (a + j) = g j) (hL : 4 ≤ L) {i : Nat} (hi : i < 4) : rF h a L i = rF g 0 L i := by
  unfold rF
  rw [fB_eq hh hL, rv_eq0 hh hL]
  cases hf : fB g 0 L
  · rfl
  · obtain ⟨-, -, h5, hl, -⟩ := fB_rng hf
    rw [fv_eq hh h5 hl hi]
end Eq
