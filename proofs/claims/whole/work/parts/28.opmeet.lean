/-! the meeting, as a whole -/
def mA (g : Nat → Int32) (f1 f2 i j T : Nat) : Int := ((g (8 * i + f1)).toInt + ((T : Int) - (g (8 * i + 3)).toInt) * (g (8 * i + f2)).toInt) - ((g (8 * j + f1)).toInt + ((T : Int) - (g (8 * j + 3)).toInt) * (g (8 * j + f2)).toInt)
def mB (g : Nat → Int32) (f2 i j : Nat) : Int := (g (8 * i + f2)).toInt - (g (8 * j + f2)).toInt
def mQ (g : Nat → Int32) (i j T : Nat) : Nat → Int := quad (mA g 4 6 i j T) (mB g 6 i j) (mA g 5 7 i j T) (mB g 7 i j)
/-- what a place told needs -/
def PosOk (g : Nat → Int32) (i T : Nat) : Prop := Pos (g (8 * i + 4)) 32768 ∧ Pos (g (8 * i + 5)) 32768 ∧ Pos (g (8 * i + 6)) 128 ∧ Pos (g (8 * i + 7)) 128 ∧ ∃ s : Nat, s ≤ T ∧ (g (8 * i + 3)).toInt = s
theorem gpT_quad {g : Nat → Int32} {i j T s : Nat} (hi : PosOk g i T) (hj : PosOk g j T) (hT : T ≤ 2000000) (hs : s ≤ 3600) : (gpT g i j (nI (T + s))).toInt = mQ g i j T s := by
  obtain ⟨a1, a2, a3, a4, S1, a5, a6⟩ := hi
  obtain ⟨b1, b2, b3, b4, S2, b5, b6⟩ := hj
  have ht : (nI (T + s)).toInt = ((T + s : Nat) : Int) := i_nI (by omega)
  have x1 := gpX_toInt a1 a3 a6 b1 b3 b6 ht (by omega) (by omega) (by omega)
  have x2 := gpX_toInt a2 a4 a6 b2 b4 b6 ht (by omega) (by omega) (by omega)
  unfold gpT
  rw [sq2 x1.1 x2.1 x1.2 x2.2]
  unfold mQ quad mA mB
  rw [a6, b6, show ((T + s : Nat) : Int) = (T : Int) + s by omega]
  grind
theorem sq2' {a b c d e : Int64} {A B C D s : Int} (ha : a.toInt = A) (hb : b.toInt = B) (hc : c.toInt = C) (hd : d.toInt = D) (he : e.toInt = s) (hA : Int.natAbs A ≤ 800000000) (hB : Int.natAbs B ≤ 256) (hC : Int.natAbs C ≤ 800000000) (hD : Int.natAbs D ≤ 256) (hs : 0 ≤ s ∧ s ≤ 3601) :
    ((a + b * e) * (a + b * e) + (c + d * e) * (c + d * e)).toInt = (A + B * s) * (A + B * s) + (C + D * s) * (C + D * s) := by
  have b1 := mul_bd (x := B) (y := s) (X := 256) (Y := 3601) (by omega) (by omega)
  have b2 := mul_bd (x := D) (y := s) (X := 256) (Y := 3601) (by omega) (by omega)
  have m1 : (b * e).toInt = B * s := by rw [j_mul, hb, he] <;> rw [hb, he] <;> omega
  have m2 : (d * e).toInt = D * s := by rw [j_mul, hd, he] <;> rw [hd, he] <;> omega
  have p1 : (a + b * e).toInt = A + B * s := by rw [j_add, ha, m1] <;> rw [ha, m1] <;> omega
  have p2 : (c + d * e).toInt = C + D * s := by rw [j_add, hc, m2] <;> rw [hc, m2] <;> omega
  exact sq2 p1 p2 (by omega) (by omega)
theorem quad_flat {A B C D : Int} (hB : B = 0) (hD : D = 0) : amN (quad A B C D) 3600 = 0 := by
  subst hB hD
  refine amN_uniq (by omega) (fun t _ => ?_) (fun t ht => absurd ht (Nat.not_lt_zero _))
  unfold quad
  simp
theorem sqz {B D : Int} (h : B * B + D * D = 0) : B = 0 ∧ D = 0 := by
  have h1 : 0 ≤ B * B := by
    rcases Int.le_total 0 B with h | h
    · exact Int.mul_nonneg h h
    · exact Int.mul_nonneg_of_nonpos_of_nonpos h h
  have h2 : 0 ≤ D * D := by
    rcases Int.le_total 0 D with h | h
    · exact Int.mul_nonneg h h
    · exact Int.mul_nonneg_of_nonpos_of_nonpos h h
  exact ⟨by have : B * B = 0 := by omega
            rcases Int.mul_eq_zero.mp this with h | h <;> exact h,
         by have : D * D = 0 := by omega
            rcases Int.mul_eq_zero.mp this with h | h <;> exact h⟩
theorem sqp (B : Int) : 0 ≤ B * B := by
  rcases Int.le_total 0 B with h | h
  · exact Int.mul_nonneg h h
  · exact Int.mul_nonneg_of_nonpos_of_nonpos h h
theorem P_nearest {Q : Int64 → Mem → Prop} {M : Mem} {a b c d : Int64} {A B C D : Int} (ha : a.toInt = A) (hb : b.toInt = B) (hc : c.toInt = C) (hd : d.toInt = D) (hA : Int.natAbs A ≤ 800000000) (hB : Int.natAbs B ≤ 256) (hC : Int.natAbs C ≤ 800000000) (hD : Int.natAbs D ≤ 256)
    (hQ : ∀ (r : Int64) (s : Nat), s ≤ 3600 → r.toInt = s → (amN (quad A B C D) 3600 = if s < 3600 ∧ quad A B C D (s + 1) < quad A B C D s then s + 1 else s) → Q r M) : P_Meeting_nearestAfter a c b d M Q := by
  have b1 := mul_bd (x := A) (y := B) (X := 800000000) (Y := 256) (by omega) (by omega)
  have b2 := mul_bd (x := C) (y := D) (X := 800000000) (Y := 256) (by omega) (by omega)
  have b3 := mul_bd (x := B) (y := B) (X := 256) (Y := 256) (by omega) (by omega)
  have b4 := mul_bd (x := D) (y := D) (X := 256) (Y := 256) (by omega) (by omega)
  have m1 : (a * b).toInt = A * B := by rw [j_mul, ha, hb] <;> rw [ha, hb] <;> omega
  have m2 : (c * d).toInt = C * D := by rw [j_mul, hc, hd] <;> rw [hc, hd] <;> omega
  have m3 : (a * b + c * d).toInt = A * B + C * D := by rw [j_add, m1, m2] <;> rw [m1, m2] <;> omega
  have m4 : (-(a * b + c * d)).toInt = -(A * B + C * D) := by rw [j_neg, m3]; rw [m3]; omega
  have m5 : (b * b + d * d).toInt = B * B + D * D := sq2 hb hd (by omega) (by omega)
  have z0 : (0 : Int64).toInt = 0 := by decide
  have z36 : (3600 : Int64).toInt = 3600 := by decide
  have q1 := sqp B
  have q2 := sqp D
  unfold P_Meeting_nearestAfter P_Meeting_square
  refine ⟨fun h1 => ?_, fun h1 => ?_⟩
  · rw [j_eq, m5, z0] at h1
    refine P_floorDiv (by rw [m5]; omega) (by rw [m5]; omega) (by rw [m4]; omega) (fun r hr1 hr2 => ?_)
    rw [m4, m5] at hr1 hr2
    unfold P_J9_min_f86c9 P_J9_max_f86c9
    rw [j_lt, z36]
    have go : ∀ s : Nat, (s : Int) = max 0 (min r.toInt 3600) → _ := fun s hs => quad_am (A := A) (B := B) (C := C) (D := D) (q := r.toInt) (by omega) hr1 hr2 s hs
    refine ⟨fun h2 => ⟨fun h3 => hQ _ 3600 (by omega) z36 (go _ (by omega)), fun h3 => absurd (by decide) h3⟩, fun h2 => ?_⟩
    dsimp only
    rw [j_lt, z0]
    refine ⟨fun h3 => hQ _ r.toInt.toNat (by omega) (by omega) (go _ (by omega)), fun h3 => hQ _ 0 (by omega) z0 (go _ (by omega))⟩
  · rw [j_eq, m5, z0] at h1
    obtain ⟨e1, e2⟩ := sqz h1
    refine hQ _ 0 (by omega) z0 ?_
    rw [quad_flat e1 e2, if_neg]
    intro h
    have h2 := h.2
    unfold quad at h2
    rw [e1, e2] at h2
    simp at h2
theorem P_find {Q : Int64 → Mem → Prop} {M : Mem} {e i j T : Nat} (h : M.1 11 1 = nI e) (he : e ≤ 200) (hi : i < e) (hj : j < e) (hT : T ≤ 2000000) (pi : PosOk (M.1 12) i T) (pj : PosOk (M.1 12) j T)
    (hQ : ∀ r : Int64, r.toInt = mQ (M.1 12) i j T (amN (mQ (M.1 12) i j T) 3600) → Q r (putI M 34 0 (nI (T + amN (mQ (M.1 12) i j T) 3600)))) : P_Meeting_find (nI i) (nI j) (nI T) M Q := by
  unfold P_Meeting_find
  refine P_along (f1 := 4) (f2 := 6) h he hi (by omega) (by omega) (P_along (f1 := 4) (f2 := 6) h he hj (by omega) (by omega) (P_along (f1 := 5) (f2 := 7) h he hi (by omega) (by omega) (P_along (f1 := 5) (f2 := 7) h he hj (by omega) (by omega) ?_)))
  refine P_cell_in (f := 6) h he hi (by omega) (P_cell_in (f := 6) h he hj (by omega) (P_cell_in (f := 7) h he hi (by omega) (P_cell_in (f := 7) h he hj (by omega) ?_)))
  obtain ⟨a1, a2, a3, a4, S1, a5, a6⟩ := pi
  obtain ⟨b1, b2, b3, b4, S2, b5, b6⟩ := pj
  have ht : (nI T).toInt = (T : Int) := i_nI (by omega)
  have x1 := al_toInt a1 a3 a6 ht a5 (by omega)
  have x2 := al_toInt b1 b3 b6 ht b5 (by omega)
  have y1 := al_toInt a2 a4 a6 ht a5 (by omega)
  have y2 := al_toInt b2 b4 b6 ht b5 (by omega)
  have w1 := a1.1; have w2 := a1.2; have w3 := a2.1; have w4 := a2.2; have w5 := b1.1; have w6 := b1.2; have w7 := b2.1; have w8 := b2.2
  have v1 := a3.1; have v2 := a3.2; have v3 := a4.1; have v4 := a4.2; have v5 := b3.1; have v6 := b3.2; have v7 := b4.1; have v8 := b4.2
  have eA : mA (M.1 12) 4 6 i j T = ((M.1 12 (8 * i + 4)).toInt + ((T : Int) - S1) * (M.1 12 (8 * i + 6)).toInt) - ((M.1 12 (8 * j + 4)).toInt + ((T : Int) - S2) * (M.1 12 (8 * j + 6)).toInt) := by unfold mA; rw [a6, b6]
  have eC : mA (M.1 12) 5 7 i j T = ((M.1 12 (8 * i + 5)).toInt + ((T : Int) - S1) * (M.1 12 (8 * i + 7)).toInt) - ((M.1 12 (8 * j + 5)).toInt + ((T : Int) - S2) * (M.1 12 (8 * j + 7)).toInt) := by unfold mA; rw [a6, b6]
  have eB : mB (M.1 12) 6 i j = (M.1 12 (8 * i + 6)).toInt - (M.1 12 (8 * j + 6)).toInt := rfl
  have eD : mB (M.1 12) 7 i j = (M.1 12 (8 * i + 7)).toInt - (M.1 12 (8 * j + 7)).toInt := rfl
  have hB := byd a3 b3
  have hD := byd a4 b4
  rw [← eB] at hB
  rw [← eD] at hD
  obtain ⟨x11, x12⟩ := x1
  obtain ⟨x21, x22⟩ := x2
  obtain ⟨y11, y12⟩ := y1
  obtain ⟨y21, y22⟩ := y2
  generalize Int32.toInt64 (M.1 12 (8 * i + 4)) + Int32.toInt64 (nI T - M.1 12 (8 * i + 3)) * Int32.toInt64 (M.1 12 (8 * i + 6)) = p1 at *
  generalize Int32.toInt64 (M.1 12 (8 * j + 4)) + Int32.toInt64 (nI T - M.1 12 (8 * j + 3)) * Int32.toInt64 (M.1 12 (8 * j + 6)) = p2 at *
  generalize Int32.toInt64 (M.1 12 (8 * i + 5)) + Int32.toInt64 (nI T - M.1 12 (8 * i + 3)) * Int32.toInt64 (M.1 12 (8 * i + 7)) = p3 at *
  generalize Int32.toInt64 (M.1 12 (8 * j + 5)) + Int32.toInt64 (nI T - M.1 12 (8 * j + 3)) * Int32.toInt64 (M.1 12 (8 * j + 7)) = p4 at *
  have hA : (p1 - p2).toInt = mA (M.1 12) 4 6 i j T := by rw [j_sub, x11, x21, eA] <;> rw [x11, x21] <;> omega
  have hC : (p3 - p4).toInt = mA (M.1 12) 5 7 i j T := by rw [j_sub, y11, y21, eC] <;> rw [y11, y21] <;> omega
  have nA : Int.natAbs (mA (M.1 12) 4 6 i j T) ≤ 800000000 := by rw [eA]; omega
  have nC : Int.natAbs (mA (M.1 12) 5 7 i j T) ≤ 800000000 := by rw [eC]; omega
  have nB : Int.natAbs (mB (M.1 12) 6 i j) ≤ 256 := by rw [eB]; omega
  have nD : Int.natAbs (mB (M.1 12) 7 i j) ≤ 256 := by rw [eD]; omega
  refine P_nearest hA hB hC hD nA nB nC nD (fun r s hs hr ham => ?_)
  have z36 : (3600 : Int64).toInt = 3600 := by decide
  have l1 : (1 : Int64).toInt = 1 := by decide
  have hr1 : (r + 1).toInt = ((s + 1 : Nat) : Int) := by rw [j_add (by rw [hr, l1]; omega) (by rw [hr, l1]; omega), hr, l1]; omega
  have g0 := sq2' hA hB hC hD hr nA nB nC nD (by omega)
  have t0 : nI T + Int64.toInt32 r = nI (T + s) := by
    have : (Int64.toInt32 r).toInt = s := by rw [j_to32] <;> omega
    rw [i_eq, i_add, i_nI, this, i_nI] <;> (try rw [i_nI, this]) <;> omega
  have t1 : nI T + Int64.toInt32 (r + 1) = nI (T + (s + 1)) := by
    have : (Int64.toInt32 (r + 1)).toInt = ((s + 1 : Nat) : Int) := by rw [j_to32] <;> omega
    rw [i_eq, i_add, i_nI, this, i_nI] <;> (try rw [i_nI, this]) <;> omega
  unfold P_Meeting_square
  rw [t0, t1]
  rw [j_le, z36, hr]
  refine ⟨fun h1 => ?_, fun h1 => ?_⟩
  · rw [if_neg (by omega)] at ham
    have ham' : amN (mQ (M.1 12) i j T) 3600 = s := ham
    rw [← ham']
    refine hQ _ ?_
    rw [ham']
    exact g0
  · have g1 := sq2' hA hB hC hD hr1 nA nB nC nD (by omega)
    dsimp only
    rw [j_le, g0, g1]
    refine ⟨fun h2 => ?_, fun h2 => ?_⟩
    · rw [if_neg (fun x => absurd x.2 (by unfold quad; omega))] at ham
      have ham' : amN (mQ (M.1 12) i j T) 3600 = s := ham
      rw [← ham']
      refine hQ _ ?_
      rw [ham']
      exact g0
    · rw [if_pos ⟨by omega, by unfold quad; omega⟩] at ham
      have ham' : amN (mQ (M.1 12) i j T) 3600 = s + 1 := ham
      rw [← ham']
      refine hQ _ ?_
      rw [ham']
      exact g1
section Meet
variable {k : Nat} {M : Mem} {K : Mem → Prop}
theorem op_meet (h : Inv k M) (a b : Int32) (hK : ∀ N, Inv (k + 1) N → K N) : P_Sv_meet a b M fun r M1 => P_Mo_meet a b M1 fun r2 M2 => (r = r2 → K M2) ∧ (¬ r = r2 → (0 : Int32) = 1) := by
  have hN := hK _ (h.thrown 0)
  obtain ⟨e, ⟨he, l1, l2, l3, l4, l5, -⟩, -⟩ := h.2.2.2.2.2.2.1
  obtain ⟨T, hT, n1, n2⟩ := h.2.1
  have hl : ∀ x, lastB (isB (M.1 41) 1 x) e = lastB (isB (M.1 12) 1 x) e := fun x => lastB_congr (fun i hi => by unfold isB; rw [l3 _ (by omega), l3 _ (by omega)])
  have nn : ∀ i, i < e → ¬ nI i = -1 := fun i hi => by rw [i_eq, i_nI (by omega), i_m1]; omega
  have n8 : ∀ i, i < e → ¬ nI (8 * i) = -1 := fun i hi => by rw [i_eq, i_nI (by omega), i_m1]; omega
  have hp : ∀ x i, lastB (isB (M.1 12) 1 x) e = some i → PosOk (M.1 12) i T := fun x i hi => by
    obtain ⟨h1, h2⟩ := lastB_lt hi
    unfold isB at h2
    have h3 : M.1 12 (8 * i) = 1 := by simp at h2; exact h2.1
    obtain ⟨⟨s, hs, es⟩, -, hk, -⟩ := l4 i h1
    obtain ⟨k1, k2, k3, k4⟩ := hk h3
    dsimp only at es k1 k2 k3 k4
    have hs2 := l5 i h1
    rw [n1, i_nI (by omega)] at hs2
    refine ⟨⟨by omega, by omega⟩, ⟨by omega, by omega⟩, ⟨by omega, by omega⟩, ⟨by omega, by omega⟩, s, ?_, ?_⟩
    · rw [es, i_nI (by omega)] at hs2; omega
    · rw [es, i_nI (by omega)]
  unfold P_Sv_meet P_Mo_meet
  refine ⟨fun hab => P_latest l1 he (P_latest l1 he ?_), fun hab => P_molatest (M := putI M 35 0 0) l2 he (P_molatest (M := putI M 35 0 0) l2 he (br_T hab (res_eq rfl hN)))⟩
  cases ha : lastB (isB (M.1 12) 1 a) e with
  | none =>
    refine br_T rfl (P_molatest (M := putI M 35 0 0) l2 he (P_molatest (M := putI M 35 0 0) l2 he (br_F hab (br_T ?_ (res_eq rfl hN)))))
    show (match lastB (isB (M.1 41) 1 a) e with | none => -1 | some i => nI (8 * i)) = (-1 : Int32)
    rw [hl, ha]
  | some i =>
    have hi := (lastB_lt ha).1
    refine br_F (nn i hi) ?_
    cases hb : lastB (isB (M.1 12) 1 b) e with
    | none =>
      refine br_T' rfl (P_molatest (M := putI M 35 0 0) l2 he (P_molatest (M := putI M 35 0 0) l2 he (br_F hab (br_F ?_ (br_T' ?_ (res_eq rfl hN))))))
      · show ¬ (match lastB (isB (M.1 41) 1 a) e with | none => -1 | some i => nI (8 * i)) = (-1 : Int32)
        rw [hl, ha]; exact n8 i hi
      · show (match lastB (isB (M.1 41) 1 b) e with | none => -1 | some i => nI (8 * i)) = (-1 : Int32)
        rw [hl, hb]
    | some j =>
      have hj := (lastB_lt hb).1
      refine br_F' (nn j hj) ?_
      show P_Meeting_find (nI i) (nI j) (M.1 0 10) M _
      rw [n1]
      refine P_find l1 he hi hj hT (hp a i ha) (hp b j hb) (fun r hr => ?_)
      generalize ham : amN (mQ (M.1 12) i j T) 3600 = s at hr
      have hs : s ≤ 3600 := by rw [← ham]; exact (amN_spec _ _).1
      refine P_molatest (M := putI (putI M 34 0 (nI (T + s))) 35 0 0) l2 he (P_molatest (M := putI (putI M 34 0 (nI (T + s))) 35 0 0) l2 he (br_F hab ?_))
      have hla : lastB (isB ((putI (putI M 34 0 (nI (T + s))) 35 0 0).1 41) 1 a) e = some i := (hl a).trans ha
      have hlb : lastB (isB ((putI (putI M 34 0 (nI (T + s))) 35 0 0).1 41) 1 b) e = some j := (hl b).trans hb
      rw [hla, hlb]
      refine br_F (n8 i hi) (br_F' (n8 j hj) ?_)
      have e41 : ∀ t, gpT (M.1 41) i j t = gpT (M.1 12) i j t := fun t => by
        unfold gpT
        rw [l3 _ (by omega), l3 _ (by omega), l3 _ (by omega), l3 _ (by omega), l3 _ (by omega), l3 _ (by omega), l3 _ (by omega), l3 _ (by omega), l3 _ (by omega), l3 _ (by omega)]
      have hf : ∀ s, s ≤ 3600 → (gpT (M.1 41) i j (nI (T + s))).toInt = mQ (M.1 12) i j T s := fun s hs => by
        rw [e41]; exact gpT_quad (hp a i ha) (hp b j hb) hT hs
      refine P_gap (i := i) (j := j) (M := putI (putI M 34 0 (nI (T + s))) 35 0 0) (by omega) (by omega) ?_
      show ∃ m, P_Mo_meet_67 _ m (nI (8 * i)) (nI (8 * j)) (gpT (M.1 41) i j (M.1 35 7)) (M.1 35 7 + 1) (putI (putI (putI M 34 0 (nI (T + s))) 35 0 0) 35 43 (M.1 35 7))
      rw [n2]
      refine P_momeet (M := putI (putI M 34 0 (nI (T + s))) 35 0 0) (f := mQ (M.1 12) i j T) (by omega) (by omega) hT n2 hf ?_
      rw [ham]
      refine res_eq ?_ (hK _ ?_)
      · rw [j_eq, hr]
        exact (hf s hs).symm
      · obtain ⟨a1, a2, a3, a4, a5, a6, a7, a8, a9, a10⟩ := h
        exact ⟨a1.congr rfl rfl rfl rfl, a2.congr rfl rfl, a3.congr (Nat.le_succ k) rfl rfl rfl rfl rfl rfl, a4.congr (Nat.le_succ k) rfl rfl rfl rfl rfl rfl, a5.congr rfl rfl rfl, a6.congr rfl rfl rfl rfl,
          a7.congr rfl rfl rfl rfl (Int.le_refl _) rfl rfl rfl rfl rfl rfl rfl rfl rfl rfl rfl rfl rfl, a8.congr rfl rfl rfl rfl, a9.congr rfl rfl rfl rfl rfl rfl rfl rfl rfl rfl, rfl⟩
end Meet
