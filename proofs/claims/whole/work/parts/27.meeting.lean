/-! the meeting -/
def Pos (x : Int32) (B : Int) : Prop := -B ≤ x.toInt ∧ x.toInt ≤ B
theorem sub32 {a b : Int32} {S T : Nat} (ha : a.toInt = T) (hb : b.toInt = S) (h1 : T ≤ 3000000) (h2 : S ≤ 3000000) : (a - b).toInt = (T : Int) - S := by
  rw [i_sub, ha, hb] <;> omega
theorem al_toInt {x u s n : Int32} {S T : Nat} (hx : Pos x 32768) (hu : Pos u 128) (hs : s.toInt = S) (hn : n.toInt = T) (hST : S ≤ T) (hT : T ≤ 3000000) :
    (Int32.toInt64 x + Int32.toInt64 (n - s) * Int32.toInt64 u).toInt = x.toInt + ((T : Int) - S) * u.toInt ∧ Int.natAbs (((T : Int) - S) * u.toInt) ≤ 384000000 := by
  have e1 := sub32 hn hs hT (by omega)
  have b1 := mul_bd (x := (T : Int) - S) (y := u.toInt) (X := 3000000) (Y := 128) (by omega) hu
  have e2 : (Int32.toInt64 (n - s) * Int32.toInt64 u).toInt = ((T : Int) - S) * u.toInt := by
    rw [j_mul, j_i, j_i, e1] <;> rw [j_i, j_i, e1] <;> omega
  refine ⟨?_, by omega⟩
  have hx1 := hx.1; have hx2 := hx.2
  rw [j_add, j_i, e2] <;> rw [j_i, e2] <;> omega
def gpX (x1 u1 s1 x2 u2 s2 t : Int32) : Int64 := ((Int32.toInt64 x1 + Int32.toInt64 u1 * Int32.toInt64 (t - s1)) - Int32.toInt64 x2) - Int32.toInt64 u2 * Int32.toInt64 (t - s2)
theorem gpX_toInt {x1 u1 s1 x2 u2 s2 t : Int32} {S1 S2 T : Nat} (hx1 : Pos x1 32768) (hu1 : Pos u1 128) (hs1 : s1.toInt = S1) (hx2 : Pos x2 32768) (hu2 : Pos u2 128) (hs2 : s2.toInt = S2) (ht : t.toInt = T) (h1 : S1 ≤ T) (h2 : S2 ≤ T) (hT : T ≤ 3000000) :
    (gpX x1 u1 s1 x2 u2 s2 t).toInt = (x1.toInt + u1.toInt * ((T : Int) - S1)) - x2.toInt - u2.toInt * ((T : Int) - S2) ∧ Int.natAbs ((x1.toInt + u1.toInt * ((T : Int) - S1)) - x2.toInt - u2.toInt * ((T : Int) - S2)) ≤ 1000000000 := by
  have e1 := sub32 ht hs1 hT (by omega)
  have e2 := sub32 ht hs2 hT (by omega)
  have b1 := mul_bd (x := u1.toInt) (y := (T : Int) - S1) (X := 128) (Y := 3000000) hu1 (by omega)
  have b2 := mul_bd (x := u2.toInt) (y := (T : Int) - S2) (X := 128) (Y := 3000000) hu2 (by omega)
  have m1 : (Int32.toInt64 u1 * Int32.toInt64 (t - s1)).toInt = u1.toInt * ((T : Int) - S1) := by rw [j_mul, j_i, j_i, e1] <;> rw [j_i, j_i, e1] <;> omega
  have m2 : (Int32.toInt64 u2 * Int32.toInt64 (t - s2)).toInt = u2.toInt * ((T : Int) - S2) := by rw [j_mul, j_i, j_i, e2] <;> rw [j_i, j_i, e2] <;> omega
  have a1 := hx1.1; have a2 := hx1.2; have a3 := hx2.1; have a4 := hx2.2
  have p1 : (Int32.toInt64 x1 + Int32.toInt64 u1 * Int32.toInt64 (t - s1)).toInt = x1.toInt + u1.toInt * ((T : Int) - S1) := by rw [j_add, j_i, m1] <;> rw [j_i, m1] <;> omega
  have p2 : (Int32.toInt64 x1 + Int32.toInt64 u1 * Int32.toInt64 (t - s1) - Int32.toInt64 x2).toInt = x1.toInt + u1.toInt * ((T : Int) - S1) - x2.toInt := by rw [j_sub, p1, j_i] <;> rw [p1, j_i] <;> omega
  unfold gpX
  refine ⟨?_, by omega⟩
  rw [j_sub, p2, m2] <;> rw [p2, m2] <;> omega
theorem sq2 {a b : Int64} {x y : Int} (ha : a.toInt = x) (hb : b.toInt = y) (hx : Int.natAbs x ≤ 1000000000) (hy : Int.natAbs y ≤ 1000000000) : (a * a + b * b).toInt = x * x + y * y := by
  have b1 := mul_bd (x := x) (y := x) (X := 1000000000) (Y := 1000000000) (by omega) (by omega)
  have b2 := mul_bd (x := y) (y := y) (X := 1000000000) (Y := 1000000000) (by omega) (by omega)
  have m1 : (a * a).toInt = x * x := by rw [j_mul, ha] <;> rw [ha] <;> omega
  have m2 : (b * b).toInt = y * y := by rw [j_mul, hb] <;> rw [hb] <;> omega
  rw [j_add, m1, m2] <;> rw [m1, m2] <;> omega
def gpT (g : Nat → Int32) (i j : Nat) (t : Int32) : Int64 :=
  gpX (g (8 * i + 4)) (g (8 * i + 6)) (g (8 * i + 3)) (g (8 * j + 4)) (g (8 * j + 6)) (g (8 * j + 3)) t * gpX (g (8 * i + 4)) (g (8 * i + 6)) (g (8 * i + 3)) (g (8 * j + 4)) (g (8 * j + 6)) (g (8 * j + 3)) t +
  gpX (g (8 * i + 5)) (g (8 * i + 7)) (g (8 * i + 3)) (g (8 * j + 5)) (g (8 * j + 7)) (g (8 * j + 3)) t * gpX (g (8 * i + 5)) (g (8 * i + 7)) (g (8 * i + 3)) (g (8 * j + 5)) (g (8 * j + 7)) (g (8 * j + 3)) t
theorem P_gap {Q : Int64 → Mem → Prop} {M : Mem} {i j : Nat} {t : Int32} (hi : i < 200) (hj : j < 200) (hQ : Q (gpT (M.1 41) i j t) M) : P_Mo_gap (nI (8 * i)) (nI (8 * j)) t M Q := by
  unfold P_Mo_gap
  rw [show nI (8 * i) + 4 = nI (8 * i + 4) from nI_add _ 4, show nI (8 * i) + 6 = nI (8 * i + 6) from nI_add _ 6, show nI (8 * i) + 3 = nI (8 * i + 3) from nI_add _ 3, show nI (8 * i) + 5 = nI (8 * i + 5) from nI_add _ 5, show nI (8 * i) + 7 = nI (8 * i + 7) from nI_add _ 7,
    show nI (8 * j) + 4 = nI (8 * j + 4) from nI_add _ 4, show nI (8 * j) + 6 = nI (8 * j + 6) from nI_add _ 6, show nI (8 * j) + 3 = nI (8 * j + 3) from nI_add _ 3, show nI (8 * j) + 5 = nI (8 * j + 5) from nI_add _ 5, show nI (8 * j) + 7 = nI (8 * j + 7) from nI_add _ 7]
  rw [cl_nI (n := 8 * i + 4) (by omega), cl_nI (n := 8 * i + 6) (by omega), cl_nI (n := 8 * i + 3) (by omega), cl_nI (n := 8 * i + 5) (by omega), cl_nI (n := 8 * i + 7) (by omega), cl_nI (n := 8 * j + 4) (by omega), cl_nI (n := 8 * j + 6) (by omega), cl_nI (n := 8 * j + 3) (by omega), cl_nI (n := 8 * j + 5) (by omega), cl_nI (n := 8 * j + 7) (by omega)]
  have iv : ∀ n, n < 1600 → vp_in (nI n) 1600 := fun n hn => in_nI hn (by omega)
  exact ⟨iv _ (by omega), iv _ (by omega), iv _ (by omega), iv _ (by omega), iv _ (by omega), iv _ (by omega), iv _ (by omega), iv _ (by omega), iv _ (by omega), iv _ (by omega), hQ⟩
theorem putI_putI (M : Mem) (c k : Nat) (v w : Int32) : putI (putI M c k v) c k w = putI M c k w := by
  unfold putI
  congr 1
  funext a b
  by_cases h1 : a = c <;> by_cases h2 : b = k <;> simp [h1, h2]
theorem P_molatest {Q : Int32 → Mem → Prop} {M : Mem} {e : Nat} {ship : Int32} (h : M.1 35 11 = nI e) (he : e ≤ 200) (hQ : Q (match lastB (isB (M.1 41) 1 ship) e with | none => -1 | some i => nI (8 * i)) M) : P_Mo_latest ship M Q := by
  unfold P_Mo_latest
  rw [h]
  have key : ∀ n, n ≤ e → Q (match lastB (isB (M.1 41) 1 ship) n with | none => -1 | some i => nI (8 * i)) M → P_Mo_latest_7 Q (n + 1) ship (nI n - 1) M := by
    intro n
    induction n with
    | zero =>
      intro _ hq
      unfold P_Mo_latest_7
      exact br_T (by decide) hq
    | succ n ih =>
      intro hn hq
      unfold P_Mo_latest_7
      rw [nI_pred, show 8 * nI n + 1 = nI (8 * n + 1) from ix_m n 1, ix_m0, nI_m1, cl_nI (by omega), cl_nI (by omega)]
      refine br_F (nI_pos (by omega)) ⟨in_nI (by omega) (by omega), ?_⟩
      unfold lastB at hq
      by_cases h1 : M.1 41 (8 * n) = 1
      · refine br_T' h1 ⟨in_nI (by omega) (by omega), ?_⟩
        by_cases h2 : M.1 41 (8 * n + 1) = ship
        · refine br_T' h2 ?_
          simpa [isB, h1, h2] using hq
        · refine br_F' h2 (ih (by omega) ?_)
          simpa [isB, h2] using hq
      · refine br_F' h1 (ih (by omega) ?_)
        simpa [isB, h1] using hq
  exact ⟨e + 1, key e (Nat.le_refl _) hQ⟩
theorem P_momeet {Q : Int64 → Mem → Prop} {M : Mem} {i j T : Nat} {f : Nat → Int} (hi : i < 200) (hj : j < 200) (hT : T ≤ 2000000) (h7 : M.1 35 7 = nI T) (hf : ∀ s, s ≤ 3600 → (gpT (M.1 41) i j (nI (T + s))).toInt = f s)
    (hQ : Q (gpT (M.1 41) i j (nI (T + amN f 3600))) (putI M 35 43 (nI (T + amN f 3600)))) : ∃ m, P_Mo_meet_67 Q m (nI (8 * i)) (nI (8 * j)) (gpT (M.1 41) i j (nI T)) (nI T + 1) (putI M 35 43 (nI T)) := by
  have key : ∀ (d s : Nat), s + d = 3600 → P_Mo_meet_67 Q (d + 1) (nI (8 * i)) (nI (8 * j)) (gpT (M.1 41) i j (nI (T + amN f s))) (nI (T + s + 1)) (putI M 35 43 (nI (T + amN f s))) := by
    intro d
    induction d with
    | zero =>
      intro s hs
      have : s = 3600 := by omega
      subst this
      unfold P_Mo_meet_67
      refine br_T ?_ hQ
      show M.1 35 7 + 3600 < _
      rw [h7, show (3600 : Int32) = nI 3600 from rfl, nI_add, nlt_of (by omega) (by omega)]
      omega
    | succ d ih =>
      intro s hs
      unfold P_Mo_meet_67
      refine br_F ?_ (P_gap hi hj ?_)
      · show ¬ M.1 35 7 + 3600 < _
        rw [h7, show (3600 : Int32) = nI 3600 from rfl, nI_add, nlt_of (by omega) (by omega)]
        omega
      · have ha := (amN_spec f s).1
        have e41 : (putI M 35 43 (nI (T + amN f s))).1 41 = M.1 41 := rfl
        have hih := ih (s + 1) (by omega)
        rw [e41, nI_1, putI_putI]
        have hc : gpT (M.1 41) i j (nI (T + s + 1)) < gpT (M.1 41) i j (nI (T + amN f s)) ↔ f (s + 1) < f (amN f s) := by
          rw [j_lt, show T + s + 1 = T + (s + 1) by omega, hf (s + 1) (by omega), hf _ (by omega)]
        have ea : amN f (s + 1) = if f (s + 1) < f (amN f s) then s + 1 else amN f s := rfl
        by_cases hcc : f (s + 1) < f (amN f s)
        · rw [ea, if_pos hcc] at hih
          exact br_T (hc.mpr hcc) hih
        · rw [ea, if_neg hcc] at hih
          exact br_F (fun x => hcc (hc.mp x)) hih
  have h0 := key 3600 0 (by omega)
  rw [nI_1]
  exact ⟨3601, h0⟩
theorem P_along {Q : Int64 → Mem → Prop} {M : Mem} {e i f1 f2 : Nat} {n : Int32} (h : M.1 11 1 = nI e) (he : e ≤ 200) (hi : i < e) (hf1 : f1 < 8) (hf2 : f2 < 8) (hQ : Q (Int32.toInt64 (M.1 12 (8 * i + f1)) + Int32.toInt64 (n - M.1 12 (8 * i + 3)) * Int32.toInt64 (M.1 12 (8 * i + f2))) M) : P_Meeting_along (nI i) (nI f1) (nI f2) n M Q := by
  unfold P_Meeting_along
  exact P_cell_in (f := 3) h he hi (by omega) (P_cell_in h he hi hf1 (P_cell_in h he hi hf2 hQ))
theorem byd {u1 u2 : Int32} (h1 : Pos u1 128) (h2 : Pos u2 128) : (Int32.toInt64 (u1 - u2)).toInt = u1.toInt - u2.toInt := by
  have a1 := h1.1; have a2 := h1.2; have a3 := h2.1; have a4 := h2.2
  rw [j_i, i_sub] <;> omega
