/-! a frame is read by the class, and noted by the model -/
theorem mX_same (ch L e : Nat) (X : Mem) : Same [35, 41, 42, 43] X (mN2 ch L e (mN1 ch L X)) := fun d hd => by
  simp only [List.mem_cons, List.not_mem_nil, or_false, not_or] at hd
  obtain ⟨h1, h2, h3, h4⟩ := hd
  have m := mN1_c (ch := ch) (L := L) (Y := X) h1 h4
  unfold mN2
  exact ⟨(putI_ne1 h1).trans ((putI_ne1 h3).trans ((setRow_ne h2).trans m.1)), congrFun m.2 d⟩
theorem mN1_same (ch L : Nat) (X : Mem) : Same [35, 43] X (mN1 ch L X) := fun d hd => by
  simp only [List.mem_cons, List.not_mem_nil, or_false, not_or] at hd
  have m := mN1_c (ch := ch) (L := L) (Y := X) hd.1 hd.2
  exact ⟨m.1, congrFun m.2 d⟩
theorem mX_row (ch L e : Nat) (X : Mem) : (mN2 ch L e (mN1 ch L X)).1 41 = lgF (lgB (X.1 41) e (rK (X.1 40) (300 * ch) L) (rS (X.1 40) (300 * ch) L) (nI ch) (X.1 35 7)) e (rF (X.1 40) (300 * ch) L) 4 := by
  unfold mN2
  rw [putI_ne1 (by omega), putI_ne1 (by omega), setRow_at, (mN1_c (c := 41) (by omega) (by omega)).1, (mN1_c (c := 40) (by omega) (by omega)).1, mN1_f (f := 7) (by omega) (by omega)]
theorem mX_42 (ch L e i : Nat) (X : Mem) : (mN2 ch L e (mN1 ch L X)).1 42 i = if i = e then 0 else X.1 42 i := by
  unfold mN2
  rw [putI_ne1 (by omega), putI_at, setRow_ne (by omega), (mN1_c (c := 42) (by omega) (by omega)).1]
  by_cases h : i = e
  · rw [if_pos ⟨rfl, h⟩, if_pos h]
  · rw [if_neg (fun x => h x.2), if_neg h]
theorem mX_11 (ch L e : Nat) (X : Mem) : (mN2 ch L e (mN1 ch L X)).1 35 11 = nI (e + 1) := rfl
theorem mX_f (ch L e : Nat) (X : Mem) {f : Nat} (h : f ≠ 11) : (mN2 ch L e (mN1 ch L X)).1 35 f = (mN1 ch L X).1 35 f := by
  unfold mN2
  rw [putI_at, if_neg (fun x => h x.2), putI_ne1 (by omega), setRow_ne (by omega)]
theorem first_no {f : Nat → Bool} {m : Nat} (h : ¬ ∀ p, p < m → f p = true) : ∃ p, p < m ∧ f p = false ∧ ∀ q, q < p → f q = true := by
  induction m with
  | zero => exact absurd (fun p hp => absurd hp (Nat.not_lt_zero _)) h
  | succ m ih =>
    by_cases h2 : ∀ p, p < m → f p = true
    · refine ⟨m, by omega, ?_, h2⟩
      cases hf : f m
      · rfl
      · exact absurd (fun p hp => by
          by_cases hpm : p = m
          · rw [hpm]; exact hf
          · exact h2 p (by omega)) h
    · obtain ⟨p, h3, h4⟩ := ih h2
      exact ⟨p, by omega, h4⟩
theorem cand_congr {u u' g g' : Nat → Int32} {e v p i : Nat} (hg : ∀ j, j < 8 * e → g j = g' j) (hi : i < e) (hv : v < e) (hu : u i = u' i) : cand u g v p i = cand u' g' v p i := by
  unfold cand
  rw [sameT_congr hg hi hv, hu, hg (8 * i + 5) (by omega)]
theorem rf_note {c ch L : Nat} {C X : Mem} {Q : Mem → Prop} (hc : c = 3 ∨ c = 5) (hch : ch < 2) (hL8 : 8 ≤ L) (hL : L ≤ 284)
    (h5 : C.1 c 5 = nI L) (hb : BitsOk (C.1 (c + 1)) 0 L) (h40 : ∀ j, j < L → X.1 40 (300 * ch + j) = C.1 (c + 1) j)
    (iN : INow (mix C X)) (iC : ICount (mix C X)) (iL : ILogs (mix C X))
    (hQ : ∀ N X', Same [0, 7, 8, 11, 12, 13, 14, 15, 16, 17, 18, 19] C N → N.1 0 10 = C.1 0 10 → N.1 0 11 = C.1 0 11 + 1 → Same [35, 41, 42, 43, 44, 45, 46, 47, 48] X X' → (X'.2 = X.2 ∧ ∀ f, f ≠ 11 → f ≠ 12 → f ≠ 13 → f ≠ 20 → X'.1 35 f = X.1 35 f) → ICount (mix N X') → ILogs (mix N X') → (∀ (A : Mem) (R : Mem → Prop), R (mix A X') → P_Mo_note (nI ch) (nI L) (mix A X) R) → Q N) : P_Sv_readFrame c (nI ch) C Q := by
  obtain ⟨e, iLog, iCl, iTx⟩ := iL
  have iLog' := iLog
  obtain ⟨he, l1, l2, l3, l4, l5, l6⟩ := iLog'
  have l1 : C.1 11 1 = nI e := l1
  have l2 : X.1 35 11 = nI e := l2
  have l3 : ∀ j, j < 8 * e → X.1 41 j = C.1 12 j := l3
  obtain ⟨s, hs, s1, s2⟩ := iN
  have s1 : C.1 0 10 = nI s := s1
  have s2 : X.1 35 7 = nI s := s2
  obtain ⟨q1, q2⟩ := iC
  have q1 : C.1 0 11 = X.1 35 12 := q1
  have q2 : C.1 0 12 = X.1 35 13 := q2
  have hb40 : BitsOk (X.1 40) (300 * ch) L := fun j hj => by
    rw [h40 j hj]; have := hb j hj; rwa [Nat.zero_add] at this
  have eB : fB (X.1 40) (300 * ch) L = fB (C.1 (c + 1)) 0 L := fB_eq h40 (by omega)
  have eV : rv (X.1 40) (300 * ch) 4 = rv (C.1 (c + 1)) 0 4 := rv_eq0 h40 (by omega)
  have eK : rK (X.1 40) (300 * ch) L = rK (C.1 (c + 1)) 0 L := rK_eq h40 (by omega)
  have eS : rS (X.1 40) (300 * ch) L = rS (C.1 (c + 1)) 0 L := rS_eq h40 (by omega)
  have eF : ∀ i, i < 4 → rF (X.1 40) (300 * ch) L i = rF (C.1 (c + 1)) 0 L i := fun i hi => rF_eq h40 (by omega) hi
  have mS : (mN1 ch L X).2 = X.2 := (mN1_c (c := 0) (by omega) (by omega)).2
  have nat_no : e < 200 → ¬ (fB (C.1 (c + 1)) 0 L = true ∧ rv (C.1 (c + 1)) 0 4 = 4) → ∀ (A : Mem) (R : Mem → Prop), R (mix A (mN2 ch L e (mN1 ch L X))) → P_Mo_note (nI ch) (nI L) (mix A X) R := fun h1 h2 A R hR =>
    P_monote (Y := mix A X) (e := e) hch hL hL8 he l2 hb40 (fun x => by omega) (fun _ _ => by rw [mN1_mix, mN2_mix]; exact hR) (fun _ x y => absurd ⟨eB.symm.trans x, eV.symm.trans y⟩ h2)
  have nat_200 : e = 200 → ∀ (A : Mem) (R : Mem → Prop), R (mix A (mN1 ch L X)) → P_Mo_note (nI ch) (nI L) (mix A X) R := fun h1 A R hR =>
    P_monote (Y := mix A X) (e := e) hch hL hL8 he l2 hb40 (fun _ => by rw [mN1_mix]; exact hR) (fun x => by omega) (fun x => by omega)
  have nat_join : e < 200 → fB (C.1 (c + 1)) 0 L = true → rv (C.1 (c + 1)) 0 4 = 4 → ∀ (A : Mem) (R : Mem → Prop), P_Mo_join (nI e) (mix A (mN2 ch L e (mN1 ch L X))) R → P_Mo_note (nI ch) (nI L) (mix A X) R := fun h1 h2 h3 A R hR =>
    P_monote (Y := mix A X) (e := e) hch hL hL8 he l2 hb40 (fun x => by omega) (fun _ x => absurd ⟨eB.trans h2, eV.trans h3⟩ x) (fun _ _ _ => by rw [mN1_mix, mN2_mix]; exact hR)
  have tail : ∀ N2, Same [0, 7, 8] C N2 → N2.1 0 10 = C.1 0 10 → N2.1 0 11 = C.1 0 11 + 1 → N2.1 0 12 = (if fB (C.1 (c + 1)) 0 L then C.1 0 12 else C.1 0 12 + 1) → N2.1 7 1 = rK (C.1 (c + 1)) 0 L → N2.1 7 2 = rS (C.1 (c + 1)) 0 L → (∀ i, i < 4 → N2.1 8 i = rF (C.1 (c + 1)) 0 L i) → P_Sv_readFrame_38 c Q (nI ch) N2 := by
    intro N2 z0 z1 z2 z3 z4 z5 z6
    have cnt : ∀ N X' : Mem, N.1 0 = N2.1 0 → X'.1 35 12 = (mN1 ch L X).1 35 12 → X'.1 35 13 = (mN1 ch L X).1 35 13 → ICount (mix N X') := fun N X' a1 a3 a4 => by
      refine ⟨?_, ?_⟩
      · show N.1 0 11 = X'.1 35 12
        rw [a1, a3, z2, q1, mN1_12]
      · show N.1 0 12 = X'.1 35 13
        rw [a1, a4, z3, mN1_13, eB, q2]
    unfold P_Sv_readFrame_38
    have e11 : N2.1 11 1 = nI e := by rw [(z0 11 (by decide)).1]; exact l1
    by_cases h200 : e = 200
    · refine P_logfull (by rw [e11, h200]) (br_T' rfl (hQ N2 (mN1 ch L X) (z0.mono (by simp)) z1 z2 ((mN1_same ch L X).mono (by simp)) ⟨mS, fun f _ f12 f13 _ => mN1_f f12 f13⟩ (cnt N2 _ rfl rfl rfl) ?_ (nat_200 h200)))
      have zc := fun n (hn : n ∉ [0, 7, 8]) => (z0 n hn).1
      have zm := fun n (h1 : n ≠ 35) (h2 : n ≠ 43) => (mN1_c (ch := ch) (L := L) (Y := X) h1 h2).1
      exact ILogs.congr (M := mix C X) (N := mix N2 (mN1 ch L X)) ⟨e, iLog, iCl, iTx⟩ (congrFun (zc 11 (by decide)) 1) (mN1_f (by decide) (by decide)) (zm 41 (by decide) (by decide)) (zc 12 (by decide))
        (by show (C.1 0 10).toInt ≤ (N2.1 0 10).toInt; rw [z1]; exact Int.le_refl _) (zc 14 (by decide)) (congrFun (zc 13 (by decide)) 1) (zc 16 (by decide)) (zm 42 (by decide) (by decide)) (congrFun (zc 15 (by decide)) 4) (mN1_f (by decide) (by decide))
        (zc 18 (by decide)) (zm 47 (by decide) (by decide)) (zm 44 (by decide) (by decide)) (zm 45 (by decide) (by decide)) (zm 46 (by decide) (by decide)) (zc 17 (by decide)) (zm 48 (by decide) (by decide))
    · have he2 : e < 200 := by omega
      refine P_logadd e11 he2 (fun N3 y0 y1 y2 y3 y4 y5 y6 y7 => ?_)
      have yc := fun n (hn : n ∉ [11, 12]) (hn2 : n ∉ [0, 7, 8]) => ((y0 n hn).1.trans (z0 n hn2).1)
      have y00 : N3.1 0 = N2.1 0 := (y0 0 (by decide)).1
      have g12 : ∀ j, j < 8 * e → N3.1 12 j = C.1 12 j := fun j hj => (y2 j hj).trans (by rw [(z0 12 (by decide)).1])
      have g0 : N3.1 12 (8 * e) = rK (C.1 (c + 1)) 0 L := y3.trans z4
      have g3 : N3.1 12 (8 * e + 3) = C.1 0 10 := y6.trans z1
      have g41 : ∀ j, j < 8 * e + 8 → (mN2 ch L e (mN1 ch L X)).1 41 j = N3.1 12 j := fun j hj => by
        rw [mX_row]
        by_cases j0 : j < 8 * e
        · rw [lgF_lo (by omega), lgB_lo j0, g12 j j0]; exact l3 j j0
        · by_cases j4 : j < 8 * e + 4
          · rw [lgF_lo j4]
            rcases (show j = 8 * e ∨ j = 8 * e + 1 ∨ j = 8 * e + 2 ∨ j = 8 * e + 3 by omega) with rfl | rfl | rfl | rfl
            · rw [lgB_0, g0, eK]
            · rw [lgB_1, y4, z5, eS]
            · rw [lgB_2, y5]
            · rw [lgB_3, g3, s1, s2]
          · obtain ⟨i, hi, rfl⟩ : ∃ i, i < 4 ∧ j = 8 * e + 4 + i := ⟨j - (8 * e + 4), by omega, by omega⟩
            rw [lgF_at hi, y7 i hi, z6 i hi, eF i hi]
      have recN : RecOk (fun f => N3.1 12 (8 * e + f)) := rec_new (g := C.1 (c + 1)) (L := L) (ch := ch) (s := s) hch hs g0 y5 (g3.trans s1) (fun i hi => by
        show N3.1 12 (8 * e + (4 + i)) = _
        rw [← Nat.add_assoc, y7 i hi, z6 i hi])
      have k7 : N3.1 7 1 = rK (C.1 (c + 1)) 0 L := by rw [(y0 7 (by decide)).1]; exact z4
      have iLg : ∀ N X' : Mem, N.1 11 = N3.1 11 → N.1 12 = N3.1 12 → N.1 0 = N3.1 0 → X'.1 35 11 = nI (e + 1) → X'.1 41 = (mN2 ch L e (mN1 ch L X)).1 41 → ILog (e + 1) (mix N X') := fun N X' a1 a2 a3 a4 a5 =>
        ILog_add (M := mix C X) iLog he2 (show N.1 11 1 = nI (e + 1) by rw [a1]; exact y1) a4 (fun j hj => show N.1 12 j = C.1 12 j by rw [a2]; exact g12 j hj) (fun j hj => show X'.1 41 j = N.1 12 j by rw [a2, a5]; exact g41 j hj)
          (show RecOk (fun f => N.1 12 (8 * e + f)) by rw [a2]; exact recN) (show N.1 12 (8 * e + 3) = C.1 0 10 by rw [a2]; exact g3) (show N.1 0 10 = C.1 0 10 by rw [a3, y00]; exact z1)
      have iCn : rK (C.1 (c + 1)) 0 L ≠ 5 → ∀ N X' : Mem, N.1 12 = N3.1 12 → N.1 13 = C.1 13 → N.1 14 = C.1 14 → IClash (e + 1) (mix N X') := fun hk N X' a1 a2 a3 => by
        have z : clN (N.1 12) e = 0 := clN_0 (by rw [a1, g0]; exact hk)
        have c14 := iCl.1 e he2
        refine IClash_add (M := mix C X) iCl he2 (fun j hj => show N.1 12 j = C.1 12 j by rw [a1]; exact g12 j hj) (fun k _ _ => show N.1 14 k = C.1 14 k by rw [a3]) ?_ ?_
        · show N.1 14 e = nI (clN (N.1 12) e)
          rw [z, a3]
          have c14 : C.1 14 e = nI (if e < e then clN (C.1 12) e else 0) := c14
          rw [c14, if_neg (by omega)]
        · show N.1 13 1 = C.1 13 1 + nI (clN (N.1 12) e)
          rw [z, a2]
          exact (Int32.add_zero _).symm
      have m42e : ∀ i, i < e → (mN2 ch L e (mN1 ch L X)).1 42 i = X.1 42 i := fun i hi => by rw [mX_42, if_neg (by omega)]
      have iTp : ∀ N X' : Mem, N.1 12 = N3.1 12 → N.1 16 = C.1 16 → N.1 15 = C.1 15 → N.1 18 = C.1 18 → N.1 17 = C.1 17 → X'.1 42 = (mN2 ch L e (mN1 ch L X)).1 42 → X'.1 35 20 = X.1 35 20 → X'.1 47 = X.1 47 → X'.1 44 = X.1 44 → X'.1 45 = X.1 45 → X'.1 46 = X.1 46 → (∀ t, X.1 35 20 = nI t → t < 100 → ∀ j, j < 5 * t → X'.1 48 j = X.1 48 j) → IText (e + 1) (mix N X') := fun N X' a1 a2 a3 a4 a5 b1 b2 b3 b4 b5 b6 b7 =>
        IText_plain (M := mix C X) iTx he2 (fun j hj => show N.1 12 j = C.1 12 j by rw [a1]; exact g12 j hj) a2 (fun i hi => show X'.1 42 i = X.1 42 i by rw [b1]; exact m42e i hi) (show X'.1 42 e = 0 by rw [b1, mX_42, if_pos rfl]) (congrFun a3 4) b2 a4 b3 b4 b5 b6 a5 b7
      have xs := mX_same ch L e X
      have x20 : (mN2 ch L e (mN1 ch L X)).1 35 20 = X.1 35 20 := (mX_f ch L e X (by decide)).trans (mN1_f (by decide) (by decide))
      have x12 : (mN2 ch L e (mN1 ch L X)).1 35 12 = (mN1 ch L X).1 35 12 := mX_f ch L e X (by decide)
      have x13 : (mN2 ch L e (mN1 ch L X)).1 35 13 = (mN1 ch L X).1 35 13 := mX_f ch L e X (by decide)
      have xf : ∀ f, f ≠ 11 → f ≠ 12 → f ≠ 13 → f ≠ 20 → (mN2 ch L e (mN1 ch L X)).1 35 f = X.1 35 f := fun f f1 f2 f3 _ => (mX_f ch L e X f1).trans (mN1_f f2 f3)
      have sC : ∀ N : Mem, Same [13, 14, 15, 16, 17, 18, 19] N3 N → Same [0, 7, 8, 11, 12, 13, 14, 15, 16, 17, 18, 19] C N := fun N hN => ((z0.mono (by simp)).trans (y0.mono (by simp))).trans (hN.mono (by simp))
      have w10 : ∀ N : Mem, N.1 0 = N3.1 0 → N.1 0 10 = C.1 0 10 ∧ N.1 0 11 = C.1 0 11 + 1 := fun N h => by rw [h, y00]; exact ⟨z1, z2⟩
      refine br_F' (by rw [i_eq, i_nI (by omega), i_m1]; omega) ?_
      unfold P_Telling_kind
      try dsimp only
      rw [k7]
      refine ⟨fun n5 => ⟨fun n4 => ?_, fun k4 => ?_⟩, fun k5 => ?_⟩
      · refine hQ N3 (mN2 ch L e (mN1 ch L X)) (sC N3 (Same.refl _ _)) (w10 N3 rfl).1 (w10 N3 rfl).2 (xs.mono (by simp)) ⟨mS, xf⟩ (cnt N3 _ y00 x12 x13) ⟨e + 1, iLg N3 _ rfl rfl rfl rfl rfl, iCn n5 N3 _ rfl (yc 13 (by decide) (by decide)) (yc 14 (by decide) (by decide)), iTp N3 _ rfl (yc 16 (by decide) (by decide)) (yc 15 (by decide) (by decide)) (yc 18 (by decide) (by decide)) (yc 17 (by decide) (by decide)) rfl x20 (xs 47 (by decide)).1 (xs 44 (by decide)).1 (xs 45 (by decide)).1 (xs 46 (by decide)).1 (fun _ _ _ j _ => congrFun (xs 48 (by decide)).1 j)⟩ (nat_no he2 (fun x => n4 ?_))
        unfold rK
        rw [x.1, x.2]
        rfl
      · obtain ⟨fb, fr⟩ := rK_is (n := 4) (by omega) (by omega) k4
        obtain ⟨m, w, m2, m5, wm, r6, r5⟩ := recN.2.2.2 (g0.trans k4)
        have r6 : N3.1 12 (8 * e + 6) = nI m := r6
        obtain ⟨a1, a2, t, t1, t2, t3, t4⟩ := id iTx
        have a1 : ∀ i, i < e → C.1 16 i = X.1 42 i ∧ (C.1 16 i = 0 ∨ C.1 16 i = 1) := a1
        have a2 : ∀ i, e ≤ i → i < 200 → C.1 16 i = 0 := a2
        have t1 : C.1 15 4 = nI t := t1
        have t2 : X.1 35 20 = nI t := t2
        have t3 : 2 * t ≤ cntB (fun i => decide (C.1 16 i = 1)) e := t3
        have ht : t < 100 := by have := cntB_le (fun i => decide (C.1 16 i = 1)) e; omega
        have recs := (iLg N3 (mN2 ch L e (mN1 ch L X)) rfl rfl rfl rfl rfl).2.2.2.2.1
        have n16 : N3.1 16 = C.1 16 := yc 16 (by decide) (by decide)
        have hr : ∀ i, i < e + 1 → sameT (N3.1 12) i e = true → ∃ w : Nat, w < m ∧ N3.1 12 (8 * i + 5) = nI w := fun i hi hsT => by
          unfold sameT isB at hsT
          simp only [Bool.and_eq_true, decide_eq_true_eq] at hsT
          obtain ⟨m', w', -, m5', wm', r6', r5'⟩ := (recs i hi).2.2.2 hsT.1.1.1
          have r6' : N3.1 12 (8 * i + 6) = nI m' := r6'
          have r5' : N3.1 12 (8 * i + 5) = nI w' := r5'
          have : m' = m := (nI_eq (by omega) (by omega)).mp (r6'.symm.trans (hsT.2.trans r6))
          exact ⟨w', by omega, r5'⟩
        have u42 : ∀ i, i < e + 1 → (mN2 ch L e (mN1 ch L X)).1 42 i = N3.1 16 i := fun i hi => by
          rw [mX_42, n16]
          by_cases hie : i = e
          · rw [if_pos hie, hie, a2 e (by omega) he2]
          · rw [if_neg hie, (a1 i (by omega)).1]
        have eL : ∀ p, lastB (cand ((mN2 ch L e (mN1 ch L X)).1 42) ((mN2 ch L e (mN1 ch L X)).1 41) e p) (e + 1) = lastB (cand (N3.1 16) (N3.1 12) e p) (e + 1) := fun p =>
          lastB_congr (fun i hi => cand_congr (e := e + 1) (fun j hj => g41 j (by omega)) hi (by omega) (u42 i hi))
        have x6 : (mN2 ch L e (mN1 ch L X)).1 41 (8 * e + 6) = nI m := (g41 _ (by omega)).trans r6
        have sT : ∀ i, i < e + 1 → sameT ((mN2 ch L e (mN1 ch L X)).1 41) i e = sameT (N3.1 12) i e := fun i hi => sameT_congr (e := e + 1) (fun j hj => g41 j (by omega)) hi (by omega)
        have x20t := x20.trans t2
        refine P_ctnote y1 he2 r6 m5 (by rw [yc 15 (by decide) (by decide)]; exact t1) ht hr (fun hall N4 v0 => ?_) (fun hall N4 v0 v1 v2 v3 v4 v5 v6 => ?_)
        · have hna : ¬ ∀ p, p < m → (lastB (cand (N3.1 16) (N3.1 12) e p) (e + 1)).isSome = true := fun x => by
            unfold allB at hall
            rw [cntB_all.mpr x] at hall
            simp at hall
          obtain ⟨p, p1, p2, p3⟩ := first_no hna
          have p2' : lastB (cand (N3.1 16) (N3.1 12) e p) (e + 1) = none := by
            cases hz : lastB (cand (N3.1 16) (N3.1 12) e p) (e + 1) with
            | none => rfl
            | some z => rw [hz] at p2; cases p2
          generalize hJ : jR ((mN2 ch L e (mN1 ch L X)).1 48) t (jL ((mN2 ch L e (mN1 ch L X)).1 41) (fun p => lastB (cand ((mN2 ch L e (mN1 ch L X)).1 42) ((mN2 ch L e (mN1 ch L X)).1 41) e p) (e + 1))) p = J
          have vc := fun n (hn : n ∉ [19]) => (v0 n hn).1
          have s48 : Same [35, 41, 42, 43, 48] X (setRow (mN2 ch L e (mN1 ch L X)) 48 J) := fun d hd => by
            simp only [List.mem_cons, List.not_mem_nil, or_false, not_or] at hd
            have := xs d (by simp only [List.mem_cons, List.not_mem_nil, or_false, not_or]; omega)
            exact ⟨(setRow_ne (by omega)).trans this.1, this.2⟩
          refine hQ N4 (setRow (mN2 ch L e (mN1 ch L X)) 48 J) (sC N4 (v0.mono (by simp))) (w10 N4 (vc 0 (by decide))).1 (w10 N4 (vc 0 (by decide))).2 (s48.mono (by simp)) ⟨mS, xf⟩ (cnt N4 _ ((vc 0 (by decide)).trans y00) x12 x13)
            ⟨e + 1, iLg N4 _ (vc 11 (by decide)) (vc 12 (by decide)) (vc 0 (by decide)) rfl rfl, iCn n5 N4 _ (vc 12 (by decide)) ((vc 13 (by decide)).trans (yc 13 (by decide) (by decide))) ((vc 14 (by decide)).trans (yc 14 (by decide) (by decide))),
              iTp N4 _ (vc 12 (by decide)) ((vc 16 (by decide)).trans (yc 16 (by decide) (by decide))) ((vc 15 (by decide)).trans (yc 15 (by decide) (by decide))) ((vc 18 (by decide)).trans (yc 18 (by decide) (by decide))) ((vc 17 (by decide)).trans (yc 17 (by decide) (by decide))) rfl x20 (xs 47 (by decide)).1 (xs 44 (by decide)).1 (xs 45 (by decide)).1 (xs 46 (by decide)).1 (fun t' h1 h2 j hj => ?_)⟩
            (fun A R hR => nat_join he2 fb fr A R (P_mojoin_no (M := mix A (mN2 ch L e (mN1 ch L X))) (e := e + 1) (v := e) (m := m) (t := t) (p := p) rfl (by omega) (by omega) m5 x6 x20t ht p1 ((eL p).trans p2') (fun q hq => (congrArg Option.isSome (eL q)).trans (p3 q hq)) ?_))
          · have : t' = t := (nI_eq (by omega) (by omega)).mp (h1.symm.trans t2)
            subst this
            rw [setRow_at, ← hJ, jR_lo hj, (xs 48 (by decide)).1]
          · rw [mix_row (by omega)]
            rw [← hJ] at hR
            exact hR
        · have hal : ∀ p, p < m → (lastB (cand (N3.1 16) (N3.1 12) e p) (e + 1)).isSome = true := by
            unfold allB at hall
            exact cntB_all.mp (of_decide_eq_true hall)
          have vc := fun n (hn : n ∉ [15, 16, 17, 18, 19]) => (v0 n hn).1
          generalize hJ : jR ((mN2 ch L e (mN1 ch L X)).1 48) t (jL ((mN2 ch L e (mN1 ch L X)).1 41) (fun p => lastB (cand ((mN2 ch L e (mN1 ch L X)).1 42) ((mN2 ch L e (mN1 ch L X)).1 41) e p) (e + 1))) m = J
          generalize hU : jU ((mN2 ch L e (mN1 ch L X)).1 42) ((mN2 ch L e (mN1 ch L X)).1 41) e (e + 1) = U
          generalize hX' : setRow (putI (putI (putI (putI (putI (setRow (mN2 ch L e (mN1 ch L X)) 48 J) 44 t ((mN2 ch L e (mN1 ch L X)).1 41 (8 * e + 1))) 45 t ((mN2 ch L e (mN1 ch L X)).1 41 (8 * e + 4))) 46 t (nI (4 * m))) 47 t (nI e)) 35 20 (nI (t + 1))) 42 U = X'
          have sX : Same [35, 41, 42, 43, 44, 45, 46, 47, 48] X X' := fun d hd => by
            simp only [List.mem_cons, List.not_mem_nil, or_false, not_or] at hd
            have := xs d (by simp only [List.mem_cons, List.not_mem_nil, or_false, not_or]; omega)
            rw [← hX']
            exact ⟨(setRow_ne (by omega)).trans ((putI_ne1 (by omega)).trans ((putI_ne1 (by omega)).trans ((putI_ne1 (by omega)).trans ((putI_ne1 (by omega)).trans ((putI_ne1 (by omega)).trans ((setRow_ne (by omega)).trans this.1)))))), this.2⟩
          have f35 : ∀ f, f ≠ 20 → X'.1 35 f = (mN2 ch L e (mN1 ch L X)).1 35 f := fun f hf => by
            rw [← hX', setRow_ne (by omega), putI_at, if_neg (fun x => hf x.2), putI_ne1 (by omega), putI_ne1 (by omega), putI_ne1 (by omega), putI_ne1 (by omega), setRow_ne (by omega)]
          have k48 : X'.1 48 = J := by rw [← hX', setRow_ne (by omega), putI_ne1 (by omega), putI_ne1 (by omega), putI_ne1 (by omega), putI_ne1 (by omega), putI_ne1 (by omega), setRow_at]
          have k42 : X'.1 42 = U := by rw [← hX', setRow_at]
          have k41 : X'.1 41 = (mN2 ch L e (mN1 ch L X)).1 41 := by rw [← hX']; rfl
          have k44 : ∀ i, X'.1 44 i = if i = t then (mN2 ch L e (mN1 ch L X)).1 41 (8 * e + 1) else (mN2 ch L e (mN1 ch L X)).1 44 i := fun i => by rw [← hX']; rfl
          have k45 : ∀ i, X'.1 45 i = if i = t then (mN2 ch L e (mN1 ch L X)).1 41 (8 * e + 4) else (mN2 ch L e (mN1 ch L X)).1 45 i := fun i => by rw [← hX']; rfl
          have k46 : ∀ i, X'.1 46 i = if i = t then nI (4 * m) else (mN2 ch L e (mN1 ch L X)).1 46 i := fun i => by rw [← hX']; rfl
          have k47 : ∀ i, X'.1 47 i = if i = t then nI e else (mN2 ch L e (mN1 ch L X)).1 47 i := fun i => by rw [← hX']; rfl
          have k20 : X'.1 35 20 = nI (t + 1) := by rw [← hX']; rfl
          have e12 : N4.1 12 = N3.1 12 := vc 12 (by decide)
          have e17 : N3.1 17 = C.1 17 := yc 17 (by decide) (by decide)
          have e18 : N3.1 18 = C.1 18 := yc 18 (by decide) (by decide)
          refine hQ N4 X' (sC N4 (v0.mono (by simp))) (w10 N4 (vc 0 (by decide))).1 (w10 N4 (vc 0 (by decide))).2 sX ⟨by rw [← hX']; exact mS, fun f f1 f2 f3 f4 => (f35 f f4).trans (xf f f1 f2 f3 f4)⟩ (cnt N4 _ ((vc 0 (by decide)).trans y00) ((f35 12 (by decide)).trans x12) ((f35 13 (by decide)).trans x13))
            ⟨e + 1, iLg N4 _ (vc 11 (by decide)) e12 (vc 0 (by decide)) ((f35 11 (by decide)).trans rfl) k41, iCn n5 N4 _ e12 ((vc 13 (by decide)).trans (yc 13 (by decide) (by decide))) ((vc 14 (by decide)).trans (yc 14 (by decide) (by decide))), ?_⟩
            (fun A R hR => nat_join he2 fb fr A R (P_mojoin_yes (M := mix A (mN2 ch L e (mN1 ch L X))) (e := e + 1) (v := e) (m := m) (t := t) rfl (by omega) (by omega) m5 x6 x20t ht (fun q hq => (congrArg Option.isSome (eL q)).trans (hal q hq)) ?_))
          · rw [n16] at v4 v6 hal
            refine IText_join (M := mix C X) (N := mix N4 X') (m := m) (t := t) iTx he2 ht t1 (fun j hj => ?_) ?_ ?_ m2 m5 (fun p hp => ?_) (fun i hi => ?_) (fun i hi => ?_) v1 k20 v2 (fun i hi => ?_) ?_ (fun i hi => ?_) ?_ (fun i hi => ?_) ?_ (fun i hi => ?_) ?_ (fun i hi => ?_) (fun p hp => ?_) (fun j hj => ?_) (fun p hp => ?_) (fun j hj => ?_)
            · show N4.1 12 j = C.1 12 j
              rw [e12]; exact g12 j hj
            · show N4.1 12 (8 * e) = 4
              rw [e12]; exact g0.trans k4
            · show N4.1 12 (8 * e + 6) = nI m
              rw [e12]; exact r6
            · show (lastB (cand (C.1 16) (N4.1 12) e p) (e + 1)).isSome = true
              rw [e12]; exact hal p hp
            · show N4.1 16 i = if i < e + 1 ∧ sameT (N4.1 12) i e = true then 1 else C.1 16 i
              rw [e12]; exact v6 i hi
            · show X'.1 42 i = N4.1 16 i
              rw [k42, ← hU, jU_at, v6 i (by omega), sT i hi, u42 i hi, n16]
            · show N4.1 18 i = C.1 18 i
              rw [v3 i hi, e18]
            · show X'.1 47 t = nI e
              rw [k47, if_pos rfl]
            · show X'.1 47 i = X.1 47 i
              rw [k47, if_neg (by omega), (xs 47 (by decide)).1]
            · show X'.1 44 t = N4.1 12 (8 * e + 1)
              rw [k44, if_pos rfl, e12, g41 _ (by omega)]
            · show X'.1 44 i = X.1 44 i
              rw [k44, if_neg (by omega), (xs 44 (by decide)).1]
            · show X'.1 45 t = N4.1 12 (8 * e + 4)
              rw [k45, if_pos rfl, e12, g41 _ (by omega)]
            · show X'.1 45 i = X.1 45 i
              rw [k45, if_neg (by omega), (xs 45 (by decide)).1]
            · show X'.1 46 t = N4.1 12 (8 * e + 6) * 4
              rw [k46, if_pos rfl, e12, r6, show nI m * 4 = nI (m * 4) from pk_mul m 4, Nat.mul_comm]
            · show X'.1 46 i = X.1 46 i
              rw [k46, if_neg (by omega), (xs 46 (by decide)).1]
            · show N4.1 17 (5 * t + p) = oI (lastB (cand (C.1 16) (N4.1 12) e p) (e + 1))
              rw [e12]; exact v4 p hp
            · show N4.1 17 j = C.1 17 j
              rw [v5 j hj, e17]
            · show X'.1 48 (5 * t + p) = jL (N4.1 12) (fun p => lastB (cand (C.1 16) (N4.1 12) e p) (e + 1)) p
              rw [k48, ← hJ, jR_at hp, e12]
              unfold jL
              dsimp only
              rw [eL p, n16]
              have := hal p hp
              cases hz : lastB (cand (C.1 16) (N3.1 12) e p) (e + 1) with
              | none => rw [hz] at this; cases this
              | some z =>
                have := (lastB_lt hz).1
                exact g41 _ (by show 8 * z + 7 < _; omega)
            · show X'.1 48 j = X.1 48 j
              rw [k48, ← hJ, jR_lo hj, (xs 48 (by decide)).1]
          · rw [← hX', ← hU, ← hJ] at hR
            rw [mix_row (by omega), mix_putI (by omega), mix_putI (by omega), mix_putI (by omega), mix_putI (by omega), mix_putI (by omega), mix_row (by omega)]
            exact hR
      · obtain ⟨fb, fr⟩ := rK_is (n := 5) (by omega) (by omega) k5
        refine P_clashNote y1 he2 (g0.trans k5) ?_
        have s2 : Same [13, 14] N3 (putI (putI N3 14 e (nI (clN (N3.1 12) e))) 13 1 (N3.1 13 1 + nI (clN (N3.1 12) e))) := ((Same.refl _ _).putI (by simp)).putI (by simp)
        refine hQ _ (mN2 ch L e (mN1 ch L X)) (sC _ (s2.mono (by simp))) (w10 _ rfl).1 (w10 _ rfl).2 (xs.mono (by simp)) ⟨mS, xf⟩ (cnt _ _ y00 x12 x13)
          ⟨e + 1, iLg _ _ rfl rfl rfl rfl rfl, ?_, iTp _ _ rfl (yc 16 (by decide) (by decide)) (yc 15 (by decide) (by decide)) (yc 18 (by decide) (by decide)) (yc 17 (by decide) (by decide)) rfl x20 (xs 47 (by decide)).1 (xs 44 (by decide)).1 (xs 45 (by decide)).1 (xs 46 (by decide)).1 (fun _ _ _ j _ => congrFun (xs 48 (by decide)).1 j)⟩ (nat_no he2 (fun x => by omega))
        refine IClash_add (M := mix C X) iCl he2 g12 (fun k _ hk => ?_) ?_ ?_
        · show (putI (putI N3 14 e (nI (clN (N3.1 12) e))) 13 1 (N3.1 13 1 + nI (clN (N3.1 12) e))).1 14 k = C.1 14 k
          rw [putI_ne1 (by omega), putI_at, if_neg (fun x => hk x.2), yc 14 (by decide) (by decide)]
        · show (putI (putI N3 14 e (nI (clN (N3.1 12) e))) 13 1 (N3.1 13 1 + nI (clN (N3.1 12) e))).1 14 e = nI (clN (N3.1 12) e)
          rw [putI_ne1 (by omega), putI_at, if_pos ⟨rfl, rfl⟩]
        · show N3.1 13 1 + nI (clN (N3.1 12) e) = C.1 13 1 + nI (clN (N3.1 12) e)
          rw [yc 13 (by decide) (by decide)]
  unfold P_Sv_readFrame
  refine P_readFrom hc h5 hL hb (fun N1 s1 k1 k2 k3 => ?_)
  unfold P_Telling_kind
  try dsimp only
  have e0 : N1.1 0 = C.1 0 := (s1 0 (by decide)).1
  have hs2 : Same [0, 7, 8] C (putI N1 0 11 (N1.1 0 11 + 1)) := (s1.mono (by simp)).putI (by simp)
  rw [show (putI N1 0 11 (N1.1 0 11 + 1)).1 7 1 = N1.1 7 1 from rfl, show (putI N1 0 11 (N1.1 0 11 + 1)).1 0 12 = N1.1 0 12 from rfl, k1]
  refine ⟨fun hk => tail _ hs2 ?_ ?_ ?_ k1 k2 k3, fun hk => tail _ (hs2.putI (by simp)) ?_ ?_ ?_ k1 k2 k3⟩
  · show N1.1 0 10 = _
    rw [e0]
  · show N1.1 0 11 + 1 = _
    rw [e0]
  · show N1.1 0 12 = _
    cases hf : fB (C.1 (c + 1)) 0 L
    · exact absurd (by unfold rK; rw [hf]; rfl) hk
    · rw [e0]; rfl
  · show N1.1 0 10 = _
    rw [e0]
  · show N1.1 0 11 + 1 = _
    rw [e0]
  · show N1.1 0 12 + 1 = _
    cases hf : fB (C.1 (c + 1)) 0 L
    · rw [e0]; rfl
    · have h1 := (fB_rng hf).2
      unfold rK at hk
      rw [hf] at hk
      have := (nI_eq (b := 0) (by omega) (by omega)).mp hk
      omega
