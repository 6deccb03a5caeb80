/-! hear -/
def HI (B : Mem) (ch c och oc k u i : Nat) (C X : Mem) : Prop :=
  Hi B C ∧ X.1 35 2 = 0 ∧ (C.1 1 1 = nI u ∧ ∀ j, j < u → X.1 36 j = C.1 2 j &&& 255) ∧ (∃ o, o ≤ 3200 * k + i ∧ E2o ch c o C X) ∧ (∃ o, o ≤ 3200 * k ∧ E2o och oc o C X) ∧ C.1 c 4 + C.1 oc 4 = X.1 35 8 ∧
  INow (mix C X) ∧ ICount (mix C X) ∧ ILogs (mix C X) ∧ IOut (mix C X) ∧ IPart (mix C X) ∧ IMeet (mix C X)
theorem HI.step {B C X N X' : Mem} {ch c och oc k u i o' : Nat} (hcc : (ch = 0 ∧ c = 3 ∧ och = 1 ∧ oc = 5) ∨ (ch = 1 ∧ c = 5 ∧ och = 0 ∧ oc = 3)) (h : HI B ch c och oc k u i C X) (kb : KB c ch C X N X') (ho : o' ≤ 3200 * k + i + 1) (E : E2o ch c o' N X') (iC : ICount (mix N X')) (iL : ILogs (mix N X')) : HI B ch c och oc k u (i + 1) N X' := by
  obtain ⟨h1, h2, ⟨h3, h4⟩, -, ⟨o, ho2, f1, f2, f3, f4, f5, f6, f7⟩, h6, h7, -, -, h8, h9, h10⟩ := h
  obtain ⟨⟨a1, a2⟩, ⟨a3, a4⟩, a5, a6, a7, a8⟩ := kb
  have hoc : c < 35 ∧ oc < 35 ∧ och ≠ ch ∧ och < 2 ∧ ch < 2 := by omega
  have zc : ∀ n, n ∉ [0, c, c + 1, 7, 8, 11, 12, 13, 14, 15, 16, 17, 18, 19] → N.1 n = C.1 n := fun n hn => (a1 n hn).1
  have zl : ∀ n, n ∉ [0, c, c + 1, 7, 8, 11, 12, 13, 14, 15, 16, 17, 18, 19] → N.2 n = C.2 n := fun n hn => (a1 n hn).2
  have zm : ∀ n, n ∉ [35, 37, 38, 39, 40, 41, 42, 43, 44, 45, 46, 47, 48] → X'.1 n = X.1 n := fun n hn => (a3 n hn).1
  have oc1 : N.1 oc = C.1 oc := zc oc (by simp; omega)
  have oc2 : N.1 (oc + 1) = C.1 (oc + 1) := zc (oc + 1) (by simp; omega)
  refine ⟨fun d hd => ?_, ?_, ⟨?_, ?_⟩, ⟨o', by omega, E⟩, ⟨o, ho2, ?_⟩, ?_, ?_, iC, iL, ?_, ?_, ?_⟩
  · have := a1 d (by simp; omega)
    exact ⟨this.1.trans (h1 d hd).1, this.2.trans (h1 d hd).2⟩
  · rw [a4 2 (by omega) (by omega) (by omega) (by omega) (by omega)]; exact h2
  · rw [zc 1 (by simp; omega)]; exact h3
  · rw [zc 2 (by simp; omega), zm 36 (by simp)]; exact h4
  · unfold E2o
    rw [oc1, oc2, a5 37 och (by omega) (by omega), a5 38 och (by omega) (by omega), a5 39 och (by omega) (by omega)]
    refine ⟨f1, f2, f3, f4, f5, f6, ?_⟩
    rcases f7 with f7 | ⟨p, p1, p2, p3⟩
    · exact Or.inl f7
    · refine Or.inr ⟨p, p1, p2, fun j hj => ?_⟩
      rw [a6 _ (by omega)]
      exact p3 j hj
  · rw [oc1]; exact a7 _ h6
  · exact INow.congr (M := mix C X) h7 a2 (a4 7 (by omega) (by omega) (by omega) (by omega) (by omega))
  · exact IOut.congr (M := mix C X) h8 (congrFun (zc 9 (by simp; omega)) 1) (a4 23 (by omega) (by omega) (by omega) (by omega) (by omega)) (zm 49 (by simp)) (zc 10 (by simp; omega))
  · exact IPart.congr (M := mix C X) h9 (congrFun (zc 20 (by simp; omega)) 4) (a4 37 (by omega) (by omega) (by omega) (by omega) (by omega)) (zc 31 (by simp; omega)) (zm 51 (by simp)) (zc 32 (by simp; omega)) (zm 56 (by simp)) (zc 33 (by simp; omega)) (zm 55 (by simp)) (congrFun (zl 20 (by simp; omega)) 6) (congrFun (congrFun a8 35) 38)
  · exact IMeet.congr (M := mix C X) h10 (congrFun (zc 34 (by simp; omega)) 0) (a4 43 (by omega) (by omega) (by omega) (by omega) (by omega))
theorem hear_loop0 {B : Mem} {k u : Nat} {v2 : Int32} {Q : Int32 → Mem → Prop} (hu : u ≤ 400) (hk : k ≤ 600000) :
    ∀ d i, i + d = 8 * u → ∀ (C X : Mem) (cnt : Int32), HI B 0 3 1 5 k u i C X → C.1 0 11 = v2 + cnt →
    (∀ (N X' : Mem) (cnt' : Int32), HI B 0 3 1 5 k u (8 * u) N X' → N.1 0 11 = v2 + cnt' → (∀ (A : Mem) (R : Int32 → Mem → Prop), R cnt' (mix A X') → P_Mo_hear_31 R (d + 1) 0 (nI u) cnt (nI i) (mix A X)) → Q (N.1 0 11 - v2) (putI N 1 1 0)) →
    P_Sv_hear_47_5 Q (d + 1) 0 v2 (nI (8 * u)) (nI i) C := by
  intro d
  induction d with
  | zero =>
    intro i hi C X cnt h h11 hQ
    have : i = 8 * u := by omega
    subst this
    unfold P_Sv_hear_47_5 P_Tape_cutTo
    have u1 : C.1 1 1 = nI u := h.2.2.1.1
    refine br_T (nI_le (by omega) (by omega)) (br_F (by decide) (br_T (by rw [u1]; exact nI_le (a := 0) (by omega) (by omega)) (hQ C X cnt h h11 (fun A R hR => ?_))))
    unfold P_Mo_hear_31
    rw [show (8 : Int32) * nI u = nI (8 * u) from pk_mul 8 u]
    exact br_T (nI_le (by omega) (by omega)) hR
  | succ d ih =>
    intro i hi C X cnt h h11 hQ
    have h' := h
    obtain ⟨h1, h2, ⟨u1, u2⟩, ⟨o, ho, E⟩, h5, h6, h7, h8, h9, h10⟩ := h'
    have etb : tb (X.1 36) i = tb (C.1 2) i := tb_congr (u2 _ (by omega))
    unfold P_Sv_hear_47_5
    refine br_F (nI_ge (by omega) (by omega)) (P_levelAt u1 hu (by omega) ?_)
    rw [nI_1]
    refine level_step (Q := fun M9 => P_Sv_hear_47_5 Q (d + 1) 0 v2 (nI (8 * u)) (nI (i + 1)) M9) (c := 3) (ch := 0) (o := o) (by omega) (by omega) (by omega) (tb_bit _ _) E h7 h8 h9 (fun N X' r o' hr ho' EN kb e11 iC iL hm => ?_)
    have hN : HI B 0 3 1 5 k u (i + 1) N X' := h.step (by omega) kb (by omega) EN iC iL
    refine ih (i + 1) (by omega) N X' (cnt + r) hN (by rw [e11, h11, Int32.add_assoc]) (fun N2 X2 cnt' hI e2 hm2 => hQ N2 X2 cnt' hI e2 (fun A R hR => ?_))
    have g := hm2 A R hR
    unfold P_Mo_hear_31
    rw [show (8 : Int32) * nI u = nI (8 * u) from pk_mul 8 u, show nI i / 8 = nI (i / 8) from pk_div (d := 8) (by omega) (by omega) (by omega), show nI i - nI (i / 8) * 8 = nI (i % 8) by rw [← pk_rem (d := 8) (by omega) (by omega) (by omega), pk_div (d := 8) (by omega) (by omega) (by omega)]; rfl, cl_nI (n := i / 8) (by omega)]
    have et : ((mix A X).1 36 (i / 8) >>> ((7 - nI (i % 8)) &&& 31)) &&& 1 = tb (C.1 2) i := etb
    rw [et]
    have e37 : (mix A X).1 37 (Int32.toNatClampNeg 0) = X.1 37 0 := rfl
    rw [e37]
    have k79 : ∀ s0 : Int32, s0 = (if tb (C.1 2) i = X.1 37 0 then 1 else 0) → P_Mo_hear_79 (fun v1 v2 v3 v4 M => P_Mo_hear_31 R (d + 1) v1 v2 v3 v4 M) R 0 (nI u) cnt (nI i) (tb (C.1 2) i) s0 (mix A X) := fun s0 hs => by
      unfold P_Mo_hear_79
      refine ⟨in_nI (n := 0) (by omega) (by omega), ?_⟩
      rw [show (Int32.toNatClampNeg 0) = 0 from rfl, mix_putI (by omega), hs]
      refine hm A _ ?_
      rw [nI_1]
      rcases hr with rfl | rfl
      · refine br_T rfl ?_
        rw [Int32.add_zero] at g
        exact g
      · exact br_F (by decide) g
    refine br_F (nI_ge (by omega) (by omega)) ⟨in_nI (by omega) (by omega), in_nI (n := 0) (by omega) (by omega), fun hl => k79 0 (by rw [if_neg hl]), fun hl => k79 1 (by rw [if_pos hl])⟩
theorem hear_loop1 {B : Mem} {k u : Nat} {v2 : Int32} {Q : Int32 → Mem → Prop} (hu : u ≤ 400) (hk : k ≤ 600000) :
    ∀ d i, i + d = 8 * u → ∀ (C X : Mem) (cnt : Int32), HI B 1 5 0 3 k u i C X → C.1 0 11 = v2 + cnt →
    (∀ (N X' : Mem) (cnt' : Int32), HI B 1 5 0 3 k u (8 * u) N X' → N.1 0 11 = v2 + cnt' → (∀ (A : Mem) (R : Int32 → Mem → Prop), R cnt' (mix A X') → P_Mo_hear_31 R (d + 1) 1 (nI u) cnt (nI i) (mix A X)) → Q (N.1 0 11 - v2) (putI N 1 1 0)) →
    P_Sv_hear_47 Q (d + 1) 1 v2 (nI (8 * u)) (nI i) C := by
  intro d
  induction d with
  | zero =>
    intro i hi C X cnt h h11 hQ
    have : i = 8 * u := by omega
    subst this
    unfold P_Sv_hear_47 P_Tape_cutTo
    have u1 : C.1 1 1 = nI u := h.2.2.1.1
    refine br_T (nI_le (by omega) (by omega)) (br_F (by decide) (br_T (by rw [u1]; exact nI_le (a := 0) (by omega) (by omega)) (hQ C X cnt h h11 (fun A R hR => ?_))))
    unfold P_Mo_hear_31
    rw [show (8 : Int32) * nI u = nI (8 * u) from pk_mul 8 u]
    exact br_T (nI_le (by omega) (by omega)) hR
  | succ d ih =>
    intro i hi C X cnt h h11 hQ
    have h' := h
    obtain ⟨h1, h2, ⟨u1, u2⟩, ⟨o, ho, E⟩, h5, h6, h7, h8, h9, h10⟩ := h'
    have etb : tb (X.1 36) i = tb (C.1 2) i := tb_congr (u2 _ (by omega))
    unfold P_Sv_hear_47
    refine br_F (nI_ge (by omega) (by omega)) (P_levelAt u1 hu (by omega) ?_)
    rw [nI_1]
    refine level_step (Q := fun M9 => P_Sv_hear_47 Q (d + 1) 1 v2 (nI (8 * u)) (nI (i + 1)) M9) (c := 5) (ch := 1) (o := o) (by omega) (by omega) (by omega) (tb_bit _ _) E h7 h8 h9 (fun N X' r o' hr ho' EN kb e11 iC iL hm => ?_)
    have hN : HI B 1 5 0 3 k u (i + 1) N X' := h.step (by omega) kb (by omega) EN iC iL
    refine ih (i + 1) (by omega) N X' (cnt + r) hN (by rw [e11, h11, Int32.add_assoc]) (fun N2 X2 cnt' hI e2 hm2 => hQ N2 X2 cnt' hI e2 (fun A R hR => ?_))
    have g := hm2 A R hR
    unfold P_Mo_hear_31
    rw [show (8 : Int32) * nI u = nI (8 * u) from pk_mul 8 u, show nI i / 8 = nI (i / 8) from pk_div (d := 8) (by omega) (by omega) (by omega), show nI i - nI (i / 8) * 8 = nI (i % 8) by rw [← pk_rem (d := 8) (by omega) (by omega) (by omega), pk_div (d := 8) (by omega) (by omega) (by omega)]; rfl, cl_nI (n := i / 8) (by omega)]
    have et : ((mix A X).1 36 (i / 8) >>> ((7 - nI (i % 8)) &&& 31)) &&& 1 = tb (C.1 2) i := etb
    rw [et]
    have e37 : (mix A X).1 37 (Int32.toNatClampNeg 1) = X.1 37 1 := rfl
    rw [e37]
    have k79 : ∀ s0 : Int32, s0 = (if tb (C.1 2) i = X.1 37 1 then 1 else 0) → P_Mo_hear_79 (fun v1 v2 v3 v4 M => P_Mo_hear_31 R (d + 1) v1 v2 v3 v4 M) R 1 (nI u) cnt (nI i) (tb (C.1 2) i) s0 (mix A X) := fun s0 hs => by
      unfold P_Mo_hear_79
      refine ⟨in_nI (n := 1) (by omega) (by omega), ?_⟩
      rw [show (Int32.toNatClampNeg 1) = 1 from rfl, mix_putI (by omega), hs]
      refine hm A _ ?_
      rw [nI_1]
      rcases hr with rfl | rfl
      · refine br_T rfl ?_
        rw [Int32.add_zero] at g
        exact g
      · exact br_F (by decide) g
    refine br_F (nI_ge (by omega) (by omega)) ⟨in_nI (by omega) (by omega), in_nI (n := 1) (by omega) (by omega), fun hl => k79 0 (by rw [if_neg hl]), fun hl => k79 1 (by rw [if_pos hl])⟩
theorem op_hear {k : Nat} {M : Mem} {K : Mem → Prop} (hk : k ≤ 600000) (h : Inv k M) (a : Int32) (hK : ∀ N, Inv (k + 1) N → K N) : P_Sv_hear a M fun r M1 => P_Mo_hear a M1 fun r2 M2 => (r = r2 → K M2) ∧ (¬ r = r2 → (0 : Int32) = 1) := by
  have h' := h
  obtain ⟨⟨u, hu, t1, t2, t3⟩, a2, a3, a4, a5, a6, a7, a8, a9, a10⟩ := h'
  obtain ⟨p1, p2, ⟨po, p3, p4, p5, p6⟩, p7, p8⟩ := a3
  obtain ⟨q1, q2, ⟨qo, q3, q4, q5, q6⟩, q7, q8⟩ := a4
  have X0 : INow (mix M (putI (putI M 35 0 0) 35 2 0)) ∧ ICount (mix M (putI (putI M 35 0 0) 35 2 0)) ∧ ILogs (mix M (putI (putI M 35 0 0) 35 2 0)) ∧ IOut (mix M (putI (putI M 35 0 0) 35 2 0)) ∧ IPart (mix M (putI (putI M 35 0 0) 35 2 0)) ∧ IMeet (mix M (putI (putI M 35 0 0) 35 2 0)) :=
    ⟨a2.congr rfl rfl, a6.congr rfl rfl rfl rfl, a7.congr rfl rfl rfl rfl (Int.le_refl _) rfl rfl rfl rfl rfl rfl rfl rfl rfl rfl rfl rfl rfl, a8.congr rfl rfl rfl rfl, a9.congr rfl rfl rfl rfl rfl rfl rfl rfl rfl rfl, a10.congr rfl rfl⟩
  have E0 : E2o 0 3 po M (putI (putI M 35 0 0) 35 2 0) := ⟨p1, p2, p4, p5, p6, p7, p8⟩
  have E1 : E2o 1 5 qo M (putI (putI M 35 0 0) 35 2 0) := ⟨q1, q2, q4, q5, q6, q7, q8⟩
  have fin : ∀ (N X' : Mem) (k1 k2 : Nat), k1 ≤ 3200 * k + 8 * u → k2 ≤ 3200 * k + 8 * u → Hi M N → X'.1 35 2 = 0 → E2o 0 3 k1 N X' → E2o 1 5 k2 N X' → N.1 3 4 + N.1 5 4 = X'.1 35 8 → INow (mix N X') → ICount (mix N X') → ILogs (mix N X') → IOut (mix N X') → IPart (mix N X') → IMeet (mix N X') → Inv (k + 1) (mix (putI N 1 1 0) X') := fun N X' k1 k2 hk1 hk2 c1 c2 c3 c4 c5 c6 c7 c8 c9 c10 c11 => by
    refine ⟨⟨0, by omega, rfl, c2, fun j hj => absurd hj (Nat.not_lt_zero _)⟩, c6.congr rfl rfl, ?_, ?_, c5, c7.congr rfl rfl rfl rfl, c8.congr rfl rfl rfl rfl (Int.le_refl _) rfl rfl rfl rfl rfl rfl rfl rfl rfl rfl rfl rfl rfl, c9.congr rfl rfl rfl rfl, c10.congr rfl rfl rfl rfl rfl rfl rfl rfl rfl rfl, c11.congr rfl rfl⟩
    · obtain ⟨f1, f2, f3, f4, f5, f6, f7⟩ := c3
      exact ⟨f1, f2, ⟨k1, by omega, f3, f4, f5⟩, f6, f7⟩
    · obtain ⟨f1, f2, f3, f4, f5, f6, f7⟩ := c4
      exact ⟨f1, f2, ⟨k2, by omega, f3, f4, f5⟩, f6, f7⟩
  have sub : ∀ x y : Int32, x + y - x = y := fun x y => by rw [Int32.add_comm, Int32.add_sub_cancel]
  have mo : ∀ (N X' : Mem) (ch : Nat) (cnt : Int32) (d : Nat), ch < 2 → Hi M N → N.1 0 11 = M.1 0 11 + cnt → (∀ (A : Mem) (R : Int32 → Mem → Prop), R cnt (mix A X') → P_Mo_hear_31 R (d + 1) (nI ch) (nI u) 0 (nI 0) (mix A (putI (putI M 35 0 0) 35 2 0))) → Inv (k + 1) (mix (putI N 1 1 0) X') → P_Mo_hear (nI ch) (putI N 1 1 0) fun r2 M2 => (N.1 0 11 - M.1 0 11 = r2 → K M2) ∧ (¬ N.1 0 11 - M.1 0 11 = r2 → (0 : Int32) = 1) := fun N X' ch cnt d hch c1 c2 c3 c4 => by
    rw [c2, sub]
    have hm : putI N 1 1 0 = mix (putI N 1 1 0) M := hi_mix (c1.putI (by omega))
    rw [hm]
    unfold P_Mo_hear
    refine br_F (nI_pos (by omega)) (br_T (nI_le (b := 1) (by omega) (by omega)) ⟨d + 1, ?_⟩)
    rw [show (mix (putI N 1 1 0) M).1 35 2 = nI u from t2, mix_putI (by omega), mix_putI (by omega)]
    refine c3 (putI N 1 1 0) _ ?_
    exact res_eq rfl (hK _ c4)
  unfold P_Sv_hear P_Sv_hear_11 P_Sv_hear_31 P_Sv_hear_31_4 P_Tape_length
  dsimp only
  rw [t1, show nI u * 8 = nI (8 * u) by rw [show (8 : Int32) = nI 8 from rfl, pk_mul, Nat.mul_comm]]
  refine ⟨fun h0 => br_T' h0 ⟨8 * u + 1, ?_⟩, fun h0 => ⟨fun h1 => br_F' h0 ⟨8 * u + 1, ?_⟩, fun h1 => ?_⟩⟩
  · subst h0
    refine hear_loop0 (B := M) (k := k) hu hk (8 * u) 0 (by omega) M (putI (putI M 35 0 0) 35 2 0) 0 ⟨Hi.refl M, rfl, ⟨t1, t3⟩, ⟨po, by omega, E0⟩, ⟨qo, by omega, E1⟩, a5, X0⟩ (by rw [Int32.add_zero]) (fun N X' cnt hI e11 hm => ?_)
    obtain ⟨h1, h2, -, ⟨o1, ho1, EA⟩, ⟨o2, ho2, EB⟩, h6, h7, h8, h9, h10, h11, h12⟩ := hI
    exact mo N X' 0 cnt (8 * u) (by omega) h1 e11 hm (fin N X' o1 o2 (by omega) (by omega) h1 h2 EA EB h6 h7 h8 h9 h10 h11 h12)
  · subst h1
    refine hear_loop1 (B := M) (k := k) hu hk (8 * u) 0 (by omega) M (putI (putI M 35 0 0) 35 2 0) 0 ⟨Hi.refl M, rfl, ⟨t1, t3⟩, ⟨qo, by omega, E1⟩, ⟨po, by omega, E0⟩, (Int32.add_comm _ _).trans a5, X0⟩ (by rw [Int32.add_zero]) (fun N X' cnt hI e11 hm => ?_)
    obtain ⟨h1, h2, -, ⟨o1, ho1, EA⟩, ⟨o2, ho2, EB⟩, h6, h7, h8, h9, h10, h11, h12⟩ := hI
    exact mo N X' 1 cnt (8 * u) (by omega) h1 e11 hm (fin N X' o2 o1 (by omega) (by omega) h1 h2 EB EA ((Int32.add_comm _ _).trans h6) h7 h8 h9 h10 h11 h12)
  · unfold P_Mo_hear
    refine ⟨fun _ => res_eq rfl (hK _ (h.thrown 0)), fun hn => br_F (fun hl => ?_) (res_eq rfl (hK _ (h.thrown 0)))⟩
    rw [i_eq, show (0 : Int32).toInt = 0 by decide] at h0
    rw [i_eq, show (1 : Int32).toInt = 1 by decide] at h1
    rw [i_lt, show (0 : Int32).toInt = 0 by decide] at hn
    rw [i_le, show (1 : Int32).toInt = 1 by decide] at hl
    omega
