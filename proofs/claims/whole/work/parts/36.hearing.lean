/-! a piece ends -/
theorem E2o.cut {ch c o : Nat} {C X N Y : Mem} (ho : o < 7) (E : E2o ch c o C X) (h1 : N.1 c 1 = C.1 c 1) (h2 : N.1 c 2 = C.1 c 2) (h3 : N.1 c 3 = 0) (x37 : Y.1 37 ch = X.1 37 ch) (x38 : Y.1 38 ch = X.1 38 ch) (x39 : Y.1 39 ch = 0) : E2o ch c o N Y := by
  obtain ⟨e1, e2, e3, e4, e5, e6, e7⟩ := E
  unfold E2o
  rw [h1, h2, h3, x37, x38, x39]
  exact ⟨e1, e2, e3, e4, fun x => absurd x (by omega), rfl, Or.inr ⟨0, by omega, rfl, fun j hj => absurd hj (Nat.not_lt_zero _)⟩⟩
theorem KB.rf {c ch : Nat} {C X N X' : Mem} (hc : c = 3 ∨ c = 5) (a1 : Same [0, 7, 8, 11, 12, 13, 14, 15, 16, 17, 18, 19] C N) (a2 : N.1 0 10 = C.1 0 10) (a3 : Same [35, 41, 42, 43, 44, 45, 46, 47, 48] X X')
    (a5 : X'.2 = X.2 ∧ ∀ f, f ≠ 11 → f ≠ 12 → f ≠ 13 → f ≠ 20 → X'.1 35 f = X.1 35 f) : KB c ch C X N X' := by
  obtain ⟨a5, a4⟩ := a5
  have n : ∀ d, d ≠ 0 → d < 7 → N.1 d = C.1 d := fun d h1 h2 => (a1 d (by simp; omega)).1
  have m : ∀ d, 35 < d → d < 41 → X'.1 d = X.1 d := fun d h1 h2 => (a3 d (by simp; omega)).1
  refine ⟨⟨a1.mono (by simp), a2⟩, ⟨a3.mono (by simp), fun f _ f2 f3 f4 f5 => a4 f f2 f3 f4 f5⟩, fun a i ha _ => by rw [m a (by omega) (by omega)], fun j _ => by rw [m 40 (by omega) (by omega)], fun v hv => ?_, a5⟩
  rw [n c (by omega) (by omega), a4 8 (by omega) (by omega) (by omega) (by omega)]
  exact hv
theorem end_step {c ch o : Nat} {C X : Mem} {Q : Mem → Prop} (hc : c = 3 ∨ c = 5) (hch : ch < 2) (ho : o < 7) (E : E2o ch c o C X)
    (iN : INow (mix C X)) (iC : ICount (mix C X)) (iL : ILogs (mix C X))
    (hQ0 : ∀ N X', E2o ch c o N X' → KF c ch C X N X' → (∀ (A : Mem) (R : Int32 → Mem → Prop), R 0 (mix A X') → P_Mo_ends (nI ch) (X.1 39 ch - 6) (mix A X) (fun r4 M3 => R r4 (putI M3 39 ch 0))) → Q N)
    (hQ1 : ∀ N X', E2o ch c o N X' → KB c ch C X N X' → N.1 0 11 = C.1 0 11 + 1 → ICount (mix N X') → ILogs (mix N X') → (∀ (A : Mem) (R : Int32 → Mem → Prop), R 1 (mix A X') → P_Mo_ends (nI ch) (X.1 39 ch - 6) (mix A X) (fun r4 M3 => R r4 (putI M3 39 ch 0))) → Q N) :
    P_Ear_endPiece c C fun r4 M3 => (r4 = 0 → Q M3) ∧ (¬ r4 = 0 → P_Sv_readFrame c (nI ch) M3 fun M9 => Q M9) := by
  have E' := E
  obtain ⟨e1, e2, e3, e4, e5, e6, e7⟩ := E
  unfold P_Ear_endPiece
  have short : ¬ 24 ≤ C.1 c 3 - 6 → Q (putI C c 3 0) := fun h => by
    refine hQ0 _ (putI X 39 ch 0) (E'.cut ho ?_ ?_ putI_same ?_ ?_ putI_same) ((KF.ear (by omega)).trans (KF.mo (by omega))) (fun A R hR => ?_)
    · rw [putI_at, if_neg (by omega)]
    · rw [putI_at, if_neg (by omega)]
    · rw [putI_ne1 (by omega)]
    · rw [putI_ne1 (by omega)]
    · unfold P_Mo_ends
      refine br_F (by rw [e6]; exact h) ?_
      show R 0 (putI (mix A X) 39 ch 0)
      rw [mix_putI (by omega)]
      exact hR
  rcases e7 with e7 | ⟨p, hp, p1, p2⟩
  · have h : ¬ 24 ≤ C.1 c 3 - 6 := by rw [e7]; decide
    exact br_F h (br_T rfl (short h))
  · by_cases h30 : p < 30
    · have h : ¬ 24 ≤ C.1 c 3 - 6 := by
        rw [p1, i_le, i_sub (by rw [i_nI (by omega), show (6 : Int32).toInt = 6 by decide]; omega) (by rw [i_nI (by omega), show (6 : Int32).toInt = 6 by decide]; omega), i_nI (by omega), show (6 : Int32).toInt = 6 by decide, show (24 : Int32).toInt = 24 by decide]
        omega
      exact br_F h (br_T rfl (short h))
    · have s6 : nI p - 6 = nI (p - 6) := pk_sub (b := 6) (by omega)
      have s16 : nI (p - 6) - 16 = nI (p - 22) := by rw [show (16 : Int32) = nI 16 from rfl, pk_sub (by omega)]; congr 1
      have m39 : X.1 39 ch - 6 = nI (p - 6) := by rw [e6, p1, s6]
      rw [p1, s6, s16]
      refine br_T (nI_le (a := 24) (by omega) (by omega)) ?_
      have cb : (putI (putI C c 3 0) c 5 (nI (p - 22))).1 (c + 1) = C.1 (c + 1) := by rw [putI_ne1 (by omega), putI_ne1 (by omega)]
      have cf : ∀ f, f ≠ 3 → f ≠ 5 → (putI (putI C c 3 0) c 5 (nI (p - 22))).1 c f = C.1 c f := fun f f1 f2 => by rw [putI_at, if_neg (fun x => f2 x.2), putI_at, if_neg (fun x => f1 x.2)]
      have c3 : (putI (putI C c 3 0) c 5 (nI (p - 22))).1 c 3 = 0 := by rw [putI_at, if_neg (by omega), putI_same]
      have hB : BitsOk (C.1 (c + 1)) 0 (p - 22 + 16) := fun j hj => by rw [Nat.zero_add]; exact (p2 j (by omega)).2
      have hBm : BitsOk (X.1 40) (300 * ch) (p - 6) := fun j hj => by rw [(p2 j (by omega)).1]; exact (p2 j (by omega)).2
      have hO : okC (X.1 40) (300 * ch) (p - 22) ↔ okC (C.1 (c + 1)) 0 (p - 22) := okC_congr (fun j hj => by rw [Nat.zero_add]; exact (p2 j (by omega)).1)
      have k0 : KF c ch C X (putI (putI C c 3 0) c 5 (nI (p - 22))) X := (KF.ear (by omega)).trans (KF.ear (by omega))
      refine P_isChecked (L := p - 22) putI_same (by omega) (by rw [cb]; exact hB) (fun hok => ?_) (fun hok => ?_)
      · rw [cb] at hok
        refine br_F (by decide) (br_F (by decide) ?_)
        have sm : Same [c, c + 1] C (putI (putI C c 3 0) c 5 (nI (p - 22))) := k0.1
        refine rf_note (X := X) (L := p - 22) hc hch (by omega) (by omega) putI_same (by rw [cb]; exact fun j hj => hB j (by omega)) (fun j hj => by rw [cb]; exact (p2 j (by omega)).1) ?_ ?_ ?_ (fun N X' a1 a2 a3 a4 a5 a6 a7 a8 => ?_)
        · exact INow.congr (M := mix C X) iN (by show (putI (putI C c 3 0) c 5 (nI (p - 22))).1 0 10 = C.1 0 10; rw [(sm 0 (by simp; omega)).1]) rfl
        · exact ICount.congr (M := mix C X) iC (by show (putI (putI C c 3 0) c 5 (nI (p - 22))).1 0 11 = C.1 0 11; rw [(sm 0 (by simp; omega)).1]) rfl (by show (putI (putI C c 3 0) c 5 (nI (p - 22))).1 0 12 = C.1 0 12; rw [(sm 0 (by simp; omega)).1]) rfl
        · have zc : ∀ n, 7 ≤ n → (putI (putI C c 3 0) c 5 (nI (p - 22))).1 n = C.1 n := fun n hn => (sm n (by simp; omega)).1
          exact ILogs.congr (M := mix C X) iL (congrFun (zc 11 (by omega)) 1) rfl rfl (zc 12 (by omega)) (by show (C.1 0 10).toInt ≤ ((putI (putI C c 3 0) c 5 (nI (p - 22))).1 0 10).toInt; rw [(sm 0 (by simp; omega)).1]; exact Int.le_refl _) (zc 14 (by omega)) (congrFun (zc 13 (by omega)) 1) (zc 16 (by omega)) rfl (congrFun (zc 15 (by omega)) 4) rfl (zc 18 (by omega)) rfl rfl rfl rfl (zc 17 (by omega)) rfl
        · have kr : KB c ch (putI (putI C c 3 0) c 5 (nI (p - 22))) X N X' := KB.rf hc a1 a2 a4 a5
          have nc : N.1 c = (putI (putI C c 3 0) c 5 (nI (p - 22))).1 c := (a1 c (by simp; omega)).1
          have xm : ∀ n, 36 ≤ n → n < 41 → X'.1 n = X.1 n := fun n h1 h2 => (a4 n (by simp; omega)).1
          refine hQ1 N (putI X' 39 ch 0) (E'.cut ho (by rw [nc, cf 1 (by omega) (by omega)]) (by rw [nc, cf 2 (by omega) (by omega)]) (by rw [nc, c3]) (by rw [putI_ne1 (by omega), xm 37 (by omega) (by omega)]) (by rw [putI_ne1 (by omega), xm 38 (by omega) (by omega)]) putI_same) (((k0.kb hc).trans kr).trans ((KF.mo (by omega)).kb hc)) ?_ ?_ ?_ (fun A R hR => ?_)
          · rw [a3, (sm 0 (by simp; omega)).1]
          · exact ICount.congr (M := mix N X') a6 rfl rfl rfl rfl
          · exact ILogs.congr (M := mix N X') a7 rfl rfl rfl rfl (Int.le_refl _) rfl rfl rfl rfl rfl rfl rfl rfl rfl rfl rfl rfl rfl
          · rw [m39]
            refine P_moends (M := mix A X) hch (by omega) (by omega) hBm (fun _ => ?_) (fun hn => absurd (by rw [show p - 6 - 16 = p - 22 by omega]; exact hO.mpr hok) hn)
            rw [show p - 6 - 16 = p - 22 by omega]
            refine a8 A _ ?_
            rw [mix_putI (by omega)]
            exact hR
      · rw [cb] at hok
        refine br_T rfl (br_T rfl ?_)
        refine hQ0 _ (putI (putI X 35 8 (X.1 35 8 + 1)) 39 ch 0) (E'.cut ho ?_ ?_ ?_ ?_ ?_ putI_same) ((k0.trans KF.torn).trans (KF.mo (by omega))) (fun A R hR => ?_)
        · rw [putI_at, if_neg (by omega), cf 1 (by omega) (by omega)]
        · rw [putI_at, if_neg (by omega), cf 2 (by omega) (by omega)]
        · rw [putI_at, if_neg (by omega), c3]
        · rw [putI_ne1 (by omega), putI_ne1 (by omega)]
        · rw [putI_ne1 (by omega), putI_ne1 (by omega)]
        · rw [m39]
          refine P_moends (M := mix A X) hch (by omega) (by omega) hBm (fun hn => absurd (by rw [show p - 6 - 16 = p - 22 by omega] at hn; exact hO.mp hn) hok) (fun _ => ?_)
          rw [mix_putI (by omega), mix_putI (by omega)]
          exact hR
/-! one level -/
theorem level_step {c ch o : Nat} {C X : Mem} {lv : Int32} {Q : Mem → Prop} (hc : c = 3 ∨ c = 5) (hch : ch < 2) (ho : o < 2000000000) (hlv : lv = 0 ∨ lv = 1) (E : E2o ch c o C X)
    (iN : INow (mix C X)) (iC : ICount (mix C X)) (iL : ILogs (mix C X))
    (hQ : ∀ N X' (r : Int32) (o' : Nat), (r = 0 ∨ r = 1) → o' ≤ o + 1 → E2o ch c o' N X' → KB c ch C X N X' → N.1 0 11 = C.1 0 11 + r → ICount (mix N X') → ILogs (mix N X') → (∀ (A : Mem) (R : Int32 → Mem → Prop), R r (mix A X') → P_Mo_hears (nI ch) (if lv = X.1 37 ch then 1 else 0) (mix A (putI X 37 ch lv)) R) → Q N) :
    P_Ear_takeLevel c lv C fun r8 M7 => (r8 = 0 → Q M7) ∧ (¬ r8 = 0 → P_Sv_readFrame c (nI ch) M7 fun M9 => Q M9) := by
  have e37 : X.1 37 ch = C.1 c 1 := E.1
  have e38 : X.1 38 ch = nI o := E.2.2.1
  have e2 : C.1 c 2 = nI (min o 7) := E.2.2.2.1
  have E1 : E2o ch c o (putI C c 1 lv) (putI X 37 ch lv) := E.level hc hlv
  have k1 : KF c ch C X (putI C c 1 lv) (putI X 37 ch lv) := (KF.ear (by omega)).trans (KF.mo (by omega))
  have small : ∀ N X', KF c ch C X N X' → N.1 0 11 = C.1 0 11 + 0 ∧ INow (mix N X') ∧ ICount (mix N X') ∧ ILogs (mix N X') := fun N X' kf => by
    have zc : ∀ n, (n = 0 ∨ 7 ≤ n) → N.1 n = C.1 n := fun n hn => (kf.1 n (by simp; omega)).1
    have zm : ∀ n, 41 ≤ n → X'.1 n = X.1 n := fun n hn => (kf.2.1.1 n (by simp; omega)).1
    have zf := kf.2.1.2
    refine ⟨by rw [zc 0 (by omega), Int32.add_zero], INow.congr (M := mix C X) iN (congrFun (zc 0 (by omega)) 10) (zf 7 (by omega)), ICount.congr (M := mix C X) iC (congrFun (zc 0 (by omega)) 11) (zf 12 (by omega)) (congrFun (zc 0 (by omega)) 12) (zf 13 (by omega)), ?_⟩
    exact ILogs.congr (M := mix C X) iL (congrFun (zc 11 (by omega)) 1) (zf 11 (by omega)) (zm 41 (by omega)) (zc 12 (by omega)) (by show (C.1 0 10).toInt ≤ (N.1 0 10).toInt; rw [zc 0 (by omega)]; exact Int.le_refl _) (zc 14 (by omega)) (congrFun (zc 13 (by omega)) 1) (zc 16 (by omega)) (zm 42 (by omega)) (congrFun (zc 15 (by omega)) 4) (zf 20 (by omega)) (zc 18 (by omega)) (zm 47 (by omega)) (zm 44 (by omega)) (zm 45 (by omega)) (zm 46 (by omega)) (zc 17 (by omega)) (zm 48 (by omega))
  have done : ∀ N X' (o' : Nat), o' ≤ o + 1 → E2o ch c o' N X' → KF c ch C X N X' → (∀ (A : Mem) (R : Int32 → Mem → Prop), R 0 (mix A X') → P_Mo_hears (nI ch) (if lv = X.1 37 ch then 1 else 0) (mix A (putI X 37 ch lv)) R) → Q N := fun N X' o' h1 h2 h3 h4 =>
    hQ N X' 0 o' (Or.inl rfl) h1 h2 (h3.kb hc) (small N X' h3).1 (small N X' h3).2.2.1 (small N X' h3).2.2.2 h4
  unfold P_Ear_takeLevel
  by_cases hl : lv = C.1 c 1
  · have hl2 : lv = X.1 37 ch := by rw [e37]; exact hl
    rw [if_pos hl2] at done
    refine br_T' hl ?_
    unfold P_Ear_takeLevel_13
    refine br_F (by decide) (one_step hc hch ho E1 (fun N X' EN kf hm => br_T rfl (done N X' (o + 1) (by omega) EN (k1.trans kf) hm)))
  · have hl2 : ¬ lv = X.1 37 ch := by rw [e37]; exact hl
    rw [if_neg hl2] at done hQ
    refine br_F' hl ?_
    unfold P_Ear_takeLevel_13
    refine br_T rfl ?_
    rw [e2]
    have E2 : E2o ch c 0 (putI (putI C c 1 lv) c 2 0) (putI (putI X 37 ch lv) 38 ch 0) := E1.ones (o' := 0) hc (fun x => absurd x (by omega))
    have k2 : KF c ch C X (putI (putI C c 1 lv) c 2 0) (putI (putI X 37 ch lv) 38 ch 0) := k1.trans ((KF.ear (by omega)).trans (KF.mo (by omega)))
    have n10 : ¬ (0 : Int32) = 1 := by decide
    have mo : ∀ (A : Mem) (R : Int32 → Mem → Prop), (5 ≤ o → P_Mo_hears_74 R (nI ch) (nI o) (mix A (putI (putI X 37 ch lv) 38 ch 0))) → (o < 5 → P_Mo_put (nI ch) 0 (mix A (putI (putI X 37 ch lv) 38 ch 0)) fun M6 => P_Mo_hears_74 R (nI ch) (nI o) M6) → P_Mo_hears (nI ch) 0 (mix A (putI X 37 ch lv)) R := fun A R h1 h2 => by
      unfold P_Mo_hears
      refine br_F' n10 ?_
      rw [cl_nI (n := ch) (by omega)]
      have m38 : (mix A (putI X 37 ch lv)).1 38 ch = nI o := (show (putI X 37 ch lv).1 38 ch = nI o by rw [putI_ne1 (by omega)]; exact e38)
      rw [m38, mix_putI (by omega)]
      refine ⟨in_nI (by omega) (by omega), fun h => h1 ?_, fun h => h2 ?_⟩
      · exact (nle_of (e := 5) (by omega) (by omega)).mp h
      · rcases Nat.lt_or_ge o 5 with z | z
        · exact z
        · exact absurd ((nle_of (e := 5) (by omega) (by omega)).mpr z) h
    have h74 : o ≠ 6 → ∀ (Y : Mem) (R : Int32 → Mem → Prop), R 0 Y → P_Mo_hears_74 R (nI ch) (nI o) Y := fun h6 Y R hR => by
      unfold P_Mo_hears_74
      exact br_F (by rw [show (6 : Int32) = nI 6 from rfl, nI_eq (by omega) (by omega)]; exact h6) hR
    by_cases h6 : o = 6
    · subst h6
      refine br_T' (by decide) ?_
      have nat : ∀ (X' : Mem) (r : Int32), (∀ (A : Mem) (R : Int32 → Mem → Prop), R r (mix A X') → P_Mo_ends (nI ch) ((putI (putI X 37 ch lv) 38 ch 0).1 39 ch - 6) (mix A (putI (putI X 37 ch lv) 38 ch 0)) (fun r4 M3 => R r4 (putI M3 39 ch 0))) → ∀ (A : Mem) (R : Int32 → Mem → Prop), R r (mix A X') → P_Mo_hears (nI ch) 0 (mix A (putI X 37 ch lv)) R := fun X' r h A R hR =>
        mo A R (fun _ => by
          unfold P_Mo_hears_74
          rw [cl_nI (n := ch) (by omega)]
          exact br_T rfl ⟨in_nI (by omega) (by omega), h A R hR⟩) (fun x => absurd x (by omega))
      obtain ⟨-, s2, s3, s4⟩ := small _ _ k2
      refine end_step hc hch (by omega) E2 s2 s3 s4 (fun N X' EN kf hm => done N X' 0 (by omega) EN (k2.trans kf) (nat X' 0 hm)) (fun N X' EN kb h11 hC hL hm => hQ N X' 1 0 (Or.inr rfl) (by omega) EN ((k2.kb hc).trans kb) ?_ hC hL (nat X' 1 hm))
      rw [h11, (k2.1 0 (by simp; omega)).1]
    · have m6 : ¬ nI (min o 7) = 6 := by rw [show (6 : Int32) = nI 6 from rfl, nI_eq (by omega) (by omega)]; omega
      refine br_F' m6 ?_
      by_cases h5 : 5 ≤ o
      · exact br_T (nI_le (a := 5) (by omega) (by omega)) (br_T rfl (done _ _ 0 (by omega) E2 k2 (fun A R hR => mo A R (fun _ => h74 h6 _ R hR) (fun x => absurd x (by omega)))))
      · exact br_F (nI_ge (b := 5) (by omega) (by omega)) (put_step hch (by omega) (Or.inl rfl) E2 (fun N X' EN kf hm => br_T rfl (done N X' 0 (by omega) EN (k2.trans kf) (fun A R hR => mo A R (fun x => absurd x (by omega)) (fun _ => hm A _ (h74 h6 _ R hR))))))
