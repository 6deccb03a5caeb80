/-! levels are heard -/
def E2o (ch c o : Nat) (C X : Mem) : Prop :=
  X.1 37 ch = C.1 c 1 ∧ (C.1 c 1 = 0 ∨ C.1 c 1 = 1) ∧ X.1 38 ch = nI o ∧ C.1 c 2 = nI (min o 7) ∧ (7 ≤ o → C.1 c 3 = -1) ∧ X.1 39 ch = C.1 c 3 ∧
  (C.1 c 3 = -1 ∨ ∃ p : Nat, p ≤ 300 ∧ C.1 c 3 = nI p ∧ ∀ j, j < p → X.1 40 (300 * ch + j) = C.1 (c + 1) j ∧ (C.1 (c + 1) j = 0 ∨ C.1 (c + 1) j = 1))
/-- what a level may change -/
def KB (c ch : Nat) (C X N X' : Mem) : Prop :=
  (Same [0, c, c + 1, 7, 8, 11, 12, 13, 14, 15, 16, 17, 18, 19] C N ∧ N.1 0 10 = C.1 0 10) ∧
  (Same [35, 37, 38, 39, 40, 41, 42, 43, 44, 45, 46, 47, 48] X X' ∧ ∀ f, f ≠ 8 → f ≠ 11 → f ≠ 12 → f ≠ 13 → f ≠ 20 → X'.1 35 f = X.1 35 f) ∧
  (∀ a i, (a = 37 ∨ a = 38 ∨ a = 39) → i ≠ ch → X'.1 a i = X.1 a i) ∧ (∀ j, (j < 300 * ch ∨ 300 * ch + 300 ≤ j) → X'.1 40 j = X.1 40 j) ∧
  (∀ v, C.1 c 4 + v = X.1 35 8 → N.1 c 4 + v = X'.1 35 8) ∧ X'.2 = X.2
/-- a level that ends no frame changes no more than this -/
def KF (c ch : Nat) (C X N X' : Mem) : Prop :=
  Same [c, c + 1] C N ∧ (Same [35, 37, 38, 39, 40] X X' ∧ ∀ f, f ≠ 8 → X'.1 35 f = X.1 35 f) ∧
  (∀ a i, (a = 37 ∨ a = 38 ∨ a = 39) → i ≠ ch → X'.1 a i = X.1 a i) ∧ (∀ j, (j < 300 * ch ∨ 300 * ch + 300 ≤ j) → X'.1 40 j = X.1 40 j) ∧
  (∀ v, C.1 c 4 + v = X.1 35 8 → N.1 c 4 + v = X'.1 35 8) ∧ X'.2 = X.2
theorem KF.trans {c ch : Nat} {C X N Y O Z : Mem} (h1 : KF c ch C X N Y) (h2 : KF c ch N Y O Z) : KF c ch C X O Z :=
  ⟨h1.1.trans h2.1, ⟨h1.2.1.1.trans h2.2.1.1, fun f hf => (h2.2.1.2 f hf).trans (h1.2.1.2 f hf)⟩, fun a i ha hi => (h2.2.2.1 a i ha hi).trans (h1.2.2.1 a i ha hi), fun j hj => (h2.2.2.2.1 j hj).trans (h1.2.2.2.1 j hj), fun v hv => h2.2.2.2.2.1 v (h1.2.2.2.2.1 v hv), h2.2.2.2.2.2.trans h1.2.2.2.2.2⟩
theorem KF.refl (c ch : Nat) (C X : Mem) : KF c ch C X C X := ⟨Same.refl _ _, ⟨Same.refl _ _, fun _ _ => rfl⟩, fun _ _ _ _ => rfl, fun _ _ => rfl, fun _ h => h, rfl⟩
theorem KB.trans {c ch : Nat} {C X N Y O Z : Mem} (h1 : KB c ch C X N Y) (h2 : KB c ch N Y O Z) : KB c ch C X O Z :=
  ⟨⟨h1.1.1.trans h2.1.1, h2.1.2.trans h1.1.2⟩, ⟨h1.2.1.1.trans h2.2.1.1, fun f f1 f2 f3 f4 f5 => (h2.2.1.2 f f1 f2 f3 f4 f5).trans (h1.2.1.2 f f1 f2 f3 f4 f5)⟩, fun a i ha hi => (h2.2.2.1 a i ha hi).trans (h1.2.2.1 a i ha hi), fun j hj => (h2.2.2.2.1 j hj).trans (h1.2.2.2.1 j hj), fun v hv => h2.2.2.2.2.1 v (h1.2.2.2.2.1 v hv), h2.2.2.2.2.2.trans h1.2.2.2.2.2⟩
theorem KF.kb {c ch : Nat} {C X N Y : Mem} (hc : c = 3 ∨ c = 5) (h : KF c ch C X N Y) : KB c ch C X N Y :=
  ⟨⟨h.1.mono (by simp), by rw [(h.1 0 (by simp; omega)).1]⟩, ⟨h.2.1.1.mono (by simp), fun f f1 _ _ _ _ => h.2.1.2 f f1⟩, h.2.2⟩
/-- a field of the ear -/
theorem KF.ear {c ch k : Nat} {C X : Mem} {v : Int32} (hk : k ≠ 4) : KF c ch C X (putI C c k v) X :=
  ⟨(Same.refl _ _).putI (by simp), ⟨Same.refl _ _, fun _ _ => rfl⟩, fun _ _ _ _ => rfl, fun _ _ => rfl, fun w h => (by rw [putI_at, if_neg (fun x => hk x.2.symm)]; exact h), rfl⟩
theorem KF.ebit {c ch k : Nat} {C X : Mem} {v : Int32} : KF c ch C X (putI C (c + 1) k v) X :=
  ⟨(Same.refl _ _).putI (by simp), ⟨Same.refl _ _, fun _ _ => rfl⟩, fun _ _ _ _ => rfl, fun _ _ => rfl, fun w h => (by rw [putI_ne1 (by omega)]; exact h), rfl⟩
theorem KF.mo {c ch a : Nat} {C X : Mem} {v : Int32} (ha : a = 37 ∨ a = 38 ∨ a = 39) : KF c ch C X C (putI X a ch v) :=
  ⟨Same.refl _ _, ⟨(Same.refl _ _).putI (by simp; omega), fun f _ => by rw [putI_ne1 (by omega)]⟩, fun b i hb hi => by rw [putI_at, if_neg (fun x => hi x.2)], fun j _ => by rw [putI_ne1 (by omega)], fun w h => (by rw [putI_ne1 (by omega)]; exact h), rfl⟩
theorem KF.mbit {c ch p : Nat} {C X : Mem} {v : Int32} (hp : p < 300) : KF c ch C X C (putI X 40 (300 * ch + p) v) :=
  ⟨Same.refl _ _, ⟨(Same.refl _ _).putI (by simp), fun f _ => by rw [putI_ne1 (by omega)]⟩, fun b i hb hi => by rw [putI_ne1 (by omega)], fun j hj => by rw [putI_at, if_neg (by omega)], fun w h => (by rw [putI_ne1 (by omega)]; exact h), rfl⟩
theorem KF.torn {c ch : Nat} {C X : Mem} : KF c ch C X (putI C c 4 (C.1 c 4 + 1)) (putI X 35 8 (X.1 35 8 + 1)) :=
  ⟨(Same.refl _ _).putI (by simp), ⟨(Same.refl _ _).putI (by simp), fun f hf => by rw [putI_at, if_neg (fun x => hf x.2)]⟩, fun b i hb hi => by rw [putI_ne1 (by omega)], fun j hj => by rw [putI_ne1 (by omega)], fun w h => (by
    rw [putI_at, if_pos ⟨rfl, rfl⟩, putI_at, if_pos ⟨rfl, rfl⟩, ← h, Int32.add_assoc, Int32.add_comm 1 w, ← Int32.add_assoc]), rfl⟩
theorem lose_step {c ch o : Nat} {C X : Mem} {Q : Mem → Prop} (hch : ch < 2) (E : E2o ch c o C X)
    (hQ : ∀ N X', E2o ch c o N X' → KF c ch C X N X' → (∀ (A : Mem) (R : Mem → Prop), R (mix A X') → P_Mo_lose (nI ch) (mix A X) R) → Q N) : P_Ear_lose c C Q := by
  obtain ⟨e1, e2, e3, e4, e5, e6, e7⟩ := E
  have lo : ∀ (N : Mem), (∀ f, f ≠ 4 → N.1 c f = C.1 c f) → ∀ (Y : Mem), (∀ a, a ≠ 35 → Y.1 a = X.1 a) → E2o ch c o (putI N c 3 (-1)) (putI Y 39 ch (-1)) := fun N hN Y hY => by
    have y37 : (putI Y 39 ch (-1)).1 37 ch = X.1 37 ch := by rw [putI_ne1 (by omega), hY 37 (by omega)]
    have y38 : (putI Y 39 ch (-1)).1 38 ch = X.1 38 ch := by rw [putI_ne1 (by omega), hY 38 (by omega)]
    have y39 : (putI Y 39 ch (-1)).1 39 ch = -1 := by rw [putI_at, if_pos ⟨rfl, rfl⟩]
    have c1 : (putI N c 3 (-1)).1 c 1 = C.1 c 1 := by rw [putI_at, if_neg (by omega), hN 1 (by omega)]
    have c2 : (putI N c 3 (-1)).1 c 2 = C.1 c 2 := by rw [putI_at, if_neg (by omega), hN 2 (by omega)]
    have c3 : (putI N c 3 (-1)).1 c 3 = -1 := by rw [putI_at, if_pos ⟨rfl, rfl⟩]
    unfold E2o
    rw [y37, y38, y39, c1, c2, c3]
    exact ⟨e1, e2, e3, e4, fun _ => rfl, rfl, Or.inl rfl⟩
  unfold P_Ear_lose
  refine ⟨fun h => ?_, fun h => ?_⟩
  · refine hQ _ (putI X 39 ch (-1)) (lo C (fun _ _ => rfl) X (fun _ _ => rfl)) ((KF.ear (by omega)).trans (KF.mo (by omega))) (fun A R hR => ?_)
    unfold P_Mo_lose
    rw [cl_nI (n := ch) (by omega), mix_putI (by omega)]
    exact ⟨in_nI (by omega) (by omega), br_T (by show X.1 39 ch < 30; rw [e6]; exact h) hR⟩
  · refine hQ _ (putI (putI X 35 8 (X.1 35 8 + 1)) 39 ch (-1)) (lo _ (fun f hf => by rw [putI_at, if_neg (fun x => hf x.2)]) _ (fun a ha => putI_ne1 ha)) ((KF.torn.trans (KF.ear (by omega))).trans (KF.mo (by omega))) (fun A R hR => ?_)
    unfold P_Mo_lose
    rw [cl_nI (n := ch) (by omega), mix_putI (by omega), mix_putI (by omega), mix_putI (by omega)]
    exact ⟨in_nI (by omega) (by omega), br_F (by show ¬ X.1 39 ch < 30; rw [e6]; exact h) hR⟩
theorem put_step {c ch o : Nat} {C X : Mem} {b : Int32} {Q : Mem → Prop} (hch : ch < 2) (ho : o < 7) (hb : b = 0 ∨ b = 1) (E : E2o ch c o C X)
    (hQ : ∀ N X', E2o ch c o N X' → KF c ch C X N X' → (∀ (A : Mem) (R : Mem → Prop), R (mix A X') → P_Mo_put (nI ch) b (mix A X) R) → Q N) : P_Ear_putBit c b C Q := by
  have E' := E
  obtain ⟨e1, e2, e3, e4, e5, e6, e7⟩ := E
  have h8 : (Int32.toInt8 b).toInt32 = b := by rcases hb with rfl | rfl <;> decide
  unfold P_Ear_putBit
  rcases e7 with e7 | ⟨p, hp, p1, p2⟩
  · refine br_T' e7 (hQ C X E' (KF.refl _ _ _ _) (fun A R hR => ?_))
    unfold P_Mo_put
    rw [cl_nI (n := ch) (by omega)]
    exact ⟨in_nI (by omega) (by omega), br_T' (by show X.1 39 ch = -1; rw [e6]; exact e7) hR⟩
  · have hn : ¬ nI p = -1 := by rw [i_eq, i_nI (by omega), i_m1]; omega
    rw [p1, h8]
    refine br_F' hn ?_
    by_cases h3 : p < 300
    · refine br_T ((nlt_of (a := 300) (by omega) (by omega)).mpr h3) ⟨in_nI h3 (by omega), ?_⟩
      rw [cl_nI (n := p) (by omega), nI_1]
      refine hQ _ (putI (putI X 40 (300 * ch + p) b) 39 ch (nI (p + 1))) ?_ ((KF.ebit.trans (KF.ear (by omega))).trans ((KF.mbit h3).trans (KF.mo (by omega)))) (fun A R hR => ?_)
      · have c1 : ∀ f, f ≠ 3 → (putI (putI C (c + 1) p b) c 3 (nI (p + 1))).1 c f = C.1 c f := fun f hf => by rw [putI_at, if_neg (fun x => hf x.2), putI_ne1 (by omega)]
        have c3 : (putI (putI C (c + 1) p b) c 3 (nI (p + 1))).1 c 3 = nI (p + 1) := by rw [putI_at, if_pos ⟨rfl, rfl⟩]
        have cb : ∀ j, (putI (putI C (c + 1) p b) c 3 (nI (p + 1))).1 (c + 1) j = if j = p then b else C.1 (c + 1) j := fun j => by
          rw [putI_ne1 (by omega), putI_at]
          by_cases hj : j = p
          · rw [if_pos ⟨rfl, hj⟩, if_pos hj]
          · rw [if_neg (fun x => hj x.2), if_neg hj]
        have m37 : (putI (putI X 40 (300 * ch + p) b) 39 ch (nI (p + 1))).1 37 ch = X.1 37 ch := by rw [putI_ne1 (by omega), putI_ne1 (by omega)]
        have m38 : (putI (putI X 40 (300 * ch + p) b) 39 ch (nI (p + 1))).1 38 ch = X.1 38 ch := by rw [putI_ne1 (by omega), putI_ne1 (by omega)]
        have m39 : (putI (putI X 40 (300 * ch + p) b) 39 ch (nI (p + 1))).1 39 ch = nI (p + 1) := by rw [putI_at, if_pos ⟨rfl, rfl⟩]
        have mb : ∀ j, (putI (putI X 40 (300 * ch + p) b) 39 ch (nI (p + 1))).1 40 (300 * ch + j) = if j = p then b else X.1 40 (300 * ch + j) := fun j => by
          rw [putI_ne1 (by omega), putI_at]
          by_cases hj : j = p
          · rw [if_pos ⟨rfl, by omega⟩, if_pos hj]
          · rw [if_neg (by omega), if_neg hj]
        unfold E2o
        rw [m37, m38, m39, c1 1 (by omega), c1 2 (by omega), c3]
        refine ⟨e1, e2, e3, e4, fun x => absurd x (by omega), rfl, Or.inr ⟨p + 1, by omega, rfl, fun j hj => ?_⟩⟩
        rw [mb, cb]
        by_cases hjp : j = p
        · rw [if_pos hjp, if_pos hjp]; exact ⟨rfl, hb⟩
        · rw [if_neg hjp, if_neg hjp]; exact p2 j (by omega)
      · unfold P_Mo_put
        rw [cl_nI (n := ch) (by omega)]
        have m39 : (mix A X).1 39 ch = nI p := e6.trans p1
        rw [m39, show (300 : Int32) * nI ch = nI (300 * ch) from pk_mul 300 ch, nI_add, nI_1 p, cl_nI (n := 300 * ch + p) (by omega), mix_putI (by omega), mix_putI (by omega)]
        exact ⟨in_nI (by omega) (by omega), br_F' hn (br_F' (by rw [show (300 : Int32) = nI 300 from rfl, nI_eq (by omega) (by omega)]; omega) ⟨in_nI (by omega) (by omega), hR⟩)⟩
    · have : p = 300 := by omega
      subst this
      refine br_F (by decide) (lose_step hch E' (fun N X' EN kf hL => hQ N X' EN kf (fun A R hR => ?_)))
      unfold P_Mo_put
      rw [cl_nI (n := ch) (by omega)]
      have m39 : (mix A X).1 39 ch = nI 300 := e6.trans p1
      rw [m39]
      exact ⟨in_nI (by omega) (by omega), br_F' hn (br_T' rfl (hL A R hR))⟩
theorem E2o.ones {ch c o o' : Nat} {C X : Mem} (hc : c = 3 ∨ c = 5) (E : E2o ch c o C X) (h : 7 ≤ o' → C.1 c 3 = -1) : E2o ch c o' (putI C c 2 (nI (min o' 7))) (putI X 38 ch (nI o')) := by
  obtain ⟨e1, e2, e3, e4, e5, e6, e7⟩ := E
  unfold E2o
  have c1 : ∀ f, f ≠ 2 → (putI C c 2 (nI (min o' 7))).1 c f = C.1 c f := fun f hf => by rw [putI_at, if_neg (fun x => hf x.2)]
  rw [putI_ne1 (c' := 37) (by omega), putI_ne1 (c' := 39) (by omega), putI_ne1 (c' := 40) (by omega), putI_ne1 (c' := c + 1) (by omega), c1 1 (by omega), c1 3 (by omega), putI_same, putI_same]
  exact ⟨e1, e2, rfl, rfl, h, e6, e7⟩
theorem E2o.level {ch c o : Nat} {C X : Mem} {v : Int32} (hc : c = 3 ∨ c = 5) (E : E2o ch c o C X) (hv : v = 0 ∨ v = 1) : E2o ch c o (putI C c 1 v) (putI X 37 ch v) := by
  obtain ⟨e1, e2, e3, e4, e5, e6, e7⟩ := E
  unfold E2o
  have c1 : ∀ f, f ≠ 1 → (putI C c 1 v).1 c f = C.1 c f := fun f hf => by rw [putI_at, if_neg (fun x => hf x.2)]
  rw [putI_ne1 (c' := 38) (by omega), putI_ne1 (c' := 39) (by omega), putI_ne1 (c' := 40) (by omega), putI_ne1 (c' := c + 1) (by omega), c1 2 (by omega), c1 3 (by omega), putI_same, putI_same]
  exact ⟨rfl, hv, e3, e4, e5, e6, e7⟩
/-- a one -/
theorem one_step {c ch o : Nat} {C X : Mem} {Q : Mem → Prop} (hc : c = 3 ∨ c = 5) (hch : ch < 2) (ho : o < 2000000000) (E : E2o ch c o C X)
    (hQ : ∀ N X', E2o ch c (o + 1) N X' → KF c ch C X N X' → (∀ (A : Mem) (R : Int32 → Mem → Prop), R 0 (mix A X') → P_Mo_hears (nI ch) 1 (mix A X) R) → Q N) : P_Ear_takeOne c C Q := by
  have E' := E
  obtain ⟨e1, e2, e3, e4, e5, e6, e7⟩ := E
  have mo : ∀ (A : Mem) (R : Int32 → Mem → Prop), (5 < o + 1 → P_Mo_hears_31 R (nI ch) (mix A (putI X 38 ch (nI (o + 1))))) → (o + 1 ≤ 5 → P_Mo_put (nI ch) 1 (mix A (putI X 38 ch (nI (o + 1)))) fun M12 => P_Mo_hears_31 R (nI ch) M12) → P_Mo_hears (nI ch) 1 (mix A X) R := fun A R h1 h2 => by
    unfold P_Mo_hears
    refine br_T' rfl ?_
    rw [cl_nI (n := ch) (by omega)]
    have m38 : (mix A X).1 38 ch = nI o := e3
    rw [m38, nI_1 o, putI_same, mix_putI (by omega)]
    refine ⟨in_nI (by omega) (by omega), fun h => h1 ?_, fun h => h2 ?_⟩
    · exact (nlt_of (e := 5) (by omega) (by omega)).mp h
    · rcases Nat.lt_or_ge 5 (o + 1) with z | z
      · exact absurd ((nlt_of (e := 5) (by omega) (by omega)).mpr z) h
      · exact z
  have h31n : ∀ (Y : Mem) (R : Int32 → Mem → Prop) (n : Nat), n < 2147483648 → Y.1 38 ch = nI n → n ≠ 7 → R 0 Y → P_Mo_hears_31 R (nI ch) Y := fun Y R n hn h1 h2 h3 => by
    unfold P_Mo_hears_31
    rw [cl_nI (n := ch) (by omega), h1]
    exact ⟨in_nI (by omega) (by omega), br_F' (by rw [show (7 : Int32) = nI 7 from rfl, nI_eq (by omega) (by omega)]; exact h2) h3⟩
  unfold P_Ear_takeOne
  rw [e4]
  by_cases h7 : 7 ≤ o
  · rw [show min o 7 = 7 by omega]
    refine br_T (by decide) ?_
    unfold P_Ear_takeOne_19
    have c2 : C.1 c 2 = nI 7 := by rw [e4, show min o 7 = 7 by omega]
    rw [c2]
    refine br_T (by decide) (br_T' rfl ?_)
    have c3 := e5 h7
    unfold P_Ear_lose
    rw [c3]
    refine br_T (by decide) ?_
    have hN : putI C c 3 (-1) = C := by
      unfold putI
      refine Prod.ext (funext fun a => funext fun b => ?_) rfl
      show (if a = c then (if b = 3 then -1 else C.1 a b) else C.1 a b) = C.1 a b
      by_cases ha : a = c
      · by_cases hb : b = 3
        · rw [if_pos ha, if_pos hb, ha, hb, c3]
        · rw [if_pos ha, if_neg hb]
      · rw [if_neg ha]
    rw [hN]
    refine hQ C (putI X 38 ch (nI (o + 1))) ?_ (KF.mo (by omega)) (fun A R hR => mo A R (fun _ => h31n _ R (o + 1) (by omega) (by show (putI X 38 ch (nI (o + 1))).1 38 ch = _; rw [putI_same]) (by omega) hR) (fun x => absurd x (by omega)))
    have := E'.ones (o' := o + 1) hc (fun _ => c3)
    have hC : putI C c 2 (nI (min (o + 1) 7)) = C := by
      unfold putI
      refine Prod.ext (funext fun a => funext fun b => ?_) rfl
      show (if a = c then (if b = 2 then nI (min (o + 1) 7) else C.1 a b) else C.1 a b) = C.1 a b
      by_cases ha : a = c
      · by_cases hb : b = 2
        · rw [if_pos ha, if_pos hb, ha, hb, c2, show min (o + 1) 7 = 7 by omega]
        · rw [if_pos ha, if_neg hb]
      · rw [if_neg ha]
    rw [hC] at this
    exact this
  · rw [show min o 7 = o by omega, nI_1]
    refine br_F (nI_ge (b := 7) (by omega) (by omega)) ?_
    unfold P_Ear_takeOne_19
    rw [putI_same]
    have cC : putI C c 2 (nI (o + 1)) = putI C c 2 (nI (min (o + 1) 7)) := by rw [show min (o + 1) 7 = o + 1 by omega]
    by_cases h6 : o + 1 ≤ 5
    · have E1 := E'.ones (o' := o + 1) hc (fun x => absurd x (by omega))
      rw [← cC] at E1
      refine br_F (nI_nlt (a := 5) (by omega) (by omega)) (put_step hch (by omega) (Or.inr rfl) E1 (fun N X' EN kf hp => hQ N X' EN ((KF.ear (by omega)).trans ((KF.mo (by omega)).trans kf)) (fun A R hR => mo A R (fun x => absurd x (by omega)) (fun _ => hp A _ (h31n _ R (o + 1) (by omega) EN.2.2.1 (by omega) hR)))))
    · refine br_T (nI_lt (a := 5) (by omega) (by omega)) ?_
      by_cases h66 : o + 1 = 6
      · have E1 := E'.ones (o' := o + 1) hc (fun x => absurd x (by omega))
        rw [← cC] at E1
        refine br_F' (by rw [show (7 : Int32) = nI 7 from rfl, nI_eq (by omega) (by omega)]; omega) (hQ _ (putI X 38 ch (nI (o + 1))) E1 ((KF.ear (by omega)).trans (KF.mo (by omega))) (fun A R hR => mo A R (fun _ => h31n _ R (o + 1) (by omega) (by show (putI X 38 ch (nI (o + 1))).1 38 ch = _; rw [putI_same]) (by omega) hR) (fun x => absurd x (by omega))))
      · have o6 : o = 6 := by omega
        subst o6
        refine br_T' rfl ?_
        /- the seventh: both lose -/
        have lo : P_Ear_lose c (putI C c 2 (nI 7)) Q := by
          unfold P_Ear_lose
          have c3 : (putI C c 2 (nI 7)).1 c 3 = C.1 c 3 := by rw [putI_at, if_neg (by omega)]
          have c4 : (putI C c 2 (nI 7)).1 c 4 = C.1 c 4 := by rw [putI_at, if_neg (by omega)]
          have m39 : (putI X 38 ch (nI 7)).1 39 ch = C.1 c 3 := by rw [putI_ne1 (by omega)]; exact e6
          have fin : ∀ (N Y : Mem), (∀ f, f ≠ 4 → N.1 c f = (putI C c 2 (nI 7)).1 c f) → (∀ a, a ≠ 35 → Y.1 a = (putI X 38 ch (nI 7)).1 a) → E2o ch c 7 (putI N c 3 (-1)) (putI Y 39 ch (-1)) := fun N Y hN hY => by
            unfold E2o
            rw [putI_ne1 (c' := 37) (by omega), putI_ne1 (c' := 38) (by omega), putI_same, putI_same, hY 37 (by omega), hY 38 (by omega), putI_ne1 (c' := 37) (by omega), putI_same]
            rw [putI_at, if_neg (by omega), hN 1 (by omega), putI_at, if_neg (by omega), putI_at, if_neg (by omega), hN 2 (by omega), putI_same]
            exact ⟨e1, e2, rfl, rfl, fun _ => rfl, rfl, Or.inl rfl⟩
          have nat : ∀ (A : Mem) (R : Int32 → Mem → Prop) (Y : Mem), (∀ (S : Mem → Prop), S (mix A Y) → P_Mo_lose (nI ch) (mix A (putI X 38 ch (nI 7))) S) → R 0 (mix A Y) → P_Mo_hears (nI ch) 1 (mix A X) R := fun A R Y hl hR =>
            mo A R (fun _ => by
              unfold P_Mo_hears_31
              have m38 : (mix A (putI X 38 ch (nI (6 + 1)))).1 38 ch = nI 7 := (show (putI X 38 ch (nI 7)).1 38 ch = nI 7 from putI_same)
              rw [cl_nI (n := ch) (by omega), m38]
              exact ⟨in_nI (by omega) (by omega), br_T' rfl (hl (fun M10 => R 0 M10) hR)⟩) (fun x => absurd x (by omega))
          rw [c3, c4]
          refine ⟨fun h => ?_, fun h => ?_⟩
          · refine hQ _ (putI (putI X 38 ch (nI 7)) 39 ch (-1)) (fin _ _ (fun _ _ => rfl) (fun _ _ => rfl)) (((KF.ear (by omega)).trans (KF.ear (by omega))).trans ((KF.mo (by omega)).trans (KF.mo (by omega)))) (fun A R hR => nat A R _ (fun S hS => ?_) hR)
            unfold P_Mo_lose
            rw [cl_nI (n := ch) (by omega), mix_putI (by omega), show (mix A (putI X 38 ch (nI 7))).1 39 ch = C.1 c 3 from m39]
            exact ⟨in_nI (by omega) (by omega), br_T h hS⟩
          · refine hQ _ (putI (putI (putI X 38 ch (nI 7)) 35 8 (X.1 35 8 + 1)) 39 ch (-1)) (fin _ _ (fun f hf => by rw [putI_at, if_neg (fun x => hf x.2)]) (fun a ha => putI_ne1 ha)) ?_ (fun A R hR => nat A R _ (fun S hS => ?_) hR)
            · have k1 : KF c ch C X (putI C c 2 (nI 7)) (putI X 38 ch (nI 7)) := (KF.ear (by omega)).trans (KF.mo (by omega))
              have k2 : KF c ch (putI C c 2 (nI 7)) (putI X 38 ch (nI 7)) (putI (putI C c 2 (nI 7)) c 4 ((putI C c 2 (nI 7)).1 c 4 + 1)) (putI (putI X 38 ch (nI 7)) 35 8 ((putI X 38 ch (nI 7)).1 35 8 + 1)) := KF.torn
              rw [c4, show (putI X 38 ch (nI 7)).1 35 8 = X.1 35 8 from rfl] at k2
              exact (k1.trans k2).trans ((KF.ear (by omega)).trans (KF.mo (by omega)))
            · unfold P_Mo_lose
              rw [cl_nI (n := ch) (by omega), show (mix A (putI X 38 ch (nI 7))).1 35 8 = X.1 35 8 from rfl, mix_putI (by omega), mix_putI (by omega), mix_putI (by omega), show (mix A (putI X 38 ch (nI 7))).1 39 ch = C.1 c 3 from m39]
              exact ⟨in_nI (by omega) (by omega), br_F h hS⟩
        exact lo
