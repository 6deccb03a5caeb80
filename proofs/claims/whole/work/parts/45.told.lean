/-! the model tells the first of the best partings -/
/-- rows below k are told by t, and a best parting goes on so -/
def PreL (n : Nat) (A : Nat → Nat → Bool) (p : Nat → Nat → Int) (t : Nat → Option Nat) (k : Nat) : Prop :=
  (∃ G, Opt n A p G ∧ ∀ i, i < k → G i = t i) ∧ ∀ i, i < k → ∀ H, Opt n A p H → (∀ i', i' < i → H i' = t i') → ∀ j, H i = some j → ∃ j', j' ≤ j ∧ t i = some j'
theorem PreL.lex {n : Nat} {A : Nat → Nat → Bool} {p : Nat → Nat → Int} {t : Nat → Option Nat} (h : PreL n A p t n) : ∃ G, Lex n A p G ∧ ∀ i, i < n → G i = t i := by
  obtain ⟨⟨G, oG, eG⟩, h2⟩ := h
  refine ⟨G, ⟨oG, fun k hk H oH eH j hj => ?_⟩, eG⟩
  obtain ⟨j', h3, h4⟩ := h2 k hk H oH (fun i hi => (eH i hi).trans (eG i (by omega))) j hj
  exact ⟨j', h3, (eG k hk).trans h4⟩
/-- the told rows and one more -/
def tk (t : Nat → Option Nat) (k : Nat) (o : Option Nat) : Nat → Option Nat := uo (low k t) k o
theorem tk_lt {t : Nat → Option Nat} {k i : Nat} {o : Option Nat} (h : i < k) : tk t k o i = t i := by
  unfold tk
  rw [uo_ne (by omega)]
  unfold low
  rw [if_pos h]
theorem tk_at {t : Nat → Option Nat} {k : Nat} {o : Option Nat} : tk t k o k = o := uo_at _ _ _
theorem tk_gt {t : Nat → Option Nat} {k i : Nat} {o : Option Nat} (h : k < i) : tk t k o i = none := by
  unfold tk
  rw [uo_ne (by omega)]
  unfold low
  rw [if_neg (by omega)]
section Told
variable {n : Nat} {A : Nat → Nat → Bool} {p : Nat → Nat → Int} {Gs : Nat → Option Nat}
theorem P_goesOn {k : Nat} {t : Nat → Option Nat} {o : Option Nat} {M : Mem} {Q : Int32 → Mem → Prop} (hAj : ∀ k j, A k j = true → j < k) (hn : n ≤ 16) (hk : k < n) (hp : ∀ k j, k < n → j < n → 0 ≤ p k j ∧ p k j ≤ PMX) (pd : PD n A p M) (s59 : ∀ i, i < n → M.1 59 i = if i < k + 1 then 1 else 0) (s56 : ∀ i, i < k → M.1 56 i = oI (t i)) (s56k : M.1 56 k = oI o) (vt : Val n A (tk t k o)) (oG : Opt n A p Gs) (e38 : (M.2 35 38).toInt = csF n p Gs)
    (h1 : ∀ N, MR M N → (∃ G, Opt n A p G ∧ (∀ i, i < k → G i = t i) ∧ G k = o) → Q 1 N)
    (h0 : ∀ N, MR M N → (∀ H, Opt n A p H → (∀ i, i < k → H i = t i) → H k ≠ o) → Q 0 N) : P_Mo_goesOn (nI n) (nI (cnF n Gs)) M Q := by
  have hpB : ∀ k j, k < n → A k j = true → 0 ≤ p k j ∧ p k j ≤ PMX := fun k j hk h => hp k j hk (by have := hAj k j h; omega)
  unfold P_Mo_goesOn
  refine P_solve (m := k + 1) (F := tk t k o) hAj hn (by omega) hp pd s59 (fun i hi => ?_) (fun i hi => tk_gt (by omega)) vt (fun N G a' b' mr st vG pre c e40 e39 => ?_)
  · by_cases hik : i = k
    · subst hik; rw [tk_at]; exact s56k
    · rw [tk_lt (by omega)]; exact s56 i (by omega)
  have cs := cntB_le (fun i => (G i).isSome) n
  have cs2 := cntB_le (fun i => (Gs i).isSome) n
  have e40' : N.1 35 40 = nI (cnF n Gs) ↔ cnF n G = cnF n Gs := by
    rw [e40]
    exact nI_eq (by unfold cnF; omega) (by unfold cnF; omega)
  have e38' : (N.2 35 38).toInt = csF n p Gs := by rw [mr.2.2 38 (by omega)]; exact e38
  have e39' : N.2 35 39 = N.2 35 38 ↔ csF n p G = csF n p Gs := by rw [j_eq, e39, e38']
  have vv := VF_iff hn hpB vG oG.1
  have eGk : G k = o := (pre k (by omega)).trans tk_at
  have eGi : ∀ i, i < k → G i = t i := fun i hi => (pre i (by omega)).trans (tk_lt hi)
  have yes : cnF n G = cnF n Gs → csF n p G = csF n p Gs → Q 1 N := fun a1 a2 => by
    refine h1 N mr ⟨G, ⟨vG, fun H vH => ?_⟩, eGi, eGk⟩
    rw [vv.mpr ⟨a1, a2⟩]
    exact oG.2 H vH
  have no : ¬ (cnF n G = cnF n Gs ∧ csF n p G = csF n p Gs) → Q 0 N := fun hno => by
    refine h0 N mr (fun H oH eH eHk => hno (vv.mp ?_))
    have l1 := cert_min c vG oH.1 (fun i hi => by
      by_cases hik : i = k
      · subst hik; rw [eHk, eGk]
      · rw [eH i (by omega), eGi i (by omega)]) (by omega)
    have l2 := oG.2 G vG
    have l3 := oH.eq oG
    omega
  rw [e40', e39']
  exact ⟨fun a1 => no (fun x => a1 x.1), fun a1 => ⟨fun a2 => no (fun x => a2 x.2), fun a2 => yes a1 a2⟩⟩
theorem P_isFree {k j : Nat} {t : Nat → Option Nat} {M : Mem} {Q : Int32 → Mem → Prop} (hk : k ≤ 16) (hj : j < 16) (s56 : ∀ i, i < k → M.1 56 i = oI (t i)) (ht : ∀ i x, i < k → t i = some x → x < 16) (h1 : (∀ i, i < k → t i ≠ some j) → Q 1 M) (h0 : ¬ (∀ i, i < k → t i ≠ some j) → Q 0 M) : P_Mo_isFree (nI k) (nI j) M Q := by
  have key : ∀ d i, i + d = k → (∀ i', i' < i → t i' ≠ some j) → P_Mo_isFree_2 Q (d + 1) (nI k) (nI j) (nI i) M := by
    intro d
    induction d with
    | zero =>
      intro i hi hf
      have : i = k := by omega
      subst this
      unfold P_Mo_isFree_2
      exact br_T (nI_le (by omega) (by omega)) (h1 hf)
    | succ d ih =>
      intro i hi hf
      unfold P_Mo_isFree_2
      rw [nI_1 i, cl_nI (n := i) (by omega), s56 i (by omega)]
      refine br_F (nI_ge (by omega) (by omega)) ⟨in_nI (by omega) (by omega), fun hne => ih (i + 1) (by omega) (fun i' hi' e => ?_), fun he => h0 (fun x => ?_)⟩
      · by_cases hii : i' = i
        · rw [hii] at e; rw [e] at hne; exact hne rfl
        · exact hf i' (by omega) e
      · cases hz : t i with
        | none =>
          rw [hz] at he
          exact nI_ne1 (k := j) (by omega) he.symm
        | some y =>
          rw [hz] at he
          have hy := ht i y (by omega) hz
          have : y = j := (nI_eq (by omega) (by omega)).mp he
          exact x i (by omega) (by rw [hz, this])
  unfold P_Mo_isFree
  exact ⟨k + 1, key k 0 (by omega) (fun i' hi' => absurd hi' (Nat.not_lt_zero _))⟩
def MT (M N : Mem) : Prop := Same [35, 53, 54, 56, 59, 60, 61] M N ∧ (∀ f, f ≠ 40 → N.1 35 f = M.1 35 f) ∧ (∀ f, f ≠ 39 → N.2 35 f = M.2 35 f)
theorem MT.trans {M N O : Mem} (h1 : MT M N) (h2 : MT N O) : MT M O := ⟨h1.1.trans h2.1, fun f hf => (h2.2.1 f hf).trans (h1.2.1 f hf), fun f hf => (h2.2.2 f hf).trans (h1.2.2 f hf)⟩
theorem MR.mt {M N : Mem} (h : MR M N) : MT M N := ⟨h.1.mono (by simp), h.2.1, h.2.2⟩
theorem MT.refl (M : Mem) : MT M M := ⟨Same.refl _ _, fun _ _ => rfl, fun _ _ => rfl⟩
/-- one row is told -/
theorem P_row {k : Nat} {t : Nat → Option Nat} {M : Mem} {Q : Int32 → Mem → Prop} {K411 : Int32 → Int32 → Int32 → Mem → Prop} (hAj : ∀ k j, A k j = true → j < k) (hn : n ≤ 16) (hk : k < n) (hp : ∀ k j, k < n → j < n → 0 ≤ p k j ∧ p k j ≤ PMX) (pd : PD n A p M) (s59 : ∀ i, i < n → M.1 59 i = if i < k + 1 then 1 else 0) (s56 : ∀ i, i < k → M.1 56 i = oI (t i)) (oG : Opt n A p Gs) (e38 : (M.2 35 38).toInt = csF n p Gs) (pre : PreL n A p t k)
    (hK : ∀ N o, MT M N → (∀ i, i < n → N.1 59 i = M.1 59 i) → (∀ i, i < k → N.1 56 i = oI (t i)) → N.1 56 k = oI o → PreL n A p (uo t k o) (k + 1) → K411 (nI n) (nI (cnF n Gs)) (nI (k + 1)) N) : ∃ q, P_Mo_part_431 K411 Q q (nI n) (nI (cnF n Gs)) (nI k) 0 0 M := by
  obtain ⟨⟨G, oGt, eGt⟩, lx⟩ := pre
  have ht : ∀ i x, i < k → t i = some x → x < 16 := fun i x hi hz => by
    have := (oGt.1.1 i x (by omega) (by rw [eGt i hi]; exact hz)).2
    omega
  have tol : ∀ o H, Opt n A p H → (∀ i, i < k → H i = t i) → H k = o → (∀ H', Opt n A p H' → (∀ i, i < k → H' i = t i) → ∀ j, H' k = some j → ∃ j', j' ≤ j ∧ o = some j') → PreL n A p (uo t k o) (k + 1) := fun o H oH eH eo hmin => by
    refine ⟨⟨H, oH, fun i hi => ?_⟩, fun i hi H' oH' eH' j hj => ?_⟩
    · by_cases hik : i = k
      · subst hik; rw [uo_at]; exact eo
      · rw [uo_ne hik]; exact eH i (by omega)
    · by_cases hik : i = k
      · subst hik
        rw [uo_at]
        exact hmin H' oH' (fun i' hi' => by rw [eH' i' hi', uo_ne (by omega)]) j hj
      · rw [uo_ne hik]
        exact lx i (by omega) H' oH' (fun i' hi' => by rw [eH' i' hi', uo_ne (by omega)]) j hj
  /- found -/
  have fin1 : ∀ N j, MT M N → (∀ i, i < n → N.1 59 i = M.1 59 i) → (∀ i, i < k → N.1 56 i = oI (t i)) → N.1 56 k = oI (some j) → (∃ H, Opt n A p H ∧ (∀ i, i < k → H i = t i) ∧ H k = some j) → (∀ j', j' < j → ∀ H, Opt n A p H → (∀ i, i < k → H i = t i) → H k ≠ some j') → P_Mo_part_501 K411 Q (nI n) (nI (cnF n Gs)) (nI k) 1 N := fun N j mt a59 a56 a56k hex hno => by
    obtain ⟨H, oH, eH, eo⟩ := hex
    unfold P_Mo_part_501
    rw [nI_1]
    refine br_F' (by decide) (hK N (some j) mt a59 a56 a56k (tol (some j) H oH eH eo (fun H' oH' eH' j' hj' => ⟨j, ?_, rfl⟩)))
    rcases Nat.lt_or_ge j' j with z | z
    · exact absurd hj' (hno j' z H' oH' eH')
    · exact z
  have key : ∀ d j, j + d = n → ∀ N, MT M N → (∀ i, i < n → N.1 59 i = M.1 59 i) → (∀ i, i < k → N.1 56 i = oI (t i)) → (∀ j', j' < j → ∀ H, Opt n A p H → (∀ i, i < k → H i = t i) → H k ≠ some j') → P_Mo_part_431 K411 Q (d + 1) (nI n) (nI (cnF n Gs)) (nI k) 0 (nI j) N := by
    intro d
    induction d with
    | zero =>
      intro j hj N mt a59 a56 hno
      have : j = n := by omega
      subst this
      unfold P_Mo_part_431 P_Mo_part_501
      rw [nI_1, cl_nI (n := k) (by omega)]
      refine br_T (nI_le (by omega) (by omega)) (br_T' rfl ⟨in_nI (by omega) (by omega), ?_⟩)
      have gn : G k = none := by
        cases hz : G k with
        | none => rfl
        | some y => exact absurd hz (hno y (oGt.1.1 k y hk hz).2 G oGt eGt)
      refine hK _ none (mt.trans ⟨(Same.refl _ _).putI (by simp), fun _ _ => rfl, fun _ _ => rfl⟩) a59 (fun i hi => ?_) putI_same (tol none G oGt eGt gn (fun H' oH' eH' j' hj' => absurd hj' (hno j' (oH'.1.1 k j' hk hj').2 H' oH' eH')))
      rw [putI_at, if_neg (by omega)]
      exact a56 i hi
    | succ d ih =>
      intro j hj N mt a59 a56 hno
      have hjn : j < n := by omega
      have ext : (∀ H, Opt n A p H → (∀ i, i < k → H i = t i) → H k ≠ some j) → ∀ j', j' < j + 1 → ∀ H, Opt n A p H → (∀ i, i < k → H i = t i) → H k ≠ some j' := fun hx j' hj' H oH eH => by
        by_cases hjj : j' = j
        · rw [hjj]; exact hx H oH eH
        · exact hno j' (by omega) H oH eH
      have mt1 : MT M (putI N 56 k (nI j)) := mt.trans ⟨(Same.refl _ _).putI (by simp), fun _ _ => rfl, fun _ _ => rfl⟩
      have b56 : ∀ i, i < k → (putI N 56 k (nI j)).1 56 i = oI (t i) := fun i hi => by
        rw [putI_at, if_neg (by omega)]
        exact a56 i hi
      have b56k : (putI N 56 k (nI j)).1 56 k = oI (some j) := putI_same
      unfold P_Mo_part_431
      rw [nI_1 j, ix16, cl_nI (n := k) (by omega), cl_nI (n := 16 * k + j) (by omega)]
      have e58 : N.1 58 (16 * k + j) = if A k j then 1 else 0 := by
        rw [(mt.1 58 (by decide)).1]
        exact (pd k j hk hjn).1
      rw [e58]
      refine br_F (nI_ge (by omega) (by omega)) (br_T' rfl ⟨in_nI (by omega) (by omega), in_nI (by omega) (by omega), ?_⟩)
      cases hA : A k j
      · exact br_T rfl (ih (j + 1) (by omega) _ mt1 a59 b56 (ext (fun H oH eH e => by have := (oH.1.1 k j hk e).1; rw [hA] at this; cases this)))
      · refine br_F (by decide) (P_isFree (by omega) (by omega) b56 ht (fun hf => br_F (by decide) ?_) (fun hf => br_T rfl (ih (j + 1) (by omega) _ mt1 a59 b56 (ext (fun H oH eH e => hf (fun i hi e2 => by have := oH.1.2 i k j (by omega) hk (by rw [eH i hi]; exact e2) e; omega))))))
        have pd2 : PD n A p (putI N 56 k (nI j)) := fun k' j' h1 h2 => by
          show N.1 58 _ = _ ∧ (N.2 57 _).toInt = _
          rw [(mt.1 58 (by decide)).1, (mt.1 57 (by decide)).2]
          exact pd k' j' h1 h2
        have vt : Val n A (tk t k (some j)) := by
          refine Val_uo ⟨fun i x hi hz => ?_, fun i i' x hi hi' hz hz' => ?_⟩ hA hjn (fun i hi e => ?_)
          · unfold low at hz
            by_cases hik : i < k
            · rw [if_pos hik] at hz
              exact oGt.1.1 i x hi (by rw [eGt i hik]; exact hz)
            · rw [if_neg hik] at hz; cases hz
          · unfold low at hz hz'
            by_cases hik : i < k
            · rw [if_pos hik] at hz
              by_cases hik' : i' < k
              · rw [if_pos hik'] at hz'
                exact oGt.1.2 i i' x hi hi' (by rw [eGt i hik]; exact hz) (by rw [eGt i' hik']; exact hz')
              · rw [if_neg hik'] at hz'; cases hz'
            · rw [if_neg hik] at hz; cases hz
          · unfold low at e
            by_cases hik : i < k
            · rw [if_pos hik] at e
              exact hf i hik e
            · rw [if_neg hik] at e; cases e
        refine P_goesOn hAj hn hk hp pd2 (fun i hi => ?_) b56 b56k vt oG ?_ (fun N2 mr hex => br_F (by decide) ?_) (fun N2 mr hx => br_T rfl ?_)
        · show N.1 59 i = _
          rw [a59 i hi]; exact s59 i hi
        · show (N.2 35 38).toInt = _
          rw [mt.2.2 38 (by omega)]; exact e38
        · have g56 : N2.1 56 = (putI N 56 k (nI j)).1 56 := (mr.1 56 (by decide)).1
          have f1 := fin1 N2 j (mt1.trans mr.mt) (fun i hi => by rw [(mr.1 59 (by decide)).1]; exact a59 i hi) (fun i hi => by rw [g56]; exact b56 i hi) (by rw [g56]; exact b56k) hex hno
          have hd : d + 1 = d + 1 := rfl
          unfold P_Mo_part_431
          refine ⟨fun _ => f1, fun _ => br_F' (by decide) f1⟩
        · have g56 : N2.1 56 = (putI N 56 k (nI j)).1 56 := (mr.1 56 (by decide)).1
          exact ih (j + 1) (by omega) N2 (mt1.trans mr.mt) (fun i hi => by rw [(mr.1 59 (by decide)).1]; exact a59 i hi) (fun i hi => by rw [g56]; exact b56 i hi) (ext hx)
  exact ⟨n + 1, key n 0 (by omega) M (MT.refl M) (fun _ _ => rfl) s56 (fun j' hj' => absurd hj' (Nat.not_lt_zero _))⟩
theorem P_rows {M : Mem} {Q : Int32 → Mem → Prop} (hAj : ∀ k j, A k j = true → j < k) (hn : n ≤ 16) (hp : ∀ k j, k < n → j < n → 0 ≤ p k j ∧ p k j ≤ PMX) (pd : PD n A p M) (s59 : ∀ i, i < n → M.1 59 i = 0) (oG : Opt n A p Gs) (e38 : (M.2 35 38).toInt = csF n p Gs)
    (hK : ∀ N G, MT M N → Lex n A p G → (∀ i, i < n → N.1 56 i = oI (G i)) → ∃ q, P_Mo_part_526 Q q (nI n) 0 0 N) : ∃ q, P_Mo_part_411 Q q (nI n) (nI (cnF n Gs)) 0 M := by
  have key : ∀ d k, k + d = n → ∀ N t, MT M N → (∀ i, i < n → N.1 59 i = if i < k then 1 else 0) → (∀ i, i < k → N.1 56 i = oI (t i)) → PreL n A p t k → P_Mo_part_411 Q (d + 1) (nI n) (nI (cnF n Gs)) (nI k) N := by
    intro d
    induction d with
    | zero =>
      intro k hk N t mt a59 a56 pre
      have : k = n := by omega
      subst this
      obtain ⟨G, lG, eG⟩ := pre.lex
      unfold P_Mo_part_411
      exact br_T (nI_le (by omega) (by omega)) (hK N G mt lG (fun i hi => by rw [a56 i hi, eG i hi]))
    | succ d ih =>
      intro k hk N t mt a59 a56 pre
      unfold P_Mo_part_411
      rw [cl_nI (n := k) (by omega)]
      have mt1 : MT M (putI N 59 k 1) := mt.trans ⟨(Same.refl _ _).putI (by simp), fun _ _ => rfl, fun _ _ => rfl⟩
      have b59 : ∀ i, i < n → (putI N 59 k 1).1 59 i = if i < k + 1 then 1 else 0 := fun i hi => by
        rw [putI_at]
        by_cases hik : i = k
        · rw [if_pos ⟨rfl, hik⟩, if_pos (by omega)]
        · rw [if_neg (fun x => hik x.2), a59 i hi]
          by_cases h2 : i < k
          · rw [if_pos h2, if_pos (by omega)]
          · rw [if_neg h2, if_neg (by omega)]
      refine br_F (nI_ge (by omega) (by omega)) ⟨in_nI (by omega) (by omega), P_row (t := t) hAj hn (by omega) hp (fun k' j' h1 h2 => ?_) b59 a56 oG ?_ pre (fun N' o mt' c59 c56 c56k pre' => ih (k + 1) (by omega) N' (uo t k o) (mt1.trans mt') (fun i hi => by rw [c59 i hi]; exact b59 i hi) (fun i hi => ?_) pre')⟩
      · show N.1 58 _ = _ ∧ (N.2 57 _).toInt = _
        rw [(mt.1 58 (by decide)).1, (mt.1 57 (by decide)).2]
        exact pd k' j' h1 h2
      · show (N.2 35 38).toInt = _
        rw [mt.2.2 38 (by omega)]; exact e38
      · by_cases hik : i = k
        · subst hik; rw [uo_at]; exact c56k
        · rw [uo_ne hik]; exact c56 i (by omega)
  exact ⟨n + 1, key n 0 (by omega) M (fun _ => none) (MT.refl M) (fun i hi => by rw [if_neg (by omega)]; exact s59 i hi) (fun i hi => absurd hi (Nat.not_lt_zero _)) ⟨⟨Gs, oG, fun i hi => absurd hi (Nat.not_lt_zero _)⟩, fun i hi => absurd hi (Nat.not_lt_zero _)⟩⟩
/-! tracks -/
def cnN (F : Nat → Option Nat) (k : Nat) : Nat := cntB (fun i => (F i).isNone) k
def TR (F : Nat → Option Nat) : Nat → Nat → Nat
  | 0 => fun _ => 0
  | k + 1 => un (TR F k) k (match F k with | none => cnN F k | some j => TR F k j)
theorem TR_lt {F : Nat → Option Nat} {k i : Nat} (h : i < k) : TR F (k + 1) i = TR F k i := by
  show un _ _ _ i = _
  unfold un
  rw [if_neg (by omega)]
theorem TR_at {F : Nat → Option Nat} {k : Nat} : TR F (k + 1) k = (match F k with | none => cnN F k | some j => TR F k j) := by
  show un _ _ _ k = _
  unfold un
  rw [if_pos rfl]
theorem P_motracks {G : Nat → Option Nat} {M : Mem} {Q : Int32 → Mem → Prop} (hn : n ≤ 16) (hG : ∀ k j, k < n → G k = some j → j < k) (s56 : ∀ i, i < n → M.1 56 i = oI (G i))
    (hQ : ∀ N, Same [55] M N → (∀ i, i < n → N.1 55 i = nI (TR G n i)) → Q (nI (cnN G n)) N) : ∃ q, P_Mo_part_526 Q q (nI n) 0 0 M := by
  have key : ∀ d k, k + d = n → ∀ N, Same [55] M N → (∀ i, i < k → N.1 55 i = nI (TR G k i)) → P_Mo_part_526 Q (d + 1) (nI n) (nI (cnN G k)) (nI k) N := by
    intro d
    induction d with
    | zero =>
      intro k hk N sN hN
      have : k = n := by omega
      subst this
      unfold P_Mo_part_526
      exact br_T (nI_le (by omega) (by omega)) (hQ N sN hN)
    | succ d ih =>
      intro k hk N sN hN
      have n56 : N.1 56 k = oI (G k) := by rw [(sN 56 (by decide)).1]; exact s56 k (by omega)
      have nx := ih (k + 1) (by omega)
      unfold P_Mo_part_526 P_Mo_part_566
      rw [cl_nI (n := k) (by omega), n56, nI_1 k]
      refine br_F (nI_ge (by omega) (by omega)) ⟨in_nI (by omega) (by omega), ?_⟩
      have iv : vp_in (nI k) 16 := in_nI (by omega) (by omega)
      have fin : ∀ w : Nat, TR G (k + 1) k = w → ∀ i, i < k + 1 → (putI N 55 k (nI w)).1 55 i = nI (TR G (k + 1) i) := fun w hw i hi => by
        rw [putI_at]
        by_cases hik : i = k
        · rw [if_pos ⟨rfl, hik⟩, hik, hw]
        · rw [if_neg (fun x => hik x.2), TR_lt (by omega)]
          exact hN i (by omega)
      cases hz : G k with
      | none =>
        refine br_T' rfl ⟨iv, iv, br_T' rfl ?_⟩
        rw [nI_1]
        have e : cnN G (k + 1) = cnN G k + 1 := cntB_succ_t (by rw [hz]; rfl)
        rw [e] at nx
        exact nx _ (sN.putI (by simp)) (fin _ (by rw [TR_at, hz]))
      | some j =>
        have hj := hG k j (by omega) hz
        refine br_F' (nI_ne1 (by omega)) ⟨in_nI (by omega) (by omega), iv, iv, br_F' (nI_ne1 (by omega)) ?_⟩
        have e : cnN G (k + 1) = cnN G k := cntB_succ_f (by rw [hz]; exact Bool.false_ne_true)
        rw [e] at nx
        show P_Mo_part_526 Q (d + 1) (nI n) (nI (cnN G k)) (nI (k + 1)) (putI N 55 k (N.1 55 (nI j).toNatClampNeg))
        rw [cl_nI (n := j) (by omega), hN j hj]
        exact nx _ (sN.putI (by simp)) (fin _ (by rw [TR_at, hz]))
  exact ⟨n + 1, key n 0 (by omega) M (Same.refl _ _) (fun i hi => absurd hi (Nat.not_lt_zero _))⟩
end Told
