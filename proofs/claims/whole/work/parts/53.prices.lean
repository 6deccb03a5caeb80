/-! who may follow whom, and at what price -/
theorem sq_nn (x : Int) : 0 ≤ x * x := by
  rcases Int.le_total 0 x with h | h
  · exact Int.mul_nonneg h h
  · exact Int.mul_nonneg_of_nonpos_of_nonpos h h
theorem d64 {a b : Int32} (ha : -32768 ≤ a.toInt ∧ a.toInt ≤ 32767) (hb : -32768 ≤ b.toInt ∧ b.toInt ≤ 32767) : (Int32.toInt64 (a - b)).toInt = a.toInt - b.toInt := by
  rw [j_i, i_sub (by omega) (by omega)]
theorem sqb {x : Int} (h : -65535 ≤ x ∧ x ≤ 65535) : 0 ≤ x * x ∧ x * x ≤ 4294836225 := by
  have h1 := mul_bd (X := 65535) (Y := 65535) h h
  have h2 := sq_nn x
  omega
theorem sq64 {a b c d : Int32} (ha : -32768 ≤ a.toInt ∧ a.toInt ≤ 32767) (hb : -32768 ≤ b.toInt ∧ b.toInt ≤ 32767) (hc : -32768 ≤ c.toInt ∧ c.toInt ≤ 32767) (hd : -32768 ≤ d.toInt ∧ d.toInt ≤ 32767) :
    (Int32.toInt64 (a - b) * Int32.toInt64 (a - b) + Int32.toInt64 (c - d) * Int32.toInt64 (c - d)).toInt = (a.toInt - b.toInt) * (a.toInt - b.toInt) + (c.toInt - d.toInt) * (c.toInt - d.toInt) := by
  have e1 := d64 ha hb
  have e2 := d64 hc hd
  have b1 := sqb (x := a.toInt - b.toInt) (by omega)
  have b2 := sqb (x := c.toInt - d.toInt) (by omega)
  have m1 : (Int32.toInt64 (a - b) * Int32.toInt64 (a - b)).toInt = (a.toInt - b.toInt) * (a.toInt - b.toInt) := by rw [j_mul (by rw [e1]; omega) (by rw [e1]; omega), e1]
  have m2 : (Int32.toInt64 (c - d) * Int32.toInt64 (c - d)).toInt = (c.toInt - d.toInt) * (c.toInt - d.toInt) := by rw [j_mul (by rw [e2]; omega) (by rw [e2]; omega), e2]
  rw [j_add (by rw [m1, m2]; omega) (by rw [m1, m2]; omega), m1, m2]
theorem rb {s d : Int} (hs : 1 ≤ s ∧ s ≤ 1000) (hd : -2000000 ≤ d ∧ d ≤ 2000000) : (-2000000000 ≤ s * d ∧ s * d ≤ 2000000000) ∧ 0 ≤ (s * d) * (s * d) ∧ (s * d) * (s * d) ≤ 4000000000000000000 := by
  have h1 := mul_bd (X := 1000) (Y := 2000000) (x := s) (y := d) (by omega) hd
  have h2 := mul_bd (X := 2000000000) (Y := 2000000000) (x := s * d) (y := s * d) (by omega) (by omega)
  have h3 := sq_nn (s * d)
  omega
theorem dt64 {s a b : Int32} (hs : 1 ≤ s.toInt ∧ s.toInt ≤ 1000) (ha : 0 ≤ a.toInt ∧ a.toInt ≤ 2000000) (hb : 0 ≤ b.toInt ∧ b.toInt ≤ 2000000) : (Int32.toInt64 s * Int32.toInt64 (a - b)).toInt = s.toInt * (a.toInt - b.toInt) ∧ (Int32.toInt64 s * Int32.toInt64 (a - b) * (Int32.toInt64 s * Int32.toInt64 (a - b))).toInt = (s.toInt * (a.toInt - b.toInt)) * (s.toInt * (a.toInt - b.toInt)) := by
  have e1 : (Int32.toInt64 (a - b)).toInt = a.toInt - b.toInt := by rw [j_i, i_sub (by omega) (by omega)]
  have b1 := rb (s := s.toInt) (d := a.toInt - b.toInt) hs (by omega)
  have m1 : (Int32.toInt64 s * Int32.toInt64 (a - b)).toInt = s.toInt * (a.toInt - b.toInt) := by rw [j_mul (by rw [e1, j_i]; omega) (by rw [e1, j_i]; omega), e1, j_i]
  exact ⟨m1, by rw [j_mul (by rw [m1]; omega) (by rw [m1]; omega), m1]⟩
theorem td64 {s a b : Int32} (hs : 1 ≤ s.toInt ∧ s.toInt ≤ 1000) (ha : 0 ≤ a.toInt ∧ a.toInt ≤ 2000000) (hb : 0 ≤ b.toInt ∧ b.toInt ≤ 2000000) : (Int32.toInt64 (a - b)).toInt = a.toInt - b.toInt ∧ (Int32.toInt64 (a - b) * Int32.toInt64 s * (Int32.toInt64 (a - b) * Int32.toInt64 s)).toInt = (s.toInt * (a.toInt - b.toInt)) * (s.toInt * (a.toInt - b.toInt)) := by
  have e1 : (Int32.toInt64 (a - b)).toInt = a.toInt - b.toInt := by rw [j_i, i_sub (by omega) (by omega)]
  have b1 := rb (s := s.toInt) (d := a.toInt - b.toInt) hs (by omega)
  have cm : (a.toInt - b.toInt) * s.toInt = s.toInt * (a.toInt - b.toInt) := Int.mul_comm _ _
  have m1 : (Int32.toInt64 (a - b) * Int32.toInt64 s).toInt = s.toInt * (a.toInt - b.toInt) := by rw [j_mul (by rw [e1, j_i, cm]; omega) (by rw [e1, j_i, cm]; omega), e1, j_i, cm]
  exact ⟨e1, by rw [j_mul (by rw [m1]; omega) (by rw [m1]; omega), m1]⟩
def xI (g : Nat → Int32) (i : Nat) : Int := (g (8 * i + 4)).toInt
def yI (g : Nat → Int32) (i : Nat) : Int := (g (8 * i + 5)).toInt
def pP (g : Nat → Int32) (s : Nat → Nat) (k j : Nat) : Int := (xI g (s k) - xI g (s j)) * (xI g (s k) - xI g (s j)) + (yI g (s k) - yI g (s j)) * (yI g (s k) - yI g (s j))
def aP (g : Nat → Int32) (s : Nat → Nat) (n : Nat) (sp : Int) (k j : Nat) : Bool := decide (j < k) && decide (k < n) && decide (tI g (s j) < tI g (s k)) && decide (pP g s k j ≤ (sp * (tI g (s k) - tI g (s j))) * (sp * (tI g (s k) - tI g (s j))))
/-- the gathered rows are positions, sorted -/
def PR (g : Nat → Int32) (s : Nat → Nat) (n : Nat) : Prop := (∀ i, i < n → (-32768 ≤ xI g (s i) ∧ xI g (s i) ≤ 32767) ∧ (-32768 ≤ yI g (s i) ∧ yI g (s i) ≤ 32767) ∧ 0 ≤ tI g (s i) ∧ tI g (s i) ≤ 2000000) ∧ ∀ i j, i ≤ j → j < n → tI g (s i) ≤ tI g (s j)
section Pr
variable {g : Nat → Int32} {s : Nat → Nat} {n : Nat} {sp : Int}
theorem aP_lt : ∀ k j, aP g s n sp k j = true → j < k := fun k j h => by
  unfold aP at h
  simp only [Bool.and_eq_true, decide_eq_true_eq] at h
  exact h.1.1.1
theorem aP_iff (pr : PR g s n) {k j : Nat} (hk : k < n) (hj : j < n) : aP g s n sp k j = true ↔ tI g (s j) < tI g (s k) ∧ pP g s k j ≤ (sp * (tI g (s k) - tI g (s j))) * (sp * (tI g (s k) - tI g (s j))) := by
  unfold aP
  simp only [Bool.and_eq_true, decide_eq_true_eq]
  constructor
  · exact fun h => ⟨h.1.2, h.2⟩
  · refine fun h => ⟨⟨⟨?_, hk⟩, h.1⟩, h.2⟩
    rcases Nat.lt_or_ge j k with z | z
    · exact z
    · have := pr.2 k j z hj
      omega
theorem pP_rng (pr : PR g s n) : ∀ k j, k < n → j < n → 0 ≤ pP g s k j ∧ pP g s k j ≤ PMX := fun k j hk hj => by
  have h1 := pr.1 k hk
  have h2 := pr.1 j hj
  have b1 := sqb (x := xI g (s k) - xI g (s j)) (by omega)
  have b2 := sqb (x := yI g (s k) - yI g (s j)) (by omega)
  unfold pP PMX
  omega
end Pr
theorem PR_of {e : Nat} {ship : Int32} {M : Mem} (h : ILog e M) : PR (M.1 12) (gS (M.1 12) ship e).2 (gS (M.1 12) ship e).1 := by
  obtain ⟨-, -, -, -, rec, -, -⟩ := h
  obtain ⟨o1, o2⟩ := gS_ok (M.1 12) ship e
  refine ⟨fun i hi => ?_, o2⟩
  obtain ⟨h1, h2⟩ := o1 i hi
  obtain ⟨⟨t, t1, t2⟩, -, r1, -⟩ := rec _ h1
  unfold isB at h2
  simp only [Bool.and_eq_true, decide_eq_true_eq] at h2
  obtain ⟨a1, a2, -, -⟩ := r1 h2.1
  have t2 : M.1 12 (8 * (gS (M.1 12) ship e).2 i + 3) = nI t := t2
  refine ⟨a1, a2, ?_⟩
  unfold tI
  rw [t2, i_nI (by omega)]
  omega
/-! the model's prices -/
section Mo
variable {g : Nat → Int32} {s : Nat → Nat} {n : Nat} {sp : Int32}
theorem P_mo180 {k : Nat} {M : Mem} {Q : Int32 → Mem → Prop} {K149 : Int32 → Int32 → Int32 → Mem → Prop} (pr : PR (M.1 41) s n) (hn : n ≤ 16) (hk : k < n) (hsp : 1 ≤ sp.toInt ∧ sp.toInt ≤ 1000) (h52 : ∀ i, i < n → M.1 52 i = nI (s i)) (hse : ∀ i, i < n → s i < 200)
    (hK : ∀ N, Same [57, 58] M N → (∀ i, i < 16 * k → N.1 58 i = M.1 58 i ∧ N.2 57 i = M.2 57 i) → (∀ j, j < n → N.1 58 (16 * k + j) = (if aP (M.1 41) s n sp.toInt k j then 1 else 0) ∧ (N.2 57 (16 * k + j)).toInt = pP (M.1 41) s k j) → K149 sp (nI n) (nI (k + 1)) N) : ∃ q, P_Mo_part_180 K149 Q q sp (nI n) (nI k) 0 M := by
  have key : ∀ d j, j + d = n → ∀ N, Same [57, 58] M N → (∀ i, i < 16 * k → N.1 58 i = M.1 58 i ∧ N.2 57 i = M.2 57 i) → (∀ j', j' < j → N.1 58 (16 * k + j') = (if aP (M.1 41) s n sp.toInt k j' then 1 else 0) ∧ (N.2 57 (16 * k + j')).toInt = pP (M.1 41) s k j') → P_Mo_part_180 K149 Q (d + 1) sp (nI n) (nI k) (nI j) N := by
    intro d
    induction d with
    | zero =>
      intro j hj N sN lo hN
      have : j = n := by omega
      subst this
      unfold P_Mo_part_180
      rw [nI_1 k]
      exact br_T (nI_le (by omega) (by omega)) (hK N sN lo hN)
    | succ d ih =>
      intro j hj N sN lo hN
      have hjn : j < n := by omega
      have hsk := hse k hk
      have hsj := hse j hjn
      have n52k : N.1 52 k = nI (s k) := by rw [(sN 52 (by decide)).1]; exact h52 k hk
      have n52j : N.1 52 j = nI (s j) := by rw [(sN 52 (by decide)).1]; exact h52 j hjn
      have n41 : N.1 41 = M.1 41 := (sN 41 (by decide)).1
      unfold P_Mo_part_180
      rw [cl_nI (n := k) (by omega), cl_nI (n := j) (by omega), n52k, n52j, ix16, cl_nI (n := 16 * k + j) (by omega),
        show (8 : Int32) * nI (s k) + 3 = nI (8 * s k + 3) from ix_m (s k) 3, show (8 : Int32) * nI (s k) + 4 = nI (8 * s k + 4) from ix_m (s k) 4, show (8 : Int32) * nI (s k) + 5 = nI (8 * s k + 5) from ix_m (s k) 5,
        show (8 : Int32) * nI (s j) + 3 = nI (8 * s j + 3) from ix_m (s j) 3, show (8 : Int32) * nI (s j) + 4 = nI (8 * s j + 4) from ix_m (s j) 4, show (8 : Int32) * nI (s j) + 5 = nI (8 * s j + 5) from ix_m (s j) 5,
        cl_nI (n := 8 * s k + 3) (by omega), cl_nI (n := 8 * s k + 4) (by omega), cl_nI (n := 8 * s k + 5) (by omega), cl_nI (n := 8 * s j + 3) (by omega), cl_nI (n := 8 * s j + 4) (by omega), cl_nI (n := 8 * s j + 5) (by omega), n41, nI_1 j]
      have iv : ∀ q, q < 1600 → vp_in (nI q) 1600 := fun q hq => in_nI hq (by omega)
      have rk := pr.1 k hk
      have rj := pr.1 j hjn
      have hp := sq64 (a := M.1 41 (8 * s k + 4)) (b := M.1 41 (8 * s j + 4)) (c := M.1 41 (8 * s k + 5)) (d := M.1 41 (8 * s j + 5)) rk.1 rj.1 rk.2.1 rj.2.1
      obtain ⟨ht1, ht2⟩ := dt64 (s := sp) (a := M.1 41 (8 * s k + 3)) (b := M.1 41 (8 * s j + 3)) hsp rk.2.2 rj.2.2
      have nx : ∀ w : Int32, w = (if aP (M.1 41) s n sp.toInt k j then 1 else 0) → P_Mo_part_180 K149 Q (d + 1) sp (nI n) (nI k) (nI (j + 1)) (putI (putL N 57 (16 * k + j) (Int32.toInt64 (M.1 41 (8 * s k + 4) - M.1 41 (8 * s j + 4)) * Int32.toInt64 (M.1 41 (8 * s k + 4) - M.1 41 (8 * s j + 4)) + Int32.toInt64 (M.1 41 (8 * s k + 5) - M.1 41 (8 * s j + 5)) * Int32.toInt64 (M.1 41 (8 * s k + 5) - M.1 41 (8 * s j + 5)))) 58 (16 * k + j) w) := fun w hw => by
        refine ih (j + 1) (by omega) _ ((sN.putL (by simp)).putI (by simp)) (fun i hi => ?_) (fun j' hj' => ?_)
        · rw [putI_at, if_neg (by omega)]
          refine ⟨(lo i hi).1, ?_⟩
          show (putL N 57 (16 * k + j) _).2 57 i = _
          rw [putL_at, if_neg (by omega)]
          exact (lo i hi).2
        · refine ⟨?_, ?_⟩
          · rw [putI_at]
            by_cases hjj : j' = j
            · rw [if_pos ⟨rfl, by omega⟩, hjj]; exact hw
            · rw [if_neg (fun x => hjj (by have := x.2; omega))]; exact (hN j' (by omega)).1
          · show ((putL N 57 (16 * k + j) (Int32.toInt64 (M.1 41 (8 * s k + 4) - M.1 41 (8 * s j + 4)) * Int32.toInt64 (M.1 41 (8 * s k + 4) - M.1 41 (8 * s j + 4)) + Int32.toInt64 (M.1 41 (8 * s k + 5) - M.1 41 (8 * s j + 5)) * Int32.toInt64 (M.1 41 (8 * s k + 5) - M.1 41 (8 * s j + 5)))).2 57 (16 * k + j')).toInt = _
            rw [putL_at]
            by_cases hjj : j' = j
            · rw [if_pos ⟨rfl, by omega⟩, hjj]; exact hp
            · rw [if_neg (fun x => hjj (by have := x.2; omega))]; exact (hN j' (by omega)).2
      have iff := aP_iff (sp := sp.toInt) pr hk hjn
      have ett : sp.toInt * ((M.1 41 (8 * s k + 3)).toInt - (M.1 41 (8 * s j + 3)).toInt) = sp.toInt * (tI (M.1 41) (s k) - tI (M.1 41) (s j)) := rfl
      refine br_F (nI_ge (by omega) (by omega)) ⟨in_nI (by omega) (by omega), iv _ (by omega), in_nI (by omega) (by omega), iv _ (by omega), iv _ (by omega), iv _ (by omega), iv _ (by omega), iv _ (by omega), in_nI (by omega) (by omega), ?_⟩
      rw [j_le, ht1, show (0 : Int64).toInt = 0 by decide, j_lt, ht2, hp, ett]
      refine ⟨fun h1 => nx 0 ?_, fun h1 => ⟨fun h2 => nx 0 ?_, fun h2 => nx 1 ?_⟩⟩
      · rw [if_neg (fun x => ?_)]
        have h3 := (iff.mp x).1
        have := Int.mul_pos (a := sp.toInt) (b := tI (M.1 41) (s k) - tI (M.1 41) (s j)) (by omega) (by omega)
        omega
      · rw [if_neg (fun x => ?_)]
        have h3 := (iff.mp x).2
        have h2 : sp.toInt * (tI (M.1 41) (s k) - tI (M.1 41) (s j)) * (sp.toInt * (tI (M.1 41) (s k) - tI (M.1 41) (s j))) < pP (M.1 41) s k j := h2
        omega
      · rw [if_pos (iff.mpr ⟨?_, ?_⟩)]
        · rcases Int.lt_or_le (tI (M.1 41) (s j)) (tI (M.1 41) (s k)) with z | z
          · exact z
          · exfalso
            have := mul_bd (X := 1000) (Y := 0) (x := 0) (y := 0) (by omega) (by omega)
            have h5 : 0 ≤ sp.toInt * (tI (M.1 41) (s j) - tI (M.1 41) (s k)) := Int.mul_nonneg (by omega) (by omega)
            have h6 : sp.toInt * (tI (M.1 41) (s j) - tI (M.1 41) (s k)) = - (sp.toInt * (tI (M.1 41) (s k) - tI (M.1 41) (s j))) := by rw [← Int.mul_neg]; congr 1; omega
            omega
        · have h2 : ¬ sp.toInt * (tI (M.1 41) (s k) - tI (M.1 41) (s j)) * (sp.toInt * (tI (M.1 41) (s k) - tI (M.1 41) (s j))) < pP (M.1 41) s k j := h2
          omega
  exact ⟨n + 1, key n 0 (by omega) M (Same.refl _ _) (fun i _ => ⟨rfl, rfl⟩) (fun j' hj' => absurd hj' (Nat.not_lt_zero _))⟩
theorem P_mo149 {M : Mem} {Q : Int32 → Mem → Prop} (pr : PR (M.1 41) s n) (hn : n ≤ 16) (hsp : 1 ≤ sp.toInt ∧ sp.toInt ≤ 1000) (h52 : ∀ i, i < n → M.1 52 i = nI (s i)) (hse : ∀ i, i < n → s i < 200)
    (hQ : ∀ N G, Same [35, 51, 53, 54, 55, 56, 57, 58, 59, 60, 61] M N → (∀ f, f ≠ 37 → f ≠ 40 → N.1 35 f = M.1 35 f) → N.1 35 37 = nI n → Lex n (aP (M.1 41) s n sp.toInt) (pP (M.1 41) s) G → (∀ i, i < n → N.1 51 i = nI (s i) ∧ N.1 56 i = oI (G i) ∧ N.1 55 i = nI (TR G n i)) → (N.2 35 38).toInt = csF n (pP (M.1 41) s) G → Q (nI (cnN G n)) N) : ∃ q, P_Mo_part_149 Q q sp (nI n) 0 M := by
  have hAj := aP_lt (g := M.1 41) (s := s) (n := n) (sp := sp.toInt)
  have hp := pP_rng pr
  have hpB : ∀ k j, k < n → aP (M.1 41) s n sp.toInt k j = true → 0 ≤ pP (M.1 41) s k j ∧ pP (M.1 41) s k j ≤ PMX := fun k j hk h => hp k j hk (by have := hAj k j h; omega)
  have key : ∀ d k, k + d = n → ∀ N, Same [51, 57, 58, 59] M N → (∀ i, i < k → N.1 51 i = nI (s i) ∧ N.1 59 i = 0) → (∀ k' j', k' < k → j' < n → N.1 58 (16 * k' + j') = (if aP (M.1 41) s n sp.toInt k' j' then 1 else 0) ∧ (N.2 57 (16 * k' + j')).toInt = pP (M.1 41) s k' j') → P_Mo_part_149 Q (d + 1) sp (nI n) (nI k) N := by
    intro d
    induction d with
    | zero =>
      intro k hk N sN a51 pd
      have : k = n := by omega
      subst this
      unfold P_Mo_part_149
      refine br_T (nI_le (by omega) (by omega)) ?_
      refine P_solve (m := 0) (F := fun _ => none) hAj hn (by omega) hp pd (fun i hi => by rw [if_neg (by omega)]; exact (a51 i hi).2) (fun i hi => absurd hi (Nat.not_lt_zero _)) (fun _ _ => rfl) ⟨fun _ _ _ h => (by cases h), fun _ _ _ _ _ h => (by cases h)⟩ (fun N1 G a' b' mr st vG pre c e40 e39 => ?_)
      have oG : Opt k (aP (M.1 41) s k sp.toInt) (pP (M.1 41) s) G := ⟨vG, fun H vH => cert_min c vG vH (fun i hi => absurd hi (Nat.not_lt_zero _)) (by omega)⟩
      rw [e40]
      refine P_rows (Gs := G) hAj hn hp (fun k' j' h1 h2 => st.1 k' j' h1 h2) (fun i hi => (st.2.1 i hi).trans (if_neg (by omega))) oG (by rw [putL_at, if_pos ⟨rfl, rfl⟩]; exact e39) (fun N2 G2 mt lx e56 => ?_)
      have m51 : N2.1 51 = N.1 51 := ((mt.1 51 (by decide)).1).trans (mr.1 51 (by decide)).1
      refine P_motracks hn (fun k' j' hk' h => hAj k' j' (lx.1.1.1 k' j' hk' h).1) e56 (fun N3 s3 e55 => ?_)
      have f35 : ∀ f, f ≠ 37 → f ≠ 40 → N3.1 35 f = M.1 35 f := fun f f1 f2 => by
        rw [(s3 35 (by decide)).1, mt.2.1 f f2]
        show N1.1 35 f = _
        rw [mr.2.1 f f2, putI_at, if_neg (fun x => f1 x.2), (sN 35 (by decide)).1]
      refine hQ N3 G2 ?_ f35 ?_ lx (fun i hi => ⟨?_, ?_, e55 i hi⟩) ?_
      · have q1 : Same [35, 51, 53, 54, 55, 56, 57, 58, 59, 60, 61] M (putI N 35 37 (nI k)) := (sN.mono (by simp)).putI (by simp)
        have q2 : Same [35, 51, 53, 54, 55, 56, 57, 58, 59, 60, 61] N1 (putL N1 35 38 (N1.2 35 39)) := (Same.refl _ _).putL (by simp)
        exact (((q1.trans (mr.1.mono (by simp))).trans q2).trans (mt.1.mono (by simp))).trans (s3.mono (by simp))
      · rw [(s3 35 (by decide)).1, mt.2.1 37 (by omega)]
        show N1.1 35 37 = _
        rw [mr.2.1 37 (by omega), putI_same]
      · rw [(s3 51 (by decide)).1, m51]; exact (a51 i hi).1
      · rw [(s3 56 (by decide)).1]; exact e56 i hi
      · rw [(s3 35 (by decide)).2, mt.2.2 38 (by omega), putL_at, if_pos ⟨rfl, rfl⟩, e39]
        exact ((VF_iff hn hpB vG lx.1.1).mp (oG.eq lx.1)).2
    | succ d ih =>
      intro k hk N sN a51 pd
      have hkn : k < n := by omega
      have n41 : N.1 41 = M.1 41 := (sN 41 (by decide)).1
      unfold P_Mo_part_149
      rw [cl_nI (n := k) (by omega)]
      have n52 : ∀ i, i < n → N.1 52 i = nI (s i) := fun i hi => by rw [(sN 52 (by decide)).1]; exact h52 i hi
      rw [n52 k hkn]
      refine br_F (nI_ge (by omega) (by omega)) ⟨in_nI (by omega) (by omega), P_mo180 (M := putI (putI N 51 k (nI (s k))) 59 k 0) (s := s) (by show PR (N.1 41) s n; rw [n41]; exact pr) hn hkn hsp n52 hse (fun N2 s2 lo hN => ?_)⟩
      have e41 : (putI (putI N 51 k (nI (s k))) 59 k 0).1 41 = M.1 41 := n41
      rw [e41] at hN
      refine ih (k + 1) (by omega) N2 (((sN.putI (by simp)).putI (by simp)).trans (s2.mono (by simp))) (fun i hi => ?_) (fun k' j' hk' hj' => ?_)
      · rw [(s2 51 (by decide)).1, (s2 59 (by decide)).1, putI_ne1 (c' := 51) (by omega), putI_at, putI_at, putI_ne1 (by omega)]
        by_cases hik : i = k
        · rw [if_pos ⟨rfl, hik⟩, if_pos ⟨rfl, hik⟩, hik]; exact ⟨rfl, rfl⟩
        · rw [if_neg (fun x => hik x.2), if_neg (fun x => hik x.2)]; exact a51 i (by omega)
      · by_cases hkk : k' = k
        · rw [hkk]; exact hN j' hj'
        · rw [(lo _ (by omega)).1, (lo _ (by omega)).2]
          exact pd k' j' (by omega) hj'
  exact ⟨n + 1, key n 0 (by omega) M (Same.refl _ _) (fun i hi => absurd hi (Nat.not_lt_zero _)) (fun k' _ hk' => absurd hk' (Nat.not_lt_zero _))⟩
end Mo
