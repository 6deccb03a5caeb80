/-! the log's reads -/
theorem ix_c (i f : Nat) : nI i * 8 + nI f = nI (8 * i + f) := by
  rw [show (8 : Int32) = nI 8 from rfl, pk_mul, nI_add, Nat.mul_comm]
theorem ix_m (i f : Nat) : 8 * nI i + nI f = nI (8 * i + f) := by
  rw [show (8 : Int32) = nI 8 from rfl, pk_mul, nI_add]
theorem ix_m0 (i : Nat) : 8 * nI i = nI (8 * i) := by
  rw [show (8 : Int32) = nI 8 from rfl, pk_mul]
theorem P_cell_in {Q : Int32 → Mem → Prop} {M : Mem} {e i f : Nat} (h : M.1 11 1 = nI e) (he : e ≤ 200) (hi : i < e) (hf : f < 8) (hQ : Q (M.1 12 (8 * i + f)) M) : P_Log_cell (nI i) (nI f) M Q := by
  unfold P_Log_cell P_Log_has
  refine br_F (nI_pos (by omega)) (br_F (by rw [h]; exact nI_ge hi (by omega)) (br_F (by decide) (br_F (nI_pos (by omega)) (br_F (nI_ge (b := 8) hf (by omega)) ?_))))
  rw [ix_c]
  exact ⟨in_nI (by omega) (by omega), by rw [cl_nI (by omega)]; exact hQ⟩
theorem P_cell_no {Q : Int32 → Mem → Prop} {M : Mem} {a f : Int32} (h : a < 0 ∨ M.1 11 1 ≤ a) (hQ : Q (-1) M) : P_Log_cell a f M Q := by
  unfold P_Log_cell P_Log_has
  rcases Classical.em (a < 0) with h1 | h1
  · exact br_T h1 (br_T rfl hQ)
  · exact br_F h1 (br_T (h.resolve_left h1) (br_T rfl hQ))
def isB (g : Nat → Int32) (kind ship : Int32) (i : Nat) : Bool := decide (g (8 * i) = kind) && decide (g (8 * i + 1) = ship)
theorem P_isOf_in {Q : Int32 → Mem → Prop} {M : Mem} {e i : Nat} {kind ship : Int32} (h : M.1 11 1 = nI e) (he : e ≤ 200) (hi : i < e) (hQ : Q (if isB (M.1 12) kind ship i then 1 else 0) M) : P_Log_isOf (nI i) kind ship M Q := by
  unfold P_Log_isOf
  refine P_cell_in (f := 0) h he hi (by omega) ?_
  by_cases h1 : M.1 12 (8 * i + 0) = kind
  · refine br_T' h1 (P_cell_in (f := 1) h he hi (by omega) ?_)
    by_cases h2 : M.1 12 (8 * i + 1) = ship
    · refine br_T' h2 ?_
      simpa [isB, show M.1 12 (8 * i) = kind from h1, h2] using hQ
    · refine br_F' h2 ?_
      simpa [isB, h2] using hQ
  · refine br_F' h1 ?_
    simpa [isB, show ¬ M.1 12 (8 * i) = kind from h1] using hQ
/-- the last place below n where p holds -/
def lastB (p : Nat → Bool) : Nat → Option Nat
  | 0 => none
  | n + 1 => if p n then some n else lastB p n
def oI (o : Option Nat) : Int32 := match o with
  | none => -1
  | some i => nI i
theorem lastB_lt {p : Nat → Bool} {n i : Nat} (h : lastB p n = some i) : i < n ∧ p i = true := by
  induction n with
  | zero => cases h
  | succ n ih =>
    unfold lastB at h
    by_cases hp : p n = true
    · rw [if_pos hp] at h
      cases h
      exact ⟨Nat.lt_succ_self _, hp⟩
    · rw [if_neg hp] at h
      exact ⟨Nat.lt_succ_of_lt (ih h).1, (ih h).2⟩
theorem lastB_congr {p q : Nat → Bool} {n : Nat} (h : ∀ i, i < n → p i = q i) : lastB p n = lastB q n := by
  induction n with
  | zero => rfl
  | succ n ih =>
    unfold lastB
    rw [h n (Nat.lt_succ_self _), ih (fun i hi => h i (Nat.lt_succ_of_lt hi))]
theorem nI_m1 (n : Nat) : nI n + (-1) = nI n - 1 := by rw [Int32.sub_eq_add_neg]
theorem P_latest {Q : Int32 → Mem → Prop} {M : Mem} {e : Nat} {kind ship : Int32} (h : M.1 11 1 = nI e) (he : e ≤ 200) (hQ : Q (oI (lastB (isB (M.1 12) kind ship) e)) M) : P_Log_latest kind ship M Q := by
  unfold P_Log_latest
  rw [h]
  have key : ∀ n, n ≤ e → Q (oI (lastB (isB (M.1 12) kind ship) n)) M → P_Log_latest_7 Q (n + 1) kind ship (nI n - 1) M := by
    intro n
    induction n with
    | zero =>
      intro _ hq
      unfold P_Log_latest_7
      exact br_T (by decide) hq
    | succ n ih =>
      intro hn hq
      unfold P_Log_latest_7
      rw [nI_pred]
      refine br_F (nI_pos (by omega)) (P_isOf_in h he (by omega) ?_)
      unfold lastB at hq
      by_cases hp : isB (M.1 12) kind ship n = true
      · rw [if_pos hp] at hq ⊢
        exact br_F (by decide) hq
      · rw [if_neg hp] at hq ⊢
        refine br_T rfl ?_
        rw [nI_m1]
        exact ih (by omega) hq
  exact ⟨e + 1, key e (Nat.le_refl _) hQ⟩
theorem P_mosize {Q : Int32 → Mem → Prop} {M : Mem} {e : Nat} {ship : Int32} (h : M.1 35 11 = nI e) (he : e ≤ 200) (hQ : Q (match lastB (isB (M.1 41) 2 ship) e with | none => -1 | some i => M.1 41 (8 * i + 6)) (putI M 35 0 0)) : P_Mo_size ship M Q := by
  unfold P_Mo_size
  rw [h]
  have e41 : (putI M 35 0 0).1 41 = M.1 41 := rfl
  have key : ∀ n, n ≤ e → Q (match lastB (isB (M.1 41) 2 ship) n with | none => -1 | some i => M.1 41 (8 * i + 6)) (putI M 35 0 0) → P_Mo_size_12 Q (n + 1) ship (nI n - 1) (putI M 35 0 0) := by
    intro n
    induction n with
    | zero =>
      intro _ hq
      unfold P_Mo_size_12
      exact br_T (by decide) hq
    | succ n ih =>
      intro hn hq
      unfold P_Mo_size_12
      rw [nI_pred, show 8 * nI n + 1 = nI (8 * n + 1) from ix_m n 1, show 8 * nI n + 6 = nI (8 * n + 6) from ix_m n 6, ix_m0, nI_m1, cl_nI (by omega), cl_nI (by omega), cl_nI (by omega), e41]
      refine br_F (nI_pos (by omega)) ⟨in_nI (by omega) (by omega), ?_⟩
      unfold lastB at hq
      by_cases h1 : M.1 41 (8 * n) = 2
      · refine br_T' h1 ⟨in_nI (by omega) (by omega), ?_⟩
        by_cases h2 : M.1 41 (8 * n + 1) = ship
        · refine br_T' h2 ⟨in_nI (by omega) (by omega), ?_⟩
          simpa [isB, h1, h2] using hq
        · refine br_F' h2 (ih (by omega) ?_)
          simpa [isB, h2] using hq
      · refine br_F' h1 (ih (by omega) ?_)
        simpa [isB, h1] using hq
  exact ⟨e + 1, key e (Nat.le_refl _) hQ⟩
/-! the plain calls -/
section Easy
variable {k : Nat} {M : Mem} {K : Mem → Prop}
theorem op_wait (h : Inv k M) (a : Int32) (hK : ∀ N, Inv (k + 1) N → K N) : P_Sv_wait a M fun r M1 => P_Mo_wait a M1 fun r2 M2 => (r = r2 → K M2) ∧ (¬ r = r2 → (0 : Int32) = 1) := by
  have h0 := h
  obtain ⟨a1, ⟨t, ht, n1, n2⟩, a3, a4, a5, a6, a7, a8, a9, a10⟩ := h
  unfold P_Sv_wait P_Mo_wait
  refine ⟨fun h1 => br_T h1 (res_eq rfl (hK _ (h0.thrown 0))), fun h1 => ⟨fun h2 => br_F h1 (br_T h2 (res_eq rfl (hK _ (h0.thrown 0)))), fun h2 => ?_⟩⟩
  rw [i_lt] at h1 h2
  have l1 : (100000 : Int32).toInt = 100000 := by decide
  have l2 : (2000000 : Int32).toInt = 2000000 := by decide
  have l3 : (0 : Int32).toInt = 0 := by decide
  rw [l3] at h1
  rw [l1] at h2
  have hn : (M.1 0 10).toInt = t := by rw [n1]; exact i_nI (by omega)
  have hn2 : (M.1 35 7).toInt = t := by rw [n2]; exact i_nI (by omega)
  have e1 : ((2000000 : Int32) - M.1 0 10).toInt = 2000000 - t := by rw [i_sub, l2, hn] <;> omega
  have e2 : (M.1 35 7 + a).toInt = t + a.toInt := by rw [i_add, hn2] <;> omega
  have hh1 : ¬ a < 0 := by rw [i_lt, l3]; exact h1
  have hh2 : ¬ 100000 < a := by rw [i_lt, l1]; exact h2
  refine ⟨fun h3 => br_F hh1 (br_F hh2 (br_T ?_ (res_eq rfl (hK _ ?_)))), fun h3 => br_F hh1 (br_F hh2 (br_F ?_ (res_eq rfl (hK _ (h0.thrown 0)))))⟩
  · show M.1 35 7 + a ≤ 2000000
    rw [i_le, e1] at h3
    rw [i_le, e2, l2]
    omega
  · rw [i_le, e1] at h3
    refine ⟨a1.congr rfl rfl rfl rfl, ⟨(t + a.toInt).toNat, by omega, ?_, ?_⟩, a3.congr (Nat.le_succ k) rfl rfl rfl rfl rfl rfl, a4.congr (Nat.le_succ k) rfl rfl rfl rfl rfl rfl, a5.congr rfl rfl rfl, a6.congr rfl rfl rfl rfl,
      a7.congr rfl rfl rfl rfl ?_ rfl rfl rfl rfl rfl rfl rfl rfl rfl rfl rfl rfl rfl, a8.congr rfl rfl rfl rfl, a9.congr rfl rfl rfl rfl rfl rfl rfl rfl rfl rfl, a10.congr rfl rfl⟩
    · show M.1 0 10 + a = _
      rw [i_eq, i_add, hn, i_nI] <;> omega
    · show M.1 35 7 + a = _
      rw [i_eq, e2, i_nI] <;> omega
    · show (M.1 0 10).toInt ≤ (M.1 0 10 + a).toInt
      rw [i_add, hn] <;> omega
  · show ¬ M.1 35 7 + a ≤ 2000000
    rw [i_le, e1] at h3
    rw [i_le, e2, l2]
    omega
theorem op_end (h : Inv k M) (a : Int32) (hK : ∀ N, Inv (k + 1) N → K N) : P_Sv_end a M fun r M1 => P_Mo_end a M1 fun r2 M2 => (r = r2 → K M2) ∧ (¬ r = r2 → (0 : Int32) = 1) := by
  have h0 := h
  obtain ⟨⟨u, hu, n1, n2, n3⟩, a2, a3, a4, a5, a6, a7, a8, a9, a10⟩ := h
  unfold P_Sv_end P_Tape_cutTo P_Mo_end
  refine ⟨fun h1 => br_T h1 (res_eq rfl (hK _ (h0.thrown 0))), fun h1 => ⟨fun h2 => br_F h1 (br_T ?_ (res_eq rfl (hK _ ?_))), fun h2 => br_F h1 (br_F ?_ (res_eq rfl (hK _ (h0.thrown 0))))⟩⟩
  · show a ≤ M.1 35 2
    rw [n2, ← n1]; exact h2
  · obtain ⟨j, hj, rfl⟩ := i_of (a := a) (by have h9 := h1; rw [i_lt, show (0 : Int32).toInt = 0 from (by decide)] at h9; omega)
    have hju : j ≤ u := by
      rw [n1, i_le, i_nI hj, i_nI (by omega)] at h2
      omega
    exact ⟨⟨j, by omega, rfl, rfl, fun i hi => n3 i (by omega)⟩, a2.congr rfl rfl, a3.congr (Nat.le_succ k) rfl rfl rfl rfl rfl rfl, a4.congr (Nat.le_succ k) rfl rfl rfl rfl rfl rfl, a5.congr rfl rfl rfl, a6.congr rfl rfl rfl rfl,
      a7.congr rfl rfl rfl rfl (Int.le_refl _) rfl rfl rfl rfl rfl rfl rfl rfl rfl rfl rfl rfl rfl, a8.congr rfl rfl rfl rfl, a9.congr rfl rfl rfl rfl rfl rfl rfl rfl rfl rfl, a10.congr rfl rfl⟩
  · show ¬ a ≤ M.1 35 2
    rw [n2, ← n1]; exact h2
theorem op_cost (h : Inv k M) (hK : ∀ N, Inv (k + 1) N → K N) : P_Sv_cost M fun r M1 => P_Mo_cost M1 fun r2 M2 => (r = r2 → K M2) ∧ (¬ r = r2 → (0 : Int32) = 1) :=
  res_eq h.2.2.2.2.2.2.2.2.1.2 (hK _ (h.thrown 0))
theorem op_when (h : Inv k M) (hK : ∀ N, Inv (k + 1) N → K N) : P_Sv_when M fun r M1 => P_Mo_when M1 fun r2 M2 => (r = r2 → K M2) ∧ (¬ r = r2 → (0 : Int32) = 1) :=
  res_eq h.2.2.2.2.2.2.2.2.2 (hK _ (h.thrown 0))
theorem op_texts (h : Inv k M) (hK : ∀ N, Inv (k + 1) N → K N) : P_Sv_texts M fun r M1 => P_Mo_texts M1 fun r2 M2 => (r = r2 → K M2) ∧ (¬ r = r2 → (0 : Int32) = 1) := by
  obtain ⟨e, -, -, -, -, t, h1, h2, -⟩ := h.2.2.2.2.2.2.1
  exact res_eq (h1.trans h2.symm) (hK _ (h.thrown 0))
theorem op_size (h : Inv k M) (a : Int32) (hK : ∀ N, Inv (k + 1) N → K N) : P_Sv_size a M fun r M1 => P_Mo_size a M1 fun r2 M2 => (r = r2 → K M2) ∧ (¬ r = r2 → (0 : Int32) = 1) := by
  obtain ⟨e, ⟨he, h1, h2, h3, -⟩, -⟩ := h.2.2.2.2.2.2.1
  unfold P_Sv_size
  have hl : lastB (isB (M.1 41) 2 a) e = lastB (isB (M.1 12) 2 a) e := lastB_congr (fun i hi => by unfold isB; rw [h3 _ (by omega), h3 _ (by omega)])
  refine P_latest h1 he ?_
  cases hb : lastB (isB (M.1 12) 2 a) e with
  | none =>
    refine br_T' rfl (P_mosize h2 he ?_)
    rw [hl, hb]
    exact res_eq rfl (hK _ (h.thrown 0))
  | some i =>
    have hi := (lastB_lt hb).1
    refine br_F' ?_ (P_cell_in (f := 6) h1 he hi (by omega) (P_mosize h2 he ?_))
    · show ¬ nI i = -1
      rw [i_eq, i_nI (by omega), i_m1]; omega
    · rw [hl, hb]
      exact res_eq (h3 _ (by omega)).symm (hK _ (h.thrown 0))
theorem op_count (h : Inv k M) (a : Int32) (hK : ∀ N, Inv (k + 1) N → K N) : P_Sv_count a M fun r M1 => P_Mo_count a M1 fun r2 M2 => (r = r2 → K M2) ∧ (¬ r = r2 → (0 : Int32) = 1) := by
  have hN := hK _ (h.thrown 0)
  obtain ⟨⟨u, hu, t1, t2, -⟩, ⟨t, ht, n1, n2⟩, a3, a4, a5, a6, ⟨e, ⟨he, l1, l2, -⟩, -⟩, ⟨o, ho, o1, o2, -⟩, -, -⟩ := h
  have eo : M.1 9 1 >>> ((3 : Int32) &&& 31) = M.1 35 23 := by
    rw [o1, o2, pk_shrN (by omega) _ 3 (by decide)]
    congr 1; omega
  have in0 : vp_in 0 2 := in_nI (n := 0) (by omega) (by omega)
  have in1 : vp_in 1 2 := in_nI (n := 1) (by omega) (by omega)
  unfold P_Sv_count P_Log_entries P_Ear_torn P_Tape_length P_Sender_bytes P_Ear_bitsPut P_Mo_count
  by_cases c0 : a = 0
  · subst c0; simp [n1, n2, hN]
  by_cases c1 : a = 1
  · subst c1; simp [a6.1, hN]
  by_cases c2 : a = 2
  · subst c2; simp [l1, l2, hN]
  by_cases c3 : a = 3
  · subst c3; simp [a6.2, hN]
  by_cases c4 : a = 4
  · subst c4; simp [show M.1 3 4 + M.1 5 4 = M.1 35 8 from a5, hN]
  by_cases c5 : a = 5
  · subst c5; simp [t1, t2, hN]
  by_cases c6 : a = 6
  · subst c6; simp only [eo]; simp [hN]
  by_cases c7 : a = 7
  · subst c7; simp [a3.2.2.2.1, hN, in0]
  by_cases c8 : a = 8
  · subst c8; simp [a4.2.2.2.1, hN, in1]
  simp [c0, c1, c2, c3, c4, c5, c6, c7, c8, hN]
end Easy
