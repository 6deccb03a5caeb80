/-! the law's loop, all calls -/
theorem Inv.succ {k : Nat} {M : Mem} (h : Inv k M) : Inv (k + 1) M := by
  obtain ⟨a1, a2, a3, a4, a5, a6, a7, a8, a9, a10⟩ := h
  exact ⟨a1, a2, a3.congr (Nat.le_succ k) rfl rfl rfl rfl rfl rfl, a4.congr (Nat.le_succ k) rfl rfl rfl rfl rfl rfl, a5, a6, a7, a8, a9, a10⟩
theorem Inv0 : Inv 0 M0 := by
  refine ⟨⟨0, by omega, rfl, rfl, fun j hj => absurd hj (Nat.not_lt_zero _)⟩, ⟨0, by omega, rfl, rfl⟩, ⟨rfl, Or.inl rfl, ⟨0, by omega, rfl, rfl, fun h => absurd h (by omega)⟩, rfl, Or.inl rfl⟩, ⟨rfl, Or.inl rfl, ⟨0, by omega, rfl, rfl, fun h => absurd h (by omega)⟩, rfl, Or.inl rfl⟩, ?_, ⟨rfl, rfl⟩, ⟨0, ⟨by omega, rfl, rfl, fun j hj => absurd hj (by omega), fun i hi => absurd hi (Nat.not_lt_zero _), fun i hi => absurd hi (Nat.not_lt_zero _), fun i j _ hj => absurd hj (Nat.not_lt_zero _)⟩, ⟨fun k hk => ?_, rfl⟩, ⟨fun i hi => absurd hi (Nat.not_lt_zero _), fun i _ _ => rfl, 0, rfl, rfl, by omega, fun i hi => absurd hi (Nat.not_lt_zero _)⟩⟩, ⟨0, by omega, rfl, rfl, fun k hk => absurd hk (Nat.not_lt_zero _)⟩, ⟨⟨0, by omega, rfl, rfl, fun k hk => absurd hk (Nat.not_lt_zero _)⟩, rfl⟩, rfl⟩
  · show (0 : Int32) + 0 = 0
    decide
  · show (0 : Int32) = nI (if k < 0 then clN (M0.1 12) k else 0)
    rw [if_neg (by omega)]
    rfl
theorem law_go (xs : Nat → Int32) (L : Nat) (hL : L ≤ 3584) : ∀ d k M, k + d = 600 → Inv k M → P_Law_law_23 xs L (d + 1) (nI (7 * k)) M := by
  have eL : (nI L - 7).toInt = (L : Int) - 7 := by
    rw [i_sub (by rw [i_nI (by omega), show (7 : Int32).toInt = 7 by decide]; omega) (by rw [i_nI (by omega), show (7 : Int32).toInt = 7 by decide]; omega), i_nI (by omega), show (7 : Int32).toInt = 7 by decide]
  intro d
  induction d with
  | zero =>
    intro k M hk h
    unfold P_Law_law_23
    refine ⟨fun _ => rfl, fun hc => absurd ?_ hc⟩
    show nI L - 7 < nI (7 * k)
    rw [i_lt, eL, i_nI (by omega)]
    omega
  | succ d ih =>
    intro k M hk h
    unfold P_Law_law_23
    refine ⟨fun _ => rfl, fun hc => ?_⟩
    have h7 : 7 * k + 7 ≤ L := by
      have hc : ¬ nI L - 7 < nI (7 * k) := hc
      rw [i_lt, eL, i_nI (by omega)] at hc
      omega
    have i0 : vp_in (nI (7 * k)) L := in_nI (by omega) (by omega)
    have i1 : vp_in (nI (7 * k) + 1) L := by rw [show nI (7 * k) + 1 = nI (7 * k + 1) from nI_add _ 1]; exact in_nI (by omega) (by omega)
    have i2 : vp_in (nI (7 * k) + 2) L := by rw [show nI (7 * k) + 2 = nI (7 * k + 2) from nI_add _ 2]; exact in_nI (by omega) (by omega)
    have i3 : vp_in (nI (7 * k) + 3) L := by rw [show nI (7 * k) + 3 = nI (7 * k + 3) from nI_add _ 3]; exact in_nI (by omega) (by omega)
    have i4 : vp_in (nI (7 * k) + 4) L := by rw [show nI (7 * k) + 4 = nI (7 * k + 4) from nI_add _ 4]; exact in_nI (by omega) (by omega)
    have i5 : vp_in (nI (7 * k) + 5) L := by rw [show nI (7 * k) + 5 = nI (7 * k + 5) from nI_add _ 5]; exact in_nI (by omega) (by omega)
    have i6 : vp_in (nI (7 * k) + 6) L := by rw [show nI (7 * k) + 6 = nI (7 * k + 6) from nI_add _ 6]; exact in_nI (by omega) (by omega)
    have nx : ∀ N, Inv (k + 1) N → P_Law_law_23 xs L (d + 1) (nI (7 * k) + 7) N := fun N hN => by
      rw [show nI (7 * k) + 7 = nI (7 * (k + 1)) from nI_add _ 7]
      exact ih (k + 1) N (by omega) hN
    refine ⟨i0, fun _ => ⟨i1, i2, i3, i4, i5, op_feed h _ _ _ _ _ nx⟩, fun _ => ⟨i1, op_end h _ nx⟩, fun _ => ⟨i1, op_hear (by omega) h _ nx⟩, fun _ => ⟨i1, op_wait h _ nx⟩, fun _ => ⟨i1, i2, i3, i4, i5, i6, op_build h _ _ _ _ _ _ nx⟩, fun _ => ⟨i1, op_octet h _ nx⟩, fun _ => ⟨i1, i2, op_message h _ _ nx⟩, fun _ => ⟨i1, i2, op_part h _ _ nx⟩, fun _ => op_cost h nx, fun _ => ⟨i1, i2, op_parted h _ _ nx⟩, fun _ => op_clashes h nx, fun _ => ⟨i1, i2, op_clash h _ _ nx⟩, fun _ => op_texts h nx, fun _ => ⟨i1, i2, op_text h _ _ nx⟩, fun _ => ⟨i1, i2, op_letter h _ _ nx⟩, fun _ => ⟨i1, i2, op_meet h _ _ nx⟩, fun _ => op_when h nx, fun _ => ⟨i1, op_size h _ nx⟩, fun _ => ⟨i1, op_count h _ nx⟩, ?_⟩
    intros
    exact nx M h.succ
theorem pure_all : ∀ (xs : Nat → Int32) (L : Nat), L ≤ 3584 → ∃ n, n ≤ 1000 ∧ P_Law_law_23 xs L n 0 M0 := fun xs L hL => ⟨601, by omega, law_go xs L hL 600 0 M0 rfl Inv0⟩
