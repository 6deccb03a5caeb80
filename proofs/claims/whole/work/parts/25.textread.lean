/-! texts are read -/
section TextRead
variable {k : Nat} {M : Mem} {K : Mem → Prop}
theorem P_wholeWith {Q : Int32 → Mem → Prop} {t i : Nat} (h : M.1 15 4 = nI t) (ht : t ≤ 100) (hi : i < t) (hQ : Q (M.1 18 i) M) : P_TextBook_wholeWith (nI i) M Q := by
  unfold P_TextBook_wholeWith
  refine br_F (nI_pos (by omega)) (br_F (by rw [h, nle_of (by omega) (by omega)]; omega) (br_F (by rw [show (100 : Int32) = nI 100 from rfl, nle_of (by omega) (by omega)]; omega) ⟨in_nI (by omega) (by omega), ?_⟩))
  rw [cl_nI (by omega)]
  exact hQ
theorem op_text (h : Inv k M) (a b : Int32) (hK : ∀ N, Inv (k + 1) N → K N) : P_Law_text a b M fun r M1 => P_Mo_text a b M1 fun r2 M2 => P_Mo_thrown M2 fun r3 M3 => (r3 = r → (¬ r = 0 → K M3) ∧ (r = 0 → vp_in 0 1 ∧ ((M3.2 62 0) = (Int32.toInt64 r2) → K M3) ∧ (¬ (M3.2 62 0) = (Int32.toInt64 r2) → (0 : Int32) = 1))) ∧ (¬ r3 = r → (0 : Int32) = 1) := by
  obtain ⟨e, ⟨he, l1, l2, l3, -⟩, -, -, -, t, t1, t2, t3, t4⟩ := h.2.2.2.2.2.2.1
  have ht : t ≤ 100 := by have := cntB_le (fun i => decide (M.1 16 i = 1)) e; omega
  have hX : ∀ v', P_Mo_thrown (putI M 35 0 1) fun r3 M3 => (r3 = 1 → (¬ (1 : Int32) = 0 → K M3) ∧ ((1 : Int32) = 0 → vp_in 0 1 ∧ ((M3.2 62 0) = (Int32.toInt64 v') → K M3) ∧ (¬ (M3.2 62 0) = (Int32.toInt64 v') → (0 : Int32) = 1))) ∧ (¬ r3 = 1 → (0 : Int32) = 1) := fun v' => fin_x (hK _ (h.thrown 1))
  unfold P_Law_text P_Sv_text P_TextBook_joined P_Mo_text P_Mo_refuse
  refine ⟨fun h1 => br_T h1 (hX _), fun h1 => ⟨fun h2 => br_F h1 (br_T (by show M.1 35 20 ≤ a; rw [t2, ← t1]; exact h2) (hX _)), fun h2 => ⟨fun h3 => br_F h1 (br_F (by show ¬ M.1 35 20 ≤ a; rw [t2, ← t1]; exact h2) (br_T h3 (hX _))), fun h3 => ⟨fun h4 => ?_, fun h4 => br_F h1 (br_F (by show ¬ M.1 35 20 ≤ a; rw [t2, ← t1]; exact h2) (br_F h3 (br_F h4 (hX _))))⟩⟩⟩⟩
  obtain ⟨i, hi, rfl⟩ := nn_of h1
  have hit : i < t := by rw [t1, nle_of (by omega) hi] at h2; omega
  have hm : ¬ M.1 35 20 ≤ nI i := by rw [t2, ← t1]; exact h2
  obtain ⟨w, w1, w2, w3, w4, w5, w6, w7, w8⟩ := t4 i hit
  have iv : vp_in (nI i) 100 := in_nI (by omega) (by omega)
  refine P_wholeWith t1 ht hit ?_
  rw [w3]
  refine ⟨fun c => P_cell_in (f := 1) l1 he w1 (by omega) ⟨in01, br_F h1 (br_F hm (br_F h3 (br_T h4 (br_T' c ⟨iv, ?_⟩))))⟩, fun c => P_cell_in (f := 4) l1 he w1 (by omega) ⟨in01, br_F h1 (br_F hm (br_F h3 (br_T h4 (br_F' (by rw [c]; decide) (br_T' c ⟨iv, ?_⟩)))))⟩, fun c => ?_, fun c0 c1 c2 => ⟨in01, br_F h1 (br_F hm (br_F h3 (br_T h4 (br_F' c0 (br_F' c1 (br_F' c2 ⟨iv, ?_⟩))))))⟩⟩
  · rw [cl_nI hi]; exact fin_ok w5.symm (hK _ ((h.out _).thrown 0))
  · rw [cl_nI hi]; exact fin_ok w6.symm (hK _ ((h.out _).thrown 0))
  · unfold P_TextBook_lettersIn
    refine P_wholeWith t1 ht hit ?_
    rw [w3]
    refine P_cell_in (f := 6) l1 he w1 (by omega) ⟨in01, br_F h1 (br_F hm (br_F h3 (br_T h4 (br_F' (by rw [c]; decide) (br_F' (by rw [c]; decide) (br_T' c ⟨iv, ?_⟩))))))⟩
    rw [cl_nI hi]; exact fin_ok w7.symm (hK _ ((h.out _).thrown 0))
  · rw [cl_nI hi]; exact fin_ok w4.symm (hK _ ((h.out _).thrown 0))
theorem op_letter (h : Inv k M) (a b : Int32) (hK : ∀ N, Inv (k + 1) N → K N) : P_Law_letter a b M fun r M1 => P_Mo_letter a b M1 fun r2 M2 => P_Mo_thrown M2 fun r3 M3 => (r3 = r → (¬ r = 0 → K M3) ∧ (r = 0 → vp_in 0 1 ∧ ((M3.2 62 0) = (Int32.toInt64 r2) → K M3) ∧ (¬ (M3.2 62 0) = (Int32.toInt64 r2) → (0 : Int32) = 1))) ∧ (¬ r3 = r → (0 : Int32) = 1) := by
  obtain ⟨e, ⟨he, l1, l2, l3, l5, -⟩, -, -, -, t, t1, t2, t3, t4⟩ := h.2.2.2.2.2.2.1
  have ht : t ≤ 100 := by have := cntB_le (fun i => decide (M.1 16 i = 1)) e; omega
  have hX : ∀ v', P_Mo_thrown (putI M 35 0 1) fun r3 M3 => (r3 = 1 → (¬ (1 : Int32) = 0 → K M3) ∧ ((1 : Int32) = 0 → vp_in 0 1 ∧ ((M3.2 62 0) = (Int32.toInt64 v') → K M3) ∧ (¬ (M3.2 62 0) = (Int32.toInt64 v') → (0 : Int32) = 1))) ∧ (¬ r3 = 1 → (0 : Int32) = 1) := fun v' => fin_x (hK _ (h.thrown 1))
  unfold P_Law_letter P_Sv_letter P_TextBook_joined P_Mo_letter P_Mo_refuse
  refine ⟨fun h1 => br_T h1 (hX _), fun h1 => ⟨fun h2 => br_F h1 (br_T (by show M.1 35 20 ≤ a; rw [t2, ← t1]; exact h2) (hX _)), fun h2 => ⟨fun h3 => br_F h1 (br_F (by show ¬ M.1 35 20 ≤ a; rw [t2, ← t1]; exact h2) (br_T h3 (hX _))), fun h3 => ?_⟩⟩⟩
  obtain ⟨i, hi, rfl⟩ := nn_of h1
  obtain ⟨f, hf, rfl⟩ := nn_of h3
  have hit : i < t := by rw [t1, nle_of (by omega) hi] at h2; omega
  have hm : ¬ M.1 35 20 ≤ nI i := by rw [t2, ← t1]; exact h2
  obtain ⟨w, w1, w2, w3, w4, w5, w6, w7, w8⟩ := t4 i hit
  obtain ⟨m, v, m1, m2, m3, m4, -⟩ := (l5 w w1).2.2.2 w2
  have m4 : M.1 12 (8 * w + 6) = nI m := m4
  have iv : vp_in (nI i) 100 := in_nI (by omega) (by omega)
  have w9 : M.1 46 i = nI (m * 4) := by rw [w7, m4, show (4 : Int32) = nI 4 from rfl, pk_mul]
  unfold P_TextBook_lettersIn
  refine P_wholeWith t1 ht hit ?_
  rw [w3]
  refine P_cell_in (f := 6) l1 he w1 (by omega) ?_
  rw [m4, show (4 : Int32) = nI 4 from rfl, pk_mul]
  refine ⟨fun h4 => ?_, fun h4 => br_F h1 (br_F hm (br_F h3 ⟨iv, br_F (by rw [cl_nI hi, w9]; exact h4) (hX _)⟩))⟩
  have hfm : f < m * 4 := (nlt_of hf (by omega)).mp h4
  obtain ⟨j, j1, j2, j3⟩ := w8 (f / 4) (by rw [m4, nlt_of (by omega) (by omega)]; omega) (by omega)
  have e1 : nI i * 5 + nI f / nI 4 = nI (5 * i + f / 4) := by
    rw [pk_div hf (by omega) (by omega), show (5 : Int32) = nI 5 from rfl, pk_mul, nI_add, Nat.mul_comm]
  have e2 : 5 * nI i + nI f / nI 4 = nI (5 * i + f / 4) := by
    rw [pk_div hf (by omega) (by omega), show (5 : Int32) = nI 5 from rfl, pk_mul, nI_add]
  have e3 : (3 - (nI f - nI f / nI 4 * nI 4)) * 5 = nI (15 - 5 * (f % 4)) := by
    rw [pk_rem hf (by omega) (by omega), show (3 : Int32) = nI 3 from rfl, show (5 : Int32) = nI 5 from rfl, pk_sub (by omega), pk_mul]
    congr 1; omega
  have e4 : 15 - 5 * (nI f - nI f / nI 4 * nI 4) = nI (15 - 5 * (f % 4)) := by
    rw [pk_rem hf (by omega) (by omega), show (15 : Int32) = nI 15 from rfl, show (5 : Int32) = nI 5 from rfl, pk_mul, pk_sub (by omega)]
  unfold P_TextBook_letterOf
  rw [show (4 : Int32) = nI 4 from rfl, e1, e3]
  refine br_F h3 (br_F (nI_pos (by omega)) (br_T ((nlt_of (e := 5 * i + f / 4) (a := 500) (by omega) (by omega)).mpr (by omega)) ⟨in_nI (by omega) (by omega), ?_⟩))
  rw [cl_nI (by omega), j2]
  refine P_cell_in (f := 7) l1 he j1 (by omega) ⟨in01, br_F h1 (br_F hm (br_F h3 ⟨iv, br_T (by rw [cl_nI hi]; show nI f < M.1 46 i; rw [w9]; exact h4) ?_⟩))⟩
  rw [e2, e4, cl_nI (by omega)]
  refine ⟨in_nI (by omega) (by omega), fin_ok ?_ (hK _ ((h.out _).thrown 0))⟩
  show _ = (M.1 48 (5 * i + f / 4) >>> _) &&& 31
  rw [j3]
end TextRead
