/-! reads that may be refused -/
theorem in01 : vp_in 0 1 := in_nI (n := 0) (by omega) (by omega)
section Calls
variable {k : Nat} {M : Mem} {K : Mem → Prop}
theorem fin_ok {v v' : Int32} (hv : v = v') (hK : K (putI (putL M 62 0 (Int32.toInt64 v)) 35 0 0)) : P_Mo_thrown (putI (putL M 62 0 (Int32.toInt64 v)) 35 0 0) fun r3 M3 => (r3 = 0 → (¬ (0 : Int32) = 0 → K M3) ∧ ((0 : Int32) = 0 → vp_in 0 1 ∧ ((M3.2 62 0) = (Int32.toInt64 v') → K M3) ∧ (¬ (M3.2 62 0) = (Int32.toInt64 v') → (0 : Int32) = 1))) ∧ (¬ r3 = 0 → (0 : Int32) = 1) := by
  subst hv
  exact br_T rfl (br_T' rfl ⟨in01, br_T rfl hK⟩)
theorem fin_x {v' : Int32} (hK : K (putI M 35 0 1)) : P_Mo_thrown (putI M 35 0 1) fun r3 M3 => (r3 = 1 → (¬ (1 : Int32) = 0 → K M3) ∧ ((1 : Int32) = 0 → vp_in 0 1 ∧ ((M3.2 62 0) = (Int32.toInt64 v') → K M3) ∧ (¬ (M3.2 62 0) = (Int32.toInt64 v') → (0 : Int32) = 1))) ∧ (¬ r3 = 1 → (0 : Int32) = 1) :=
  br_T rfl (br_F' (by decide) hK)
theorem nn_of {a : Int32} (h : ¬ a < 0) : ∃ n : Nat, n < 2147483648 ∧ a = nI n := i_of (by rw [i_lt, show (0 : Int32).toInt = 0 from (by decide)] at h; omega)
theorem nle_of {a : Nat} {e : Nat} (he : e < 2147483648) (ha : a < 2147483648) : nI e ≤ nI a ↔ e ≤ a := nI_leI he ha
theorem nlt_of {a : Nat} {e : Nat} (he : e < 2147483648) (ha : a < 2147483648) : nI e < nI a ↔ e < a := nI_ltI he ha
theorem op_octet (h : Inv k M) (a : Int32) (hK : ∀ N, Inv (k + 1) N → K N) : P_Law_octet a M fun r M1 => P_Mo_octet a M1 fun r2 M2 => P_Mo_thrown M2 fun r3 M3 => (r3 = r → (¬ r = 0 → K M3) ∧ (r = 0 → vp_in 0 1 ∧ ((M3.2 62 0) = (Int32.toInt64 r2) → K M3) ∧ (¬ (M3.2 62 0) = (Int32.toInt64 r2) → (0 : Int32) = 1))) ∧ (¬ r3 = r → (0 : Int32) = 1) := by
  obtain ⟨o, ho, o1, o2, o3⟩ := h.2.2.2.2.2.2.2.1
  have eo : M.1 9 1 >>> ((3 : Int32) &&& 31) = nI o := by
    rw [o1, pk_shrN (by omega) _ 3 (by decide)]
    congr 1; omega
  unfold P_Law_octet P_Sv_octet P_Sender_bytes P_Mo_octet P_Mo_refuse
  rw [eo]
  refine ⟨fun h1 => br_T h1 (fin_x (hK _ (h.thrown 1))), fun h1 => ⟨fun h2 => ?_, fun h2 => br_F h1 (br_F (by show ¬ a < M.1 35 23; rw [o2]; exact h2) (fin_x (hK _ (h.thrown 1))))⟩⟩
  obtain ⟨i, hi, rfl⟩ := nn_of h1
  have hio : i < o := (nlt_of hi (by omega)).mp h2
  unfold P_Sender_byteAt P_Sender_bytes
  rw [eo]
  refine br_F h1 (br_F (by rw [nle_of (by omega) hi]; omega) (br_F (by rw [show (16 : Int32) = nI 16 from rfl, nle_of (by omega) hi]; omega) ⟨in_nI (by omega) (by omega), in01, ?_⟩))
  rw [cl_nI hi]
  refine br_F h1 (br_T (by show nI i < M.1 35 23; rw [o2]; exact h2) ⟨in_nI (by omega) (by omega), ?_⟩)
  exact fin_ok (by show _ = M.1 49 i; exact (o3 i hio).symm) (hK _ ((h.out _).thrown 0))
theorem op_message (h : Inv k M) (a b : Int32) (hK : ∀ N, Inv (k + 1) N → K N) : P_Law_message a b M fun r M1 => P_Mo_message a b M1 fun r2 M2 => P_Mo_thrown M2 fun r3 M3 => (r3 = r → (¬ r = 0 → K M3) ∧ (r = 0 → vp_in 0 1 ∧ ((M3.2 62 0) = (Int32.toInt64 r2) → K M3) ∧ (¬ (M3.2 62 0) = (Int32.toInt64 r2) → (0 : Int32) = 1))) ∧ (¬ r3 = r → (0 : Int32) = 1) := by
  obtain ⟨e, ⟨he, l1, l2, l3, -⟩, -⟩ := h.2.2.2.2.2.2.1
  have hX : ∀ v', P_Mo_thrown (putI M 35 0 1) fun r3 M3 => (r3 = 1 → (¬ (1 : Int32) = 0 → K M3) ∧ ((1 : Int32) = 0 → vp_in 0 1 ∧ ((M3.2 62 0) = (Int32.toInt64 v') → K M3) ∧ (¬ (M3.2 62 0) = (Int32.toInt64 v') → (0 : Int32) = 1))) ∧ (¬ r3 = 1 → (0 : Int32) = 1) := fun v' => fin_x (hK _ (h.thrown 1))
  unfold P_Law_message P_Sv_message P_Log_has P_Mo_message P_Mo_refuse
  refine ⟨fun h1 => br_T rfl (br_T h1 (hX _)), fun h1 => ⟨fun h2 => br_T rfl (br_F h1 (br_T (by show M.1 35 11 ≤ a; rw [l2, ← l1]; exact h2) (hX _))), fun h2 => br_F (by decide) ⟨fun h3 => br_F h1 (br_F (by show ¬ M.1 35 11 ≤ a; rw [l2, ← l1]; exact h2) (br_T h3 (hX _))), fun h3 => ?_⟩⟩⟩
  obtain ⟨i, hi, rfl⟩ := nn_of h1
  obtain ⟨f, hf, rfl⟩ := nn_of h3
  have hie : i < e := by rw [l1, nle_of (by omega) hi] at h2; omega
  have hm : ¬ M.1 35 11 ≤ nI i := by rw [l2, ← l1]; exact h2
  refine ⟨fun h4 => ?_, fun h4 => br_F h1 (br_F hm (br_F h3 (br_F (by rw [show (7 : Int32) = nI 7 from rfl, nle_of hf (by omega)]; rw [show (8 : Int32) = nI 8 from rfl, nlt_of hf (by omega)] at h4; omega) (hX _))))⟩
  have hf8 : f < 8 := (nlt_of hf (by omega)).mp h4
  refine P_cell_in l1 he hie hf8 ⟨in01, br_F h1 (br_F hm (br_F h3 (br_T (by rw [show (7 : Int32) = nI 7 from rfl, nle_of hf (by omega)]; omega) ?_)))⟩
  rw [ix_m, cl_nI (by omega)]
  exact ⟨in_nI (by omega) (by omega), fin_ok (by show _ = M.1 41 _; exact (l3 _ (by omega)).symm) (hK _ ((h.out _).thrown 0))⟩
theorem op_parted (h : Inv k M) (a b : Int32) (hK : ∀ N, Inv (k + 1) N → K N) : P_Sv_parted a b M fun r M1 => P_Mo_parted a b M1 fun r2 M2 => (r = r2 → K M2) ∧ (¬ r = r2 → (0 : Int32) = 1) := by
  obtain ⟨⟨n, hn, p1, p2, p3⟩, -⟩ := h.2.2.2.2.2.2.2.2.1
  have hN := hK _ (h.thrown 0)
  unfold P_Sv_parted P_Parting_tellOf P_Mo_parted
  refine ⟨fun h1 => br_T h1 (res_eq rfl hN), fun h1 => ⟨fun h2 => br_F h1 (br_T (by rw [p2, ← p1]; exact h2) (res_eq rfl hN)), fun h2 => ?_⟩⟩
  obtain ⟨i, hi, rfl⟩ := nn_of h1
  have hin : i < n := by rw [p1, nle_of (by omega) hi] at h2; omega
  have hm : ¬ M.1 35 37 ≤ nI i := by rw [p2, ← p1]; exact h2
  have hv : vp_in (nI i) 16 := in_nI (by omega) (by omega)
  refine ⟨fun h3 => ?_, fun h3 => absurd ((nlt_of (a := 16) hi (by omega)).mpr (by omega)) h3⟩
  rw [cl_nI hi]
  refine ⟨fun c => ⟨hv, br_F h1 (br_F hm (br_F (by rw [c]; decide) (br_T (by rw [c]; decide) (br_T' c ⟨hv, res_eq (p3 i hin).1 hN⟩))))⟩, fun c => ⟨hv, br_F h1 (br_F hm (br_F (by rw [c]; decide) (br_T (by rw [c]; decide) (br_F' (by rw [c]; decide) (br_T' c ⟨hv, res_eq (p3 i hin).2.1 hN⟩)))))⟩, fun c => ⟨hv, br_F h1 (br_F hm (br_F (by rw [c]; decide) (br_T (by rw [c]; decide) (br_F' (by rw [c]; decide) (br_F' (by rw [c]; decide) ⟨hv, res_eq (p3 i hin).2.2 hN⟩)))))⟩, fun c0 c1 c2 => br_F h1 (br_F hm ⟨fun h4 => res_eq rfl hN, fun h4 => ⟨fun h5 => ?_, fun h5 => res_eq rfl hN⟩⟩)⟩
  exfalso
  obtain ⟨w, hw, rfl⟩ := nn_of h4
  have h6 : w ≤ 2 := (nle_of hw (by omega)).mp h5
  rcases (show w = 0 ∨ w = 1 ∨ w = 2 by omega) with rfl | rfl | rfl
  · exact c0 rfl
  · exact c1 rfl
  · exact c2 rfl
end Calls
/-! the tape -/
theorem ushr_byte (x : Int32) (s : Nat) (hs : s ≤ 24) : (Int32.toUInt32 x >>> (Int32.toUInt32 (nI s) &&& Int32.toUInt32 31)).toInt32 &&& 255 = (Int32.toInt8 (x >>> (nI s &&& 31))).toInt32 &&& 255 := by
  rw [bp_b]
  refine b_ext fun i hi => ?_
  rw [b_and, b_and, b_255, b_ushr s (by omega), b_sshr s (by omega) x hi]
  by_cases h8 : i < 8
  · rw [if_pos (by omega)]
  · simp [h8]
/-- both rows take a number's four bytes -/
theorem P_addNumber {Q : Mem → Prop} {M : Mem} {a : Int32} {u : Nat} (h : M.1 1 1 = nI u) (hu : u + 4 ≤ 400) (hQ : ∀ N : Mem, Same [1, 2] M N → N.1 1 1 = nI (u + 4) → (∀ j, j < u → N.1 2 j = M.1 2 j) → (∀ j, j < 4 → N.1 2 (u + j) = (Int32.toInt8 (a >>> (nI (24 - 8 * j) &&& 31))).toInt32) → Q N) : P_Tape_addNumber a M Q := by
  have key : ∀ d : Nat, d ≤ 4 → ∀ N : Mem, Same [1, 2] M N → N.1 1 1 = nI (u + (4 - d)) → (∀ j, j < u → N.1 2 j = M.1 2 j) → (∀ j, j < 4 - d → N.1 2 (u + j) = (Int32.toInt8 (a >>> (nI (24 - 8 * j) &&& 31))).toInt32) → P_Tape_addNumber_3 Q (d + 1) a (nI (8 * d) - 8) N := by
    intro d
    induction d with
    | zero =>
      intro _ N s1 s2 s3 s4
      unfold P_Tape_addNumber_3
      exact br_T (by decide) (hQ N s1 s2 s3 s4)
    | succ d ih =>
      intro hd N s1 s2 s3 s4
      unfold P_Tape_addNumber_3
      have e1 : nI (8 * (d + 1)) - 8 = nI (8 * d) := by
        rw [show (8 : Int32) = nI 8 from rfl, pk_sub (by omega)]; congr 1
      rw [e1, show nI (8 * d) + (-8) = nI (8 * d) - 8 by rw [Int32.sub_eq_add_neg]]
      refine br_F (nI_pos (by omega)) (br_F (by rw [s2, show (400 : Int32) = nI 400 from rfl, nle_of (by omega) (by omega)]; omega) ⟨by rw [s2]; exact in_nI (by omega) (by omega), ?_⟩)
      rw [s2, cl_nI (by omega)]
      refine ih (by omega) _ ((s1.putI (by decide)).putI (by decide)) ?_ ?_ ?_
      · show nI (u + (4 - (d + 1))) + 1 = _
        rw [nI_1]; congr 1; omega
      · intro j hj
        show (putI N 2 (u + (4 - (d + 1))) _).1 2 j = _
        rw [putI_k (by omega)]
        exact s3 j hj
      · intro j hj
        show (putI N 2 (u + (4 - (d + 1))) _).1 2 (u + j) = _
        by_cases hj2 : j = 4 - (d + 1)
        · subst hj2
          rw [putI_same]
          congr 4
          have : 8 * d = 24 - 8 * (4 - (d + 1)) := by omega
          rw [this]
        · rw [putI_k (by omega)]
          exact s4 j (by omega)
  unfold P_Tape_addNumber
  exact ⟨5, key 4 (Nat.le_refl _) M (Same.refl _ _) (by rw [h]; rfl) (fun _ _ => rfl) (fun j hj => by omega)⟩
theorem P_come {Q : Mem → Prop} {M : Mem} {a : Int32} {u : Nat} (h : M.1 35 2 = nI u) (hu : u + 4 ≤ 400) (hQ : ∀ N : Mem, (∀ c, c ≠ 35 → c ≠ 36 → N.1 c = M.1 c) → N.2 = M.2 → (∀ f, f ≠ 2 → N.1 35 f = M.1 35 f) → N.1 35 2 = nI (u + 4) → (∀ j, j < u → N.1 36 j = M.1 36 j) → (∀ j, j < 4 → N.1 36 (u + j) = (Int32.toInt8 (a >>> (nI (24 - 8 * j) &&& 31))).toInt32 &&& 255) → Q N) : P_Mo_come a M Q := by
  have key : ∀ d : Nat, d ≤ 4 → ∀ N : Mem, (∀ c, c ≠ 35 → c ≠ 36 → N.1 c = M.1 c) → N.2 = M.2 → (∀ f, f ≠ 2 → N.1 35 f = M.1 35 f) → N.1 35 2 = nI (u + (4 - d)) → (∀ j, j < u → N.1 36 j = M.1 36 j) → (∀ j, j < 4 - d → N.1 36 (u + j) = (Int32.toInt8 (a >>> (nI (24 - 8 * j) &&& 31))).toInt32 &&& 255) → P_Mo_come_3 Q (d + 1) a (nI (8 * d) - 8) N := by
    intro d
    induction d with
    | zero =>
      intro _ N s1 s5 s6 s2 s3 s4
      unfold P_Mo_come_3
      exact br_T (by decide) (hQ N s1 s5 s6 s2 s3 s4)
    | succ d ih =>
      intro hd N s1 s5 s6 s2 s3 s4
      unfold P_Mo_come_3
      have e1 : nI (8 * (d + 1)) - 8 = nI (8 * d) := by
        rw [show (8 : Int32) = nI 8 from rfl, pk_sub (by omega)]; congr 1
      rw [e1, show nI (8 * d) + (-8) = nI (8 * d) - 8 by rw [Int32.sub_eq_add_neg]]
      refine br_F (nI_pos (by omega)) ⟨by rw [s2]; exact in_nI (by omega) (by omega), ?_⟩
      rw [s2, cl_nI (by omega), ushr_byte a (8 * d) (by omega)]
      refine ih (by omega) _ (fun c h1 h2 => by rw [putI_ne1 h1, putI_ne1 h2]; exact s1 c h1 h2) s5 (fun f hf => by rw [putI_k hf]; exact s6 f hf) ?_ ?_ ?_
      · show nI (u + (4 - (d + 1))) + 1 = _
        rw [nI_1]; congr 1; omega
      · intro j hj
        show (putI N 36 (u + (4 - (d + 1))) _).1 36 j = _
        rw [putI_k (by omega)]
        exact s3 j hj
      · intro j hj
        show (putI N 36 (u + (4 - (d + 1))) _).1 36 (u + j) = _
        by_cases hj2 : j = 4 - (d + 1)
        · subst hj2
          rw [putI_same]
          congr 5
          have : 8 * d = 24 - 8 * (4 - (d + 1)) := by omega
          rw [this]
        · rw [putI_k (by omega)]
          exact s4 j (by omega)
  unfold P_Mo_come
  exact ⟨5, key 4 (Nat.le_refl _) M (fun _ _ _ => rfl) rfl (fun _ _ => rfl) (by rw [h]; rfl) (fun _ _ => rfl) (fun j hj => by omega)⟩

def fdB (a : Int32) (j : Nat) : Int32 := (Int32.toInt8 (a >>> (nI (24 - 8 * j) &&& 31))).toInt32
theorem stepC {Q : Mem → Prop} {N : Mem} {a : Int32} {u i : Nat} {T : Nat → Int32} (hT : ∀ j, j < 4 → T (u + 4 * i + j) = fdB a j) (h1 : N.1 1 1 = nI (u + 4 * i)) (hu : u + 20 ≤ 400) (hi : i < 5) (h2 : ∀ j, j < u + 4 * i → N.1 2 j = T j)
    (hQ : ∀ N' : Mem, Same [1, 2] N N' → N'.1 1 1 = nI (u + 4 * (i + 1)) → (∀ j, j < u + 4 * (i + 1) → N'.1 2 j = T j) → Q N') : P_Tape_addNumber a N Q := by
  refine P_addNumber h1 (by omega) (fun N' s1 s2 s3 s4 => hQ N' s1 (by rw [s2]; congr 1) (fun j hj => ?_))
  by_cases hj1 : j < u + 4 * i
  · rw [s3 j hj1, h2 j hj1]
  · obtain ⟨d, rfl⟩ : ∃ d, j = u + 4 * i + d := ⟨j - (u + 4 * i), by omega⟩
    rw [s4 d (by omega), hT d (by omega)]
    rfl
theorem stepM {Q : Mem → Prop} {N : Mem} {a : Int32} {u i : Nat} {T : Nat → Int32} (hT : ∀ j, j < 4 → T (u + 4 * i + j) = fdB a j) (h1 : N.1 35 2 = nI (u + 4 * i)) (hu : u + 20 ≤ 400) (hi : i < 5) (h2 : ∀ j, j < u + 4 * i → N.1 36 j = T j &&& 255)
    (hQ : ∀ N' : Mem, (∀ c, c ≠ 35 → c ≠ 36 → N'.1 c = N.1 c) → N'.2 = N.2 → (∀ f, f ≠ 2 → N'.1 35 f = N.1 35 f) → N'.1 35 2 = nI (u + 4 * (i + 1)) → (∀ j, j < u + 4 * (i + 1) → N'.1 36 j = T j &&& 255) → Q N') : P_Mo_come a N Q := by
  refine P_come h1 (by omega) (fun N' s1 s5 s6 s2 s3 s4 => hQ N' s1 s5 s6 (by rw [s2]; congr 1) (fun j hj => ?_))
  by_cases hj1 : j < u + 4 * i
  · rw [s3 j hj1, h2 j hj1]
  · obtain ⟨d, rfl⟩ : ∃ d, j = u + 4 * i + d := ⟨j - (u + 4 * i), by omega⟩
    rw [s4 d (by omega), hT d (by omega)]
    rfl
theorem op_feed {k : Nat} {M : Mem} {K : Mem → Prop} (h : Inv k M) (a b c d e : Int32) (hK : ∀ N, Inv (k + 1) N → K N) : P_Sv_feed a b c d e M fun r M1 => P_Mo_feed a b c d e M1 fun r2 M2 => (r = r2 → K M2) ∧ (¬ r = r2 → (0 : Int32) = 1) := by
  have h0 := h
  obtain ⟨⟨u, hu, n1, n2, n3⟩, a2, a3, a4, a5, a6, a7, a8, a9, a10⟩ := h
  unfold P_Sv_feed P_Tape_hasRoomFor
  by_cases hr9 : 400 < u + 20
  · refine br_T (by rw [n1, show (20 : Int32) = nI 20 from rfl, nI_add, show (400 : Int32) = nI 400 from rfl, nlt_of (by omega) (by omega)]; omega) (br_T' rfl ?_)
    unfold P_Mo_feed
    exact br_F (by rw [n2, show (20 : Int32) = nI 20 from rfl, nI_add, show (400 : Int32) = nI 400 from rfl, nle_of (by omega) (by omega)]; omega) (res_eq rfl (hK _ (h0.thrown 0)))
  refine br_F (by rw [n1, show (20 : Int32) = nI 20 from rfl, nI_add, show (400 : Int32) = nI 400 from rfl, nlt_of (by omega) (by omega)]; omega) (br_F' (by decide) ?_)
  have hr : u + 20 ≤ 400 := by omega
  obtain ⟨T, hT0, hT⟩ : ∃ T : Nat → Int32, (∀ j, j < u → T j = M.1 2 j) ∧ ∀ i j, i < 5 → j < 4 → T (u + 4 * i + j) = fdB (if i = 0 then a else if i = 1 then b else if i = 2 then c else if i = 3 then d else e) j := by
    refine ⟨fun j => if j < u then M.1 2 j else fdB (if (j - u) / 4 = 0 then a else if (j - u) / 4 = 1 then b else if (j - u) / 4 = 2 then c else if (j - u) / 4 = 3 then d else e) ((j - u) % 4), fun j hj => if_pos hj, fun i j hi hj => ?_⟩
    have e1 : ¬ u + 4 * i + j < u := by omega
    have e2 : (u + 4 * i + j - u) / 4 = i := by omega
    have e3 : (u + 4 * i + j - u) % 4 = j := by omega
    simp only [if_neg e1, e2, e3]
  refine stepC (u := u) (i := 0) (T := T) (hT 0 · (by omega)) n1 hr (by omega) (fun j hj => (hT0 j (by omega)).symm) (fun N1 s1 t1 w1 => ?_)
  refine stepC (u := u) (i := 1) (T := T) (hT 1 · (by omega)) t1 hr (by omega) w1 (fun N2 s2 t2 w2 => ?_)
  refine stepC (u := u) (i := 2) (T := T) (hT 2 · (by omega)) t2 hr (by omega) w2 (fun N3 s3 t3 w3 => ?_)
  refine stepC (u := u) (i := 3) (T := T) (hT 3 · (by omega)) t3 hr (by omega) w3 (fun N4 s4 t4 w4 => ?_)
  refine stepC (u := u) (i := 4) (T := T) (hT 4 · (by omega)) t4 hr (by omega) w4 (fun N5 s5 t5 w5 => ?_)
  have S : Same [1, 2] M N5 := ((((s1.trans s2).trans s3).trans s4).trans s5)
  unfold P_Tape_length P_Mo_feed
  have q35 : N5.1 35 = M.1 35 := (S 35 (by decide)).1
  have q36 : N5.1 36 = M.1 36 := (S 36 (by decide)).1
  refine br_T (by rw [q35, n2, show (20 : Int32) = nI 20 from rfl, nI_add, show (400 : Int32) = nI 400 from rfl, nle_of (by omega) (by omega)]; omega) ?_
  refine stepM (u := u) (i := 0) (T := T) (hT 0 · (by omega)) (by show N5.1 35 2 = _; rw [q35]; exact n2) hr (by omega) (fun j hj => by show N5.1 36 j = _; rw [q36, hT0 j (by omega)]; exact n3 j (by omega)) (fun M1 x1 y1 z1 t1 v1 => ?_)
  refine stepM (u := u) (i := 1) (T := T) (hT 1 · (by omega)) t1 hr (by omega) v1 (fun M2 x2 y2 z2 t2 v2 => ?_)
  refine stepM (u := u) (i := 2) (T := T) (hT 2 · (by omega)) t2 hr (by omega) v2 (fun M3 x3 y3 z3 t3 v3 => ?_)
  refine stepM (u := u) (i := 3) (T := T) (hT 3 · (by omega)) t3 hr (by omega) v3 (fun M4 x4 y4 z4 t4 v4 => ?_)
  refine stepM (u := u) (i := 4) (T := T) (hT 4 · (by omega)) t4 hr (by omega) v4 (fun M5 x5 y5 z5 t9 v5 => ?_)
  have X : ∀ c, c ≠ 35 → c ≠ 36 → M5.1 c = N5.1 c := fun c h1 h2 => by
    rw [x5 c h1 h2, x4 c h1 h2, x3 c h1 h2, x2 c h1 h2, x1 c h1 h2]
    exact putI_ne1 h1
  have Y : M5.2 = N5.2 := by rw [y5, y4, y3, y2, y1]; rfl
  have Z : ∀ f, f ≠ 2 → f ≠ 0 → M5.1 35 f = M.1 35 f := fun f h1 h2 => by
    rw [z5 f h1, z4 f h1, z3 f h1, z2 f h1, z1 f h1, putI_k h2, q35]
  have XM : ∀ c, c ≠ 35 → c ≠ 36 → c ≠ 1 → c ≠ 2 → M5.1 c = M.1 c := fun c h1 h2 h3 h4 => (X c h1 h2).trans (S c (by simp [h3, h4])).1
  have YM : ∀ c, c ≠ 1 → c ≠ 2 → M5.2 c = M.2 c := fun c h3 h4 => by rw [Y]; exact (S c (by simp [h3, h4])).2
  refine res_eq (t5.trans t9.symm) (hK _ ⟨⟨u + 20, hr, by rw [X 1 (by decide) (by decide)]; exact t5, t9, fun j hj => ?_⟩, a2.congr ?_ (Z 7 (by decide) (by decide)), a3.congr (Nat.le_succ k) ?_ ?_ ?_ ?_ ?_ ?_, a4.congr (Nat.le_succ k) ?_ ?_ ?_ ?_ ?_ ?_, a5.congr ?_ ?_ (Z 8 (by decide) (by decide)), a6.congr ?_ (Z 12 (by decide) (by decide)) ?_ (Z 13 (by decide) (by decide)),
    a7.congr ?_ (Z 11 (by decide) (by decide)) ?_ ?_ ?_ ?_ ?_ ?_ ?_ ?_ (Z 20 (by decide) (by decide)) ?_ ?_ ?_ ?_ ?_ ?_ ?_, a8.congr ?_ (Z 23 (by decide) (by decide)) ?_ ?_, a9.congr ?_ (Z 37 (by decide) (by decide)) ?_ ?_ ?_ ?_ ?_ ?_ ?_ ?_, a10.congr ?_ (Z 43 (by decide) (by decide))⟩)
  · rw [v5 j (by omega), X 2 (by decide) (by decide), w5 j (by omega)]
  all_goals first
    | (rw [XM 0 (by decide) (by decide) (by decide) (by decide)]; exact Int.le_refl _)
    | rw [XM _ (by decide) (by decide) (by decide) (by decide)]
    | rw [YM _ (by decide) (by decide)]
