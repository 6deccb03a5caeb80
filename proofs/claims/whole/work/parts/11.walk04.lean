set_option maxHeartbeats 4000000 in
set_option maxRecDepth 100000 in
theorem c_X10_cost {E : EX} (hE : EH E) {M : Mem} {Q : Int64 → Mem → Prop} (h : P_Sv_cost  M Q) : CL yX10_cost cX10_cost 1 (some .long) rmX10_cost E [.ref (eA E 0)] M Q := by
  refine CL.of hE (plainFor_of_name (by decide)) (Nat.le_of_ble_eq_true rfl) (fun x hz => ?_)
  unfold P_Sv_cost at h
  show G x E mX10_cost 0 0 0 [(0, .ref (eA E 0))] [] M
  refine g_aloadn (k0 := 0) (q := 1) dX10_cost_0 rfl rfl rfl ?_
  refine g_get (v := .ref (eA E 20)) (q := 4) fg_X10_64_0 rfl dX10_cost_1 rfl ?_
  refine g_calll (q := 7) [] [] cv_X10_147 rc_20 (c_X5_together hE h) rfl rfl ⟨rfl, rfl, Nat.le_of_ble_eq_true rfl, Nat.le_of_ble_eq_true rfl, Nat.zero_le _, Nat.zero_le _⟩ (Nat.le_of_ble_eq_true rfl) dX10_cost_4 rfl (fun r2 M1 h => ?_)
  exact g_lret hz rfl dX10_cost_7 h
set_option maxHeartbeats 4000000 in
set_option maxRecDepth 100000 in
theorem c_X5_tellOf {E : EX} (hE : EH E) {a1 : Int32} {a2 : Int32} {M : Mem} {Q : Int32 → Mem → Prop} (h : P_Parting_tellOf a1 a2 M Q) : CI yX5_tellOf cX5_tellOf 3 (some .int) rmX5_tellOf E [.ref (eA E 20), .int a1, .int a2] M Q := by
  refine CI.of hE (plainFor_of_name (by decide)) (Nat.le_of_ble_eq_true rfl) (fun x hz => ?_)
  unfold P_Parting_tellOf at h
  show G x E mX5_tellOf 0 0 0 [(0, .ref (eA E 20)), (1, .int a1), (2, .int a2)] [] M
  refine g_iloadn (k0 := 1) (q := 1) dX5_tellOf_0 rfl rfl rfl ?_
  refine g_if_lt (tgt := 18) (q := 4) dX5_tellOf_1 rfl rfl (fun hc9 => ?_) (fun hc9 => ?_)
  · replace h := h.1 hc9
    refine g_iconst (q := 19) dX5_tellOf_18 ki_m1 rfl ?_
    exact g_iret hz rfl dX5_tellOf_19 h
  · replace h := h.2 hc9
    refine g_iloadn (k0 := 1) (q := 5) dX5_tellOf_4 rfl rfl rfl ?_
    refine g_aloadn (k0 := 0) (q := 6) dX5_tellOf_5 rfl rfl rfl ?_
    refine g_get (v := .int (M.1 20 4)) (q := 9) fg_X5_28_20 rfl dX5_tellOf_6 rfl ?_
    refine g_ic_ge (tgt := 18) (q := 12) dX5_tellOf_9 rfl rfl (fun hc8 => ?_) (fun hc8 => ?_)
    · replace h := h.1 hc8
      refine g_iconst (q := 19) dX5_tellOf_18 ki_m1 rfl ?_
      exact g_iret hz rfl dX5_tellOf_19 h
    · replace h := h.2 hc8
      refine g_iloadn (k0 := 1) (q := 13) dX5_tellOf_12 rfl rfl rfl ?_
      refine g_bipush (q := 15) dX5_tellOf_13 kb_16 rfl ?_
      refine g_ic_lt (tgt := 20) (q := 18) dX5_tellOf_15 rfl rfl (fun hc7 => ?_) (fun hc7 => ?_)
      · replace h := h.1 hc7
        refine g_iloadn (k0 := 2) (q := 21) dX5_tellOf_20 rfl rfl rfl ?_
        by_cases hc2 : a2 = 0
        · replace h := h.1 hc2
          refine g_tin (tgt := 48) 0 (by rw [hc2]; decide) dX5_tellOf_21 (by decide) (by decide) rfl rfl ?_
          refine g_aloadn (k0 := 0) (q := 49) dX5_tellOf_48 rfl rfl rfl ?_
          refine g_get (v := .ref (eA E 31)) (q := 52) fg_X5_18_20 rfl dX5_tellOf_49 rfl ?_
          refine g_iloadn (k0 := 1) (q := 53) dX5_tellOf_52 rfl rfl rfl ?_
          have hv1 := h.1
          replace h := h.2
          refine g_iald (v := (M.1 31 a1.toNatClampNeg)) (q := 54) ar_31 hv1 rfl dX5_tellOf_53 rfl ?_
          exact g_iret hz rfl dX5_tellOf_54 h
        replace h := h.2
        by_cases hc4 : a2 = 1
        · replace h := h.1 hc4
          refine g_tin (tgt := 55) 1 (by rw [hc4]; decide) dX5_tellOf_21 (by decide) (by decide) rfl rfl ?_
          refine g_aloadn (k0 := 0) (q := 56) dX5_tellOf_55 rfl rfl rfl ?_
          refine g_get (v := .ref (eA E 32)) (q := 59) fg_X5_22_20 rfl dX5_tellOf_56 rfl ?_
          refine g_iloadn (k0 := 1) (q := 60) dX5_tellOf_59 rfl rfl rfl ?_
          have hv3 := h.1
          replace h := h.2
          refine g_iald (v := (M.1 32 a1.toNatClampNeg)) (q := 61) ar_32 hv3 rfl dX5_tellOf_60 rfl ?_
          exact g_iret hz rfl dX5_tellOf_61 h
        replace h := h.2
        by_cases hc6 : a2 = 2
        · replace h := h.1 hc6
          refine g_tin (tgt := 62) 2 (by rw [hc6]; decide) dX5_tellOf_21 (by decide) (by decide) rfl rfl ?_
          refine g_aloadn (k0 := 0) (q := 63) dX5_tellOf_62 rfl rfl rfl ?_
          refine g_get (v := .ref (eA E 33)) (q := 66) fg_X5_25_20 rfl dX5_tellOf_63 rfl ?_
          refine g_iloadn (k0 := 1) (q := 67) dX5_tellOf_66 rfl rfl rfl ?_
          have hv5 := h.1
          replace h := h.2
          refine g_iald (v := (M.1 33 a1.toNatClampNeg)) (q := 68) ar_33 hv5 rfl dX5_tellOf_67 rfl ?_
          exact g_iret hz rfl dX5_tellOf_68 h
        replace h := h.2
        replace h := h hc2 hc4 hc6
        refine g_tout (tgt := 69) dX5_tellOf_21 (sw_out 0 3 (fun i hi => by rcases (show i = 0 ∨ i = 1 ∨ i = 2 by omega) with rfl | rfl | rfl <;> assumption)) rfl ?_
        refine g_iconst (q := 70) dX5_tellOf_69 ki_m1 rfl ?_
        exact g_iret hz rfl dX5_tellOf_70 h
      · replace h := h.2 hc7
        refine g_iconst (q := 19) dX5_tellOf_18 ki_m1 rfl ?_
        exact g_iret hz rfl dX5_tellOf_19 h
set_option maxHeartbeats 4000000 in
set_option maxRecDepth 100000 in
theorem c_X10_parted {E : EX} (hE : EH E) {a1 : Int32} {a2 : Int32} {M : Mem} {Q : Int32 → Mem → Prop} (h : P_Sv_parted a1 a2 M Q) : CI yX10_parted cX10_parted 3 (some .int) rmX10_parted E [.ref (eA E 0), .int a1, .int a2] M Q := by
  refine CI.of hE (plainFor_of_name (by decide)) (Nat.le_of_ble_eq_true rfl) (fun x hz => ?_)
  unfold P_Sv_parted at h
  show G x E mX10_parted 0 0 0 [(0, .ref (eA E 0)), (1, .int a1), (2, .int a2)] [] M
  refine g_aloadn (k0 := 0) (q := 1) dX10_parted_0 rfl rfl rfl ?_
  refine g_get (v := .ref (eA E 20)) (q := 4) fg_X10_64_0 rfl dX10_parted_1 rfl ?_
  refine g_iloadn (k0 := 1) (q := 5) dX10_parted_4 rfl rfl rfl ?_
  refine g_iloadn (k0 := 2) (q := 6) dX10_parted_5 rfl rfl rfl ?_
  refine g_calli (q := 9) [.int a1, .int a2] [] cv_X10_151 rc_20 (c_X5_tellOf hE h) rfl rfl ⟨rfl, rfl, Nat.le_of_ble_eq_true rfl, Nat.le_of_ble_eq_true rfl, Nat.zero_le _, Nat.zero_le _⟩ (Nat.le_of_ble_eq_true rfl) dX10_parted_6 rfl (fun r2 M1 h => ?_)
  exact g_iret hz rfl dX10_parted_9 h
set_option maxHeartbeats 4000000 in
set_option maxRecDepth 100000 in
theorem c_X0_total {E : EX} (hE : EH E) {M : Mem} {Q : Int32 → Mem → Prop} (h : P_ClashBook_total  M Q) : CI yX0_total cX0_total 1 (some .int) rmX0_total E [.ref (eA E 13)] M Q := by
  refine CI.of hE (plainFor_of_name (by decide)) (Nat.le_of_ble_eq_true rfl) (fun x hz => ?_)
  unfold P_ClashBook_total at h
  show G x E mX0_total 0 0 0 [(0, .ref (eA E 13))] [] M
  refine g_aloadn (k0 := 0) (q := 1) dX0_total_0 rfl rfl rfl ?_
  refine g_get (v := .int (M.1 13 1)) (q := 4) fg_X0_17_13 rfl dX0_total_1 rfl ?_
  exact g_iret hz rfl dX0_total_4 h
set_option maxHeartbeats 4000000 in
set_option maxRecDepth 100000 in
theorem c_X10_clashes {E : EX} (hE : EH E) {M : Mem} {Q : Int32 → Mem → Prop} (h : P_Sv_clashes  M Q) : CI yX10_clashes cX10_clashes 1 (some .int) rmX10_clashes E [.ref (eA E 0)] M Q := by
  refine CI.of hE (plainFor_of_name (by decide)) (Nat.le_of_ble_eq_true rfl) (fun x hz => ?_)
  unfold P_Sv_clashes at h
  show G x E mX10_clashes 0 0 0 [(0, .ref (eA E 0))] [] M
  refine g_aloadn (k0 := 0) (q := 1) dX10_clashes_0 rfl rfl rfl ?_
  refine g_get (v := .ref (eA E 13)) (q := 4) fg_X10_50_0 rfl dX10_clashes_1 rfl ?_
  refine g_calli (q := 7) [] [] cv_X10_154 rc_13 (c_X0_total hE h) rfl rfl ⟨rfl, rfl, Nat.le_of_ble_eq_true rfl, Nat.le_of_ble_eq_true rfl, Nat.zero_le _, Nat.zero_le _⟩ (Nat.le_of_ble_eq_true rfl) dX10_clashes_4 rfl (fun r2 M1 h => ?_)
  exact g_iret hz rfl dX10_clashes_7 h
set_option maxHeartbeats 4000000 in
set_option maxRecDepth 100000 in
theorem c_X9_joined {E : EX} (hE : EH E) {M : Mem} {Q : Int32 → Mem → Prop} (h : P_TextBook_joined  M Q) : CI yX9_joined cX9_joined 1 (some .int) rmX9_joined E [.ref (eA E 15)] M Q := by
  refine CI.of hE (plainFor_of_name (by decide)) (Nat.le_of_ble_eq_true rfl) (fun x hz => ?_)
  unfold P_TextBook_joined at h
  show G x E mX9_joined 0 0 0 [(0, .ref (eA E 15))] [] M
  refine g_aloadn (k0 := 0) (q := 1) dX9_joined_0 rfl rfl rfl ?_
  refine g_get (v := .int (M.1 15 4)) (q := 4) fg_X9_29_15 rfl dX9_joined_1 rfl ?_
  exact g_iret hz rfl dX9_joined_4 h
set_option maxHeartbeats 4000000 in
set_option maxRecDepth 100000 in
theorem c_X10_texts {E : EX} (hE : EH E) {M : Mem} {Q : Int32 → Mem → Prop} (h : P_Sv_texts  M Q) : CI yX10_texts cX10_texts 1 (some .int) rmX10_texts E [.ref (eA E 0)] M Q := by
  refine CI.of hE (plainFor_of_name (by decide)) (Nat.le_of_ble_eq_true rfl) (fun x hz => ?_)
  unfold P_Sv_texts at h
  show G x E mX10_texts 0 0 0 [(0, .ref (eA E 0))] [] M
  refine g_aloadn (k0 := 0) (q := 1) dX10_texts_0 rfl rfl rfl ?_
  refine g_get (v := .ref (eA E 15)) (q := 4) fg_X10_57_0 rfl dX10_texts_1 rfl ?_
  refine g_calli (q := 7) [] [] cv_X10_165 rc_15 (c_X9_joined hE h) rfl rfl ⟨rfl, rfl, Nat.le_of_ble_eq_true rfl, Nat.le_of_ble_eq_true rfl, Nat.zero_le _, Nat.zero_le _⟩ (Nat.le_of_ble_eq_true rfl) dX10_texts_4 rfl (fun r2 M1 h => ?_)
  exact g_iret hz rfl dX10_texts_7 h
set_option maxHeartbeats 4000000 in
set_option maxRecDepth 100000 in
theorem g_X2_latest_7 {x : GX} {E : EX} (hE : EH E) {Q : Int32 → Mem → Prop} (hz : ZI x E Q) : ∀ (n : Nat) (v1 : Int32) (v2 : Int32) (v3 : Int32) (M : Mem), P_Log_latest_7 Q n v1 v2 v3 M → G x E mX2_latest 0 0 7 [(0, .ref (eA E 11)), (1, .int v1), (2, .int v2), (3, .int v3)] [] M := by
  intro n
  induction n with
  | zero => intro _ _ _ _ h; exact h.elim
  | succ n ih =>
    intro v1 v2 v3 M h
    unfold P_Log_latest_7 at h
    refine g_iloadn (k0 := 3) (q := 8) dX2_latest_7 rfl rfl rfl ?_
    refine g_if_lt (tgt := 29) (q := 11) dX2_latest_8 rfl rfl (fun hc4 => ?_) (fun hc4 => ?_)
    · replace h := h.1 hc4
      refine g_iconst (q := 30) dX2_latest_29 ki_m1 rfl ?_
      exact g_iret hz rfl dX2_latest_30 h
    · replace h := h.2 hc4
      refine g_aloadn (k0 := 0) (q := 12) dX2_latest_11 rfl rfl rfl ?_
      refine g_iloadn (k0 := 3) (q := 13) dX2_latest_12 rfl rfl rfl ?_
      refine g_iloadn (k0 := 1) (q := 14) dX2_latest_13 rfl rfl rfl ?_
      refine g_iloadn (k0 := 2) (q := 15) dX2_latest_14 rfl rfl rfl ?_
      refine g_calli (q := 18) [.int v3, .int v1, .int v2] [] cv_X2_40 rc_11 (c_X2_isOf hE h) rfl rfl ⟨rfl, rfl, Nat.le_of_ble_eq_true rfl, Nat.le_of_ble_eq_true rfl, Nat.zero_le _, Nat.zero_le _⟩ (Nat.le_of_ble_eq_true rfl) dX2_latest_15 rfl (fun r2 M1 h => ?_)
      obtain ⟨hb_r2, h⟩ := h
      refine g_if_eq (tgt := 23) (q := 21) dX2_latest_18 rfl rfl (fun hc3 => ?_) (fun hc3 => ?_)
      · replace h := h.1 hc3
        refine g_iinc (lv' := [(0, .ref (eA E 11)), (1, .int v1), (2, .int v2), (3, .int (v3 + (-1)))]) (k0 := 3) (w := (v3 + (-1))) (q := 26) [1, 2, 3, 0] dX2_latest_23 rfl rfl (by decide) rfl rfl ?_
        refine g_goto (tgt := 7) dX2_latest_26 rfl ?_
        exact ih _ _ _ _ h
      · replace h := h.2 hc3
        refine g_iloadn (k0 := 3) (q := 22) dX2_latest_21 rfl rfl rfl ?_
        exact g_iret hz rfl dX2_latest_22 h
set_option maxHeartbeats 4000000 in
set_option maxRecDepth 100000 in
theorem c_X2_latest {E : EX} (hE : EH E) {a1 : Int32} {a2 : Int32} {M : Mem} {Q : Int32 → Mem → Prop} (h : P_Log_latest a1 a2 M Q) : CI yX2_latest cX2_latest 4 (some .int) rmX2_latest E [.ref (eA E 11), .int a1, .int a2] M Q := by
  refine CI.of hE (plainFor_of_name (by decide)) (Nat.le_of_ble_eq_true rfl) (fun x hz => ?_)
  unfold P_Log_latest at h
  show G x E mX2_latest 0 0 0 [(0, .ref (eA E 11)), (1, .int a1), (2, .int a2)] [] M
  refine g_aloadn (k0 := 0) (q := 1) dX2_latest_0 rfl rfl rfl ?_
  refine g_get (v := .int (M.1 11 1)) (q := 4) fg_X2_15_11 rfl dX2_latest_1 rfl ?_
  refine g_iconst (q := 5) dX2_latest_4 ki_1 rfl ?_
  refine g_isub (q := 6) dX2_latest_5 rfl ?_
  refine g_istoren (lv' := [(0, .ref (eA E 11)), (1, .int a1), (2, .int a2), (3, .int ((M.1 11 1) - 1))]) (q := 7) [1, 2, 3, 0] dX2_latest_6 rfl (by decide) rfl rfl ?_
  obtain ⟨n1, h⟩ := h
  exact g_X2_latest_7 hE hz n1 _ _ _ _ h
set_option maxHeartbeats 4000000 in
set_option maxRecDepth 100000 in
theorem c_X4_along {E : EX} (hE : EH E) {a2 : Int32} {a3 : Int32} {a4 : Int32} {a5 : Int32} {M : Mem} {Q : Int64 → Mem → Prop} (h : P_Meeting_along a2 a3 a4 a5 M Q) : CL yX4_along cX4_along 7 (some .long) rmX4_along E [.ref (eA E 11), .int a2, .int a3, .int a4, .int a5] M Q := by
  refine CL.of hE (plainFor_of_name (by decide)) (Nat.le_of_ble_eq_true rfl) (fun x hz => ?_)
  unfold P_Meeting_along at h
  show G x E mX4_along 0 0 0 [(0, .ref (eA E 11)), (1, .int a2), (2, .int a3), (3, .int a4), (4, .int a5)] [] M
  refine g_iload (k0 := 4) (q := 2) dX4_along_0 rfl rfl ?_
  refine g_aloadn (k0 := 0) (q := 3) dX4_along_2 rfl rfl rfl ?_
  refine g_iloadn (k0 := 1) (q := 4) dX4_along_3 rfl rfl rfl ?_
  refine g_iconst (q := 5) dX4_along_4 ki_3 rfl ?_
  refine g_calli (q := 8) [.int a2, .int 3] [.int a5] cv_X4_21 rc_11 (c_X2_cell hE h) rfl rfl ⟨rfl, rfl, Nat.le_of_ble_eq_true rfl, Nat.le_of_ble_eq_true rfl, Nat.zero_le _, Nat.zero_le _⟩ (Nat.le_of_ble_eq_true rfl) dX4_along_5 rfl (fun r2 M1 h => ?_)
  refine g_isub (q := 9) dX4_along_8 rfl ?_
  refine g_i2l (q := 10) dX4_along_9 rfl ?_
  refine g_lstore (lv' := [(0, .ref (eA E 11)), (1, .int a2), (2, .int a3), (3, .int a4), (4, .int a5), (5, .long (Int32.toInt64 (a5 - r2)))]) (q := 12) [1, 2, 3, 4, 5, 0] dX4_along_10 (by decide) rfl rfl ?_
  refine g_aloadn (k0 := 0) (q := 13) dX4_along_12 rfl rfl rfl ?_
  refine g_iloadn (k0 := 1) (q := 14) dX4_along_13 rfl rfl rfl ?_
  refine g_iloadn (k0 := 2) (q := 15) dX4_along_14 rfl rfl rfl ?_
  refine g_calli (q := 18) [.int a2, .int a3] [] cv_X4_21 rc_11 (c_X2_cell hE h) rfl rfl ⟨rfl, rfl, Nat.le_of_ble_eq_true rfl, Nat.le_of_ble_eq_true rfl, Nat.zero_le _, Nat.zero_le _⟩ (Nat.le_of_ble_eq_true rfl) dX4_along_15 rfl (fun r4 M3 h => ?_)
  refine g_i2l (q := 19) dX4_along_18 rfl ?_
  refine g_lload (k0 := 5) (q := 21) dX4_along_19 rfl rfl ?_
  refine g_aloadn (k0 := 0) (q := 22) dX4_along_21 rfl rfl rfl ?_
  refine g_iloadn (k0 := 1) (q := 23) dX4_along_22 rfl rfl rfl ?_
  refine g_iloadn (k0 := 3) (q := 24) dX4_along_23 rfl rfl rfl ?_
  refine g_calli (q := 27) [.int a2, .int a4] [.long (Int32.toInt64 (a5 - r2)), .long (Int32.toInt64 r4)] cv_X4_21 rc_11 (c_X2_cell hE h) rfl rfl ⟨rfl, rfl, Nat.le_of_ble_eq_true rfl, Nat.le_of_ble_eq_true rfl, Nat.zero_le _, Nat.zero_le _⟩ (Nat.le_of_ble_eq_true rfl) dX4_along_24 rfl (fun r6 M5 h => ?_)
  refine g_i2l (q := 28) dX4_along_27 rfl ?_
  refine g_lmul (q := 29) dX4_along_28 rfl ?_
  refine g_ladd (q := 30) dX4_along_29 rfl ?_
  exact g_lret hz rfl dX4_along_30 h
set_option maxHeartbeats 4000000 in
set_option maxRecDepth 100000 in
theorem c_X4_square {E : EX} (hE : EH E) {a1 : Int64} {a2 : Int64} {M : Mem} {Q : Int64 → Mem → Prop} (h : P_Meeting_square a1 a2 M Q) : CL yX4_square cX4_square 4 (some .long) rmX4_square E [.long a1, .long a2] M Q := by
  refine CL.of hE (plainFor_of_name (by decide)) (Nat.le_of_ble_eq_true rfl) (fun x hz => ?_)
  unfold P_Meeting_square at h
  show G x E mX4_square 0 0 0 [(0, .long a1), (2, .long a2)] [] M
  refine g_lloadn (k0 := 0) (q := 1) dX4_square_0 rfl rfl rfl ?_
  refine g_lloadn (k0 := 0) (q := 2) dX4_square_1 rfl rfl rfl ?_
  refine g_lmul (q := 3) dX4_square_2 rfl ?_
  refine g_lloadn (k0 := 1) (q := 4) dX4_square_3 rfl rfl rfl ?_
  refine g_lloadn (k0 := 1) (q := 5) dX4_square_4 rfl rfl rfl ?_
  refine g_lmul (q := 6) dX4_square_5 rfl ?_
  refine g_ladd (q := 7) dX4_square_6 rfl ?_
  exact g_lret hz rfl dX4_square_7 h
set_option maxHeartbeats 4000000 in
set_option maxRecDepth 100000 in
theorem c_J9_floorDiv_f86c9 {E : EX} (hE : EH E) {a1 : Int64} {a2 : Int64} {M : Mem} {Q : Int64 → Mem → Prop} (h : P_J9_floorDiv_f86c9 a1 a2 M Q) : CL yJ9_floorDiv_f86c9 cJ9_floorDiv_f86c9 6 (some .long) rmJ9_floorDiv_f86c9 E [.long a1, .long a2] M Q := by
  refine CL.of hE (by decide +kernel) (Nat.le_of_ble_eq_true rfl) (fun x hz => ?_)
  unfold P_J9_floorDiv_f86c9 at h
  show G x E mJ9_floorDiv_f86c9 0 0 0 [(0, .long a1), (2, .long a2)] [] M
  refine g_lloadn (k0 := 0) (q := 1) dJ9_floorDiv_f86c9_0 rfl rfl rfl ?_
  refine g_lloadn (k0 := 1) (q := 2) dJ9_floorDiv_f86c9_1 rfl rfl rfl ?_
  have hv1 := h.1
  replace h := h.2
  refine g_ldiv (q := 3) dJ9_floorDiv_f86c9_2 hv1 rfl ?_
  refine g_lstore (lv' := [(0, .long a1), (2, .long a2), (4, .long (a1 / a2))]) (q := 5) [1, 2, 0] dJ9_floorDiv_f86c9_3 (by decide) rfl rfl ?_
  refine g_lloadn (k0 := 0) (q := 6) dJ9_floorDiv_f86c9_5 rfl rfl rfl ?_
  refine g_lloadn (k0 := 1) (q := 7) dJ9_floorDiv_f86c9_6 rfl rfl rfl ?_
  refine g_lxor (q := 8) dJ9_floorDiv_f86c9_7 rfl ?_
  refine g_lconst (q := 9) dJ9_floorDiv_f86c9_8 kl_0 rfl ?_
  refine g_lc_ge (tgt := 27) (q := 10) (q2 := 13) dJ9_floorDiv_f86c9_9 rfl dJ9_floorDiv_f86c9_10 rfl rfl (fun hc3 => ?_) (fun hc3 => ?_)
  · replace h := h.1 hc3
    refine g_lload (k0 := 2) (q := 29) dJ9_floorDiv_f86c9_27 rfl rfl ?_
    exact g_lret hz rfl dJ9_floorDiv_f86c9_29 h
  · replace h := h.2 hc3
    refine g_lload (k0 := 2) (q := 15) dJ9_floorDiv_f86c9_13 rfl rfl ?_
    refine g_lloadn (k0 := 1) (q := 16) dJ9_floorDiv_f86c9_15 rfl rfl rfl ?_
    refine g_lmul (q := 17) dJ9_floorDiv_f86c9_16 rfl ?_
    refine g_lloadn (k0 := 0) (q := 18) dJ9_floorDiv_f86c9_17 rfl rfl rfl ?_
    refine g_lc_eq (tgt := 27) (q := 19) (q2 := 22) dJ9_floorDiv_f86c9_18 rfl dJ9_floorDiv_f86c9_19 rfl rfl (fun hc2 => ?_) (fun hc2 => ?_)
    · replace h := h.1 hc2
      refine g_lload (k0 := 2) (q := 29) dJ9_floorDiv_f86c9_27 rfl rfl ?_
      exact g_lret hz rfl dJ9_floorDiv_f86c9_29 h
    · replace h := h.2 hc2
      refine g_lload (k0 := 2) (q := 24) dJ9_floorDiv_f86c9_22 rfl rfl ?_
      refine g_lconst (q := 25) dJ9_floorDiv_f86c9_24 kl_1 rfl ?_
      refine g_lsub (q := 26) dJ9_floorDiv_f86c9_25 rfl ?_
      exact g_lret hz rfl dJ9_floorDiv_f86c9_26 h
set_option maxHeartbeats 4000000 in
set_option maxRecDepth 100000 in
theorem c_J9_min_f86c9 {E : EX} (hE : EH E) {a1 : Int64} {a2 : Int64} {M : Mem} {Q : Int64 → Mem → Prop} (h : P_J9_min_f86c9 a1 a2 M Q) : CL yJ9_min_f86c9 cJ9_min_f86c9 4 (some .long) rmJ9_min_f86c9 E [.long a1, .long a2] M Q := by
  refine CL.of hE (by decide +kernel) (Nat.le_of_ble_eq_true rfl) (fun x hz => ?_)
  unfold P_J9_min_f86c9 at h
  show G x E mJ9_min_f86c9 0 0 0 [(0, .long a1), (2, .long a2)] [] M
  refine g_lloadn (k0 := 0) (q := 1) dJ9_min_f86c9_0 rfl rfl rfl ?_
  refine g_lloadn (k0 := 1) (q := 2) dJ9_min_f86c9_1 rfl rfl rfl ?_
  refine g_lc_gt (tgt := 10) (q := 3) (q2 := 6) dJ9_min_f86c9_2 rfl dJ9_min_f86c9_3 rfl rfl (fun hc1 => ?_) (fun hc1 => ?_)
  · replace h := h.1 hc1
    refine g_lloadn (k0 := 1) (q := 11) dJ9_min_f86c9_10 rfl rfl rfl ?_
    exact g_lret hz rfl dJ9_min_f86c9_11 h
  · replace h := h.2 hc1
    refine g_lloadn (k0 := 0) (q := 7) dJ9_min_f86c9_6 rfl rfl rfl ?_
    refine g_goto (tgt := 11) dJ9_min_f86c9_7 rfl ?_
    exact g_lret hz rfl dJ9_min_f86c9_11 h
set_option maxHeartbeats 4000000 in
set_option maxRecDepth 100000 in
theorem c_J9_max_f86c9 {E : EX} (hE : EH E) {a1 : Int64} {a2 : Int64} {M : Mem} {Q : Int64 → Mem → Prop} (h : P_J9_max_f86c9 a1 a2 M Q) : CL yJ9_max_f86c9 cJ9_max_f86c9 4 (some .long) rmJ9_max_f86c9 E [.long a1, .long a2] M Q := by
  refine CL.of hE (by decide +kernel) (Nat.le_of_ble_eq_true rfl) (fun x hz => ?_)
  unfold P_J9_max_f86c9 at h
  show G x E mJ9_max_f86c9 0 0 0 [(0, .long a1), (2, .long a2)] [] M
  refine g_lloadn (k0 := 0) (q := 1) dJ9_max_f86c9_0 rfl rfl rfl ?_
  refine g_lloadn (k0 := 1) (q := 2) dJ9_max_f86c9_1 rfl rfl rfl ?_
  refine g_lc_lt (tgt := 10) (q := 3) (q2 := 6) dJ9_max_f86c9_2 rfl dJ9_max_f86c9_3 rfl rfl (fun hc1 => ?_) (fun hc1 => ?_)
  · replace h := h.1 hc1
    refine g_lloadn (k0 := 1) (q := 11) dJ9_max_f86c9_10 rfl rfl rfl ?_
    exact g_lret hz rfl dJ9_max_f86c9_11 h
  · replace h := h.2 hc1
    refine g_lloadn (k0 := 0) (q := 7) dJ9_max_f86c9_6 rfl rfl rfl ?_
    refine g_goto (tgt := 11) dJ9_max_f86c9_7 rfl ?_
    exact g_lret hz rfl dJ9_max_f86c9_11 h
set_option maxHeartbeats 4000000 in
set_option maxRecDepth 100000 in
theorem c_X4_nearestAfter {E : EX} (hE : EH E) {a1 : Int64} {a2 : Int64} {a3 : Int64} {a4 : Int64} {M : Mem} {Q : Int64 → Mem → Prop} (h : P_Meeting_nearestAfter a1 a2 a3 a4 M Q) : CL yX4_nearestAfter cX4_nearestAfter 12 (some .long) rmX4_nearestAfter E [.long a1, .long a2, .long a3, .long a4] M Q := by
  refine CL.of hE (plainFor_of_name (by decide)) (Nat.le_of_ble_eq_true rfl) (fun x hz => ?_)
  unfold P_Meeting_nearestAfter at h
  show G x E mX4_nearestAfter 0 0 0 [(0, .long a1), (2, .long a2), (4, .long a3), (6, .long a4)] [] M
  refine g_lload (k0 := 2) (q := 2) dX4_nearestAfter_0 rfl rfl ?_
  refine g_lload (k0 := 3) (q := 4) dX4_nearestAfter_2 rfl rfl ?_
  refine g_scalll (q := 7) [.long a3, .long a4] [] cs_X4_29 (c_X4_square hE h) rfl rfl ⟨rfl, rfl, Nat.le_of_ble_eq_true rfl, Nat.le_of_ble_eq_true rfl, Nat.zero_le _, Nat.zero_le _⟩ (Nat.le_of_ble_eq_true rfl) dX4_nearestAfter_4 rfl (fun r2 M1 h => ?_)
  refine g_lstore (lv' := [(0, .long a1), (2, .long a2), (4, .long a3), (6, .long a4), (8, .long r2)]) (q := 9) [1, 2, 3, 4, 0] dX4_nearestAfter_7 (by decide) rfl rfl ?_
  refine g_lload (k0 := 4) (q := 11) dX4_nearestAfter_9 rfl rfl ?_
  refine g_lconst (q := 12) dX4_nearestAfter_11 kl_0 rfl ?_
  refine g_lc_ne (tgt := 18) (q := 13) (q2 := 16) dX4_nearestAfter_12 rfl dX4_nearestAfter_13 rfl rfl (fun hc9 => ?_) (fun hc9 => ?_)
  · replace h := h.1 hc9
    refine g_lloadn (k0 := 0) (q := 19) dX4_nearestAfter_18 rfl rfl rfl ?_
    refine g_lload (k0 := 2) (q := 21) dX4_nearestAfter_19 rfl rfl ?_
    refine g_lmul (q := 22) dX4_nearestAfter_21 rfl ?_
    refine g_lloadn (k0 := 1) (q := 23) dX4_nearestAfter_22 rfl rfl rfl ?_
    refine g_lload (k0 := 3) (q := 25) dX4_nearestAfter_23 rfl rfl ?_
    refine g_lmul (q := 26) dX4_nearestAfter_25 rfl ?_
    refine g_ladd (q := 27) dX4_nearestAfter_26 rfl ?_
    refine g_lneg (q := 28) dX4_nearestAfter_27 rfl ?_
    refine g_lload (k0 := 4) (q := 30) dX4_nearestAfter_28 rfl rfl ?_
    refine g_scalll (q := 33) [.long (-((a1 * a3) + (a2 * a4))), .long r2] [] cs_X4_35 (c_J9_floorDiv_f86c9 hE h) rfl rfl ⟨rfl, rfl, Nat.le_of_ble_eq_true rfl, Nat.le_of_ble_eq_true rfl, Nat.zero_le _, Nat.zero_le _⟩ (Nat.le_of_ble_eq_true rfl) dX4_nearestAfter_30 rfl (fun r4 M3 h => ?_)
    refine g_lstore (lv' := [(0, .long a1), (2, .long a2), (4, .long a3), (6, .long a4), (8, .long r2), (10, .long r4)]) (q := 35) [1, 2, 3, 4, 5, 0] dX4_nearestAfter_33 (by decide) rfl rfl ?_
    refine g_lconst (q := 36) dX4_nearestAfter_35 kl_0 rfl ?_
    refine g_lload (k0 := 5) (q := 38) dX4_nearestAfter_36 rfl rfl ?_
    refine g_ldc2 (q := 41) dX4_nearestAfter_38 wm_673 rfl ?_
    refine g_scalll (q := 44) [.long r4, .long 3600] [.long 0] cs_X4_40 (c_J9_min_f86c9 hE h) rfl rfl ⟨rfl, rfl, Nat.le_of_ble_eq_true rfl, Nat.le_of_ble_eq_true rfl, Nat.zero_le _, Nat.zero_le _⟩ (Nat.le_of_ble_eq_true rfl) dX4_nearestAfter_41 rfl (fun r6 M5 h => ?_)
    refine g_scalll (q := 47) [.long 0, .long r6] [] cs_X4_43 (c_J9_max_f86c9 hE h) rfl rfl ⟨rfl, rfl, Nat.le_of_ble_eq_true rfl, Nat.le_of_ble_eq_true rfl, Nat.zero_le _, Nat.zero_le _⟩ (Nat.le_of_ble_eq_true rfl) dX4_nearestAfter_44 rfl (fun r8 M7 h => ?_)
    exact g_lret hz rfl dX4_nearestAfter_47 h
  · replace h := h.2 hc9
    refine g_lconst (q := 17) dX4_nearestAfter_16 kl_0 rfl ?_
    exact g_lret hz rfl dX4_nearestAfter_17 h
set_option maxHeartbeats 4000000 in
set_option maxRecDepth 100000 in
theorem c_X4_find {E : EX} (hE : EH E) {a2 : Int32} {a3 : Int32} {a4 : Int32} {M : Mem} {Q : Int64 → Mem → Prop} (h : P_Meeting_find a2 a3 a4 M Q) : CL yX4_find cX4_find 19 (some .long) rmX4_find E [.ref (eA E 34), .ref (eA E 11), .int a2, .int a3, .int a4] M Q := by
  refine CL.of hE (plainFor_of_name (by decide)) (Nat.le_of_ble_eq_true rfl) (fun x hz => ?_)
  unfold P_Meeting_find at h
  show G x E mX4_find 0 0 0 [(0, .ref (eA E 34)), (1, .ref (eA E 11)), (2, .int a2), (3, .int a3), (4, .int a4)] [] M
  refine g_aloadn (k0 := 1) (q := 1) dX4_find_0 rfl rfl rfl ?_
  refine g_iloadn (k0 := 2) (q := 2) dX4_find_1 rfl rfl rfl ?_
  refine g_iconst (q := 3) dX4_find_2 ki_4 rfl ?_
  refine g_bipush (q := 5) dX4_find_3 kb_6 rfl ?_
  refine g_iload (k0 := 4) (q := 7) dX4_find_5 rfl rfl ?_
  refine g_scalll (q := 10) [.ref (eA E 11), .int a2, .int 4, .int 6, .int a4] [] cs_X4_17 (c_X4_along hE h) rfl rfl ⟨rfl, rfl, Nat.le_of_ble_eq_true rfl, Nat.le_of_ble_eq_true rfl, Nat.zero_le _, Nat.zero_le _⟩ (Nat.le_of_ble_eq_true rfl) dX4_find_7 rfl (fun r2 M1 h => ?_)
  refine g_aloadn (k0 := 1) (q := 11) dX4_find_10 rfl rfl rfl ?_
  refine g_iloadn (k0 := 3) (q := 12) dX4_find_11 rfl rfl rfl ?_
  refine g_iconst (q := 13) dX4_find_12 ki_4 rfl ?_
  refine g_bipush (q := 15) dX4_find_13 kb_6 rfl ?_
  refine g_iload (k0 := 4) (q := 17) dX4_find_15 rfl rfl ?_
  refine g_scalll (q := 20) [.ref (eA E 11), .int a3, .int 4, .int 6, .int a4] [.long r2] cs_X4_17 (c_X4_along hE h) rfl rfl ⟨rfl, rfl, Nat.le_of_ble_eq_true rfl, Nat.le_of_ble_eq_true rfl, Nat.zero_le _, Nat.zero_le _⟩ (Nat.le_of_ble_eq_true rfl) dX4_find_17 rfl (fun r4 M3 h => ?_)
  refine g_lsub (q := 21) dX4_find_20 rfl ?_
  refine g_lstore (lv' := [(0, .ref (eA E 34)), (1, .ref (eA E 11)), (2, .int a2), (3, .int a3), (4, .int a4), (5, .long (r2 - r4))]) (q := 23) [1, 2, 3, 4, 5, 0] dX4_find_21 (by decide) rfl rfl ?_
  refine g_aloadn (k0 := 1) (q := 24) dX4_find_23 rfl rfl rfl ?_
  refine g_iloadn (k0 := 2) (q := 25) dX4_find_24 rfl rfl rfl ?_
  refine g_iconst (q := 26) dX4_find_25 ki_5 rfl ?_
  refine g_bipush (q := 28) dX4_find_26 kb_7 rfl ?_
  refine g_iload (k0 := 4) (q := 30) dX4_find_28 rfl rfl ?_
  refine g_scalll (q := 33) [.ref (eA E 11), .int a2, .int 5, .int 7, .int a4] [] cs_X4_17 (c_X4_along hE h) rfl rfl ⟨rfl, rfl, Nat.le_of_ble_eq_true rfl, Nat.le_of_ble_eq_true rfl, Nat.zero_le _, Nat.zero_le _⟩ (Nat.le_of_ble_eq_true rfl) dX4_find_30 rfl (fun r6 M5 h => ?_)
  refine g_aloadn (k0 := 1) (q := 34) dX4_find_33 rfl rfl rfl ?_
  refine g_iloadn (k0 := 3) (q := 35) dX4_find_34 rfl rfl rfl ?_
  refine g_iconst (q := 36) dX4_find_35 ki_5 rfl ?_
  refine g_bipush (q := 38) dX4_find_36 kb_7 rfl ?_
  refine g_iload (k0 := 4) (q := 40) dX4_find_38 rfl rfl ?_
  refine g_scalll (q := 43) [.ref (eA E 11), .int a3, .int 5, .int 7, .int a4] [.long r6] cs_X4_17 (c_X4_along hE h) rfl rfl ⟨rfl, rfl, Nat.le_of_ble_eq_true rfl, Nat.le_of_ble_eq_true rfl, Nat.zero_le _, Nat.zero_le _⟩ (Nat.le_of_ble_eq_true rfl) dX4_find_40 rfl (fun r8 M7 h => ?_)
  refine g_lsub (q := 44) dX4_find_43 rfl ?_
  refine g_lstore (lv' := [(0, .ref (eA E 34)), (1, .ref (eA E 11)), (2, .int a2), (3, .int a3), (4, .int a4), (5, .long (r2 - r4)), (7, .long (r6 - r8))]) (q := 46) [1, 2, 3, 4, 5, 6, 0] dX4_find_44 (by decide) rfl rfl ?_
  refine g_aloadn (k0 := 1) (q := 47) dX4_find_46 rfl rfl rfl ?_
  refine g_iloadn (k0 := 2) (q := 48) dX4_find_47 rfl rfl rfl ?_
  refine g_bipush (q := 50) dX4_find_48 kb_6 rfl ?_
  refine g_calli (q := 53) [.int a2, .int 6] [] cv_X4_21 rc_11 (c_X2_cell hE h) rfl rfl ⟨rfl, rfl, Nat.le_of_ble_eq_true rfl, Nat.le_of_ble_eq_true rfl, Nat.zero_le _, Nat.zero_le _⟩ (Nat.le_of_ble_eq_true rfl) dX4_find_50 rfl (fun r10 M9 h => ?_)
  refine g_aloadn (k0 := 1) (q := 54) dX4_find_53 rfl rfl rfl ?_
  refine g_iloadn (k0 := 3) (q := 55) dX4_find_54 rfl rfl rfl ?_
  refine g_bipush (q := 57) dX4_find_55 kb_6 rfl ?_
  refine g_calli (q := 60) [.int a3, .int 6] [.int r10] cv_X4_21 rc_11 (c_X2_cell hE h) rfl rfl ⟨rfl, rfl, Nat.le_of_ble_eq_true rfl, Nat.le_of_ble_eq_true rfl, Nat.zero_le _, Nat.zero_le _⟩ (Nat.le_of_ble_eq_true rfl) dX4_find_57 rfl (fun r12 M11 h => ?_)
  refine g_isub (q := 61) dX4_find_60 rfl ?_
  refine g_i2l (q := 62) dX4_find_61 rfl ?_
  refine g_lstore (lv' := [(0, .ref (eA E 34)), (1, .ref (eA E 11)), (2, .int a2), (3, .int a3), (4, .int a4), (5, .long (r2 - r4)), (7, .long (r6 - r8)), (9, .long (Int32.toInt64 (r10 - r12)))]) (q := 64) [1, 2, 3, 4, 5, 6, 7, 0] dX4_find_62 (by decide) rfl rfl ?_
  refine g_aloadn (k0 := 1) (q := 65) dX4_find_64 rfl rfl rfl ?_
  refine g_iloadn (k0 := 2) (q := 66) dX4_find_65 rfl rfl rfl ?_
  refine g_bipush (q := 68) dX4_find_66 kb_7 rfl ?_
  refine g_calli (q := 71) [.int a2, .int 7] [] cv_X4_21 rc_11 (c_X2_cell hE h) rfl rfl ⟨rfl, rfl, Nat.le_of_ble_eq_true rfl, Nat.le_of_ble_eq_true rfl, Nat.zero_le _, Nat.zero_le _⟩ (Nat.le_of_ble_eq_true rfl) dX4_find_68 rfl (fun r14 M13 h => ?_)
  refine g_aloadn (k0 := 1) (q := 72) dX4_find_71 rfl rfl rfl ?_
  refine g_iloadn (k0 := 3) (q := 73) dX4_find_72 rfl rfl rfl ?_
  refine g_bipush (q := 75) dX4_find_73 kb_7 rfl ?_
  refine g_calli (q := 78) [.int a3, .int 7] [.int r14] cv_X4_21 rc_11 (c_X2_cell hE h) rfl rfl ⟨rfl, rfl, Nat.le_of_ble_eq_true rfl, Nat.le_of_ble_eq_true rfl, Nat.zero_le _, Nat.zero_le _⟩ (Nat.le_of_ble_eq_true rfl) dX4_find_75 rfl (fun r16 M15 h => ?_)
  refine g_isub (q := 79) dX4_find_78 rfl ?_
  refine g_i2l (q := 80) dX4_find_79 rfl ?_
  refine g_lstore (lv' := [(0, .ref (eA E 34)), (1, .ref (eA E 11)), (2, .int a2), (3, .int a3), (4, .int a4), (5, .long (r2 - r4)), (7, .long (r6 - r8)), (9, .long (Int32.toInt64 (r10 - r12))), (11, .long (Int32.toInt64 (r14 - r16)))]) (q := 82) [1, 2, 3, 4, 5, 6, 7, 8, 0] dX4_find_80 (by decide) rfl rfl ?_
  refine g_lload (k0 := 5) (q := 84) dX4_find_82 rfl rfl ?_
  refine g_lload (k0 := 6) (q := 86) dX4_find_84 rfl rfl ?_
  refine g_lload (k0 := 7) (q := 88) dX4_find_86 rfl rfl ?_
  refine g_lload (k0 := 8) (q := 90) dX4_find_88 rfl rfl ?_
  refine g_scalll (q := 93) [.long (r2 - r4), .long (r6 - r8), .long (Int32.toInt64 (r10 - r12)), .long (Int32.toInt64 (r14 - r16))] [] cs_X4_25 (c_X4_nearestAfter hE h) rfl rfl ⟨rfl, rfl, Nat.le_of_ble_eq_true rfl, Nat.le_of_ble_eq_true rfl, Nat.zero_le _, Nat.zero_le _⟩ (Nat.le_of_ble_eq_true rfl) dX4_find_90 rfl (fun r18 M17 h => ?_)
  refine g_lstore (lv' := [(0, .ref (eA E 34)), (1, .ref (eA E 11)), (2, .int a2), (3, .int a3), (4, .int a4), (5, .long (r2 - r4)), (7, .long (r6 - r8)), (9, .long (Int32.toInt64 (r10 - r12))), (11, .long (Int32.toInt64 (r14 - r16))), (13, .long r18)]) (q := 95) [1, 2, 3, 4, 5, 6, 7, 8, 9, 0] dX4_find_93 (by decide) rfl rfl ?_
  refine g_lload (k0 := 5) (q := 97) dX4_find_95 rfl rfl ?_
  refine g_lload (k0 := 7) (q := 99) dX4_find_97 rfl rfl ?_
  refine g_lload (k0 := 9) (q := 101) dX4_find_99 rfl rfl ?_
  refine g_lmul (q := 102) dX4_find_101 rfl ?_
  refine g_ladd (q := 103) dX4_find_102 rfl ?_
  refine g_lload (k0 := 6) (q := 105) dX4_find_103 rfl rfl ?_
  refine g_lload (k0 := 8) (q := 107) dX4_find_105 rfl rfl ?_
  refine g_lload (k0 := 9) (q := 109) dX4_find_107 rfl rfl ?_
  refine g_lmul (q := 110) dX4_find_109 rfl ?_
  refine g_ladd (q := 111) dX4_find_110 rfl ?_
  refine g_scalll (q := 114) [.long ((r2 - r4) + ((Int32.toInt64 (r10 - r12)) * r18)), .long ((r6 - r8) + ((Int32.toInt64 (r14 - r16)) * r18))] [] cs_X4_29 (c_X4_square hE h) rfl rfl ⟨rfl, rfl, Nat.le_of_ble_eq_true rfl, Nat.le_of_ble_eq_true rfl, Nat.zero_le _, Nat.zero_le _⟩ (Nat.le_of_ble_eq_true rfl) dX4_find_111 rfl (fun r20 M19 h => ?_)
  refine g_lstore (lv' := [(0, .ref (eA E 34)), (1, .ref (eA E 11)), (2, .int a2), (3, .int a3), (4, .int a4), (5, .long (r2 - r4)), (7, .long (r6 - r8)), (9, .long (Int32.toInt64 (r10 - r12))), (11, .long (Int32.toInt64 (r14 - r16))), (13, .long r18), (15, .long r20)]) (q := 116) [1, 2, 3, 4, 5, 6, 7, 8, 9, 10, 0] dX4_find_114 (by decide) rfl rfl ?_
  refine g_lload (k0 := 9) (q := 118) dX4_find_116 rfl rfl ?_
  refine g_ldc2 (q := 121) dX4_find_118 wm_673 rfl ?_
  refine g_lc_ge (tgt := 168) (q := 122) (q2 := 125) dX4_find_121 rfl dX4_find_122 rfl rfl (fun hc24 => ?_) (fun hc24 => ?_)
  · replace h := h.1 hc24
    refine g_aloadn (k0 := 0) (q := 169) dX4_find_168 rfl rfl rfl ?_
    refine g_iload (k0 := 4) (q := 171) dX4_find_169 rfl rfl ?_
    refine g_lload (k0 := 9) (q := 173) dX4_find_171 rfl rfl ?_
    refine g_l2i (q := 174) dX4_find_173 rfl ?_
    refine g_iadd (q := 175) dX4_find_174 rfl ?_
    refine g_putI (q := 178) fp_X4_9_34 dX4_find_175 rfl ?_
    refine g_lload (k0 := 10) (q := 180) dX4_find_178 rfl rfl ?_
    exact g_lret hz rfl dX4_find_180 h
  · replace h := h.2 hc24
    refine g_lload (k0 := 5) (q := 127) dX4_find_125 rfl rfl ?_
    refine g_lload (k0 := 7) (q := 129) dX4_find_127 rfl rfl ?_
    refine g_lload (k0 := 9) (q := 131) dX4_find_129 rfl rfl ?_
    refine g_lconst (q := 132) dX4_find_131 kl_1 rfl ?_
    refine g_ladd (q := 133) dX4_find_132 rfl ?_
    refine g_lmul (q := 134) dX4_find_133 rfl ?_
    refine g_ladd (q := 135) dX4_find_134 rfl ?_
    refine g_lload (k0 := 6) (q := 137) dX4_find_135 rfl rfl ?_
    refine g_lload (k0 := 8) (q := 139) dX4_find_137 rfl rfl ?_
    refine g_lload (k0 := 9) (q := 141) dX4_find_139 rfl rfl ?_
    refine g_lconst (q := 142) dX4_find_141 kl_1 rfl ?_
    refine g_ladd (q := 143) dX4_find_142 rfl ?_
    refine g_lmul (q := 144) dX4_find_143 rfl ?_
    refine g_ladd (q := 145) dX4_find_144 rfl ?_
    refine g_scalll (q := 148) [.long ((r2 - r4) + ((Int32.toInt64 (r10 - r12)) * (r18 + 1))), .long ((r6 - r8) + ((Int32.toInt64 (r14 - r16)) * (r18 + 1)))] [] cs_X4_29 (c_X4_square hE h) rfl rfl ⟨rfl, rfl, Nat.le_of_ble_eq_true rfl, Nat.le_of_ble_eq_true rfl, Nat.zero_le _, Nat.zero_le _⟩ (Nat.le_of_ble_eq_true rfl) dX4_find_145 rfl (fun r22 M21 h => ?_)
    refine g_lstore (lv' := [(0, .ref (eA E 34)), (1, .ref (eA E 11)), (2, .int a2), (3, .int a3), (4, .int a4), (5, .long (r2 - r4)), (7, .long (r6 - r8)), (9, .long (Int32.toInt64 (r10 - r12))), (11, .long (Int32.toInt64 (r14 - r16))), (13, .long r18), (15, .long r20), (17, .long r22)]) (q := 150) [1, 2, 3, 4, 5, 6, 7, 8, 9, 10, 11, 0] dX4_find_148 (by decide) rfl rfl ?_
    refine g_lload (k0 := 11) (q := 152) dX4_find_150 rfl rfl ?_
    refine g_lload (k0 := 10) (q := 154) dX4_find_152 rfl rfl ?_
    refine g_lc_ge (tgt := 168) (q := 155) (q2 := 158) dX4_find_154 rfl dX4_find_155 rfl rfl (fun hc23 => ?_) (fun hc23 => ?_)
    · replace h := h.1 hc23
      refine g_aloadn (k0 := 0) (q := 169) dX4_find_168 rfl rfl rfl ?_
      refine g_iload (k0 := 4) (q := 171) dX4_find_169 rfl rfl ?_
      refine g_lload (k0 := 9) (q := 173) dX4_find_171 rfl rfl ?_
      refine g_l2i (q := 174) dX4_find_173 rfl ?_
      refine g_iadd (q := 175) dX4_find_174 rfl ?_
      refine g_putI (q := 178) fp_X4_9_34 dX4_find_175 rfl ?_
      refine g_lload (k0 := 10) (q := 180) dX4_find_178 rfl rfl ?_
      exact g_lret hz rfl dX4_find_180 h
    · replace h := h.2 hc23
      refine g_lload (k0 := 11) (q := 160) dX4_find_158 rfl rfl ?_
      refine g_lstore (lv' := [(0, .ref (eA E 34)), (1, .ref (eA E 11)), (2, .int a2), (3, .int a3), (4, .int a4), (5, .long (r2 - r4)), (7, .long (r6 - r8)), (9, .long (Int32.toInt64 (r10 - r12))), (11, .long (Int32.toInt64 (r14 - r16))), (13, .long r18), (15, .long r22), (17, .long r22)]) (q := 162) [1, 2, 3, 4, 5, 6, 7, 8, 9, 10, 0, 11] dX4_find_160 (by decide) rfl rfl ?_
      refine g_lload (k0 := 9) (q := 164) dX4_find_162 rfl rfl ?_
      refine g_lconst (q := 165) dX4_find_164 kl_1 rfl ?_
      refine g_ladd (q := 166) dX4_find_165 rfl ?_
      refine g_lstore (lv' := [(0, .ref (eA E 34)), (1, .ref (eA E 11)), (2, .int a2), (3, .int a3), (4, .int a4), (5, .long (r2 - r4)), (7, .long (r6 - r8)), (9, .long (Int32.toInt64 (r10 - r12))), (11, .long (Int32.toInt64 (r14 - r16))), (13, .long (r18 + 1)), (15, .long r22), (17, .long r22)]) (q := 168) [1, 2, 3, 4, 5, 6, 7, 8, 9, 0, 10, 11] dX4_find_166 (by decide) rfl rfl ?_
      refine g_aloadn (k0 := 0) (q := 169) dX4_find_168 rfl rfl rfl ?_
      refine g_iload (k0 := 4) (q := 171) dX4_find_169 rfl rfl ?_
      refine g_lload (k0 := 9) (q := 173) dX4_find_171 rfl rfl ?_
      refine g_l2i (q := 174) dX4_find_173 rfl ?_
      refine g_iadd (q := 175) dX4_find_174 rfl ?_
      refine g_putI (q := 178) fp_X4_9_34 dX4_find_175 rfl ?_
      refine g_lload (k0 := 10) (q := 180) dX4_find_178 rfl rfl ?_
      exact g_lret hz rfl dX4_find_180 h
set_option maxHeartbeats 4000000 in
set_option maxRecDepth 100000 in
theorem c_X10_meet {E : EX} (hE : EH E) {a1 : Int32} {a2 : Int32} {M : Mem} {Q : Int64 → Mem → Prop} (h : P_Sv_meet a1 a2 M Q) : CL yX10_meet cX10_meet 5 (some .long) rmX10_meet E [.ref (eA E 0), .int a1, .int a2] M Q := by
  refine CL.of hE (plainFor_of_name (by decide)) (Nat.le_of_ble_eq_true rfl) (fun x hz => ?_)
  unfold P_Sv_meet at h
  show G x E mX10_meet 0 0 0 [(0, .ref (eA E 0)), (1, .int a1), (2, .int a2)] [] M
  refine g_iloadn (k0 := 1) (q := 1) dX10_meet_0 rfl rfl rfl ?_
  refine g_iloadn (k0 := 2) (q := 2) dX10_meet_1 rfl rfl rfl ?_
  refine g_ic_ne (tgt := 9) (q := 5) dX10_meet_2 rfl rfl (fun hc9 => ?_) (fun hc9 => ?_)
  · replace h := h.1 hc9
    refine g_aloadn (k0 := 0) (q := 10) dX10_meet_9 rfl rfl rfl ?_
    refine g_get (v := .ref (eA E 11)) (q := 13) fg_X10_43_0 rfl dX10_meet_10 rfl ?_
    refine g_iconst (q := 14) dX10_meet_13 ki_1 rfl ?_
    refine g_iloadn (k0 := 1) (q := 15) dX10_meet_14 rfl rfl rfl ?_
    refine g_calli (q := 18) [.int 1, .int a1] [] cv_X10_184 rc_11 (c_X2_latest hE h) rfl rfl ⟨rfl, rfl, Nat.le_of_ble_eq_true rfl, Nat.le_of_ble_eq_true rfl, Nat.zero_le _, Nat.zero_le _⟩ (Nat.le_of_ble_eq_true rfl) dX10_meet_15 rfl (fun r2 M1 h => ?_)
    refine g_istoren (lv' := [(0, .ref (eA E 0)), (1, .int a1), (2, .int a2), (3, .int r2)]) (q := 19) [1, 2, 3, 0] dX10_meet_18 rfl (by decide) rfl rfl ?_
    refine g_aloadn (k0 := 0) (q := 20) dX10_meet_19 rfl rfl rfl ?_
    refine g_get (v := .ref (eA E 11)) (q := 23) fg_X10_43_0 rfl dX10_meet_20 rfl ?_
    refine g_iconst (q := 24) dX10_meet_23 ki_1 rfl ?_
    refine g_iloadn (k0 := 2) (q := 25) dX10_meet_24 rfl rfl rfl ?_
    refine g_calli (q := 28) [.int 1, .int a2] [] cv_X10_184 rc_11 (c_X2_latest hE h) rfl rfl ⟨rfl, rfl, Nat.le_of_ble_eq_true rfl, Nat.le_of_ble_eq_true rfl, Nat.zero_le _, Nat.zero_le _⟩ (Nat.le_of_ble_eq_true rfl) dX10_meet_25 rfl (fun r4 M3 h => ?_)
    refine g_istore (lv' := [(0, .ref (eA E 0)), (1, .int a1), (2, .int a2), (3, .int r2), (4, .int r4)]) (q := 30) [1, 2, 3, 4, 0] dX10_meet_28 (by decide) rfl rfl ?_
    refine g_iloadn (k0 := 3) (q := 31) dX10_meet_30 rfl rfl rfl ?_
    refine g_iconst (q := 32) dX10_meet_31 ki_m1 rfl ?_
    refine g_ic_eq (tgt := 41) (q := 35) dX10_meet_32 rfl rfl (fun hc8 => ?_) (fun hc8 => ?_)
    · replace h := h.1 hc8
      refine g_ldc2 (q := 44) dX10_meet_41 wm_651 rfl ?_
      exact g_lret hz rfl dX10_meet_44 h
    · replace h := h.2 hc8
      refine g_iload (k0 := 4) (q := 37) dX10_meet_35 rfl rfl ?_
      refine g_iconst (q := 38) dX10_meet_37 ki_m1 rfl ?_
      refine g_ic_ne (tgt := 45) (q := 41) dX10_meet_38 rfl rfl (fun hc7 => ?_) (fun hc7 => ?_)
      · replace h := h.1 hc7
        refine g_aloadn (k0 := 0) (q := 46) dX10_meet_45 rfl rfl rfl ?_
        refine g_get (v := .ref (eA E 34)) (q := 49) fg_X10_71_0 rfl dX10_meet_46 rfl ?_
        refine g_aloadn (k0 := 0) (q := 50) dX10_meet_49 rfl rfl rfl ?_
        refine g_get (v := .ref (eA E 11)) (q := 53) fg_X10_43_0 rfl dX10_meet_50 rfl ?_
        refine g_iloadn (k0 := 3) (q := 54) dX10_meet_53 rfl rfl rfl ?_
        refine g_iload (k0 := 4) (q := 56) dX10_meet_54 rfl rfl ?_
        refine g_aloadn (k0 := 0) (q := 57) dX10_meet_56 rfl rfl rfl ?_
        refine g_get (v := .int (M3.1 0 10)) (q := 60) fg_X10_75_0 rfl dX10_meet_57 rfl ?_
        refine g_calll (q := 63) [.ref (eA E 11), .int r2, .int r4, .int (M3.1 0 10)] [] cv_X10_187 rc_34 (c_X4_find hE h) rfl rfl ⟨rfl, rfl, Nat.le_of_ble_eq_true rfl, Nat.le_of_ble_eq_true rfl, Nat.zero_le _, Nat.zero_le _⟩ (Nat.le_of_ble_eq_true rfl) dX10_meet_60 rfl (fun r6 M5 h => ?_)
        exact g_lret hz rfl dX10_meet_63 h
      · replace h := h.2 hc7
        refine g_ldc2 (q := 44) dX10_meet_41 wm_651 rfl ?_
        exact g_lret hz rfl dX10_meet_44 h
  · replace h := h.2 hc9
    refine g_ldc2 (q := 8) dX10_meet_5 wm_651 rfl ?_
    exact g_lret hz rfl dX10_meet_8 h
set_option maxHeartbeats 4000000 in
set_option maxRecDepth 100000 in
theorem c_X4_second {E : EX} (hE : EH E) {M : Mem} {Q : Int32 → Mem → Prop} (h : P_Meeting_second  M Q) : CI yX4_second cX4_second 1 (some .int) rmX4_second E [.ref (eA E 34)] M Q := by
  refine CI.of hE (plainFor_of_name (by decide)) (Nat.le_of_ble_eq_true rfl) (fun x hz => ?_)
  unfold P_Meeting_second at h
  show G x E mX4_second 0 0 0 [(0, .ref (eA E 34))] [] M
  refine g_aloadn (k0 := 0) (q := 1) dX4_second_0 rfl rfl rfl ?_
  refine g_get (v := .int (M.1 34 0)) (q := 4) fg_X4_9_34 rfl dX4_second_1 rfl ?_
  exact g_iret hz rfl dX4_second_4 h
set_option maxHeartbeats 4000000 in
set_option maxRecDepth 100000 in
theorem c_X10_when {E : EX} (hE : EH E) {M : Mem} {Q : Int32 → Mem → Prop} (h : P_Sv_when  M Q) : CI yX10_when cX10_when 1 (some .int) rmX10_when E [.ref (eA E 0)] M Q := by
  refine CI.of hE (plainFor_of_name (by decide)) (Nat.le_of_ble_eq_true rfl) (fun x hz => ?_)
  unfold P_Sv_when at h
  show G x E mX10_when 0 0 0 [(0, .ref (eA E 0))] [] M
  refine g_aloadn (k0 := 0) (q := 1) dX10_when_0 rfl rfl rfl ?_
  refine g_get (v := .ref (eA E 34)) (q := 4) fg_X10_71_0 rfl dX10_when_1 rfl ?_
  refine g_calli (q := 7) [] [] cv_X10_191 rc_34 (c_X4_second hE h) rfl rfl ⟨rfl, rfl, Nat.le_of_ble_eq_true rfl, Nat.le_of_ble_eq_true rfl, Nat.zero_le _, Nat.zero_le _⟩ (Nat.le_of_ble_eq_true rfl) dX10_when_4 rfl (fun r2 M1 h => ?_)
  exact g_iret hz rfl dX10_when_7 h
set_option maxHeartbeats 4000000 in
set_option maxRecDepth 100000 in
theorem c_X10_size {E : EX} (hE : EH E) {a1 : Int32} {M : Mem} {Q : Int32 → Mem → Prop} (h : P_Sv_size a1 M Q) : CI yX10_size cX10_size 3 (some .int) rmX10_size E [.ref (eA E 0), .int a1] M Q := by
  refine CI.of hE (plainFor_of_name (by decide)) (Nat.le_of_ble_eq_true rfl) (fun x hz => ?_)
  unfold P_Sv_size at h
  show G x E mX10_size 0 0 0 [(0, .ref (eA E 0)), (1, .int a1)] [] M
  refine g_aloadn (k0 := 0) (q := 1) dX10_size_0 rfl rfl rfl ?_
  refine g_get (v := .ref (eA E 11)) (q := 4) fg_X10_43_0 rfl dX10_size_1 rfl ?_
  refine g_iconst (q := 5) dX10_size_4 ki_2 rfl ?_
  refine g_iloadn (k0 := 1) (q := 6) dX10_size_5 rfl rfl rfl ?_
  refine g_calli (q := 9) [.int 2, .int a1] [] cv_X10_184 rc_11 (c_X2_latest hE h) rfl rfl ⟨rfl, rfl, Nat.le_of_ble_eq_true rfl, Nat.le_of_ble_eq_true rfl, Nat.zero_le _, Nat.zero_le _⟩ (Nat.le_of_ble_eq_true rfl) dX10_size_6 rfl (fun r2 M1 h => ?_)
  refine g_istoren (lv' := [(0, .ref (eA E 0)), (1, .int a1), (2, .int r2)]) (q := 10) [1, 2, 0] dX10_size_9 rfl (by decide) rfl rfl ?_
  refine g_iloadn (k0 := 2) (q := 11) dX10_size_10 rfl rfl rfl ?_
  refine g_iconst (q := 12) dX10_size_11 ki_m1 rfl ?_
  refine g_ic_ne (tgt := 19) (q := 15) dX10_size_12 rfl rfl (fun hc5 => ?_) (fun hc5 => ?_)
  · replace h := h.1 hc5
    refine g_aloadn (k0 := 0) (q := 20) dX10_size_19 rfl rfl rfl ?_
    refine g_get (v := .ref (eA E 11)) (q := 23) fg_X10_43_0 rfl dX10_size_20 rfl ?_
    refine g_iloadn (k0 := 2) (q := 24) dX10_size_23 rfl rfl rfl ?_
    refine g_bipush (q := 26) dX10_size_24 kb_6 rfl ?_
    refine g_calli (q := 29) [.int r2, .int 6] [] cv_X10_139 rc_11 (c_X2_cell hE h) rfl rfl ⟨rfl, rfl, Nat.le_of_ble_eq_true rfl, Nat.le_of_ble_eq_true rfl, Nat.zero_le _, Nat.zero_le _⟩ (Nat.le_of_ble_eq_true rfl) dX10_size_26 rfl (fun r4 M3 h => ?_)
    exact g_iret hz rfl dX10_size_29 h
  · replace h := h.2 hc5
    refine g_iconst (q := 16) dX10_size_15 ki_m1 rfl ?_
    refine g_goto (tgt := 29) dX10_size_16 rfl ?_
    exact g_iret hz rfl dX10_size_29 h
set_option maxHeartbeats 4000000 in
set_option maxRecDepth 100000 in
theorem c_X1_torn_3 {E : EX} (hE : EH E) {M : Mem} {Q : Int32 → Mem → Prop} (h : P_Ear_torn 3  M Q) : CI yX1_torn cX1_torn 1 (some .int) rmX1_torn E [.ref (eA E 3)] M Q := by
  refine CI.of hE (plainFor_of_name (by decide)) (Nat.le_of_ble_eq_true rfl) (fun x hz => ?_)
  unfold P_Ear_torn at h
  show G x E mX1_torn 0 0 0 [(0, .ref (eA E 3))] [] M
  refine g_aloadn (k0 := 0) (q := 1) dX1_torn_0 rfl rfl rfl ?_
  refine g_get (v := .int (M.1 3 4)) (q := 4) fg_X1_25_3 rfl dX1_torn_1 rfl ?_
  exact g_iret hz rfl dX1_torn_4 h
set_option maxHeartbeats 4000000 in
set_option maxRecDepth 100000 in
theorem c_X1_torn_5 {E : EX} (hE : EH E) {M : Mem} {Q : Int32 → Mem → Prop} (h : P_Ear_torn 5  M Q) : CI yX1_torn cX1_torn 1 (some .int) rmX1_torn E [.ref (eA E 5)] M Q := by
  refine CI.of hE (plainFor_of_name (by decide)) (Nat.le_of_ble_eq_true rfl) (fun x hz => ?_)
  unfold P_Ear_torn at h
  show G x E mX1_torn 0 0 0 [(0, .ref (eA E 5))] [] M
  refine g_aloadn (k0 := 0) (q := 1) dX1_torn_0 rfl rfl rfl ?_
  refine g_get (v := .int (M.1 5 4)) (q := 4) fg_X1_25_5 rfl dX1_torn_1 rfl ?_
  exact g_iret hz rfl dX1_torn_4 h
set_option maxHeartbeats 4000000 in
set_option maxRecDepth 100000 in
theorem c_X1_bitsPut_3 {E : EX} (hE : EH E) {M : Mem} {Q : Int32 → Mem → Prop} (h : P_Ear_bitsPut 3  M Q) : CI yX1_bitsPut cX1_bitsPut 1 (some .int) rmX1_bitsPut E [.ref (eA E 3)] M Q := by
  refine CI.of hE (plainFor_of_name (by decide)) (Nat.le_of_ble_eq_true rfl) (fun x hz => ?_)
  unfold P_Ear_bitsPut at h
  show G x E mX1_bitsPut 0 0 0 [(0, .ref (eA E 3))] [] M
  refine g_aloadn (k0 := 0) (q := 1) dX1_bitsPut_0 rfl rfl rfl ?_
  refine g_get (v := .int (M.1 3 3)) (q := 4) fg_X1_22_3 rfl dX1_bitsPut_1 rfl ?_
  exact g_iret hz rfl dX1_bitsPut_4 h
set_option maxHeartbeats 4000000 in
set_option maxRecDepth 100000 in
theorem c_X1_bitsPut_5 {E : EX} (hE : EH E) {M : Mem} {Q : Int32 → Mem → Prop} (h : P_Ear_bitsPut 5  M Q) : CI yX1_bitsPut cX1_bitsPut 1 (some .int) rmX1_bitsPut E [.ref (eA E 5)] M Q := by
  refine CI.of hE (plainFor_of_name (by decide)) (Nat.le_of_ble_eq_true rfl) (fun x hz => ?_)
  unfold P_Ear_bitsPut at h
  show G x E mX1_bitsPut 0 0 0 [(0, .ref (eA E 5))] [] M
  refine g_aloadn (k0 := 0) (q := 1) dX1_bitsPut_0 rfl rfl rfl ?_
  refine g_get (v := .int (M.1 5 3)) (q := 4) fg_X1_22_5 rfl dX1_bitsPut_1 rfl ?_
  exact g_iret hz rfl dX1_bitsPut_4 h
set_option maxHeartbeats 4000000 in
set_option maxRecDepth 100000 in
theorem c_X10_count {E : EX} (hE : EH E) {a1 : Int32} {M : Mem} {Q : Int32 → Mem → Prop} (h : P_Sv_count a1 M Q) : CI yX10_count cX10_count 2 (some .int) rmX10_count E [.ref (eA E 0), .int a1] M Q := by
  refine CI.of hE (plainFor_of_name (by decide)) (Nat.le_of_ble_eq_true rfl) (fun x hz => ?_)
  unfold P_Sv_count at h
  show G x E mX10_count 0 0 0 [(0, .ref (eA E 0)), (1, .int a1)] [] M
  refine g_iloadn (k0 := 1) (q := 1) dX10_count_0 rfl rfl rfl ?_
  by_cases hc1 : a1 = 0
  · replace h := h.1 hc1
    refine g_tin (tgt := 52) 0 (by rw [hc1]; decide) dX10_count_1 (by decide) (by decide) rfl rfl ?_
    refine g_aloadn (k0 := 0) (q := 53) dX10_count_52 rfl rfl rfl ?_
    refine g_get (v := .int (M.1 0 10)) (q := 56) fg_X10_75_0 rfl dX10_count_53 rfl ?_
    exact g_iret hz rfl dX10_count_56 h
  replace h := h.2
  by_cases hc2 : a1 = 1
  · replace h := h.1 hc2
    refine g_tin (tgt := 57) 1 (by rw [hc2]; decide) dX10_count_1 (by decide) (by decide) rfl rfl ?_
    refine g_aloadn (k0 := 0) (q := 58) dX10_count_57 rfl rfl rfl ?_
    refine g_get (v := .int (M.1 0 11)) (q := 61) fg_X10_79_0 rfl dX10_count_58 rfl ?_
    exact g_iret hz rfl dX10_count_61 h
  replace h := h.2
  by_cases hc5 : a1 = 2
  · replace h := h.1 hc5
    refine g_tin (tgt := 62) 2 (by rw [hc5]; decide) dX10_count_1 (by decide) (by decide) rfl rfl ?_
    refine g_aloadn (k0 := 0) (q := 63) dX10_count_62 rfl rfl rfl ?_
    refine g_get (v := .ref (eA E 11)) (q := 66) fg_X10_43_0 rfl dX10_count_63 rfl ?_
    refine g_calli (q := 69) [] [] cv_X10_194 rc_11 (c_X2_entries hE h) rfl rfl ⟨rfl, rfl, Nat.le_of_ble_eq_true rfl, Nat.le_of_ble_eq_true rfl, Nat.zero_le _, Nat.zero_le _⟩ (Nat.le_of_ble_eq_true rfl) dX10_count_66 rfl (fun r4 M3 h => ?_)
    exact g_iret hz rfl dX10_count_69 h
  replace h := h.2
  by_cases hc6 : a1 = 3
  · replace h := h.1 hc6
    refine g_tin (tgt := 70) 3 (by rw [hc6]; decide) dX10_count_1 (by decide) (by decide) rfl rfl ?_
    refine g_aloadn (k0 := 0) (q := 71) dX10_count_70 rfl rfl rfl ?_
    refine g_get (v := .int (M.1 0 12)) (q := 74) fg_X10_82_0 rfl dX10_count_71 rfl ?_
    exact g_iret hz rfl dX10_count_74 h
  replace h := h.2
  by_cases hc11 : a1 = 4
  · replace h := h.1 hc11
    refine g_tin (tgt := 75) 4 (by rw [hc11]; decide) dX10_count_1 (by decide) (by decide) rfl rfl ?_
    refine g_aloadn (k0 := 0) (q := 76) dX10_count_75 rfl rfl rfl ?_
    refine g_get (v := .ref (eA E 3)) (q := 79) fg_X10_19_0 rfl dX10_count_76 rfl ?_
    refine g_calli (q := 82) [] [] cv_X10_197 rc_3 (c_X1_torn_3 hE h) rfl rfl ⟨rfl, rfl, Nat.le_of_ble_eq_true rfl, Nat.le_of_ble_eq_true rfl, Nat.zero_le _, Nat.zero_le _⟩ (Nat.le_of_ble_eq_true rfl) dX10_count_79 rfl (fun r8 M7 h => ?_)
    refine g_aloadn (k0 := 0) (q := 83) dX10_count_82 rfl rfl rfl ?_
    refine g_get (v := .ref (eA E 5)) (q := 86) fg_X10_23_0 rfl dX10_count_83 rfl ?_
    refine g_calli (q := 89) [] [.int r8] cv_X10_197 rc_5 (c_X1_torn_5 hE h) rfl rfl ⟨rfl, rfl, Nat.le_of_ble_eq_true rfl, Nat.le_of_ble_eq_true rfl, Nat.zero_le _, Nat.zero_le _⟩ (Nat.le_of_ble_eq_true rfl) dX10_count_86 rfl (fun r10 M9 h => ?_)
    refine g_iadd (q := 90) dX10_count_89 rfl ?_
    exact g_iret hz rfl dX10_count_90 h
  replace h := h.2
  by_cases hc14 : a1 = 5
  · replace h := h.1 hc14
    refine g_tin (tgt := 91) 5 (by rw [hc14]; decide) dX10_count_1 (by decide) (by decide) rfl rfl ?_
    refine g_aloadn (k0 := 0) (q := 92) dX10_count_91 rfl rfl rfl ?_
    refine g_get (v := .ref (eA E 1)) (q := 95) fg_X10_10_0 rfl dX10_count_92 rfl ?_
    refine g_calli (q := 98) [] [] cv_X10_93 rc_1 (c_X7_length hE h) rfl rfl ⟨rfl, rfl, Nat.le_of_ble_eq_true rfl, Nat.le_of_ble_eq_true rfl, Nat.zero_le _, Nat.zero_le _⟩ (Nat.le_of_ble_eq_true rfl) dX10_count_95 rfl (fun r13 M12 h => ?_)
    exact g_iret hz rfl dX10_count_98 h
  replace h := h.2
  by_cases hc17 : a1 = 6
  · replace h := h.1 hc17
    refine g_tin (tgt := 99) 6 (by rw [hc17]; decide) dX10_count_1 (by decide) (by decide) rfl rfl ?_
    refine g_aloadn (k0 := 0) (q := 100) dX10_count_99 rfl rfl rfl ?_
    refine g_get (v := .ref (eA E 9)) (q := 103) fg_X10_36_0 rfl dX10_count_100 rfl ?_
    refine g_calli (q := 106) [] [] cv_X10_121 rc_9 (c_X6_bytes hE h) rfl rfl ⟨rfl, rfl, Nat.le_of_ble_eq_true rfl, Nat.le_of_ble_eq_true rfl, Nat.zero_le _, Nat.zero_le _⟩ (Nat.le_of_ble_eq_true rfl) dX10_count_103 rfl (fun r16 M15 h => ?_)
    exact g_iret hz rfl dX10_count_106 h
  replace h := h.2
  by_cases hc20 : a1 = 7
  · replace h := h.1 hc20
    refine g_tin (tgt := 107) 7 (by rw [hc20]; decide) dX10_count_1 (by decide) (by decide) rfl rfl ?_
    refine g_aloadn (k0 := 0) (q := 108) dX10_count_107 rfl rfl rfl ?_
    refine g_get (v := .ref (eA E 3)) (q := 111) fg_X10_19_0 rfl dX10_count_108 rfl ?_
    refine g_calli (q := 114) [] [] cv_X10_200 rc_3 (c_X1_bitsPut_3 hE h) rfl rfl ⟨rfl, rfl, Nat.le_of_ble_eq_true rfl, Nat.le_of_ble_eq_true rfl, Nat.zero_le _, Nat.zero_le _⟩ (Nat.le_of_ble_eq_true rfl) dX10_count_111 rfl (fun r19 M18 h => ?_)
    exact g_iret hz rfl dX10_count_114 h
  replace h := h.2
  by_cases hc23 : a1 = 8
  · replace h := h.1 hc23
    refine g_tin (tgt := 115) 8 (by rw [hc23]; decide) dX10_count_1 (by decide) (by decide) rfl rfl ?_
    refine g_aloadn (k0 := 0) (q := 116) dX10_count_115 rfl rfl rfl ?_
    refine g_get (v := .ref (eA E 5)) (q := 119) fg_X10_23_0 rfl dX10_count_116 rfl ?_
    refine g_calli (q := 122) [] [] cv_X10_200 rc_5 (c_X1_bitsPut_5 hE h) rfl rfl ⟨rfl, rfl, Nat.le_of_ble_eq_true rfl, Nat.le_of_ble_eq_true rfl, Nat.zero_le _, Nat.zero_le _⟩ (Nat.le_of_ble_eq_true rfl) dX10_count_119 rfl (fun r22 M21 h => ?_)
    exact g_iret hz rfl dX10_count_122 h
  replace h := h.2
  replace h := h hc1 hc2 hc5 hc6 hc11 hc14 hc17 hc20 hc23
  refine g_tout (tgt := 123) dX10_count_1 (sw_out 0 9 (fun i hi => by rcases (show i = 0 ∨ i = 1 ∨ i = 2 ∨ i = 3 ∨ i = 4 ∨ i = 5 ∨ i = 6 ∨ i = 7 ∨ i = 8 by omega) with rfl | rfl | rfl | rfl | rfl | rfl | rfl | rfl | rfl <;> assumption)) rfl ?_
  refine g_iconst (q := 124) dX10_count_123 ki_m1 rfl ?_
  exact g_iret hz rfl dX10_count_124 h
set_option maxHeartbeats 4000000 in
set_option maxRecDepth 100000 in
theorem c_X11_thrown {E : EX} (hE : EH E) {M : Mem} {Q : Int32 → Mem → Prop} (h : P_Mo_thrown  M Q) : CI yX11_thrown cX11_thrown 1 (some .int) rmX11_thrown E [.ref (eA E 35)] M Q := by
  refine CI.of hE (plainFor_of_name (by decide)) (Nat.le_of_ble_eq_true rfl) (fun x hz => ?_)
  unfold P_Mo_thrown at h
  show G x E mX11_thrown 0 0 0 [(0, .ref (eA E 35))] [] M
  refine g_aloadn (k0 := 0) (q := 1) dX11_thrown_0 rfl rfl rfl ?_
  refine g_get (v := .int (M.1 35 0)) (q := 4) fg_X11_94_35 rfl dX11_thrown_1 rfl ?_
  exact g_iret hz rfl dX11_thrown_4 h
set_option maxHeartbeats 4000000 in
set_option maxRecDepth 100000 in
theorem g_X11_come_3 {x : GX} {E : EX} (hE : EH E) {Q : Mem → Prop} (hz : ZU x E Q) : ∀ (n : Nat) (v1 : Int32) (v2 : Int32) (M : Mem), P_Mo_come_3 Q n v1 v2 M → G x E mX11_come 0 0 3 [(0, .ref (eA E 35)), (1, .int v1), (2, .int v2)] [] M := by
  intro n
  induction n with
  | zero => intro _ _ _ h; exact h.elim
  | succ n ih =>
    intro v1 v2 M h
    unfold P_Mo_come_3 at h
    refine g_iloadn (k0 := 2) (q := 4) dX11_come_3 rfl rfl rfl ?_
    refine g_if_lt (tgt := 39) (q := 7) dX11_come_4 rfl rfl (fun hc2 => ?_) (fun hc2 => ?_)
    · replace h := h.1 hc2
      exact g_vret hz rfl dX11_come_39 h
    · replace h := h.2 hc2
      refine g_aloadn (k0 := 0) (q := 8) dX11_come_7 rfl rfl rfl ?_
      refine g_get (v := .ref (eA E 36)) (q := 11) fg_X11_7_35 rfl dX11_come_8 rfl ?_
      refine g_aloadn (k0 := 0) (q := 12) dX11_come_11 rfl rfl rfl ?_
      refine g_get (v := .int (M.1 35 2)) (q := 15) fg_X11_97_35 rfl dX11_come_12 rfl ?_
      refine g_iloadn (k0 := 1) (q := 16) dX11_come_15 rfl rfl rfl ?_
      refine g_iloadn (k0 := 2) (q := 17) dX11_come_16 rfl rfl rfl ?_
      refine g_iushr (q := 18) dX11_come_17 rfl ?_
      refine g_sipush (q := 21) dX11_come_18 ks_255 rfl ?_
      refine g_iand (q := 22) dX11_come_21 rfl ?_
      have hv1 := h.1
      replace h := h.2
      refine g_iast (q := 23) ar_36 hv1 dX11_come_22 rfl ?_
      refine g_aloadn (k0 := 0) (q := 24) dX11_come_23 rfl rfl rfl ?_
      refine g_dup (q := 25) dX11_come_24 rfl rfl ?_
      refine g_get (v := .int (M.1 35 2)) (q := 28) fg_X11_97_35 rfl dX11_come_25 rfl ?_
      refine g_iconst (q := 29) dX11_come_28 ki_1 rfl ?_
      refine g_iadd (q := 30) dX11_come_29 rfl ?_
      refine g_putI (q := 33) fp_X11_97_35 dX11_come_30 rfl ?_
      refine g_iinc (lv' := [(0, .ref (eA E 35)), (1, .int v1), (2, .int (v2 + (-8)))]) (k0 := 2) (w := (v2 + (-8))) (q := 36) [1, 2, 0] dX11_come_33 rfl rfl (by decide) rfl rfl ?_
      refine g_goto (tgt := 3) dX11_come_36 rfl ?_
      exact ih _ _ _ h
set_option maxHeartbeats 4000000 in
set_option maxRecDepth 100000 in
theorem c_X11_come {E : EX} (hE : EH E) {a1 : Int32} {M : Mem} {Q : Mem → Prop} (h : P_Mo_come a1 M Q) : CU yX11_come cX11_come 3 none rmX11_come E [.ref (eA E 35), .int a1] M Q := by
  refine CU.of hE (plainFor_of_name (by decide)) (Nat.le_of_ble_eq_true rfl) (fun x hz => ?_)
  unfold P_Mo_come at h
  show G x E mX11_come 0 0 0 [(0, .ref (eA E 35)), (1, .int a1)] [] M
  refine g_bipush (q := 2) dX11_come_0 kb_24 rfl ?_
  refine g_istoren (lv' := [(0, .ref (eA E 35)), (1, .int a1), (2, .int 24)]) (q := 3) [1, 2, 0] dX11_come_2 rfl (by decide) rfl rfl ?_
  obtain ⟨n1, h⟩ := h
  exact g_X11_come_3 hE hz n1 _ _ _ h
set_option maxHeartbeats 4000000 in
set_option maxRecDepth 100000 in
theorem c_X11_feed {E : EX} (hE : EH E) {a1 : Int32} {a2 : Int32} {a3 : Int32} {a4 : Int32} {a5 : Int32} {M : Mem} {Q : Int32 → Mem → Prop} (h : P_Mo_feed a1 a2 a3 a4 a5 M Q) : CI yX11_feed cX11_feed 6 (some .int) rmX11_feed E [.ref (eA E 35), .int a1, .int a2, .int a3, .int a4, .int a5] M Q := by
  refine CI.of hE (plainFor_of_name (by decide)) (Nat.le_of_ble_eq_true rfl) (fun x hz => ?_)
  unfold P_Mo_feed at h
  show G x E mX11_feed 0 0 0 [(0, .ref (eA E 35)), (1, .int a1), (2, .int a2), (3, .int a3), (4, .int a4), (5, .int a5)] [] M
  refine g_aloadn (k0 := 0) (q := 1) dX11_feed_0 rfl rfl rfl ?_
  refine g_iconst (q := 2) dX11_feed_1 ki_0 rfl ?_
  refine g_putI (q := 5) fp_X11_94_35 dX11_feed_2 rfl ?_
  refine g_aloadn (k0 := 0) (q := 6) dX11_feed_5 rfl rfl rfl ?_
  refine g_get (v := .int (M.1 35 2)) (q := 9) fg_X11_97_35 rfl dX11_feed_6 rfl ?_
  refine g_bipush (q := 11) dX11_feed_9 kb_20 rfl ?_
  refine g_iadd (q := 12) dX11_feed_11 rfl ?_
  refine g_sipush (q := 15) dX11_feed_12 ks_400 rfl ?_
  refine g_ic_le (tgt := 20) (q := 18) dX11_feed_15 rfl rfl (fun hc6 => ?_) (fun hc6 => ?_)
  · replace h := h.1 hc6
    refine g_aloadn (k0 := 0) (q := 21) dX11_feed_20 rfl rfl rfl ?_
    refine g_iloadn (k0 := 1) (q := 22) dX11_feed_21 rfl rfl rfl ?_
    refine g_callv (q := 25) [.int a1] [] cv_X11_100 rc_35 (c_X11_come hE h) rfl rfl ⟨rfl, rfl, Nat.le_of_ble_eq_true rfl, Nat.le_of_ble_eq_true rfl, Nat.zero_le _, Nat.zero_le _⟩ (Nat.le_of_ble_eq_true rfl) dX11_feed_22 rfl (fun M1 h => ?_)
    refine g_aloadn (k0 := 0) (q := 26) dX11_feed_25 rfl rfl rfl ?_
    refine g_iloadn (k0 := 2) (q := 27) dX11_feed_26 rfl rfl rfl ?_
    refine g_callv (q := 30) [.int a2] [] cv_X11_100 rc_35 (c_X11_come hE h) rfl rfl ⟨rfl, rfl, Nat.le_of_ble_eq_true rfl, Nat.le_of_ble_eq_true rfl, Nat.zero_le _, Nat.zero_le _⟩ (Nat.le_of_ble_eq_true rfl) dX11_feed_27 rfl (fun M2 h => ?_)
    refine g_aloadn (k0 := 0) (q := 31) dX11_feed_30 rfl rfl rfl ?_
    refine g_iloadn (k0 := 3) (q := 32) dX11_feed_31 rfl rfl rfl ?_
    refine g_callv (q := 35) [.int a3] [] cv_X11_100 rc_35 (c_X11_come hE h) rfl rfl ⟨rfl, rfl, Nat.le_of_ble_eq_true rfl, Nat.le_of_ble_eq_true rfl, Nat.zero_le _, Nat.zero_le _⟩ (Nat.le_of_ble_eq_true rfl) dX11_feed_32 rfl (fun M3 h => ?_)
    refine g_aloadn (k0 := 0) (q := 36) dX11_feed_35 rfl rfl rfl ?_
    refine g_iload (k0 := 4) (q := 38) dX11_feed_36 rfl rfl ?_
    refine g_callv (q := 41) [.int a4] [] cv_X11_100 rc_35 (c_X11_come hE h) rfl rfl ⟨rfl, rfl, Nat.le_of_ble_eq_true rfl, Nat.le_of_ble_eq_true rfl, Nat.zero_le _, Nat.zero_le _⟩ (Nat.le_of_ble_eq_true rfl) dX11_feed_38 rfl (fun M4 h => ?_)
    refine g_aloadn (k0 := 0) (q := 42) dX11_feed_41 rfl rfl rfl ?_
    refine g_iload (k0 := 5) (q := 44) dX11_feed_42 rfl rfl ?_
    refine g_callv (q := 47) [.int a5] [] cv_X11_100 rc_35 (c_X11_come hE h) rfl rfl ⟨rfl, rfl, Nat.le_of_ble_eq_true rfl, Nat.le_of_ble_eq_true rfl, Nat.zero_le _, Nat.zero_le _⟩ (Nat.le_of_ble_eq_true rfl) dX11_feed_44 rfl (fun M5 h => ?_)
    refine g_aloadn (k0 := 0) (q := 48) dX11_feed_47 rfl rfl rfl ?_
    refine g_get (v := .int (M5.1 35 2)) (q := 51) fg_X11_97_35 rfl dX11_feed_48 rfl ?_
    exact g_iret hz rfl dX11_feed_51 h
  · replace h := h.2 hc6
    refine g_iconst (q := 19) dX11_feed_18 ki_m1 rfl ?_
    exact g_iret hz rfl dX11_feed_19 h
set_option maxHeartbeats 4000000 in
set_option maxRecDepth 100000 in
theorem c_X11_end {E : EX} (hE : EH E) {a1 : Int32} {M : Mem} {Q : Int32 → Mem → Prop} (h : P_Mo_end a1 M Q) : CI yX11_end cX11_end 2 (some .boolean) rmX11_end E [.ref (eA E 35), .int a1] M (fun r M => nb r ∧ Q r M) := by
  refine CI.of hE (plainFor_of_name (by decide)) (Nat.le_of_ble_eq_true rfl) (fun x hz => ?_)
  unfold P_Mo_end at h
  show G x E mX11_end 0 0 0 [(0, .ref (eA E 35)), (1, .int a1)] [] M
  refine g_aloadn (k0 := 0) (q := 1) dX11_end_0 rfl rfl rfl ?_
  refine g_iconst (q := 2) dX11_end_1 ki_0 rfl ?_
  refine g_putI (q := 5) fp_X11_94_35 dX11_end_2 rfl ?_
  refine g_iloadn (k0 := 1) (q := 6) dX11_end_5 rfl rfl rfl ?_
  refine g_if_lt (tgt := 17) (q := 9) dX11_end_6 rfl rfl (fun hc2 => ?_) (fun hc2 => ?_)
  · replace h := h.1 hc2
    refine g_iconst (q := 18) dX11_end_17 ki_0 rfl ?_
    exact g_zret hz rfl rfl dX11_end_18 h
  · replace h := h.2 hc2
    refine g_iloadn (k0 := 1) (q := 10) dX11_end_9 rfl rfl rfl ?_
    refine g_aloadn (k0 := 0) (q := 11) dX11_end_10 rfl rfl rfl ?_
    refine g_get (v := .int (M.1 35 2)) (q := 14) fg_X11_97_35 rfl dX11_end_11 rfl ?_
    refine g_ic_le (tgt := 19) (q := 17) dX11_end_14 rfl rfl (fun hc1 => ?_) (fun hc1 => ?_)
    · replace h := h.1 hc1
      refine g_aloadn (k0 := 0) (q := 20) dX11_end_19 rfl rfl rfl ?_
      refine g_iloadn (k0 := 1) (q := 21) dX11_end_20 rfl rfl rfl ?_
      refine g_putI (q := 24) fp_X11_97_35 dX11_end_21 rfl ?_
      refine g_iconst (q := 25) dX11_end_24 ki_1 rfl ?_
      exact g_zret hz rfl rfl dX11_end_25 h
    · replace h := h.2 hc1
      refine g_iconst (q := 18) dX11_end_17 ki_0 rfl ?_
      exact g_zret hz rfl rfl dX11_end_18 h
set_option maxHeartbeats 4000000 in
set_option maxRecDepth 100000 in
theorem g_X11_read_5 {x : GX} {E : EX} (hE : EH E) {Q : Int32 → Mem → Prop} (hz : ZI x E Q) : ∀ (n : Nat) (v1 : Int32) (v2 : Int32) (v3 : Int32) (v4 : Int32) (M : Mem), P_Mo_read_5 Q n v1 v2 v3 v4 M → G x E mX11_read 0 0 5 [(0, .ref (eA E 35)), (1, .int v1), (2, .int v2), (3, .int v3), (4, .int v4)] [] M := by
  intro n
  induction n with
  | zero => intro _ _ _ _ _ h; exact h.elim
  | succ n ih =>
    intro v1 v2 v3 v4 M h
    unfold P_Mo_read_5 at h
    refine g_iload (k0 := 4) (q := 7) dX11_read_5 rfl rfl ?_
    refine g_iloadn (k0 := 2) (q := 8) dX11_read_7 rfl rfl rfl ?_
    refine g_ic_ge (tgt := 31) (q := 11) dX11_read_8 rfl rfl (fun hc2 => ?_) (fun hc2 => ?_)
    · replace h := h.1 hc2
      refine g_iloadn (k0 := 3) (q := 32) dX11_read_31 rfl rfl rfl ?_
      exact g_iret hz rfl dX11_read_32 h
    · replace h := h.2 hc2
      refine g_iloadn (k0 := 3) (q := 12) dX11_read_11 rfl rfl rfl ?_
      refine g_iconst (q := 13) dX11_read_12 ki_1 rfl ?_
      refine g_ishl (q := 14) dX11_read_13 rfl ?_
      refine g_aloadn (k0 := 0) (q := 15) dX11_read_14 rfl rfl rfl ?_
      refine g_get (v := .ref (eA E 40)) (q := 18) fg_X11_22_35 rfl dX11_read_15 rfl ?_
      refine g_iloadn (k0 := 1) (q := 19) dX11_read_18 rfl rfl rfl ?_
      refine g_iload (k0 := 4) (q := 21) dX11_read_19 rfl rfl ?_
      refine g_iadd (q := 22) dX11_read_21 rfl ?_
      have hv1 := h.1
      replace h := h.2
      refine g_iald (v := (M.1 40 ((v1 + v4)).toNatClampNeg)) (q := 23) ar_40 hv1 rfl dX11_read_22 rfl ?_
      refine g_ior (q := 24) dX11_read_23 rfl ?_
      refine g_istoren (lv' := [(0, .ref (eA E 35)), (1, .int v1), (2, .int v2), (3, .int ((v3 <<< ((1 : Int32) &&& 31)) ||| (M.1 40 ((v1 + v4)).toNatClampNeg))), (4, .int v4)]) (q := 25) [1, 2, 3, 0, 4] dX11_read_24 rfl (by decide) rfl rfl ?_
      refine g_iinc (lv' := [(0, .ref (eA E 35)), (1, .int v1), (2, .int v2), (3, .int ((v3 <<< ((1 : Int32) &&& 31)) ||| (M.1 40 ((v1 + v4)).toNatClampNeg))), (4, .int (v4 + 1))]) (k0 := 4) (w := (v4 + 1)) (q := 28) [1, 2, 3, 4, 0] dX11_read_25 rfl rfl (by decide) rfl rfl ?_
      refine g_goto (tgt := 5) dX11_read_28 rfl ?_
      exact ih _ _ _ _ _ h
set_option maxHeartbeats 4000000 in
set_option maxRecDepth 100000 in
theorem c_X11_read {E : EX} (hE : EH E) {a1 : Int32} {a2 : Int32} {M : Mem} {Q : Int32 → Mem → Prop} (h : P_Mo_read a1 a2 M Q) : CI yX11_read cX11_read 5 (some .int) rmX11_read E [.ref (eA E 35), .int a1, .int a2] M Q := by
  refine CI.of hE (plainFor_of_name (by decide)) (Nat.le_of_ble_eq_true rfl) (fun x hz => ?_)
  unfold P_Mo_read at h
  show G x E mX11_read 0 0 0 [(0, .ref (eA E 35)), (1, .int a1), (2, .int a2)] [] M
  refine g_iconst (q := 1) dX11_read_0 ki_0 rfl ?_
  refine g_istoren (lv' := [(0, .ref (eA E 35)), (1, .int a1), (2, .int a2), (3, .int 0)]) (q := 2) [1, 2, 3, 0] dX11_read_1 rfl (by decide) rfl rfl ?_
  refine g_iconst (q := 3) dX11_read_2 ki_0 rfl ?_
  refine g_istore (lv' := [(0, .ref (eA E 35)), (1, .int a1), (2, .int a2), (3, .int 0), (4, .int 0)]) (q := 5) [1, 2, 3, 4, 0] dX11_read_3 (by decide) rfl rfl ?_
  obtain ⟨n1, h⟩ := h
  exact g_X11_read_5 hE hz n1 _ _ _ _ _ h
set_option maxHeartbeats 4000000 in
set_option maxRecDepth 100000 in
theorem c_X11_isOf {E : EX} (hE : EH E) {a1 : Int32} {a2 : Int32} {M : Mem} {Q : Int32 → Mem → Prop} (h : P_Mo_isOf a1 a2 M Q) : CI yX11_isOf cX11_isOf 3 (some .boolean) rmX11_isOf E [.ref (eA E 35), .int a1, .int a2] M (fun r M => nb r ∧ Q r M) := by
  refine CI.of hE (plainFor_of_name (by decide)) (Nat.le_of_ble_eq_true rfl) (fun x hz => ?_)
  unfold P_Mo_isOf at h
  show G x E mX11_isOf 0 0 0 [(0, .ref (eA E 35)), (1, .int a1), (2, .int a2)] [] M
  refine g_aloadn (k0 := 0) (q := 1) dX11_isOf_0 rfl rfl rfl ?_
  refine g_get (v := .ref (eA E 41)) (q := 4) fg_X11_25_35 rfl dX11_isOf_1 rfl ?_
  refine g_bipush (q := 6) dX11_isOf_4 kb_8 rfl ?_
  refine g_iloadn (k0 := 1) (q := 7) dX11_isOf_6 rfl rfl rfl ?_
  refine g_imul (q := 8) dX11_isOf_7 rfl ?_
  have hv1 := h.1
  replace h := h.2
  refine g_iald (v := (M.1 41 ((8 * a1)).toNatClampNeg)) (q := 9) ar_41 hv1 rfl dX11_isOf_8 rfl ?_
  refine g_iconst (q := 10) dX11_isOf_9 ki_4 rfl ?_
  refine g_ic_ne (tgt := 94) (q := 13) dX11_isOf_10 rfl rfl (fun hc11 => ?_) (fun hc11 => ?_)
  · replace h := h.1 hc11
    refine g_iconst (q := 95) dX11_isOf_94 ki_0 rfl ?_
    exact g_zret hz rfl rfl dX11_isOf_95 h
  · replace h := h.2 hc11
    refine g_aloadn (k0 := 0) (q := 14) dX11_isOf_13 rfl rfl rfl ?_
    refine g_get (v := .ref (eA E 41)) (q := 17) fg_X11_25_35 rfl dX11_isOf_14 rfl ?_
    refine g_bipush (q := 19) dX11_isOf_17 kb_8 rfl ?_
    refine g_iloadn (k0 := 1) (q := 20) dX11_isOf_19 rfl rfl rfl ?_
    refine g_imul (q := 21) dX11_isOf_20 rfl ?_
    refine g_iconst (q := 22) dX11_isOf_21 ki_1 rfl ?_
    refine g_iadd (q := 23) dX11_isOf_22 rfl ?_
    have hv2 := h.1
    replace h := h.2
    refine g_iald (v := (M.1 41 (((8 * a1) + 1)).toNatClampNeg)) (q := 24) ar_41 hv2 rfl dX11_isOf_23 rfl ?_
    refine g_aloadn (k0 := 0) (q := 25) dX11_isOf_24 rfl rfl rfl ?_
    refine g_get (v := .ref (eA E 41)) (q := 28) fg_X11_25_35 rfl dX11_isOf_25 rfl ?_
    refine g_bipush (q := 30) dX11_isOf_28 kb_8 rfl ?_
    refine g_iloadn (k0 := 2) (q := 31) dX11_isOf_30 rfl rfl rfl ?_
    refine g_imul (q := 32) dX11_isOf_31 rfl ?_
    refine g_iconst (q := 33) dX11_isOf_32 ki_1 rfl ?_
    refine g_iadd (q := 34) dX11_isOf_33 rfl ?_
    have hv3 := h.1
    replace h := h.2
    refine g_iald (v := (M.1 41 (((8 * a2) + 1)).toNatClampNeg)) (q := 35) ar_41 hv3 rfl dX11_isOf_34 rfl ?_
    refine g_ic_ne (tgt := 94) (q := 38) dX11_isOf_35 rfl rfl (fun hc10 => ?_) (fun hc10 => ?_)
    · replace h := h.1 hc10
      refine g_iconst (q := 95) dX11_isOf_94 ki_0 rfl ?_
      exact g_zret hz rfl rfl dX11_isOf_95 h
    · replace h := h.2 hc10
      refine g_aloadn (k0 := 0) (q := 39) dX11_isOf_38 rfl rfl rfl ?_
      refine g_get (v := .ref (eA E 41)) (q := 42) fg_X11_25_35 rfl dX11_isOf_39 rfl ?_
      refine g_bipush (q := 44) dX11_isOf_42 kb_8 rfl ?_
      refine g_iloadn (k0 := 1) (q := 45) dX11_isOf_44 rfl rfl rfl ?_
      refine g_imul (q := 46) dX11_isOf_45 rfl ?_
      refine g_iconst (q := 47) dX11_isOf_46 ki_4 rfl ?_
      refine g_iadd (q := 48) dX11_isOf_47 rfl ?_
      have hv4 := h.1
      replace h := h.2
      refine g_iald (v := (M.1 41 (((8 * a1) + 4)).toNatClampNeg)) (q := 49) ar_41 hv4 rfl dX11_isOf_48 rfl ?_
      refine g_aloadn (k0 := 0) (q := 50) dX11_isOf_49 rfl rfl rfl ?_
      refine g_get (v := .ref (eA E 41)) (q := 53) fg_X11_25_35 rfl dX11_isOf_50 rfl ?_
      refine g_bipush (q := 55) dX11_isOf_53 kb_8 rfl ?_
      refine g_iloadn (k0 := 2) (q := 56) dX11_isOf_55 rfl rfl rfl ?_
      refine g_imul (q := 57) dX11_isOf_56 rfl ?_
      refine g_iconst (q := 58) dX11_isOf_57 ki_4 rfl ?_
      refine g_iadd (q := 59) dX11_isOf_58 rfl ?_
      have hv5 := h.1
      replace h := h.2
      refine g_iald (v := (M.1 41 (((8 * a2) + 4)).toNatClampNeg)) (q := 60) ar_41 hv5 rfl dX11_isOf_59 rfl ?_
      refine g_ic_ne (tgt := 94) (q := 63) dX11_isOf_60 rfl rfl (fun hc9 => ?_) (fun hc9 => ?_)
      · replace h := h.1 hc9
        refine g_iconst (q := 95) dX11_isOf_94 ki_0 rfl ?_
        exact g_zret hz rfl rfl dX11_isOf_95 h
      · replace h := h.2 hc9
        refine g_aloadn (k0 := 0) (q := 64) dX11_isOf_63 rfl rfl rfl ?_
        refine g_get (v := .ref (eA E 41)) (q := 67) fg_X11_25_35 rfl dX11_isOf_64 rfl ?_
        refine g_bipush (q := 69) dX11_isOf_67 kb_8 rfl ?_
        refine g_iloadn (k0 := 1) (q := 70) dX11_isOf_69 rfl rfl rfl ?_
        refine g_imul (q := 71) dX11_isOf_70 rfl ?_
        refine g_bipush (q := 73) dX11_isOf_71 kb_6 rfl ?_
        refine g_iadd (q := 74) dX11_isOf_73 rfl ?_
        have hv6 := h.1
        replace h := h.2
        refine g_iald (v := (M.1 41 (((8 * a1) + 6)).toNatClampNeg)) (q := 75) ar_41 hv6 rfl dX11_isOf_74 rfl ?_
        refine g_aloadn (k0 := 0) (q := 76) dX11_isOf_75 rfl rfl rfl ?_
        refine g_get (v := .ref (eA E 41)) (q := 79) fg_X11_25_35 rfl dX11_isOf_76 rfl ?_
        refine g_bipush (q := 81) dX11_isOf_79 kb_8 rfl ?_
        refine g_iloadn (k0 := 2) (q := 82) dX11_isOf_81 rfl rfl rfl ?_
        refine g_imul (q := 83) dX11_isOf_82 rfl ?_
        refine g_bipush (q := 85) dX11_isOf_83 kb_6 rfl ?_
        refine g_iadd (q := 86) dX11_isOf_85 rfl ?_
        have hv7 := h.1
        replace h := h.2
        refine g_iald (v := (M.1 41 (((8 * a2) + 6)).toNatClampNeg)) (q := 87) ar_41 hv7 rfl dX11_isOf_86 rfl ?_
        refine g_ic_ne (tgt := 94) (q := 90) dX11_isOf_87 rfl rfl (fun hc8 => ?_) (fun hc8 => ?_)
        · replace h := h.1 hc8
          refine g_iconst (q := 95) dX11_isOf_94 ki_0 rfl ?_
          exact g_zret hz rfl rfl dX11_isOf_95 h
        · replace h := h.2 hc8
          refine g_iconst (q := 91) dX11_isOf_90 ki_1 rfl ?_
          refine g_goto (tgt := 95) dX11_isOf_91 rfl ?_
          exact g_zret hz rfl rfl dX11_isOf_95 h
set_option maxHeartbeats 4000000 in
set_option maxRecDepth 100000 in
theorem g_X11_join_194 {x : GX} {E : EX} (hE : EH E) {Q : Mem → Prop} (hz : ZU x E Q) : ∀ (n : Nat) (v1 : Int32) (v3 : Int32) (M : Mem), P_Mo_join_194 Q n v1 v3 M → G x E mX11_join 0 0 194 [(0, .ref (eA E 35)), (1, .int v1), (3, .int v3)] [] M := by
  intro n
  induction n with
  | zero => intro _ _ _ h; exact h.elim
  | succ n ih =>
    intro v1 v3 M h
    unfold P_Mo_join_194 at h
    refine g_iloadn (k0 := 2) (q := 195) dX11_join_194 rfl rfl rfl ?_
    refine g_aloadn (k0 := 0) (q := 196) dX11_join_195 rfl rfl rfl ?_
    refine g_get (v := .int (M.1 35 11)) (q := 199) fg_X11_153_35 rfl dX11_join_196 rfl ?_
    refine g_ic_ge (tgt := 224) (q := 202) dX11_join_199 rfl rfl (fun hc9 => ?_) (fun hc9 => ?_)
    · replace h := h.1 hc9
      exact g_vret hz rfl dX11_join_224 h
    · replace h := h.2 hc9
      refine g_aloadn (k0 := 0) (q := 203) dX11_join_202 rfl rfl rfl ?_
      refine g_iloadn (k0 := 2) (q := 204) dX11_join_203 rfl rfl rfl ?_
      refine g_iloadn (k0 := 1) (q := 205) dX11_join_204 rfl rfl rfl ?_
      refine g_calli (q := 208) [.int v3, .int v1] [] cv_X11_163 rc_35 (c_X11_isOf hE h) rfl rfl ⟨rfl, rfl, Nat.le_of_ble_eq_true rfl, Nat.le_of_ble_eq_true rfl, Nat.zero_le _, Nat.zero_le _⟩ (Nat.le_of_ble_eq_true rfl) dX11_join_205 rfl (fun r6 M5 h => ?_)
      obtain ⟨hb_r6, h⟩ := h
      refine g_if_eq (tgt := 218) (q := 211) dX11_join_208 rfl rfl (fun hc8 => ?_) (fun hc8 => ?_)
      · replace h := h.1 hc8
        refine g_iinc (lv' := [(0, .ref (eA E 35)), (1, .int v1), (3, .int (v3 + 1))]) (k0 := 2) (w := (v3 + 1)) (q := 221) [1, 2, 0] dX11_join_218 rfl rfl (by decide) rfl rfl ?_
        refine g_goto (tgt := 194) dX11_join_221 rfl ?_
        exact ih _ _ _ h
      · replace h := h.2 hc8
        refine g_aloadn (k0 := 0) (q := 212) dX11_join_211 rfl rfl rfl ?_
        refine g_get (v := .ref (eA E 42)) (q := 215) fg_X11_28_35 rfl dX11_join_212 rfl ?_
        refine g_iloadn (k0 := 2) (q := 216) dX11_join_215 rfl rfl rfl ?_
        refine g_iconst (q := 217) dX11_join_216 ki_1 rfl ?_
        have hv7 := h.1
        replace h := h.2
        refine g_zast (q := 218) ar_42 hv7 rfl dX11_join_217 rfl ?_
        refine g_iinc (lv' := [(0, .ref (eA E 35)), (1, .int v1), (3, .int (v3 + 1))]) (k0 := 2) (w := (v3 + 1)) (q := 221) [1, 2, 0] dX11_join_218 rfl rfl (by decide) rfl rfl ?_
        refine g_goto (tgt := 194) dX11_join_221 rfl ?_
        exact ih _ _ _ h
set_option maxHeartbeats 4000000 in
set_option maxRecDepth 100000 in
theorem g_X11_join_26 {x : GX} {E : EX} (hE : EH E) {Q : Mem → Prop} (hz : ZU x E Q) {K15 : Int32 → Int32 → Int32 → Mem → Prop} (hK15 : ∀ (v1 : Int32) (v2 : Int32) (v3 : Int32) (M : Mem), K15 v1 v2 v3 M → G x E mX11_join 0 0 15 [(0, .ref (eA E 35)), (1, .int v1), (2, .int v2), (3, .int v3)] [] M) : ∀ (n : Nat) (v1 : Int32) (v2 : Int32) (v3 : Int32) (v4 : Int32) (v5 : Int32) (M : Mem), P_Mo_join_26 K15 Q n v1 v2 v3 v4 v5 M → G x E mX11_join 0 0 26 [(0, .ref (eA E 35)), (1, .int v1), (2, .int v2), (3, .int v3), (4, .int v4), (5, .int v5)] [] M := by
  intro n
  induction n with
  | zero => intro _ _ _ _ _ _ h; exact h.elim
  | succ n ih =>
    intro v1 v2 v3 v4 v5 M h
    unfold P_Mo_join_26 at h
    refine g_iload (k0 := 5) (q := 28) dX11_join_26 rfl rfl ?_
    refine g_aloadn (k0 := 0) (q := 29) dX11_join_28 rfl rfl rfl ?_
    refine g_get (v := .int (M.1 35 11)) (q := 32) fg_X11_153_35 rfl dX11_join_29 rfl ?_
    refine g_ic_ge (tgt := 81) (q := 35) dX11_join_32 rfl rfl (fun hc21 => ?_) (fun hc21 => ?_)
    · replace h := h.1 hc21
      refine g_iload (k0 := 4) (q := 83) dX11_join_81 rfl rfl ?_
      refine g_iconst (q := 84) dX11_join_83 ki_m1 rfl ?_
      refine g_ic_ne (tgt := 88) (q := 87) dX11_join_84 rfl rfl (fun hc13 => ?_) (fun hc13 => ?_)
      · replace h := h.1 hc13
        refine g_aloadn (k0 := 0) (q := 89) dX11_join_88 rfl rfl rfl ?_
        refine g_get (v := .ref (eA E 48)) (q := 92) fg_X11_47_35 rfl dX11_join_89 rfl ?_
        refine g_iconst (q := 93) dX11_join_92 ki_5 rfl ?_
        refine g_aloadn (k0 := 0) (q := 94) dX11_join_93 rfl rfl rfl ?_
        refine g_get (v := .int (M.1 35 20)) (q := 97) fg_X11_166_35 rfl dX11_join_94 rfl ?_
        refine g_imul (q := 98) dX11_join_97 rfl ?_
        refine g_iloadn (k0 := 3) (q := 99) dX11_join_98 rfl rfl rfl ?_
        refine g_iadd (q := 100) dX11_join_99 rfl ?_
        refine g_aloadn (k0 := 0) (q := 101) dX11_join_100 rfl rfl rfl ?_
        refine g_get (v := .ref (eA E 41)) (q := 104) fg_X11_25_35 rfl dX11_join_101 rfl ?_
        refine g_bipush (q := 106) dX11_join_104 kb_8 rfl ?_
        refine g_iload (k0 := 4) (q := 108) dX11_join_106 rfl rfl ?_
        refine g_imul (q := 109) dX11_join_108 rfl ?_
        refine g_bipush (q := 111) dX11_join_109 kb_7 rfl ?_
        refine g_iadd (q := 112) dX11_join_111 rfl ?_
        have hv11 := h.1
        replace h := h.2
        refine g_iald (v := (M.1 41 (((8 * v4) + 7)).toNatClampNeg)) (q := 113) ar_41 hv11 rfl dX11_join_112 rfl ?_
        have hv12 := h.1
        replace h := h.2
        refine g_iast (q := 114) ar_48 hv12 dX11_join_113 rfl ?_
        refine g_iinc (lv' := [(0, .ref (eA E 35)), (1, .int v1), (2, .int v2), (3, .int (v3 + 1)), (4, .int v4), (5, .int v5)]) (k0 := 3) (w := (v3 + 1)) (q := 117) [1, 2, 3, 0, 4, 5] dX11_join_114 rfl rfl (by decide) rfl rfl ?_
        refine g_goto (tgt := 15) dX11_join_117 rfl ?_
        refine g_lv (lv' := [(0, .ref (eA E 35)), (1, .int v1), (2, .int v2), (3, .int (v3 + 1))]) [0, 1, 2, 3] rfl ?_
        exact hK15 _ _ _ _ h
      · replace h := h.2 hc13
        exact g_vret hz rfl dX11_join_87 h
    · replace h := h.2 hc21
      refine g_aloadn (k0 := 0) (q := 36) dX11_join_35 rfl rfl rfl ?_
      refine g_get (v := .ref (eA E 42)) (q := 39) fg_X11_28_35 rfl dX11_join_36 rfl ?_
      refine g_iload (k0 := 5) (q := 41) dX11_join_39 rfl rfl ?_
      have hv14 := h.1
      replace h := h.2
      refine g_zald (v := (M.1 42 v5.toNatClampNeg)) (q := 42) ar_42 hv14 rfl dX11_join_41 rfl ?_
      refine g_if_ne (tgt := 75) (q := 45) dX11_join_42 rfl rfl (fun hc20 => ?_) (fun hc20 => ?_)
      · replace h := h.1 hc20
        refine g_iinc (lv' := [(0, .ref (eA E 35)), (1, .int v1), (2, .int v2), (3, .int v3), (4, .int v4), (5, .int (v5 + 1))]) (k0 := 5) (w := (v5 + 1)) (q := 78) [1, 2, 3, 4, 5, 0] dX11_join_75 rfl rfl (by decide) rfl rfl ?_
        refine g_goto (tgt := 26) dX11_join_78 rfl ?_
        exact ih _ _ _ _ _ _ h
      · replace h := h.2 hc20
        refine g_aloadn (k0 := 0) (q := 46) dX11_join_45 rfl rfl rfl ?_
        refine g_iload (k0 := 5) (q := 48) dX11_join_46 rfl rfl ?_
        refine g_iloadn (k0 := 1) (q := 49) dX11_join_48 rfl rfl rfl ?_
        refine g_calli (q := 52) [.int v5, .int v1] [] cv_X11_163 rc_35 (c_X11_isOf hE h) rfl rfl ⟨rfl, rfl, Nat.le_of_ble_eq_true rfl, Nat.le_of_ble_eq_true rfl, Nat.zero_le _, Nat.zero_le _⟩ (Nat.le_of_ble_eq_true rfl) dX11_join_49 rfl (fun r16 M15 h => ?_)
        obtain ⟨hb_r16, h⟩ := h
        refine g_if_eq (tgt := 75) (q := 55) dX11_join_52 rfl rfl (fun hc19 => ?_) (fun hc19 => ?_)
        · replace h := h.1 hc19
          refine g_iinc (lv' := [(0, .ref (eA E 35)), (1, .int v1), (2, .int v2), (3, .int v3), (4, .int v4), (5, .int (v5 + 1))]) (k0 := 5) (w := (v5 + 1)) (q := 78) [1, 2, 3, 4, 5, 0] dX11_join_75 rfl rfl (by decide) rfl rfl ?_
          refine g_goto (tgt := 26) dX11_join_78 rfl ?_
          exact ih _ _ _ _ _ _ h
        · replace h := h.2 hc19
          refine g_aloadn (k0 := 0) (q := 56) dX11_join_55 rfl rfl rfl ?_
          refine g_get (v := .ref (eA E 41)) (q := 59) fg_X11_25_35 rfl dX11_join_56 rfl ?_
          refine g_bipush (q := 61) dX11_join_59 kb_8 rfl ?_
          refine g_iload (k0 := 5) (q := 63) dX11_join_61 rfl rfl ?_
          refine g_imul (q := 64) dX11_join_63 rfl ?_
          refine g_iconst (q := 65) dX11_join_64 ki_5 rfl ?_
          refine g_iadd (q := 66) dX11_join_65 rfl ?_
          have hv17 := h.1
          replace h := h.2
          refine g_iald (v := (M15.1 41 (((8 * v5) + 5)).toNatClampNeg)) (q := 67) ar_41 hv17 rfl dX11_join_66 rfl ?_
          refine g_iloadn (k0 := 3) (q := 68) dX11_join_67 rfl rfl rfl ?_
          refine g_ic_ne (tgt := 75) (q := 71) dX11_join_68 rfl rfl (fun hc18 => ?_) (fun hc18 => ?_)
          · replace h := h.1 hc18
            refine g_iinc (lv' := [(0, .ref (eA E 35)), (1, .int v1), (2, .int v2), (3, .int v3), (4, .int v4), (5, .int (v5 + 1))]) (k0 := 5) (w := (v5 + 1)) (q := 78) [1, 2, 3, 4, 5, 0] dX11_join_75 rfl rfl (by decide) rfl rfl ?_
            refine g_goto (tgt := 26) dX11_join_78 rfl ?_
            exact ih _ _ _ _ _ _ h
          · replace h := h.2 hc18
            refine g_iload (k0 := 5) (q := 73) dX11_join_71 rfl rfl ?_
            refine g_istore (lv' := [(0, .ref (eA E 35)), (1, .int v1), (2, .int v2), (3, .int v3), (4, .int v5), (5, .int v5)]) (q := 75) [1, 2, 3, 4, 0, 5] dX11_join_73 (by decide) rfl rfl ?_
            refine g_iinc (lv' := [(0, .ref (eA E 35)), (1, .int v1), (2, .int v2), (3, .int v3), (4, .int v5), (5, .int (v5 + 1))]) (k0 := 5) (w := (v5 + 1)) (q := 78) [1, 2, 3, 4, 5, 0] dX11_join_75 rfl rfl (by decide) rfl rfl ?_
            refine g_goto (tgt := 26) dX11_join_78 rfl ?_
            exact ih _ _ _ _ _ _ h
set_option maxHeartbeats 4000000 in
set_option maxRecDepth 100000 in
theorem g_X11_join_15 {x : GX} {E : EX} (hE : EH E) {Q : Mem → Prop} (hz : ZU x E Q) : ∀ (n : Nat) (v1 : Int32) (v2 : Int32) (v3 : Int32) (M : Mem), P_Mo_join_15 Q n v1 v2 v3 M → G x E mX11_join 0 0 15 [(0, .ref (eA E 35)), (1, .int v1), (2, .int v2), (3, .int v3)] [] M := by
  intro n
  induction n with
  | zero => intro _ _ _ _ h; exact h.elim
  | succ n ih =>
    intro v1 v2 v3 M h
    unfold P_Mo_join_15 at h
    refine g_iloadn (k0 := 3) (q := 16) dX11_join_15 rfl rfl rfl ?_
    refine g_iloadn (k0 := 2) (q := 17) dX11_join_16 rfl rfl rfl ?_
    refine g_ic_ge (tgt := 120) (q := 20) dX11_join_17 rfl rfl (fun hc23 => ?_) (fun hc23 => ?_)
    · replace h := h.1 hc23
      refine g_aloadn (k0 := 0) (q := 121) dX11_join_120 rfl rfl rfl ?_
      refine g_get (v := .ref (eA E 44)) (q := 124) fg_X11_35_35 rfl dX11_join_121 rfl ?_
      refine g_aloadn (k0 := 0) (q := 125) dX11_join_124 rfl rfl rfl ?_
      refine g_get (v := .int (M.1 35 20)) (q := 128) fg_X11_166_35 rfl dX11_join_125 rfl ?_
      refine g_aloadn (k0 := 0) (q := 129) dX11_join_128 rfl rfl rfl ?_
      refine g_get (v := .ref (eA E 41)) (q := 132) fg_X11_25_35 rfl dX11_join_129 rfl ?_
      refine g_bipush (q := 134) dX11_join_132 kb_8 rfl ?_
      refine g_iloadn (k0 := 1) (q := 135) dX11_join_134 rfl rfl rfl ?_
      refine g_imul (q := 136) dX11_join_135 rfl ?_
      refine g_iconst (q := 137) dX11_join_136 ki_1 rfl ?_
      refine g_iadd (q := 138) dX11_join_137 rfl ?_
      have hv2 := h.1
      replace h := h.2
      refine g_iald (v := (M.1 41 (((8 * v1) + 1)).toNatClampNeg)) (q := 139) ar_41 hv2 rfl dX11_join_138 rfl ?_
      have hv3 := h.1
      replace h := h.2
      refine g_iast (q := 140) ar_44 hv3 dX11_join_139 rfl ?_
      refine g_aloadn (k0 := 0) (q := 141) dX11_join_140 rfl rfl rfl ?_
      refine g_get (v := .ref (eA E 45)) (q := 144) fg_X11_38_35 rfl dX11_join_141 rfl ?_
      refine g_aloadn (k0 := 0) (q := 145) dX11_join_144 rfl rfl rfl ?_
      refine g_get (v := .int (M.1 35 20)) (q := 148) fg_X11_166_35 rfl dX11_join_145 rfl ?_
      refine g_aloadn (k0 := 0) (q := 149) dX11_join_148 rfl rfl rfl ?_
      refine g_get (v := .ref (eA E 41)) (q := 152) fg_X11_25_35 rfl dX11_join_149 rfl ?_
      refine g_bipush (q := 154) dX11_join_152 kb_8 rfl ?_
      refine g_iloadn (k0 := 1) (q := 155) dX11_join_154 rfl rfl rfl ?_
      refine g_imul (q := 156) dX11_join_155 rfl ?_
      refine g_iconst (q := 157) dX11_join_156 ki_4 rfl ?_
      refine g_iadd (q := 158) dX11_join_157 rfl ?_
      have hv4 := h.1
      replace h := h.2
      refine g_iald (v := (M.1 41 (((8 * v1) + 4)).toNatClampNeg)) (q := 159) ar_41 hv4 rfl dX11_join_158 rfl ?_
      refine g_iast (q := 160) ar_45 hv3 dX11_join_159 rfl ?_
      refine g_aloadn (k0 := 0) (q := 161) dX11_join_160 rfl rfl rfl ?_
      refine g_get (v := .ref (eA E 46)) (q := 164) fg_X11_41_35 rfl dX11_join_161 rfl ?_
      refine g_aloadn (k0 := 0) (q := 165) dX11_join_164 rfl rfl rfl ?_
      refine g_get (v := .int (M.1 35 20)) (q := 168) fg_X11_166_35 rfl dX11_join_165 rfl ?_
      refine g_iconst (q := 169) dX11_join_168 ki_4 rfl ?_
      refine g_iloadn (k0 := 2) (q := 170) dX11_join_169 rfl rfl rfl ?_
      refine g_imul (q := 171) dX11_join_170 rfl ?_
      refine g_iast (q := 172) ar_46 hv3 dX11_join_171 rfl ?_
      refine g_aloadn (k0 := 0) (q := 173) dX11_join_172 rfl rfl rfl ?_
      refine g_get (v := .ref (eA E 47)) (q := 176) fg_X11_44_35 rfl dX11_join_173 rfl ?_
      refine g_aloadn (k0 := 0) (q := 177) dX11_join_176 rfl rfl rfl ?_
      refine g_get (v := .int (M.1 35 20)) (q := 180) fg_X11_166_35 rfl dX11_join_177 rfl ?_
      refine g_iloadn (k0 := 1) (q := 181) dX11_join_180 rfl rfl rfl ?_
      refine g_iast (q := 182) ar_47 hv3 dX11_join_181 rfl ?_
      refine g_aloadn (k0 := 0) (q := 183) dX11_join_182 rfl rfl rfl ?_
      refine g_dup (q := 184) dX11_join_183 rfl rfl ?_
      refine g_get (v := .int (M.1 35 20)) (q := 187) fg_X11_166_35 rfl dX11_join_184 rfl ?_
      refine g_iconst (q := 188) dX11_join_187 ki_1 rfl ?_
      refine g_iadd (q := 189) dX11_join_188 rfl ?_
      refine g_putI (q := 192) fp_X11_166_35 dX11_join_189 rfl ?_
      refine g_iconst (q := 193) dX11_join_192 ki_0 rfl ?_
      refine g_istoren (lv' := [(0, .ref (eA E 35)), (1, .int v1), (2, .int v2), (3, .int 0)]) (q := 194) [1, 2, 3, 0] dX11_join_193 rfl (by decide) rfl rfl ?_
      refine g_lv (lv' := [(0, .ref (eA E 35)), (1, .int v1), (3, .int 0)]) [0, 1, 3] rfl ?_
      obtain ⟨n1, h⟩ := h
      exact g_X11_join_194 hE hz n1 _ _ _ h
    · replace h := h.2 hc23
      refine g_iconst (q := 21) dX11_join_20 ki_m1 rfl ?_
      refine g_istore (lv' := [(0, .ref (eA E 35)), (1, .int v1), (2, .int v2), (3, .int v3), (4, .int (-1))]) (q := 23) [1, 2, 3, 4, 0] dX11_join_21 (by decide) rfl rfl ?_
      refine g_iconst (q := 24) dX11_join_23 ki_0 rfl ?_
      refine g_istore (lv' := [(0, .ref (eA E 35)), (1, .int v1), (2, .int v2), (3, .int v3), (4, .int (-1)), (5, .int 0)]) (q := 26) [1, 2, 3, 4, 5, 0] dX11_join_24 (by decide) rfl rfl ?_
      obtain ⟨n1, h⟩ := h
      exact g_X11_join_26 hE hz ih n1 _ _ _ _ _ _ h
set_option maxHeartbeats 4000000 in
set_option maxRecDepth 100000 in
theorem c_X11_join {E : EX} (hE : EH E) {a1 : Int32} {M : Mem} {Q : Mem → Prop} (h : P_Mo_join a1 M Q) : CU yX11_join cX11_join 6 none rmX11_join E [.ref (eA E 35), .int a1] M Q := by
  refine CU.of hE (plainFor_of_name (by decide)) (Nat.le_of_ble_eq_true rfl) (fun x hz => ?_)
  unfold P_Mo_join at h
  show G x E mX11_join 0 0 0 [(0, .ref (eA E 35)), (1, .int a1)] [] M
  refine g_aloadn (k0 := 0) (q := 1) dX11_join_0 rfl rfl rfl ?_
  refine g_get (v := .ref (eA E 41)) (q := 4) fg_X11_25_35 rfl dX11_join_1 rfl ?_
  refine g_bipush (q := 6) dX11_join_4 kb_8 rfl ?_
  refine g_iloadn (k0 := 1) (q := 7) dX11_join_6 rfl rfl rfl ?_
  refine g_imul (q := 8) dX11_join_7 rfl ?_
  refine g_bipush (q := 10) dX11_join_8 kb_6 rfl ?_
  refine g_iadd (q := 11) dX11_join_10 rfl ?_
  have hv1 := h.1
  replace h := h.2
  refine g_iald (v := (M.1 41 (((8 * a1) + 6)).toNatClampNeg)) (q := 12) ar_41 hv1 rfl dX11_join_11 rfl ?_
  refine g_istoren (lv' := [(0, .ref (eA E 35)), (1, .int a1), (2, .int (M.1 41 (((8 * a1) + 6)).toNatClampNeg))]) (q := 13) [1, 2, 0] dX11_join_12 rfl (by decide) rfl rfl ?_
  refine g_iconst (q := 14) dX11_join_13 ki_0 rfl ?_
  refine g_istoren (lv' := [(0, .ref (eA E 35)), (1, .int a1), (2, .int (M.1 41 (((8 * a1) + 6)).toNatClampNeg)), (3, .int 0)]) (q := 15) [1, 2, 3, 0] dX11_join_14 rfl (by decide) rfl rfl ?_
  obtain ⟨n1, h⟩ := h
  exact g_X11_join_15 hE hz n1 _ _ _ _ h
set_option maxHeartbeats 4000000 in
set_option maxRecDepth 100000 in
theorem c_X11_signed {E : EX} (hE : EH E) {a1 : Int32} {a2 : Int32} {M : Mem} {Q : Int32 → Mem → Prop} (h : P_Mo_signed a1 a2 M Q) : CI yX11_signed cX11_signed 2 (some .int) rmX11_signed E [.int a1, .int a2] M Q := by
  refine CI.of hE (plainFor_of_name (by decide)) (Nat.le_of_ble_eq_true rfl) (fun x hz => ?_)
  unfold P_Mo_signed at h
  show G x E mX11_signed 0 0 0 [(0, .int a1), (1, .int a2)] [] M
  refine g_iloadn (k0 := 0) (q := 1) dX11_signed_0 rfl rfl rfl ?_
  refine g_iloadn (k0 := 1) (q := 2) dX11_signed_1 rfl rfl rfl ?_
  refine g_iconst (q := 3) dX11_signed_2 ki_1 rfl ?_
  refine g_isub (q := 4) dX11_signed_3 rfl ?_
  refine g_ishr (q := 5) dX11_signed_4 rfl ?_
  refine g_iconst (q := 6) dX11_signed_5 ki_1 rfl ?_
  refine g_ic_ne (tgt := 17) (q := 9) dX11_signed_6 rfl rfl (fun hc1 => ?_) (fun hc1 => ?_)
  · replace h := h.1 hc1
    refine g_iloadn (k0 := 0) (q := 18) dX11_signed_17 rfl rfl rfl ?_
    exact g_iret hz rfl dX11_signed_18 h
  · replace h := h.2 hc1
    refine g_iloadn (k0 := 0) (q := 10) dX11_signed_9 rfl rfl rfl ?_
    refine g_iconst (q := 11) dX11_signed_10 ki_1 rfl ?_
    refine g_iloadn (k0 := 1) (q := 12) dX11_signed_11 rfl rfl rfl ?_
    refine g_ishl (q := 13) dX11_signed_12 rfl ?_
    refine g_isub (q := 14) dX11_signed_13 rfl ?_
    refine g_goto (tgt := 18) dX11_signed_14 rfl ?_
    exact g_iret hz rfl dX11_signed_18 h
set_option maxHeartbeats 4000000 in
set_option maxRecDepth 100000 in
theorem g_X11_areLetters_2 {x : GX} {E : EX} (hE : EH E) {Q : Int32 → Mem → Prop} (hz : ZI x E (fun r M => nb r ∧ Q r M)) : ∀ (n : Nat) (v0 : Int32) (v1 : Int32) (v2 : Int32) (M : Mem), P_Mo_areLetters_2 Q n v0 v1 v2 M → G x E mX11_areLetters 0 0 2 [(0, .int v0), (1, .int v1), (2, .int v2)] [] M := by
  intro n
  induction n with
  | zero => intro _ _ _ _ h; exact h.elim
  | succ n ih =>
    intro v0 v1 v2 M h
    unfold P_Mo_areLetters_2 at h
    refine g_iloadn (k0 := 2) (q := 3) dX11_areLetters_2 rfl rfl rfl ?_
    refine g_iloadn (k0 := 1) (q := 4) dX11_areLetters_3 rfl rfl rfl ?_
    refine g_ic_ge (tgt := 28) (q := 7) dX11_areLetters_4 rfl rfl (fun hc2 => ?_) (fun hc2 => ?_)
    · replace h := h.1 hc2
      refine g_iconst (q := 29) dX11_areLetters_28 ki_1 rfl ?_
      exact g_zret hz rfl rfl dX11_areLetters_29 h
    · replace h := h.2 hc2
      refine g_iloadn (k0 := 0) (q := 8) dX11_areLetters_7 rfl rfl rfl ?_
      refine g_iconst (q := 9) dX11_areLetters_8 ki_5 rfl ?_
      refine g_iloadn (k0 := 2) (q := 10) dX11_areLetters_9 rfl rfl rfl ?_
      refine g_imul (q := 11) dX11_areLetters_10 rfl ?_
      refine g_ishr (q := 12) dX11_areLetters_11 rfl ?_
      refine g_bipush (q := 14) dX11_areLetters_12 kb_31 rfl ?_
      refine g_iand (q := 15) dX11_areLetters_14 rfl ?_
      refine g_bipush (q := 17) dX11_areLetters_15 kb_26 rfl ?_
      refine g_ic_le (tgt := 22) (q := 20) dX11_areLetters_17 rfl rfl (fun hc1 => ?_) (fun hc1 => ?_)
      · replace h := h.1 hc1
        refine g_iinc (lv' := [(0, .int v0), (1, .int v1), (2, .int (v2 + 1))]) (k0 := 2) (w := (v2 + 1)) (q := 25) [1, 2, 0] dX11_areLetters_22 rfl rfl (by decide) rfl rfl ?_
        refine g_goto (tgt := 2) dX11_areLetters_25 rfl ?_
        exact ih _ _ _ _ h
      · replace h := h.2 hc1
        refine g_iconst (q := 21) dX11_areLetters_20 ki_0 rfl ?_
        exact g_zret hz rfl rfl dX11_areLetters_21 h
set_option maxHeartbeats 4000000 in
set_option maxRecDepth 100000 in
theorem c_X11_areLetters {E : EX} (hE : EH E) {a1 : Int32} {a2 : Int32} {M : Mem} {Q : Int32 → Mem → Prop} (h : P_Mo_areLetters a1 a2 M Q) : CI yX11_areLetters cX11_areLetters 3 (some .boolean) rmX11_areLetters E [.int a1, .int a2] M (fun r M => nb r ∧ Q r M) := by
  refine CI.of hE (plainFor_of_name (by decide)) (Nat.le_of_ble_eq_true rfl) (fun x hz => ?_)
  unfold P_Mo_areLetters at h
  show G x E mX11_areLetters 0 0 0 [(0, .int a1), (1, .int a2)] [] M
  refine g_iconst (q := 1) dX11_areLetters_0 ki_0 rfl ?_
  refine g_istoren (lv' := [(0, .int a1), (1, .int a2), (2, .int 0)]) (q := 2) [1, 2, 0] dX11_areLetters_1 rfl (by decide) rfl rfl ?_
  obtain ⟨n1, h⟩ := h
  exact g_X11_areLetters_2 hE hz n1 _ _ _ _ h
