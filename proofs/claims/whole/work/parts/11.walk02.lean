set_option maxHeartbeats 4000000 in
set_option maxRecDepth 100000 in
theorem g_X10_hear_47_5 {x : GX} {E : EX} (hE : EH E) {Q : Int32 → Mem → Prop} (hz : ZI x E Q) : ∀ (n : Nat) (v1 : Int32) (v2 : Int32) (v4 : Int32) (v5 : Int32) (M : Mem), P_Sv_hear_47_5 Q n v1 v2 v4 v5 M → G x E mX10_hear 0 0 47 [(0, .ref (eA E 0)), (1, .int v1), (2, .int v2), (3, .ref (eA E 3)), (4, .int v4), (5, .int v5)] [] M := by
  intro n
  induction n with
  | zero => intro _ _ _ _ _ h; exact h.elim
  | succ n ih =>
    intro v1 v2 v4 v5 M h
    unfold P_Sv_hear_47_5 at h
    refine g_iload (k0 := 5) (q := 49) dX10_hear_47 rfl rfl ?_
    refine g_iload (k0 := 4) (q := 51) dX10_hear_49 rfl rfl ?_
    refine g_ic_ge (tgt := 82) (q := 54) dX10_hear_51 rfl rfl (fun hc23 => ?_) (fun hc23 => ?_)
    · replace h := h.1 hc23
      refine g_aloadn (k0 := 0) (q := 83) dX10_hear_82 rfl rfl rfl ?_
      refine g_get (v := .ref (eA E 1)) (q := 86) fg_X10_10_0 rfl dX10_hear_83 rfl ?_
      refine g_iconst (q := 87) dX10_hear_86 ki_0 rfl ?_
      refine g_calli (q := 90) [.int 0] [] cv_X10_97 rc_1 (c_X7_cutTo hE h) rfl rfl ⟨rfl, rfl, Nat.le_of_ble_eq_true rfl, Nat.le_of_ble_eq_true rfl, Nat.zero_le _, Nat.zero_le _⟩ (Nat.le_of_ble_eq_true rfl) dX10_hear_87 rfl (fun r16 M15 h => ?_)
      obtain ⟨hb_r16, h⟩ := h
      refine g_pop (q := 91) dX10_hear_90 rfl rfl ?_
      refine g_aloadn (k0 := 0) (q := 92) dX10_hear_91 rfl rfl rfl ?_
      refine g_get (v := .int (M15.1 0 11)) (q := 95) fg_X10_79_0 rfl dX10_hear_92 rfl ?_
      refine g_iloadn (k0 := 2) (q := 96) dX10_hear_95 rfl rfl rfl ?_
      refine g_isub (q := 97) dX10_hear_96 rfl ?_
      exact g_iret hz rfl dX10_hear_97 h
    · replace h := h.2 hc23
      refine g_aloadn (k0 := 3) (q := 55) dX10_hear_54 rfl rfl rfl ?_
      refine g_aloadn (k0 := 0) (q := 56) dX10_hear_55 rfl rfl rfl ?_
      refine g_get (v := .ref (eA E 1)) (q := 59) fg_X10_10_0 rfl dX10_hear_56 rfl ?_
      refine g_iload (k0 := 5) (q := 61) dX10_hear_59 rfl rfl ?_
      refine g_calli (q := 64) [.int v5] [.ref (eA E 3)] cv_X10_100 rc_1 (c_X7_levelAt hE h) rfl rfl ⟨rfl, rfl, Nat.le_of_ble_eq_true rfl, Nat.le_of_ble_eq_true rfl, Nat.zero_le _, Nat.zero_le _⟩ (Nat.le_of_ble_eq_true rfl) dX10_hear_61 rfl (fun r18 M17 h => ?_)
      refine g_calli (q := 67) [.int r18] [] cv_X10_104 rc_3 (c_X1_takeLevel_3 hE h) rfl rfl ⟨rfl, rfl, Nat.le_of_ble_eq_true rfl, Nat.le_of_ble_eq_true rfl, Nat.zero_le _, Nat.zero_le _⟩ (Nat.le_of_ble_eq_true rfl) dX10_hear_64 rfl (fun r20 M19 h => ?_)
      obtain ⟨hb_r20, h⟩ := h
      refine g_if_eq (tgt := 76) (q := 70) dX10_hear_67 rfl rfl (fun hc22 => ?_) (fun hc22 => ?_)
      · replace h := h.1 hc22
        refine g_iinc (lv' := [(0, .ref (eA E 0)), (1, .int v1), (2, .int v2), (3, .ref (eA E 3)), (4, .int v4), (5, .int (v5 + 1))]) (k0 := 5) (w := (v5 + 1)) (q := 79) [1, 2, 3, 4, 5, 0] dX10_hear_76 rfl rfl (by decide) rfl rfl ?_
        refine g_goto (tgt := 47) dX10_hear_79 rfl ?_
        exact ih _ _ _ _ _ h
      · replace h := h.2 hc22
        refine g_aloadn (k0 := 0) (q := 71) dX10_hear_70 rfl rfl rfl ?_
        refine g_aloadn (k0 := 3) (q := 72) dX10_hear_71 rfl rfl rfl ?_
        refine g_iloadn (k0 := 1) (q := 73) dX10_hear_72 rfl rfl rfl ?_
        refine g_callv (q := 76) [.ref (eA E 3), .int v1] [] cv_X10_107 rc_0 (c_X10_readFrame_3 hE h) rfl rfl ⟨rfl, rfl, Nat.le_of_ble_eq_true rfl, Nat.le_of_ble_eq_true rfl, Nat.zero_le _, Nat.zero_le _⟩ (Nat.le_of_ble_eq_true rfl) dX10_hear_73 rfl (fun M21 h => ?_)
        refine g_iinc (lv' := [(0, .ref (eA E 0)), (1, .int v1), (2, .int v2), (3, .ref (eA E 3)), (4, .int v4), (5, .int (v5 + 1))]) (k0 := 5) (w := (v5 + 1)) (q := 79) [1, 2, 3, 4, 5, 0] dX10_hear_76 rfl rfl (by decide) rfl rfl ?_
        refine g_goto (tgt := 47) dX10_hear_79 rfl ?_
        exact ih _ _ _ _ _ h
set_option maxHeartbeats 4000000 in
set_option maxRecDepth 100000 in
theorem g_X10_hear_31_4 {x : GX} {E : EX} (hE : EH E) {Q : Int32 → Mem → Prop} (hz : ZI x E Q) : ∀ (v1 : Int32) (v2 : Int32) (M : Mem), P_Sv_hear_31_4 Q v1 v2 M → G x E mX10_hear 0 0 31 [(0, .ref (eA E 0)), (1, .int v1), (2, .int v2)] [.ref (eA E 3)] M := by
  intro v1 v2 M h
  unfold P_Sv_hear_31_4 at h
  refine g_astoren (lv' := [(0, .ref (eA E 0)), (1, .int v1), (2, .int v2), (3, .ref (eA E 3))]) (q := 32) [1, 2, 3, 0] dX10_hear_31 rfl (by decide) rfl rfl ?_
  refine g_aloadn (k0 := 0) (q := 33) dX10_hear_32 rfl rfl rfl ?_
  refine g_get (v := .ref (eA E 1)) (q := 36) fg_X10_10_0 rfl dX10_hear_33 rfl ?_
  refine g_calli (q := 39) [] [] cv_X10_93 rc_1 (c_X7_length hE h) rfl rfl ⟨rfl, rfl, Nat.le_of_ble_eq_true rfl, Nat.le_of_ble_eq_true rfl, Nat.zero_le _, Nat.zero_le _⟩ (Nat.le_of_ble_eq_true rfl) dX10_hear_36 rfl (fun r14 M13 h => ?_)
  refine g_bipush (q := 41) dX10_hear_39 kb_8 rfl ?_
  refine g_imul (q := 42) dX10_hear_41 rfl ?_
  refine g_istore (lv' := [(0, .ref (eA E 0)), (1, .int v1), (2, .int v2), (3, .ref (eA E 3)), (4, .int (r14 * 8))]) (q := 44) [1, 2, 3, 4, 0] dX10_hear_42 (by decide) rfl rfl ?_
  refine g_iconst (q := 45) dX10_hear_44 ki_0 rfl ?_
  refine g_istore (lv' := [(0, .ref (eA E 0)), (1, .int v1), (2, .int v2), (3, .ref (eA E 3)), (4, .int (r14 * 8)), (5, .int 0)]) (q := 47) [1, 2, 3, 4, 5, 0] dX10_hear_45 (by decide) rfl rfl ?_
  obtain ⟨n1, h⟩ := h
  exact g_X10_hear_47_5 hE hz n1 _ _ _ _ _ h
set_option maxHeartbeats 4000000 in
set_option maxRecDepth 100000 in
theorem g_X10_hear_11 {x : GX} {E : EX} (hE : EH E) {Q : Int32 → Mem → Prop} (hz : ZI x E Q) : ∀ (v1 : Int32) (M : Mem), P_Sv_hear_11 Q v1 M → G x E mX10_hear 0 0 11 [(0, .ref (eA E 0)), (1, .int v1)] [] M := by
  intro v1 M h
  unfold P_Sv_hear_11 at h
  refine g_aloadn (k0 := 0) (q := 12) dX10_hear_11 rfl rfl rfl ?_
  refine g_get (v := .int (M.1 0 11)) (q := 15) fg_X10_79_0 rfl dX10_hear_12 rfl ?_
  refine g_istoren (lv' := [(0, .ref (eA E 0)), (1, .int v1), (2, .int (M.1 0 11))]) (q := 16) [1, 2, 0] dX10_hear_15 rfl (by decide) rfl rfl ?_
  refine g_iloadn (k0 := 1) (q := 17) dX10_hear_16 rfl rfl rfl ?_
  refine g_if_ne (tgt := 27) (q := 20) dX10_hear_17 rfl rfl (fun hc25 => ?_) (fun hc25 => ?_)
  · replace h := h.1 hc25
    refine g_aloadn (k0 := 0) (q := 28) dX10_hear_27 rfl rfl rfl ?_
    refine g_get (v := .ref (eA E 5)) (q := 31) fg_X10_23_0 rfl dX10_hear_28 rfl ?_
    exact g_X10_hear_31 hE hz _ _ _ h
  · replace h := h.2 hc25
    refine g_aloadn (k0 := 0) (q := 21) dX10_hear_20 rfl rfl rfl ?_
    refine g_get (v := .ref (eA E 3)) (q := 24) fg_X10_19_0 rfl dX10_hear_21 rfl ?_
    refine g_goto (tgt := 31) dX10_hear_24 rfl ?_
    exact g_X10_hear_31_4 hE hz _ _ _ h
set_option maxHeartbeats 4000000 in
set_option maxRecDepth 100000 in
theorem c_X10_hear {E : EX} (hE : EH E) {a1 : Int32} {M : Mem} {Q : Int32 → Mem → Prop} (h : P_Sv_hear a1 M Q) : CI yX10_hear cX10_hear 6 (some .int) rmX10_hear E [.ref (eA E 0), .int a1] M Q := by
  refine CI.of hE (plainFor_of_name (by decide)) (Nat.le_of_ble_eq_true rfl) (fun x hz => ?_)
  unfold P_Sv_hear at h
  show G x E mX10_hear 0 0 0 [(0, .ref (eA E 0)), (1, .int a1)] [] M
  refine g_iloadn (k0 := 1) (q := 1) dX10_hear_0 rfl rfl rfl ?_
  refine g_if_eq (tgt := 11) (q := 4) dX10_hear_1 rfl rfl (fun hc27 => ?_) (fun hc27 => ?_)
  · replace h := h.1 hc27
    exact g_X10_hear_11 hE hz _ _ h
  · replace h := h.2 hc27
    refine g_iloadn (k0 := 1) (q := 5) dX10_hear_4 rfl rfl rfl ?_
    refine g_iconst (q := 6) dX10_hear_5 ki_1 rfl ?_
    refine g_ic_eq (tgt := 11) (q := 9) dX10_hear_6 rfl rfl (fun hc26 => ?_) (fun hc26 => ?_)
    · replace h := h.1 hc26
      exact g_X10_hear_11 hE hz _ _ h
    · replace h := h.2 hc26
      refine g_iconst (q := 10) dX10_hear_9 ki_m1 rfl ?_
      exact g_iret hz rfl dX10_hear_10 h
set_option maxHeartbeats 4000000 in
set_option maxRecDepth 100000 in
theorem c_X10_wait {E : EX} (hE : EH E) {a1 : Int32} {M : Mem} {Q : Int32 → Mem → Prop} (h : P_Sv_wait a1 M Q) : CI yX10_wait cX10_wait 2 (some .boolean) rmX10_wait E [.ref (eA E 0), .int a1] M (fun r M => nb r ∧ Q r M) := by
  refine CI.of hE (plainFor_of_name (by decide)) (Nat.le_of_ble_eq_true rfl) (fun x hz => ?_)
  unfold P_Sv_wait at h
  show G x E mX10_wait 0 0 0 [(0, .ref (eA E 0)), (1, .int a1)] [] M
  refine g_iloadn (k0 := 1) (q := 1) dX10_wait_0 rfl rfl rfl ?_
  refine g_if_lt (tgt := 21) (q := 4) dX10_wait_1 rfl rfl (fun hc3 => ?_) (fun hc3 => ?_)
  · replace h := h.1 hc3
    refine g_iconst (q := 22) dX10_wait_21 ki_0 rfl ?_
    exact g_zret hz rfl rfl dX10_wait_22 h
  · replace h := h.2 hc3
    refine g_iloadn (k0 := 1) (q := 5) dX10_wait_4 rfl rfl rfl ?_
    refine g_ldc (q := 7) dX10_wait_5 wm_445 rfl ?_
    refine g_ic_gt (tgt := 21) (q := 10) dX10_wait_7 rfl rfl (fun hc2 => ?_) (fun hc2 => ?_)
    · replace h := h.1 hc2
      refine g_iconst (q := 22) dX10_wait_21 ki_0 rfl ?_
      exact g_zret hz rfl rfl dX10_wait_22 h
    · replace h := h.2 hc2
      refine g_iloadn (k0 := 1) (q := 11) dX10_wait_10 rfl rfl rfl ?_
      refine g_ldc (q := 13) dX10_wait_11 wm_446 rfl ?_
      refine g_aloadn (k0 := 0) (q := 14) dX10_wait_13 rfl rfl rfl ?_
      refine g_get (v := .int (M.1 0 10)) (q := 17) fg_X10_75_0 rfl dX10_wait_14 rfl ?_
      refine g_isub (q := 18) dX10_wait_17 rfl ?_
      refine g_ic_le (tgt := 23) (q := 21) dX10_wait_18 rfl rfl (fun hc1 => ?_) (fun hc1 => ?_)
      · replace h := h.1 hc1
        refine g_aloadn (k0 := 0) (q := 24) dX10_wait_23 rfl rfl rfl ?_
        refine g_dup (q := 25) dX10_wait_24 rfl rfl ?_
        refine g_get (v := .int (M.1 0 10)) (q := 28) fg_X10_75_0 rfl dX10_wait_25 rfl ?_
        refine g_iloadn (k0 := 1) (q := 29) dX10_wait_28 rfl rfl rfl ?_
        refine g_iadd (q := 30) dX10_wait_29 rfl ?_
        refine g_putI (q := 33) fp_X10_75_0 dX10_wait_30 rfl ?_
        refine g_iconst (q := 34) dX10_wait_33 ki_1 rfl ?_
        exact g_zret hz rfl rfl dX10_wait_34 h
      · replace h := h.2 hc1
        refine g_iconst (q := 22) dX10_wait_21 ki_0 rfl ?_
        exact g_zret hz rfl rfl dX10_wait_22 h
set_option maxHeartbeats 4000000 in
set_option maxRecDepth 100000 in
theorem c_X8_fits {E : EX} (hE : EH E) {a1 : Int32} {a2 : Int32} {M : Mem} {Q : Int32 → Mem → Prop} (h : P_Telling_fits a1 a2 M Q) : CI yX8_fits cX8_fits 4 (some .boolean) rmX8_fits E [.ref (eA E 7), .int a1, .int a2] M (fun r M => nb r ∧ Q r M) := by
  refine CI.of hE (plainFor_of_name (by decide)) (Nat.le_of_ble_eq_true rfl) (fun x hz => ?_)
  unfold P_Telling_fits at h
  show G x E mX8_fits 0 0 0 [(0, .ref (eA E 7)), (1, .int a1), (2, .int a2)] [] M
  refine g_aloadn (k0 := 0) (q := 1) dX8_fits_0 rfl rfl rfl ?_
  refine g_get (v := .int (M.1 7 1)) (q := 4) fg_X8_15_7 rfl dX8_fits_1 rfl ?_
  refine g_iconst (q := 5) dX8_fits_4 ki_1 rfl ?_
  refine g_ic_ne (tgt := 31) (q := 8) dX8_fits_5 rfl rfl (fun hc4 => ?_) (fun hc4 => ?_)
  · replace h := h.1 hc4
    refine g_iloadn (k0 := 1) (q := 32) dX8_fits_31 rfl rfl rfl ?_
    refine g_iloadn (k0 := 2) (q := 33) dX8_fits_32 rfl rfl rfl ?_
    refine g_iushr (q := 34) dX8_fits_33 rfl ?_
    refine g_if_ne (tgt := 41) (q := 37) dX8_fits_34 rfl rfl (fun hc1 => ?_) (fun hc1 => ?_)
    · replace h := h.1 hc1
      refine g_iconst (q := 42) dX8_fits_41 ki_0 rfl ?_
      exact g_zret hz rfl rfl dX8_fits_42 h
    · replace h := h.2 hc1
      refine g_iconst (q := 38) dX8_fits_37 ki_1 rfl ?_
      refine g_goto (tgt := 42) dX8_fits_38 rfl ?_
      exact g_zret hz rfl rfl dX8_fits_42 h
  · replace h := h.2 hc4
    refine g_iconst (q := 9) dX8_fits_8 ki_1 rfl ?_
    refine g_iloadn (k0 := 2) (q := 10) dX8_fits_9 rfl rfl rfl ?_
    refine g_iconst (q := 11) dX8_fits_10 ki_1 rfl ?_
    refine g_isub (q := 12) dX8_fits_11 rfl ?_
    refine g_ishl (q := 13) dX8_fits_12 rfl ?_
    refine g_istoren (lv' := [(0, .ref (eA E 7)), (1, .int a1), (2, .int a2), (3, .int ((1 : Int32) <<< ((a2 - 1) &&& 31)))]) (q := 14) [1, 2, 3, 0] dX8_fits_13 rfl (by decide) rfl rfl ?_
    refine g_iloadn (k0 := 1) (q := 15) dX8_fits_14 rfl rfl rfl ?_
    refine g_iloadn (k0 := 3) (q := 16) dX8_fits_15 rfl rfl rfl ?_
    refine g_ineg (q := 17) dX8_fits_16 rfl ?_
    refine g_ic_lt (tgt := 29) (q := 20) dX8_fits_17 rfl rfl (fun hc3 => ?_) (fun hc3 => ?_)
    · replace h := h.1 hc3
      refine g_iconst (q := 30) dX8_fits_29 ki_0 rfl ?_
      exact g_zret hz rfl rfl dX8_fits_30 h
    · replace h := h.2 hc3
      refine g_iloadn (k0 := 1) (q := 21) dX8_fits_20 rfl rfl rfl ?_
      refine g_iloadn (k0 := 3) (q := 22) dX8_fits_21 rfl rfl rfl ?_
      refine g_ic_ge (tgt := 29) (q := 25) dX8_fits_22 rfl rfl (fun hc2 => ?_) (fun hc2 => ?_)
      · replace h := h.1 hc2
        refine g_iconst (q := 30) dX8_fits_29 ki_0 rfl ?_
        exact g_zret hz rfl rfl dX8_fits_30 h
      · replace h := h.2 hc2
        refine g_iconst (q := 26) dX8_fits_25 ki_1 rfl ?_
        refine g_goto (tgt := 30) dX8_fits_26 rfl ?_
        exact g_zret hz rfl rfl dX8_fits_30 h
set_option maxHeartbeats 4000000 in
set_option maxRecDepth 100000 in
theorem g_X8_areInFields_2 {x : GX} {E : EX} (hE : EH E) {Q : Int32 → Mem → Prop} (hz : ZI x E (fun r M => nb r ∧ Q r M)) : ∀ (n : Nat) (v1 : Int32) (M : Mem), P_Telling_areInFields_2 Q n v1 M → G x E mX8_areInFields 0 0 2 [(0, .ref (eA E 7)), (1, .int v1)] [] M := by
  intro n
  induction n with
  | zero => intro _ _ h; exact h.elim
  | succ n ih =>
    intro v1 M h
    unfold P_Telling_areInFields_2 at h
    refine g_iloadn (k0 := 1) (q := 3) dX8_areInFields_2 rfl rfl rfl ?_
    refine g_iconst (q := 4) dX8_areInFields_3 ki_4 rfl ?_
    refine g_ic_ge (tgt := 39) (q := 7) dX8_areInFields_4 rfl rfl (fun hc8 => ?_) (fun hc8 => ?_)
    · replace h := h.1 hc8
      refine g_iconst (q := 40) dX8_areInFields_39 ki_1 rfl ?_
      exact g_zret hz rfl rfl dX8_areInFields_40 h
    · replace h := h.2 hc8
      refine g_aloadn (k0 := 0) (q := 8) dX8_areInFields_7 rfl rfl rfl ?_
      refine g_iloadn (k0 := 1) (q := 9) dX8_areInFields_8 rfl rfl rfl ?_
      refine g_calli (q := 12) [.int v1] [] cv_X8_50 rc_7 (c_X8_width hE h) rfl rfl ⟨rfl, rfl, Nat.le_of_ble_eq_true rfl, Nat.le_of_ble_eq_true rfl, Nat.zero_le _, Nat.zero_le _⟩ (Nat.le_of_ble_eq_true rfl) dX8_areInFields_9 rfl (fun r2 M1 h => ?_)
      refine g_istoren (lv' := [(0, .ref (eA E 7)), (1, .int v1), (2, .int r2)]) (q := 13) [1, 2, 0] dX8_areInFields_12 rfl (by decide) rfl rfl ?_
      refine g_iloadn (k0 := 2) (q := 14) dX8_areInFields_13 rfl rfl rfl ?_
      refine g_if_le (tgt := 33) (q := 17) dX8_areInFields_14 rfl rfl (fun hc7 => ?_) (fun hc7 => ?_)
      · replace h := h.1 hc7
        refine g_iinc (lv' := [(0, .ref (eA E 7)), (1, .int (v1 + 1)), (2, .int r2)]) (k0 := 1) (w := (v1 + 1)) (q := 36) [1, 0, 2] dX8_areInFields_33 rfl rfl (by decide) rfl rfl ?_
        refine g_goto (tgt := 2) dX8_areInFields_36 rfl ?_
        refine g_lv (lv' := [(0, .ref (eA E 7)), (1, .int (v1 + 1))]) [0, 1] rfl ?_
        exact ih _ _ h
      · replace h := h.2 hc7
        refine g_aloadn (k0 := 0) (q := 18) dX8_areInFields_17 rfl rfl rfl ?_
        refine g_aloadn (k0 := 0) (q := 19) dX8_areInFields_18 rfl rfl rfl ?_
        refine g_get (v := .ref (eA E 8)) (q := 22) fg_X8_11_7 rfl dX8_areInFields_19 rfl ?_
        refine g_iloadn (k0 := 1) (q := 23) dX8_areInFields_22 rfl rfl rfl ?_
        have hv3 := h.1
        replace h := h.2
        refine g_iald (v := (M1.1 8 v1.toNatClampNeg)) (q := 24) ar_8 hv3 rfl dX8_areInFields_23 rfl ?_
        refine g_iloadn (k0 := 2) (q := 25) dX8_areInFields_24 rfl rfl rfl ?_
        refine g_calli (q := 28) [.int (M1.1 8 v1.toNatClampNeg), .int r2] [] cv_X8_65 rc_7 (c_X8_fits hE h) rfl rfl ⟨rfl, rfl, Nat.le_of_ble_eq_true rfl, Nat.le_of_ble_eq_true rfl, Nat.zero_le _, Nat.zero_le _⟩ (Nat.le_of_ble_eq_true rfl) dX8_areInFields_25 rfl (fun r5 M4 h => ?_)
        obtain ⟨hb_r5, h⟩ := h
        refine g_if_ne (tgt := 33) (q := 31) dX8_areInFields_28 rfl rfl (fun hc6 => ?_) (fun hc6 => ?_)
        · replace h := h.1 hc6
          refine g_iinc (lv' := [(0, .ref (eA E 7)), (1, .int (v1 + 1)), (2, .int r2)]) (k0 := 1) (w := (v1 + 1)) (q := 36) [1, 0, 2] dX8_areInFields_33 rfl rfl (by decide) rfl rfl ?_
          refine g_goto (tgt := 2) dX8_areInFields_36 rfl ?_
          refine g_lv (lv' := [(0, .ref (eA E 7)), (1, .int (v1 + 1))]) [0, 1] rfl ?_
          exact ih _ _ h
        · replace h := h.2 hc6
          refine g_iconst (q := 32) dX8_areInFields_31 ki_0 rfl ?_
          exact g_zret hz rfl rfl dX8_areInFields_32 h
set_option maxHeartbeats 4000000 in
set_option maxRecDepth 100000 in
theorem c_X8_areInFields {E : EX} (hE : EH E) {M : Mem} {Q : Int32 → Mem → Prop} (h : P_Telling_areInFields  M Q) : CI yX8_areInFields cX8_areInFields 3 (some .boolean) rmX8_areInFields E [.ref (eA E 7)] M (fun r M => nb r ∧ Q r M) := by
  refine CI.of hE (plainFor_of_name (by decide)) (Nat.le_of_ble_eq_true rfl) (fun x hz => ?_)
  unfold P_Telling_areInFields at h
  show G x E mX8_areInFields 0 0 0 [(0, .ref (eA E 7))] [] M
  refine g_iconst (q := 1) dX8_areInFields_0 ki_0 rfl ?_
  refine g_istoren (lv' := [(0, .ref (eA E 7)), (1, .int 0)]) (q := 2) [1, 0] dX8_areInFields_1 rfl (by decide) rfl rfl ?_
  obtain ⟨n1, h⟩ := h
  exact g_X8_areInFields_2 hE hz n1 _ _ h
set_option maxHeartbeats 4000000 in
set_option maxRecDepth 100000 in
theorem g_X8_compose_99 {x : GX} {E : EX} (hE : EH E) {Q : Int32 → Mem → Prop} (hz : ZI x E (fun r M => nb r ∧ Q r M)) : ∀ (M : Mem), P_Telling_compose_99 Q M → G x E mX8_compose 0 0 99 [(0, .ref (eA E 7))] [] M := by
  intro M h
  unfold P_Telling_compose_99 at h
  refine g_aloadn (k0 := 0) (q := 100) dX8_compose_99 rfl rfl rfl ?_
  refine g_calli (q := 103) [] [] cv_X8_62 rc_7 (c_X8_areInFields hE h) rfl rfl ⟨rfl, rfl, Nat.le_of_ble_eq_true rfl, Nat.le_of_ble_eq_true rfl, Nat.zero_le _, Nat.zero_le _⟩ (Nat.le_of_ble_eq_true rfl) dX8_compose_100 rfl (fun r5 M4 h => ?_)
  obtain ⟨hb_r5, h⟩ := h
  refine g_if_eq (tgt := 117) (q := 106) dX8_compose_103 rfl rfl (fun hc9 => ?_) (fun hc9 => ?_)
  · replace h := h.1 hc9
    refine g_iconst (q := 118) dX8_compose_117 ki_0 rfl ?_
    exact g_zret hz rfl rfl dX8_compose_118 h
  · replace h := h.2 hc9
    refine g_aloadn (k0 := 0) (q := 107) dX8_compose_106 rfl rfl rfl ?_
    refine g_calli (q := 110) [] [] cv_X8_57 rc_7 (c_X8_isAsTold hE h) rfl rfl ⟨rfl, rfl, Nat.le_of_ble_eq_true rfl, Nat.le_of_ble_eq_true rfl, Nat.zero_le _, Nat.zero_le _⟩ (Nat.le_of_ble_eq_true rfl) dX8_compose_107 rfl (fun r7 M6 h => ?_)
    obtain ⟨hb_r7, h⟩ := h
    refine g_if_eq (tgt := 117) (q := 113) dX8_compose_110 rfl rfl (fun hc8 => ?_) (fun hc8 => ?_)
    · replace h := h.1 hc8
      refine g_iconst (q := 118) dX8_compose_117 ki_0 rfl ?_
      exact g_zret hz rfl rfl dX8_compose_118 h
    · replace h := h.2 hc8
      refine g_iconst (q := 114) dX8_compose_113 ki_1 rfl ?_
      refine g_goto (tgt := 118) dX8_compose_114 rfl ?_
      exact g_zret hz rfl rfl dX8_compose_118 h
set_option maxHeartbeats 4000000 in
set_option maxRecDepth 100000 in
theorem c_X8_compose {E : EX} (hE : EH E) {a1 : Int32} {a2 : Int32} {a3 : Int32} {a4 : Int32} {a5 : Int32} {a6 : Int32} {M : Mem} {Q : Int32 → Mem → Prop} (h : P_Telling_compose a1 a2 a3 a4 a5 a6 M Q) : CI yX8_compose cX8_compose 7 (some .boolean) rmX8_compose E [.ref (eA E 7), .int a1, .int a2, .int a3, .int a4, .int a5, .int a6] M (fun r M => nb r ∧ Q r M) := by
  refine CI.of hE (plainFor_of_name (by decide)) (Nat.le_of_ble_eq_true rfl) (fun x hz => ?_)
  unfold P_Telling_compose at h
  show G x E mX8_compose 0 0 0 [(0, .ref (eA E 7)), (1, .int a1), (2, .int a2), (3, .int a3), (4, .int a4), (5, .int a5), (6, .int a6)] [] M
  refine g_iloadn (k0 := 1) (q := 1) dX8_compose_0 rfl rfl rfl ?_
  refine g_scalli (q := 4) [.int a1] [] cs_X8_43 (c_X8_isKind hE h) rfl rfl ⟨rfl, rfl, Nat.le_of_ble_eq_true rfl, Nat.le_of_ble_eq_true rfl, Nat.zero_le _, Nat.zero_le _⟩ (Nat.le_of_ble_eq_true rfl) dX8_compose_1 rfl (fun r2 M1 h => ?_)
  obtain ⟨hb_r2, h⟩ := h
  refine g_if_eq (tgt := 17) (q := 7) dX8_compose_4 rfl rfl (fun hc17 => ?_) (fun hc17 => ?_)
  · replace h := h.1 hc17
    refine g_iconst (q := 18) dX8_compose_17 ki_0 rfl ?_
    exact g_zret hz rfl rfl dX8_compose_18 h
  · replace h := h.2 hc17
    refine g_iloadn (k0 := 2) (q := 8) dX8_compose_7 rfl rfl rfl ?_
    refine g_if_lt (tgt := 17) (q := 11) dX8_compose_8 rfl rfl (fun hc16 => ?_) (fun hc16 => ?_)
    · replace h := h.1 hc16
      refine g_iconst (q := 18) dX8_compose_17 ki_0 rfl ?_
      exact g_zret hz rfl rfl dX8_compose_18 h
    · replace h := h.2 hc16
      refine g_iloadn (k0 := 2) (q := 12) dX8_compose_11 rfl rfl rfl ?_
      refine g_ldc (q := 14) dX8_compose_12 wm_455 rfl ?_
      refine g_ic_lt (tgt := 19) (q := 17) dX8_compose_14 rfl rfl (fun hc15 => ?_) (fun hc15 => ?_)
      · replace h := h.1 hc15
        refine g_aloadn (k0 := 0) (q := 20) dX8_compose_19 rfl rfl rfl ?_
        refine g_iloadn (k0 := 1) (q := 21) dX8_compose_20 rfl rfl rfl ?_
        refine g_putI (q := 24) fp_X8_15_7 dX8_compose_21 rfl ?_
        refine g_aloadn (k0 := 0) (q := 25) dX8_compose_24 rfl rfl rfl ?_
        refine g_iloadn (k0 := 2) (q := 26) dX8_compose_25 rfl rfl rfl ?_
        refine g_putI (q := 29) fp_X8_19_7 dX8_compose_26 rfl ?_
        refine g_iloadn (k0 := 1) (q := 30) dX8_compose_29 rfl rfl rfl ?_
        refine g_iconst (q := 31) dX8_compose_30 ki_4 rfl ?_
        refine g_ic_ne (tgt := 88) (q := 34) dX8_compose_31 rfl rfl (fun hc14 => ?_) (fun hc14 => ?_)
        · replace h := h.1 hc14
          refine g_aloadn (k0 := 0) (q := 89) dX8_compose_88 rfl rfl rfl ?_
          refine g_iloadn (k0 := 3) (q := 90) dX8_compose_89 rfl rfl rfl ?_
          refine g_iload (k0 := 4) (q := 92) dX8_compose_90 rfl rfl ?_
          refine g_iload (k0 := 5) (q := 94) dX8_compose_92 rfl rfl ?_
          refine g_iload (k0 := 6) (q := 96) dX8_compose_94 rfl rfl ?_
          refine g_callv (q := 99) [.int a3, .int a4, .int a5, .int a6] [] cv_X8_29 rc_7 (c_X8_setNumbers hE h) rfl rfl ⟨rfl, rfl, Nat.le_of_ble_eq_true rfl, Nat.le_of_ble_eq_true rfl, Nat.zero_le _, Nat.zero_le _⟩ (Nat.le_of_ble_eq_true rfl) dX8_compose_96 rfl (fun M3 h => ?_)
          refine g_lv (lv' := [(0, .ref (eA E 7))]) [0] rfl ?_
          exact g_X8_compose_99 hE hz _ h
        · replace h := h.2 hc14
          refine g_iloadn (k0 := 3) (q := 35) dX8_compose_34 rfl rfl rfl ?_
          refine g_bipush (q := 37) dX8_compose_35 kb_9 rfl ?_
          refine g_iushr (q := 38) dX8_compose_37 rfl ?_
          refine g_if_ne (tgt := 57) (q := 41) dX8_compose_38 rfl rfl (fun hc13 => ?_) (fun hc13 => ?_)
          · replace h := h.1 hc13
            refine g_iconst (q := 58) dX8_compose_57 ki_0 rfl ?_
            exact g_zret hz rfl rfl dX8_compose_58 h
          · replace h := h.2 hc13
            refine g_iload (k0 := 4) (q := 43) dX8_compose_41 rfl rfl ?_
            refine g_bipush (q := 45) dX8_compose_43 kb_10 rfl ?_
            refine g_iushr (q := 46) dX8_compose_45 rfl ?_
            refine g_if_ne (tgt := 57) (q := 49) dX8_compose_46 rfl rfl (fun hc12 => ?_) (fun hc12 => ?_)
            · replace h := h.1 hc12
              refine g_iconst (q := 58) dX8_compose_57 ki_0 rfl ?_
              exact g_zret hz rfl rfl dX8_compose_58 h
            · replace h := h.2 hc12
              refine g_iload (k0 := 5) (q := 51) dX8_compose_49 rfl rfl ?_
              refine g_bipush (q := 53) dX8_compose_51 kb_10 rfl ?_
              refine g_iushr (q := 54) dX8_compose_53 rfl ?_
              refine g_if_eq (tgt := 59) (q := 57) dX8_compose_54 rfl rfl (fun hc11 => ?_) (fun hc11 => ?_)
              · replace h := h.1 hc11
                refine g_aloadn (k0 := 0) (q := 60) dX8_compose_59 rfl rfl rfl ?_
                refine g_iloadn (k0 := 3) (q := 61) dX8_compose_60 rfl rfl rfl ?_
                refine g_bipush (q := 63) dX8_compose_61 kb_6 rfl ?_
                refine g_ishr (q := 64) dX8_compose_63 rfl ?_
                refine g_iloadn (k0 := 3) (q := 65) dX8_compose_64 rfl rfl rfl ?_
                refine g_iconst (q := 66) dX8_compose_65 ki_3 rfl ?_
                refine g_ishr (q := 67) dX8_compose_66 rfl ?_
                refine g_bipush (q := 69) dX8_compose_67 kb_7 rfl ?_
                refine g_iand (q := 70) dX8_compose_69 rfl ?_
                refine g_iloadn (k0 := 3) (q := 71) dX8_compose_70 rfl rfl rfl ?_
                refine g_bipush (q := 73) dX8_compose_71 kb_7 rfl ?_
                refine g_iand (q := 74) dX8_compose_73 rfl ?_
                refine g_iload (k0 := 4) (q := 76) dX8_compose_74 rfl rfl ?_
                refine g_bipush (q := 78) dX8_compose_76 kb_10 rfl ?_
                refine g_ishl (q := 79) dX8_compose_78 rfl ?_
                refine g_iload (k0 := 5) (q := 81) dX8_compose_79 rfl rfl ?_
                refine g_ior (q := 82) dX8_compose_81 rfl ?_
                refine g_callv (q := 85) [.int (a3 >>> ((6 : Int32) &&& 31)), .int ((a3 >>> ((3 : Int32) &&& 31)) &&& 7), .int (a3 &&& 7), .int ((a4 <<< ((10 : Int32) &&& 31)) ||| a5)] [] cv_X8_29 rc_7 (c_X8_setNumbers hE h) rfl rfl ⟨rfl, rfl, Nat.le_of_ble_eq_true rfl, Nat.le_of_ble_eq_true rfl, Nat.zero_le _, Nat.zero_le _⟩ (Nat.le_of_ble_eq_true rfl) dX8_compose_82 rfl (fun M10 h => ?_)
                refine g_goto (tgt := 99) dX8_compose_85 rfl ?_
                refine g_lv (lv' := [(0, .ref (eA E 7))]) [0] rfl ?_
                exact g_X8_compose_99 hE hz _ h
              · replace h := h.2 hc11
                refine g_iconst (q := 58) dX8_compose_57 ki_0 rfl ?_
                exact g_zret hz rfl rfl dX8_compose_58 h
      · replace h := h.2 hc15
        refine g_iconst (q := 18) dX8_compose_17 ki_0 rfl ?_
        exact g_zret hz rfl rfl dX8_compose_18 h
set_option maxHeartbeats 4000000 in
set_option maxRecDepth 100000 in
theorem g_X6_addBit_56 {x : GX} {E : EX} (hE : EH E) {Q : Mem → Prop} (hz : ZU x E Q) : ∀ (v2 : Int32) (s0 : Int32) (M : Mem), P_Sender_addBit_56 Q v2 s0 M → G x E mX6_addBit 0 0 56 [(0, .ref (eA E 9)), (2, .int v2)] [.int s0] M := by
  intro v2 s0 M h
  unfold P_Sender_addBit_56 at h
  refine g_istoren (lv' := [(0, .ref (eA E 9)), (2, .int v2), (3, .int s0)]) (q := 57) [1, 2, 0] dX6_addBit_56 rfl (by decide) rfl rfl ?_
  refine g_aloadn (k0 := 0) (q := 58) dX6_addBit_57 rfl rfl rfl ?_
  refine g_get (v := .ref (eA E 10)) (q := 61) fg_X6_11_9 rfl dX6_addBit_58 rfl ?_
  refine g_iloadn (k0 := 1) (q := 62) dX6_addBit_61 rfl rfl rfl ?_
  refine g_iloadn (k0 := 2) (q := 63) dX6_addBit_62 rfl rfl rfl ?_
  refine g_aloadn (k0 := 0) (q := 64) dX6_addBit_63 rfl rfl rfl ?_
  refine g_get (v := .int (M.1 9 2)) (q := 67) fg_X6_19_9 rfl dX6_addBit_64 rfl ?_
  refine g_bipush (q := 69) dX6_addBit_67 kb_7 rfl ?_
  refine g_aloadn (k0 := 0) (q := 70) dX6_addBit_69 rfl rfl rfl ?_
  refine g_get (v := .int (M.1 9 1)) (q := 73) fg_X6_15_9 rfl dX6_addBit_70 rfl ?_
  refine g_bipush (q := 75) dX6_addBit_73 kb_7 rfl ?_
  refine g_iand (q := 76) dX6_addBit_75 rfl ?_
  refine g_isub (q := 77) dX6_addBit_76 rfl ?_
  refine g_ishl (q := 78) dX6_addBit_77 rfl ?_
  refine g_ior (q := 79) dX6_addBit_78 rfl ?_
  refine g_i2b (q := 80) dX6_addBit_79 rfl ?_
  have hv2 := h.1
  replace h := h.2
  refine g_bast (q := 81) ar_10 hv2 (pk_vb _) dX6_addBit_80 rfl ?_
  refine g_aloadn (k0 := 0) (q := 82) dX6_addBit_81 rfl rfl rfl ?_
  refine g_dup (q := 83) dX6_addBit_82 rfl rfl ?_
  refine g_get (v := .int (M.1 9 1)) (q := 86) fg_X6_15_9 rfl dX6_addBit_83 rfl ?_
  refine g_iconst (q := 87) dX6_addBit_86 ki_1 rfl ?_
  refine g_iadd (q := 88) dX6_addBit_87 rfl ?_
  refine g_putI (q := 91) fp_X6_15_9 dX6_addBit_88 rfl ?_
  exact g_vret hz rfl dX6_addBit_91 h
set_option maxHeartbeats 4000000 in
set_option maxRecDepth 100000 in
theorem g_X6_addBit_33 {x : GX} {E : EX} (hE : EH E) {Q : Mem → Prop} (hz : ZU x E Q) : ∀ (v2 : Int32) (s0 : Int32) (M : Mem), P_Sender_addBit_33 Q v2 s0 M → G x E mX6_addBit 0 0 33 [(0, .ref (eA E 9)), (2, .int v2)] [.int s0, .ref (eA E 9)] M := by
  intro v2 s0 M h
  unfold P_Sender_addBit_33 at h
  refine g_putI (q := 36) fp_X6_19_9 dX6_addBit_33 rfl ?_
  refine g_aloadn (k0 := 0) (q := 37) dX6_addBit_36 rfl rfl rfl ?_
  refine g_get (v := .int (M.1 9 1)) (q := 40) fg_X6_15_9 rfl dX6_addBit_37 rfl ?_
  refine g_bipush (q := 42) dX6_addBit_40 kb_7 rfl ?_
  refine g_iand (q := 43) dX6_addBit_42 rfl ?_
  refine g_if_ne (tgt := 50) (q := 46) dX6_addBit_43 rfl rfl (fun hc3 => ?_) (fun hc3 => ?_)
  · replace h := h.1 hc3
    refine g_aloadn (k0 := 0) (q := 51) dX6_addBit_50 rfl rfl rfl ?_
    refine g_get (v := .ref (eA E 10)) (q := 54) fg_X6_11_9 rfl dX6_addBit_51 rfl ?_
    refine g_iloadn (k0 := 1) (q := 55) dX6_addBit_54 rfl rfl rfl ?_
    have hv1 := h.1
    replace h := h.2
    refine g_bald (v := (M.1 10 v2.toNatClampNeg)) (q := 56) ar_10 hv1 rfl dX6_addBit_55 rfl ?_
    exact g_X6_addBit_56 hE hz _ _ _ h
  · replace h := h.2 hc3
    refine g_iconst (q := 47) dX6_addBit_46 ki_0 rfl ?_
    refine g_goto (tgt := 56) dX6_addBit_47 rfl ?_
    exact g_X6_addBit_56 hE hz _ _ _ h
set_option maxHeartbeats 4000000 in
set_option maxRecDepth 100000 in
theorem c_X6_addBit {E : EX} (hE : EH E) {a1 : Int32} {M : Mem} {Q : Mem → Prop} (h : P_Sender_addBit a1 M Q) : CU yX6_addBit cX6_addBit 4 none rmX6_addBit E [.ref (eA E 9), .int a1] M Q := by
  refine CU.of hE (plainFor_of_name (by decide)) (Nat.le_of_ble_eq_true rfl) (fun x hz => ?_)
  unfold P_Sender_addBit at h
  show G x E mX6_addBit 0 0 0 [(0, .ref (eA E 9)), (1, .int a1)] [] M
  refine g_aloadn (k0 := 0) (q := 1) dX6_addBit_0 rfl rfl rfl ?_
  refine g_get (v := .int (M.1 9 1)) (q := 4) fg_X6_15_9 rfl dX6_addBit_1 rfl ?_
  refine g_iconst (q := 5) dX6_addBit_4 ki_3 rfl ?_
  refine g_ishr (q := 6) dX6_addBit_5 rfl ?_
  refine g_istoren (lv' := [(0, .ref (eA E 9)), (1, .int a1), (2, .int ((M.1 9 1) >>> ((3 : Int32) &&& 31)))]) (q := 7) [1, 2, 0] dX6_addBit_6 rfl (by decide) rfl rfl ?_
  refine g_iloadn (k0 := 2) (q := 8) dX6_addBit_7 rfl rfl rfl ?_
  refine g_bipush (q := 10) dX6_addBit_8 kb_16 rfl ?_
  refine g_ic_lt (tgt := 14) (q := 13) dX6_addBit_10 rfl rfl (fun hc5 => ?_) (fun hc5 => ?_)
  · replace h := h.1 hc5
    refine g_aloadn (k0 := 0) (q := 15) dX6_addBit_14 rfl rfl rfl ?_
    refine g_iloadn (k0 := 1) (q := 16) dX6_addBit_15 rfl rfl rfl ?_
    refine g_iconst (q := 17) dX6_addBit_16 ki_1 rfl ?_
    refine g_ic_ne (tgt := 27) (q := 20) dX6_addBit_17 rfl rfl (fun hc4 => ?_) (fun hc4 => ?_)
    · replace h := h.1 hc4
      refine g_iconst (q := 28) dX6_addBit_27 ki_1 rfl ?_
      refine g_aloadn (k0 := 0) (q := 29) dX6_addBit_28 rfl rfl rfl ?_
      refine g_get (v := .int (M.1 9 2)) (q := 32) fg_X6_19_9 rfl dX6_addBit_29 rfl ?_
      refine g_isub (q := 33) dX6_addBit_32 rfl ?_
      refine g_lv (lv' := [(0, .ref (eA E 9)), (2, .int ((M.1 9 1) >>> ((3 : Int32) &&& 31)))]) [0, 2] rfl ?_
      exact g_X6_addBit_33 hE hz _ _ _ h
    · replace h := h.2 hc4
      refine g_aloadn (k0 := 0) (q := 21) dX6_addBit_20 rfl rfl rfl ?_
      refine g_get (v := .int (M.1 9 2)) (q := 24) fg_X6_19_9 rfl dX6_addBit_21 rfl ?_
      refine g_goto (tgt := 33) dX6_addBit_24 rfl ?_
      refine g_lv (lv' := [(0, .ref (eA E 9)), (2, .int ((M.1 9 1) >>> ((3 : Int32) &&& 31)))]) [0, 2] rfl ?_
      exact g_X6_addBit_33 hE hz _ _ _ h
  · replace h := h.2 hc5
    exact g_vret hz rfl dX6_addBit_13 h
set_option maxHeartbeats 4000000 in
set_option maxRecDepth 100000 in
theorem g_X6_addMark_7 {x : GX} {E : EX} (hE : EH E) {Q : Mem → Prop} (hz : ZU x E Q) : ∀ (n : Nat) (v1 : Int32) (M : Mem), P_Sender_addMark_7 Q n v1 M → G x E mX6_addMark 0 0 7 [(0, .ref (eA E 9)), (1, .int v1)] [] M := by
  intro n
  induction n with
  | zero => intro _ _ h; exact h.elim
  | succ n ih =>
    intro v1 M h
    unfold P_Sender_addMark_7 at h
    refine g_iloadn (k0 := 1) (q := 8) dX6_addMark_7 rfl rfl rfl ?_
    refine g_bipush (q := 10) dX6_addMark_8 kb_6 rfl ?_
    refine g_ic_ge (tgt := 24) (q := 13) dX6_addMark_10 rfl rfl (fun hc4 => ?_) (fun hc4 => ?_)
    · replace h := h.1 hc4
      refine g_aloadn (k0 := 0) (q := 25) dX6_addMark_24 rfl rfl rfl ?_
      refine g_iconst (q := 26) dX6_addMark_25 ki_0 rfl ?_
      refine g_callv (q := 29) [.int 0] [] cv_X6_33 rc_9 (c_X6_addBit hE h) rfl rfl ⟨rfl, rfl, Nat.le_of_ble_eq_true rfl, Nat.le_of_ble_eq_true rfl, Nat.zero_le _, Nat.zero_le _⟩ (Nat.le_of_ble_eq_true rfl) dX6_addMark_26 rfl (fun M2 h => ?_)
      exact g_vret hz rfl dX6_addMark_29 h
    · replace h := h.2 hc4
      refine g_aloadn (k0 := 0) (q := 14) dX6_addMark_13 rfl rfl rfl ?_
      refine g_iconst (q := 15) dX6_addMark_14 ki_1 rfl ?_
      refine g_callv (q := 18) [.int 1] [] cv_X6_33 rc_9 (c_X6_addBit hE h) rfl rfl ⟨rfl, rfl, Nat.le_of_ble_eq_true rfl, Nat.le_of_ble_eq_true rfl, Nat.zero_le _, Nat.zero_le _⟩ (Nat.le_of_ble_eq_true rfl) dX6_addMark_15 rfl (fun M3 h => ?_)
      refine g_iinc (lv' := [(0, .ref (eA E 9)), (1, .int (v1 + 1))]) (k0 := 1) (w := (v1 + 1)) (q := 21) [1, 0] dX6_addMark_18 rfl rfl (by decide) rfl rfl ?_
      refine g_goto (tgt := 7) dX6_addMark_21 rfl ?_
      exact ih _ _ h
set_option maxHeartbeats 4000000 in
set_option maxRecDepth 100000 in
theorem c_X6_addMark {E : EX} (hE : EH E) {M : Mem} {Q : Mem → Prop} (h : P_Sender_addMark  M Q) : CU yX6_addMark cX6_addMark 2 none rmX6_addMark E [.ref (eA E 9)] M Q := by
  refine CU.of hE (plainFor_of_name (by decide)) (Nat.le_of_ble_eq_true rfl) (fun x hz => ?_)
  unfold P_Sender_addMark at h
  show G x E mX6_addMark 0 0 0 [(0, .ref (eA E 9))] [] M
  refine g_aloadn (k0 := 0) (q := 1) dX6_addMark_0 rfl rfl rfl ?_
  refine g_iconst (q := 2) dX6_addMark_1 ki_0 rfl ?_
  refine g_callv (q := 5) [.int 0] [] cv_X6_33 rc_9 (c_X6_addBit hE h) rfl rfl ⟨rfl, rfl, Nat.le_of_ble_eq_true rfl, Nat.le_of_ble_eq_true rfl, Nat.zero_le _, Nat.zero_le _⟩ (Nat.le_of_ble_eq_true rfl) dX6_addMark_2 rfl (fun M1 h => ?_)
  refine g_iconst (q := 6) dX6_addMark_5 ki_0 rfl ?_
  refine g_istoren (lv' := [(0, .ref (eA E 9)), (1, .int 0)]) (q := 7) [1, 0] dX6_addMark_6 rfl (by decide) rfl rfl ?_
  obtain ⟨n1, h⟩ := h
  exact g_X6_addMark_7 hE hz n1 _ _ h
set_option maxHeartbeats 4000000 in
set_option maxRecDepth 100000 in
theorem g_X6_addStuffed_33 {x : GX} {E : EX} (hE : EH E) {Q : Mem → Prop} (hz : ZU x E Q) : ∀ (s0 : Int32) (M : Mem), P_Sender_addStuffed_33 Q s0 M → G x E mX6_addStuffed 0 0 33 [(0, .ref (eA E 9))] [.int s0, .ref (eA E 9)] M := by
  intro s0 M h
  unfold P_Sender_addStuffed_33 at h
  refine g_putI (q := 36) fp_X6_22_9 dX6_addStuffed_33 rfl ?_
  refine g_aloadn (k0 := 0) (q := 37) dX6_addStuffed_36 rfl rfl rfl ?_
  refine g_get (v := .int s0) (q := 40) fg_X6_22_9 rfl dX6_addStuffed_37 rfl ?_
  refine g_iconst (q := 41) dX6_addStuffed_40 ki_5 rfl ?_
  refine g_ic_ne (tgt := 54) (q := 44) dX6_addStuffed_41 rfl rfl (fun hc5 => ?_) (fun hc5 => ?_)
  · replace h := h.1 hc5
    exact g_vret hz rfl dX6_addStuffed_54 h
  · replace h := h.2 hc5
    refine g_aloadn (k0 := 0) (q := 45) dX6_addStuffed_44 rfl rfl rfl ?_
    refine g_iconst (q := 46) dX6_addStuffed_45 ki_0 rfl ?_
    refine g_callv (q := 49) [.int 0] [] cv_X6_33 rc_9 (c_X6_addBit hE h) rfl rfl ⟨rfl, rfl, Nat.le_of_ble_eq_true rfl, Nat.le_of_ble_eq_true rfl, Nat.zero_le _, Nat.zero_le _⟩ (Nat.le_of_ble_eq_true rfl) dX6_addStuffed_46 rfl (fun M4 h => ?_)
    refine g_aloadn (k0 := 0) (q := 50) dX6_addStuffed_49 rfl rfl rfl ?_
    refine g_iconst (q := 51) dX6_addStuffed_50 ki_0 rfl ?_
    refine g_putI (q := 54) fp_X6_22_9 dX6_addStuffed_51 rfl ?_
    exact g_vret hz rfl dX6_addStuffed_54 h
set_option maxHeartbeats 4000000 in
set_option maxRecDepth 100000 in
theorem c_X6_addStuffed {E : EX} (hE : EH E) {a1 : Int32} {M : Mem} {Q : Mem → Prop} (h : P_Sender_addStuffed a1 M Q) : CU yX6_addStuffed cX6_addStuffed 2 none rmX6_addStuffed E [.ref (eA E 9), .int a1] M Q := by
  refine CU.of hE (plainFor_of_name (by decide)) (Nat.le_of_ble_eq_true rfl) (fun x hz => ?_)
  unfold P_Sender_addStuffed at h
  show G x E mX6_addStuffed 0 0 0 [(0, .ref (eA E 9)), (1, .int a1)] [] M
  refine g_aloadn (k0 := 0) (q := 1) dX6_addStuffed_0 rfl rfl rfl ?_
  refine g_aloadn (k0 := 0) (q := 2) dX6_addStuffed_1 rfl rfl rfl ?_
  refine g_get (v := .int (M.1 9 4)) (q := 5) fg_X6_26_9 rfl dX6_addStuffed_2 rfl ?_
  refine g_iloadn (k0 := 1) (q := 6) dX6_addStuffed_5 rfl rfl rfl ?_
  refine g_ncalli (q := 9) [.int (M.1 9 4), .int a1] [.ref (eA E 9)] cn_X6_64 (c_X10_checkAfter hE h) rfl rfl ⟨rfl, rfl, Nat.le_of_ble_eq_true rfl, Nat.le_of_ble_eq_true rfl, Nat.zero_le _, Nat.zero_le _⟩ (Nat.le_of_ble_eq_true rfl) dX6_addStuffed_6 rfl (fun r2 M1 h => ?_)
  refine g_putI (q := 12) fp_X6_26_9 dX6_addStuffed_9 rfl ?_
  refine g_aloadn (k0 := 0) (q := 13) dX6_addStuffed_12 rfl rfl rfl ?_
  refine g_iloadn (k0 := 1) (q := 14) dX6_addStuffed_13 rfl rfl rfl ?_
  refine g_callv (q := 17) [.int a1] [] cv_X6_33 rc_9 (c_X6_addBit hE h) rfl rfl ⟨rfl, rfl, Nat.le_of_ble_eq_true rfl, Nat.le_of_ble_eq_true rfl, Nat.zero_le _, Nat.zero_le _⟩ (Nat.le_of_ble_eq_true rfl) dX6_addStuffed_14 rfl (fun M3 h => ?_)
  refine g_aloadn (k0 := 0) (q := 18) dX6_addStuffed_17 rfl rfl rfl ?_
  refine g_iloadn (k0 := 1) (q := 19) dX6_addStuffed_18 rfl rfl rfl ?_
  refine g_iconst (q := 20) dX6_addStuffed_19 ki_1 rfl ?_
  refine g_ic_ne (tgt := 32) (q := 23) dX6_addStuffed_20 rfl rfl (fun hc6 => ?_) (fun hc6 => ?_)
  · replace h := h.1 hc6
    refine g_iconst (q := 33) dX6_addStuffed_32 ki_0 rfl ?_
    refine g_lv (lv' := [(0, .ref (eA E 9))]) [0] rfl ?_
    exact g_X6_addStuffed_33 hE hz _ _ h
  · replace h := h.2 hc6
    refine g_aloadn (k0 := 0) (q := 24) dX6_addStuffed_23 rfl rfl rfl ?_
    refine g_get (v := .int (M3.1 9 3)) (q := 27) fg_X6_22_9 rfl dX6_addStuffed_24 rfl ?_
    refine g_iconst (q := 28) dX6_addStuffed_27 ki_1 rfl ?_
    refine g_iadd (q := 29) dX6_addStuffed_28 rfl ?_
    refine g_goto (tgt := 33) dX6_addStuffed_29 rfl ?_
    refine g_lv (lv' := [(0, .ref (eA E 9))]) [0] rfl ?_
    exact g_X6_addStuffed_33 hE hz _ _ h
set_option maxHeartbeats 4000000 in
set_option maxRecDepth 100000 in
theorem g_X6_addNumber_4 {x : GX} {E : EX} (hE : EH E) {Q : Mem → Prop} (hz : ZU x E Q) : ∀ (n : Nat) (v1 : Int32) (v3 : Int32) (M : Mem), P_Sender_addNumber_4 Q n v1 v3 M → G x E mX6_addNumber 0 0 4 [(0, .ref (eA E 9)), (1, .int v1), (3, .int v3)] [] M := by
  intro n
  induction n with
  | zero => intro _ _ _ h; exact h.elim
  | succ n ih =>
    intro v1 v3 M h
    unfold P_Sender_addNumber_4 at h
    refine g_iloadn (k0 := 2) (q := 5) dX6_addNumber_4 rfl rfl rfl ?_
    refine g_if_lt (tgt := 23) (q := 8) dX6_addNumber_5 rfl rfl (fun hc2 => ?_) (fun hc2 => ?_)
    · replace h := h.1 hc2
      exact g_vret hz rfl dX6_addNumber_23 h
    · replace h := h.2 hc2
      refine g_aloadn (k0 := 0) (q := 9) dX6_addNumber_8 rfl rfl rfl ?_
      refine g_iloadn (k0 := 1) (q := 10) dX6_addNumber_9 rfl rfl rfl ?_
      refine g_iloadn (k0 := 2) (q := 11) dX6_addNumber_10 rfl rfl rfl ?_
      refine g_ishr (q := 12) dX6_addNumber_11 rfl ?_
      refine g_iconst (q := 13) dX6_addNumber_12 ki_1 rfl ?_
      refine g_iand (q := 14) dX6_addNumber_13 rfl ?_
      refine g_callv (q := 17) [.int ((v1 >>> (v3 &&& 31)) &&& 1)] [] cv_X6_61 rc_9 (c_X6_addStuffed hE h) rfl rfl ⟨rfl, rfl, Nat.le_of_ble_eq_true rfl, Nat.le_of_ble_eq_true rfl, Nat.zero_le _, Nat.zero_le _⟩ (Nat.le_of_ble_eq_true rfl) dX6_addNumber_14 rfl (fun M1 h => ?_)
      refine g_iinc (lv' := [(0, .ref (eA E 9)), (1, .int v1), (3, .int (v3 + (-1)))]) (k0 := 2) (w := (v3 + (-1))) (q := 20) [1, 2, 0] dX6_addNumber_17 rfl rfl (by decide) rfl rfl ?_
      refine g_goto (tgt := 4) dX6_addNumber_20 rfl ?_
      exact ih _ _ _ h
set_option maxHeartbeats 4000000 in
set_option maxRecDepth 100000 in
theorem c_X6_addNumber {E : EX} (hE : EH E) {a1 : Int32} {a2 : Int32} {M : Mem} {Q : Mem → Prop} (h : P_Sender_addNumber a1 a2 M Q) : CU yX6_addNumber cX6_addNumber 4 none rmX6_addNumber E [.ref (eA E 9), .int a1, .int a2] M Q := by
  refine CU.of hE (plainFor_of_name (by decide)) (Nat.le_of_ble_eq_true rfl) (fun x hz => ?_)
  unfold P_Sender_addNumber at h
  show G x E mX6_addNumber 0 0 0 [(0, .ref (eA E 9)), (1, .int a1), (2, .int a2)] [] M
  refine g_iloadn (k0 := 2) (q := 1) dX6_addNumber_0 rfl rfl rfl ?_
  refine g_iconst (q := 2) dX6_addNumber_1 ki_1 rfl ?_
  refine g_isub (q := 3) dX6_addNumber_2 rfl ?_
  refine g_istoren (lv' := [(0, .ref (eA E 9)), (1, .int a1), (2, .int a2), (3, .int (a2 - 1))]) (q := 4) [1, 2, 3, 0] dX6_addNumber_3 rfl (by decide) rfl rfl ?_
  refine g_lv (lv' := [(0, .ref (eA E 9)), (1, .int a1), (3, .int (a2 - 1))]) [0, 1, 3] rfl ?_
  obtain ⟨n1, h⟩ := h
  exact g_X6_addNumber_4 hE hz n1 _ _ _ h
set_option maxHeartbeats 4000000 in
set_option maxRecDepth 100000 in
theorem g_X6_tell_95 {x : GX} {E : EX} (hE : EH E) {Q : Mem → Prop} (hz : ZU x E Q) : ∀ (n : Nat) (v2 : Int32) (M : Mem), P_Sender_tell_95 Q n v2 M → G x E mX6_tell 0 0 95 [(0, .ref (eA E 9)), (2, .int v2)] [] M := by
  intro n
  induction n with
  | zero => intro _ _ h; exact h.elim
  | succ n ih =>
    intro v2 M h
    unfold P_Sender_tell_95 at h
    refine g_iloadn (k0 := 1) (q := 96) dX6_tell_95 rfl rfl rfl ?_
    refine g_bipush (q := 98) dX6_tell_96 kb_8 rfl ?_
    refine g_ic_ge (tgt := 122) (q := 101) dX6_tell_98 rfl rfl (fun hc13 => ?_) (fun hc13 => ?_)
    · replace h := h.1 hc13
      exact g_vret hz rfl dX6_tell_122 h
    · replace h := h.2 hc13
      refine g_aloadn (k0 := 0) (q := 102) dX6_tell_101 rfl rfl rfl ?_
      refine g_get (v := .int (M.1 9 1)) (q := 105) fg_X6_15_9 rfl dX6_tell_102 rfl ?_
      refine g_bipush (q := 107) dX6_tell_105 kb_7 rfl ?_
      refine g_iand (q := 108) dX6_tell_107 rfl ?_
      refine g_if_eq (tgt := 122) (q := 111) dX6_tell_108 rfl rfl (fun hc12 => ?_) (fun hc12 => ?_)
      · replace h := h.1 hc12
        exact g_vret hz rfl dX6_tell_122 h
      · replace h := h.2 hc12
        refine g_aloadn (k0 := 0) (q := 112) dX6_tell_111 rfl rfl rfl ?_
        refine g_iconst (q := 113) dX6_tell_112 ki_0 rfl ?_
        refine g_callv (q := 116) [.int 0] [] cv_X6_33 rc_9 (c_X6_addBit hE h) rfl rfl ⟨rfl, rfl, Nat.le_of_ble_eq_true rfl, Nat.le_of_ble_eq_true rfl, Nat.zero_le _, Nat.zero_le _⟩ (Nat.le_of_ble_eq_true rfl) dX6_tell_113 rfl (fun M11 h => ?_)
        refine g_iinc (lv' := [(0, .ref (eA E 9)), (2, .int (v2 + 1))]) (k0 := 1) (w := (v2 + 1)) (q := 119) [1, 0] dX6_tell_116 rfl rfl (by decide) rfl rfl ?_
        refine g_goto (tgt := 95) dX6_tell_119 rfl ?_
        exact ih _ _ h
set_option maxHeartbeats 4000000 in
set_option maxRecDepth 100000 in
theorem g_X6_tell_51 {x : GX} {E : EX} (hE : EH E) {Q : Mem → Prop} (hz : ZU x E Q) : ∀ (n : Nat) (v2 : Int32) (M : Mem), P_Sender_tell_51 Q n v2 M → G x E mX6_tell 0 0 51 [(0, .ref (eA E 9)), (1, .ref (eA E 7)), (2, .int v2)] [] M := by
  intro n
  induction n with
  | zero => intro _ _ h; exact h.elim
  | succ n ih =>
    intro v2 M h
    unfold P_Sender_tell_51 at h
    refine g_iloadn (k0 := 2) (q := 52) dX6_tell_51 rfl rfl rfl ?_
    refine g_iconst (q := 53) dX6_tell_52 ki_4 rfl ?_
    refine g_ic_ge (tgt := 76) (q := 56) dX6_tell_53 rfl rfl (fun hc20 => ?_) (fun hc20 => ?_)
    · replace h := h.1 hc20
      refine g_aloadn (k0 := 0) (q := 77) dX6_tell_76 rfl rfl rfl ?_
      refine g_aloadn (k0 := 0) (q := 78) dX6_tell_77 rfl rfl rfl ?_
      refine g_get (v := .int (M.1 9 4)) (q := 81) fg_X6_26_9 rfl dX6_tell_78 rfl ?_
      refine g_ldc (q := 83) dX6_tell_81 wm_89 rfl ?_
      refine g_ixor (q := 84) dX6_tell_83 rfl ?_
      refine g_bipush (q := 86) dX6_tell_84 kb_16 rfl ?_
      refine g_callv (q := 89) [.int ((M.1 9 4) ^^^ 65535), .int 16] [] cv_X6_45 rc_9 (c_X6_addNumber hE h) rfl rfl ⟨rfl, rfl, Nat.le_of_ble_eq_true rfl, Nat.le_of_ble_eq_true rfl, Nat.zero_le _, Nat.zero_le _⟩ (Nat.le_of_ble_eq_true rfl) dX6_tell_86 rfl (fun M9 h => ?_)
      refine g_aloadn (k0 := 0) (q := 90) dX6_tell_89 rfl rfl rfl ?_
      refine g_callv (q := 93) [] [] cv_X6_37 rc_9 (c_X6_addMark hE h) rfl rfl ⟨rfl, rfl, Nat.le_of_ble_eq_true rfl, Nat.le_of_ble_eq_true rfl, Nat.zero_le _, Nat.zero_le _⟩ (Nat.le_of_ble_eq_true rfl) dX6_tell_90 rfl (fun M10 h => ?_)
      refine g_iconst (q := 94) dX6_tell_93 ki_0 rfl ?_
      refine g_istoren (lv' := [(0, .ref (eA E 9)), (1, .ref (eA E 7)), (2, .int 0)]) (q := 95) [1, 2, 0] dX6_tell_94 rfl (by decide) rfl rfl ?_
      refine g_lv (lv' := [(0, .ref (eA E 9)), (2, .int 0)]) [0, 2] rfl ?_
      obtain ⟨n1, h⟩ := h
      exact g_X6_tell_95 hE hz n1 _ _ h
    · replace h := h.2 hc20
      refine g_aloadn (k0 := 0) (q := 57) dX6_tell_56 rfl rfl rfl ?_
      refine g_aloadn (k0 := 1) (q := 58) dX6_tell_57 rfl rfl rfl ?_
      refine g_iloadn (k0 := 2) (q := 59) dX6_tell_58 rfl rfl rfl ?_
      refine g_calli (q := 62) [.int v2] [.ref (eA E 9)] cv_X6_52 rc_7 (c_X8_number hE h) rfl rfl ⟨rfl, rfl, Nat.le_of_ble_eq_true rfl, Nat.le_of_ble_eq_true rfl, Nat.zero_le _, Nat.zero_le _⟩ (Nat.le_of_ble_eq_true rfl) dX6_tell_59 rfl (fun r16 M15 h => ?_)
      refine g_aloadn (k0 := 1) (q := 63) dX6_tell_62 rfl rfl rfl ?_
      refine g_iloadn (k0 := 2) (q := 64) dX6_tell_63 rfl rfl rfl ?_
      refine g_calli (q := 67) [.int v2] [.int r16, .ref (eA E 9)] cv_X6_56 rc_7 (c_X8_width hE h) rfl rfl ⟨rfl, rfl, Nat.le_of_ble_eq_true rfl, Nat.le_of_ble_eq_true rfl, Nat.zero_le _, Nat.zero_le _⟩ (Nat.le_of_ble_eq_true rfl) dX6_tell_64 rfl (fun r18 M17 h => ?_)
      refine g_callv (q := 70) [.int r16, .int r18] [] cv_X6_45 rc_9 (c_X6_addNumber hE h) rfl rfl ⟨rfl, rfl, Nat.le_of_ble_eq_true rfl, Nat.le_of_ble_eq_true rfl, Nat.zero_le _, Nat.zero_le _⟩ (Nat.le_of_ble_eq_true rfl) dX6_tell_67 rfl (fun M19 h => ?_)
      refine g_iinc (lv' := [(0, .ref (eA E 9)), (1, .ref (eA E 7)), (2, .int (v2 + 1))]) (k0 := 2) (w := (v2 + 1)) (q := 73) [1, 2, 0] dX6_tell_70 rfl rfl (by decide) rfl rfl ?_
      refine g_goto (tgt := 51) dX6_tell_73 rfl ?_
      exact ih _ _ h
set_option maxHeartbeats 4000000 in
set_option maxRecDepth 100000 in
theorem c_X6_tell {E : EX} (hE : EH E) {M : Mem} {Q : Mem → Prop} (h : P_Sender_tell  M Q) : CU yX6_tell cX6_tell 3 none rmX6_tell E [.ref (eA E 9), .ref (eA E 7)] M Q := by
  refine CU.of hE (plainFor_of_name (by decide)) (Nat.le_of_ble_eq_true rfl) (fun x hz => ?_)
  unfold P_Sender_tell at h
  show G x E mX6_tell 0 0 0 [(0, .ref (eA E 9)), (1, .ref (eA E 7))] [] M
  refine g_aloadn (k0 := 0) (q := 1) dX6_tell_0 rfl rfl rfl ?_
  refine g_iconst (q := 2) dX6_tell_1 ki_0 rfl ?_
  refine g_putI (q := 5) fp_X6_15_9 dX6_tell_2 rfl ?_
  refine g_aloadn (k0 := 0) (q := 6) dX6_tell_5 rfl rfl rfl ?_
  refine g_iconst (q := 7) dX6_tell_6 ki_0 rfl ?_
  refine g_putI (q := 10) fp_X6_19_9 dX6_tell_7 rfl ?_
  refine g_aloadn (k0 := 0) (q := 11) dX6_tell_10 rfl rfl rfl ?_
  refine g_iconst (q := 12) dX6_tell_11 ki_0 rfl ?_
  refine g_callv (q := 15) [.int 0] [] cv_X6_33 rc_9 (c_X6_addBit hE h) rfl rfl ⟨rfl, rfl, Nat.le_of_ble_eq_true rfl, Nat.le_of_ble_eq_true rfl, Nat.zero_le _, Nat.zero_le _⟩ (Nat.le_of_ble_eq_true rfl) dX6_tell_12 rfl (fun M1 h => ?_)
  refine g_aloadn (k0 := 0) (q := 16) dX6_tell_15 rfl rfl rfl ?_
  refine g_callv (q := 19) [] [] cv_X6_37 rc_9 (c_X6_addMark hE h) rfl rfl ⟨rfl, rfl, Nat.le_of_ble_eq_true rfl, Nat.le_of_ble_eq_true rfl, Nat.zero_le _, Nat.zero_le _⟩ (Nat.le_of_ble_eq_true rfl) dX6_tell_16 rfl (fun M2 h => ?_)
  refine g_aloadn (k0 := 0) (q := 20) dX6_tell_19 rfl rfl rfl ?_
  refine g_iconst (q := 21) dX6_tell_20 ki_0 rfl ?_
  refine g_putI (q := 24) fp_X6_22_9 dX6_tell_21 rfl ?_
  refine g_aloadn (k0 := 0) (q := 25) dX6_tell_24 rfl rfl rfl ?_
  refine g_ldc (q := 27) dX6_tell_25 wm_89 rfl ?_
  refine g_putI (q := 30) fp_X6_26_9 dX6_tell_27 rfl ?_
  refine g_aloadn (k0 := 0) (q := 31) dX6_tell_30 rfl rfl rfl ?_
  refine g_aloadn (k0 := 1) (q := 32) dX6_tell_31 rfl rfl rfl ?_
  refine g_calli (q := 35) [] [.ref (eA E 9)] cv_X6_40 rc_7 (c_X8_kind hE h) rfl rfl ⟨rfl, rfl, Nat.le_of_ble_eq_true rfl, Nat.le_of_ble_eq_true rfl, Nat.zero_le _, Nat.zero_le _⟩ (Nat.le_of_ble_eq_true rfl) dX6_tell_32 rfl (fun r4 M3 h => ?_)
  refine g_iconst (q := 36) dX6_tell_35 ki_4 rfl ?_
  refine g_callv (q := 39) [.int r4, .int 4] [] cv_X6_45 rc_9 (c_X6_addNumber hE h) rfl rfl ⟨rfl, rfl, Nat.le_of_ble_eq_true rfl, Nat.le_of_ble_eq_true rfl, Nat.zero_le _, Nat.zero_le _⟩ (Nat.le_of_ble_eq_true rfl) dX6_tell_36 rfl (fun M5 h => ?_)
  refine g_aloadn (k0 := 0) (q := 40) dX6_tell_39 rfl rfl rfl ?_
  refine g_aloadn (k0 := 1) (q := 41) dX6_tell_40 rfl rfl rfl ?_
  refine g_calli (q := 44) [] [.ref (eA E 9)] cv_X6_49 rc_7 (c_X8_ship hE h) rfl rfl ⟨rfl, rfl, Nat.le_of_ble_eq_true rfl, Nat.le_of_ble_eq_true rfl, Nat.zero_le _, Nat.zero_le _⟩ (Nat.le_of_ble_eq_true rfl) dX6_tell_41 rfl (fun r7 M6 h => ?_)
  refine g_bipush (q := 46) dX6_tell_44 kb_20 rfl ?_
  refine g_callv (q := 49) [.int r7, .int 20] [] cv_X6_45 rc_9 (c_X6_addNumber hE h) rfl rfl ⟨rfl, rfl, Nat.le_of_ble_eq_true rfl, Nat.le_of_ble_eq_true rfl, Nat.zero_le _, Nat.zero_le _⟩ (Nat.le_of_ble_eq_true rfl) dX6_tell_46 rfl (fun M8 h => ?_)
  refine g_iconst (q := 50) dX6_tell_49 ki_0 rfl ?_
  refine g_istoren (lv' := [(0, .ref (eA E 9)), (1, .ref (eA E 7)), (2, .int 0)]) (q := 51) [1, 2, 0] dX6_tell_50 rfl (by decide) rfl rfl ?_
  obtain ⟨n1, h⟩ := h
  exact g_X6_tell_51 hE hz n1 _ _ h
set_option maxHeartbeats 4000000 in
set_option maxRecDepth 100000 in
theorem c_X6_bytes {E : EX} (hE : EH E) {M : Mem} {Q : Int32 → Mem → Prop} (h : P_Sender_bytes  M Q) : CI yX6_bytes cX6_bytes 1 (some .int) rmX6_bytes E [.ref (eA E 9)] M Q := by
  refine CI.of hE (plainFor_of_name (by decide)) (Nat.le_of_ble_eq_true rfl) (fun x hz => ?_)
  unfold P_Sender_bytes at h
  show G x E mX6_bytes 0 0 0 [(0, .ref (eA E 9))] [] M
  refine g_aloadn (k0 := 0) (q := 1) dX6_bytes_0 rfl rfl rfl ?_
  refine g_get (v := .int (M.1 9 1)) (q := 4) fg_X6_15_9 rfl dX6_bytes_1 rfl ?_
  refine g_iconst (q := 5) dX6_bytes_4 ki_3 rfl ?_
  refine g_ishr (q := 6) dX6_bytes_5 rfl ?_
  exact g_iret hz rfl dX6_bytes_6 h
set_option maxHeartbeats 4000000 in
set_option maxRecDepth 100000 in
theorem c_X10_build {E : EX} (hE : EH E) {a1 : Int32} {a2 : Int32} {a3 : Int32} {a4 : Int32} {a5 : Int32} {a6 : Int32} {M : Mem} {Q : Int32 → Mem → Prop} (h : P_Sv_build a1 a2 a3 a4 a5 a6 M Q) : CI yX10_build cX10_build 7 (some .int) rmX10_build E [.ref (eA E 0), .int a1, .int a2, .int a3, .int a4, .int a5, .int a6] M Q := by
  refine CI.of hE (plainFor_of_name (by decide)) (Nat.le_of_ble_eq_true rfl) (fun x hz => ?_)
  unfold P_Sv_build at h
  show G x E mX10_build 0 0 0 [(0, .ref (eA E 0)), (1, .int a1), (2, .int a2), (3, .int a3), (4, .int a4), (5, .int a5), (6, .int a6)] [] M
  refine g_aloadn (k0 := 0) (q := 1) dX10_build_0 rfl rfl rfl ?_
  refine g_get (v := .ref (eA E 7)) (q := 4) fg_X10_29_0 rfl dX10_build_1 rfl ?_
  refine g_iloadn (k0 := 1) (q := 5) dX10_build_4 rfl rfl rfl ?_
  refine g_iloadn (k0 := 2) (q := 6) dX10_build_5 rfl rfl rfl ?_
  refine g_iloadn (k0 := 3) (q := 7) dX10_build_6 rfl rfl rfl ?_
  refine g_iload (k0 := 4) (q := 9) dX10_build_7 rfl rfl ?_
  refine g_iload (k0 := 5) (q := 11) dX10_build_9 rfl rfl ?_
  refine g_iload (k0 := 6) (q := 13) dX10_build_11 rfl rfl ?_
  refine g_calli (q := 16) [.int a1, .int a2, .int a3, .int a4, .int a5, .int a6] [] cv_X10_113 rc_7 (c_X8_compose hE h) rfl rfl ⟨rfl, rfl, Nat.le_of_ble_eq_true rfl, Nat.le_of_ble_eq_true rfl, Nat.zero_le _, Nat.zero_le _⟩ (Nat.le_of_ble_eq_true rfl) dX10_build_13 rfl (fun r2 M1 h => ?_)
  obtain ⟨hb_r2, h⟩ := h
  refine g_if_ne (tgt := 21) (q := 19) dX10_build_16 rfl rfl (fun hc6 => ?_) (fun hc6 => ?_)
  · replace h := h.1 hc6
    refine g_aloadn (k0 := 0) (q := 22) dX10_build_21 rfl rfl rfl ?_
    refine g_get (v := .ref (eA E 9)) (q := 25) fg_X10_36_0 rfl dX10_build_22 rfl ?_
    refine g_aloadn (k0 := 0) (q := 26) dX10_build_25 rfl rfl rfl ?_
    refine g_get (v := .ref (eA E 7)) (q := 29) fg_X10_29_0 rfl dX10_build_26 rfl ?_
    refine g_callv (q := 32) [.ref (eA E 7)] [] cv_X10_117 rc_9 (c_X6_tell hE h) rfl rfl ⟨rfl, rfl, Nat.le_of_ble_eq_true rfl, Nat.le_of_ble_eq_true rfl, Nat.zero_le _, Nat.zero_le _⟩ (Nat.le_of_ble_eq_true rfl) dX10_build_29 rfl (fun M3 h => ?_)
    refine g_aloadn (k0 := 0) (q := 33) dX10_build_32 rfl rfl rfl ?_
    refine g_get (v := .ref (eA E 9)) (q := 36) fg_X10_36_0 rfl dX10_build_33 rfl ?_
    refine g_calli (q := 39) [] [] cv_X10_121 rc_9 (c_X6_bytes hE h) rfl rfl ⟨rfl, rfl, Nat.le_of_ble_eq_true rfl, Nat.le_of_ble_eq_true rfl, Nat.zero_le _, Nat.zero_le _⟩ (Nat.le_of_ble_eq_true rfl) dX10_build_36 rfl (fun r5 M4 h => ?_)
    exact g_iret hz rfl dX10_build_39 h
  · replace h := h.2 hc6
    refine g_iconst (q := 20) dX10_build_19 ki_m1 rfl ?_
    exact g_iret hz rfl dX10_build_20 h
set_option maxHeartbeats 4000000 in
set_option maxRecDepth 100000 in
theorem g_X2_howMany_5 {x : GX} {E : EX} (hE : EH E) {Q : Int32 → Mem → Prop} (hz : ZI x E Q) : ∀ (n : Nat) (v1 : Int32) (v2 : Int32) (v3 : Int32) (v4 : Int32) (M : Mem), P_Log_howMany_5 Q n v1 v2 v3 v4 M → G x E mX2_howMany 0 0 5 [(0, .ref (eA E 11)), (1, .int v1), (2, .int v2), (3, .int v3), (4, .int v4)] [] M := by
  intro n
  induction n with
  | zero => intro _ _ _ _ _ h; exact h.elim
  | succ n ih =>
    intro v1 v2 v3 v4 M h
    unfold P_Log_howMany_5 at h
    refine g_iload (k0 := 4) (q := 7) dX2_howMany_5 rfl rfl ?_
    refine g_aloadn (k0 := 0) (q := 8) dX2_howMany_7 rfl rfl rfl ?_
    refine g_get (v := .int (M.1 11 1)) (q := 11) fg_X2_15_11 rfl dX2_howMany_8 rfl ?_
    refine g_ic_ge (tgt := 34) (q := 14) dX2_howMany_11 rfl rfl (fun hc4 => ?_) (fun hc4 => ?_)
    · replace h := h.1 hc4
      refine g_iloadn (k0 := 3) (q := 35) dX2_howMany_34 rfl rfl rfl ?_
      exact g_iret hz rfl dX2_howMany_35 h
    · replace h := h.2 hc4
      refine g_aloadn (k0 := 0) (q := 15) dX2_howMany_14 rfl rfl rfl ?_
      refine g_iload (k0 := 4) (q := 17) dX2_howMany_15 rfl rfl ?_
      refine g_iloadn (k0 := 1) (q := 18) dX2_howMany_17 rfl rfl rfl ?_
      refine g_iloadn (k0 := 2) (q := 19) dX2_howMany_18 rfl rfl rfl ?_
      refine g_calli (q := 22) [.int v4, .int v1, .int v2] [] cv_X2_40 rc_11 (c_X2_isOf hE h) rfl rfl ⟨rfl, rfl, Nat.le_of_ble_eq_true rfl, Nat.le_of_ble_eq_true rfl, Nat.zero_le _, Nat.zero_le _⟩ (Nat.le_of_ble_eq_true rfl) dX2_howMany_19 rfl (fun r2 M1 h => ?_)
      obtain ⟨hb_r2, h⟩ := h
      refine g_if_eq (tgt := 28) (q := 25) dX2_howMany_22 rfl rfl (fun hc3 => ?_) (fun hc3 => ?_)
      · replace h := h.1 hc3
        refine g_iinc (lv' := [(0, .ref (eA E 11)), (1, .int v1), (2, .int v2), (3, .int v3), (4, .int (v4 + 1))]) (k0 := 4) (w := (v4 + 1)) (q := 31) [1, 2, 3, 4, 0] dX2_howMany_28 rfl rfl (by decide) rfl rfl ?_
        refine g_goto (tgt := 5) dX2_howMany_31 rfl ?_
        exact ih _ _ _ _ _ h
      · replace h := h.2 hc3
        refine g_iinc (lv' := [(0, .ref (eA E 11)), (1, .int v1), (2, .int v2), (3, .int (v3 + 1)), (4, .int v4)]) (k0 := 3) (w := (v3 + 1)) (q := 28) [1, 2, 3, 0, 4] dX2_howMany_25 rfl rfl (by decide) rfl rfl ?_
        refine g_iinc (lv' := [(0, .ref (eA E 11)), (1, .int v1), (2, .int v2), (3, .int (v3 + 1)), (4, .int (v4 + 1))]) (k0 := 4) (w := (v4 + 1)) (q := 31) [1, 2, 3, 4, 0] dX2_howMany_28 rfl rfl (by decide) rfl rfl ?_
        refine g_goto (tgt := 5) dX2_howMany_31 rfl ?_
        exact ih _ _ _ _ _ h
set_option maxHeartbeats 4000000 in
set_option maxRecDepth 100000 in
theorem c_X2_howMany {E : EX} (hE : EH E) {a1 : Int32} {a2 : Int32} {M : Mem} {Q : Int32 → Mem → Prop} (h : P_Log_howMany a1 a2 M Q) : CI yX2_howMany cX2_howMany 5 (some .int) rmX2_howMany E [.ref (eA E 11), .int a1, .int a2] M Q := by
  refine CI.of hE (plainFor_of_name (by decide)) (Nat.le_of_ble_eq_true rfl) (fun x hz => ?_)
  unfold P_Log_howMany at h
  show G x E mX2_howMany 0 0 0 [(0, .ref (eA E 11)), (1, .int a1), (2, .int a2)] [] M
  refine g_iconst (q := 1) dX2_howMany_0 ki_0 rfl ?_
  refine g_istoren (lv' := [(0, .ref (eA E 11)), (1, .int a1), (2, .int a2), (3, .int 0)]) (q := 2) [1, 2, 3, 0] dX2_howMany_1 rfl (by decide) rfl rfl ?_
  refine g_iconst (q := 3) dX2_howMany_2 ki_0 rfl ?_
  refine g_istore (lv' := [(0, .ref (eA E 11)), (1, .int a1), (2, .int a2), (3, .int 0), (4, .int 0)]) (q := 5) [1, 2, 3, 4, 0] dX2_howMany_3 (by decide) rfl rfl ?_
  obtain ⟨n1, h⟩ := h
  exact g_X2_howMany_5 hE hz n1 _ _ _ _ _ h
set_option maxHeartbeats 4000000 in
set_option maxRecDepth 100000 in
theorem c_X2_entries {E : EX} (hE : EH E) {M : Mem} {Q : Int32 → Mem → Prop} (h : P_Log_entries  M Q) : CI yX2_entries cX2_entries 1 (some .int) rmX2_entries E [.ref (eA E 11)] M Q := by
  refine CI.of hE (plainFor_of_name (by decide)) (Nat.le_of_ble_eq_true rfl) (fun x hz => ?_)
  unfold P_Log_entries at h
  show G x E mX2_entries 0 0 0 [(0, .ref (eA E 11))] [] M
  refine g_aloadn (k0 := 0) (q := 1) dX2_entries_0 rfl rfl rfl ?_
  refine g_get (v := .int (M.1 11 1)) (q := 4) fg_X2_15_11 rfl dX2_entries_1 rfl ?_
  exact g_iret hz rfl dX2_entries_4 h
set_option maxHeartbeats 4000000 in
set_option maxRecDepth 100000 in
theorem c_J6_compare_7cf53 {E : EX} (hE : EH E) {a1 : Int32} {a2 : Int32} {M : Mem} {Q : Int32 → Mem → Prop} (h : P_J6_compare_7cf53 a1 a2 M Q) : CI yJ6_compare_7cf53 cJ6_compare_7cf53 2 (some .int) rmJ6_compare_7cf53 E [.int a1, .int a2] M Q := by
  refine CI.of hE (plainFor_of_name (by decide)) (Nat.le_of_ble_eq_true rfl) (fun x hz => ?_)
  unfold P_J6_compare_7cf53 at h
  show G x E mJ6_compare_7cf53 0 0 0 [(0, .int a1), (1, .int a2)] [] M
  refine g_iloadn (k0 := 0) (q := 1) dJ6_compare_7cf53_0 rfl rfl rfl ?_
  refine g_iloadn (k0 := 1) (q := 2) dJ6_compare_7cf53_1 rfl rfl rfl ?_
  refine g_ic_ge (tgt := 9) (q := 5) dJ6_compare_7cf53_2 rfl rfl (fun hc2 => ?_) (fun hc2 => ?_)
  · replace h := h.1 hc2
    refine g_iloadn (k0 := 0) (q := 10) dJ6_compare_7cf53_9 rfl rfl rfl ?_
    refine g_iloadn (k0 := 1) (q := 11) dJ6_compare_7cf53_10 rfl rfl rfl ?_
    refine g_ic_ne (tgt := 18) (q := 14) dJ6_compare_7cf53_11 rfl rfl (fun hc1 => ?_) (fun hc1 => ?_)
    · replace h := h.1 hc1
      refine g_iconst (q := 19) dJ6_compare_7cf53_18 ki_1 rfl ?_
      exact g_iret hz rfl dJ6_compare_7cf53_19 h
    · replace h := h.2 hc1
      refine g_iconst (q := 15) dJ6_compare_7cf53_14 ki_0 rfl ?_
      refine g_goto (tgt := 19) dJ6_compare_7cf53_15 rfl ?_
      exact g_iret hz rfl dJ6_compare_7cf53_19 h
  · replace h := h.2 hc2
    refine g_iconst (q := 6) dJ6_compare_7cf53_5 ki_m1 rfl ?_
    refine g_goto (tgt := 19) dJ6_compare_7cf53_6 rfl ?_
    exact g_iret hz rfl dJ6_compare_7cf53_19 h
set_option maxHeartbeats 4000000 in
set_option maxRecDepth 100000 in
theorem g_X5_isAhead_2 {x : GX} {E : EX} (hE : EH E) {Q : Int32 → Mem → Prop} (hz : ZI x E (fun r M => nb r ∧ Q r M)) : ∀ (n : Nat) (v1 : Int32) (v2 : Int32) (v3 : Int32) (M : Mem), P_Parting_isAhead_2 Q n v1 v2 v3 M → G x E mX5_isAhead 0 0 2 [(0, .ref (eA E 11)), (1, .int v1), (2, .int v2), (3, .int v3)] [] M := by
  intro n
  induction n with
  | zero => intro _ _ _ _ h; exact h.elim
  | succ n ih =>
    intro v1 v2 v3 M h
    unfold P_Parting_isAhead_2 at h
    refine g_iloadn (k0 := 3) (q := 3) dX5_isAhead_2 rfl rfl rfl ?_
    refine g_iconst (q := 4) dX5_isAhead_3 ki_5 rfl ?_
    refine g_ic_gt (tgt := 46) (q := 7) dX5_isAhead_4 rfl rfl (fun hc9 => ?_) (fun hc9 => ?_)
    · replace h := h.1 hc9
      refine g_iconst (q := 47) dX5_isAhead_46 ki_0 rfl ?_
      exact g_zret hz rfl rfl dX5_isAhead_47 h
    · replace h := h.2 hc9
      refine g_aloadn (k0 := 0) (q := 8) dX5_isAhead_7 rfl rfl rfl ?_
      refine g_iloadn (k0 := 1) (q := 9) dX5_isAhead_8 rfl rfl rfl ?_
      refine g_iloadn (k0 := 3) (q := 10) dX5_isAhead_9 rfl rfl rfl ?_
      refine g_calli (q := 13) [.int v1, .int v3] [] cv_X5_78 rc_11 (c_X2_cell hE h) rfl rfl ⟨rfl, rfl, Nat.le_of_ble_eq_true rfl, Nat.le_of_ble_eq_true rfl, Nat.zero_le _, Nat.zero_le _⟩ (Nat.le_of_ble_eq_true rfl) dX5_isAhead_10 rfl (fun r2 M1 h => ?_)
      refine g_aloadn (k0 := 0) (q := 14) dX5_isAhead_13 rfl rfl rfl ?_
      refine g_iloadn (k0 := 2) (q := 15) dX5_isAhead_14 rfl rfl rfl ?_
      refine g_iloadn (k0 := 3) (q := 16) dX5_isAhead_15 rfl rfl rfl ?_
      refine g_calli (q := 19) [.int v2, .int v3] [.int r2] cv_X5_78 rc_11 (c_X2_cell hE h) rfl rfl ⟨rfl, rfl, Nat.le_of_ble_eq_true rfl, Nat.le_of_ble_eq_true rfl, Nat.zero_le _, Nat.zero_le _⟩ (Nat.le_of_ble_eq_true rfl) dX5_isAhead_16 rfl (fun r4 M3 h => ?_)
      refine g_scalli (q := 22) [.int r2, .int r4] [] cs_X5_81 (c_J6_compare_7cf53 hE h) rfl rfl ⟨rfl, rfl, Nat.le_of_ble_eq_true rfl, Nat.le_of_ble_eq_true rfl, Nat.zero_le _, Nat.zero_le _⟩ (Nat.le_of_ble_eq_true rfl) dX5_isAhead_19 rfl (fun r6 M5 h => ?_)
      refine g_istore (lv' := [(0, .ref (eA E 11)), (1, .int v1), (2, .int v2), (3, .int v3), (4, .int r6)]) (q := 24) [1, 2, 3, 4, 0] dX5_isAhead_22 (by decide) rfl rfl ?_
      refine g_iload (k0 := 4) (q := 26) dX5_isAhead_24 rfl rfl ?_
      refine g_if_eq (tgt := 40) (q := 29) dX5_isAhead_26 rfl rfl (fun hc8 => ?_) (fun hc8 => ?_)
      · replace h := h.1 hc8
        refine g_iinc (lv' := [(0, .ref (eA E 11)), (1, .int v1), (2, .int v2), (3, .int (v3 + 1)), (4, .int r6)]) (k0 := 3) (w := (v3 + 1)) (q := 43) [1, 2, 3, 0, 4] dX5_isAhead_40 rfl rfl (by decide) rfl rfl ?_
        refine g_goto (tgt := 2) dX5_isAhead_43 rfl ?_
        refine g_lv (lv' := [(0, .ref (eA E 11)), (1, .int v1), (2, .int v2), (3, .int (v3 + 1))]) [0, 1, 2, 3] rfl ?_
        exact ih _ _ _ _ h
      · replace h := h.2 hc8
        refine g_iload (k0 := 4) (q := 31) dX5_isAhead_29 rfl rfl ?_
        refine g_if_ge (tgt := 38) (q := 34) dX5_isAhead_31 rfl rfl (fun hc7 => ?_) (fun hc7 => ?_)
        · replace h := h.1 hc7
          refine g_iconst (q := 39) dX5_isAhead_38 ki_0 rfl ?_
          exact g_zret hz rfl rfl dX5_isAhead_39 h
        · replace h := h.2 hc7
          refine g_iconst (q := 35) dX5_isAhead_34 ki_1 rfl ?_
          refine g_goto (tgt := 39) dX5_isAhead_35 rfl ?_
          exact g_zret hz rfl rfl dX5_isAhead_39 h
set_option maxHeartbeats 4000000 in
set_option maxRecDepth 100000 in
theorem c_X5_isAhead {E : EX} (hE : EH E) {a2 : Int32} {a3 : Int32} {M : Mem} {Q : Int32 → Mem → Prop} (h : P_Parting_isAhead a2 a3 M Q) : CI yX5_isAhead cX5_isAhead 5 (some .boolean) rmX5_isAhead E [.ref (eA E 11), .int a2, .int a3] M (fun r M => nb r ∧ Q r M) := by
  refine CI.of hE (plainFor_of_name (by decide)) (Nat.le_of_ble_eq_true rfl) (fun x hz => ?_)
  unfold P_Parting_isAhead at h
  show G x E mX5_isAhead 0 0 0 [(0, .ref (eA E 11)), (1, .int a2), (2, .int a3)] [] M
  refine g_iconst (q := 1) dX5_isAhead_0 ki_3 rfl ?_
  refine g_istoren (lv' := [(0, .ref (eA E 11)), (1, .int a2), (2, .int a3), (3, .int 3)]) (q := 2) [1, 2, 3, 0] dX5_isAhead_1 rfl (by decide) rfl rfl ?_
  obtain ⟨n1, h⟩ := h
  exact g_X5_isAhead_2 hE hz n1 _ _ _ _ h
set_option maxHeartbeats 4000000 in
set_option maxRecDepth 100000 in
theorem g_X5_insert_45 {x : GX} {E : EX} (hE : EH E) {Q : Mem → Prop} (hz : ZU x E Q) : ∀ (v2 : Int32) (v3 : Int32) (M : Mem), P_Parting_insert_45 Q v2 v3 M → G x E mX5_insert 0 0 45 [(0, .ref (eA E 20)), (2, .int v2), (3, .int v3)] [] M := by
  intro v2 v3 M h
  unfold P_Parting_insert_45 at h
  refine g_aloadn (k0 := 0) (q := 46) dX5_insert_45 rfl rfl rfl ?_
  refine g_get (v := .ref (eA E 31)) (q := 49) fg_X5_18_20 rfl dX5_insert_46 rfl ?_
  refine g_iloadn (k0 := 2) (q := 50) dX5_insert_49 rfl rfl rfl ?_
  refine g_iloadn (k0 := 1) (q := 51) dX5_insert_50 rfl rfl rfl ?_
  have hv1 := h.1
  replace h := h.2
  refine g_iast (q := 52) ar_31 hv1 dX5_insert_51 rfl ?_
  refine g_aloadn (k0 := 0) (q := 53) dX5_insert_52 rfl rfl rfl ?_
  refine g_dup (q := 54) dX5_insert_53 rfl rfl ?_
  refine g_get (v := .int (M.1 20 4)) (q := 57) fg_X5_28_20 rfl dX5_insert_54 rfl ?_
  refine g_iconst (q := 58) dX5_insert_57 ki_1 rfl ?_
  refine g_iadd (q := 59) dX5_insert_58 rfl ?_
  refine g_putI (q := 62) fp_X5_28_20 dX5_insert_59 rfl ?_
  exact g_vret hz rfl dX5_insert_62 h
set_option maxHeartbeats 4000000 in
set_option maxRecDepth 100000 in
theorem g_X5_insert_5 {x : GX} {E : EX} (hE : EH E) {Q : Mem → Prop} (hz : ZU x E Q) : ∀ (n : Nat) (v2 : Int32) (v3 : Int32) (M : Mem), P_Parting_insert_5 Q n v2 v3 M → G x E mX5_insert 0 0 5 [(0, .ref (eA E 20)), (1, .ref (eA E 11)), (2, .int v2), (3, .int v3)] [] M := by
  intro n
  induction n with
  | zero => intro _ _ _ h; exact h.elim
  | succ n ih =>
    intro v2 v3 M h
    unfold P_Parting_insert_5 at h
    refine g_iloadn (k0 := 3) (q := 6) dX5_insert_5 rfl rfl rfl ?_
    refine g_if_le (tgt := 45) (q := 9) dX5_insert_6 rfl rfl (fun hc7 => ?_) (fun hc7 => ?_)
    · replace h := h.1 hc7
      refine g_lv (lv' := [(0, .ref (eA E 20)), (2, .int v2), (3, .int v3)]) [0, 2, 3] rfl ?_
      exact g_X5_insert_45 hE hz _ _ _ h
    · replace h := h.2 hc7
      refine g_aloadn (k0 := 1) (q := 10) dX5_insert_9 rfl rfl rfl ?_
      refine g_iloadn (k0 := 2) (q := 11) dX5_insert_10 rfl rfl rfl ?_
      refine g_aloadn (k0 := 0) (q := 12) dX5_insert_11 rfl rfl rfl ?_
      refine g_get (v := .ref (eA E 31)) (q := 15) fg_X5_18_20 rfl dX5_insert_12 rfl ?_
      refine g_iloadn (k0 := 3) (q := 16) dX5_insert_15 rfl rfl rfl ?_
      refine g_iconst (q := 17) dX5_insert_16 ki_1 rfl ?_
      refine g_isub (q := 18) dX5_insert_17 rfl ?_
      have hv2 := h.1
      replace h := h.2
      refine g_iald (v := (M.1 31 ((v3 - 1)).toNatClampNeg)) (q := 19) ar_31 hv2 rfl dX5_insert_18 rfl ?_
      refine g_scalli (q := 22) [.ref (eA E 11), .int v2, .int (M.1 31 ((v3 - 1)).toNatClampNeg)] [] cs_X5_74 (c_X5_isAhead hE h) rfl rfl ⟨rfl, rfl, Nat.le_of_ble_eq_true rfl, Nat.le_of_ble_eq_true rfl, Nat.zero_le _, Nat.zero_le _⟩ (Nat.le_of_ble_eq_true rfl) dX5_insert_19 rfl (fun r4 M3 h => ?_)
      obtain ⟨hb_r4, h⟩ := h
      refine g_if_eq (tgt := 45) (q := 25) dX5_insert_22 rfl rfl (fun hc6 => ?_) (fun hc6 => ?_)
      · replace h := h.1 hc6
        refine g_lv (lv' := [(0, .ref (eA E 20)), (2, .int v2), (3, .int v3)]) [0, 2, 3] rfl ?_
        exact g_X5_insert_45 hE hz _ _ _ h
      · replace h := h.2 hc6
        refine g_aloadn (k0 := 0) (q := 26) dX5_insert_25 rfl rfl rfl ?_
        refine g_get (v := .ref (eA E 31)) (q := 29) fg_X5_18_20 rfl dX5_insert_26 rfl ?_
        refine g_iloadn (k0 := 3) (q := 30) dX5_insert_29 rfl rfl rfl ?_
        refine g_aloadn (k0 := 0) (q := 31) dX5_insert_30 rfl rfl rfl ?_
        refine g_get (v := .ref (eA E 31)) (q := 34) fg_X5_18_20 rfl dX5_insert_31 rfl ?_
        refine g_iloadn (k0 := 3) (q := 35) dX5_insert_34 rfl rfl rfl ?_
        refine g_iconst (q := 36) dX5_insert_35 ki_1 rfl ?_
        refine g_isub (q := 37) dX5_insert_36 rfl ?_
        refine g_iald (v := (M3.1 31 ((v3 - 1)).toNatClampNeg)) (q := 38) ar_31 hv2 rfl dX5_insert_37 rfl ?_
        have hv5 := h.1
        replace h := h.2
        refine g_iast (q := 39) ar_31 hv5 dX5_insert_38 rfl ?_
        refine g_iinc (lv' := [(0, .ref (eA E 20)), (1, .ref (eA E 11)), (2, .int v2), (3, .int (v3 + (-1)))]) (k0 := 3) (w := (v3 + (-1))) (q := 42) [1, 2, 3, 0] dX5_insert_39 rfl rfl (by decide) rfl rfl ?_
        refine g_goto (tgt := 5) dX5_insert_42 rfl ?_
        exact ih _ _ _ h
set_option maxHeartbeats 4000000 in
set_option maxRecDepth 100000 in
theorem c_X5_insert {E : EX} (hE : EH E) {a2 : Int32} {M : Mem} {Q : Mem → Prop} (h : P_Parting_insert a2 M Q) : CU yX5_insert cX5_insert 4 none rmX5_insert E [.ref (eA E 20), .ref (eA E 11), .int a2] M Q := by
  refine CU.of hE (plainFor_of_name (by decide)) (Nat.le_of_ble_eq_true rfl) (fun x hz => ?_)
  unfold P_Parting_insert at h
  show G x E mX5_insert 0 0 0 [(0, .ref (eA E 20)), (1, .ref (eA E 11)), (2, .int a2)] [] M
  refine g_aloadn (k0 := 0) (q := 1) dX5_insert_0 rfl rfl rfl ?_
  refine g_get (v := .int (M.1 20 4)) (q := 4) fg_X5_28_20 rfl dX5_insert_1 rfl ?_
  refine g_istoren (lv' := [(0, .ref (eA E 20)), (1, .ref (eA E 11)), (2, .int a2), (3, .int (M.1 20 4))]) (q := 5) [1, 2, 3, 0] dX5_insert_4 rfl (by decide) rfl rfl ?_
  obtain ⟨n1, h⟩ := h
  exact g_X5_insert_5 hE hz n1 _ _ _ h
set_option maxHeartbeats 4000000 in
set_option maxRecDepth 100000 in
theorem g_X5_gather_13 {x : GX} {E : EX} (hE : EH E) {Q : Mem → Prop} (hz : ZU x E Q) : ∀ (n : Nat) (v2 : Int32) (v3 : Int32) (v4 : Int32) (M : Mem), P_Parting_gather_13 Q n v2 v3 v4 M → G x E mX5_gather 0 0 13 [(0, .ref (eA E 20)), (1, .ref (eA E 11)), (2, .int v2), (3, .int v3), (4, .int v4)] [] M := by
  intro n
  induction n with
  | zero => intro _ _ _ _ h; exact h.elim
  | succ n ih =>
    intro v2 v3 v4 M h
    unfold P_Parting_gather_13 at h
    refine g_iload (k0 := 4) (q := 15) dX5_gather_13 rfl rfl ?_
    refine g_iloadn (k0 := 3) (q := 16) dX5_gather_15 rfl rfl rfl ?_
    refine g_ic_ge (tgt := 52) (q := 19) dX5_gather_16 rfl rfl (fun hc8 => ?_) (fun hc8 => ?_)
    · replace h := h.1 hc8
      exact g_vret hz rfl dX5_gather_52 h
    · replace h := h.2 hc8
      refine g_aloadn (k0 := 0) (q := 20) dX5_gather_19 rfl rfl rfl ?_
      refine g_get (v := .int (M.1 20 4)) (q := 23) fg_X5_28_20 rfl dX5_gather_20 rfl ?_
      refine g_bipush (q := 25) dX5_gather_23 kb_16 rfl ?_
      refine g_ic_ge (tgt := 46) (q := 28) dX5_gather_25 rfl rfl (fun hc7 => ?_) (fun hc7 => ?_)
      · replace h := h.1 hc7
        refine g_iinc (lv' := [(0, .ref (eA E 20)), (1, .ref (eA E 11)), (2, .int v2), (3, .int v3), (4, .int (v4 + 1))]) (k0 := 4) (w := (v4 + 1)) (q := 49) [1, 2, 3, 4, 0] dX5_gather_46 rfl rfl (by decide) rfl rfl ?_
        refine g_goto (tgt := 13) dX5_gather_49 rfl ?_
        exact ih _ _ _ _ h
      · replace h := h.2 hc7
        refine g_aloadn (k0 := 1) (q := 29) dX5_gather_28 rfl rfl rfl ?_
        refine g_iload (k0 := 4) (q := 31) dX5_gather_29 rfl rfl ?_
        refine g_iconst (q := 32) dX5_gather_31 ki_1 rfl ?_
        refine g_iloadn (k0 := 2) (q := 33) dX5_gather_32 rfl rfl rfl ?_
        refine g_calli (q := 36) [.int v4, .int 1, .int v2] [] cv_X5_67 rc_11 (c_X2_isOf hE h) rfl rfl ⟨rfl, rfl, Nat.le_of_ble_eq_true rfl, Nat.le_of_ble_eq_true rfl, Nat.zero_le _, Nat.zero_le _⟩ (Nat.le_of_ble_eq_true rfl) dX5_gather_33 rfl (fun r4 M3 h => ?_)
        obtain ⟨hb_r4, h⟩ := h
        refine g_if_eq (tgt := 46) (q := 39) dX5_gather_36 rfl rfl (fun hc6 => ?_) (fun hc6 => ?_)
        · replace h := h.1 hc6
          refine g_iinc (lv' := [(0, .ref (eA E 20)), (1, .ref (eA E 11)), (2, .int v2), (3, .int v3), (4, .int (v4 + 1))]) (k0 := 4) (w := (v4 + 1)) (q := 49) [1, 2, 3, 4, 0] dX5_gather_46 rfl rfl (by decide) rfl rfl ?_
          refine g_goto (tgt := 13) dX5_gather_49 rfl ?_
          exact ih _ _ _ _ h
        · replace h := h.2 hc6
          refine g_aloadn (k0 := 0) (q := 40) dX5_gather_39 rfl rfl rfl ?_
          refine g_aloadn (k0 := 1) (q := 41) dX5_gather_40 rfl rfl rfl ?_
          refine g_iload (k0 := 4) (q := 43) dX5_gather_41 rfl rfl ?_
          refine g_callv (q := 46) [.ref (eA E 11), .int v4] [] cv_X5_71 rc_20 (c_X5_insert hE h) rfl rfl ⟨rfl, rfl, Nat.le_of_ble_eq_true rfl, Nat.le_of_ble_eq_true rfl, Nat.zero_le _, Nat.zero_le _⟩ (Nat.le_of_ble_eq_true rfl) dX5_gather_43 rfl (fun M5 h => ?_)
          refine g_iinc (lv' := [(0, .ref (eA E 20)), (1, .ref (eA E 11)), (2, .int v2), (3, .int v3), (4, .int (v4 + 1))]) (k0 := 4) (w := (v4 + 1)) (q := 49) [1, 2, 3, 4, 0] dX5_gather_46 rfl rfl (by decide) rfl rfl ?_
          refine g_goto (tgt := 13) dX5_gather_49 rfl ?_
          exact ih _ _ _ _ h
set_option maxHeartbeats 4000000 in
set_option maxRecDepth 100000 in
theorem c_X5_gather {E : EX} (hE : EH E) {a2 : Int32} {M : Mem} {Q : Mem → Prop} (h : P_Parting_gather a2 M Q) : CU yX5_gather cX5_gather 5 none rmX5_gather E [.ref (eA E 20), .ref (eA E 11), .int a2] M Q := by
  refine CU.of hE (plainFor_of_name (by decide)) (Nat.le_of_ble_eq_true rfl) (fun x hz => ?_)
  unfold P_Parting_gather at h
  show G x E mX5_gather 0 0 0 [(0, .ref (eA E 20)), (1, .ref (eA E 11)), (2, .int a2)] [] M
  refine g_aloadn (k0 := 0) (q := 1) dX5_gather_0 rfl rfl rfl ?_
  refine g_iconst (q := 2) dX5_gather_1 ki_0 rfl ?_
  refine g_putI (q := 5) fp_X5_28_20 dX5_gather_2 rfl ?_
  refine g_aloadn (k0 := 1) (q := 6) dX5_gather_5 rfl rfl rfl ?_
  refine g_calli (q := 9) [] [] cv_X5_63 rc_11 (c_X2_entries hE h) rfl rfl ⟨rfl, rfl, Nat.le_of_ble_eq_true rfl, Nat.le_of_ble_eq_true rfl, Nat.zero_le _, Nat.zero_le _⟩ (Nat.le_of_ble_eq_true rfl) dX5_gather_6 rfl (fun r2 M1 h => ?_)
  refine g_istoren (lv' := [(0, .ref (eA E 20)), (1, .ref (eA E 11)), (2, .int a2), (3, .int r2)]) (q := 10) [1, 2, 3, 0] dX5_gather_9 rfl (by decide) rfl rfl ?_
  refine g_iconst (q := 11) dX5_gather_10 ki_0 rfl ?_
  refine g_istore (lv' := [(0, .ref (eA E 20)), (1, .ref (eA E 11)), (2, .int a2), (3, .int r2), (4, .int 0)]) (q := 13) [1, 2, 3, 4, 0] dX5_gather_11 (by decide) rfl rfl ?_
  obtain ⟨n1, h⟩ := h
  exact g_X5_gather_13 hE hz n1 _ _ _ _ h
set_option maxHeartbeats 4000000 in
set_option maxRecDepth 100000 in
theorem c_J9_min_7cf53 {E : EX} (hE : EH E) {a1 : Int32} {a2 : Int32} {M : Mem} {Q : Int32 → Mem → Prop} (h : P_J9_min_7cf53 a1 a2 M Q) : CI yJ9_min_7cf53 cJ9_min_7cf53 2 (some .int) rmJ9_min_7cf53 E [.int a1, .int a2] M Q := by
  refine CI.of hE (by decide +kernel) (Nat.le_of_ble_eq_true rfl) (fun x hz => ?_)
  unfold P_J9_min_7cf53 at h
  show G x E mJ9_min_7cf53 0 0 0 [(0, .int a1), (1, .int a2)] [] M
  refine g_iloadn (k0 := 0) (q := 1) dJ9_min_7cf53_0 rfl rfl rfl ?_
  refine g_iloadn (k0 := 1) (q := 2) dJ9_min_7cf53_1 rfl rfl rfl ?_
  refine g_ic_gt (tgt := 9) (q := 5) dJ9_min_7cf53_2 rfl rfl (fun hc1 => ?_) (fun hc1 => ?_)
  · replace h := h.1 hc1
    refine g_iloadn (k0 := 1) (q := 10) dJ9_min_7cf53_9 rfl rfl rfl ?_
    exact g_iret hz rfl dJ9_min_7cf53_10 h
  · replace h := h.2 hc1
    refine g_iloadn (k0 := 0) (q := 6) dJ9_min_7cf53_5 rfl rfl rfl ?_
    refine g_goto (tgt := 10) dJ9_min_7cf53_6 rfl ?_
    exact g_iret hz rfl dJ9_min_7cf53_10 h
set_option maxHeartbeats 4000000 in
set_option maxRecDepth 100000 in
theorem c_J9_max_7cf53 {E : EX} (hE : EH E) {a1 : Int32} {a2 : Int32} {M : Mem} {Q : Int32 → Mem → Prop} (h : P_J9_max_7cf53 a1 a2 M Q) : CI yJ9_max_7cf53 cJ9_max_7cf53 2 (some .int) rmJ9_max_7cf53 E [.int a1, .int a2] M Q := by
  refine CI.of hE (by decide +kernel) (Nat.le_of_ble_eq_true rfl) (fun x hz => ?_)
  unfold P_J9_max_7cf53 at h
  show G x E mJ9_max_7cf53 0 0 0 [(0, .int a1), (1, .int a2)] [] M
  refine g_iloadn (k0 := 0) (q := 1) dJ9_max_7cf53_0 rfl rfl rfl ?_
  refine g_iloadn (k0 := 1) (q := 2) dJ9_max_7cf53_1 rfl rfl rfl ?_
  refine g_ic_lt (tgt := 9) (q := 5) dJ9_max_7cf53_2 rfl rfl (fun hc1 => ?_) (fun hc1 => ?_)
  · replace h := h.1 hc1
    refine g_iloadn (k0 := 1) (q := 10) dJ9_max_7cf53_9 rfl rfl rfl ?_
    exact g_iret hz rfl dJ9_max_7cf53_10 h
  · replace h := h.2 hc1
    refine g_iloadn (k0 := 0) (q := 6) dJ9_max_7cf53_5 rfl rfl rfl ?_
    refine g_goto (tgt := 10) dJ9_max_7cf53_6 rfl ?_
    exact g_iret hz rfl dJ9_max_7cf53_10 h
set_option maxHeartbeats 4000000 in
set_option maxRecDepth 100000 in
theorem g_X3_begin_50 {x : GX} {E : EX} (hE : EH E) {Q : Mem → Prop} (hz : ZU x E Q) : ∀ (n : Nat) (v2 : Int32) (M : Mem), P_Matching_begin_50 Q n v2 M → G x E mX3_begin 0 0 50 [(0, .ref (eA E 21)), (2, .int v2)] [] M := by
  intro n
  induction n with
  | zero => intro _ _ h; exact h.elim
  | succ n ih =>
    intro v2 M h
    unfold P_Matching_begin_50 at h
    refine g_iloadn (k0 := 1) (q := 51) dX3_begin_50 rfl rfl rfl ?_
    refine g_aloadn (k0 := 0) (q := 52) dX3_begin_51 rfl rfl rfl ?_
    refine g_get (v := .int (M.1 21 10)) (q := 55) fg_X3_47_21 rfl dX3_begin_52 rfl ?_
    refine g_ic_ge (tgt := 92) (q := 58) dX3_begin_55 rfl rfl (fun hc6 => ?_) (fun hc6 => ?_)
    · replace h := h.1 hc6
      exact g_vret hz rfl dX3_begin_92 h
    · replace h := h.2 hc6
      refine g_aloadn (k0 := 0) (q := 59) dX3_begin_58 rfl rfl rfl ?_
      refine g_get (v := .ref (eA E 23)) (q := 62) fg_X3_17_21 rfl dX3_begin_59 rfl ?_
      refine g_iloadn (k0 := 1) (q := 63) dX3_begin_62 rfl rfl rfl ?_
      refine g_lconst (q := 64) dX3_begin_63 kl_0 rfl ?_
      have hv5 := h.1
      replace h := h.2
      refine g_last (q := 65) ar_23 hv5 dX3_begin_64 rfl ?_
      refine g_aloadn (k0 := 0) (q := 66) dX3_begin_65 rfl rfl rfl ?_
      refine g_get (v := .ref (eA E 24)) (q := 69) fg_X3_20_21 rfl dX3_begin_66 rfl ?_
      refine g_iloadn (k0 := 1) (q := 70) dX3_begin_69 rfl rfl rfl ?_
      refine g_lconst (q := 71) dX3_begin_70 kl_0 rfl ?_
      refine g_last (q := 72) ar_24 hv5 dX3_begin_71 rfl ?_
      refine g_aloadn (k0 := 0) (q := 73) dX3_begin_72 rfl rfl rfl ?_
      refine g_get (v := .ref (eA E 26)) (q := 76) fg_X3_26_21 rfl dX3_begin_73 rfl ?_
      refine g_iloadn (k0 := 1) (q := 77) dX3_begin_76 rfl rfl rfl ?_
      refine g_iconst (q := 78) dX3_begin_77 ki_m1 rfl ?_
      refine g_iast (q := 79) ar_26 hv5 dX3_begin_78 rfl ?_
      refine g_aloadn (k0 := 0) (q := 80) dX3_begin_79 rfl rfl rfl ?_
      refine g_get (v := .ref (eA E 27)) (q := 83) fg_X3_30_21 rfl dX3_begin_80 rfl ?_
      refine g_iloadn (k0 := 1) (q := 84) dX3_begin_83 rfl rfl rfl ?_
      refine g_iconst (q := 85) dX3_begin_84 ki_m1 rfl ?_
      refine g_iast (q := 86) ar_27 hv5 dX3_begin_85 rfl ?_
      refine g_iinc (lv' := [(0, .ref (eA E 21)), (2, .int (v2 + 1))]) (k0 := 1) (w := (v2 + 1)) (q := 89) [1, 0] dX3_begin_86 rfl rfl (by decide) rfl rfl ?_
      refine g_goto (tgt := 50) dX3_begin_89 rfl ?_
      exact ih _ _ h
set_option maxHeartbeats 4000000 in
set_option maxRecDepth 100000 in
theorem g_X3_begin_26 {x : GX} {E : EX} (hE : EH E) {Q : Mem → Prop} (hz : ZU x E Q) : ∀ (n : Nat) (v2 : Int32) (M : Mem), P_Matching_begin_26 Q n v2 M → G x E mX3_begin 0 0 26 [(0, .ref (eA E 21)), (2, .int v2)] [] M := by
  intro n
  induction n with
  | zero => intro _ _ h; exact h.elim
  | succ n ih =>
    intro v2 M h
    unfold P_Matching_begin_26 at h
    refine g_iloadn (k0 := 1) (q := 27) dX3_begin_26 rfl rfl rfl ?_
    refine g_sipush (q := 30) dX3_begin_27 ks_256 rfl ?_
    refine g_ic_ge (tgt := 48) (q := 33) dX3_begin_30 rfl rfl (fun hc9 => ?_) (fun hc9 => ?_)
    · replace h := h.1 hc9
      refine g_iconst (q := 49) dX3_begin_48 ki_0 rfl ?_
      refine g_istoren (lv' := [(0, .ref (eA E 21)), (2, .int 0)]) (q := 50) [1, 0] dX3_begin_49 rfl (by decide) rfl rfl ?_
      obtain ⟨n1, h⟩ := h
      exact g_X3_begin_50 hE hz n1 _ _ h
    · replace h := h.2 hc9
      refine g_aloadn (k0 := 0) (q := 34) dX3_begin_33 rfl rfl rfl ?_
      refine g_get (v := .ref (eA E 22)) (q := 37) fg_X3_13_21 rfl dX3_begin_34 rfl ?_
      refine g_iloadn (k0 := 1) (q := 38) dX3_begin_37 rfl rfl rfl ?_
      refine g_ldc2 (q := 41) dX3_begin_38 wm_536 rfl ?_
      have hv8 := h.1
      replace h := h.2
      refine g_last (q := 42) ar_22 hv8 dX3_begin_41 rfl ?_
      refine g_iinc (lv' := [(0, .ref (eA E 21)), (2, .int (v2 + 1))]) (k0 := 1) (w := (v2 + 1)) (q := 45) [1, 0] dX3_begin_42 rfl rfl (by decide) rfl rfl ?_
      refine g_goto (tgt := 26) dX3_begin_45 rfl ?_
      exact ih _ _ h
set_option maxHeartbeats 4000000 in
set_option maxRecDepth 100000 in
theorem c_X3_begin {E : EX} (hE : EH E) {a1 : Int32} {M : Mem} {Q : Mem → Prop} (h : P_Matching_begin a1 M Q) : CU yX3_begin cX3_begin 3 none rmX3_begin E [.ref (eA E 21), .int a1] M Q := by
  refine CU.of hE (plainFor_of_name (by decide)) (Nat.le_of_ble_eq_true rfl) (fun x hz => ?_)
  unfold P_Matching_begin at h
  show G x E mX3_begin 0 0 0 [(0, .ref (eA E 21)), (1, .int a1)] [] M
  refine g_aloadn (k0 := 0) (q := 1) dX3_begin_0 rfl rfl rfl ?_
  refine g_iconst (q := 2) dX3_begin_1 ki_0 rfl ?_
  refine g_iloadn (k0 := 1) (q := 3) dX3_begin_2 rfl rfl rfl ?_
  refine g_bipush (q := 5) dX3_begin_3 kb_16 rfl ?_
  refine g_scalli (q := 8) [.int a1, .int 16] [.int 0, .ref (eA E 21)] cs_X3_50 (c_J9_min_7cf53 hE h) rfl rfl ⟨rfl, rfl, Nat.le_of_ble_eq_true rfl, Nat.le_of_ble_eq_true rfl, Nat.zero_le _, Nat.zero_le _⟩ (Nat.le_of_ble_eq_true rfl) dX3_begin_5 rfl (fun r2 M1 h => ?_)
  refine g_scalli (q := 11) [.int 0, .int r2] [.ref (eA E 21)] cs_X3_56 (c_J9_max_7cf53 hE h) rfl rfl ⟨rfl, rfl, Nat.le_of_ble_eq_true rfl, Nat.le_of_ble_eq_true rfl, Nat.zero_le _, Nat.zero_le _⟩ (Nat.le_of_ble_eq_true rfl) dX3_begin_8 rfl (fun r4 M3 h => ?_)
  refine g_putI (q := 14) fp_X3_43_21 dX3_begin_11 rfl ?_
  refine g_aloadn (k0 := 0) (q := 15) dX3_begin_14 rfl rfl rfl ?_
  refine g_iconst (q := 16) dX3_begin_15 ki_2 rfl ?_
  refine g_aloadn (k0 := 0) (q := 17) dX3_begin_16 rfl rfl rfl ?_
  refine g_get (v := .int r4) (q := 20) fg_X3_43_21 rfl dX3_begin_17 rfl ?_
  refine g_imul (q := 21) dX3_begin_20 rfl ?_
  refine g_putI (q := 24) fp_X3_47_21 dX3_begin_21 rfl ?_
  refine g_iconst (q := 25) dX3_begin_24 ki_0 rfl ?_
  refine g_istoren (lv' := [(0, .ref (eA E 21)), (1, .int a1), (2, .int 0)]) (q := 26) [1, 2, 0] dX3_begin_25 rfl (by decide) rfl rfl ?_
  refine g_lv (lv' := [(0, .ref (eA E 21)), (2, .int 0)]) [0, 2] rfl ?_
  obtain ⟨n1, h⟩ := h
  exact g_X3_begin_26 hE hz n1 _ _ h
