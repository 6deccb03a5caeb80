set_option maxHeartbeats 4000000 in
set_option maxRecDepth 100000 in
theorem g_X2_add_70 {x : GX} {E : EX} (hE : EH E) {Q : Int32 → Mem → Prop} (hz : ZI x E Q) : ∀ (n : Nat) (v4 : Int32) (v5 : Int32) (M : Mem), P_Log_add_70 Q n v4 v5 M → G x E mX2_add 0 0 70 [(0, .ref (eA E 11)), (1, .ref (eA E 7)), (4, .int v4), (5, .int v5)] [] M := by
  intro n
  induction n with
  | zero => intro _ _ _ h; exact h.elim
  | succ n ih =>
    intro v4 v5 M h
    unfold P_Log_add_70 at h
    refine g_iload (k0 := 3) (q := 72) dX2_add_70 rfl rfl ?_
    refine g_iconst (q := 73) dX2_add_72 ki_4 rfl ?_
    refine g_ic_ge (tgt := 100) (q := 76) dX2_add_73 rfl rfl (fun hc12 => ?_) (fun hc12 => ?_)
    · replace h := h.1 hc12
      refine g_aloadn (k0 := 0) (q := 101) dX2_add_100 rfl rfl rfl ?_
      refine g_dup (q := 102) dX2_add_101 rfl rfl ?_
      refine g_get (v := .int (M.1 11 1)) (q := 105) fg_X2_15_11 rfl dX2_add_102 rfl ?_
      refine g_iconst (q := 106) dX2_add_105 ki_1 rfl ?_
      refine g_iadd (q := 107) dX2_add_106 rfl ?_
      refine g_putI (q := 110) fp_X2_15_11 dX2_add_107 rfl ?_
      refine g_aloadn (k0 := 0) (q := 111) dX2_add_110 rfl rfl rfl ?_
      refine g_get (v := .int ((M.1 11 1) + 1)) (q := 114) fg_X2_15_11 rfl dX2_add_111 rfl ?_
      refine g_iconst (q := 115) dX2_add_114 ki_1 rfl ?_
      refine g_isub (q := 116) dX2_add_115 rfl ?_
      exact g_iret hz rfl dX2_add_116 h
    · replace h := h.2 hc12
      refine g_aloadn (k0 := 0) (q := 77) dX2_add_76 rfl rfl rfl ?_
      refine g_get (v := .ref (eA E 12)) (q := 80) fg_X2_11_11 rfl dX2_add_77 rfl ?_
      refine g_iload (k0 := 2) (q := 82) dX2_add_80 rfl rfl ?_
      refine g_iconst (q := 83) dX2_add_82 ki_4 rfl ?_
      refine g_iadd (q := 84) dX2_add_83 rfl ?_
      refine g_iload (k0 := 3) (q := 86) dX2_add_84 rfl rfl ?_
      refine g_iadd (q := 87) dX2_add_86 rfl ?_
      refine g_aloadn (k0 := 1) (q := 88) dX2_add_87 rfl rfl rfl ?_
      refine g_iload (k0 := 3) (q := 90) dX2_add_88 rfl rfl ?_
      refine g_calli (q := 93) [.int v5] [.int ((v4 + 4) + v5), .ref (eA E 12)] cv_X2_32 rc_7 (c_X8_number hE h) rfl rfl ⟨rfl, rfl, Nat.le_of_ble_eq_true rfl, Nat.le_of_ble_eq_true rfl, Nat.zero_le _, Nat.zero_le _⟩ (Nat.le_of_ble_eq_true rfl) dX2_add_90 rfl (fun r10 M9 h => ?_)
      have hv11 := h.1
      replace h := h.2
      refine g_iast (q := 94) ar_12 hv11 dX2_add_93 rfl ?_
      refine g_iinc (lv' := [(0, .ref (eA E 11)), (1, .ref (eA E 7)), (4, .int v4), (5, .int (v5 + 1))]) (k0 := 3) (w := (v5 + 1)) (q := 97) [1, 2, 3, 0] dX2_add_94 rfl rfl (by decide) rfl rfl ?_
      refine g_goto (tgt := 70) dX2_add_97 rfl ?_
      exact ih _ _ _ h
set_option maxHeartbeats 4000000 in
set_option maxRecDepth 100000 in
theorem c_X2_add {E : EX} (hE : EH E) {a2 : Int32} {a3 : Int32} {M : Mem} {Q : Int32 → Mem → Prop} (h : P_Log_add a2 a3 M Q) : CI yX2_add cX2_add 6 (some .int) rmX2_add E [.ref (eA E 11), .ref (eA E 7), .int a2, .int a3] M Q := by
  refine CI.of hE (plainFor_of_name (by decide)) (Nat.le_of_ble_eq_true rfl) (fun x hz => ?_)
  unfold P_Log_add at h
  show G x E mX2_add 0 0 0 [(0, .ref (eA E 11)), (1, .ref (eA E 7)), (2, .int a2), (3, .int a3)] [] M
  refine g_aloadn (k0 := 0) (q := 1) dX2_add_0 rfl rfl rfl ?_
  refine g_get (v := .int (M.1 11 1)) (q := 4) fg_X2_15_11 rfl dX2_add_1 rfl ?_
  refine g_sipush (q := 7) dX2_add_4 ks_200 rfl ?_
  refine g_ic_lt (tgt := 12) (q := 10) dX2_add_7 rfl rfl (fun hc14 => ?_) (fun hc14 => ?_)
  · replace h := h.1 hc14
    refine g_aloadn (k0 := 0) (q := 13) dX2_add_12 rfl rfl rfl ?_
    refine g_get (v := .int (M.1 11 1)) (q := 16) fg_X2_15_11 rfl dX2_add_13 rfl ?_
    refine g_bipush (q := 18) dX2_add_16 kb_8 rfl ?_
    refine g_imul (q := 19) dX2_add_18 rfl ?_
    refine g_istore (lv' := [(0, .ref (eA E 11)), (1, .ref (eA E 7)), (2, .int a2), (3, .int a3), (4, .int ((M.1 11 1) * 8))]) (q := 21) [1, 2, 3, 4, 0] dX2_add_19 (by decide) rfl rfl ?_
    refine g_aloadn (k0 := 0) (q := 22) dX2_add_21 rfl rfl rfl ?_
    refine g_get (v := .ref (eA E 12)) (q := 25) fg_X2_11_11 rfl dX2_add_22 rfl ?_
    refine g_iload (k0 := 4) (q := 27) dX2_add_25 rfl rfl ?_
    refine g_iconst (q := 28) dX2_add_27 ki_0 rfl ?_
    refine g_iadd (q := 29) dX2_add_28 rfl ?_
    refine g_aloadn (k0 := 1) (q := 30) dX2_add_29 rfl rfl rfl ?_
    refine g_calli (q := 33) [] [.int (((M.1 11 1) * 8) + 0), .ref (eA E 12)] cv_X2_23 rc_7 (c_X8_kind hE h) rfl rfl ⟨rfl, rfl, Nat.le_of_ble_eq_true rfl, Nat.le_of_ble_eq_true rfl, Nat.zero_le _, Nat.zero_le _⟩ (Nat.le_of_ble_eq_true rfl) dX2_add_30 rfl (fun r2 M1 h => ?_)
    have hv3 := h.1
    replace h := h.2
    refine g_iast (q := 34) ar_12 hv3 dX2_add_33 rfl ?_
    refine g_aloadn (k0 := 0) (q := 35) dX2_add_34 rfl rfl rfl ?_
    refine g_get (v := .ref (eA E 12)) (q := 38) fg_X2_11_11 rfl dX2_add_35 rfl ?_
    refine g_iload (k0 := 4) (q := 40) dX2_add_38 rfl rfl ?_
    refine g_iconst (q := 41) dX2_add_40 ki_1 rfl ?_
    refine g_iadd (q := 42) dX2_add_41 rfl ?_
    refine g_aloadn (k0 := 1) (q := 43) dX2_add_42 rfl rfl rfl ?_
    refine g_calli (q := 46) [] [.int (((M.1 11 1) * 8) + 1), .ref (eA E 12)] cv_X2_29 rc_7 (c_X8_ship hE h) rfl rfl ⟨rfl, rfl, Nat.le_of_ble_eq_true rfl, Nat.le_of_ble_eq_true rfl, Nat.zero_le _, Nat.zero_le _⟩ (Nat.le_of_ble_eq_true rfl) dX2_add_43 rfl (fun r5 M4 h => ?_)
    have hv6 := h.1
    replace h := h.2
    refine g_iast (q := 47) ar_12 hv6 dX2_add_46 rfl ?_
    refine g_aloadn (k0 := 0) (q := 48) dX2_add_47 rfl rfl rfl ?_
    refine g_get (v := .ref (eA E 12)) (q := 51) fg_X2_11_11 rfl dX2_add_48 rfl ?_
    refine g_iload (k0 := 4) (q := 53) dX2_add_51 rfl rfl ?_
    refine g_iconst (q := 54) dX2_add_53 ki_2 rfl ?_
    refine g_iadd (q := 55) dX2_add_54 rfl ?_
    refine g_iloadn (k0 := 2) (q := 56) dX2_add_55 rfl rfl rfl ?_
    have hv7 := h.1
    replace h := h.2
    refine g_iast (q := 57) ar_12 hv7 dX2_add_56 rfl ?_
    refine g_aloadn (k0 := 0) (q := 58) dX2_add_57 rfl rfl rfl ?_
    refine g_get (v := .ref (eA E 12)) (q := 61) fg_X2_11_11 rfl dX2_add_58 rfl ?_
    refine g_iload (k0 := 4) (q := 63) dX2_add_61 rfl rfl ?_
    refine g_iconst (q := 64) dX2_add_63 ki_3 rfl ?_
    refine g_iadd (q := 65) dX2_add_64 rfl ?_
    refine g_iloadn (k0 := 3) (q := 66) dX2_add_65 rfl rfl rfl ?_
    have hv8 := h.1
    replace h := h.2
    refine g_iast (q := 67) ar_12 hv8 dX2_add_66 rfl ?_
    refine g_iconst (q := 68) dX2_add_67 ki_0 rfl ?_
    refine g_istore (lv' := [(0, .ref (eA E 11)), (1, .ref (eA E 7)), (2, .int a2), (3, .int a3), (4, .int ((M.1 11 1) * 8)), (5, .int 0)]) (q := 70) [1, 2, 3, 4, 5, 0] dX2_add_68 (by decide) rfl rfl ?_
    refine g_lv (lv' := [(0, .ref (eA E 11)), (1, .ref (eA E 7)), (4, .int ((M.1 11 1) * 8)), (5, .int 0)]) [0, 1, 4, 5] rfl ?_
    obtain ⟨n1, h⟩ := h
    exact g_X2_add_70 hE hz n1 _ _ _ h
  · replace h := h.2 hc14
    refine g_iconst (q := 11) dX2_add_10 ki_m1 rfl ?_
    exact g_iret hz rfl dX2_add_11 h
set_option maxHeartbeats 4000000 in
set_option maxRecDepth 100000 in
theorem c_X2_has {E : EX} (hE : EH E) {a1 : Int32} {M : Mem} {Q : Int32 → Mem → Prop} (h : P_Log_has a1 M Q) : CI yX2_has cX2_has 2 (some .boolean) rmX2_has E [.ref (eA E 11), .int a1] M (fun r M => nb r ∧ Q r M) := by
  refine CI.of hE (plainFor_of_name (by decide)) (Nat.le_of_ble_eq_true rfl) (fun x hz => ?_)
  unfold P_Log_has at h
  show G x E mX2_has 0 0 0 [(0, .ref (eA E 11)), (1, .int a1)] [] M
  refine g_iloadn (k0 := 1) (q := 1) dX2_has_0 rfl rfl rfl ?_
  refine g_if_lt (tgt := 16) (q := 4) dX2_has_1 rfl rfl (fun hc2 => ?_) (fun hc2 => ?_)
  · replace h := h.1 hc2
    refine g_iconst (q := 17) dX2_has_16 ki_0 rfl ?_
    exact g_zret hz rfl rfl dX2_has_17 h
  · replace h := h.2 hc2
    refine g_iloadn (k0 := 1) (q := 5) dX2_has_4 rfl rfl rfl ?_
    refine g_aloadn (k0 := 0) (q := 6) dX2_has_5 rfl rfl rfl ?_
    refine g_get (v := .int (M.1 11 1)) (q := 9) fg_X2_15_11 rfl dX2_has_6 rfl ?_
    refine g_ic_ge (tgt := 16) (q := 12) dX2_has_9 rfl rfl (fun hc1 => ?_) (fun hc1 => ?_)
    · replace h := h.1 hc1
      refine g_iconst (q := 17) dX2_has_16 ki_0 rfl ?_
      exact g_zret hz rfl rfl dX2_has_17 h
    · replace h := h.2 hc1
      refine g_iconst (q := 13) dX2_has_12 ki_1 rfl ?_
      refine g_goto (tgt := 17) dX2_has_13 rfl ?_
      exact g_zret hz rfl rfl dX2_has_17 h
set_option maxHeartbeats 4000000 in
set_option maxRecDepth 100000 in
theorem c_X2_cell {E : EX} (hE : EH E) {a1 : Int32} {a2 : Int32} {M : Mem} {Q : Int32 → Mem → Prop} (h : P_Log_cell a1 a2 M Q) : CI yX2_cell cX2_cell 3 (some .int) rmX2_cell E [.ref (eA E 11), .int a1, .int a2] M Q := by
  refine CI.of hE (plainFor_of_name (by decide)) (Nat.le_of_ble_eq_true rfl) (fun x hz => ?_)
  unfold P_Log_cell at h
  show G x E mX2_cell 0 0 0 [(0, .ref (eA E 11)), (1, .int a1), (2, .int a2)] [] M
  refine g_aloadn (k0 := 0) (q := 1) dX2_cell_0 rfl rfl rfl ?_
  refine g_iloadn (k0 := 1) (q := 2) dX2_cell_1 rfl rfl rfl ?_
  refine g_calli (q := 5) [.int a1] [] cv_X2_19 rc_11 (c_X2_has hE h) rfl rfl ⟨rfl, rfl, Nat.le_of_ble_eq_true rfl, Nat.le_of_ble_eq_true rfl, Nat.zero_le _, Nat.zero_le _⟩ (Nat.le_of_ble_eq_true rfl) dX2_cell_2 rfl (fun r2 M1 h => ?_)
  obtain ⟨hb_r2, h⟩ := h
  refine g_if_eq (tgt := 32) (q := 8) dX2_cell_5 rfl rfl (fun hc6 => ?_) (fun hc6 => ?_)
  · replace h := h.1 hc6
    refine g_iconst (q := 33) dX2_cell_32 ki_m1 rfl ?_
    exact g_iret hz rfl dX2_cell_33 h
  · replace h := h.2 hc6
    refine g_iloadn (k0 := 2) (q := 9) dX2_cell_8 rfl rfl rfl ?_
    refine g_if_lt (tgt := 32) (q := 12) dX2_cell_9 rfl rfl (fun hc5 => ?_) (fun hc5 => ?_)
    · replace h := h.1 hc5
      refine g_iconst (q := 33) dX2_cell_32 ki_m1 rfl ?_
      exact g_iret hz rfl dX2_cell_33 h
    · replace h := h.2 hc5
      refine g_iloadn (k0 := 2) (q := 13) dX2_cell_12 rfl rfl rfl ?_
      refine g_bipush (q := 15) dX2_cell_13 kb_8 rfl ?_
      refine g_ic_ge (tgt := 32) (q := 18) dX2_cell_15 rfl rfl (fun hc4 => ?_) (fun hc4 => ?_)
      · replace h := h.1 hc4
        refine g_iconst (q := 33) dX2_cell_32 ki_m1 rfl ?_
        exact g_iret hz rfl dX2_cell_33 h
      · replace h := h.2 hc4
        refine g_aloadn (k0 := 0) (q := 19) dX2_cell_18 rfl rfl rfl ?_
        refine g_get (v := .ref (eA E 12)) (q := 22) fg_X2_11_11 rfl dX2_cell_19 rfl ?_
        refine g_iloadn (k0 := 1) (q := 23) dX2_cell_22 rfl rfl rfl ?_
        refine g_bipush (q := 25) dX2_cell_23 kb_8 rfl ?_
        refine g_imul (q := 26) dX2_cell_25 rfl ?_
        refine g_iloadn (k0 := 2) (q := 27) dX2_cell_26 rfl rfl rfl ?_
        refine g_iadd (q := 28) dX2_cell_27 rfl ?_
        have hv3 := h.1
        replace h := h.2
        refine g_iald (v := (M1.1 12 (((a1 * 8) + a2)).toNatClampNeg)) (q := 29) ar_12 hv3 rfl dX2_cell_28 rfl ?_
        refine g_goto (tgt := 33) dX2_cell_29 rfl ?_
        exact g_iret hz rfl dX2_cell_33 h
set_option maxHeartbeats 4000000 in
set_option maxRecDepth 100000 in
theorem c_X2_isOf {E : EX} (hE : EH E) {a1 : Int32} {a2 : Int32} {a3 : Int32} {M : Mem} {Q : Int32 → Mem → Prop} (h : P_Log_isOf a1 a2 a3 M Q) : CI yX2_isOf cX2_isOf 4 (some .boolean) rmX2_isOf E [.ref (eA E 11), .int a1, .int a2, .int a3] M (fun r M => nb r ∧ Q r M) := by
  refine CI.of hE (plainFor_of_name (by decide)) (Nat.le_of_ble_eq_true rfl) (fun x hz => ?_)
  unfold P_Log_isOf at h
  show G x E mX2_isOf 0 0 0 [(0, .ref (eA E 11)), (1, .int a1), (2, .int a2), (3, .int a3)] [] M
  refine g_aloadn (k0 := 0) (q := 1) dX2_isOf_0 rfl rfl rfl ?_
  refine g_iloadn (k0 := 1) (q := 2) dX2_isOf_1 rfl rfl rfl ?_
  refine g_iconst (q := 3) dX2_isOf_2 ki_0 rfl ?_
  refine g_calli (q := 6) [.int a1, .int 0] [] cv_X2_36 rc_11 (c_X2_cell hE h) rfl rfl ⟨rfl, rfl, Nat.le_of_ble_eq_true rfl, Nat.le_of_ble_eq_true rfl, Nat.zero_le _, Nat.zero_le _⟩ (Nat.le_of_ble_eq_true rfl) dX2_isOf_3 rfl (fun r2 M1 h => ?_)
  refine g_iloadn (k0 := 2) (q := 7) dX2_isOf_6 rfl rfl rfl ?_
  refine g_ic_ne (tgt := 24) (q := 10) dX2_isOf_7 rfl rfl (fun hc6 => ?_) (fun hc6 => ?_)
  · replace h := h.1 hc6
    refine g_iconst (q := 25) dX2_isOf_24 ki_0 rfl ?_
    exact g_zret hz rfl rfl dX2_isOf_25 h
  · replace h := h.2 hc6
    refine g_aloadn (k0 := 0) (q := 11) dX2_isOf_10 rfl rfl rfl ?_
    refine g_iloadn (k0 := 1) (q := 12) dX2_isOf_11 rfl rfl rfl ?_
    refine g_iconst (q := 13) dX2_isOf_12 ki_1 rfl ?_
    refine g_calli (q := 16) [.int a1, .int 1] [] cv_X2_36 rc_11 (c_X2_cell hE h) rfl rfl ⟨rfl, rfl, Nat.le_of_ble_eq_true rfl, Nat.le_of_ble_eq_true rfl, Nat.zero_le _, Nat.zero_le _⟩ (Nat.le_of_ble_eq_true rfl) dX2_isOf_13 rfl (fun r4 M3 h => ?_)
    refine g_iloadn (k0 := 3) (q := 17) dX2_isOf_16 rfl rfl rfl ?_
    refine g_ic_ne (tgt := 24) (q := 20) dX2_isOf_17 rfl rfl (fun hc5 => ?_) (fun hc5 => ?_)
    · replace h := h.1 hc5
      refine g_iconst (q := 25) dX2_isOf_24 ki_0 rfl ?_
      exact g_zret hz rfl rfl dX2_isOf_25 h
    · replace h := h.2 hc5
      refine g_iconst (q := 21) dX2_isOf_20 ki_1 rfl ?_
      refine g_goto (tgt := 25) dX2_isOf_21 rfl ?_
      exact g_zret hz rfl rfl dX2_isOf_25 h
set_option maxHeartbeats 4000000 in
set_option maxRecDepth 100000 in
theorem c_X9_areOfOneText {E : EX} (hE : EH E) {a2 : Int32} {a3 : Int32} {M : Mem} {Q : Int32 → Mem → Prop} (h : P_TextBook_areOfOneText a2 a3 M Q) : CI yX9_areOfOneText cX9_areOfOneText 3 (some .boolean) rmX9_areOfOneText E [.ref (eA E 11), .int a2, .int a3] M (fun r M => nb r ∧ Q r M) := by
  refine CI.of hE (plainFor_of_name (by decide)) (Nat.le_of_ble_eq_true rfl) (fun x hz => ?_)
  unfold P_TextBook_areOfOneText at h
  show G x E mX9_areOfOneText 0 0 0 [(0, .ref (eA E 11)), (1, .int a2), (2, .int a3)] [] M
  refine g_aloadn (k0 := 0) (q := 1) dX9_areOfOneText_0 rfl rfl rfl ?_
  refine g_iloadn (k0 := 1) (q := 2) dX9_areOfOneText_1 rfl rfl rfl ?_
  refine g_iconst (q := 3) dX9_areOfOneText_2 ki_4 rfl ?_
  refine g_aloadn (k0 := 0) (q := 4) dX9_areOfOneText_3 rfl rfl rfl ?_
  refine g_iloadn (k0 := 2) (q := 5) dX9_areOfOneText_4 rfl rfl rfl ?_
  refine g_iconst (q := 6) dX9_areOfOneText_5 ki_1 rfl ?_
  refine g_calli (q := 9) [.int a3, .int 1] [.int 4, .int a2, .ref (eA E 11)] cv_X9_37 rc_11 (c_X2_cell hE h) rfl rfl ⟨rfl, rfl, Nat.le_of_ble_eq_true rfl, Nat.le_of_ble_eq_true rfl, Nat.zero_le _, Nat.zero_le _⟩ (Nat.le_of_ble_eq_true rfl) dX9_areOfOneText_6 rfl (fun r2 M1 h => ?_)
  refine g_calli (q := 12) [.int a2, .int 4, .int r2] [] cv_X9_52 rc_11 (c_X2_isOf hE h) rfl rfl ⟨rfl, rfl, Nat.le_of_ble_eq_true rfl, Nat.le_of_ble_eq_true rfl, Nat.zero_le _, Nat.zero_le _⟩ (Nat.le_of_ble_eq_true rfl) dX9_areOfOneText_9 rfl (fun r4 M3 h => ?_)
  obtain ⟨hb_r4, h⟩ := h
  refine g_if_eq (tgt := 51) (q := 15) dX9_areOfOneText_12 rfl rfl (fun hc15 => ?_) (fun hc15 => ?_)
  · replace h := h.1 hc15
    refine g_iconst (q := 52) dX9_areOfOneText_51 ki_0 rfl ?_
    exact g_zret hz rfl rfl dX9_areOfOneText_52 h
  · replace h := h.2 hc15
    refine g_aloadn (k0 := 0) (q := 16) dX9_areOfOneText_15 rfl rfl rfl ?_
    refine g_iloadn (k0 := 1) (q := 17) dX9_areOfOneText_16 rfl rfl rfl ?_
    refine g_iconst (q := 18) dX9_areOfOneText_17 ki_4 rfl ?_
    refine g_calli (q := 21) [.int a2, .int 4] [] cv_X9_37 rc_11 (c_X2_cell hE h) rfl rfl ⟨rfl, rfl, Nat.le_of_ble_eq_true rfl, Nat.le_of_ble_eq_true rfl, Nat.zero_le _, Nat.zero_le _⟩ (Nat.le_of_ble_eq_true rfl) dX9_areOfOneText_18 rfl (fun r6 M5 h => ?_)
    refine g_aloadn (k0 := 0) (q := 22) dX9_areOfOneText_21 rfl rfl rfl ?_
    refine g_iloadn (k0 := 2) (q := 23) dX9_areOfOneText_22 rfl rfl rfl ?_
    refine g_iconst (q := 24) dX9_areOfOneText_23 ki_4 rfl ?_
    refine g_calli (q := 27) [.int a3, .int 4] [.int r6] cv_X9_37 rc_11 (c_X2_cell hE h) rfl rfl ⟨rfl, rfl, Nat.le_of_ble_eq_true rfl, Nat.le_of_ble_eq_true rfl, Nat.zero_le _, Nat.zero_le _⟩ (Nat.le_of_ble_eq_true rfl) dX9_areOfOneText_24 rfl (fun r8 M7 h => ?_)
    refine g_ic_ne (tgt := 51) (q := 30) dX9_areOfOneText_27 rfl rfl (fun hc14 => ?_) (fun hc14 => ?_)
    · replace h := h.1 hc14
      refine g_iconst (q := 52) dX9_areOfOneText_51 ki_0 rfl ?_
      exact g_zret hz rfl rfl dX9_areOfOneText_52 h
    · replace h := h.2 hc14
      refine g_aloadn (k0 := 0) (q := 31) dX9_areOfOneText_30 rfl rfl rfl ?_
      refine g_iloadn (k0 := 1) (q := 32) dX9_areOfOneText_31 rfl rfl rfl ?_
      refine g_bipush (q := 34) dX9_areOfOneText_32 kb_6 rfl ?_
      refine g_calli (q := 37) [.int a2, .int 6] [] cv_X9_37 rc_11 (c_X2_cell hE h) rfl rfl ⟨rfl, rfl, Nat.le_of_ble_eq_true rfl, Nat.le_of_ble_eq_true rfl, Nat.zero_le _, Nat.zero_le _⟩ (Nat.le_of_ble_eq_true rfl) dX9_areOfOneText_34 rfl (fun r10 M9 h => ?_)
      refine g_aloadn (k0 := 0) (q := 38) dX9_areOfOneText_37 rfl rfl rfl ?_
      refine g_iloadn (k0 := 2) (q := 39) dX9_areOfOneText_38 rfl rfl rfl ?_
      refine g_bipush (q := 41) dX9_areOfOneText_39 kb_6 rfl ?_
      refine g_calli (q := 44) [.int a3, .int 6] [.int r10] cv_X9_37 rc_11 (c_X2_cell hE h) rfl rfl ⟨rfl, rfl, Nat.le_of_ble_eq_true rfl, Nat.le_of_ble_eq_true rfl, Nat.zero_le _, Nat.zero_le _⟩ (Nat.le_of_ble_eq_true rfl) dX9_areOfOneText_41 rfl (fun r12 M11 h => ?_)
      refine g_ic_ne (tgt := 51) (q := 47) dX9_areOfOneText_44 rfl rfl (fun hc13 => ?_) (fun hc13 => ?_)
      · replace h := h.1 hc13
        refine g_iconst (q := 52) dX9_areOfOneText_51 ki_0 rfl ?_
        exact g_zret hz rfl rfl dX9_areOfOneText_52 h
      · replace h := h.2 hc13
        refine g_iconst (q := 48) dX9_areOfOneText_47 ki_1 rfl ?_
        refine g_goto (tgt := 52) dX9_areOfOneText_48 rfl ?_
        exact g_zret hz rfl rfl dX9_areOfOneText_52 h
set_option maxHeartbeats 4000000 in
set_option maxRecDepth 100000 in
theorem g_X9_findNewest_101 {x : GX} {E : EX} (hE : EH E) {Q : Int32 → Mem → Prop} (hz : ZI x E (fun r M => nb r ∧ Q r M)) {K29 : Int32 → Int32 → Int32 → Int32 → Mem → Prop} (hK29 : ∀ (v2 : Int32) (v3 : Int32) (v4 : Int32) (v5 : Int32) (M : Mem), K29 v2 v3 v4 v5 M → G x E mX9_findNewest 0 0 29 [(0, .ref (eA E 15)), (1, .ref (eA E 11)), (2, .int v2), (3, .int v3), (4, .int v4), (5, .int v5)] [] M) : ∀ (v2 : Int32) (v3 : Int32) (v5 : Int32) (v6 : Int32) (s0 : Int32) (s1 : Int32) (M : Mem), P_TextBook_findNewest_101 K29 Q v2 v3 v5 v6 s0 s1 M → G x E mX9_findNewest 0 0 101 [(0, .ref (eA E 15)), (1, .ref (eA E 11)), (2, .int v2), (3, .int v3), (5, .int v5), (6, .int v6)] [.int s0, .int s1] M := by
  intro v2 v3 v5 v6 s0 s1 M h
  unfold P_TextBook_findNewest_101 at h
  refine g_iadd (q := 102) dX9_findNewest_101 rfl ?_
  refine g_istore (lv' := [(0, .ref (eA E 15)), (1, .ref (eA E 11)), (2, .int v2), (3, .int v3), (4, .int (s1 + s0)), (5, .int v5), (6, .int v6)]) (q := 104) [1, 2, 3, 4, 0, 5, 6] dX9_findNewest_102 (by decide) rfl rfl ?_
  refine g_aloadn (k0 := 0) (q := 105) dX9_findNewest_104 rfl rfl rfl ?_
  refine g_get (v := .ref (eA E 19)) (q := 108) fg_X9_26_15 rfl dX9_findNewest_105 rfl ?_
  refine g_iload (k0 := 6) (q := 110) dX9_findNewest_108 rfl rfl ?_
  refine g_iload (k0 := 5) (q := 112) dX9_findNewest_110 rfl rfl ?_
  have hv9 := h.1
  replace h := h.2
  refine g_iast (q := 113) ar_19 hv9 dX9_findNewest_112 rfl ?_
  refine g_iinc (lv' := [(0, .ref (eA E 15)), (1, .ref (eA E 11)), (2, .int v2), (3, .int v3), (4, .int (s1 + s0)), (5, .int (v5 + 1)), (6, .int v6)]) (k0 := 5) (w := (v5 + 1)) (q := 116) [1, 2, 3, 4, 5, 0, 6] dX9_findNewest_113 rfl rfl (by decide) rfl rfl ?_
  refine g_goto (tgt := 29) dX9_findNewest_116 rfl ?_
  refine g_lv (lv' := [(0, .ref (eA E 15)), (1, .ref (eA E 11)), (2, .int v2), (3, .int v3), (4, .int (s1 + s0)), (5, .int (v5 + 1))]) [0, 1, 2, 3, 4, 5] rfl ?_
  exact hK29 _ _ _ _ _ h
set_option maxHeartbeats 4000000 in
set_option maxRecDepth 100000 in
theorem g_X9_findNewest_29 {x : GX} {E : EX} (hE : EH E) {Q : Int32 → Mem → Prop} (hz : ZI x E (fun r M => nb r ∧ Q r M)) : ∀ (n : Nat) (v2 : Int32) (v3 : Int32) (v4 : Int32) (v5 : Int32) (M : Mem), P_TextBook_findNewest_29 Q n v2 v3 v4 v5 M → G x E mX9_findNewest 0 0 29 [(0, .ref (eA E 15)), (1, .ref (eA E 11)), (2, .int v2), (3, .int v3), (4, .int v4), (5, .int v5)] [] M := by
  intro n
  induction n with
  | zero => intro _ _ _ _ _ h; exact h.elim
  | succ n ih =>
    intro v2 v3 v4 v5 M h
    unfold P_TextBook_findNewest_29 at h
    refine g_iload (k0 := 5) (q := 31) dX9_findNewest_29 rfl rfl ?_
    refine g_iloadn (k0 := 2) (q := 32) dX9_findNewest_31 rfl rfl rfl ?_
    refine g_ic_gt (tgt := 119) (q := 35) dX9_findNewest_32 rfl rfl (fun hc16 => ?_) (fun hc16 => ?_)
    · replace h := h.1 hc16
      refine g_iload (k0 := 4) (q := 121) dX9_findNewest_119 rfl rfl ?_
      refine g_iloadn (k0 := 3) (q := 122) dX9_findNewest_121 rfl rfl rfl ?_
      refine g_ic_ne (tgt := 129) (q := 125) dX9_findNewest_122 rfl rfl (fun hc1 => ?_) (fun hc1 => ?_)
      · replace h := h.1 hc1
        refine g_iconst (q := 130) dX9_findNewest_129 ki_0 rfl ?_
        exact g_zret hz rfl rfl dX9_findNewest_130 h
      · replace h := h.2 hc1
        refine g_iconst (q := 126) dX9_findNewest_125 ki_1 rfl ?_
        refine g_goto (tgt := 130) dX9_findNewest_126 rfl ?_
        exact g_zret hz rfl rfl dX9_findNewest_130 h
    · replace h := h.2 hc16
      refine g_iload (k0 := 5) (q := 37) dX9_findNewest_35 rfl rfl ?_
      refine g_sipush (q := 40) dX9_findNewest_37 ks_200 rfl ?_
      refine g_ic_ge (tgt := 119) (q := 43) dX9_findNewest_40 rfl rfl (fun hc15 => ?_) (fun hc15 => ?_)
      · replace h := h.1 hc15
        refine g_iload (k0 := 4) (q := 121) dX9_findNewest_119 rfl rfl ?_
        refine g_iloadn (k0 := 3) (q := 122) dX9_findNewest_121 rfl rfl rfl ?_
        refine g_ic_ne (tgt := 129) (q := 125) dX9_findNewest_122 rfl rfl (fun hc2 => ?_) (fun hc2 => ?_)
        · replace h := h.1 hc2
          refine g_iconst (q := 130) dX9_findNewest_129 ki_0 rfl ?_
          exact g_zret hz rfl rfl dX9_findNewest_130 h
        · replace h := h.2 hc2
          refine g_iconst (q := 126) dX9_findNewest_125 ki_1 rfl ?_
          refine g_goto (tgt := 130) dX9_findNewest_126 rfl ?_
          exact g_zret hz rfl rfl dX9_findNewest_130 h
      · replace h := h.2 hc15
        refine g_aloadn (k0 := 1) (q := 44) dX9_findNewest_43 rfl rfl rfl ?_
        refine g_iload (k0 := 5) (q := 46) dX9_findNewest_44 rfl rfl ?_
        refine g_iconst (q := 47) dX9_findNewest_46 ki_5 rfl ?_
        refine g_calli (q := 50) [.int v5, .int 5] [] cv_X9_37 rc_11 (c_X2_cell hE h) rfl rfl ⟨rfl, rfl, Nat.le_of_ble_eq_true rfl, Nat.le_of_ble_eq_true rfl, Nat.zero_le _, Nat.zero_le _⟩ (Nat.le_of_ble_eq_true rfl) dX9_findNewest_47 rfl (fun r4 M3 h => ?_)
        refine g_istore (lv' := [(0, .ref (eA E 15)), (1, .ref (eA E 11)), (2, .int v2), (3, .int v3), (4, .int v4), (5, .int v5), (6, .int r4)]) (q := 52) [1, 2, 3, 4, 5, 6, 0] dX9_findNewest_50 (by decide) rfl rfl ?_
        refine g_aloadn (k0 := 0) (q := 53) dX9_findNewest_52 rfl rfl rfl ?_
        refine g_get (v := .ref (eA E 16)) (q := 56) fg_X9_13_15 rfl dX9_findNewest_53 rfl ?_
        refine g_iload (k0 := 5) (q := 58) dX9_findNewest_56 rfl rfl ?_
        have hv5 := h.1
        replace h := h.2
        refine g_zald (v := (M3.1 16 v5.toNatClampNeg)) (q := 59) ar_16 hv5 rfl dX9_findNewest_58 rfl ?_
        refine g_if_ne (tgt := 113) (q := 62) dX9_findNewest_59 rfl rfl (fun hc14 => ?_) (fun hc14 => ?_)
        · replace h := h.1 hc14
          refine g_iinc (lv' := [(0, .ref (eA E 15)), (1, .ref (eA E 11)), (2, .int v2), (3, .int v3), (4, .int v4), (5, .int (v5 + 1)), (6, .int r4)]) (k0 := 5) (w := (v5 + 1)) (q := 116) [1, 2, 3, 4, 5, 0, 6] dX9_findNewest_113 rfl rfl (by decide) rfl rfl ?_
          refine g_goto (tgt := 29) dX9_findNewest_116 rfl ?_
          refine g_lv (lv' := [(0, .ref (eA E 15)), (1, .ref (eA E 11)), (2, .int v2), (3, .int v3), (4, .int v4), (5, .int (v5 + 1))]) [0, 1, 2, 3, 4, 5] rfl ?_
          exact ih _ _ _ _ _ h
        · replace h := h.2 hc14
          refine g_aloadn (k0 := 1) (q := 63) dX9_findNewest_62 rfl rfl rfl ?_
          refine g_iload (k0 := 5) (q := 65) dX9_findNewest_63 rfl rfl ?_
          refine g_iloadn (k0 := 2) (q := 66) dX9_findNewest_65 rfl rfl rfl ?_
          refine g_scalli (q := 69) [.ref (eA E 11), .int v5, .int v2] [] cs_X9_49 (c_X9_areOfOneText hE h) rfl rfl ⟨rfl, rfl, Nat.le_of_ble_eq_true rfl, Nat.le_of_ble_eq_true rfl, Nat.zero_le _, Nat.zero_le _⟩ (Nat.le_of_ble_eq_true rfl) dX9_findNewest_66 rfl (fun r7 M6 h => ?_)
          obtain ⟨hb_r7, h⟩ := h
          refine g_if_eq (tgt := 113) (q := 72) dX9_findNewest_69 rfl rfl (fun hc13 => ?_) (fun hc13 => ?_)
          · replace h := h.1 hc13
            refine g_iinc (lv' := [(0, .ref (eA E 15)), (1, .ref (eA E 11)), (2, .int v2), (3, .int v3), (4, .int v4), (5, .int (v5 + 1)), (6, .int r4)]) (k0 := 5) (w := (v5 + 1)) (q := 116) [1, 2, 3, 4, 5, 0, 6] dX9_findNewest_113 rfl rfl (by decide) rfl rfl ?_
            refine g_goto (tgt := 29) dX9_findNewest_116 rfl ?_
            refine g_lv (lv' := [(0, .ref (eA E 15)), (1, .ref (eA E 11)), (2, .int v2), (3, .int v3), (4, .int v4), (5, .int (v5 + 1))]) [0, 1, 2, 3, 4, 5] rfl ?_
            exact ih _ _ _ _ _ h
          · replace h := h.2 hc13
            refine g_iload (k0 := 6) (q := 74) dX9_findNewest_72 rfl rfl ?_
            refine g_if_lt (tgt := 113) (q := 77) dX9_findNewest_74 rfl rfl (fun hc12 => ?_) (fun hc12 => ?_)
            · replace h := h.1 hc12
              refine g_iinc (lv' := [(0, .ref (eA E 15)), (1, .ref (eA E 11)), (2, .int v2), (3, .int v3), (4, .int v4), (5, .int (v5 + 1)), (6, .int r4)]) (k0 := 5) (w := (v5 + 1)) (q := 116) [1, 2, 3, 4, 5, 0, 6] dX9_findNewest_113 rfl rfl (by decide) rfl rfl ?_
              refine g_goto (tgt := 29) dX9_findNewest_116 rfl ?_
              refine g_lv (lv' := [(0, .ref (eA E 15)), (1, .ref (eA E 11)), (2, .int v2), (3, .int v3), (4, .int v4), (5, .int (v5 + 1))]) [0, 1, 2, 3, 4, 5] rfl ?_
              exact ih _ _ _ _ _ h
            · replace h := h.2 hc12
              refine g_iload (k0 := 6) (q := 79) dX9_findNewest_77 rfl rfl ?_
              refine g_iloadn (k0 := 3) (q := 80) dX9_findNewest_79 rfl rfl rfl ?_
              refine g_ic_ge (tgt := 113) (q := 83) dX9_findNewest_80 rfl rfl (fun hc11 => ?_) (fun hc11 => ?_)
              · replace h := h.1 hc11
                refine g_iinc (lv' := [(0, .ref (eA E 15)), (1, .ref (eA E 11)), (2, .int v2), (3, .int v3), (4, .int v4), (5, .int (v5 + 1)), (6, .int r4)]) (k0 := 5) (w := (v5 + 1)) (q := 116) [1, 2, 3, 4, 5, 0, 6] dX9_findNewest_113 rfl rfl (by decide) rfl rfl ?_
                refine g_goto (tgt := 29) dX9_findNewest_116 rfl ?_
                refine g_lv (lv' := [(0, .ref (eA E 15)), (1, .ref (eA E 11)), (2, .int v2), (3, .int v3), (4, .int v4), (5, .int (v5 + 1))]) [0, 1, 2, 3, 4, 5] rfl ?_
                exact ih _ _ _ _ _ h
              · replace h := h.2 hc11
                refine g_iload (k0 := 4) (q := 85) dX9_findNewest_83 rfl rfl ?_
                refine g_aloadn (k0 := 0) (q := 86) dX9_findNewest_85 rfl rfl rfl ?_
                refine g_get (v := .ref (eA E 19)) (q := 89) fg_X9_26_15 rfl dX9_findNewest_86 rfl ?_
                refine g_iload (k0 := 6) (q := 91) dX9_findNewest_89 rfl rfl ?_
                have hv8 := h.1
                replace h := h.2
                refine g_iald (v := (M6.1 19 r4.toNatClampNeg)) (q := 92) ar_19 hv8 rfl dX9_findNewest_91 rfl ?_
                refine g_iconst (q := 93) dX9_findNewest_92 ki_m1 rfl ?_
                refine g_ic_ne (tgt := 100) (q := 96) dX9_findNewest_93 rfl rfl (fun hc10 => ?_) (fun hc10 => ?_)
                · replace h := h.1 hc10
                  refine g_iconst (q := 101) dX9_findNewest_100 ki_0 rfl ?_
                  refine g_lv (lv' := [(0, .ref (eA E 15)), (1, .ref (eA E 11)), (2, .int v2), (3, .int v3), (5, .int v5), (6, .int r4)]) [0, 1, 2, 3, 5, 6] rfl ?_
                  exact g_X9_findNewest_101 hE hz ih _ _ _ _ _ _ _ h
                · replace h := h.2 hc10
                  refine g_iconst (q := 97) dX9_findNewest_96 ki_1 rfl ?_
                  refine g_goto (tgt := 101) dX9_findNewest_97 rfl ?_
                  refine g_lv (lv' := [(0, .ref (eA E 15)), (1, .ref (eA E 11)), (2, .int v2), (3, .int v3), (5, .int v5), (6, .int r4)]) [0, 1, 2, 3, 5, 6] rfl ?_
                  exact g_X9_findNewest_101 hE hz ih _ _ _ _ _ _ _ h
set_option maxHeartbeats 4000000 in
set_option maxRecDepth 100000 in
theorem g_X9_findNewest_3 {x : GX} {E : EX} (hE : EH E) {Q : Int32 → Mem → Prop} (hz : ZI x E (fun r M => nb r ∧ Q r M)) : ∀ (n : Nat) (v2 : Int32) (v3 : Int32) (v4 : Int32) (M : Mem), P_TextBook_findNewest_3 Q n v2 v3 v4 M → G x E mX9_findNewest 0 0 3 [(0, .ref (eA E 15)), (1, .ref (eA E 11)), (2, .int v2), (3, .int v3), (4, .int v4)] [] M := by
  intro n
  induction n with
  | zero => intro _ _ _ _ h; exact h.elim
  | succ n ih =>
    intro v2 v3 v4 M h
    unfold P_TextBook_findNewest_3 at h
    refine g_iload (k0 := 4) (q := 5) dX9_findNewest_3 rfl rfl ?_
    refine g_iconst (q := 6) dX9_findNewest_5 ki_5 rfl ?_
    refine g_ic_ge (tgt := 23) (q := 9) dX9_findNewest_6 rfl rfl (fun hc19 => ?_) (fun hc19 => ?_)
    · replace h := h.1 hc19
      refine g_iconst (q := 24) dX9_findNewest_23 ki_0 rfl ?_
      refine g_istore (lv' := [(0, .ref (eA E 15)), (1, .ref (eA E 11)), (2, .int v2), (3, .int v3), (4, .int 0)]) (q := 26) [1, 2, 3, 4, 0] dX9_findNewest_24 (by decide) rfl rfl ?_
      refine g_iconst (q := 27) dX9_findNewest_26 ki_0 rfl ?_
      refine g_istore (lv' := [(0, .ref (eA E 15)), (1, .ref (eA E 11)), (2, .int v2), (3, .int v3), (4, .int 0), (5, .int 0)]) (q := 29) [1, 2, 3, 4, 5, 0] dX9_findNewest_27 (by decide) rfl rfl ?_
      obtain ⟨n1, h⟩ := h
      exact g_X9_findNewest_29 hE hz n1 _ _ _ _ _ h
    · replace h := h.2 hc19
      refine g_aloadn (k0 := 0) (q := 10) dX9_findNewest_9 rfl rfl rfl ?_
      refine g_get (v := .ref (eA E 19)) (q := 13) fg_X9_26_15 rfl dX9_findNewest_10 rfl ?_
      refine g_iload (k0 := 4) (q := 15) dX9_findNewest_13 rfl rfl ?_
      refine g_iconst (q := 16) dX9_findNewest_15 ki_m1 rfl ?_
      have hv18 := h.1
      replace h := h.2
      refine g_iast (q := 17) ar_19 hv18 dX9_findNewest_16 rfl ?_
      refine g_iinc (lv' := [(0, .ref (eA E 15)), (1, .ref (eA E 11)), (2, .int v2), (3, .int v3), (4, .int (v4 + 1))]) (k0 := 4) (w := (v4 + 1)) (q := 20) [1, 2, 3, 4, 0] dX9_findNewest_17 rfl rfl (by decide) rfl rfl ?_
      refine g_goto (tgt := 3) dX9_findNewest_20 rfl ?_
      exact ih _ _ _ _ h
set_option maxHeartbeats 4000000 in
set_option maxRecDepth 100000 in
theorem c_X9_findNewest {E : EX} (hE : EH E) {a2 : Int32} {a3 : Int32} {M : Mem} {Q : Int32 → Mem → Prop} (h : P_TextBook_findNewest a2 a3 M Q) : CI yX9_findNewest cX9_findNewest 7 (some .boolean) rmX9_findNewest E [.ref (eA E 15), .ref (eA E 11), .int a2, .int a3] M (fun r M => nb r ∧ Q r M) := by
  refine CI.of hE (plainFor_of_name (by decide)) (Nat.le_of_ble_eq_true rfl) (fun x hz => ?_)
  unfold P_TextBook_findNewest at h
  show G x E mX9_findNewest 0 0 0 [(0, .ref (eA E 15)), (1, .ref (eA E 11)), (2, .int a2), (3, .int a3)] [] M
  refine g_iconst (q := 1) dX9_findNewest_0 ki_0 rfl ?_
  refine g_istore (lv' := [(0, .ref (eA E 15)), (1, .ref (eA E 11)), (2, .int a2), (3, .int a3), (4, .int 0)]) (q := 3) [1, 2, 3, 4, 0] dX9_findNewest_1 (by decide) rfl rfl ?_
  obtain ⟨n1, h⟩ := h
  exact g_X9_findNewest_3 hE hz n1 _ _ _ _ h
set_option maxHeartbeats 4000000 in
set_option maxRecDepth 100000 in
theorem g_X9_join_59 {x : GX} {E : EX} (hE : EH E) {Q : Mem → Prop} (hz : ZU x E Q) : ∀ (n : Nat) (v2 : Int32) (v4 : Int32) (M : Mem), P_TextBook_join_59 Q n v2 v4 M → G x E mX9_join 0 0 59 [(0, .ref (eA E 15)), (1, .ref (eA E 11)), (2, .int v2), (4, .int v4)] [] M := by
  intro n
  induction n with
  | zero => intro _ _ _ h; exact h.elim
  | succ n ih =>
    intro v2 v4 M h
    unfold P_TextBook_join_59 at h
    refine g_iload (k0 := 3) (q := 61) dX9_join_59 rfl rfl ?_
    refine g_iloadn (k0 := 2) (q := 62) dX9_join_61 rfl rfl rfl ?_
    refine g_ic_gt (tgt := 97) (q := 65) dX9_join_62 rfl rfl (fun hc7 => ?_) (fun hc7 => ?_)
    · replace h := h.1 hc7
      exact g_vret hz rfl dX9_join_97 h
    · replace h := h.2 hc7
      refine g_iload (k0 := 3) (q := 67) dX9_join_65 rfl rfl ?_
      refine g_sipush (q := 70) dX9_join_67 ks_200 rfl ?_
      refine g_ic_ge (tgt := 97) (q := 73) dX9_join_70 rfl rfl (fun hc6 => ?_) (fun hc6 => ?_)
      · replace h := h.1 hc6
        exact g_vret hz rfl dX9_join_97 h
      · replace h := h.2 hc6
        refine g_aloadn (k0 := 1) (q := 74) dX9_join_73 rfl rfl rfl ?_
        refine g_iload (k0 := 3) (q := 76) dX9_join_74 rfl rfl ?_
        refine g_iloadn (k0 := 2) (q := 77) dX9_join_76 rfl rfl rfl ?_
        refine g_scalli (q := 80) [.ref (eA E 11), .int v4, .int v2] [] cs_X9_49 (c_X9_areOfOneText hE h) rfl rfl ⟨rfl, rfl, Nat.le_of_ble_eq_true rfl, Nat.le_of_ble_eq_true rfl, Nat.zero_le _, Nat.zero_le _⟩ (Nat.le_of_ble_eq_true rfl) dX9_join_77 rfl (fun r3 M2 h => ?_)
        obtain ⟨hb_r3, h⟩ := h
        refine g_if_eq (tgt := 91) (q := 83) dX9_join_80 rfl rfl (fun hc5 => ?_) (fun hc5 => ?_)
        · replace h := h.1 hc5
          refine g_iinc (lv' := [(0, .ref (eA E 15)), (1, .ref (eA E 11)), (2, .int v2), (4, .int (v4 + 1))]) (k0 := 3) (w := (v4 + 1)) (q := 94) [1, 2, 3, 0] dX9_join_91 rfl rfl (by decide) rfl rfl ?_
          refine g_goto (tgt := 59) dX9_join_94 rfl ?_
          exact ih _ _ _ h
        · replace h := h.2 hc5
          refine g_aloadn (k0 := 0) (q := 84) dX9_join_83 rfl rfl rfl ?_
          refine g_get (v := .ref (eA E 16)) (q := 87) fg_X9_13_15 rfl dX9_join_84 rfl ?_
          refine g_iload (k0 := 3) (q := 89) dX9_join_87 rfl rfl ?_
          refine g_iconst (q := 90) dX9_join_89 ki_1 rfl ?_
          have hv4 := h.1
          replace h := h.2
          refine g_zast (q := 91) ar_16 hv4 rfl dX9_join_90 rfl ?_
          refine g_iinc (lv' := [(0, .ref (eA E 15)), (1, .ref (eA E 11)), (2, .int v2), (4, .int (v4 + 1))]) (k0 := 3) (w := (v4 + 1)) (q := 94) [1, 2, 3, 0] dX9_join_91 rfl rfl (by decide) rfl rfl ?_
          refine g_goto (tgt := 59) dX9_join_94 rfl ?_
          exact ih _ _ _ h
set_option maxHeartbeats 4000000 in
set_option maxRecDepth 100000 in
theorem g_X9_join_3 {x : GX} {E : EX} (hE : EH E) {Q : Mem → Prop} (hz : ZU x E Q) : ∀ (n : Nat) (v2 : Int32) (v3 : Int32) (v4 : Int32) (M : Mem), P_TextBook_join_3 Q n v2 v3 v4 M → G x E mX9_join 0 0 3 [(0, .ref (eA E 15)), (1, .ref (eA E 11)), (2, .int v2), (3, .int v3), (4, .int v4)] [] M := by
  intro n
  induction n with
  | zero => intro _ _ _ _ h; exact h.elim
  | succ n ih =>
    intro v2 v3 v4 M h
    unfold P_TextBook_join_3 at h
    refine g_iload (k0 := 4) (q := 5) dX9_join_3 rfl rfl ?_
    refine g_iloadn (k0 := 3) (q := 6) dX9_join_5 rfl rfl rfl ?_
    refine g_ic_ge (tgt := 36) (q := 9) dX9_join_6 rfl rfl (fun hc11 => ?_) (fun hc11 => ?_)
    · replace h := h.1 hc11
      refine g_aloadn (k0 := 0) (q := 37) dX9_join_36 rfl rfl rfl ?_
      refine g_get (v := .ref (eA E 18)) (q := 40) fg_X9_23_15 rfl dX9_join_37 rfl ?_
      refine g_aloadn (k0 := 0) (q := 41) dX9_join_40 rfl rfl rfl ?_
      refine g_get (v := .int (M.1 15 4)) (q := 44) fg_X9_29_15 rfl dX9_join_41 rfl ?_
      refine g_iloadn (k0 := 2) (q := 45) dX9_join_44 rfl rfl rfl ?_
      have hv1 := h.1
      replace h := h.2
      refine g_iast (q := 46) ar_18 hv1 dX9_join_45 rfl ?_
      refine g_aloadn (k0 := 0) (q := 47) dX9_join_46 rfl rfl rfl ?_
      refine g_dup (q := 48) dX9_join_47 rfl rfl ?_
      refine g_get (v := .int (M.1 15 4)) (q := 51) fg_X9_29_15 rfl dX9_join_48 rfl ?_
      refine g_iconst (q := 52) dX9_join_51 ki_1 rfl ?_
      refine g_iadd (q := 53) dX9_join_52 rfl ?_
      refine g_putI (q := 56) fp_X9_29_15 dX9_join_53 rfl ?_
      refine g_iconst (q := 57) dX9_join_56 ki_0 rfl ?_
      refine g_istore (lv' := [(0, .ref (eA E 15)), (1, .ref (eA E 11)), (2, .int v2), (3, .int v3), (4, .int 0)]) (q := 59) [1, 2, 3, 4, 0] dX9_join_57 (by decide) rfl rfl ?_
      refine g_lv (lv' := [(0, .ref (eA E 15)), (1, .ref (eA E 11)), (2, .int v2), (4, .int 0)]) [0, 1, 2, 4] rfl ?_
      obtain ⟨n1, h⟩ := h
      exact g_X9_join_59 hE hz n1 _ _ _ h
    · replace h := h.2 hc11
      refine g_aloadn (k0 := 0) (q := 10) dX9_join_9 rfl rfl rfl ?_
      refine g_get (v := .ref (eA E 17)) (q := 13) fg_X9_19_15 rfl dX9_join_10 rfl ?_
      refine g_aloadn (k0 := 0) (q := 14) dX9_join_13 rfl rfl rfl ?_
      refine g_get (v := .int (M.1 15 4)) (q := 17) fg_X9_29_15 rfl dX9_join_14 rfl ?_
      refine g_iconst (q := 18) dX9_join_17 ki_5 rfl ?_
      refine g_imul (q := 19) dX9_join_18 rfl ?_
      refine g_iload (k0 := 4) (q := 21) dX9_join_19 rfl rfl ?_
      refine g_iadd (q := 22) dX9_join_21 rfl ?_
      refine g_aloadn (k0 := 0) (q := 23) dX9_join_22 rfl rfl rfl ?_
      refine g_get (v := .ref (eA E 19)) (q := 26) fg_X9_26_15 rfl dX9_join_23 rfl ?_
      refine g_iload (k0 := 4) (q := 28) dX9_join_26 rfl rfl ?_
      have hv9 := h.1
      replace h := h.2
      refine g_iald (v := (M.1 19 v4.toNatClampNeg)) (q := 29) ar_19 hv9 rfl dX9_join_28 rfl ?_
      have hv10 := h.1
      replace h := h.2
      refine g_iast (q := 30) ar_17 hv10 dX9_join_29 rfl ?_
      refine g_iinc (lv' := [(0, .ref (eA E 15)), (1, .ref (eA E 11)), (2, .int v2), (3, .int v3), (4, .int (v4 + 1))]) (k0 := 4) (w := (v4 + 1)) (q := 33) [1, 2, 3, 4, 0] dX9_join_30 rfl rfl (by decide) rfl rfl ?_
      refine g_goto (tgt := 3) dX9_join_33 rfl ?_
      exact ih _ _ _ _ h
set_option maxHeartbeats 4000000 in
set_option maxRecDepth 100000 in
theorem c_X9_join {E : EX} (hE : EH E) {a2 : Int32} {a3 : Int32} {M : Mem} {Q : Mem → Prop} (h : P_TextBook_join a2 a3 M Q) : CU yX9_join cX9_join 5 none rmX9_join E [.ref (eA E 15), .ref (eA E 11), .int a2, .int a3] M Q := by
  refine CU.of hE (plainFor_of_name (by decide)) (Nat.le_of_ble_eq_true rfl) (fun x hz => ?_)
  unfold P_TextBook_join at h
  show G x E mX9_join 0 0 0 [(0, .ref (eA E 15)), (1, .ref (eA E 11)), (2, .int a2), (3, .int a3)] [] M
  refine g_iconst (q := 1) dX9_join_0 ki_0 rfl ?_
  refine g_istore (lv' := [(0, .ref (eA E 15)), (1, .ref (eA E 11)), (2, .int a2), (3, .int a3), (4, .int 0)]) (q := 3) [1, 2, 3, 4, 0] dX9_join_1 (by decide) rfl rfl ?_
  obtain ⟨n1, h⟩ := h
  exact g_X9_join_3 hE hz n1 _ _ _ _ h
set_option maxHeartbeats 4000000 in
set_option maxRecDepth 100000 in
theorem c_X9_note {E : EX} (hE : EH E) {a2 : Int32} {M : Mem} {Q : Mem → Prop} (h : P_TextBook_note a2 M Q) : CU yX9_note cX9_note 4 none rmX9_note E [.ref (eA E 15), .ref (eA E 11), .int a2] M Q := by
  refine CU.of hE (plainFor_of_name (by decide)) (Nat.le_of_ble_eq_true rfl) (fun x hz => ?_)
  unfold P_TextBook_note at h
  show G x E mX9_note 0 0 0 [(0, .ref (eA E 15)), (1, .ref (eA E 11)), (2, .int a2)] [] M
  refine g_aloadn (k0 := 1) (q := 1) dX9_note_0 rfl rfl rfl ?_
  refine g_iloadn (k0 := 2) (q := 2) dX9_note_1 rfl rfl rfl ?_
  refine g_bipush (q := 4) dX9_note_2 kb_6 rfl ?_
  refine g_calli (q := 7) [.int a2, .int 6] [] cv_X9_37 rc_11 (c_X2_cell hE h) rfl rfl ⟨rfl, rfl, Nat.le_of_ble_eq_true rfl, Nat.le_of_ble_eq_true rfl, Nat.zero_le _, Nat.zero_le _⟩ (Nat.le_of_ble_eq_true rfl) dX9_note_4 rfl (fun r2 M1 h => ?_)
  refine g_istoren (lv' := [(0, .ref (eA E 15)), (1, .ref (eA E 11)), (2, .int a2), (3, .int r2)]) (q := 8) [1, 2, 3, 0] dX9_note_7 rfl (by decide) rfl rfl ?_
  refine g_aloadn (k0 := 0) (q := 9) dX9_note_8 rfl rfl rfl ?_
  refine g_get (v := .int (M1.1 15 4)) (q := 12) fg_X9_29_15 rfl dX9_note_9 rfl ?_
  refine g_bipush (q := 14) dX9_note_12 kb_100 rfl ?_
  refine g_ic_ge (tgt := 39) (q := 17) dX9_note_14 rfl rfl (fun hc8 => ?_) (fun hc8 => ?_)
  · replace h := h.1 hc8
    exact g_vret hz rfl dX9_note_39 h
  · replace h := h.2 hc8
    refine g_iloadn (k0 := 3) (q := 18) dX9_note_17 rfl rfl rfl ?_
    refine g_iconst (q := 19) dX9_note_18 ki_5 rfl ?_
    refine g_ic_gt (tgt := 39) (q := 22) dX9_note_19 rfl rfl (fun hc7 => ?_) (fun hc7 => ?_)
    · replace h := h.1 hc7
      exact g_vret hz rfl dX9_note_39 h
    · replace h := h.2 hc7
      refine g_aloadn (k0 := 0) (q := 23) dX9_note_22 rfl rfl rfl ?_
      refine g_aloadn (k0 := 1) (q := 24) dX9_note_23 rfl rfl rfl ?_
      refine g_iloadn (k0 := 2) (q := 25) dX9_note_24 rfl rfl rfl ?_
      refine g_iloadn (k0 := 3) (q := 26) dX9_note_25 rfl rfl rfl ?_
      refine g_calli (q := 29) [.ref (eA E 11), .int a2, .int r2] [] cv_X9_41 rc_15 (c_X9_findNewest hE h) rfl rfl ⟨rfl, rfl, Nat.le_of_ble_eq_true rfl, Nat.le_of_ble_eq_true rfl, Nat.zero_le _, Nat.zero_le _⟩ (Nat.le_of_ble_eq_true rfl) dX9_note_26 rfl (fun r4 M3 h => ?_)
      obtain ⟨hb_r4, h⟩ := h
      refine g_if_eq (tgt := 39) (q := 32) dX9_note_29 rfl rfl (fun hc6 => ?_) (fun hc6 => ?_)
      · replace h := h.1 hc6
        exact g_vret hz rfl dX9_note_39 h
      · replace h := h.2 hc6
        refine g_aloadn (k0 := 0) (q := 33) dX9_note_32 rfl rfl rfl ?_
        refine g_aloadn (k0 := 1) (q := 34) dX9_note_33 rfl rfl rfl ?_
        refine g_iloadn (k0 := 2) (q := 35) dX9_note_34 rfl rfl rfl ?_
        refine g_iloadn (k0 := 3) (q := 36) dX9_note_35 rfl rfl rfl ?_
        refine g_callv (q := 39) [.ref (eA E 11), .int a2, .int r2] [] cv_X9_45 rc_15 (c_X9_join hE h) rfl rfl ⟨rfl, rfl, Nat.le_of_ble_eq_true rfl, Nat.le_of_ble_eq_true rfl, Nat.zero_le _, Nat.zero_le _⟩ (Nat.le_of_ble_eq_true rfl) dX9_note_36 rfl (fun M5 h => ?_)
        exact g_vret hz rfl dX9_note_39 h
set_option maxHeartbeats 4000000 in
set_option maxRecDepth 100000 in
theorem c_X0_doClash {E : EX} (hE : EH E) {a2 : Int32} {a3 : Int32} {M : Mem} {Q : Int32 → Mem → Prop} (h : P_ClashBook_doClash a2 a3 M Q) : CI yX0_doClash cX0_doClash 4 (some .boolean) rmX0_doClash E [.ref (eA E 11), .int a2, .int a3] M (fun r M => nb r ∧ Q r M) := by
  refine CI.of hE (plainFor_of_name (by decide)) (Nat.le_of_ble_eq_true rfl) (fun x hz => ?_)
  unfold P_ClashBook_doClash at h
  show G x E mX0_doClash 0 0 0 [(0, .ref (eA E 11)), (1, .int a2), (2, .int a3)] [] M
  refine g_aloadn (k0 := 0) (q := 1) dX0_doClash_0 rfl rfl rfl ?_
  refine g_iloadn (k0 := 2) (q := 2) dX0_doClash_1 rfl rfl rfl ?_
  refine g_iconst (q := 3) dX0_doClash_2 ki_0 rfl ?_
  refine g_calli (q := 6) [.int a3, .int 0] [] cv_X0_25 rc_11 (c_X2_cell hE h) rfl rfl ⟨rfl, rfl, Nat.le_of_ble_eq_true rfl, Nat.le_of_ble_eq_true rfl, Nat.zero_le _, Nat.zero_le _⟩ (Nat.le_of_ble_eq_true rfl) dX0_doClash_3 rfl (fun r2 M1 h => ?_)
  refine g_iconst (q := 7) dX0_doClash_6 ki_5 rfl ?_
  refine g_ic_ne (tgt := 40) (q := 10) dX0_doClash_7 rfl rfl (fun hc20 => ?_) (fun hc20 => ?_)
  · replace h := h.1 hc20
    refine g_iconst (q := 41) dX0_doClash_40 ki_0 rfl ?_
    exact g_zret hz rfl rfl dX0_doClash_41 h
  · replace h := h.2 hc20
    refine g_aloadn (k0 := 0) (q := 11) dX0_doClash_10 rfl rfl rfl ?_
    refine g_iloadn (k0 := 2) (q := 12) dX0_doClash_11 rfl rfl rfl ?_
    refine g_iconst (q := 13) dX0_doClash_12 ki_4 rfl ?_
    refine g_calli (q := 16) [.int a3, .int 4] [] cv_X0_25 rc_11 (c_X2_cell hE h) rfl rfl ⟨rfl, rfl, Nat.le_of_ble_eq_true rfl, Nat.le_of_ble_eq_true rfl, Nat.zero_le _, Nat.zero_le _⟩ (Nat.le_of_ble_eq_true rfl) dX0_doClash_13 rfl (fun r4 M3 h => ?_)
    refine g_aloadn (k0 := 0) (q := 17) dX0_doClash_16 rfl rfl rfl ?_
    refine g_iloadn (k0 := 1) (q := 18) dX0_doClash_17 rfl rfl rfl ?_
    refine g_iconst (q := 19) dX0_doClash_18 ki_4 rfl ?_
    refine g_calli (q := 22) [.int a2, .int 4] [.int r4] cv_X0_25 rc_11 (c_X2_cell hE h) rfl rfl ⟨rfl, rfl, Nat.le_of_ble_eq_true rfl, Nat.le_of_ble_eq_true rfl, Nat.zero_le _, Nat.zero_le _⟩ (Nat.le_of_ble_eq_true rfl) dX0_doClash_19 rfl (fun r6 M5 h => ?_)
    refine g_ic_ne (tgt := 40) (q := 25) dX0_doClash_22 rfl rfl (fun hc19 => ?_) (fun hc19 => ?_)
    · replace h := h.1 hc19
      refine g_iconst (q := 41) dX0_doClash_40 ki_0 rfl ?_
      exact g_zret hz rfl rfl dX0_doClash_41 h
    · replace h := h.2 hc19
      refine g_aloadn (k0 := 0) (q := 26) dX0_doClash_25 rfl rfl rfl ?_
      refine g_iloadn (k0 := 2) (q := 27) dX0_doClash_26 rfl rfl rfl ?_
      refine g_iconst (q := 28) dX0_doClash_27 ki_1 rfl ?_
      refine g_calli (q := 31) [.int a3, .int 1] [] cv_X0_25 rc_11 (c_X2_cell hE h) rfl rfl ⟨rfl, rfl, Nat.le_of_ble_eq_true rfl, Nat.le_of_ble_eq_true rfl, Nat.zero_le _, Nat.zero_le _⟩ (Nat.le_of_ble_eq_true rfl) dX0_doClash_28 rfl (fun r8 M7 h => ?_)
      refine g_aloadn (k0 := 0) (q := 32) dX0_doClash_31 rfl rfl rfl ?_
      refine g_iloadn (k0 := 1) (q := 33) dX0_doClash_32 rfl rfl rfl ?_
      refine g_iconst (q := 34) dX0_doClash_33 ki_1 rfl ?_
      refine g_calli (q := 37) [.int a2, .int 1] [.int r8] cv_X0_25 rc_11 (c_X2_cell hE h) rfl rfl ⟨rfl, rfl, Nat.le_of_ble_eq_true rfl, Nat.le_of_ble_eq_true rfl, Nat.zero_le _, Nat.zero_le _⟩ (Nat.le_of_ble_eq_true rfl) dX0_doClash_34 rfl (fun r10 M9 h => ?_)
      refine g_ic_ne (tgt := 42) (q := 40) dX0_doClash_37 rfl rfl (fun hc18 => ?_) (fun hc18 => ?_)
      · replace h := h.1 hc18
        refine g_aloadn (k0 := 0) (q := 43) dX0_doClash_42 rfl rfl rfl ?_
        refine g_iloadn (k0 := 2) (q := 44) dX0_doClash_43 rfl rfl rfl ?_
        refine g_iconst (q := 45) dX0_doClash_44 ki_3 rfl ?_
        refine g_calli (q := 48) [.int a3, .int 3] [] cv_X0_25 rc_11 (c_X2_cell hE h) rfl rfl ⟨rfl, rfl, Nat.le_of_ble_eq_true rfl, Nat.le_of_ble_eq_true rfl, Nat.zero_le _, Nat.zero_le _⟩ (Nat.le_of_ble_eq_true rfl) dX0_doClash_45 rfl (fun r12 M11 h => ?_)
        refine g_aloadn (k0 := 0) (q := 49) dX0_doClash_48 rfl rfl rfl ?_
        refine g_iloadn (k0 := 2) (q := 50) dX0_doClash_49 rfl rfl rfl ?_
        refine g_iconst (q := 51) dX0_doClash_50 ki_5 rfl ?_
        refine g_calli (q := 54) [.int a3, .int 5] [.int r12] cv_X0_25 rc_11 (c_X2_cell hE h) rfl rfl ⟨rfl, rfl, Nat.le_of_ble_eq_true rfl, Nat.le_of_ble_eq_true rfl, Nat.zero_le _, Nat.zero_le _⟩ (Nat.le_of_ble_eq_true rfl) dX0_doClash_51 rfl (fun r14 M13 h => ?_)
        refine g_bipush (q := 56) dX0_doClash_54 kb_60 rfl ?_
        refine g_imul (q := 57) dX0_doClash_56 rfl ?_
        refine g_iadd (q := 58) dX0_doClash_57 rfl ?_
        refine g_istoren (lv' := [(0, .ref (eA E 11)), (1, .int a2), (2, .int a3), (3, .int (r12 + (r14 * 60)))]) (q := 59) [1, 2, 3, 0] dX0_doClash_58 rfl (by decide) rfl rfl ?_
        refine g_aloadn (k0 := 0) (q := 60) dX0_doClash_59 rfl rfl rfl ?_
        refine g_iloadn (k0 := 1) (q := 61) dX0_doClash_60 rfl rfl rfl ?_
        refine g_iconst (q := 62) dX0_doClash_61 ki_3 rfl ?_
        refine g_calli (q := 65) [.int a2, .int 3] [] cv_X0_25 rc_11 (c_X2_cell hE h) rfl rfl ⟨rfl, rfl, Nat.le_of_ble_eq_true rfl, Nat.le_of_ble_eq_true rfl, Nat.zero_le _, Nat.zero_le _⟩ (Nat.le_of_ble_eq_true rfl) dX0_doClash_62 rfl (fun r16 M15 h => ?_)
        refine g_iloadn (k0 := 3) (q := 66) dX0_doClash_65 rfl rfl rfl ?_
        refine g_ic_ge (tgt := 73) (q := 69) dX0_doClash_66 rfl rfl (fun hc17 => ?_) (fun hc17 => ?_)
        · replace h := h.1 hc17
          refine g_iconst (q := 74) dX0_doClash_73 ki_0 rfl ?_
          exact g_zret hz rfl rfl dX0_doClash_74 h
        · replace h := h.2 hc17
          refine g_iconst (q := 70) dX0_doClash_69 ki_1 rfl ?_
          refine g_goto (tgt := 74) dX0_doClash_70 rfl ?_
          exact g_zret hz rfl rfl dX0_doClash_74 h
      · replace h := h.2 hc18
        refine g_iconst (q := 41) dX0_doClash_40 ki_0 rfl ?_
        exact g_zret hz rfl rfl dX0_doClash_41 h
set_option maxHeartbeats 4000000 in
set_option maxRecDepth 100000 in
theorem g_X0_note_17 {x : GX} {E : EX} (hE : EH E) {Q : Mem → Prop} (hz : ZU x E Q) : ∀ (n : Nat) (v2 : Int32) (v3 : Int32) (v4 : Int32) (M : Mem), P_ClashBook_note_17 Q n v2 v3 v4 M → G x E mX0_note 0 0 17 [(0, .ref (eA E 13)), (1, .ref (eA E 11)), (2, .int v2), (3, .int v3), (4, .int v4)] [] M := by
  intro n
  induction n with
  | zero => intro _ _ _ _ h; exact h.elim
  | succ n ih =>
    intro v2 v3 v4 M h
    unfold P_ClashBook_note_17 at h
    refine g_iload (k0 := 4) (q := 19) dX0_note_17 rfl rfl ?_
    refine g_iloadn (k0 := 2) (q := 20) dX0_note_19 rfl rfl rfl ?_
    refine g_ic_ge (tgt := 42) (q := 23) dX0_note_20 rfl rfl (fun hc5 => ?_) (fun hc5 => ?_)
    · replace h := h.1 hc5
      refine g_aloadn (k0 := 0) (q := 43) dX0_note_42 rfl rfl rfl ?_
      refine g_get (v := .ref (eA E 14)) (q := 46) fg_X0_11_13 rfl dX0_note_43 rfl ?_
      refine g_iloadn (k0 := 2) (q := 47) dX0_note_46 rfl rfl rfl ?_
      refine g_iloadn (k0 := 3) (q := 48) dX0_note_47 rfl rfl rfl ?_
      have hv1 := h.1
      replace h := h.2
      refine g_iast (q := 49) ar_14 hv1 dX0_note_48 rfl ?_
      refine g_aloadn (k0 := 0) (q := 50) dX0_note_49 rfl rfl rfl ?_
      refine g_dup (q := 51) dX0_note_50 rfl rfl ?_
      refine g_get (v := .int (M.1 13 1)) (q := 54) fg_X0_17_13 rfl dX0_note_51 rfl ?_
      refine g_iloadn (k0 := 3) (q := 55) dX0_note_54 rfl rfl rfl ?_
      refine g_iadd (q := 56) dX0_note_55 rfl ?_
      refine g_putI (q := 59) fp_X0_17_13 dX0_note_56 rfl ?_
      exact g_vret hz rfl dX0_note_59 h
    · replace h := h.2 hc5
      refine g_aloadn (k0 := 1) (q := 24) dX0_note_23 rfl rfl rfl ?_
      refine g_iloadn (k0 := 2) (q := 25) dX0_note_24 rfl rfl rfl ?_
      refine g_iload (k0 := 4) (q := 27) dX0_note_25 rfl rfl ?_
      refine g_scalli (q := 30) [.ref (eA E 11), .int v2, .int v4] [] cs_X0_21 (c_X0_doClash hE h) rfl rfl ⟨rfl, rfl, Nat.le_of_ble_eq_true rfl, Nat.le_of_ble_eq_true rfl, Nat.zero_le _, Nat.zero_le _⟩ (Nat.le_of_ble_eq_true rfl) dX0_note_27 rfl (fun r3 M2 h => ?_)
      obtain ⟨hb_r3, h⟩ := h
      refine g_if_eq (tgt := 36) (q := 33) dX0_note_30 rfl rfl (fun hc4 => ?_) (fun hc4 => ?_)
      · replace h := h.1 hc4
        refine g_iinc (lv' := [(0, .ref (eA E 13)), (1, .ref (eA E 11)), (2, .int v2), (3, .int v3), (4, .int (v4 + 1))]) (k0 := 4) (w := (v4 + 1)) (q := 39) [1, 2, 3, 4, 0] dX0_note_36 rfl rfl (by decide) rfl rfl ?_
        refine g_goto (tgt := 17) dX0_note_39 rfl ?_
        exact ih _ _ _ _ h
      · replace h := h.2 hc4
        refine g_iinc (lv' := [(0, .ref (eA E 13)), (1, .ref (eA E 11)), (2, .int v2), (3, .int (v3 + 1)), (4, .int v4)]) (k0 := 3) (w := (v3 + 1)) (q := 36) [1, 2, 3, 0, 4] dX0_note_33 rfl rfl (by decide) rfl rfl ?_
        refine g_iinc (lv' := [(0, .ref (eA E 13)), (1, .ref (eA E 11)), (2, .int v2), (3, .int (v3 + 1)), (4, .int (v4 + 1))]) (k0 := 4) (w := (v4 + 1)) (q := 39) [1, 2, 3, 4, 0] dX0_note_36 rfl rfl (by decide) rfl rfl ?_
        refine g_goto (tgt := 17) dX0_note_39 rfl ?_
        exact ih _ _ _ _ h
set_option maxHeartbeats 4000000 in
set_option maxRecDepth 100000 in
theorem c_X0_note {E : EX} (hE : EH E) {a2 : Int32} {M : Mem} {Q : Mem → Prop} (h : P_ClashBook_note a2 M Q) : CU yX0_note cX0_note 5 none rmX0_note E [.ref (eA E 13), .ref (eA E 11), .int a2] M Q := by
  refine CU.of hE (plainFor_of_name (by decide)) (Nat.le_of_ble_eq_true rfl) (fun x hz => ?_)
  unfold P_ClashBook_note at h
  show G x E mX0_note 0 0 0 [(0, .ref (eA E 13)), (1, .ref (eA E 11)), (2, .int a2)] [] M
  refine g_iloadn (k0 := 2) (q := 1) dX0_note_0 rfl rfl rfl ?_
  refine g_if_lt (tgt := 11) (q := 4) dX0_note_1 rfl rfl (fun hc8 => ?_) (fun hc8 => ?_)
  · replace h := h.1 hc8
    exact g_vret hz rfl dX0_note_11 h
  · replace h := h.2 hc8
    refine g_iloadn (k0 := 2) (q := 5) dX0_note_4 rfl rfl rfl ?_
    refine g_sipush (q := 8) dX0_note_5 ks_200 rfl ?_
    refine g_ic_lt (tgt := 12) (q := 11) dX0_note_8 rfl rfl (fun hc7 => ?_) (fun hc7 => ?_)
    · replace h := h.1 hc7
      refine g_iconst (q := 13) dX0_note_12 ki_0 rfl ?_
      refine g_istoren (lv' := [(0, .ref (eA E 13)), (1, .ref (eA E 11)), (2, .int a2), (3, .int 0)]) (q := 14) [1, 2, 3, 0] dX0_note_13 rfl (by decide) rfl rfl ?_
      refine g_iconst (q := 15) dX0_note_14 ki_0 rfl ?_
      refine g_istore (lv' := [(0, .ref (eA E 13)), (1, .ref (eA E 11)), (2, .int a2), (3, .int 0), (4, .int 0)]) (q := 17) [1, 2, 3, 4, 0] dX0_note_15 (by decide) rfl rfl ?_
      obtain ⟨n1, h⟩ := h
      exact g_X0_note_17 hE hz n1 _ _ _ _ h
    · replace h := h.2 hc7
      exact g_vret hz rfl dX0_note_11 h
set_option maxHeartbeats 4000000 in
set_option maxRecDepth 100000 in
theorem g_X10_readFrame_5_38 {x : GX} {E : EX} (hE : EH E) {Q : Mem → Prop} (hz : ZU x E Q) : ∀ (v2 : Int32) (M : Mem), P_Sv_readFrame_38 5 Q v2 M → G x E mX10_readFrame 0 0 38 [(0, .ref (eA E 0)), (2, .int v2)] [] M := by
  intro v2 M h
  unfold P_Sv_readFrame_38 at h
  refine g_aloadn (k0 := 0) (q := 39) dX10_readFrame_38 rfl rfl rfl ?_
  refine g_get (v := .ref (eA E 11)) (q := 42) fg_X10_43_0 rfl dX10_readFrame_39 rfl ?_
  refine g_aloadn (k0 := 0) (q := 43) dX10_readFrame_42 rfl rfl rfl ?_
  refine g_get (v := .ref (eA E 7)) (q := 46) fg_X10_29_0 rfl dX10_readFrame_43 rfl ?_
  refine g_iloadn (k0 := 1) (q := 47) dX10_readFrame_46 rfl rfl rfl ?_
  refine g_aloadn (k0 := 0) (q := 48) dX10_readFrame_47 rfl rfl rfl ?_
  refine g_get (v := .int (M.1 0 10)) (q := 51) fg_X10_75_0 rfl dX10_readFrame_48 rfl ?_
  refine g_calli (q := 54) [.ref (eA E 7), .int v2, .int (M.1 0 10)] [] cv_X10_210 rc_11 (c_X2_add hE h) rfl rfl ⟨rfl, rfl, Nat.le_of_ble_eq_true rfl, Nat.le_of_ble_eq_true rfl, Nat.zero_le _, Nat.zero_le _⟩ (Nat.le_of_ble_eq_true rfl) dX10_readFrame_51 rfl (fun r5 M4 h => ?_)
  refine g_istoren (lv' := [(0, .ref (eA E 0)), (2, .int v2), (3, .int r5)]) (q := 55) [1, 2, 0] dX10_readFrame_54 rfl (by decide) rfl rfl ?_
  refine g_iloadn (k0 := 2) (q := 56) dX10_readFrame_55 rfl rfl rfl ?_
  refine g_iconst (q := 57) dX10_readFrame_56 ki_m1 rfl ?_
  refine g_ic_ne (tgt := 61) (q := 60) dX10_readFrame_57 rfl rfl (fun hc14 => ?_) (fun hc14 => ?_)
  · replace h := h.1 hc14
    refine g_aloadn (k0 := 0) (q := 62) dX10_readFrame_61 rfl rfl rfl ?_
    refine g_get (v := .ref (eA E 7)) (q := 65) fg_X10_29_0 rfl dX10_readFrame_62 rfl ?_
    refine g_calli (q := 68) [] [] cv_X10_207 rc_7 (c_X8_kind hE h) rfl rfl ⟨rfl, rfl, Nat.le_of_ble_eq_true rfl, Nat.le_of_ble_eq_true rfl, Nat.zero_le _, Nat.zero_le _⟩ (Nat.le_of_ble_eq_true rfl) dX10_readFrame_65 rfl (fun r7 M6 h => ?_)
    refine g_iconst (q := 69) dX10_readFrame_68 ki_5 rfl ?_
    refine g_ic_ne (tgt := 87) (q := 72) dX10_readFrame_69 rfl rfl (fun hc13 => ?_) (fun hc13 => ?_)
    · replace h := h.1 hc13
      refine g_aloadn (k0 := 0) (q := 88) dX10_readFrame_87 rfl rfl rfl ?_
      refine g_get (v := .ref (eA E 7)) (q := 91) fg_X10_29_0 rfl dX10_readFrame_88 rfl ?_
      refine g_calli (q := 94) [] [] cv_X10_207 rc_7 (c_X8_kind hE h) rfl rfl ⟨rfl, rfl, Nat.le_of_ble_eq_true rfl, Nat.le_of_ble_eq_true rfl, Nat.zero_le _, Nat.zero_le _⟩ (Nat.le_of_ble_eq_true rfl) dX10_readFrame_91 rfl (fun r9 M8 h => ?_)
      refine g_iconst (q := 95) dX10_readFrame_94 ki_4 rfl ?_
      refine g_ic_ne (tgt := 110) (q := 98) dX10_readFrame_95 rfl rfl (fun hc11 => ?_) (fun hc11 => ?_)
      · replace h := h.1 hc11
        exact g_vret hz rfl dX10_readFrame_110 h
      · replace h := h.2 hc11
        refine g_aloadn (k0 := 0) (q := 99) dX10_readFrame_98 rfl rfl rfl ?_
        refine g_get (v := .ref (eA E 15)) (q := 102) fg_X10_57_0 rfl dX10_readFrame_99 rfl ?_
        refine g_aloadn (k0 := 0) (q := 103) dX10_readFrame_102 rfl rfl rfl ?_
        refine g_get (v := .ref (eA E 11)) (q := 106) fg_X10_43_0 rfl dX10_readFrame_103 rfl ?_
        refine g_iloadn (k0 := 2) (q := 107) dX10_readFrame_106 rfl rfl rfl ?_
        refine g_callv (q := 110) [.ref (eA E 11), .int r5] [] cv_X10_218 rc_15 (c_X9_note hE h) rfl rfl ⟨rfl, rfl, Nat.le_of_ble_eq_true rfl, Nat.le_of_ble_eq_true rfl, Nat.zero_le _, Nat.zero_le _⟩ (Nat.le_of_ble_eq_true rfl) dX10_readFrame_107 rfl (fun M10 h => ?_)
        exact g_vret hz rfl dX10_readFrame_110 h
    · replace h := h.2 hc13
      refine g_aloadn (k0 := 0) (q := 73) dX10_readFrame_72 rfl rfl rfl ?_
      refine g_get (v := .ref (eA E 13)) (q := 76) fg_X10_50_0 rfl dX10_readFrame_73 rfl ?_
      refine g_aloadn (k0 := 0) (q := 77) dX10_readFrame_76 rfl rfl rfl ?_
      refine g_get (v := .ref (eA E 11)) (q := 80) fg_X10_43_0 rfl dX10_readFrame_77 rfl ?_
      refine g_iloadn (k0 := 2) (q := 81) dX10_readFrame_80 rfl rfl rfl ?_
      refine g_callv (q := 84) [.ref (eA E 11), .int r5] [] cv_X10_214 rc_13 (c_X0_note hE h) rfl rfl ⟨rfl, rfl, Nat.le_of_ble_eq_true rfl, Nat.le_of_ble_eq_true rfl, Nat.zero_le _, Nat.zero_le _⟩ (Nat.le_of_ble_eq_true rfl) dX10_readFrame_81 rfl (fun M12 h => ?_)
      refine g_goto (tgt := 110) dX10_readFrame_84 rfl ?_
      exact g_vret hz rfl dX10_readFrame_110 h
  · replace h := h.2 hc14
    exact g_vret hz rfl dX10_readFrame_60 h
set_option maxHeartbeats 4000000 in
set_option maxRecDepth 100000 in
theorem c_X10_readFrame_5 {E : EX} (hE : EH E) {a2 : Int32} {M : Mem} {Q : Mem → Prop} (h : P_Sv_readFrame 5 a2 M Q) : CU yX10_readFrame cX10_readFrame 4 none rmX10_readFrame E [.ref (eA E 0), .ref (eA E 5), .int a2] M Q := by
  refine CU.of hE (plainFor_of_name (by decide)) (Nat.le_of_ble_eq_true rfl) (fun x hz => ?_)
  unfold P_Sv_readFrame at h
  show G x E mX10_readFrame 0 0 0 [(0, .ref (eA E 0)), (1, .ref (eA E 5)), (2, .int a2)] [] M
  refine g_aloadn (k0 := 0) (q := 1) dX10_readFrame_0 rfl rfl rfl ?_
  refine g_get (v := .ref (eA E 7)) (q := 4) fg_X10_29_0 rfl dX10_readFrame_1 rfl ?_
  refine g_aloadn (k0 := 1) (q := 5) dX10_readFrame_4 rfl rfl rfl ?_
  refine g_callv (q := 8) [.ref (eA E 5)] [] cv_X10_203 rc_7 (c_X8_readFrom_5 hE h) rfl rfl ⟨rfl, rfl, Nat.le_of_ble_eq_true rfl, Nat.le_of_ble_eq_true rfl, Nat.zero_le _, Nat.zero_le _⟩ (Nat.le_of_ble_eq_true rfl) dX10_readFrame_5 rfl (fun M1 h => ?_)
  refine g_aloadn (k0 := 0) (q := 9) dX10_readFrame_8 rfl rfl rfl ?_
  refine g_dup (q := 10) dX10_readFrame_9 rfl rfl ?_
  refine g_get (v := .int (M1.1 0 11)) (q := 13) fg_X10_79_0 rfl dX10_readFrame_10 rfl ?_
  refine g_iconst (q := 14) dX10_readFrame_13 ki_1 rfl ?_
  refine g_iadd (q := 15) dX10_readFrame_14 rfl ?_
  refine g_putI (q := 18) fp_X10_79_0 dX10_readFrame_15 rfl ?_
  refine g_aloadn (k0 := 0) (q := 19) dX10_readFrame_18 rfl rfl rfl ?_
  refine g_get (v := .ref (eA E 7)) (q := 22) fg_X10_29_0 rfl dX10_readFrame_19 rfl ?_
  refine g_calli (q := 25) [] [] cv_X10_207 rc_7 (c_X8_kind hE h) rfl rfl ⟨rfl, rfl, Nat.le_of_ble_eq_true rfl, Nat.le_of_ble_eq_true rfl, Nat.zero_le _, Nat.zero_le _⟩ (Nat.le_of_ble_eq_true rfl) dX10_readFrame_22 rfl (fun r3 M2 h => ?_)
  refine g_if_ne (tgt := 38) (q := 28) dX10_readFrame_25 rfl rfl (fun hc15 => ?_) (fun hc15 => ?_)
  · replace h := h.1 hc15
    refine g_lv (lv' := [(0, .ref (eA E 0)), (2, .int a2)]) [0, 2] rfl ?_
    exact g_X10_readFrame_5_38 hE hz _ _ h
  · replace h := h.2 hc15
    refine g_aloadn (k0 := 0) (q := 29) dX10_readFrame_28 rfl rfl rfl ?_
    refine g_dup (q := 30) dX10_readFrame_29 rfl rfl ?_
    refine g_get (v := .int (M2.1 0 12)) (q := 33) fg_X10_82_0 rfl dX10_readFrame_30 rfl ?_
    refine g_iconst (q := 34) dX10_readFrame_33 ki_1 rfl ?_
    refine g_iadd (q := 35) dX10_readFrame_34 rfl ?_
    refine g_putI (q := 38) fp_X10_82_0 dX10_readFrame_35 rfl ?_
    refine g_lv (lv' := [(0, .ref (eA E 0)), (2, .int a2)]) [0, 2] rfl ?_
    exact g_X10_readFrame_5_38 hE hz _ _ h
set_option maxHeartbeats 4000000 in
set_option maxRecDepth 100000 in
theorem c_X1_lose_3 {E : EX} (hE : EH E) {M : Mem} {Q : Mem → Prop} (h : P_Ear_lose 3  M Q) : CU yX1_lose cX1_lose 1 none rmX1_lose E [.ref (eA E 3)] M Q := by
  refine CU.of hE (plainFor_of_name (by decide)) (Nat.le_of_ble_eq_true rfl) (fun x hz => ?_)
  unfold P_Ear_lose at h
  show G x E mX1_lose 0 0 0 [(0, .ref (eA E 3))] [] M
  refine g_aloadn (k0 := 0) (q := 1) dX1_lose_0 rfl rfl rfl ?_
  refine g_get (v := .int (M.1 3 3)) (q := 4) fg_X1_22_3 rfl dX1_lose_1 rfl ?_
  refine g_bipush (q := 6) dX1_lose_4 kb_30 rfl ?_
  refine g_ic_lt (tgt := 19) (q := 9) dX1_lose_6 rfl rfl (fun hc1 => ?_) (fun hc1 => ?_)
  · replace h := h.1 hc1
    refine g_aloadn (k0 := 0) (q := 20) dX1_lose_19 rfl rfl rfl ?_
    refine g_iconst (q := 21) dX1_lose_20 ki_m1 rfl ?_
    refine g_putI (q := 24) fp_X1_22_3 dX1_lose_21 rfl ?_
    exact g_vret hz rfl dX1_lose_24 h
  · replace h := h.2 hc1
    refine g_aloadn (k0 := 0) (q := 10) dX1_lose_9 rfl rfl rfl ?_
    refine g_dup (q := 11) dX1_lose_10 rfl rfl ?_
    refine g_get (v := .int (M.1 3 4)) (q := 14) fg_X1_25_3 rfl dX1_lose_11 rfl ?_
    refine g_iconst (q := 15) dX1_lose_14 ki_1 rfl ?_
    refine g_iadd (q := 16) dX1_lose_15 rfl ?_
    refine g_putI (q := 19) fp_X1_25_3 dX1_lose_16 rfl ?_
    refine g_aloadn (k0 := 0) (q := 20) dX1_lose_19 rfl rfl rfl ?_
    refine g_iconst (q := 21) dX1_lose_20 ki_m1 rfl ?_
    refine g_putI (q := 24) fp_X1_22_3 dX1_lose_21 rfl ?_
    exact g_vret hz rfl dX1_lose_24 h
set_option maxHeartbeats 4000000 in
set_option maxRecDepth 100000 in
theorem c_X1_putBit_3 {E : EX} (hE : EH E) {a1 : Int32} {M : Mem} {Q : Mem → Prop} (h : P_Ear_putBit 3 a1 M Q) : CU yX1_putBit cX1_putBit 2 none rmX1_putBit E [.ref (eA E 3), .int a1] M Q := by
  refine CU.of hE (plainFor_of_name (by decide)) (Nat.le_of_ble_eq_true rfl) (fun x hz => ?_)
  unfold P_Ear_putBit at h
  show G x E mX1_putBit 0 0 0 [(0, .ref (eA E 3)), (1, .int a1)] [] M
  refine g_aloadn (k0 := 0) (q := 1) dX1_putBit_0 rfl rfl rfl ?_
  refine g_get (v := .int (M.1 3 3)) (q := 4) fg_X1_22_3 rfl dX1_putBit_1 rfl ?_
  refine g_iconst (q := 5) dX1_putBit_4 ki_m1 rfl ?_
  refine g_ic_ne (tgt := 9) (q := 8) dX1_putBit_5 rfl rfl (fun hc4 => ?_) (fun hc4 => ?_)
  · replace h := h.1 hc4
    refine g_aloadn (k0 := 0) (q := 10) dX1_putBit_9 rfl rfl rfl ?_
    refine g_get (v := .int (M.1 3 3)) (q := 13) fg_X1_22_3 rfl dX1_putBit_10 rfl ?_
    refine g_sipush (q := 16) dX1_putBit_13 ks_300 rfl ?_
    refine g_ic_lt (tgt := 24) (q := 19) dX1_putBit_16 rfl rfl (fun hc3 => ?_) (fun hc3 => ?_)
    · replace h := h.1 hc3
      refine g_aloadn (k0 := 0) (q := 25) dX1_putBit_24 rfl rfl rfl ?_
      refine g_get (v := .ref (eA E 4)) (q := 28) fg_X1_11_3 rfl dX1_putBit_25 rfl ?_
      refine g_aloadn (k0 := 0) (q := 29) dX1_putBit_28 rfl rfl rfl ?_
      refine g_get (v := .int (M.1 3 3)) (q := 32) fg_X1_22_3 rfl dX1_putBit_29 rfl ?_
      refine g_iloadn (k0 := 1) (q := 33) dX1_putBit_32 rfl rfl rfl ?_
      refine g_i2b (q := 34) dX1_putBit_33 rfl ?_
      have hv1 := h.1
      replace h := h.2
      refine g_bast (q := 35) ar_4 hv1 (pk_vb _) dX1_putBit_34 rfl ?_
      refine g_aloadn (k0 := 0) (q := 36) dX1_putBit_35 rfl rfl rfl ?_
      refine g_dup (q := 37) dX1_putBit_36 rfl rfl ?_
      refine g_get (v := .int (M.1 3 3)) (q := 40) fg_X1_22_3 rfl dX1_putBit_37 rfl ?_
      refine g_iconst (q := 41) dX1_putBit_40 ki_1 rfl ?_
      refine g_iadd (q := 42) dX1_putBit_41 rfl ?_
      refine g_putI (q := 45) fp_X1_22_3 dX1_putBit_42 rfl ?_
      exact g_vret hz rfl dX1_putBit_45 h
    · replace h := h.2 hc3
      refine g_aloadn (k0 := 0) (q := 20) dX1_putBit_19 rfl rfl rfl ?_
      refine g_callv (q := 23) [] [] cv_X1_46 rc_3 (c_X1_lose_3 hE h) rfl rfl ⟨rfl, rfl, Nat.le_of_ble_eq_true rfl, Nat.le_of_ble_eq_true rfl, Nat.zero_le _, Nat.zero_le _⟩ (Nat.le_of_ble_eq_true rfl) dX1_putBit_20 rfl (fun M2 h => ?_)
      exact g_vret hz rfl dX1_putBit_23 h
  · replace h := h.2 hc4
    exact g_vret hz rfl dX1_putBit_8 h
set_option maxHeartbeats 4000000 in
set_option maxRecDepth 100000 in
theorem c_X1_bitAt_3 {E : EX} (hE : EH E) {a1 : Int32} {M : Mem} {Q : Int32 → Mem → Prop} (h : P_Ear_bitAt 3 a1 M Q) : CI yX1_bitAt cX1_bitAt 2 (some .int) rmX1_bitAt E [.ref (eA E 3), .int a1] M Q := by
  refine CI.of hE (plainFor_of_name (by decide)) (Nat.le_of_ble_eq_true rfl) (fun x hz => ?_)
  unfold P_Ear_bitAt at h
  show G x E mX1_bitAt 0 0 0 [(0, .ref (eA E 3)), (1, .int a1)] [] M
  refine g_iloadn (k0 := 1) (q := 1) dX1_bitAt_0 rfl rfl rfl ?_
  refine g_if_lt (tgt := 20) (q := 4) dX1_bitAt_1 rfl rfl (fun hc3 => ?_) (fun hc3 => ?_)
  · replace h := h.1 hc3
    refine g_iconst (q := 21) dX1_bitAt_20 ki_0 rfl ?_
    exact g_iret hz rfl dX1_bitAt_21 h
  · replace h := h.2 hc3
    refine g_iloadn (k0 := 1) (q := 5) dX1_bitAt_4 rfl rfl rfl ?_
    refine g_sipush (q := 8) dX1_bitAt_5 ks_300 rfl ?_
    refine g_ic_ge (tgt := 20) (q := 11) dX1_bitAt_8 rfl rfl (fun hc2 => ?_) (fun hc2 => ?_)
    · replace h := h.1 hc2
      refine g_iconst (q := 21) dX1_bitAt_20 ki_0 rfl ?_
      exact g_iret hz rfl dX1_bitAt_21 h
    · replace h := h.2 hc2
      refine g_aloadn (k0 := 0) (q := 12) dX1_bitAt_11 rfl rfl rfl ?_
      refine g_get (v := .ref (eA E 4)) (q := 15) fg_X1_11_3 rfl dX1_bitAt_12 rfl ?_
      refine g_iloadn (k0 := 1) (q := 16) dX1_bitAt_15 rfl rfl rfl ?_
      have hv1 := h.1
      replace h := h.2
      refine g_bald (v := (M.1 4 a1.toNatClampNeg)) (q := 17) ar_4 hv1 rfl dX1_bitAt_16 rfl ?_
      refine g_goto (tgt := 21) dX1_bitAt_17 rfl ?_
      exact g_iret hz rfl dX1_bitAt_21 h
set_option maxHeartbeats 4000000 in
set_option maxRecDepth 100000 in
theorem g_X1_number_3_5 {x : GX} {E : EX} (hE : EH E) {Q : Int32 → Mem → Prop} (hz : ZI x E Q) : ∀ (n : Nat) (v1 : Int32) (v2 : Int32) (v3 : Int32) (v4 : Int32) (M : Mem), P_Ear_number_5 3 Q n v1 v2 v3 v4 M → G x E mX1_number 0 0 5 [(0, .ref (eA E 3)), (1, .int v1), (2, .int v2), (3, .int v3), (4, .int v4)] [] M := by
  intro n
  induction n with
  | zero => intro _ _ _ _ _ h; exact h.elim
  | succ n ih =>
    intro v1 v2 v3 v4 M h
    unfold P_Ear_number_5 at h
    refine g_iload (k0 := 4) (q := 7) dX1_number_5 rfl rfl ?_
    refine g_iloadn (k0 := 1) (q := 8) dX1_number_7 rfl rfl rfl ?_
    refine g_iloadn (k0 := 2) (q := 9) dX1_number_8 rfl rfl rfl ?_
    refine g_iadd (q := 10) dX1_number_9 rfl ?_
    refine g_ic_ge (tgt := 30) (q := 13) dX1_number_10 rfl rfl (fun hc3 => ?_) (fun hc3 => ?_)
    · replace h := h.1 hc3
      refine g_iloadn (k0 := 3) (q := 31) dX1_number_30 rfl rfl rfl ?_
      exact g_iret hz rfl dX1_number_31 h
    · replace h := h.2 hc3
      refine g_iloadn (k0 := 3) (q := 14) dX1_number_13 rfl rfl rfl ?_
      refine g_iconst (q := 15) dX1_number_14 ki_1 rfl ?_
      refine g_ishl (q := 16) dX1_number_15 rfl ?_
      refine g_aloadn (k0 := 0) (q := 17) dX1_number_16 rfl rfl rfl ?_
      refine g_iload (k0 := 4) (q := 19) dX1_number_17 rfl rfl ?_
      refine g_calli (q := 22) [.int v4] [.int (v3 <<< ((1 : Int32) &&& 31))] cv_X1_42 rc_3 (c_X1_bitAt_3 hE h) rfl rfl ⟨rfl, rfl, Nat.le_of_ble_eq_true rfl, Nat.le_of_ble_eq_true rfl, Nat.zero_le _, Nat.zero_le _⟩ (Nat.le_of_ble_eq_true rfl) dX1_number_19 rfl (fun r2 M1 h => ?_)
      refine g_ior (q := 23) dX1_number_22 rfl ?_
      refine g_istoren (lv' := [(0, .ref (eA E 3)), (1, .int v1), (2, .int v2), (3, .int ((v3 <<< ((1 : Int32) &&& 31)) ||| r2)), (4, .int v4)]) (q := 24) [1, 2, 3, 0, 4] dX1_number_23 rfl (by decide) rfl rfl ?_
      refine g_iinc (lv' := [(0, .ref (eA E 3)), (1, .int v1), (2, .int v2), (3, .int ((v3 <<< ((1 : Int32) &&& 31)) ||| r2)), (4, .int (v4 + 1))]) (k0 := 4) (w := (v4 + 1)) (q := 27) [1, 2, 3, 4, 0] dX1_number_24 rfl rfl (by decide) rfl rfl ?_
      refine g_goto (tgt := 5) dX1_number_27 rfl ?_
      exact ih _ _ _ _ _ h
set_option maxHeartbeats 4000000 in
set_option maxRecDepth 100000 in
theorem c_X1_number_3 {E : EX} (hE : EH E) {a1 : Int32} {a2 : Int32} {M : Mem} {Q : Int32 → Mem → Prop} (h : P_Ear_number 3 a1 a2 M Q) : CI yX1_number cX1_number 5 (some .int) rmX1_number E [.ref (eA E 3), .int a1, .int a2] M Q := by
  refine CI.of hE (plainFor_of_name (by decide)) (Nat.le_of_ble_eq_true rfl) (fun x hz => ?_)
  unfold P_Ear_number at h
  show G x E mX1_number 0 0 0 [(0, .ref (eA E 3)), (1, .int a1), (2, .int a2)] [] M
  refine g_iconst (q := 1) dX1_number_0 ki_0 rfl ?_
  refine g_istoren (lv' := [(0, .ref (eA E 3)), (1, .int a1), (2, .int a2), (3, .int 0)]) (q := 2) [1, 2, 3, 0] dX1_number_1 rfl (by decide) rfl rfl ?_
  refine g_iloadn (k0 := 1) (q := 3) dX1_number_2 rfl rfl rfl ?_
  refine g_istore (lv' := [(0, .ref (eA E 3)), (1, .int a1), (2, .int a2), (3, .int 0), (4, .int a1)]) (q := 5) [1, 2, 3, 4, 0] dX1_number_3 (by decide) rfl rfl ?_
  obtain ⟨n1, h⟩ := h
  exact g_X1_number_3_5 hE hz n1 _ _ _ _ _ h
set_option maxHeartbeats 4000000 in
set_option maxRecDepth 100000 in
theorem g_X1_isChecked_3_5 {x : GX} {E : EX} (hE : EH E) {Q : Int32 → Mem → Prop} (hz : ZI x E (fun r M => nb r ∧ Q r M)) : ∀ (n : Nat) (v1 : Int32) (v2 : Int32) (M : Mem), P_Ear_isChecked_5 3 Q n v1 v2 M → G x E mX1_isChecked 0 0 5 [(0, .ref (eA E 3)), (1, .int v1), (2, .int v2)] [] M := by
  intro n
  induction n with
  | zero => intro _ _ _ h; exact h.elim
  | succ n ih =>
    intro v1 v2 M h
    unfold P_Ear_isChecked_5 at h
    refine g_iloadn (k0 := 2) (q := 6) dX1_isChecked_5 rfl rfl rfl ?_
    refine g_aloadn (k0 := 0) (q := 7) dX1_isChecked_6 rfl rfl rfl ?_
    refine g_get (v := .int (M.1 3 5)) (q := 10) fg_X1_28_3 rfl dX1_isChecked_7 rfl ?_
    refine g_ic_ge (tgt := 29) (q := 13) dX1_isChecked_10 rfl rfl (fun hc8 => ?_) (fun hc8 => ?_)
    · replace h := h.1 hc8
      refine g_iloadn (k0 := 1) (q := 30) dX1_isChecked_29 rfl rfl rfl ?_
      refine g_ldc (q := 32) dX1_isChecked_30 wm_330 rfl ?_
      refine g_ixor (q := 33) dX1_isChecked_32 rfl ?_
      refine g_aloadn (k0 := 0) (q := 34) dX1_isChecked_33 rfl rfl rfl ?_
      refine g_aloadn (k0 := 0) (q := 35) dX1_isChecked_34 rfl rfl rfl ?_
      refine g_get (v := .int (M.1 3 5)) (q := 38) fg_X1_28_3 rfl dX1_isChecked_35 rfl ?_
      refine g_bipush (q := 40) dX1_isChecked_38 kb_16 rfl ?_
      refine g_calli (q := 43) [.int (M.1 3 5), .int 16] [.int (v1 ^^^ 65535)] cv_X1_57 rc_3 (c_X1_number_3 hE h) rfl rfl ⟨rfl, rfl, Nat.le_of_ble_eq_true rfl, Nat.le_of_ble_eq_true rfl, Nat.zero_le _, Nat.zero_le _⟩ (Nat.le_of_ble_eq_true rfl) dX1_isChecked_40 rfl (fun r2 M1 h => ?_)
      refine g_ic_ne (tgt := 50) (q := 46) dX1_isChecked_43 rfl rfl (fun hc3 => ?_) (fun hc3 => ?_)
      · replace h := h.1 hc3
        refine g_iconst (q := 51) dX1_isChecked_50 ki_0 rfl ?_
        exact g_zret hz rfl rfl dX1_isChecked_51 h
      · replace h := h.2 hc3
        refine g_iconst (q := 47) dX1_isChecked_46 ki_1 rfl ?_
        refine g_goto (tgt := 51) dX1_isChecked_47 rfl ?_
        exact g_zret hz rfl rfl dX1_isChecked_51 h
    · replace h := h.2 hc8
      refine g_iloadn (k0 := 1) (q := 14) dX1_isChecked_13 rfl rfl rfl ?_
      refine g_aloadn (k0 := 0) (q := 15) dX1_isChecked_14 rfl rfl rfl ?_
      refine g_iloadn (k0 := 2) (q := 16) dX1_isChecked_15 rfl rfl rfl ?_
      refine g_calli (q := 19) [.int v2] [.int v1] cv_X1_42 rc_3 (c_X1_bitAt_3 hE h) rfl rfl ⟨rfl, rfl, Nat.le_of_ble_eq_true rfl, Nat.le_of_ble_eq_true rfl, Nat.zero_le _, Nat.zero_le _⟩ (Nat.le_of_ble_eq_true rfl) dX1_isChecked_16 rfl (fun r5 M4 h => ?_)
      refine g_ncalli (q := 22) [.int v1, .int r5] [] cn_X1_53 (c_X10_checkAfter hE h) rfl rfl ⟨rfl, rfl, Nat.le_of_ble_eq_true rfl, Nat.le_of_ble_eq_true rfl, Nat.zero_le _, Nat.zero_le _⟩ (Nat.le_of_ble_eq_true rfl) dX1_isChecked_19 rfl (fun r7 M6 h => ?_)
      refine g_istoren (lv' := [(0, .ref (eA E 3)), (1, .int r7), (2, .int v2)]) (q := 23) [1, 0, 2] dX1_isChecked_22 rfl (by decide) rfl rfl ?_
      refine g_iinc (lv' := [(0, .ref (eA E 3)), (1, .int r7), (2, .int (v2 + 1))]) (k0 := 2) (w := (v2 + 1)) (q := 26) [1, 2, 0] dX1_isChecked_23 rfl rfl (by decide) rfl rfl ?_
      refine g_goto (tgt := 5) dX1_isChecked_26 rfl ?_
      exact ih _ _ _ h
set_option maxHeartbeats 4000000 in
set_option maxRecDepth 100000 in
theorem c_X1_isChecked_3 {E : EX} (hE : EH E) {M : Mem} {Q : Int32 → Mem → Prop} (h : P_Ear_isChecked 3  M Q) : CI yX1_isChecked cX1_isChecked 3 (some .boolean) rmX1_isChecked E [.ref (eA E 3)] M (fun r M => nb r ∧ Q r M) := by
  refine CI.of hE (plainFor_of_name (by decide)) (Nat.le_of_ble_eq_true rfl) (fun x hz => ?_)
  unfold P_Ear_isChecked at h
  show G x E mX1_isChecked 0 0 0 [(0, .ref (eA E 3))] [] M
  refine g_ldc (q := 2) dX1_isChecked_0 wm_330 rfl ?_
  refine g_istoren (lv' := [(0, .ref (eA E 3)), (1, .int 65535)]) (q := 3) [1, 0] dX1_isChecked_2 rfl (by decide) rfl rfl ?_
  refine g_iconst (q := 4) dX1_isChecked_3 ki_0 rfl ?_
  refine g_istoren (lv' := [(0, .ref (eA E 3)), (1, .int 65535), (2, .int 0)]) (q := 5) [1, 2, 0] dX1_isChecked_4 rfl (by decide) rfl rfl ?_
  obtain ⟨n1, h⟩ := h
  exact g_X1_isChecked_3_5 hE hz n1 _ _ _ h
set_option maxHeartbeats 4000000 in
set_option maxRecDepth 100000 in
theorem c_X1_endPiece_3 {E : EX} (hE : EH E) {M : Mem} {Q : Int32 → Mem → Prop} (h : P_Ear_endPiece 3  M Q) : CI yX1_endPiece cX1_endPiece 2 (some .boolean) rmX1_endPiece E [.ref (eA E 3)] M (fun r M => nb r ∧ Q r M) := by
  refine CI.of hE (plainFor_of_name (by decide)) (Nat.le_of_ble_eq_true rfl) (fun x hz => ?_)
  unfold P_Ear_endPiece at h
  show G x E mX1_endPiece 0 0 0 [(0, .ref (eA E 3))] [] M
  refine g_aloadn (k0 := 0) (q := 1) dX1_endPiece_0 rfl rfl rfl ?_
  refine g_get (v := .int (M.1 3 3)) (q := 4) fg_X1_22_3 rfl dX1_endPiece_1 rfl ?_
  refine g_bipush (q := 6) dX1_endPiece_4 kb_6 rfl ?_
  refine g_isub (q := 7) dX1_endPiece_6 rfl ?_
  refine g_istoren (lv' := [(0, .ref (eA E 3)), (1, .int ((M.1 3 3) - 6))]) (q := 8) [1, 0] dX1_endPiece_7 rfl (by decide) rfl rfl ?_
  refine g_aloadn (k0 := 0) (q := 9) dX1_endPiece_8 rfl rfl rfl ?_
  refine g_iconst (q := 10) dX1_endPiece_9 ki_0 rfl ?_
  refine g_putI (q := 13) fp_X1_22_3 dX1_endPiece_10 rfl ?_
  refine g_iloadn (k0 := 1) (q := 14) dX1_endPiece_13 rfl rfl rfl ?_
  refine g_bipush (q := 16) dX1_endPiece_14 kb_24 rfl ?_
  refine g_ic_ge (tgt := 21) (q := 19) dX1_endPiece_16 rfl rfl (fun hc4 => ?_) (fun hc4 => ?_)
  · replace h := h.1 hc4
    refine g_aloadn (k0 := 0) (q := 22) dX1_endPiece_21 rfl rfl rfl ?_
    refine g_iloadn (k0 := 1) (q := 23) dX1_endPiece_22 rfl rfl rfl ?_
    refine g_bipush (q := 25) dX1_endPiece_23 kb_16 rfl ?_
    refine g_isub (q := 26) dX1_endPiece_25 rfl ?_
    refine g_putI (q := 29) fp_X1_28_3 dX1_endPiece_26 rfl ?_
    refine g_aloadn (k0 := 0) (q := 30) dX1_endPiece_29 rfl rfl rfl ?_
    refine g_calli (q := 33) [] [] cv_X1_49 rc_3 (c_X1_isChecked_3 hE h) rfl rfl ⟨rfl, rfl, Nat.le_of_ble_eq_true rfl, Nat.le_of_ble_eq_true rfl, Nat.zero_le _, Nat.zero_le _⟩ (Nat.le_of_ble_eq_true rfl) dX1_endPiece_30 rfl (fun r2 M1 h => ?_)
    obtain ⟨hb_r2, h⟩ := h
    refine g_if_eq (tgt := 38) (q := 36) dX1_endPiece_33 rfl rfl (fun hc3 => ?_) (fun hc3 => ?_)
    · replace h := h.1 hc3
      refine g_aloadn (k0 := 0) (q := 39) dX1_endPiece_38 rfl rfl rfl ?_
      refine g_dup (q := 40) dX1_endPiece_39 rfl rfl ?_
      refine g_get (v := .int (M1.1 3 4)) (q := 43) fg_X1_25_3 rfl dX1_endPiece_40 rfl ?_
      refine g_iconst (q := 44) dX1_endPiece_43 ki_1 rfl ?_
      refine g_iadd (q := 45) dX1_endPiece_44 rfl ?_
      refine g_putI (q := 48) fp_X1_25_3 dX1_endPiece_45 rfl ?_
      refine g_iconst (q := 49) dX1_endPiece_48 ki_0 rfl ?_
      exact g_zret hz rfl rfl dX1_endPiece_49 h
    · replace h := h.2 hc3
      refine g_iconst (q := 37) dX1_endPiece_36 ki_1 rfl ?_
      exact g_zret hz rfl rfl dX1_endPiece_37 h
  · replace h := h.2 hc4
    refine g_iconst (q := 20) dX1_endPiece_19 ki_0 rfl ?_
    exact g_zret hz rfl rfl dX1_endPiece_20 h
set_option maxHeartbeats 4000000 in
set_option maxRecDepth 100000 in
theorem g_X1_takeOne_3_19 {x : GX} {E : EX} (hE : EH E) {Q : Mem → Prop} (hz : ZU x E Q) : ∀ (M : Mem), P_Ear_takeOne_19 3 Q M → G x E mX1_takeOne 0 0 19 [(0, .ref (eA E 3))] [] M := by
  intro M h
  unfold P_Ear_takeOne_19 at h
  refine g_aloadn (k0 := 0) (q := 20) dX1_takeOne_19 rfl rfl rfl ?_
  refine g_get (v := .int (M.1 3 2)) (q := 23) fg_X1_19_3 rfl dX1_takeOne_20 rfl ?_
  refine g_iconst (q := 24) dX1_takeOne_23 ki_5 rfl ?_
  refine g_ic_gt (tgt := 35) (q := 27) dX1_takeOne_24 rfl rfl (fun hc4 => ?_) (fun hc4 => ?_)
  · replace h := h.1 hc4
    refine g_aloadn (k0 := 0) (q := 36) dX1_takeOne_35 rfl rfl rfl ?_
    refine g_get (v := .int (M.1 3 2)) (q := 39) fg_X1_19_3 rfl dX1_takeOne_36 rfl ?_
    refine g_bipush (q := 41) dX1_takeOne_39 kb_7 rfl ?_
    refine g_ic_ne (tgt := 48) (q := 44) dX1_takeOne_41 rfl rfl (fun hc2 => ?_) (fun hc2 => ?_)
    · replace h := h.1 hc2
      exact g_vret hz rfl dX1_takeOne_48 h
    · replace h := h.2 hc2
      refine g_aloadn (k0 := 0) (q := 45) dX1_takeOne_44 rfl rfl rfl ?_
      refine g_callv (q := 48) [] [] cv_X1_46 rc_3 (c_X1_lose_3 hE h) rfl rfl ⟨rfl, rfl, Nat.le_of_ble_eq_true rfl, Nat.le_of_ble_eq_true rfl, Nat.zero_le _, Nat.zero_le _⟩ (Nat.le_of_ble_eq_true rfl) dX1_takeOne_45 rfl (fun M1 h => ?_)
      exact g_vret hz rfl dX1_takeOne_48 h
  · replace h := h.2 hc4
    refine g_aloadn (k0 := 0) (q := 28) dX1_takeOne_27 rfl rfl rfl ?_
    refine g_iconst (q := 29) dX1_takeOne_28 ki_1 rfl ?_
    refine g_callv (q := 32) [.int 1] [] cv_X1_38 rc_3 (c_X1_putBit_3 hE h) rfl rfl ⟨rfl, rfl, Nat.le_of_ble_eq_true rfl, Nat.le_of_ble_eq_true rfl, Nat.zero_le _, Nat.zero_le _⟩ (Nat.le_of_ble_eq_true rfl) dX1_takeOne_29 rfl (fun M3 h => ?_)
    refine g_goto (tgt := 48) dX1_takeOne_32 rfl ?_
    exact g_vret hz rfl dX1_takeOne_48 h
set_option maxHeartbeats 4000000 in
set_option maxRecDepth 100000 in
theorem c_X1_takeOne_3 {E : EX} (hE : EH E) {M : Mem} {Q : Mem → Prop} (h : P_Ear_takeOne 3  M Q) : CU yX1_takeOne cX1_takeOne 1 none rmX1_takeOne E [.ref (eA E 3)] M Q := by
  refine CU.of hE (plainFor_of_name (by decide)) (Nat.le_of_ble_eq_true rfl) (fun x hz => ?_)
  unfold P_Ear_takeOne at h
  show G x E mX1_takeOne 0 0 0 [(0, .ref (eA E 3))] [] M
  refine g_aloadn (k0 := 0) (q := 1) dX1_takeOne_0 rfl rfl rfl ?_
  refine g_get (v := .int (M.1 3 2)) (q := 4) fg_X1_19_3 rfl dX1_takeOne_1 rfl ?_
  refine g_bipush (q := 6) dX1_takeOne_4 kb_7 rfl ?_
  refine g_ic_ge (tgt := 19) (q := 9) dX1_takeOne_6 rfl rfl (fun hc5 => ?_) (fun hc5 => ?_)
  · replace h := h.1 hc5
    exact g_X1_takeOne_3_19 hE hz _ h
  · replace h := h.2 hc5
    refine g_aloadn (k0 := 0) (q := 10) dX1_takeOne_9 rfl rfl rfl ?_
    refine g_dup (q := 11) dX1_takeOne_10 rfl rfl ?_
    refine g_get (v := .int (M.1 3 2)) (q := 14) fg_X1_19_3 rfl dX1_takeOne_11 rfl ?_
    refine g_iconst (q := 15) dX1_takeOne_14 ki_1 rfl ?_
    refine g_iadd (q := 16) dX1_takeOne_15 rfl ?_
    refine g_putI (q := 19) fp_X1_19_3 dX1_takeOne_16 rfl ?_
    exact g_X1_takeOne_3_19 hE hz _ h
set_option maxHeartbeats 4000000 in
set_option maxRecDepth 100000 in
theorem g_X1_takeLevel_3_13 {x : GX} {E : EX} (hE : EH E) {Q : Int32 → Mem → Prop} (hz : ZI x E (fun r M => nb r ∧ Q r M)) : ∀ (v1 : Int32) (s0 : Int32) (M : Mem), P_Ear_takeLevel_13 3 Q v1 s0 M → G x E mX1_takeLevel 0 0 13 [(0, .ref (eA E 3)), (1, .int v1)] [.int s0] M := by
  intro v1 s0 M h
  unfold P_Ear_takeLevel_13 at h
  refine g_istoren (lv' := [(0, .ref (eA E 3)), (1, .int v1), (2, .int s0)]) (q := 14) [1, 2, 0] dX1_takeLevel_13 rfl (by decide) rfl rfl ?_
  refine g_aloadn (k0 := 0) (q := 15) dX1_takeLevel_14 rfl rfl rfl ?_
  refine g_iloadn (k0 := 1) (q := 16) dX1_takeLevel_15 rfl rfl rfl ?_
  refine g_putI (q := 19) fp_X1_15_3 dX1_takeLevel_16 rfl ?_
  refine g_iloadn (k0 := 2) (q := 20) dX1_takeLevel_19 rfl rfl rfl ?_
  refine g_if_eq (tgt := 29) (q := 23) dX1_takeLevel_20 rfl rfl (fun hc7 => ?_) (fun hc7 => ?_)
  · replace h := h.1 hc7
    refine g_aloadn (k0 := 0) (q := 30) dX1_takeLevel_29 rfl rfl rfl ?_
    refine g_get (v := .int (M.1 3 2)) (q := 33) fg_X1_19_3 rfl dX1_takeLevel_30 rfl ?_
    refine g_istoren (lv' := [(0, .ref (eA E 3)), (1, .int v1), (2, .int s0), (3, .int (M.1 3 2))]) (q := 34) [1, 2, 3, 0] dX1_takeLevel_33 rfl (by decide) rfl rfl ?_
    refine g_aloadn (k0 := 0) (q := 35) dX1_takeLevel_34 rfl rfl rfl ?_
    refine g_iconst (q := 36) dX1_takeLevel_35 ki_0 rfl ?_
    refine g_putI (q := 39) fp_X1_19_3 dX1_takeLevel_36 rfl ?_
    refine g_iloadn (k0 := 3) (q := 40) dX1_takeLevel_39 rfl rfl rfl ?_
    refine g_bipush (q := 42) dX1_takeLevel_40 kb_6 rfl ?_
    refine g_ic_ne (tgt := 50) (q := 45) dX1_takeLevel_42 rfl rfl (fun hc5 => ?_) (fun hc5 => ?_)
    · replace h := h.1 hc5
      refine g_iloadn (k0 := 3) (q := 51) dX1_takeLevel_50 rfl rfl rfl ?_
      refine g_iconst (q := 52) dX1_takeLevel_51 ki_5 rfl ?_
      refine g_ic_ge (tgt := 60) (q := 55) dX1_takeLevel_52 rfl rfl (fun hc2 => ?_) (fun hc2 => ?_)
      · replace h := h.1 hc2
        refine g_iconst (q := 61) dX1_takeLevel_60 ki_0 rfl ?_
        exact g_zret hz rfl rfl dX1_takeLevel_61 h
      · replace h := h.2 hc2
        refine g_aloadn (k0 := 0) (q := 56) dX1_takeLevel_55 rfl rfl rfl ?_
        refine g_iconst (q := 57) dX1_takeLevel_56 ki_0 rfl ?_
        refine g_callv (q := 60) [.int 0] [] cv_X1_38 rc_3 (c_X1_putBit_3 hE h) rfl rfl ⟨rfl, rfl, Nat.le_of_ble_eq_true rfl, Nat.le_of_ble_eq_true rfl, Nat.zero_le _, Nat.zero_le _⟩ (Nat.le_of_ble_eq_true rfl) dX1_takeLevel_57 rfl (fun M1 h => ?_)
        refine g_iconst (q := 61) dX1_takeLevel_60 ki_0 rfl ?_
        exact g_zret hz rfl rfl dX1_takeLevel_61 h
    · replace h := h.2 hc5
      refine g_aloadn (k0 := 0) (q := 46) dX1_takeLevel_45 rfl rfl rfl ?_
      refine g_calli (q := 49) [] [] cv_X1_34 rc_3 (c_X1_endPiece_3 hE h) rfl rfl ⟨rfl, rfl, Nat.le_of_ble_eq_true rfl, Nat.le_of_ble_eq_true rfl, Nat.zero_le _, Nat.zero_le _⟩ (Nat.le_of_ble_eq_true rfl) dX1_takeLevel_46 rfl (fun r4 M3 h => ?_)
      obtain ⟨hb_r4, h⟩ := h
      exact g_zret hz rfl hb_r4 dX1_takeLevel_49 h
  · replace h := h.2 hc7
    refine g_aloadn (k0 := 0) (q := 24) dX1_takeLevel_23 rfl rfl rfl ?_
    refine g_callv (q := 27) [] [] cv_X1_31 rc_3 (c_X1_takeOne_3 hE h) rfl rfl ⟨rfl, rfl, Nat.le_of_ble_eq_true rfl, Nat.le_of_ble_eq_true rfl, Nat.zero_le _, Nat.zero_le _⟩ (Nat.le_of_ble_eq_true rfl) dX1_takeLevel_24 rfl (fun M6 h => ?_)
    refine g_iconst (q := 28) dX1_takeLevel_27 ki_0 rfl ?_
    exact g_zret hz rfl rfl dX1_takeLevel_28 h
set_option maxHeartbeats 4000000 in
set_option maxRecDepth 100000 in
theorem c_X1_takeLevel_3 {E : EX} (hE : EH E) {a1 : Int32} {M : Mem} {Q : Int32 → Mem → Prop} (h : P_Ear_takeLevel 3 a1 M Q) : CI yX1_takeLevel cX1_takeLevel 4 (some .boolean) rmX1_takeLevel E [.ref (eA E 3), .int a1] M (fun r M => nb r ∧ Q r M) := by
  refine CI.of hE (plainFor_of_name (by decide)) (Nat.le_of_ble_eq_true rfl) (fun x hz => ?_)
  unfold P_Ear_takeLevel at h
  show G x E mX1_takeLevel 0 0 0 [(0, .ref (eA E 3)), (1, .int a1)] [] M
  refine g_iloadn (k0 := 1) (q := 1) dX1_takeLevel_0 rfl rfl rfl ?_
  refine g_aloadn (k0 := 0) (q := 2) dX1_takeLevel_1 rfl rfl rfl ?_
  refine g_get (v := .int (M.1 3 1)) (q := 5) fg_X1_15_3 rfl dX1_takeLevel_2 rfl ?_
  refine g_ic_ne (tgt := 12) (q := 8) dX1_takeLevel_5 rfl rfl (fun hc8 => ?_) (fun hc8 => ?_)
  · replace h := h.1 hc8
    refine g_iconst (q := 13) dX1_takeLevel_12 ki_0 rfl ?_
    exact g_X1_takeLevel_3_13 hE hz _ _ _ h
  · replace h := h.2 hc8
    refine g_iconst (q := 9) dX1_takeLevel_8 ki_1 rfl ?_
    refine g_goto (tgt := 13) dX1_takeLevel_9 rfl ?_
    exact g_X1_takeLevel_3_13 hE hz _ _ _ h
set_option maxHeartbeats 4000000 in
set_option maxRecDepth 100000 in
theorem c_X1_frameBits_3 {E : EX} (hE : EH E) {M : Mem} {Q : Int32 → Mem → Prop} (h : P_Ear_frameBits 3  M Q) : CI yX1_frameBits cX1_frameBits 1 (some .int) rmX1_frameBits E [.ref (eA E 3)] M Q := by
  refine CI.of hE (plainFor_of_name (by decide)) (Nat.le_of_ble_eq_true rfl) (fun x hz => ?_)
  unfold P_Ear_frameBits at h
  show G x E mX1_frameBits 0 0 0 [(0, .ref (eA E 3))] [] M
  refine g_aloadn (k0 := 0) (q := 1) dX1_frameBits_0 rfl rfl rfl ?_
  refine g_get (v := .int (M.1 3 5)) (q := 4) fg_X1_28_3 rfl dX1_frameBits_1 rfl ?_
  exact g_iret hz rfl dX1_frameBits_4 h
set_option maxHeartbeats 4000000 in
set_option maxRecDepth 100000 in
theorem g_X8_readAll_3_100 {x : GX} {E : EX} (hE : EH E) {Q : Int32 → Mem → Prop} (hz : ZI x E (fun r M => nb r ∧ Q r M)) {K61 : Int32 → Int32 → Mem → Prop} (hK61 : ∀ (v2 : Int32) (v3 : Int32) (M : Mem), K61 v2 v3 M → G x E mX8_readAll 0 0 61 [(0, .ref (eA E 7)), (1, .ref (eA E 3)), (2, .int v2), (3, .int v3)] [] M) : ∀ (v2 : Int32) (v3 : Int32) (v4 : Int32) (s0 : Int32) (s1 : Int32) (M : Mem), P_Telling_readAll_100 3 K61 Q v2 v3 v4 s0 s1 M → G x E mX8_readAll 0 0 100 [(0, .ref (eA E 7)), (1, .ref (eA E 3)), (2, .int v2), (3, .int v3), (4, .int v4)] [.int s0, .int s1, .ref (eA E 8)] M := by
  intro v2 v3 v4 s0 s1 M h
  unfold P_Telling_readAll_100 at h
  have hv21 := h.1
  replace h := h.2
  refine g_iast (q := 101) ar_8 hv21 dX8_readAll_100 rfl ?_
  refine g_iloadn (k0 := 2) (q := 102) dX8_readAll_101 rfl rfl rfl ?_
  refine g_iload (k0 := 4) (q := 104) dX8_readAll_102 rfl rfl ?_
  refine g_iadd (q := 105) dX8_readAll_104 rfl ?_
  refine g_istoren (lv' := [(0, .ref (eA E 7)), (1, .ref (eA E 3)), (2, .int (v2 + v4)), (3, .int v3), (4, .int v4)]) (q := 106) [1, 2, 0, 3, 4] dX8_readAll_105 rfl (by decide) rfl rfl ?_
  refine g_iinc (lv' := [(0, .ref (eA E 7)), (1, .ref (eA E 3)), (2, .int (v2 + v4)), (3, .int (v3 + 1)), (4, .int v4)]) (k0 := 3) (w := (v3 + 1)) (q := 109) [1, 2, 3, 0, 4] dX8_readAll_106 rfl rfl (by decide) rfl rfl ?_
  refine g_goto (tgt := 61) dX8_readAll_109 rfl ?_
  refine g_lv (lv' := [(0, .ref (eA E 7)), (1, .ref (eA E 3)), (2, .int (v2 + v4)), (3, .int (v3 + 1))]) [0, 1, 2, 3] rfl ?_
  exact hK61 _ _ _ h
set_option maxHeartbeats 4000000 in
set_option maxRecDepth 100000 in
theorem g_X8_readAll_3_61 {x : GX} {E : EX} (hE : EH E) {Q : Int32 → Mem → Prop} (hz : ZI x E (fun r M => nb r ∧ Q r M)) : ∀ (n : Nat) (v2 : Int32) (v3 : Int32) (M : Mem), P_Telling_readAll_61 3 Q n v2 v3 M → G x E mX8_readAll 0 0 61 [(0, .ref (eA E 7)), (1, .ref (eA E 3)), (2, .int v2), (3, .int v3)] [] M := by
  intro n
  induction n with
  | zero => intro _ _ _ h; exact h.elim
  | succ n ih =>
    intro v2 v3 M h
    unfold P_Telling_readAll_61 at h
    refine g_iloadn (k0 := 3) (q := 62) dX8_readAll_61 rfl rfl rfl ?_
    refine g_iconst (q := 63) dX8_readAll_62 ki_4 rfl ?_
    refine g_ic_ge (tgt := 112) (q := 66) dX8_readAll_63 rfl rfl (fun hc23 => ?_) (fun hc23 => ?_)
    · replace h := h.1 hc23
      refine g_aloadn (k0 := 0) (q := 113) dX8_readAll_112 rfl rfl rfl ?_
      refine g_calli (q := 116) [] [] cv_X8_57 rc_7 (c_X8_isAsTold hE h) rfl rfl ⟨rfl, rfl, Nat.le_of_ble_eq_true rfl, Nat.le_of_ble_eq_true rfl, Nat.zero_le _, Nat.zero_le _⟩ (Nat.le_of_ble_eq_true rfl) dX8_readAll_113 rfl (fun r14 M13 h => ?_)
      obtain ⟨hb_r14, h⟩ := h
      exact g_zret hz rfl hb_r14 dX8_readAll_116 h
    · replace h := h.2 hc23
      refine g_aloadn (k0 := 0) (q := 67) dX8_readAll_66 rfl rfl rfl ?_
      refine g_iloadn (k0 := 3) (q := 68) dX8_readAll_67 rfl rfl rfl ?_
      refine g_calli (q := 71) [.int v3] [] cv_X8_50 rc_7 (c_X8_width hE h) rfl rfl ⟨rfl, rfl, Nat.le_of_ble_eq_true rfl, Nat.le_of_ble_eq_true rfl, Nat.zero_le _, Nat.zero_le _⟩ (Nat.le_of_ble_eq_true rfl) dX8_readAll_68 rfl (fun r16 M15 h => ?_)
      refine g_istore (lv' := [(0, .ref (eA E 7)), (1, .ref (eA E 3)), (2, .int v2), (3, .int v3), (4, .int r16)]) (q := 73) [1, 2, 3, 4, 0] dX8_readAll_71 (by decide) rfl rfl ?_
      refine g_aloadn (k0 := 0) (q := 74) dX8_readAll_73 rfl rfl rfl ?_
      refine g_get (v := .ref (eA E 8)) (q := 77) fg_X8_11_7 rfl dX8_readAll_74 rfl ?_
      refine g_iloadn (k0 := 3) (q := 78) dX8_readAll_77 rfl rfl rfl ?_
      refine g_iload (k0 := 4) (q := 80) dX8_readAll_78 rfl rfl ?_
      refine g_if_ne (tgt := 87) (q := 83) dX8_readAll_80 rfl rfl (fun hc22 => ?_) (fun hc22 => ?_)
      · replace h := h.1 hc22
        refine g_aloadn (k0 := 0) (q := 88) dX8_readAll_87 rfl rfl rfl ?_
        refine g_aloadn (k0 := 1) (q := 89) dX8_readAll_88 rfl rfl rfl ?_
        refine g_iloadn (k0 := 2) (q := 90) dX8_readAll_89 rfl rfl rfl ?_
        refine g_iload (k0 := 4) (q := 92) dX8_readAll_90 rfl rfl ?_
        refine g_calli (q := 95) [.int v2, .int r16] [.ref (eA E 7), .int v3, .ref (eA E 8)] cv_X8_39 rc_3 (c_X1_number_3 hE h) rfl rfl ⟨rfl, rfl, Nat.le_of_ble_eq_true rfl, Nat.le_of_ble_eq_true rfl, Nat.zero_le _, Nat.zero_le _⟩ (Nat.le_of_ble_eq_true rfl) dX8_readAll_92 rfl (fun r18 M17 h => ?_)
        refine g_iload (k0 := 4) (q := 97) dX8_readAll_95 rfl rfl ?_
        refine g_calli (q := 100) [.int r18, .int r16] [.int v3, .ref (eA E 8)] cv_X8_54 rc_7 (c_X8_signed hE h) rfl rfl ⟨rfl, rfl, Nat.le_of_ble_eq_true rfl, Nat.le_of_ble_eq_true rfl, Nat.zero_le _, Nat.zero_le _⟩ (Nat.le_of_ble_eq_true rfl) dX8_readAll_97 rfl (fun r20 M19 h => ?_)
        exact g_X8_readAll_3_100 hE hz ih _ _ _ _ _ _ h
      · replace h := h.2 hc22
        refine g_iconst (q := 84) dX8_readAll_83 ki_m1 rfl ?_
        refine g_goto (tgt := 100) dX8_readAll_84 rfl ?_
        exact g_X8_readAll_3_100 hE hz ih _ _ _ _ _ _ h
set_option maxHeartbeats 4000000 in
set_option maxRecDepth 100000 in
theorem c_X8_readAll_3 {E : EX} (hE : EH E) {M : Mem} {Q : Int32 → Mem → Prop} (h : P_Telling_readAll 3  M Q) : CI yX8_readAll cX8_readAll 5 (some .boolean) rmX8_readAll E [.ref (eA E 7), .ref (eA E 3)] M (fun r M => nb r ∧ Q r M) := by
  refine CI.of hE (plainFor_of_name (by decide)) (Nat.le_of_ble_eq_true rfl) (fun x hz => ?_)
  unfold P_Telling_readAll at h
  show G x E mX8_readAll 0 0 0 [(0, .ref (eA E 7)), (1, .ref (eA E 3))] [] M
  refine g_bipush (q := 2) dX8_readAll_0 kb_24 rfl ?_
  refine g_istoren (lv' := [(0, .ref (eA E 7)), (1, .ref (eA E 3)), (2, .int 24)]) (q := 3) [1, 2, 0] dX8_readAll_2 rfl (by decide) rfl rfl ?_
  refine g_aloadn (k0 := 1) (q := 4) dX8_readAll_3 rfl rfl rfl ?_
  refine g_calli (q := 7) [] [] cv_X8_33 rc_3 (c_X1_frameBits_3 hE h) rfl rfl ⟨rfl, rfl, Nat.le_of_ble_eq_true rfl, Nat.le_of_ble_eq_true rfl, Nat.zero_le _, Nat.zero_le _⟩ (Nat.le_of_ble_eq_true rfl) dX8_readAll_4 rfl (fun r2 M1 h => ?_)
  refine g_iloadn (k0 := 2) (q := 8) dX8_readAll_7 rfl rfl rfl ?_
  refine g_ic_ge (tgt := 13) (q := 11) dX8_readAll_8 rfl rfl (fun hc27 => ?_) (fun hc27 => ?_)
  · replace h := h.1 hc27
    refine g_aloadn (k0 := 0) (q := 14) dX8_readAll_13 rfl rfl rfl ?_
    refine g_aloadn (k0 := 1) (q := 15) dX8_readAll_14 rfl rfl rfl ?_
    refine g_iconst (q := 16) dX8_readAll_15 ki_0 rfl ?_
    refine g_iconst (q := 17) dX8_readAll_16 ki_4 rfl ?_
    refine g_calli (q := 20) [.int 0, .int 4] [.ref (eA E 7)] cv_X8_39 rc_3 (c_X1_number_3 hE h) rfl rfl ⟨rfl, rfl, Nat.le_of_ble_eq_true rfl, Nat.le_of_ble_eq_true rfl, Nat.zero_le _, Nat.zero_le _⟩ (Nat.le_of_ble_eq_true rfl) dX8_readAll_17 rfl (fun r4 M3 h => ?_)
    refine g_putI (q := 23) fp_X8_15_7 dX8_readAll_20 rfl ?_
    refine g_aloadn (k0 := 0) (q := 24) dX8_readAll_23 rfl rfl rfl ?_
    refine g_aloadn (k0 := 1) (q := 25) dX8_readAll_24 rfl rfl rfl ?_
    refine g_iconst (q := 26) dX8_readAll_25 ki_4 rfl ?_
    refine g_bipush (q := 28) dX8_readAll_26 kb_20 rfl ?_
    refine g_calli (q := 31) [.int 4, .int 20] [.ref (eA E 7)] cv_X8_39 rc_3 (c_X1_number_3 hE h) rfl rfl ⟨rfl, rfl, Nat.le_of_ble_eq_true rfl, Nat.le_of_ble_eq_true rfl, Nat.zero_le _, Nat.zero_le _⟩ (Nat.le_of_ble_eq_true rfl) dX8_readAll_28 rfl (fun r6 M5 h => ?_)
    refine g_putI (q := 34) fp_X8_19_7 dX8_readAll_31 rfl ?_
    refine g_aloadn (k0 := 0) (q := 35) dX8_readAll_34 rfl rfl rfl ?_
    refine g_get (v := .int (M5.1 7 1)) (q := 38) fg_X8_15_7 rfl dX8_readAll_35 rfl ?_
    refine g_scalli (q := 41) [.int (M5.1 7 1)] [] cs_X8_43 (c_X8_isKind hE h) rfl rfl ⟨rfl, rfl, Nat.le_of_ble_eq_true rfl, Nat.le_of_ble_eq_true rfl, Nat.zero_le _, Nat.zero_le _⟩ (Nat.le_of_ble_eq_true rfl) dX8_readAll_38 rfl (fun r8 M7 h => ?_)
    obtain ⟨hb_r8, h⟩ := h
    refine g_if_eq (tgt := 57) (q := 44) dX8_readAll_41 rfl rfl (fun hc26 => ?_) (fun hc26 => ?_)
    · replace h := h.1 hc26
      refine g_iconst (q := 58) dX8_readAll_57 ki_0 rfl ?_
      exact g_zret hz rfl rfl dX8_readAll_58 h
    · replace h := h.2 hc26
      refine g_aloadn (k0 := 1) (q := 45) dX8_readAll_44 rfl rfl rfl ?_
      refine g_calli (q := 48) [] [] cv_X8_33 rc_3 (c_X1_frameBits_3 hE h) rfl rfl ⟨rfl, rfl, Nat.le_of_ble_eq_true rfl, Nat.le_of_ble_eq_true rfl, Nat.zero_le _, Nat.zero_le _⟩ (Nat.le_of_ble_eq_true rfl) dX8_readAll_45 rfl (fun r10 M9 h => ?_)
      refine g_iloadn (k0 := 2) (q := 49) dX8_readAll_48 rfl rfl rfl ?_
      refine g_aloadn (k0 := 0) (q := 50) dX8_readAll_49 rfl rfl rfl ?_
      refine g_calli (q := 53) [] [.int 24, .int r10] cv_X8_47 rc_7 (c_X8_bodyBits hE h) rfl rfl ⟨rfl, rfl, Nat.le_of_ble_eq_true rfl, Nat.le_of_ble_eq_true rfl, Nat.zero_le _, Nat.zero_le _⟩ (Nat.le_of_ble_eq_true rfl) dX8_readAll_50 rfl (fun r12 M11 h => ?_)
      refine g_iadd (q := 54) dX8_readAll_53 rfl ?_
      refine g_ic_eq (tgt := 59) (q := 57) dX8_readAll_54 rfl rfl (fun hc25 => ?_) (fun hc25 => ?_)
      · replace h := h.1 hc25
        refine g_iconst (q := 60) dX8_readAll_59 ki_0 rfl ?_
        refine g_istoren (lv' := [(0, .ref (eA E 7)), (1, .ref (eA E 3)), (2, .int 24), (3, .int 0)]) (q := 61) [1, 2, 3, 0] dX8_readAll_60 rfl (by decide) rfl rfl ?_
        obtain ⟨n1, h⟩ := h
        exact g_X8_readAll_3_61 hE hz n1 _ _ _ h
      · replace h := h.2 hc25
        refine g_iconst (q := 58) dX8_readAll_57 ki_0 rfl ?_
        exact g_zret hz rfl rfl dX8_readAll_58 h
  · replace h := h.2 hc27
    refine g_iconst (q := 12) dX8_readAll_11 ki_0 rfl ?_
    exact g_zret hz rfl rfl dX8_readAll_12 h
set_option maxHeartbeats 4000000 in
set_option maxRecDepth 100000 in
theorem c_X8_readFrom_3 {E : EX} (hE : EH E) {M : Mem} {Q : Mem → Prop} (h : P_Telling_readFrom 3  M Q) : CU yX8_readFrom cX8_readFrom 2 none rmX8_readFrom E [.ref (eA E 7), .ref (eA E 3)] M Q := by
  refine CU.of hE (plainFor_of_name (by decide)) (Nat.le_of_ble_eq_true rfl) (fun x hz => ?_)
  unfold P_Telling_readFrom at h
  show G x E mX8_readFrom 0 0 0 [(0, .ref (eA E 7)), (1, .ref (eA E 3))] [] M
  refine g_aloadn (k0 := 0) (q := 1) dX8_readFrom_0 rfl rfl rfl ?_
  refine g_aloadn (k0 := 1) (q := 2) dX8_readFrom_1 rfl rfl rfl ?_
  refine g_calli (q := 5) [.ref (eA E 3)] [] cv_X8_25 rc_7 (c_X8_readAll_3 hE h) rfl rfl ⟨rfl, rfl, Nat.le_of_ble_eq_true rfl, Nat.le_of_ble_eq_true rfl, Nat.zero_le _, Nat.zero_le _⟩ (Nat.le_of_ble_eq_true rfl) dX8_readFrom_2 rfl (fun r2 M1 h => ?_)
  obtain ⟨hb_r2, h⟩ := h
  refine g_if_ne (tgt := 26) (q := 8) dX8_readFrom_5 rfl rfl (fun hc4 => ?_) (fun hc4 => ?_)
  · replace h := h.1 hc4
    exact g_vret hz rfl dX8_readFrom_26 h
  · replace h := h.2 hc4
    refine g_aloadn (k0 := 0) (q := 9) dX8_readFrom_8 rfl rfl rfl ?_
    refine g_iconst (q := 10) dX8_readFrom_9 ki_0 rfl ?_
    refine g_putI (q := 13) fp_X8_15_7 dX8_readFrom_10 rfl ?_
    refine g_aloadn (k0 := 0) (q := 14) dX8_readFrom_13 rfl rfl rfl ?_
    refine g_iconst (q := 15) dX8_readFrom_14 ki_m1 rfl ?_
    refine g_putI (q := 18) fp_X8_19_7 dX8_readFrom_15 rfl ?_
    refine g_aloadn (k0 := 0) (q := 19) dX8_readFrom_18 rfl rfl rfl ?_
    refine g_iconst (q := 20) dX8_readFrom_19 ki_m1 rfl ?_
    refine g_iconst (q := 21) dX8_readFrom_20 ki_m1 rfl ?_
    refine g_iconst (q := 22) dX8_readFrom_21 ki_m1 rfl ?_
    refine g_iconst (q := 23) dX8_readFrom_22 ki_m1 rfl ?_
    refine g_callv (q := 26) [.int (-1), .int (-1), .int (-1), .int (-1)] [] cv_X8_29 rc_7 (c_X8_setNumbers hE h) rfl rfl ⟨rfl, rfl, Nat.le_of_ble_eq_true rfl, Nat.le_of_ble_eq_true rfl, Nat.zero_le _, Nat.zero_le _⟩ (Nat.le_of_ble_eq_true rfl) dX8_readFrom_23 rfl (fun M3 h => ?_)
    exact g_vret hz rfl dX8_readFrom_26 h
set_option maxHeartbeats 4000000 in
set_option maxRecDepth 100000 in
theorem g_X10_readFrame_3_38 {x : GX} {E : EX} (hE : EH E) {Q : Mem → Prop} (hz : ZU x E Q) : ∀ (v2 : Int32) (M : Mem), P_Sv_readFrame_38 3 Q v2 M → G x E mX10_readFrame 0 0 38 [(0, .ref (eA E 0)), (2, .int v2)] [] M := by
  intro v2 M h
  unfold P_Sv_readFrame_38 at h
  refine g_aloadn (k0 := 0) (q := 39) dX10_readFrame_38 rfl rfl rfl ?_
  refine g_get (v := .ref (eA E 11)) (q := 42) fg_X10_43_0 rfl dX10_readFrame_39 rfl ?_
  refine g_aloadn (k0 := 0) (q := 43) dX10_readFrame_42 rfl rfl rfl ?_
  refine g_get (v := .ref (eA E 7)) (q := 46) fg_X10_29_0 rfl dX10_readFrame_43 rfl ?_
  refine g_iloadn (k0 := 1) (q := 47) dX10_readFrame_46 rfl rfl rfl ?_
  refine g_aloadn (k0 := 0) (q := 48) dX10_readFrame_47 rfl rfl rfl ?_
  refine g_get (v := .int (M.1 0 10)) (q := 51) fg_X10_75_0 rfl dX10_readFrame_48 rfl ?_
  refine g_calli (q := 54) [.ref (eA E 7), .int v2, .int (M.1 0 10)] [] cv_X10_210 rc_11 (c_X2_add hE h) rfl rfl ⟨rfl, rfl, Nat.le_of_ble_eq_true rfl, Nat.le_of_ble_eq_true rfl, Nat.zero_le _, Nat.zero_le _⟩ (Nat.le_of_ble_eq_true rfl) dX10_readFrame_51 rfl (fun r5 M4 h => ?_)
  refine g_istoren (lv' := [(0, .ref (eA E 0)), (2, .int v2), (3, .int r5)]) (q := 55) [1, 2, 0] dX10_readFrame_54 rfl (by decide) rfl rfl ?_
  refine g_iloadn (k0 := 2) (q := 56) dX10_readFrame_55 rfl rfl rfl ?_
  refine g_iconst (q := 57) dX10_readFrame_56 ki_m1 rfl ?_
  refine g_ic_ne (tgt := 61) (q := 60) dX10_readFrame_57 rfl rfl (fun hc14 => ?_) (fun hc14 => ?_)
  · replace h := h.1 hc14
    refine g_aloadn (k0 := 0) (q := 62) dX10_readFrame_61 rfl rfl rfl ?_
    refine g_get (v := .ref (eA E 7)) (q := 65) fg_X10_29_0 rfl dX10_readFrame_62 rfl ?_
    refine g_calli (q := 68) [] [] cv_X10_207 rc_7 (c_X8_kind hE h) rfl rfl ⟨rfl, rfl, Nat.le_of_ble_eq_true rfl, Nat.le_of_ble_eq_true rfl, Nat.zero_le _, Nat.zero_le _⟩ (Nat.le_of_ble_eq_true rfl) dX10_readFrame_65 rfl (fun r7 M6 h => ?_)
    refine g_iconst (q := 69) dX10_readFrame_68 ki_5 rfl ?_
    refine g_ic_ne (tgt := 87) (q := 72) dX10_readFrame_69 rfl rfl (fun hc13 => ?_) (fun hc13 => ?_)
    · replace h := h.1 hc13
      refine g_aloadn (k0 := 0) (q := 88) dX10_readFrame_87 rfl rfl rfl ?_
      refine g_get (v := .ref (eA E 7)) (q := 91) fg_X10_29_0 rfl dX10_readFrame_88 rfl ?_
      refine g_calli (q := 94) [] [] cv_X10_207 rc_7 (c_X8_kind hE h) rfl rfl ⟨rfl, rfl, Nat.le_of_ble_eq_true rfl, Nat.le_of_ble_eq_true rfl, Nat.zero_le _, Nat.zero_le _⟩ (Nat.le_of_ble_eq_true rfl) dX10_readFrame_91 rfl (fun r9 M8 h => ?_)
      refine g_iconst (q := 95) dX10_readFrame_94 ki_4 rfl ?_
      refine g_ic_ne (tgt := 110) (q := 98) dX10_readFrame_95 rfl rfl (fun hc11 => ?_) (fun hc11 => ?_)
      · replace h := h.1 hc11
        exact g_vret hz rfl dX10_readFrame_110 h
      · replace h := h.2 hc11
        refine g_aloadn (k0 := 0) (q := 99) dX10_readFrame_98 rfl rfl rfl ?_
        refine g_get (v := .ref (eA E 15)) (q := 102) fg_X10_57_0 rfl dX10_readFrame_99 rfl ?_
        refine g_aloadn (k0 := 0) (q := 103) dX10_readFrame_102 rfl rfl rfl ?_
        refine g_get (v := .ref (eA E 11)) (q := 106) fg_X10_43_0 rfl dX10_readFrame_103 rfl ?_
        refine g_iloadn (k0 := 2) (q := 107) dX10_readFrame_106 rfl rfl rfl ?_
        refine g_callv (q := 110) [.ref (eA E 11), .int r5] [] cv_X10_218 rc_15 (c_X9_note hE h) rfl rfl ⟨rfl, rfl, Nat.le_of_ble_eq_true rfl, Nat.le_of_ble_eq_true rfl, Nat.zero_le _, Nat.zero_le _⟩ (Nat.le_of_ble_eq_true rfl) dX10_readFrame_107 rfl (fun M10 h => ?_)
        exact g_vret hz rfl dX10_readFrame_110 h
    · replace h := h.2 hc13
      refine g_aloadn (k0 := 0) (q := 73) dX10_readFrame_72 rfl rfl rfl ?_
      refine g_get (v := .ref (eA E 13)) (q := 76) fg_X10_50_0 rfl dX10_readFrame_73 rfl ?_
      refine g_aloadn (k0 := 0) (q := 77) dX10_readFrame_76 rfl rfl rfl ?_
      refine g_get (v := .ref (eA E 11)) (q := 80) fg_X10_43_0 rfl dX10_readFrame_77 rfl ?_
      refine g_iloadn (k0 := 2) (q := 81) dX10_readFrame_80 rfl rfl rfl ?_
      refine g_callv (q := 84) [.ref (eA E 11), .int r5] [] cv_X10_214 rc_13 (c_X0_note hE h) rfl rfl ⟨rfl, rfl, Nat.le_of_ble_eq_true rfl, Nat.le_of_ble_eq_true rfl, Nat.zero_le _, Nat.zero_le _⟩ (Nat.le_of_ble_eq_true rfl) dX10_readFrame_81 rfl (fun M12 h => ?_)
      refine g_goto (tgt := 110) dX10_readFrame_84 rfl ?_
      exact g_vret hz rfl dX10_readFrame_110 h
  · replace h := h.2 hc14
    exact g_vret hz rfl dX10_readFrame_60 h
set_option maxHeartbeats 4000000 in
set_option maxRecDepth 100000 in
theorem c_X10_readFrame_3 {E : EX} (hE : EH E) {a2 : Int32} {M : Mem} {Q : Mem → Prop} (h : P_Sv_readFrame 3 a2 M Q) : CU yX10_readFrame cX10_readFrame 4 none rmX10_readFrame E [.ref (eA E 0), .ref (eA E 3), .int a2] M Q := by
  refine CU.of hE (plainFor_of_name (by decide)) (Nat.le_of_ble_eq_true rfl) (fun x hz => ?_)
  unfold P_Sv_readFrame at h
  show G x E mX10_readFrame 0 0 0 [(0, .ref (eA E 0)), (1, .ref (eA E 3)), (2, .int a2)] [] M
  refine g_aloadn (k0 := 0) (q := 1) dX10_readFrame_0 rfl rfl rfl ?_
  refine g_get (v := .ref (eA E 7)) (q := 4) fg_X10_29_0 rfl dX10_readFrame_1 rfl ?_
  refine g_aloadn (k0 := 1) (q := 5) dX10_readFrame_4 rfl rfl rfl ?_
  refine g_callv (q := 8) [.ref (eA E 3)] [] cv_X10_203 rc_7 (c_X8_readFrom_3 hE h) rfl rfl ⟨rfl, rfl, Nat.le_of_ble_eq_true rfl, Nat.le_of_ble_eq_true rfl, Nat.zero_le _, Nat.zero_le _⟩ (Nat.le_of_ble_eq_true rfl) dX10_readFrame_5 rfl (fun M1 h => ?_)
  refine g_aloadn (k0 := 0) (q := 9) dX10_readFrame_8 rfl rfl rfl ?_
  refine g_dup (q := 10) dX10_readFrame_9 rfl rfl ?_
  refine g_get (v := .int (M1.1 0 11)) (q := 13) fg_X10_79_0 rfl dX10_readFrame_10 rfl ?_
  refine g_iconst (q := 14) dX10_readFrame_13 ki_1 rfl ?_
  refine g_iadd (q := 15) dX10_readFrame_14 rfl ?_
  refine g_putI (q := 18) fp_X10_79_0 dX10_readFrame_15 rfl ?_
  refine g_aloadn (k0 := 0) (q := 19) dX10_readFrame_18 rfl rfl rfl ?_
  refine g_get (v := .ref (eA E 7)) (q := 22) fg_X10_29_0 rfl dX10_readFrame_19 rfl ?_
  refine g_calli (q := 25) [] [] cv_X10_207 rc_7 (c_X8_kind hE h) rfl rfl ⟨rfl, rfl, Nat.le_of_ble_eq_true rfl, Nat.le_of_ble_eq_true rfl, Nat.zero_le _, Nat.zero_le _⟩ (Nat.le_of_ble_eq_true rfl) dX10_readFrame_22 rfl (fun r3 M2 h => ?_)
  refine g_if_ne (tgt := 38) (q := 28) dX10_readFrame_25 rfl rfl (fun hc15 => ?_) (fun hc15 => ?_)
  · replace h := h.1 hc15
    refine g_lv (lv' := [(0, .ref (eA E 0)), (2, .int a2)]) [0, 2] rfl ?_
    exact g_X10_readFrame_3_38 hE hz _ _ h
  · replace h := h.2 hc15
    refine g_aloadn (k0 := 0) (q := 29) dX10_readFrame_28 rfl rfl rfl ?_
    refine g_dup (q := 30) dX10_readFrame_29 rfl rfl ?_
    refine g_get (v := .int (M2.1 0 12)) (q := 33) fg_X10_82_0 rfl dX10_readFrame_30 rfl ?_
    refine g_iconst (q := 34) dX10_readFrame_33 ki_1 rfl ?_
    refine g_iadd (q := 35) dX10_readFrame_34 rfl ?_
    refine g_putI (q := 38) fp_X10_82_0 dX10_readFrame_35 rfl ?_
    refine g_lv (lv' := [(0, .ref (eA E 0)), (2, .int a2)]) [0, 2] rfl ?_
    exact g_X10_readFrame_3_38 hE hz _ _ h
set_option maxHeartbeats 4000000 in
set_option maxRecDepth 100000 in
theorem g_X10_hear_47 {x : GX} {E : EX} (hE : EH E) {Q : Int32 → Mem → Prop} (hz : ZI x E Q) : ∀ (n : Nat) (v1 : Int32) (v2 : Int32) (v4 : Int32) (v5 : Int32) (M : Mem), P_Sv_hear_47 Q n v1 v2 v4 v5 M → G x E mX10_hear 0 0 47 [(0, .ref (eA E 0)), (1, .int v1), (2, .int v2), (3, .ref (eA E 5)), (4, .int v4), (5, .int v5)] [] M := by
  intro n
  induction n with
  | zero => intro _ _ _ _ _ h; exact h.elim
  | succ n ih =>
    intro v1 v2 v4 v5 M h
    unfold P_Sv_hear_47 at h
    refine g_iload (k0 := 5) (q := 49) dX10_hear_47 rfl rfl ?_
    refine g_iload (k0 := 4) (q := 51) dX10_hear_49 rfl rfl ?_
    refine g_ic_ge (tgt := 82) (q := 54) dX10_hear_51 rfl rfl (fun hc11 => ?_) (fun hc11 => ?_)
    · replace h := h.1 hc11
      refine g_aloadn (k0 := 0) (q := 83) dX10_hear_82 rfl rfl rfl ?_
      refine g_get (v := .ref (eA E 1)) (q := 86) fg_X10_10_0 rfl dX10_hear_83 rfl ?_
      refine g_iconst (q := 87) dX10_hear_86 ki_0 rfl ?_
      refine g_calli (q := 90) [.int 0] [] cv_X10_97 rc_1 (c_X7_cutTo hE h) rfl rfl ⟨rfl, rfl, Nat.le_of_ble_eq_true rfl, Nat.le_of_ble_eq_true rfl, Nat.zero_le _, Nat.zero_le _⟩ (Nat.le_of_ble_eq_true rfl) dX10_hear_87 rfl (fun r4 M3 h => ?_)
      obtain ⟨hb_r4, h⟩ := h
      refine g_pop (q := 91) dX10_hear_90 rfl rfl ?_
      refine g_aloadn (k0 := 0) (q := 92) dX10_hear_91 rfl rfl rfl ?_
      refine g_get (v := .int (M3.1 0 11)) (q := 95) fg_X10_79_0 rfl dX10_hear_92 rfl ?_
      refine g_iloadn (k0 := 2) (q := 96) dX10_hear_95 rfl rfl rfl ?_
      refine g_isub (q := 97) dX10_hear_96 rfl ?_
      exact g_iret hz rfl dX10_hear_97 h
    · replace h := h.2 hc11
      refine g_aloadn (k0 := 3) (q := 55) dX10_hear_54 rfl rfl rfl ?_
      refine g_aloadn (k0 := 0) (q := 56) dX10_hear_55 rfl rfl rfl ?_
      refine g_get (v := .ref (eA E 1)) (q := 59) fg_X10_10_0 rfl dX10_hear_56 rfl ?_
      refine g_iload (k0 := 5) (q := 61) dX10_hear_59 rfl rfl ?_
      refine g_calli (q := 64) [.int v5] [.ref (eA E 5)] cv_X10_100 rc_1 (c_X7_levelAt hE h) rfl rfl ⟨rfl, rfl, Nat.le_of_ble_eq_true rfl, Nat.le_of_ble_eq_true rfl, Nat.zero_le _, Nat.zero_le _⟩ (Nat.le_of_ble_eq_true rfl) dX10_hear_61 rfl (fun r6 M5 h => ?_)
      refine g_calli (q := 67) [.int r6] [] cv_X10_104 rc_5 (c_X1_takeLevel_5 hE h) rfl rfl ⟨rfl, rfl, Nat.le_of_ble_eq_true rfl, Nat.le_of_ble_eq_true rfl, Nat.zero_le _, Nat.zero_le _⟩ (Nat.le_of_ble_eq_true rfl) dX10_hear_64 rfl (fun r8 M7 h => ?_)
      obtain ⟨hb_r8, h⟩ := h
      refine g_if_eq (tgt := 76) (q := 70) dX10_hear_67 rfl rfl (fun hc10 => ?_) (fun hc10 => ?_)
      · replace h := h.1 hc10
        refine g_iinc (lv' := [(0, .ref (eA E 0)), (1, .int v1), (2, .int v2), (3, .ref (eA E 5)), (4, .int v4), (5, .int (v5 + 1))]) (k0 := 5) (w := (v5 + 1)) (q := 79) [1, 2, 3, 4, 5, 0] dX10_hear_76 rfl rfl (by decide) rfl rfl ?_
        refine g_goto (tgt := 47) dX10_hear_79 rfl ?_
        exact ih _ _ _ _ _ h
      · replace h := h.2 hc10
        refine g_aloadn (k0 := 0) (q := 71) dX10_hear_70 rfl rfl rfl ?_
        refine g_aloadn (k0 := 3) (q := 72) dX10_hear_71 rfl rfl rfl ?_
        refine g_iloadn (k0 := 1) (q := 73) dX10_hear_72 rfl rfl rfl ?_
        refine g_callv (q := 76) [.ref (eA E 5), .int v1] [] cv_X10_107 rc_0 (c_X10_readFrame_5 hE h) rfl rfl ⟨rfl, rfl, Nat.le_of_ble_eq_true rfl, Nat.le_of_ble_eq_true rfl, Nat.zero_le _, Nat.zero_le _⟩ (Nat.le_of_ble_eq_true rfl) dX10_hear_73 rfl (fun M9 h => ?_)
        refine g_iinc (lv' := [(0, .ref (eA E 0)), (1, .int v1), (2, .int v2), (3, .ref (eA E 5)), (4, .int v4), (5, .int (v5 + 1))]) (k0 := 5) (w := (v5 + 1)) (q := 79) [1, 2, 3, 4, 5, 0] dX10_hear_76 rfl rfl (by decide) rfl rfl ?_
        refine g_goto (tgt := 47) dX10_hear_79 rfl ?_
        exact ih _ _ _ _ _ h
set_option maxHeartbeats 4000000 in
set_option maxRecDepth 100000 in
theorem g_X10_hear_31 {x : GX} {E : EX} (hE : EH E) {Q : Int32 → Mem → Prop} (hz : ZI x E Q) : ∀ (v1 : Int32) (v2 : Int32) (M : Mem), P_Sv_hear_31 Q v1 v2 M → G x E mX10_hear 0 0 31 [(0, .ref (eA E 0)), (1, .int v1), (2, .int v2)] [.ref (eA E 5)] M := by
  intro v1 v2 M h
  unfold P_Sv_hear_31 at h
  refine g_astoren (lv' := [(0, .ref (eA E 0)), (1, .int v1), (2, .int v2), (3, .ref (eA E 5))]) (q := 32) [1, 2, 3, 0] dX10_hear_31 rfl (by decide) rfl rfl ?_
  refine g_aloadn (k0 := 0) (q := 33) dX10_hear_32 rfl rfl rfl ?_
  refine g_get (v := .ref (eA E 1)) (q := 36) fg_X10_10_0 rfl dX10_hear_33 rfl ?_
  refine g_calli (q := 39) [] [] cv_X10_93 rc_1 (c_X7_length hE h) rfl rfl ⟨rfl, rfl, Nat.le_of_ble_eq_true rfl, Nat.le_of_ble_eq_true rfl, Nat.zero_le _, Nat.zero_le _⟩ (Nat.le_of_ble_eq_true rfl) dX10_hear_36 rfl (fun r2 M1 h => ?_)
  refine g_bipush (q := 41) dX10_hear_39 kb_8 rfl ?_
  refine g_imul (q := 42) dX10_hear_41 rfl ?_
  refine g_istore (lv' := [(0, .ref (eA E 0)), (1, .int v1), (2, .int v2), (3, .ref (eA E 5)), (4, .int (r2 * 8))]) (q := 44) [1, 2, 3, 4, 0] dX10_hear_42 (by decide) rfl rfl ?_
  refine g_iconst (q := 45) dX10_hear_44 ki_0 rfl ?_
  refine g_istore (lv' := [(0, .ref (eA E 0)), (1, .int v1), (2, .int v2), (3, .ref (eA E 5)), (4, .int (r2 * 8)), (5, .int 0)]) (q := 47) [1, 2, 3, 4, 5, 0] dX10_hear_45 (by decide) rfl rfl ?_
  obtain ⟨n1, h⟩ := h
  exact g_X10_hear_47 hE hz n1 _ _ _ _ _ h
