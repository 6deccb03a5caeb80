set_option maxHeartbeats 4000000 in
set_option maxRecDepth 100000 in
theorem c_X7_hasRoomFor {E : EX} (hE : EH E) {a1 : Int32} {M : Mem} {Q : Int32 → Mem → Prop} (h : P_Tape_hasRoomFor a1 M Q) : CI yX7_hasRoomFor cX7_hasRoomFor 2 (some .boolean) rmX7_hasRoomFor E [.ref (eA E 1), .int a1] M (fun r M => nb r ∧ Q r M) := by
  refine CI.of hE (plainFor_of_name (by decide)) (Nat.le_of_ble_eq_true rfl) (fun x hz => ?_)
  unfold P_Tape_hasRoomFor at h
  show G x E mX7_hasRoomFor 0 0 0 [(0, .ref (eA E 1)), (1, .int a1)] [] M
  refine g_aloadn (k0 := 0) (q := 1) dX7_hasRoomFor_0 rfl rfl rfl ?_
  refine g_get (v := .int (M.1 1 1)) (q := 4) fg_X7_13_1 rfl dX7_hasRoomFor_1 rfl ?_
  refine g_iloadn (k0 := 1) (q := 5) dX7_hasRoomFor_4 rfl rfl rfl ?_
  refine g_iadd (q := 6) dX7_hasRoomFor_5 rfl ?_
  refine g_sipush (q := 9) dX7_hasRoomFor_6 ks_400 rfl ?_
  refine g_ic_gt (tgt := 16) (q := 12) dX7_hasRoomFor_9 rfl rfl (fun hc1 => ?_) (fun hc1 => ?_)
  · replace h := h.1 hc1
    refine g_iconst (q := 17) dX7_hasRoomFor_16 ki_0 rfl ?_
    exact g_zret hz rfl rfl dX7_hasRoomFor_17 h
  · replace h := h.2 hc1
    refine g_iconst (q := 13) dX7_hasRoomFor_12 ki_1 rfl ?_
    refine g_goto (tgt := 17) dX7_hasRoomFor_13 rfl ?_
    exact g_zret hz rfl rfl dX7_hasRoomFor_17 h
set_option maxHeartbeats 4000000 in
set_option maxRecDepth 100000 in
theorem g_X7_addNumber_3 {x : GX} {E : EX} (hE : EH E) {Q : Mem → Prop} (hz : ZU x E Q) : ∀ (n : Nat) (v1 : Int32) (v2 : Int32) (M : Mem), P_Tape_addNumber_3 Q n v1 v2 M → G x E mX7_addNumber 0 0 3 [(0, .ref (eA E 1)), (1, .int v1), (2, .int v2)] [] M := by
  intro n
  induction n with
  | zero => intro _ _ _ h; exact h.elim
  | succ n ih =>
    intro v1 v2 M h
    unfold P_Tape_addNumber_3 at h
    refine g_iloadn (k0 := 2) (q := 4) dX7_addNumber_3 rfl rfl rfl ?_
    refine g_if_lt (tgt := 46) (q := 7) dX7_addNumber_4 rfl rfl (fun hc3 => ?_) (fun hc3 => ?_)
    · replace h := h.1 hc3
      exact g_vret hz rfl dX7_addNumber_46 h
    · replace h := h.2 hc3
      refine g_aloadn (k0 := 0) (q := 8) dX7_addNumber_7 rfl rfl rfl ?_
      refine g_get (v := .int (M.1 1 1)) (q := 11) fg_X7_13_1 rfl dX7_addNumber_8 rfl ?_
      refine g_sipush (q := 14) dX7_addNumber_11 ks_400 rfl ?_
      refine g_ic_ge (tgt := 40) (q := 17) dX7_addNumber_14 rfl rfl (fun hc2 => ?_) (fun hc2 => ?_)
      · replace h := h.1 hc2
        refine g_iinc (lv' := [(0, .ref (eA E 1)), (1, .int v1), (2, .int (v2 + (-8)))]) (k0 := 2) (w := (v2 + (-8))) (q := 43) [1, 2, 0] dX7_addNumber_40 rfl rfl (by decide) rfl rfl ?_
        refine g_goto (tgt := 3) dX7_addNumber_43 rfl ?_
        exact ih _ _ _ h
      · replace h := h.2 hc2
        refine g_aloadn (k0 := 0) (q := 18) dX7_addNumber_17 rfl rfl rfl ?_
        refine g_get (v := .ref (eA E 2)) (q := 21) fg_X7_9_1 rfl dX7_addNumber_18 rfl ?_
        refine g_aloadn (k0 := 0) (q := 22) dX7_addNumber_21 rfl rfl rfl ?_
        refine g_get (v := .int (M.1 1 1)) (q := 25) fg_X7_13_1 rfl dX7_addNumber_22 rfl ?_
        refine g_iloadn (k0 := 1) (q := 26) dX7_addNumber_25 rfl rfl rfl ?_
        refine g_iloadn (k0 := 2) (q := 27) dX7_addNumber_26 rfl rfl rfl ?_
        refine g_ishr (q := 28) dX7_addNumber_27 rfl ?_
        refine g_i2b (q := 29) dX7_addNumber_28 rfl ?_
        have hv1 := h.1
        replace h := h.2
        refine g_bast (q := 30) ar_2 hv1 (pk_vb _) dX7_addNumber_29 rfl ?_
        refine g_aloadn (k0 := 0) (q := 31) dX7_addNumber_30 rfl rfl rfl ?_
        refine g_dup (q := 32) dX7_addNumber_31 rfl rfl ?_
        refine g_get (v := .int (M.1 1 1)) (q := 35) fg_X7_13_1 rfl dX7_addNumber_32 rfl ?_
        refine g_iconst (q := 36) dX7_addNumber_35 ki_1 rfl ?_
        refine g_iadd (q := 37) dX7_addNumber_36 rfl ?_
        refine g_putI (q := 40) fp_X7_13_1 dX7_addNumber_37 rfl ?_
        refine g_iinc (lv' := [(0, .ref (eA E 1)), (1, .int v1), (2, .int (v2 + (-8)))]) (k0 := 2) (w := (v2 + (-8))) (q := 43) [1, 2, 0] dX7_addNumber_40 rfl rfl (by decide) rfl rfl ?_
        refine g_goto (tgt := 3) dX7_addNumber_43 rfl ?_
        exact ih _ _ _ h
set_option maxHeartbeats 4000000 in
set_option maxRecDepth 100000 in
theorem c_X7_addNumber {E : EX} (hE : EH E) {a1 : Int32} {M : Mem} {Q : Mem → Prop} (h : P_Tape_addNumber a1 M Q) : CU yX7_addNumber cX7_addNumber 3 none rmX7_addNumber E [.ref (eA E 1), .int a1] M Q := by
  refine CU.of hE (plainFor_of_name (by decide)) (Nat.le_of_ble_eq_true rfl) (fun x hz => ?_)
  unfold P_Tape_addNumber at h
  show G x E mX7_addNumber 0 0 0 [(0, .ref (eA E 1)), (1, .int a1)] [] M
  refine g_bipush (q := 2) dX7_addNumber_0 kb_24 rfl ?_
  refine g_istoren (lv' := [(0, .ref (eA E 1)), (1, .int a1), (2, .int 24)]) (q := 3) [1, 2, 0] dX7_addNumber_2 rfl (by decide) rfl rfl ?_
  obtain ⟨n1, h⟩ := h
  exact g_X7_addNumber_3 hE hz n1 _ _ _ h
set_option maxHeartbeats 4000000 in
set_option maxRecDepth 100000 in
theorem c_X7_length {E : EX} (hE : EH E) {M : Mem} {Q : Int32 → Mem → Prop} (h : P_Tape_length  M Q) : CI yX7_length cX7_length 1 (some .int) rmX7_length E [.ref (eA E 1)] M Q := by
  refine CI.of hE (plainFor_of_name (by decide)) (Nat.le_of_ble_eq_true rfl) (fun x hz => ?_)
  unfold P_Tape_length at h
  show G x E mX7_length 0 0 0 [(0, .ref (eA E 1))] [] M
  refine g_aloadn (k0 := 0) (q := 1) dX7_length_0 rfl rfl rfl ?_
  refine g_get (v := .int (M.1 1 1)) (q := 4) fg_X7_13_1 rfl dX7_length_1 rfl ?_
  exact g_iret hz rfl dX7_length_4 h
set_option maxHeartbeats 4000000 in
set_option maxRecDepth 100000 in
theorem c_X10_feed {E : EX} (hE : EH E) {a1 : Int32} {a2 : Int32} {a3 : Int32} {a4 : Int32} {a5 : Int32} {M : Mem} {Q : Int32 → Mem → Prop} (h : P_Sv_feed a1 a2 a3 a4 a5 M Q) : CI yX10_feed cX10_feed 6 (some .int) rmX10_feed E [.ref (eA E 0), .int a1, .int a2, .int a3, .int a4, .int a5] M Q := by
  refine CI.of hE (plainFor_of_name (by decide)) (Nat.le_of_ble_eq_true rfl) (fun x hz => ?_)
  unfold P_Sv_feed at h
  show G x E mX10_feed 0 0 0 [(0, .ref (eA E 0)), (1, .int a1), (2, .int a2), (3, .int a3), (4, .int a4), (5, .int a5)] [] M
  refine g_aloadn (k0 := 0) (q := 1) dX10_feed_0 rfl rfl rfl ?_
  refine g_get (v := .ref (eA E 1)) (q := 4) fg_X10_10_0 rfl dX10_feed_1 rfl ?_
  refine g_bipush (q := 6) dX10_feed_4 kb_20 rfl ?_
  refine g_calli (q := 9) [.int 20] [] cv_X10_85 rc_1 (c_X7_hasRoomFor hE h) rfl rfl ⟨rfl, rfl, Nat.le_of_ble_eq_true rfl, Nat.le_of_ble_eq_true rfl, Nat.zero_le _, Nat.zero_le _⟩ (Nat.le_of_ble_eq_true rfl) dX10_feed_6 rfl (fun r2 M1 h => ?_)
  obtain ⟨hb_r2, h⟩ := h
  refine g_if_ne (tgt := 14) (q := 12) dX10_feed_9 rfl rfl (fun hc10 => ?_) (fun hc10 => ?_)
  · replace h := h.1 hc10
    refine g_aloadn (k0 := 0) (q := 15) dX10_feed_14 rfl rfl rfl ?_
    refine g_get (v := .ref (eA E 1)) (q := 18) fg_X10_10_0 rfl dX10_feed_15 rfl ?_
    refine g_iloadn (k0 := 1) (q := 19) dX10_feed_18 rfl rfl rfl ?_
    refine g_callv (q := 22) [.int a1] [] cv_X10_89 rc_1 (c_X7_addNumber hE h) rfl rfl ⟨rfl, rfl, Nat.le_of_ble_eq_true rfl, Nat.le_of_ble_eq_true rfl, Nat.zero_le _, Nat.zero_le _⟩ (Nat.le_of_ble_eq_true rfl) dX10_feed_19 rfl (fun M3 h => ?_)
    refine g_aloadn (k0 := 0) (q := 23) dX10_feed_22 rfl rfl rfl ?_
    refine g_get (v := .ref (eA E 1)) (q := 26) fg_X10_10_0 rfl dX10_feed_23 rfl ?_
    refine g_iloadn (k0 := 2) (q := 27) dX10_feed_26 rfl rfl rfl ?_
    refine g_callv (q := 30) [.int a2] [] cv_X10_89 rc_1 (c_X7_addNumber hE h) rfl rfl ⟨rfl, rfl, Nat.le_of_ble_eq_true rfl, Nat.le_of_ble_eq_true rfl, Nat.zero_le _, Nat.zero_le _⟩ (Nat.le_of_ble_eq_true rfl) dX10_feed_27 rfl (fun M4 h => ?_)
    refine g_aloadn (k0 := 0) (q := 31) dX10_feed_30 rfl rfl rfl ?_
    refine g_get (v := .ref (eA E 1)) (q := 34) fg_X10_10_0 rfl dX10_feed_31 rfl ?_
    refine g_iloadn (k0 := 3) (q := 35) dX10_feed_34 rfl rfl rfl ?_
    refine g_callv (q := 38) [.int a3] [] cv_X10_89 rc_1 (c_X7_addNumber hE h) rfl rfl ⟨rfl, rfl, Nat.le_of_ble_eq_true rfl, Nat.le_of_ble_eq_true rfl, Nat.zero_le _, Nat.zero_le _⟩ (Nat.le_of_ble_eq_true rfl) dX10_feed_35 rfl (fun M5 h => ?_)
    refine g_aloadn (k0 := 0) (q := 39) dX10_feed_38 rfl rfl rfl ?_
    refine g_get (v := .ref (eA E 1)) (q := 42) fg_X10_10_0 rfl dX10_feed_39 rfl ?_
    refine g_iload (k0 := 4) (q := 44) dX10_feed_42 rfl rfl ?_
    refine g_callv (q := 47) [.int a4] [] cv_X10_89 rc_1 (c_X7_addNumber hE h) rfl rfl ⟨rfl, rfl, Nat.le_of_ble_eq_true rfl, Nat.le_of_ble_eq_true rfl, Nat.zero_le _, Nat.zero_le _⟩ (Nat.le_of_ble_eq_true rfl) dX10_feed_44 rfl (fun M6 h => ?_)
    refine g_aloadn (k0 := 0) (q := 48) dX10_feed_47 rfl rfl rfl ?_
    refine g_get (v := .ref (eA E 1)) (q := 51) fg_X10_10_0 rfl dX10_feed_48 rfl ?_
    refine g_iload (k0 := 5) (q := 53) dX10_feed_51 rfl rfl ?_
    refine g_callv (q := 56) [.int a5] [] cv_X10_89 rc_1 (c_X7_addNumber hE h) rfl rfl ⟨rfl, rfl, Nat.le_of_ble_eq_true rfl, Nat.le_of_ble_eq_true rfl, Nat.zero_le _, Nat.zero_le _⟩ (Nat.le_of_ble_eq_true rfl) dX10_feed_53 rfl (fun M7 h => ?_)
    refine g_aloadn (k0 := 0) (q := 57) dX10_feed_56 rfl rfl rfl ?_
    refine g_get (v := .ref (eA E 1)) (q := 60) fg_X10_10_0 rfl dX10_feed_57 rfl ?_
    refine g_calli (q := 63) [] [] cv_X10_93 rc_1 (c_X7_length hE h) rfl rfl ⟨rfl, rfl, Nat.le_of_ble_eq_true rfl, Nat.le_of_ble_eq_true rfl, Nat.zero_le _, Nat.zero_le _⟩ (Nat.le_of_ble_eq_true rfl) dX10_feed_60 rfl (fun r9 M8 h => ?_)
    exact g_iret hz rfl dX10_feed_63 h
  · replace h := h.2 hc10
    refine g_iconst (q := 13) dX10_feed_12 ki_m1 rfl ?_
    exact g_iret hz rfl dX10_feed_13 h
set_option maxHeartbeats 4000000 in
set_option maxRecDepth 100000 in
theorem c_X7_cutTo {E : EX} (hE : EH E) {a1 : Int32} {M : Mem} {Q : Int32 → Mem → Prop} (h : P_Tape_cutTo a1 M Q) : CI yX7_cutTo cX7_cutTo 2 (some .boolean) rmX7_cutTo E [.ref (eA E 1), .int a1] M (fun r M => nb r ∧ Q r M) := by
  refine CI.of hE (plainFor_of_name (by decide)) (Nat.le_of_ble_eq_true rfl) (fun x hz => ?_)
  unfold P_Tape_cutTo at h
  show G x E mX7_cutTo 0 0 0 [(0, .ref (eA E 1)), (1, .int a1)] [] M
  refine g_iloadn (k0 := 1) (q := 1) dX7_cutTo_0 rfl rfl rfl ?_
  refine g_if_lt (tgt := 12) (q := 4) dX7_cutTo_1 rfl rfl (fun hc2 => ?_) (fun hc2 => ?_)
  · replace h := h.1 hc2
    refine g_iconst (q := 13) dX7_cutTo_12 ki_0 rfl ?_
    exact g_zret hz rfl rfl dX7_cutTo_13 h
  · replace h := h.2 hc2
    refine g_iloadn (k0 := 1) (q := 5) dX7_cutTo_4 rfl rfl rfl ?_
    refine g_aloadn (k0 := 0) (q := 6) dX7_cutTo_5 rfl rfl rfl ?_
    refine g_get (v := .int (M.1 1 1)) (q := 9) fg_X7_13_1 rfl dX7_cutTo_6 rfl ?_
    refine g_ic_le (tgt := 14) (q := 12) dX7_cutTo_9 rfl rfl (fun hc1 => ?_) (fun hc1 => ?_)
    · replace h := h.1 hc1
      refine g_aloadn (k0 := 0) (q := 15) dX7_cutTo_14 rfl rfl rfl ?_
      refine g_iloadn (k0 := 1) (q := 16) dX7_cutTo_15 rfl rfl rfl ?_
      refine g_putI (q := 19) fp_X7_13_1 dX7_cutTo_16 rfl ?_
      refine g_iconst (q := 20) dX7_cutTo_19 ki_1 rfl ?_
      exact g_zret hz rfl rfl dX7_cutTo_20 h
    · replace h := h.2 hc1
      refine g_iconst (q := 13) dX7_cutTo_12 ki_0 rfl ?_
      exact g_zret hz rfl rfl dX7_cutTo_13 h
set_option maxHeartbeats 4000000 in
set_option maxRecDepth 100000 in
theorem c_X10_end {E : EX} (hE : EH E) {a1 : Int32} {M : Mem} {Q : Int32 → Mem → Prop} (h : P_Sv_end a1 M Q) : CI yX10_end cX10_end 2 (some .boolean) rmX10_end E [.ref (eA E 0), .int a1] M (fun r M => nb r ∧ Q r M) := by
  refine CI.of hE (plainFor_of_name (by decide)) (Nat.le_of_ble_eq_true rfl) (fun x hz => ?_)
  unfold P_Sv_end at h
  show G x E mX10_end 0 0 0 [(0, .ref (eA E 0)), (1, .int a1)] [] M
  refine g_aloadn (k0 := 0) (q := 1) dX10_end_0 rfl rfl rfl ?_
  refine g_get (v := .ref (eA E 1)) (q := 4) fg_X10_10_0 rfl dX10_end_1 rfl ?_
  refine g_iloadn (k0 := 1) (q := 5) dX10_end_4 rfl rfl rfl ?_
  refine g_calli (q := 8) [.int a1] [] cv_X10_97 rc_1 (c_X7_cutTo hE h) rfl rfl ⟨rfl, rfl, Nat.le_of_ble_eq_true rfl, Nat.le_of_ble_eq_true rfl, Nat.zero_le _, Nat.zero_le _⟩ (Nat.le_of_ble_eq_true rfl) dX10_end_5 rfl (fun r2 M1 h => ?_)
  obtain ⟨hb_r2, h⟩ := h
  exact g_zret hz rfl hb_r2 dX10_end_8 h
set_option maxHeartbeats 4000000 in
set_option maxRecDepth 100000 in
theorem c_X7_levelAt {E : EX} (hE : EH E) {a1 : Int32} {M : Mem} {Q : Int32 → Mem → Prop} (h : P_Tape_levelAt a1 M Q) : CI yX7_levelAt cX7_levelAt 3 (some .int) rmX7_levelAt E [.ref (eA E 1), .int a1] M Q := by
  refine CI.of hE (plainFor_of_name (by decide)) (Nat.le_of_ble_eq_true rfl) (fun x hz => ?_)
  unfold P_Tape_levelAt at h
  show G x E mX7_levelAt 0 0 0 [(0, .ref (eA E 1)), (1, .int a1)] [] M
  refine g_iloadn (k0 := 1) (q := 1) dX7_levelAt_0 rfl rfl rfl ?_
  refine g_iconst (q := 2) dX7_levelAt_1 ki_3 rfl ?_
  refine g_ishr (q := 3) dX7_levelAt_2 rfl ?_
  refine g_istoren (lv' := [(0, .ref (eA E 1)), (1, .int a1), (2, .int (a1 >>> ((3 : Int32) &&& 31)))]) (q := 4) [1, 2, 0] dX7_levelAt_3 rfl (by decide) rfl rfl ?_
  refine g_iloadn (k0 := 2) (q := 5) dX7_levelAt_4 rfl rfl rfl ?_
  refine g_if_lt (tgt := 35) (q := 8) dX7_levelAt_5 rfl rfl (fun hc3 => ?_) (fun hc3 => ?_)
  · replace h := h.1 hc3
    refine g_iconst (q := 36) dX7_levelAt_35 ki_0 rfl ?_
    exact g_iret hz rfl dX7_levelAt_36 h
  · replace h := h.2 hc3
    refine g_iloadn (k0 := 2) (q := 9) dX7_levelAt_8 rfl rfl rfl ?_
    refine g_aloadn (k0 := 0) (q := 10) dX7_levelAt_9 rfl rfl rfl ?_
    refine g_get (v := .int (M.1 1 1)) (q := 13) fg_X7_13_1 rfl dX7_levelAt_10 rfl ?_
    refine g_ic_ge (tgt := 35) (q := 16) dX7_levelAt_13 rfl rfl (fun hc2 => ?_) (fun hc2 => ?_)
    · replace h := h.1 hc2
      refine g_iconst (q := 36) dX7_levelAt_35 ki_0 rfl ?_
      exact g_iret hz rfl dX7_levelAt_36 h
    · replace h := h.2 hc2
      refine g_aloadn (k0 := 0) (q := 17) dX7_levelAt_16 rfl rfl rfl ?_
      refine g_get (v := .ref (eA E 2)) (q := 20) fg_X7_9_1 rfl dX7_levelAt_17 rfl ?_
      refine g_iloadn (k0 := 2) (q := 21) dX7_levelAt_20 rfl rfl rfl ?_
      have hv1 := h.1
      replace h := h.2
      refine g_bald (v := (M.1 2 ((a1 >>> ((3 : Int32) &&& 31))).toNatClampNeg)) (q := 22) ar_2 hv1 rfl dX7_levelAt_21 rfl ?_
      refine g_bipush (q := 24) dX7_levelAt_22 kb_7 rfl ?_
      refine g_iloadn (k0 := 1) (q := 25) dX7_levelAt_24 rfl rfl rfl ?_
      refine g_bipush (q := 27) dX7_levelAt_25 kb_7 rfl ?_
      refine g_iand (q := 28) dX7_levelAt_27 rfl ?_
      refine g_isub (q := 29) dX7_levelAt_28 rfl ?_
      refine g_ishr (q := 30) dX7_levelAt_29 rfl ?_
      refine g_iconst (q := 31) dX7_levelAt_30 ki_1 rfl ?_
      refine g_iand (q := 32) dX7_levelAt_31 rfl ?_
      refine g_goto (tgt := 36) dX7_levelAt_32 rfl ?_
      exact g_iret hz rfl dX7_levelAt_36 h
set_option maxHeartbeats 4000000 in
set_option maxRecDepth 100000 in
theorem c_X1_lose_5 {E : EX} (hE : EH E) {M : Mem} {Q : Mem → Prop} (h : P_Ear_lose 5  M Q) : CU yX1_lose cX1_lose 1 none rmX1_lose E [.ref (eA E 5)] M Q := by
  refine CU.of hE (plainFor_of_name (by decide)) (Nat.le_of_ble_eq_true rfl) (fun x hz => ?_)
  unfold P_Ear_lose at h
  show G x E mX1_lose 0 0 0 [(0, .ref (eA E 5))] [] M
  refine g_aloadn (k0 := 0) (q := 1) dX1_lose_0 rfl rfl rfl ?_
  refine g_get (v := .int (M.1 5 3)) (q := 4) fg_X1_22_5 rfl dX1_lose_1 rfl ?_
  refine g_bipush (q := 6) dX1_lose_4 kb_30 rfl ?_
  refine g_ic_lt (tgt := 19) (q := 9) dX1_lose_6 rfl rfl (fun hc1 => ?_) (fun hc1 => ?_)
  · replace h := h.1 hc1
    refine g_aloadn (k0 := 0) (q := 20) dX1_lose_19 rfl rfl rfl ?_
    refine g_iconst (q := 21) dX1_lose_20 ki_m1 rfl ?_
    refine g_putI (q := 24) fp_X1_22_5 dX1_lose_21 rfl ?_
    exact g_vret hz rfl dX1_lose_24 h
  · replace h := h.2 hc1
    refine g_aloadn (k0 := 0) (q := 10) dX1_lose_9 rfl rfl rfl ?_
    refine g_dup (q := 11) dX1_lose_10 rfl rfl ?_
    refine g_get (v := .int (M.1 5 4)) (q := 14) fg_X1_25_5 rfl dX1_lose_11 rfl ?_
    refine g_iconst (q := 15) dX1_lose_14 ki_1 rfl ?_
    refine g_iadd (q := 16) dX1_lose_15 rfl ?_
    refine g_putI (q := 19) fp_X1_25_5 dX1_lose_16 rfl ?_
    refine g_aloadn (k0 := 0) (q := 20) dX1_lose_19 rfl rfl rfl ?_
    refine g_iconst (q := 21) dX1_lose_20 ki_m1 rfl ?_
    refine g_putI (q := 24) fp_X1_22_5 dX1_lose_21 rfl ?_
    exact g_vret hz rfl dX1_lose_24 h
set_option maxHeartbeats 4000000 in
set_option maxRecDepth 100000 in
theorem c_X1_putBit_5 {E : EX} (hE : EH E) {a1 : Int32} {M : Mem} {Q : Mem → Prop} (h : P_Ear_putBit 5 a1 M Q) : CU yX1_putBit cX1_putBit 2 none rmX1_putBit E [.ref (eA E 5), .int a1] M Q := by
  refine CU.of hE (plainFor_of_name (by decide)) (Nat.le_of_ble_eq_true rfl) (fun x hz => ?_)
  unfold P_Ear_putBit at h
  show G x E mX1_putBit 0 0 0 [(0, .ref (eA E 5)), (1, .int a1)] [] M
  refine g_aloadn (k0 := 0) (q := 1) dX1_putBit_0 rfl rfl rfl ?_
  refine g_get (v := .int (M.1 5 3)) (q := 4) fg_X1_22_5 rfl dX1_putBit_1 rfl ?_
  refine g_iconst (q := 5) dX1_putBit_4 ki_m1 rfl ?_
  refine g_ic_ne (tgt := 9) (q := 8) dX1_putBit_5 rfl rfl (fun hc4 => ?_) (fun hc4 => ?_)
  · replace h := h.1 hc4
    refine g_aloadn (k0 := 0) (q := 10) dX1_putBit_9 rfl rfl rfl ?_
    refine g_get (v := .int (M.1 5 3)) (q := 13) fg_X1_22_5 rfl dX1_putBit_10 rfl ?_
    refine g_sipush (q := 16) dX1_putBit_13 ks_300 rfl ?_
    refine g_ic_lt (tgt := 24) (q := 19) dX1_putBit_16 rfl rfl (fun hc3 => ?_) (fun hc3 => ?_)
    · replace h := h.1 hc3
      refine g_aloadn (k0 := 0) (q := 25) dX1_putBit_24 rfl rfl rfl ?_
      refine g_get (v := .ref (eA E 6)) (q := 28) fg_X1_11_5 rfl dX1_putBit_25 rfl ?_
      refine g_aloadn (k0 := 0) (q := 29) dX1_putBit_28 rfl rfl rfl ?_
      refine g_get (v := .int (M.1 5 3)) (q := 32) fg_X1_22_5 rfl dX1_putBit_29 rfl ?_
      refine g_iloadn (k0 := 1) (q := 33) dX1_putBit_32 rfl rfl rfl ?_
      refine g_i2b (q := 34) dX1_putBit_33 rfl ?_
      have hv1 := h.1
      replace h := h.2
      refine g_bast (q := 35) ar_6 hv1 (pk_vb _) dX1_putBit_34 rfl ?_
      refine g_aloadn (k0 := 0) (q := 36) dX1_putBit_35 rfl rfl rfl ?_
      refine g_dup (q := 37) dX1_putBit_36 rfl rfl ?_
      refine g_get (v := .int (M.1 5 3)) (q := 40) fg_X1_22_5 rfl dX1_putBit_37 rfl ?_
      refine g_iconst (q := 41) dX1_putBit_40 ki_1 rfl ?_
      refine g_iadd (q := 42) dX1_putBit_41 rfl ?_
      refine g_putI (q := 45) fp_X1_22_5 dX1_putBit_42 rfl ?_
      exact g_vret hz rfl dX1_putBit_45 h
    · replace h := h.2 hc3
      refine g_aloadn (k0 := 0) (q := 20) dX1_putBit_19 rfl rfl rfl ?_
      refine g_callv (q := 23) [] [] cv_X1_46 rc_5 (c_X1_lose_5 hE h) rfl rfl ⟨rfl, rfl, Nat.le_of_ble_eq_true rfl, Nat.le_of_ble_eq_true rfl, Nat.zero_le _, Nat.zero_le _⟩ (Nat.le_of_ble_eq_true rfl) dX1_putBit_20 rfl (fun M2 h => ?_)
      exact g_vret hz rfl dX1_putBit_23 h
  · replace h := h.2 hc4
    exact g_vret hz rfl dX1_putBit_8 h
set_option maxHeartbeats 4000000 in
set_option maxRecDepth 100000 in
theorem c_X1_bitAt_5 {E : EX} (hE : EH E) {a1 : Int32} {M : Mem} {Q : Int32 → Mem → Prop} (h : P_Ear_bitAt 5 a1 M Q) : CI yX1_bitAt cX1_bitAt 2 (some .int) rmX1_bitAt E [.ref (eA E 5), .int a1] M Q := by
  refine CI.of hE (plainFor_of_name (by decide)) (Nat.le_of_ble_eq_true rfl) (fun x hz => ?_)
  unfold P_Ear_bitAt at h
  show G x E mX1_bitAt 0 0 0 [(0, .ref (eA E 5)), (1, .int a1)] [] M
  refine g_iloadn (k0 := 1) (q := 1) dX1_bitAt_0 rfl rfl rfl ?_
  refine g_if_lt (tgt := 20) (q := 4) dX1_bitAt_1 rfl rfl (fun hc3 => ?_) (fun hc3 => ?_)
  · replace h := h.1 hc3
    refine g_iconst (q := 21) dX1_bitAt_20 ki_0 rfl ?_
    exact g_iret hz rfl dX1_bitAt_21 h
  · replace h := h.2 hc3
    refine g_iloadn (k0 := 1) (q := 5) dX1_bitAt_4 rfl rfl rfl ?_
    refine g_sipush (q := 8) dX1_bitAt_5 ks_300 rfl ?_
    refine g_ic_ge (tgt := 20) (q := 11) dX1_bitAt_8 rfl rfl (fun hc2 => ?_) (fun hc2 => ?_)
    · replace h := h.1 hc2
      refine g_iconst (q := 21) dX1_bitAt_20 ki_0 rfl ?_
      exact g_iret hz rfl dX1_bitAt_21 h
    · replace h := h.2 hc2
      refine g_aloadn (k0 := 0) (q := 12) dX1_bitAt_11 rfl rfl rfl ?_
      refine g_get (v := .ref (eA E 6)) (q := 15) fg_X1_11_5 rfl dX1_bitAt_12 rfl ?_
      refine g_iloadn (k0 := 1) (q := 16) dX1_bitAt_15 rfl rfl rfl ?_
      have hv1 := h.1
      replace h := h.2
      refine g_bald (v := (M.1 6 a1.toNatClampNeg)) (q := 17) ar_6 hv1 rfl dX1_bitAt_16 rfl ?_
      refine g_goto (tgt := 21) dX1_bitAt_17 rfl ?_
      exact g_iret hz rfl dX1_bitAt_21 h
set_option maxHeartbeats 4000000 in
set_option maxRecDepth 100000 in
theorem g_X1_number_5_5 {x : GX} {E : EX} (hE : EH E) {Q : Int32 → Mem → Prop} (hz : ZI x E Q) : ∀ (n : Nat) (v1 : Int32) (v2 : Int32) (v3 : Int32) (v4 : Int32) (M : Mem), P_Ear_number_5 5 Q n v1 v2 v3 v4 M → G x E mX1_number 0 0 5 [(0, .ref (eA E 5)), (1, .int v1), (2, .int v2), (3, .int v3), (4, .int v4)] [] M := by
  intro n
  induction n with
  | zero => intro _ _ _ _ _ h; exact h.elim
  | succ n ih =>
    intro v1 v2 v3 v4 M h
    unfold P_Ear_number_5 at h
    refine g_iload (k0 := 4) (q := 7) dX1_number_5 rfl rfl ?_
    refine g_iloadn (k0 := 1) (q := 8) dX1_number_7 rfl rfl rfl ?_
    refine g_iloadn (k0 := 2) (q := 9) dX1_number_8 rfl rfl rfl ?_
    refine g_iadd (q := 10) dX1_number_9 rfl ?_
    refine g_ic_ge (tgt := 30) (q := 13) dX1_number_10 rfl rfl (fun hc3 => ?_) (fun hc3 => ?_)
    · replace h := h.1 hc3
      refine g_iloadn (k0 := 3) (q := 31) dX1_number_30 rfl rfl rfl ?_
      exact g_iret hz rfl dX1_number_31 h
    · replace h := h.2 hc3
      refine g_iloadn (k0 := 3) (q := 14) dX1_number_13 rfl rfl rfl ?_
      refine g_iconst (q := 15) dX1_number_14 ki_1 rfl ?_
      refine g_ishl (q := 16) dX1_number_15 rfl ?_
      refine g_aloadn (k0 := 0) (q := 17) dX1_number_16 rfl rfl rfl ?_
      refine g_iload (k0 := 4) (q := 19) dX1_number_17 rfl rfl ?_
      refine g_calli (q := 22) [.int v4] [.int (v3 <<< ((1 : Int32) &&& 31))] cv_X1_42 rc_5 (c_X1_bitAt_5 hE h) rfl rfl ⟨rfl, rfl, Nat.le_of_ble_eq_true rfl, Nat.le_of_ble_eq_true rfl, Nat.zero_le _, Nat.zero_le _⟩ (Nat.le_of_ble_eq_true rfl) dX1_number_19 rfl (fun r2 M1 h => ?_)
      refine g_ior (q := 23) dX1_number_22 rfl ?_
      refine g_istoren (lv' := [(0, .ref (eA E 5)), (1, .int v1), (2, .int v2), (3, .int ((v3 <<< ((1 : Int32) &&& 31)) ||| r2)), (4, .int v4)]) (q := 24) [1, 2, 3, 0, 4] dX1_number_23 rfl (by decide) rfl rfl ?_
      refine g_iinc (lv' := [(0, .ref (eA E 5)), (1, .int v1), (2, .int v2), (3, .int ((v3 <<< ((1 : Int32) &&& 31)) ||| r2)), (4, .int (v4 + 1))]) (k0 := 4) (w := (v4 + 1)) (q := 27) [1, 2, 3, 4, 0] dX1_number_24 rfl rfl (by decide) rfl rfl ?_
      refine g_goto (tgt := 5) dX1_number_27 rfl ?_
      exact ih _ _ _ _ _ h
set_option maxHeartbeats 4000000 in
set_option maxRecDepth 100000 in
theorem c_X1_number_5 {E : EX} (hE : EH E) {a1 : Int32} {a2 : Int32} {M : Mem} {Q : Int32 → Mem → Prop} (h : P_Ear_number 5 a1 a2 M Q) : CI yX1_number cX1_number 5 (some .int) rmX1_number E [.ref (eA E 5), .int a1, .int a2] M Q := by
  refine CI.of hE (plainFor_of_name (by decide)) (Nat.le_of_ble_eq_true rfl) (fun x hz => ?_)
  unfold P_Ear_number at h
  show G x E mX1_number 0 0 0 [(0, .ref (eA E 5)), (1, .int a1), (2, .int a2)] [] M
  refine g_iconst (q := 1) dX1_number_0 ki_0 rfl ?_
  refine g_istoren (lv' := [(0, .ref (eA E 5)), (1, .int a1), (2, .int a2), (3, .int 0)]) (q := 2) [1, 2, 3, 0] dX1_number_1 rfl (by decide) rfl rfl ?_
  refine g_iloadn (k0 := 1) (q := 3) dX1_number_2 rfl rfl rfl ?_
  refine g_istore (lv' := [(0, .ref (eA E 5)), (1, .int a1), (2, .int a2), (3, .int 0), (4, .int a1)]) (q := 5) [1, 2, 3, 4, 0] dX1_number_3 (by decide) rfl rfl ?_
  obtain ⟨n1, h⟩ := h
  exact g_X1_number_5_5 hE hz n1 _ _ _ _ _ h
set_option maxHeartbeats 4000000 in
set_option maxRecDepth 100000 in
theorem c_X10_checkAfter {E : EX} (hE : EH E) {a1 : Int32} {a2 : Int32} {M : Mem} {Q : Int32 → Mem → Prop} (h : P_Sv_checkAfter a1 a2 M Q) : CI yX10_checkAfter cX10_checkAfter 3 (some .int) rmX10_checkAfter E [.int a1, .int a2] M Q := by
  refine CI.of hE (plainFor_of_name (by decide)) (Nat.le_of_ble_eq_true rfl) (fun x hz => ?_)
  unfold P_Sv_checkAfter at h
  show G x E mX10_checkAfter 0 0 0 [(0, .int a1), (1, .int a2)] [] M
  refine g_iloadn (k0 := 0) (q := 1) dX10_checkAfter_0 rfl rfl rfl ?_
  refine g_iconst (q := 2) dX10_checkAfter_1 ki_1 rfl ?_
  refine g_ishl (q := 3) dX10_checkAfter_2 rfl ?_
  refine g_ldc (q := 5) dX10_checkAfter_3 wm_338 rfl ?_
  refine g_iand (q := 6) dX10_checkAfter_5 rfl ?_
  refine g_istoren (lv' := [(0, .int a1), (1, .int a2), (2, .int ((a1 <<< ((1 : Int32) &&& 31)) &&& 65535))]) (q := 7) [1, 2, 0] dX10_checkAfter_6 rfl (by decide) rfl rfl ?_
  refine g_iloadn (k0 := 0) (q := 8) dX10_checkAfter_7 rfl rfl rfl ?_
  refine g_bipush (q := 10) dX10_checkAfter_8 kb_15 rfl ?_
  refine g_ishr (q := 11) dX10_checkAfter_10 rfl ?_
  refine g_iconst (q := 12) dX10_checkAfter_11 ki_1 rfl ?_
  refine g_iand (q := 13) dX10_checkAfter_12 rfl ?_
  refine g_iloadn (k0 := 1) (q := 14) dX10_checkAfter_13 rfl rfl rfl ?_
  refine g_ic_eq (tgt := 25) (q := 17) dX10_checkAfter_14 rfl rfl (fun hc1 => ?_) (fun hc1 => ?_)
  · replace h := h.1 hc1
    refine g_iloadn (k0 := 2) (q := 26) dX10_checkAfter_25 rfl rfl rfl ?_
    exact g_iret hz rfl dX10_checkAfter_26 h
  · replace h := h.2 hc1
    refine g_iloadn (k0 := 2) (q := 18) dX10_checkAfter_17 rfl rfl rfl ?_
    refine g_sipush (q := 21) dX10_checkAfter_18 ks_4129 rfl ?_
    refine g_ixor (q := 22) dX10_checkAfter_21 rfl ?_
    refine g_goto (tgt := 26) dX10_checkAfter_22 rfl ?_
    exact g_iret hz rfl dX10_checkAfter_26 h
set_option maxHeartbeats 4000000 in
set_option maxRecDepth 100000 in
theorem g_X1_isChecked_5_5 {x : GX} {E : EX} (hE : EH E) {Q : Int32 → Mem → Prop} (hz : ZI x E (fun r M => nb r ∧ Q r M)) : ∀ (n : Nat) (v1 : Int32) (v2 : Int32) (M : Mem), P_Ear_isChecked_5 5 Q n v1 v2 M → G x E mX1_isChecked 0 0 5 [(0, .ref (eA E 5)), (1, .int v1), (2, .int v2)] [] M := by
  intro n
  induction n with
  | zero => intro _ _ _ h; exact h.elim
  | succ n ih =>
    intro v1 v2 M h
    unfold P_Ear_isChecked_5 at h
    refine g_iloadn (k0 := 2) (q := 6) dX1_isChecked_5 rfl rfl rfl ?_
    refine g_aloadn (k0 := 0) (q := 7) dX1_isChecked_6 rfl rfl rfl ?_
    refine g_get (v := .int (M.1 5 5)) (q := 10) fg_X1_28_5 rfl dX1_isChecked_7 rfl ?_
    refine g_ic_ge (tgt := 29) (q := 13) dX1_isChecked_10 rfl rfl (fun hc8 => ?_) (fun hc8 => ?_)
    · replace h := h.1 hc8
      refine g_iloadn (k0 := 1) (q := 30) dX1_isChecked_29 rfl rfl rfl ?_
      refine g_ldc (q := 32) dX1_isChecked_30 wm_330 rfl ?_
      refine g_ixor (q := 33) dX1_isChecked_32 rfl ?_
      refine g_aloadn (k0 := 0) (q := 34) dX1_isChecked_33 rfl rfl rfl ?_
      refine g_aloadn (k0 := 0) (q := 35) dX1_isChecked_34 rfl rfl rfl ?_
      refine g_get (v := .int (M.1 5 5)) (q := 38) fg_X1_28_5 rfl dX1_isChecked_35 rfl ?_
      refine g_bipush (q := 40) dX1_isChecked_38 kb_16 rfl ?_
      refine g_calli (q := 43) [.int (M.1 5 5), .int 16] [.int (v1 ^^^ 65535)] cv_X1_57 rc_5 (c_X1_number_5 hE h) rfl rfl ⟨rfl, rfl, Nat.le_of_ble_eq_true rfl, Nat.le_of_ble_eq_true rfl, Nat.zero_le _, Nat.zero_le _⟩ (Nat.le_of_ble_eq_true rfl) dX1_isChecked_40 rfl (fun r2 M1 h => ?_)
      refine g_ic_ne (tgt := 50) (q := 46) dX1_isChecked_43 rfl rfl (fun hc3 => ?_) (fun hc3 => ?_)
      · replace h := h.1 hc3
        refine g_iconst (q := 51) dX1_isChecked_50 ki_0 rfl ?_
        exact g_zret hz rfl rfl dX1_isChecked_51 h
      · replace h := h.2 hc3
        refine g_iconst (q := 47) dX1_isChecked_46 ki_1 rfl ?_
        refine g_goto (tgt := 51) dX1_isChecked_47 rfl ?_
        exact g_zret hz rfl rfl dX1_isChecked_51 h
    · replace h := h.2 hc8
      refine g_iloadn (k0 := 1) (q := 14) dX1_isChecked_13 rfl rfl rfl ?_
      refine g_aloadn (k0 := 0) (q := 15) dX1_isChecked_14 rfl rfl rfl ?_
      refine g_iloadn (k0 := 2) (q := 16) dX1_isChecked_15 rfl rfl rfl ?_
      refine g_calli (q := 19) [.int v2] [.int v1] cv_X1_42 rc_5 (c_X1_bitAt_5 hE h) rfl rfl ⟨rfl, rfl, Nat.le_of_ble_eq_true rfl, Nat.le_of_ble_eq_true rfl, Nat.zero_le _, Nat.zero_le _⟩ (Nat.le_of_ble_eq_true rfl) dX1_isChecked_16 rfl (fun r5 M4 h => ?_)
      refine g_ncalli (q := 22) [.int v1, .int r5] [] cn_X1_53 (c_X10_checkAfter hE h) rfl rfl ⟨rfl, rfl, Nat.le_of_ble_eq_true rfl, Nat.le_of_ble_eq_true rfl, Nat.zero_le _, Nat.zero_le _⟩ (Nat.le_of_ble_eq_true rfl) dX1_isChecked_19 rfl (fun r7 M6 h => ?_)
      refine g_istoren (lv' := [(0, .ref (eA E 5)), (1, .int r7), (2, .int v2)]) (q := 23) [1, 0, 2] dX1_isChecked_22 rfl (by decide) rfl rfl ?_
      refine g_iinc (lv' := [(0, .ref (eA E 5)), (1, .int r7), (2, .int (v2 + 1))]) (k0 := 2) (w := (v2 + 1)) (q := 26) [1, 2, 0] dX1_isChecked_23 rfl rfl (by decide) rfl rfl ?_
      refine g_goto (tgt := 5) dX1_isChecked_26 rfl ?_
      exact ih _ _ _ h
set_option maxHeartbeats 4000000 in
set_option maxRecDepth 100000 in
theorem c_X1_isChecked_5 {E : EX} (hE : EH E) {M : Mem} {Q : Int32 → Mem → Prop} (h : P_Ear_isChecked 5  M Q) : CI yX1_isChecked cX1_isChecked 3 (some .boolean) rmX1_isChecked E [.ref (eA E 5)] M (fun r M => nb r ∧ Q r M) := by
  refine CI.of hE (plainFor_of_name (by decide)) (Nat.le_of_ble_eq_true rfl) (fun x hz => ?_)
  unfold P_Ear_isChecked at h
  show G x E mX1_isChecked 0 0 0 [(0, .ref (eA E 5))] [] M
  refine g_ldc (q := 2) dX1_isChecked_0 wm_330 rfl ?_
  refine g_istoren (lv' := [(0, .ref (eA E 5)), (1, .int 65535)]) (q := 3) [1, 0] dX1_isChecked_2 rfl (by decide) rfl rfl ?_
  refine g_iconst (q := 4) dX1_isChecked_3 ki_0 rfl ?_
  refine g_istoren (lv' := [(0, .ref (eA E 5)), (1, .int 65535), (2, .int 0)]) (q := 5) [1, 2, 0] dX1_isChecked_4 rfl (by decide) rfl rfl ?_
  obtain ⟨n1, h⟩ := h
  exact g_X1_isChecked_5_5 hE hz n1 _ _ _ h
set_option maxHeartbeats 4000000 in
set_option maxRecDepth 100000 in
theorem c_X1_endPiece_5 {E : EX} (hE : EH E) {M : Mem} {Q : Int32 → Mem → Prop} (h : P_Ear_endPiece 5  M Q) : CI yX1_endPiece cX1_endPiece 2 (some .boolean) rmX1_endPiece E [.ref (eA E 5)] M (fun r M => nb r ∧ Q r M) := by
  refine CI.of hE (plainFor_of_name (by decide)) (Nat.le_of_ble_eq_true rfl) (fun x hz => ?_)
  unfold P_Ear_endPiece at h
  show G x E mX1_endPiece 0 0 0 [(0, .ref (eA E 5))] [] M
  refine g_aloadn (k0 := 0) (q := 1) dX1_endPiece_0 rfl rfl rfl ?_
  refine g_get (v := .int (M.1 5 3)) (q := 4) fg_X1_22_5 rfl dX1_endPiece_1 rfl ?_
  refine g_bipush (q := 6) dX1_endPiece_4 kb_6 rfl ?_
  refine g_isub (q := 7) dX1_endPiece_6 rfl ?_
  refine g_istoren (lv' := [(0, .ref (eA E 5)), (1, .int ((M.1 5 3) - 6))]) (q := 8) [1, 0] dX1_endPiece_7 rfl (by decide) rfl rfl ?_
  refine g_aloadn (k0 := 0) (q := 9) dX1_endPiece_8 rfl rfl rfl ?_
  refine g_iconst (q := 10) dX1_endPiece_9 ki_0 rfl ?_
  refine g_putI (q := 13) fp_X1_22_5 dX1_endPiece_10 rfl ?_
  refine g_iloadn (k0 := 1) (q := 14) dX1_endPiece_13 rfl rfl rfl ?_
  refine g_bipush (q := 16) dX1_endPiece_14 kb_24 rfl ?_
  refine g_ic_ge (tgt := 21) (q := 19) dX1_endPiece_16 rfl rfl (fun hc4 => ?_) (fun hc4 => ?_)
  · replace h := h.1 hc4
    refine g_aloadn (k0 := 0) (q := 22) dX1_endPiece_21 rfl rfl rfl ?_
    refine g_iloadn (k0 := 1) (q := 23) dX1_endPiece_22 rfl rfl rfl ?_
    refine g_bipush (q := 25) dX1_endPiece_23 kb_16 rfl ?_
    refine g_isub (q := 26) dX1_endPiece_25 rfl ?_
    refine g_putI (q := 29) fp_X1_28_5 dX1_endPiece_26 rfl ?_
    refine g_aloadn (k0 := 0) (q := 30) dX1_endPiece_29 rfl rfl rfl ?_
    refine g_calli (q := 33) [] [] cv_X1_49 rc_5 (c_X1_isChecked_5 hE h) rfl rfl ⟨rfl, rfl, Nat.le_of_ble_eq_true rfl, Nat.le_of_ble_eq_true rfl, Nat.zero_le _, Nat.zero_le _⟩ (Nat.le_of_ble_eq_true rfl) dX1_endPiece_30 rfl (fun r2 M1 h => ?_)
    obtain ⟨hb_r2, h⟩ := h
    refine g_if_eq (tgt := 38) (q := 36) dX1_endPiece_33 rfl rfl (fun hc3 => ?_) (fun hc3 => ?_)
    · replace h := h.1 hc3
      refine g_aloadn (k0 := 0) (q := 39) dX1_endPiece_38 rfl rfl rfl ?_
      refine g_dup (q := 40) dX1_endPiece_39 rfl rfl ?_
      refine g_get (v := .int (M1.1 5 4)) (q := 43) fg_X1_25_5 rfl dX1_endPiece_40 rfl ?_
      refine g_iconst (q := 44) dX1_endPiece_43 ki_1 rfl ?_
      refine g_iadd (q := 45) dX1_endPiece_44 rfl ?_
      refine g_putI (q := 48) fp_X1_25_5 dX1_endPiece_45 rfl ?_
      refine g_iconst (q := 49) dX1_endPiece_48 ki_0 rfl ?_
      exact g_zret hz rfl rfl dX1_endPiece_49 h
    · replace h := h.2 hc3
      refine g_iconst (q := 37) dX1_endPiece_36 ki_1 rfl ?_
      exact g_zret hz rfl rfl dX1_endPiece_37 h
  · replace h := h.2 hc4
    refine g_iconst (q := 20) dX1_endPiece_19 ki_0 rfl ?_
    exact g_zret hz rfl rfl dX1_endPiece_20 h
set_option maxHeartbeats 4000000 in
set_option maxRecDepth 100000 in
theorem g_X1_takeOne_5_19 {x : GX} {E : EX} (hE : EH E) {Q : Mem → Prop} (hz : ZU x E Q) : ∀ (M : Mem), P_Ear_takeOne_19 5 Q M → G x E mX1_takeOne 0 0 19 [(0, .ref (eA E 5))] [] M := by
  intro M h
  unfold P_Ear_takeOne_19 at h
  refine g_aloadn (k0 := 0) (q := 20) dX1_takeOne_19 rfl rfl rfl ?_
  refine g_get (v := .int (M.1 5 2)) (q := 23) fg_X1_19_5 rfl dX1_takeOne_20 rfl ?_
  refine g_iconst (q := 24) dX1_takeOne_23 ki_5 rfl ?_
  refine g_ic_gt (tgt := 35) (q := 27) dX1_takeOne_24 rfl rfl (fun hc4 => ?_) (fun hc4 => ?_)
  · replace h := h.1 hc4
    refine g_aloadn (k0 := 0) (q := 36) dX1_takeOne_35 rfl rfl rfl ?_
    refine g_get (v := .int (M.1 5 2)) (q := 39) fg_X1_19_5 rfl dX1_takeOne_36 rfl ?_
    refine g_bipush (q := 41) dX1_takeOne_39 kb_7 rfl ?_
    refine g_ic_ne (tgt := 48) (q := 44) dX1_takeOne_41 rfl rfl (fun hc2 => ?_) (fun hc2 => ?_)
    · replace h := h.1 hc2
      exact g_vret hz rfl dX1_takeOne_48 h
    · replace h := h.2 hc2
      refine g_aloadn (k0 := 0) (q := 45) dX1_takeOne_44 rfl rfl rfl ?_
      refine g_callv (q := 48) [] [] cv_X1_46 rc_5 (c_X1_lose_5 hE h) rfl rfl ⟨rfl, rfl, Nat.le_of_ble_eq_true rfl, Nat.le_of_ble_eq_true rfl, Nat.zero_le _, Nat.zero_le _⟩ (Nat.le_of_ble_eq_true rfl) dX1_takeOne_45 rfl (fun M1 h => ?_)
      exact g_vret hz rfl dX1_takeOne_48 h
  · replace h := h.2 hc4
    refine g_aloadn (k0 := 0) (q := 28) dX1_takeOne_27 rfl rfl rfl ?_
    refine g_iconst (q := 29) dX1_takeOne_28 ki_1 rfl ?_
    refine g_callv (q := 32) [.int 1] [] cv_X1_38 rc_5 (c_X1_putBit_5 hE h) rfl rfl ⟨rfl, rfl, Nat.le_of_ble_eq_true rfl, Nat.le_of_ble_eq_true rfl, Nat.zero_le _, Nat.zero_le _⟩ (Nat.le_of_ble_eq_true rfl) dX1_takeOne_29 rfl (fun M3 h => ?_)
    refine g_goto (tgt := 48) dX1_takeOne_32 rfl ?_
    exact g_vret hz rfl dX1_takeOne_48 h
set_option maxHeartbeats 4000000 in
set_option maxRecDepth 100000 in
theorem c_X1_takeOne_5 {E : EX} (hE : EH E) {M : Mem} {Q : Mem → Prop} (h : P_Ear_takeOne 5  M Q) : CU yX1_takeOne cX1_takeOne 1 none rmX1_takeOne E [.ref (eA E 5)] M Q := by
  refine CU.of hE (plainFor_of_name (by decide)) (Nat.le_of_ble_eq_true rfl) (fun x hz => ?_)
  unfold P_Ear_takeOne at h
  show G x E mX1_takeOne 0 0 0 [(0, .ref (eA E 5))] [] M
  refine g_aloadn (k0 := 0) (q := 1) dX1_takeOne_0 rfl rfl rfl ?_
  refine g_get (v := .int (M.1 5 2)) (q := 4) fg_X1_19_5 rfl dX1_takeOne_1 rfl ?_
  refine g_bipush (q := 6) dX1_takeOne_4 kb_7 rfl ?_
  refine g_ic_ge (tgt := 19) (q := 9) dX1_takeOne_6 rfl rfl (fun hc5 => ?_) (fun hc5 => ?_)
  · replace h := h.1 hc5
    exact g_X1_takeOne_5_19 hE hz _ h
  · replace h := h.2 hc5
    refine g_aloadn (k0 := 0) (q := 10) dX1_takeOne_9 rfl rfl rfl ?_
    refine g_dup (q := 11) dX1_takeOne_10 rfl rfl ?_
    refine g_get (v := .int (M.1 5 2)) (q := 14) fg_X1_19_5 rfl dX1_takeOne_11 rfl ?_
    refine g_iconst (q := 15) dX1_takeOne_14 ki_1 rfl ?_
    refine g_iadd (q := 16) dX1_takeOne_15 rfl ?_
    refine g_putI (q := 19) fp_X1_19_5 dX1_takeOne_16 rfl ?_
    exact g_X1_takeOne_5_19 hE hz _ h
set_option maxHeartbeats 4000000 in
set_option maxRecDepth 100000 in
theorem g_X1_takeLevel_5_13 {x : GX} {E : EX} (hE : EH E) {Q : Int32 → Mem → Prop} (hz : ZI x E (fun r M => nb r ∧ Q r M)) : ∀ (v1 : Int32) (s0 : Int32) (M : Mem), P_Ear_takeLevel_13 5 Q v1 s0 M → G x E mX1_takeLevel 0 0 13 [(0, .ref (eA E 5)), (1, .int v1)] [.int s0] M := by
  intro v1 s0 M h
  unfold P_Ear_takeLevel_13 at h
  refine g_istoren (lv' := [(0, .ref (eA E 5)), (1, .int v1), (2, .int s0)]) (q := 14) [1, 2, 0] dX1_takeLevel_13 rfl (by decide) rfl rfl ?_
  refine g_aloadn (k0 := 0) (q := 15) dX1_takeLevel_14 rfl rfl rfl ?_
  refine g_iloadn (k0 := 1) (q := 16) dX1_takeLevel_15 rfl rfl rfl ?_
  refine g_putI (q := 19) fp_X1_15_5 dX1_takeLevel_16 rfl ?_
  refine g_iloadn (k0 := 2) (q := 20) dX1_takeLevel_19 rfl rfl rfl ?_
  refine g_if_eq (tgt := 29) (q := 23) dX1_takeLevel_20 rfl rfl (fun hc7 => ?_) (fun hc7 => ?_)
  · replace h := h.1 hc7
    refine g_aloadn (k0 := 0) (q := 30) dX1_takeLevel_29 rfl rfl rfl ?_
    refine g_get (v := .int (M.1 5 2)) (q := 33) fg_X1_19_5 rfl dX1_takeLevel_30 rfl ?_
    refine g_istoren (lv' := [(0, .ref (eA E 5)), (1, .int v1), (2, .int s0), (3, .int (M.1 5 2))]) (q := 34) [1, 2, 3, 0] dX1_takeLevel_33 rfl (by decide) rfl rfl ?_
    refine g_aloadn (k0 := 0) (q := 35) dX1_takeLevel_34 rfl rfl rfl ?_
    refine g_iconst (q := 36) dX1_takeLevel_35 ki_0 rfl ?_
    refine g_putI (q := 39) fp_X1_19_5 dX1_takeLevel_36 rfl ?_
    refine g_iloadn (k0 := 3) (q := 40) dX1_takeLevel_39 rfl rfl rfl ?_
    refine g_bipush (q := 42) dX1_takeLevel_40 kb_6 rfl ?_
    refine g_ic_ne (tgt := 50) (q := 45) dX1_takeLevel_42 rfl rfl (fun hc5 => ?_) (fun hc5 => ?_)
    · replace h := h.1 hc5
      refine g_iloadn (k0 := 3) (q := 51) dX1_takeLevel_50 rfl rfl rfl ?_
      refine g_iconst (q := 52) dX1_takeLevel_51 ki_5 rfl ?_
      refine g_ic_ge (tgt := 60) (q := 55) dX1_takeLevel_52 rfl rfl (fun hc2 => ?_) (fun hc2 => ?_)
      · replace h := h.1 hc2
        refine g_iconst (q := 61) dX1_takeLevel_60 ki_0 rfl ?_
        exact g_zret hz rfl rfl dX1_takeLevel_61 h
      · replace h := h.2 hc2
        refine g_aloadn (k0 := 0) (q := 56) dX1_takeLevel_55 rfl rfl rfl ?_
        refine g_iconst (q := 57) dX1_takeLevel_56 ki_0 rfl ?_
        refine g_callv (q := 60) [.int 0] [] cv_X1_38 rc_5 (c_X1_putBit_5 hE h) rfl rfl ⟨rfl, rfl, Nat.le_of_ble_eq_true rfl, Nat.le_of_ble_eq_true rfl, Nat.zero_le _, Nat.zero_le _⟩ (Nat.le_of_ble_eq_true rfl) dX1_takeLevel_57 rfl (fun M1 h => ?_)
        refine g_iconst (q := 61) dX1_takeLevel_60 ki_0 rfl ?_
        exact g_zret hz rfl rfl dX1_takeLevel_61 h
    · replace h := h.2 hc5
      refine g_aloadn (k0 := 0) (q := 46) dX1_takeLevel_45 rfl rfl rfl ?_
      refine g_calli (q := 49) [] [] cv_X1_34 rc_5 (c_X1_endPiece_5 hE h) rfl rfl ⟨rfl, rfl, Nat.le_of_ble_eq_true rfl, Nat.le_of_ble_eq_true rfl, Nat.zero_le _, Nat.zero_le _⟩ (Nat.le_of_ble_eq_true rfl) dX1_takeLevel_46 rfl (fun r4 M3 h => ?_)
      obtain ⟨hb_r4, h⟩ := h
      exact g_zret hz rfl hb_r4 dX1_takeLevel_49 h
  · replace h := h.2 hc7
    refine g_aloadn (k0 := 0) (q := 24) dX1_takeLevel_23 rfl rfl rfl ?_
    refine g_callv (q := 27) [] [] cv_X1_31 rc_5 (c_X1_takeOne_5 hE h) rfl rfl ⟨rfl, rfl, Nat.le_of_ble_eq_true rfl, Nat.le_of_ble_eq_true rfl, Nat.zero_le _, Nat.zero_le _⟩ (Nat.le_of_ble_eq_true rfl) dX1_takeLevel_24 rfl (fun M6 h => ?_)
    refine g_iconst (q := 28) dX1_takeLevel_27 ki_0 rfl ?_
    exact g_zret hz rfl rfl dX1_takeLevel_28 h
set_option maxHeartbeats 4000000 in
set_option maxRecDepth 100000 in
theorem c_X1_takeLevel_5 {E : EX} (hE : EH E) {a1 : Int32} {M : Mem} {Q : Int32 → Mem → Prop} (h : P_Ear_takeLevel 5 a1 M Q) : CI yX1_takeLevel cX1_takeLevel 4 (some .boolean) rmX1_takeLevel E [.ref (eA E 5), .int a1] M (fun r M => nb r ∧ Q r M) := by
  refine CI.of hE (plainFor_of_name (by decide)) (Nat.le_of_ble_eq_true rfl) (fun x hz => ?_)
  unfold P_Ear_takeLevel at h
  show G x E mX1_takeLevel 0 0 0 [(0, .ref (eA E 5)), (1, .int a1)] [] M
  refine g_iloadn (k0 := 1) (q := 1) dX1_takeLevel_0 rfl rfl rfl ?_
  refine g_aloadn (k0 := 0) (q := 2) dX1_takeLevel_1 rfl rfl rfl ?_
  refine g_get (v := .int (M.1 5 1)) (q := 5) fg_X1_15_5 rfl dX1_takeLevel_2 rfl ?_
  refine g_ic_ne (tgt := 12) (q := 8) dX1_takeLevel_5 rfl rfl (fun hc8 => ?_) (fun hc8 => ?_)
  · replace h := h.1 hc8
    refine g_iconst (q := 13) dX1_takeLevel_12 ki_0 rfl ?_
    exact g_X1_takeLevel_5_13 hE hz _ _ _ h
  · replace h := h.2 hc8
    refine g_iconst (q := 9) dX1_takeLevel_8 ki_1 rfl ?_
    refine g_goto (tgt := 13) dX1_takeLevel_9 rfl ?_
    exact g_X1_takeLevel_5_13 hE hz _ _ _ h
set_option maxHeartbeats 4000000 in
set_option maxRecDepth 100000 in
theorem c_X1_frameBits_5 {E : EX} (hE : EH E) {M : Mem} {Q : Int32 → Mem → Prop} (h : P_Ear_frameBits 5  M Q) : CI yX1_frameBits cX1_frameBits 1 (some .int) rmX1_frameBits E [.ref (eA E 5)] M Q := by
  refine CI.of hE (plainFor_of_name (by decide)) (Nat.le_of_ble_eq_true rfl) (fun x hz => ?_)
  unfold P_Ear_frameBits at h
  show G x E mX1_frameBits 0 0 0 [(0, .ref (eA E 5))] [] M
  refine g_aloadn (k0 := 0) (q := 1) dX1_frameBits_0 rfl rfl rfl ?_
  refine g_get (v := .int (M.1 5 5)) (q := 4) fg_X1_28_5 rfl dX1_frameBits_1 rfl ?_
  exact g_iret hz rfl dX1_frameBits_4 h
set_option maxHeartbeats 4000000 in
set_option maxRecDepth 100000 in
theorem c_X8_isKind {E : EX} (hE : EH E) {a1 : Int32} {M : Mem} {Q : Int32 → Mem → Prop} (h : P_Telling_isKind a1 M Q) : CI yX8_isKind cX8_isKind 1 (some .boolean) rmX8_isKind E [.int a1] M (fun r M => nb r ∧ Q r M) := by
  refine CI.of hE (plainFor_of_name (by decide)) (Nat.le_of_ble_eq_true rfl) (fun x hz => ?_)
  unfold P_Telling_isKind at h
  show G x E mX8_isKind 0 0 0 [(0, .int a1)] [] M
  refine g_iloadn (k0 := 0) (q := 1) dX8_isKind_0 rfl rfl rfl ?_
  refine g_iconst (q := 2) dX8_isKind_1 ki_1 rfl ?_
  refine g_ic_lt (tgt := 14) (q := 5) dX8_isKind_2 rfl rfl (fun hc2 => ?_) (fun hc2 => ?_)
  · replace h := h.1 hc2
    refine g_iconst (q := 15) dX8_isKind_14 ki_0 rfl ?_
    exact g_zret hz rfl rfl dX8_isKind_15 h
  · replace h := h.2 hc2
    refine g_iloadn (k0 := 0) (q := 6) dX8_isKind_5 rfl rfl rfl ?_
    refine g_iconst (q := 7) dX8_isKind_6 ki_5 rfl ?_
    refine g_ic_gt (tgt := 14) (q := 10) dX8_isKind_7 rfl rfl (fun hc1 => ?_) (fun hc1 => ?_)
    · replace h := h.1 hc1
      refine g_iconst (q := 15) dX8_isKind_14 ki_0 rfl ?_
      exact g_zret hz rfl rfl dX8_isKind_15 h
    · replace h := h.2 hc1
      refine g_iconst (q := 11) dX8_isKind_10 ki_1 rfl ?_
      refine g_goto (tgt := 15) dX8_isKind_11 rfl ?_
      exact g_zret hz rfl rfl dX8_isKind_15 h
set_option maxHeartbeats 4000000 in
set_option maxRecDepth 100000 in
theorem c_X8_width {E : EX} (hE : EH E) {a1 : Int32} {M : Mem} {Q : Int32 → Mem → Prop} (h : P_Telling_width a1 M Q) : CI yX8_width cX8_width 3 (some .int) rmX8_width E [.ref (eA E 7), .int a1] M Q := by
  refine CI.of hE (plainFor_of_name (by decide)) (Nat.le_of_ble_eq_true rfl) (fun x hz => ?_)
  unfold P_Telling_width at h
  show G x E mX8_width 0 0 0 [(0, .ref (eA E 7)), (1, .int a1)] [] M
  refine g_aloadn (k0 := 0) (q := 1) dX8_width_0 rfl rfl rfl ?_
  refine g_get (v := .int (M.1 7 1)) (q := 4) fg_X8_15_7 rfl dX8_width_1 rfl ?_
  refine g_iconst (q := 5) dX8_width_4 ki_1 rfl ?_
  refine g_isub (q := 6) dX8_width_5 rfl ?_
  refine g_iconst (q := 7) dX8_width_6 ki_4 rfl ?_
  refine g_imul (q := 8) dX8_width_7 rfl ?_
  refine g_iloadn (k0 := 1) (q := 9) dX8_width_8 rfl rfl rfl ?_
  refine g_iadd (q := 10) dX8_width_9 rfl ?_
  refine g_istoren (lv' := [(0, .ref (eA E 7)), (1, .int a1), (2, .int ((((M.1 7 1) - 1) * 4) + a1))]) (q := 11) [1, 2, 0] dX8_width_10 rfl (by decide) rfl rfl ?_
  refine g_iloadn (k0 := 1) (q := 12) dX8_width_11 rfl rfl rfl ?_
  refine g_if_lt (tgt := 40) (q := 15) dX8_width_12 rfl rfl (fun hc5 => ?_) (fun hc5 => ?_)
  · replace h := h.1 hc5
    refine g_iconst (q := 41) dX8_width_40 ki_0 rfl ?_
    exact g_iret hz rfl dX8_width_41 h
  · replace h := h.2 hc5
    refine g_iloadn (k0 := 1) (q := 16) dX8_width_15 rfl rfl rfl ?_
    refine g_iconst (q := 17) dX8_width_16 ki_4 rfl ?_
    refine g_ic_ge (tgt := 40) (q := 20) dX8_width_17 rfl rfl (fun hc4 => ?_) (fun hc4 => ?_)
    · replace h := h.1 hc4
      refine g_iconst (q := 41) dX8_width_40 ki_0 rfl ?_
      exact g_iret hz rfl dX8_width_41 h
    · replace h := h.2 hc4
      refine g_iloadn (k0 := 2) (q := 21) dX8_width_20 rfl rfl rfl ?_
      refine g_if_lt (tgt := 40) (q := 24) dX8_width_21 rfl rfl (fun hc3 => ?_) (fun hc3 => ?_)
      · replace h := h.1 hc3
        refine g_iconst (q := 41) dX8_width_40 ki_0 rfl ?_
        exact g_iret hz rfl dX8_width_41 h
      · replace h := h.2 hc3
        refine g_iloadn (k0 := 2) (q := 25) dX8_width_24 rfl rfl rfl ?_
        refine g_wid (q := 28) wm_371 dX8_width_25 rfl ?_
        refine g_widlen (q := 29) dX8_width_28 rfl ?_
        refine g_ic_ge (tgt := 40) (q := 32) dX8_width_29 rfl rfl (fun hc2 => ?_) (fun hc2 => ?_)
        · replace h := h.1 hc2
          refine g_iconst (q := 41) dX8_width_40 ki_0 rfl ?_
          exact g_iret hz rfl dX8_width_41 h
        · replace h := h.2 hc2
          refine g_wid (q := 35) wm_371 dX8_width_32 rfl ?_
          refine g_iloadn (k0 := 2) (q := 36) dX8_width_35 rfl rfl rfl ?_
          have hv1 := h.1
          replace h := h.2
          refine g_widld (q := 37) hv1 dX8_width_36 rfl ?_
          refine g_goto (tgt := 41) dX8_width_37 rfl ?_
          exact g_iret hz rfl dX8_width_41 h
set_option maxHeartbeats 4000000 in
set_option maxRecDepth 100000 in
theorem g_X8_bodyBits_4 {x : GX} {E : EX} (hE : EH E) {Q : Int32 → Mem → Prop} (hz : ZI x E Q) : ∀ (n : Nat) (v1 : Int32) (v2 : Int32) (M : Mem), P_Telling_bodyBits_4 Q n v1 v2 M → G x E mX8_bodyBits 0 0 4 [(0, .ref (eA E 7)), (1, .int v1), (2, .int v2)] [] M := by
  intro n
  induction n with
  | zero => intro _ _ _ h; exact h.elim
  | succ n ih =>
    intro v1 v2 M h
    unfold P_Telling_bodyBits_4 at h
    refine g_iloadn (k0 := 2) (q := 5) dX8_bodyBits_4 rfl rfl rfl ?_
    refine g_iconst (q := 6) dX8_bodyBits_5 ki_4 rfl ?_
    refine g_ic_ge (tgt := 23) (q := 9) dX8_bodyBits_6 rfl rfl (fun hc3 => ?_) (fun hc3 => ?_)
    · replace h := h.1 hc3
      refine g_iloadn (k0 := 1) (q := 24) dX8_bodyBits_23 rfl rfl rfl ?_
      exact g_iret hz rfl dX8_bodyBits_24 h
    · replace h := h.2 hc3
      refine g_iloadn (k0 := 1) (q := 10) dX8_bodyBits_9 rfl rfl rfl ?_
      refine g_aloadn (k0 := 0) (q := 11) dX8_bodyBits_10 rfl rfl rfl ?_
      refine g_iloadn (k0 := 2) (q := 12) dX8_bodyBits_11 rfl rfl rfl ?_
      refine g_calli (q := 15) [.int v2] [.int v1] cv_X8_50 rc_7 (c_X8_width hE h) rfl rfl ⟨rfl, rfl, Nat.le_of_ble_eq_true rfl, Nat.le_of_ble_eq_true rfl, Nat.zero_le _, Nat.zero_le _⟩ (Nat.le_of_ble_eq_true rfl) dX8_bodyBits_12 rfl (fun r2 M1 h => ?_)
      refine g_iadd (q := 16) dX8_bodyBits_15 rfl ?_
      refine g_istoren (lv' := [(0, .ref (eA E 7)), (1, .int (v1 + r2)), (2, .int v2)]) (q := 17) [1, 0, 2] dX8_bodyBits_16 rfl (by decide) rfl rfl ?_
      refine g_iinc (lv' := [(0, .ref (eA E 7)), (1, .int (v1 + r2)), (2, .int (v2 + 1))]) (k0 := 2) (w := (v2 + 1)) (q := 20) [1, 2, 0] dX8_bodyBits_17 rfl rfl (by decide) rfl rfl ?_
      refine g_goto (tgt := 4) dX8_bodyBits_20 rfl ?_
      exact ih _ _ _ h
set_option maxHeartbeats 4000000 in
set_option maxRecDepth 100000 in
theorem c_X8_bodyBits {E : EX} (hE : EH E) {M : Mem} {Q : Int32 → Mem → Prop} (h : P_Telling_bodyBits  M Q) : CI yX8_bodyBits cX8_bodyBits 3 (some .int) rmX8_bodyBits E [.ref (eA E 7)] M Q := by
  refine CI.of hE (plainFor_of_name (by decide)) (Nat.le_of_ble_eq_true rfl) (fun x hz => ?_)
  unfold P_Telling_bodyBits at h
  show G x E mX8_bodyBits 0 0 0 [(0, .ref (eA E 7))] [] M
  refine g_iconst (q := 1) dX8_bodyBits_0 ki_0 rfl ?_
  refine g_istoren (lv' := [(0, .ref (eA E 7)), (1, .int 0)]) (q := 2) [1, 0] dX8_bodyBits_1 rfl (by decide) rfl rfl ?_
  refine g_iconst (q := 3) dX8_bodyBits_2 ki_0 rfl ?_
  refine g_istoren (lv' := [(0, .ref (eA E 7)), (1, .int 0), (2, .int 0)]) (q := 4) [1, 2, 0] dX8_bodyBits_3 rfl (by decide) rfl rfl ?_
  obtain ⟨n1, h⟩ := h
  exact g_X8_bodyBits_4 hE hz n1 _ _ _ h
set_option maxHeartbeats 4000000 in
set_option maxRecDepth 100000 in
theorem g_X8_areLetters_2 {x : GX} {E : EX} (hE : EH E) {Q : Int32 → Mem → Prop} (hz : ZI x E (fun r M => nb r ∧ Q r M)) : ∀ (n : Nat) (v0 : Int32) (v1 : Int32) (v2 : Int32) (M : Mem), P_Telling_areLetters_2 Q n v0 v1 v2 M → G x E mX8_areLetters 0 0 2 [(0, .int v0), (1, .int v1), (2, .int v2)] [] M := by
  intro n
  induction n with
  | zero => intro _ _ _ _ h; exact h.elim
  | succ n ih =>
    intro v0 v1 v2 M h
    unfold P_Telling_areLetters_2 at h
    refine g_iloadn (k0 := 2) (q := 3) dX8_areLetters_2 rfl rfl rfl ?_
    refine g_iloadn (k0 := 1) (q := 4) dX8_areLetters_3 rfl rfl rfl ?_
    refine g_ic_ge (tgt := 28) (q := 7) dX8_areLetters_4 rfl rfl (fun hc2 => ?_) (fun hc2 => ?_)
    · replace h := h.1 hc2
      refine g_iconst (q := 29) dX8_areLetters_28 ki_1 rfl ?_
      exact g_zret hz rfl rfl dX8_areLetters_29 h
    · replace h := h.2 hc2
      refine g_iloadn (k0 := 0) (q := 8) dX8_areLetters_7 rfl rfl rfl ?_
      refine g_iloadn (k0 := 2) (q := 9) dX8_areLetters_8 rfl rfl rfl ?_
      refine g_iconst (q := 10) dX8_areLetters_9 ki_5 rfl ?_
      refine g_imul (q := 11) dX8_areLetters_10 rfl ?_
      refine g_ishr (q := 12) dX8_areLetters_11 rfl ?_
      refine g_bipush (q := 14) dX8_areLetters_12 kb_31 rfl ?_
      refine g_iand (q := 15) dX8_areLetters_14 rfl ?_
      refine g_bipush (q := 17) dX8_areLetters_15 kb_26 rfl ?_
      refine g_ic_le (tgt := 22) (q := 20) dX8_areLetters_17 rfl rfl (fun hc1 => ?_) (fun hc1 => ?_)
      · replace h := h.1 hc1
        refine g_iinc (lv' := [(0, .int v0), (1, .int v1), (2, .int (v2 + 1))]) (k0 := 2) (w := (v2 + 1)) (q := 25) [1, 2, 0] dX8_areLetters_22 rfl rfl (by decide) rfl rfl ?_
        refine g_goto (tgt := 2) dX8_areLetters_25 rfl ?_
        exact ih _ _ _ _ h
      · replace h := h.2 hc1
        refine g_iconst (q := 21) dX8_areLetters_20 ki_0 rfl ?_
        exact g_zret hz rfl rfl dX8_areLetters_21 h
set_option maxHeartbeats 4000000 in
set_option maxRecDepth 100000 in
theorem c_X8_areLetters {E : EX} (hE : EH E) {a1 : Int32} {a2 : Int32} {M : Mem} {Q : Int32 → Mem → Prop} (h : P_Telling_areLetters a1 a2 M Q) : CI yX8_areLetters cX8_areLetters 3 (some .boolean) rmX8_areLetters E [.int a1, .int a2] M (fun r M => nb r ∧ Q r M) := by
  refine CI.of hE (plainFor_of_name (by decide)) (Nat.le_of_ble_eq_true rfl) (fun x hz => ?_)
  unfold P_Telling_areLetters at h
  show G x E mX8_areLetters 0 0 0 [(0, .int a1), (1, .int a2)] [] M
  refine g_iconst (q := 1) dX8_areLetters_0 ki_0 rfl ?_
  refine g_istoren (lv' := [(0, .int a1), (1, .int a2), (2, .int 0)]) (q := 2) [1, 2, 0] dX8_areLetters_1 rfl (by decide) rfl rfl ?_
  obtain ⟨n1, h⟩ := h
  exact g_X8_areLetters_2 hE hz n1 _ _ _ _ h
set_option maxHeartbeats 4000000 in
set_option maxRecDepth 100000 in
theorem c_X8_isAsTold {E : EX} (hE : EH E) {M : Mem} {Q : Int32 → Mem → Prop} (h : P_Telling_isAsTold  M Q) : CI yX8_isAsTold cX8_isAsTold 1 (some .boolean) rmX8_isAsTold E [.ref (eA E 7)] M (fun r M => nb r ∧ Q r M) := by
  refine CI.of hE (plainFor_of_name (by decide)) (Nat.le_of_ble_eq_true rfl) (fun x hz => ?_)
  unfold P_Telling_isAsTold at h
  show G x E mX8_isAsTold 0 0 0 [(0, .ref (eA E 7))] [] M
  refine g_aloadn (k0 := 0) (q := 1) dX8_isAsTold_0 rfl rfl rfl ?_
  refine g_get (v := .int (M.1 7 1)) (q := 4) fg_X8_15_7 rfl dX8_isAsTold_1 rfl ?_
  by_cases hc9 : (M.1 7 1) = 2
  · replace h := h.1 hc9
    refine g_tin (tgt := 36) 2 (by rw [hc9]; decide) dX8_isAsTold_4 (by decide) (by decide) rfl rfl ?_
    refine g_aloadn (k0 := 0) (q := 37) dX8_isAsTold_36 rfl rfl rfl ?_
    refine g_get (v := .ref (eA E 8)) (q := 40) fg_X8_11_7 rfl dX8_isAsTold_37 rfl ?_
    refine g_iconst (q := 41) dX8_isAsTold_40 ki_0 rfl ?_
    have hv1 := h.1
    replace h := h.2
    refine g_iald (v := (M.1 8 0)) (q := 42) ar_8 hv1 rfl dX8_isAsTold_41 rfl ?_
    refine g_iconst (q := 43) dX8_isAsTold_42 ki_3 rfl ?_
    refine g_scalli (q := 46) [.int (M.1 8 0), .int 3] [] cs_X8_69 (c_X8_areLetters hE h) rfl rfl ⟨rfl, rfl, Nat.le_of_ble_eq_true rfl, Nat.le_of_ble_eq_true rfl, Nat.zero_le _, Nat.zero_le _⟩ (Nat.le_of_ble_eq_true rfl) dX8_isAsTold_43 rfl (fun r3 M2 h => ?_)
    obtain ⟨hb_r3, h⟩ := h
    refine g_if_eq (tgt := 66) (q := 49) dX8_isAsTold_46 rfl rfl (fun hc8 => ?_) (fun hc8 => ?_)
    · replace h := h.1 hc8
      refine g_iconst (q := 67) dX8_isAsTold_66 ki_0 rfl ?_
      exact g_zret hz rfl rfl dX8_isAsTold_67 h
    · replace h := h.2 hc8
      refine g_aloadn (k0 := 0) (q := 50) dX8_isAsTold_49 rfl rfl rfl ?_
      refine g_get (v := .ref (eA E 8)) (q := 53) fg_X8_11_7 rfl dX8_isAsTold_50 rfl ?_
      refine g_iconst (q := 54) dX8_isAsTold_53 ki_1 rfl ?_
      have hv4 := h.1
      replace h := h.2
      refine g_iald (v := (M2.1 8 1)) (q := 55) ar_8 hv4 rfl dX8_isAsTold_54 rfl ?_
      refine g_iconst (q := 56) dX8_isAsTold_55 ki_3 rfl ?_
      refine g_scalli (q := 59) [.int (M2.1 8 1), .int 3] [] cs_X8_69 (c_X8_areLetters hE h) rfl rfl ⟨rfl, rfl, Nat.le_of_ble_eq_true rfl, Nat.le_of_ble_eq_true rfl, Nat.zero_le _, Nat.zero_le _⟩ (Nat.le_of_ble_eq_true rfl) dX8_isAsTold_56 rfl (fun r6 M5 h => ?_)
      obtain ⟨hb_r6, h⟩ := h
      refine g_if_eq (tgt := 66) (q := 62) dX8_isAsTold_59 rfl rfl (fun hc7 => ?_) (fun hc7 => ?_)
      · replace h := h.1 hc7
        refine g_iconst (q := 67) dX8_isAsTold_66 ki_0 rfl ?_
        exact g_zret hz rfl rfl dX8_isAsTold_67 h
      · replace h := h.2 hc7
        refine g_iconst (q := 63) dX8_isAsTold_62 ki_1 rfl ?_
        refine g_goto (tgt := 67) dX8_isAsTold_63 rfl ?_
        exact g_zret hz rfl rfl dX8_isAsTold_67 h
  replace h := h.2
  by_cases hc10 : (M.1 7 1) = 3
  · replace h := h.1 hc10
    refine g_tin (tgt := 149) 3 (by rw [hc10]; decide) dX8_isAsTold_4 (by decide) (by decide) rfl rfl ?_
    refine g_iconst (q := 150) dX8_isAsTold_149 ki_1 rfl ?_
    exact g_zret hz rfl rfl dX8_isAsTold_150 h
  replace h := h.2
  by_cases hc20 : (M.1 7 1) = 4
  · replace h := h.1 hc20
    refine g_tin (tgt := 68) 4 (by rw [hc20]; decide) dX8_isAsTold_4 (by decide) (by decide) rfl rfl ?_
    refine g_aloadn (k0 := 0) (q := 69) dX8_isAsTold_68 rfl rfl rfl ?_
    refine g_get (v := .ref (eA E 8)) (q := 72) fg_X8_11_7 rfl dX8_isAsTold_69 rfl ?_
    refine g_iconst (q := 73) dX8_isAsTold_72 ki_2 rfl ?_
    have hv11 := h.1
    replace h := h.2
    refine g_iald (v := (M.1 8 2)) (q := 74) ar_8 hv11 rfl dX8_isAsTold_73 rfl ?_
    refine g_iconst (q := 75) dX8_isAsTold_74 ki_2 rfl ?_
    refine g_ic_lt (tgt := 120) (q := 78) dX8_isAsTold_75 rfl rfl (fun hc19 => ?_) (fun hc19 => ?_)
    · replace h := h.1 hc19
      refine g_iconst (q := 121) dX8_isAsTold_120 ki_0 rfl ?_
      exact g_zret hz rfl rfl dX8_isAsTold_121 h
    · replace h := h.2 hc19
      refine g_aloadn (k0 := 0) (q := 79) dX8_isAsTold_78 rfl rfl rfl ?_
      refine g_get (v := .ref (eA E 8)) (q := 82) fg_X8_11_7 rfl dX8_isAsTold_79 rfl ?_
      refine g_iconst (q := 83) dX8_isAsTold_82 ki_2 rfl ?_
      refine g_iald (v := (M.1 8 2)) (q := 84) ar_8 hv11 rfl dX8_isAsTold_83 rfl ?_
      refine g_iconst (q := 85) dX8_isAsTold_84 ki_5 rfl ?_
      refine g_ic_gt (tgt := 120) (q := 88) dX8_isAsTold_85 rfl rfl (fun hc18 => ?_) (fun hc18 => ?_)
      · replace h := h.1 hc18
        refine g_iconst (q := 121) dX8_isAsTold_120 ki_0 rfl ?_
        exact g_zret hz rfl rfl dX8_isAsTold_121 h
      · replace h := h.2 hc18
        refine g_aloadn (k0 := 0) (q := 89) dX8_isAsTold_88 rfl rfl rfl ?_
        refine g_get (v := .ref (eA E 8)) (q := 92) fg_X8_11_7 rfl dX8_isAsTold_89 rfl ?_
        refine g_iconst (q := 93) dX8_isAsTold_92 ki_1 rfl ?_
        have hv12 := h.1
        replace h := h.2
        refine g_iald (v := (M.1 8 1)) (q := 94) ar_8 hv12 rfl dX8_isAsTold_93 rfl ?_
        refine g_aloadn (k0 := 0) (q := 95) dX8_isAsTold_94 rfl rfl rfl ?_
        refine g_get (v := .ref (eA E 8)) (q := 98) fg_X8_11_7 rfl dX8_isAsTold_95 rfl ?_
        refine g_iconst (q := 99) dX8_isAsTold_98 ki_2 rfl ?_
        refine g_iald (v := (M.1 8 2)) (q := 100) ar_8 hv11 rfl dX8_isAsTold_99 rfl ?_
        refine g_ic_ge (tgt := 120) (q := 103) dX8_isAsTold_100 rfl rfl (fun hc17 => ?_) (fun hc17 => ?_)
        · replace h := h.1 hc17
          refine g_iconst (q := 121) dX8_isAsTold_120 ki_0 rfl ?_
          exact g_zret hz rfl rfl dX8_isAsTold_121 h
        · replace h := h.2 hc17
          refine g_aloadn (k0 := 0) (q := 104) dX8_isAsTold_103 rfl rfl rfl ?_
          refine g_get (v := .ref (eA E 8)) (q := 107) fg_X8_11_7 rfl dX8_isAsTold_104 rfl ?_
          refine g_iconst (q := 108) dX8_isAsTold_107 ki_3 rfl ?_
          have hv13 := h.1
          replace h := h.2
          refine g_iald (v := (M.1 8 3)) (q := 109) ar_8 hv13 rfl dX8_isAsTold_108 rfl ?_
          refine g_iconst (q := 110) dX8_isAsTold_109 ki_4 rfl ?_
          refine g_scalli (q := 113) [.int (M.1 8 3), .int 4] [] cs_X8_69 (c_X8_areLetters hE h) rfl rfl ⟨rfl, rfl, Nat.le_of_ble_eq_true rfl, Nat.le_of_ble_eq_true rfl, Nat.zero_le _, Nat.zero_le _⟩ (Nat.le_of_ble_eq_true rfl) dX8_isAsTold_110 rfl (fun r15 M14 h => ?_)
          obtain ⟨hb_r15, h⟩ := h
          refine g_if_eq (tgt := 120) (q := 116) dX8_isAsTold_113 rfl rfl (fun hc16 => ?_) (fun hc16 => ?_)
          · replace h := h.1 hc16
            refine g_iconst (q := 121) dX8_isAsTold_120 ki_0 rfl ?_
            exact g_zret hz rfl rfl dX8_isAsTold_121 h
          · replace h := h.2 hc16
            refine g_iconst (q := 117) dX8_isAsTold_116 ki_1 rfl ?_
            refine g_goto (tgt := 121) dX8_isAsTold_117 rfl ?_
            exact g_zret hz rfl rfl dX8_isAsTold_121 h
  replace h := h.2
  by_cases hc25 : (M.1 7 1) = 5
  · replace h := h.1 hc25
    refine g_tin (tgt := 122) 5 (by rw [hc25]; decide) dX8_isAsTold_4 (by decide) (by decide) rfl rfl ?_
    refine g_aloadn (k0 := 0) (q := 123) dX8_isAsTold_122 rfl rfl rfl ?_
    refine g_get (v := .ref (eA E 8)) (q := 126) fg_X8_11_7 rfl dX8_isAsTold_123 rfl ?_
    refine g_iconst (q := 127) dX8_isAsTold_126 ki_0 rfl ?_
    have hv21 := h.1
    replace h := h.2
    refine g_iald (v := (M.1 8 0)) (q := 128) ar_8 hv21 rfl dX8_isAsTold_127 rfl ?_
    refine g_sipush (q := 131) dX8_isAsTold_128 ks_2250 rfl ?_
    refine g_ic_ge (tgt := 147) (q := 134) dX8_isAsTold_131 rfl rfl (fun hc24 => ?_) (fun hc24 => ?_)
    · replace h := h.1 hc24
      refine g_iconst (q := 148) dX8_isAsTold_147 ki_0 rfl ?_
      exact g_zret hz rfl rfl dX8_isAsTold_148 h
    · replace h := h.2 hc24
      refine g_aloadn (k0 := 0) (q := 135) dX8_isAsTold_134 rfl rfl rfl ?_
      refine g_get (v := .ref (eA E 8)) (q := 138) fg_X8_11_7 rfl dX8_isAsTold_135 rfl ?_
      refine g_iconst (q := 139) dX8_isAsTold_138 ki_1 rfl ?_
      have hv22 := h.1
      replace h := h.2
      refine g_iald (v := (M.1 8 1)) (q := 140) ar_8 hv22 rfl dX8_isAsTold_139 rfl ?_
      refine g_if_le (tgt := 147) (q := 143) dX8_isAsTold_140 rfl rfl (fun hc23 => ?_) (fun hc23 => ?_)
      · replace h := h.1 hc23
        refine g_iconst (q := 148) dX8_isAsTold_147 ki_0 rfl ?_
        exact g_zret hz rfl rfl dX8_isAsTold_148 h
      · replace h := h.2 hc23
        refine g_iconst (q := 144) dX8_isAsTold_143 ki_1 rfl ?_
        refine g_goto (tgt := 148) dX8_isAsTold_144 rfl ?_
        exact g_zret hz rfl rfl dX8_isAsTold_148 h
  replace h := h.2
  replace h := h hc9 hc10 hc20 hc25
  refine g_tout (tgt := 149) dX8_isAsTold_4 (sw_out 2 4 (fun i hi => by rcases (show i = 0 ∨ i = 1 ∨ i = 2 ∨ i = 3 by omega) with rfl | rfl | rfl | rfl <;> assumption)) rfl ?_
  refine g_iconst (q := 150) dX8_isAsTold_149 ki_1 rfl ?_
  exact g_zret hz rfl rfl dX8_isAsTold_150 h
set_option maxHeartbeats 4000000 in
set_option maxRecDepth 100000 in
theorem g_X8_signed_24 {x : GX} {E : EX} (hE : EH E) {Q : Int32 → Mem → Prop} (hz : ZI x E Q) : ∀ (v1 : Int32) (v2 : Int32) (s0 : Int32) (M : Mem), P_Telling_signed_24 Q v1 v2 s0 M → G x E mX8_signed 0 0 24 [(1, .int v1), (2, .int v2)] [.int s0] M := by
  intro v1 v2 s0 M h
  unfold P_Telling_signed_24 at h
  refine g_istoren (lv' := [(1, .int v1), (2, .int v2), (3, .int s0)]) (q := 25) [1, 2, 0] dX8_signed_24 rfl (by decide) rfl rfl ?_
  refine g_iloadn (k0 := 2) (q := 26) dX8_signed_25 rfl rfl rfl ?_
  refine g_if_eq (tgt := 37) (q := 29) dX8_signed_26 rfl rfl (fun hc1 => ?_) (fun hc1 => ?_)
  · replace h := h.1 hc1
    refine g_iloadn (k0 := 0) (q := 38) dX8_signed_37 rfl rfl rfl ?_
    exact g_iret hz rfl dX8_signed_38 h
  · replace h := h.2 hc1
    refine g_iloadn (k0 := 0) (q := 30) dX8_signed_29 rfl rfl rfl ?_
    refine g_iconst (q := 31) dX8_signed_30 ki_1 rfl ?_
    refine g_iloadn (k0 := 1) (q := 32) dX8_signed_31 rfl rfl rfl ?_
    refine g_ishl (q := 33) dX8_signed_32 rfl ?_
    refine g_isub (q := 34) dX8_signed_33 rfl ?_
    refine g_goto (tgt := 38) dX8_signed_34 rfl ?_
    exact g_iret hz rfl dX8_signed_38 h
set_option maxHeartbeats 4000000 in
set_option maxRecDepth 100000 in
theorem g_X8_signed_23 {x : GX} {E : EX} (hE : EH E) {Q : Int32 → Mem → Prop} (hz : ZI x E Q) : ∀ (v1 : Int32) (v2 : Int32) (M : Mem), P_Telling_signed_23 Q v1 v2 M → G x E mX8_signed 0 0 23 [(1, .int v1), (2, .int v2)] [] M := by
  intro v1 v2 M h
  unfold P_Telling_signed_23 at h
  refine g_iconst (q := 24) dX8_signed_23 ki_0 rfl ?_
  exact g_X8_signed_24 hE hz _ _ _ _ h
set_option maxHeartbeats 4000000 in
set_option maxRecDepth 100000 in
theorem c_X8_signed {E : EX} (hE : EH E) {a1 : Int32} {a2 : Int32} {M : Mem} {Q : Int32 → Mem → Prop} (h : P_Telling_signed a1 a2 M Q) : CI yX8_signed cX8_signed 4 (some .int) rmX8_signed E [.ref (eA E 7), .int a1, .int a2] M Q := by
  refine CI.of hE (plainFor_of_name (by decide)) (Nat.le_of_ble_eq_true rfl) (fun x hz => ?_)
  unfold P_Telling_signed at h
  show G x E mX8_signed 0 0 0 [(0, .ref (eA E 7)), (1, .int a1), (2, .int a2)] [] M
  refine g_aloadn (k0 := 0) (q := 1) dX8_signed_0 rfl rfl rfl ?_
  refine g_get (v := .int (M.1 7 1)) (q := 4) fg_X8_15_7 rfl dX8_signed_1 rfl ?_
  refine g_iconst (q := 5) dX8_signed_4 ki_1 rfl ?_
  refine g_ic_ne (tgt := 23) (q := 8) dX8_signed_5 rfl rfl (fun hc3 => ?_) (fun hc3 => ?_)
  · replace h := h.1 hc3
    refine g_lv (lv' := [(1, .int a1), (2, .int a2)]) [1, 2] rfl ?_
    exact g_X8_signed_23 hE hz _ _ _ h
  · replace h := h.2 hc3
    refine g_iloadn (k0 := 1) (q := 9) dX8_signed_8 rfl rfl rfl ?_
    refine g_iloadn (k0 := 2) (q := 10) dX8_signed_9 rfl rfl rfl ?_
    refine g_iconst (q := 11) dX8_signed_10 ki_1 rfl ?_
    refine g_isub (q := 12) dX8_signed_11 rfl ?_
    refine g_ishr (q := 13) dX8_signed_12 rfl ?_
    refine g_iconst (q := 14) dX8_signed_13 ki_1 rfl ?_
    refine g_iand (q := 15) dX8_signed_14 rfl ?_
    refine g_iconst (q := 16) dX8_signed_15 ki_1 rfl ?_
    refine g_ic_ne (tgt := 23) (q := 19) dX8_signed_16 rfl rfl (fun hc2 => ?_) (fun hc2 => ?_)
    · replace h := h.1 hc2
      refine g_lv (lv' := [(1, .int a1), (2, .int a2)]) [1, 2] rfl ?_
      exact g_X8_signed_23 hE hz _ _ _ h
    · replace h := h.2 hc2
      refine g_iconst (q := 20) dX8_signed_19 ki_1 rfl ?_
      refine g_goto (tgt := 24) dX8_signed_20 rfl ?_
      refine g_lv (lv' := [(1, .int a1), (2, .int a2)]) [1, 2] rfl ?_
      exact g_X8_signed_24 hE hz _ _ _ _ h
set_option maxHeartbeats 4000000 in
set_option maxRecDepth 100000 in
theorem g_X8_readAll_5_100 {x : GX} {E : EX} (hE : EH E) {Q : Int32 → Mem → Prop} (hz : ZI x E (fun r M => nb r ∧ Q r M)) {K61 : Int32 → Int32 → Mem → Prop} (hK61 : ∀ (v2 : Int32) (v3 : Int32) (M : Mem), K61 v2 v3 M → G x E mX8_readAll 0 0 61 [(0, .ref (eA E 7)), (1, .ref (eA E 5)), (2, .int v2), (3, .int v3)] [] M) : ∀ (v2 : Int32) (v3 : Int32) (v4 : Int32) (s0 : Int32) (s1 : Int32) (M : Mem), P_Telling_readAll_100 5 K61 Q v2 v3 v4 s0 s1 M → G x E mX8_readAll 0 0 100 [(0, .ref (eA E 7)), (1, .ref (eA E 5)), (2, .int v2), (3, .int v3), (4, .int v4)] [.int s0, .int s1, .ref (eA E 8)] M := by
  intro v2 v3 v4 s0 s1 M h
  unfold P_Telling_readAll_100 at h
  have hv21 := h.1
  replace h := h.2
  refine g_iast (q := 101) ar_8 hv21 dX8_readAll_100 rfl ?_
  refine g_iloadn (k0 := 2) (q := 102) dX8_readAll_101 rfl rfl rfl ?_
  refine g_iload (k0 := 4) (q := 104) dX8_readAll_102 rfl rfl ?_
  refine g_iadd (q := 105) dX8_readAll_104 rfl ?_
  refine g_istoren (lv' := [(0, .ref (eA E 7)), (1, .ref (eA E 5)), (2, .int (v2 + v4)), (3, .int v3), (4, .int v4)]) (q := 106) [1, 2, 0, 3, 4] dX8_readAll_105 rfl (by decide) rfl rfl ?_
  refine g_iinc (lv' := [(0, .ref (eA E 7)), (1, .ref (eA E 5)), (2, .int (v2 + v4)), (3, .int (v3 + 1)), (4, .int v4)]) (k0 := 3) (w := (v3 + 1)) (q := 109) [1, 2, 3, 0, 4] dX8_readAll_106 rfl rfl (by decide) rfl rfl ?_
  refine g_goto (tgt := 61) dX8_readAll_109 rfl ?_
  refine g_lv (lv' := [(0, .ref (eA E 7)), (1, .ref (eA E 5)), (2, .int (v2 + v4)), (3, .int (v3 + 1))]) [0, 1, 2, 3] rfl ?_
  exact hK61 _ _ _ h
set_option maxHeartbeats 4000000 in
set_option maxRecDepth 100000 in
theorem g_X8_readAll_5_61 {x : GX} {E : EX} (hE : EH E) {Q : Int32 → Mem → Prop} (hz : ZI x E (fun r M => nb r ∧ Q r M)) : ∀ (n : Nat) (v2 : Int32) (v3 : Int32) (M : Mem), P_Telling_readAll_61 5 Q n v2 v3 M → G x E mX8_readAll 0 0 61 [(0, .ref (eA E 7)), (1, .ref (eA E 5)), (2, .int v2), (3, .int v3)] [] M := by
  intro n
  induction n with
  | zero => intro _ _ _ h; exact h.elim
  | succ n ih =>
    intro v2 v3 M h
    unfold P_Telling_readAll_61 at h
    refine g_iloadn (k0 := 3) (q := 62) dX8_readAll_61 rfl rfl rfl ?_
    refine g_iconst (q := 63) dX8_readAll_62 ki_4 rfl ?_
    refine g_ic_ge (tgt := 112) (q := 66) dX8_readAll_63 rfl rfl (fun hc23 => ?_) (fun hc23 => ?_)
    · replace h := h.1 hc23
      refine g_aloadn (k0 := 0) (q := 113) dX8_readAll_112 rfl rfl rfl ?_
      refine g_calli (q := 116) [] [] cv_X8_57 rc_7 (c_X8_isAsTold hE h) rfl rfl ⟨rfl, rfl, Nat.le_of_ble_eq_true rfl, Nat.le_of_ble_eq_true rfl, Nat.zero_le _, Nat.zero_le _⟩ (Nat.le_of_ble_eq_true rfl) dX8_readAll_113 rfl (fun r14 M13 h => ?_)
      obtain ⟨hb_r14, h⟩ := h
      exact g_zret hz rfl hb_r14 dX8_readAll_116 h
    · replace h := h.2 hc23
      refine g_aloadn (k0 := 0) (q := 67) dX8_readAll_66 rfl rfl rfl ?_
      refine g_iloadn (k0 := 3) (q := 68) dX8_readAll_67 rfl rfl rfl ?_
      refine g_calli (q := 71) [.int v3] [] cv_X8_50 rc_7 (c_X8_width hE h) rfl rfl ⟨rfl, rfl, Nat.le_of_ble_eq_true rfl, Nat.le_of_ble_eq_true rfl, Nat.zero_le _, Nat.zero_le _⟩ (Nat.le_of_ble_eq_true rfl) dX8_readAll_68 rfl (fun r16 M15 h => ?_)
      refine g_istore (lv' := [(0, .ref (eA E 7)), (1, .ref (eA E 5)), (2, .int v2), (3, .int v3), (4, .int r16)]) (q := 73) [1, 2, 3, 4, 0] dX8_readAll_71 (by decide) rfl rfl ?_
      refine g_aloadn (k0 := 0) (q := 74) dX8_readAll_73 rfl rfl rfl ?_
      refine g_get (v := .ref (eA E 8)) (q := 77) fg_X8_11_7 rfl dX8_readAll_74 rfl ?_
      refine g_iloadn (k0 := 3) (q := 78) dX8_readAll_77 rfl rfl rfl ?_
      refine g_iload (k0 := 4) (q := 80) dX8_readAll_78 rfl rfl ?_
      refine g_if_ne (tgt := 87) (q := 83) dX8_readAll_80 rfl rfl (fun hc22 => ?_) (fun hc22 => ?_)
      · replace h := h.1 hc22
        refine g_aloadn (k0 := 0) (q := 88) dX8_readAll_87 rfl rfl rfl ?_
        refine g_aloadn (k0 := 1) (q := 89) dX8_readAll_88 rfl rfl rfl ?_
        refine g_iloadn (k0 := 2) (q := 90) dX8_readAll_89 rfl rfl rfl ?_
        refine g_iload (k0 := 4) (q := 92) dX8_readAll_90 rfl rfl ?_
        refine g_calli (q := 95) [.int v2, .int r16] [.ref (eA E 7), .int v3, .ref (eA E 8)] cv_X8_39 rc_5 (c_X1_number_5 hE h) rfl rfl ⟨rfl, rfl, Nat.le_of_ble_eq_true rfl, Nat.le_of_ble_eq_true rfl, Nat.zero_le _, Nat.zero_le _⟩ (Nat.le_of_ble_eq_true rfl) dX8_readAll_92 rfl (fun r18 M17 h => ?_)
        refine g_iload (k0 := 4) (q := 97) dX8_readAll_95 rfl rfl ?_
        refine g_calli (q := 100) [.int r18, .int r16] [.int v3, .ref (eA E 8)] cv_X8_54 rc_7 (c_X8_signed hE h) rfl rfl ⟨rfl, rfl, Nat.le_of_ble_eq_true rfl, Nat.le_of_ble_eq_true rfl, Nat.zero_le _, Nat.zero_le _⟩ (Nat.le_of_ble_eq_true rfl) dX8_readAll_97 rfl (fun r20 M19 h => ?_)
        exact g_X8_readAll_5_100 hE hz ih _ _ _ _ _ _ h
      · replace h := h.2 hc22
        refine g_iconst (q := 84) dX8_readAll_83 ki_m1 rfl ?_
        refine g_goto (tgt := 100) dX8_readAll_84 rfl ?_
        exact g_X8_readAll_5_100 hE hz ih _ _ _ _ _ _ h
set_option maxHeartbeats 4000000 in
set_option maxRecDepth 100000 in
theorem c_X8_readAll_5 {E : EX} (hE : EH E) {M : Mem} {Q : Int32 → Mem → Prop} (h : P_Telling_readAll 5  M Q) : CI yX8_readAll cX8_readAll 5 (some .boolean) rmX8_readAll E [.ref (eA E 7), .ref (eA E 5)] M (fun r M => nb r ∧ Q r M) := by
  refine CI.of hE (plainFor_of_name (by decide)) (Nat.le_of_ble_eq_true rfl) (fun x hz => ?_)
  unfold P_Telling_readAll at h
  show G x E mX8_readAll 0 0 0 [(0, .ref (eA E 7)), (1, .ref (eA E 5))] [] M
  refine g_bipush (q := 2) dX8_readAll_0 kb_24 rfl ?_
  refine g_istoren (lv' := [(0, .ref (eA E 7)), (1, .ref (eA E 5)), (2, .int 24)]) (q := 3) [1, 2, 0] dX8_readAll_2 rfl (by decide) rfl rfl ?_
  refine g_aloadn (k0 := 1) (q := 4) dX8_readAll_3 rfl rfl rfl ?_
  refine g_calli (q := 7) [] [] cv_X8_33 rc_5 (c_X1_frameBits_5 hE h) rfl rfl ⟨rfl, rfl, Nat.le_of_ble_eq_true rfl, Nat.le_of_ble_eq_true rfl, Nat.zero_le _, Nat.zero_le _⟩ (Nat.le_of_ble_eq_true rfl) dX8_readAll_4 rfl (fun r2 M1 h => ?_)
  refine g_iloadn (k0 := 2) (q := 8) dX8_readAll_7 rfl rfl rfl ?_
  refine g_ic_ge (tgt := 13) (q := 11) dX8_readAll_8 rfl rfl (fun hc27 => ?_) (fun hc27 => ?_)
  · replace h := h.1 hc27
    refine g_aloadn (k0 := 0) (q := 14) dX8_readAll_13 rfl rfl rfl ?_
    refine g_aloadn (k0 := 1) (q := 15) dX8_readAll_14 rfl rfl rfl ?_
    refine g_iconst (q := 16) dX8_readAll_15 ki_0 rfl ?_
    refine g_iconst (q := 17) dX8_readAll_16 ki_4 rfl ?_
    refine g_calli (q := 20) [.int 0, .int 4] [.ref (eA E 7)] cv_X8_39 rc_5 (c_X1_number_5 hE h) rfl rfl ⟨rfl, rfl, Nat.le_of_ble_eq_true rfl, Nat.le_of_ble_eq_true rfl, Nat.zero_le _, Nat.zero_le _⟩ (Nat.le_of_ble_eq_true rfl) dX8_readAll_17 rfl (fun r4 M3 h => ?_)
    refine g_putI (q := 23) fp_X8_15_7 dX8_readAll_20 rfl ?_
    refine g_aloadn (k0 := 0) (q := 24) dX8_readAll_23 rfl rfl rfl ?_
    refine g_aloadn (k0 := 1) (q := 25) dX8_readAll_24 rfl rfl rfl ?_
    refine g_iconst (q := 26) dX8_readAll_25 ki_4 rfl ?_
    refine g_bipush (q := 28) dX8_readAll_26 kb_20 rfl ?_
    refine g_calli (q := 31) [.int 4, .int 20] [.ref (eA E 7)] cv_X8_39 rc_5 (c_X1_number_5 hE h) rfl rfl ⟨rfl, rfl, Nat.le_of_ble_eq_true rfl, Nat.le_of_ble_eq_true rfl, Nat.zero_le _, Nat.zero_le _⟩ (Nat.le_of_ble_eq_true rfl) dX8_readAll_28 rfl (fun r6 M5 h => ?_)
    refine g_putI (q := 34) fp_X8_19_7 dX8_readAll_31 rfl ?_
    refine g_aloadn (k0 := 0) (q := 35) dX8_readAll_34 rfl rfl rfl ?_
    refine g_get (v := .int (M5.1 7 1)) (q := 38) fg_X8_15_7 rfl dX8_readAll_35 rfl ?_
    refine g_scalli (q := 41) [.int (M5.1 7 1)] [] cs_X8_43 (c_X8_isKind hE h) rfl rfl ⟨rfl, rfl, Nat.le_of_ble_eq_true rfl, Nat.le_of_ble_eq_true rfl, Nat.zero_le _, Nat.zero_le _⟩ (Nat.le_of_ble_eq_true rfl) dX8_readAll_38 rfl (fun r8 M7 h => ?_)
    obtain ⟨hb_r8, h⟩ := h
    refine g_if_eq (tgt := 57) (q := 44) dX8_readAll_41 rfl rfl (fun hc26 => ?_) (fun hc26 => ?_)
    · replace h := h.1 hc26
      refine g_iconst (q := 58) dX8_readAll_57 ki_0 rfl ?_
      exact g_zret hz rfl rfl dX8_readAll_58 h
    · replace h := h.2 hc26
      refine g_aloadn (k0 := 1) (q := 45) dX8_readAll_44 rfl rfl rfl ?_
      refine g_calli (q := 48) [] [] cv_X8_33 rc_5 (c_X1_frameBits_5 hE h) rfl rfl ⟨rfl, rfl, Nat.le_of_ble_eq_true rfl, Nat.le_of_ble_eq_true rfl, Nat.zero_le _, Nat.zero_le _⟩ (Nat.le_of_ble_eq_true rfl) dX8_readAll_45 rfl (fun r10 M9 h => ?_)
      refine g_iloadn (k0 := 2) (q := 49) dX8_readAll_48 rfl rfl rfl ?_
      refine g_aloadn (k0 := 0) (q := 50) dX8_readAll_49 rfl rfl rfl ?_
      refine g_calli (q := 53) [] [.int 24, .int r10] cv_X8_47 rc_7 (c_X8_bodyBits hE h) rfl rfl ⟨rfl, rfl, Nat.le_of_ble_eq_true rfl, Nat.le_of_ble_eq_true rfl, Nat.zero_le _, Nat.zero_le _⟩ (Nat.le_of_ble_eq_true rfl) dX8_readAll_50 rfl (fun r12 M11 h => ?_)
      refine g_iadd (q := 54) dX8_readAll_53 rfl ?_
      refine g_ic_eq (tgt := 59) (q := 57) dX8_readAll_54 rfl rfl (fun hc25 => ?_) (fun hc25 => ?_)
      · replace h := h.1 hc25
        refine g_iconst (q := 60) dX8_readAll_59 ki_0 rfl ?_
        refine g_istoren (lv' := [(0, .ref (eA E 7)), (1, .ref (eA E 5)), (2, .int 24), (3, .int 0)]) (q := 61) [1, 2, 3, 0] dX8_readAll_60 rfl (by decide) rfl rfl ?_
        obtain ⟨n1, h⟩ := h
        exact g_X8_readAll_5_61 hE hz n1 _ _ _ h
      · replace h := h.2 hc25
        refine g_iconst (q := 58) dX8_readAll_57 ki_0 rfl ?_
        exact g_zret hz rfl rfl dX8_readAll_58 h
  · replace h := h.2 hc27
    refine g_iconst (q := 12) dX8_readAll_11 ki_0 rfl ?_
    exact g_zret hz rfl rfl dX8_readAll_12 h
set_option maxHeartbeats 4000000 in
set_option maxRecDepth 100000 in
theorem c_X8_setNumbers {E : EX} (hE : EH E) {a1 : Int32} {a2 : Int32} {a3 : Int32} {a4 : Int32} {M : Mem} {Q : Mem → Prop} (h : P_Telling_setNumbers a1 a2 a3 a4 M Q) : CU yX8_setNumbers cX8_setNumbers 5 none rmX8_setNumbers E [.ref (eA E 7), .int a1, .int a2, .int a3, .int a4] M Q := by
  refine CU.of hE (plainFor_of_name (by decide)) (Nat.le_of_ble_eq_true rfl) (fun x hz => ?_)
  unfold P_Telling_setNumbers at h
  show G x E mX8_setNumbers 0 0 0 [(0, .ref (eA E 7)), (1, .int a1), (2, .int a2), (3, .int a3), (4, .int a4)] [] M
  refine g_aloadn (k0 := 0) (q := 1) dX8_setNumbers_0 rfl rfl rfl ?_
  refine g_get (v := .ref (eA E 8)) (q := 4) fg_X8_11_7 rfl dX8_setNumbers_1 rfl ?_
  refine g_iconst (q := 5) dX8_setNumbers_4 ki_0 rfl ?_
  refine g_iloadn (k0 := 1) (q := 6) dX8_setNumbers_5 rfl rfl rfl ?_
  have hv1 := h.1
  replace h := h.2
  refine g_iast (q := 7) ar_8 hv1 dX8_setNumbers_6 rfl ?_
  refine g_aloadn (k0 := 0) (q := 8) dX8_setNumbers_7 rfl rfl rfl ?_
  refine g_get (v := .ref (eA E 8)) (q := 11) fg_X8_11_7 rfl dX8_setNumbers_8 rfl ?_
  refine g_iconst (q := 12) dX8_setNumbers_11 ki_1 rfl ?_
  refine g_iloadn (k0 := 2) (q := 13) dX8_setNumbers_12 rfl rfl rfl ?_
  have hv2 := h.1
  replace h := h.2
  refine g_iast (q := 14) ar_8 hv2 dX8_setNumbers_13 rfl ?_
  refine g_aloadn (k0 := 0) (q := 15) dX8_setNumbers_14 rfl rfl rfl ?_
  refine g_get (v := .ref (eA E 8)) (q := 18) fg_X8_11_7 rfl dX8_setNumbers_15 rfl ?_
  refine g_iconst (q := 19) dX8_setNumbers_18 ki_2 rfl ?_
  refine g_iloadn (k0 := 3) (q := 20) dX8_setNumbers_19 rfl rfl rfl ?_
  have hv3 := h.1
  replace h := h.2
  refine g_iast (q := 21) ar_8 hv3 dX8_setNumbers_20 rfl ?_
  refine g_aloadn (k0 := 0) (q := 22) dX8_setNumbers_21 rfl rfl rfl ?_
  refine g_get (v := .ref (eA E 8)) (q := 25) fg_X8_11_7 rfl dX8_setNumbers_22 rfl ?_
  refine g_iconst (q := 26) dX8_setNumbers_25 ki_3 rfl ?_
  refine g_iload (k0 := 4) (q := 28) dX8_setNumbers_26 rfl rfl ?_
  have hv4 := h.1
  replace h := h.2
  refine g_iast (q := 29) ar_8 hv4 dX8_setNumbers_28 rfl ?_
  exact g_vret hz rfl dX8_setNumbers_29 h
set_option maxHeartbeats 4000000 in
set_option maxRecDepth 100000 in
theorem c_X8_readFrom_5 {E : EX} (hE : EH E) {M : Mem} {Q : Mem → Prop} (h : P_Telling_readFrom 5  M Q) : CU yX8_readFrom cX8_readFrom 2 none rmX8_readFrom E [.ref (eA E 7), .ref (eA E 5)] M Q := by
  refine CU.of hE (plainFor_of_name (by decide)) (Nat.le_of_ble_eq_true rfl) (fun x hz => ?_)
  unfold P_Telling_readFrom at h
  show G x E mX8_readFrom 0 0 0 [(0, .ref (eA E 7)), (1, .ref (eA E 5))] [] M
  refine g_aloadn (k0 := 0) (q := 1) dX8_readFrom_0 rfl rfl rfl ?_
  refine g_aloadn (k0 := 1) (q := 2) dX8_readFrom_1 rfl rfl rfl ?_
  refine g_calli (q := 5) [.ref (eA E 5)] [] cv_X8_25 rc_7 (c_X8_readAll_5 hE h) rfl rfl ⟨rfl, rfl, Nat.le_of_ble_eq_true rfl, Nat.le_of_ble_eq_true rfl, Nat.zero_le _, Nat.zero_le _⟩ (Nat.le_of_ble_eq_true rfl) dX8_readFrom_2 rfl (fun r2 M1 h => ?_)
  obtain ⟨hb_r2, h⟩ := h
  refine g_if_ne (tgt := 26) (q := 8) dX8_readFrom_5 rfl rfl (fun hc4 => ?_) (fun hc4 => ?_)
  · replace h := h.1 hc4
    exact g_vret hz rfl dX8_readFrom_26 h
  · replace h := h.2 hc4
    refine g_aloadn (k0 := 0) (q := 9) dX8_readFrom_8 rfl rfl rfl ?_
    refine g_iconst (q := 10) dX8_readFrom_9 ki_0 rfl ?_
    refine g_putI (q := 13) fp_X8_15_7 dX8_readFrom_10 rfl ?_
    refine g_aloadn (k0 := 0) (q := 14) dX8_readFrom_13 rfl rfl rfl ?_
    refine g_iconst (q := 15) dX8_readFrom_14 ki_m1 rfl ?_
    refine g_putI (q := 18) fp_X8_19_7 dX8_readFrom_15 rfl ?_
    refine g_aloadn (k0 := 0) (q := 19) dX8_readFrom_18 rfl rfl rfl ?_
    refine g_iconst (q := 20) dX8_readFrom_19 ki_m1 rfl ?_
    refine g_iconst (q := 21) dX8_readFrom_20 ki_m1 rfl ?_
    refine g_iconst (q := 22) dX8_readFrom_21 ki_m1 rfl ?_
    refine g_iconst (q := 23) dX8_readFrom_22 ki_m1 rfl ?_
    refine g_callv (q := 26) [.int (-1), .int (-1), .int (-1), .int (-1)] [] cv_X8_29 rc_7 (c_X8_setNumbers hE h) rfl rfl ⟨rfl, rfl, Nat.le_of_ble_eq_true rfl, Nat.le_of_ble_eq_true rfl, Nat.zero_le _, Nat.zero_le _⟩ (Nat.le_of_ble_eq_true rfl) dX8_readFrom_23 rfl (fun M3 h => ?_)
    exact g_vret hz rfl dX8_readFrom_26 h
set_option maxHeartbeats 4000000 in
set_option maxRecDepth 100000 in
theorem c_X8_kind {E : EX} (hE : EH E) {M : Mem} {Q : Int32 → Mem → Prop} (h : P_Telling_kind  M Q) : CI yX8_kind cX8_kind 1 (some .int) rmX8_kind E [.ref (eA E 7)] M Q := by
  refine CI.of hE (plainFor_of_name (by decide)) (Nat.le_of_ble_eq_true rfl) (fun x hz => ?_)
  unfold P_Telling_kind at h
  show G x E mX8_kind 0 0 0 [(0, .ref (eA E 7))] [] M
  refine g_aloadn (k0 := 0) (q := 1) dX8_kind_0 rfl rfl rfl ?_
  refine g_get (v := .int (M.1 7 1)) (q := 4) fg_X8_15_7 rfl dX8_kind_1 rfl ?_
  exact g_iret hz rfl dX8_kind_4 h
set_option maxHeartbeats 4000000 in
set_option maxRecDepth 100000 in
theorem c_X8_ship {E : EX} (hE : EH E) {M : Mem} {Q : Int32 → Mem → Prop} (h : P_Telling_ship  M Q) : CI yX8_ship cX8_ship 1 (some .int) rmX8_ship E [.ref (eA E 7)] M Q := by
  refine CI.of hE (plainFor_of_name (by decide)) (Nat.le_of_ble_eq_true rfl) (fun x hz => ?_)
  unfold P_Telling_ship at h
  show G x E mX8_ship 0 0 0 [(0, .ref (eA E 7))] [] M
  refine g_aloadn (k0 := 0) (q := 1) dX8_ship_0 rfl rfl rfl ?_
  refine g_get (v := .int (M.1 7 2)) (q := 4) fg_X8_19_7 rfl dX8_ship_1 rfl ?_
  exact g_iret hz rfl dX8_ship_4 h
set_option maxHeartbeats 4000000 in
set_option maxRecDepth 100000 in
theorem c_X8_number {E : EX} (hE : EH E) {a1 : Int32} {M : Mem} {Q : Int32 → Mem → Prop} (h : P_Telling_number a1 M Q) : CI yX8_number cX8_number 2 (some .int) rmX8_number E [.ref (eA E 7), .int a1] M Q := by
  refine CI.of hE (plainFor_of_name (by decide)) (Nat.le_of_ble_eq_true rfl) (fun x hz => ?_)
  unfold P_Telling_number at h
  show G x E mX8_number 0 0 0 [(0, .ref (eA E 7)), (1, .int a1)] [] M
  refine g_iloadn (k0 := 1) (q := 1) dX8_number_0 rfl rfl rfl ?_
  refine g_if_lt (tgt := 18) (q := 4) dX8_number_1 rfl rfl (fun hc3 => ?_) (fun hc3 => ?_)
  · replace h := h.1 hc3
    refine g_iconst (q := 19) dX8_number_18 ki_m1 rfl ?_
    exact g_iret hz rfl dX8_number_19 h
  · replace h := h.2 hc3
    refine g_iloadn (k0 := 1) (q := 5) dX8_number_4 rfl rfl rfl ?_
    refine g_iconst (q := 6) dX8_number_5 ki_4 rfl ?_
    refine g_ic_ge (tgt := 18) (q := 9) dX8_number_6 rfl rfl (fun hc2 => ?_) (fun hc2 => ?_)
    · replace h := h.1 hc2
      refine g_iconst (q := 19) dX8_number_18 ki_m1 rfl ?_
      exact g_iret hz rfl dX8_number_19 h
    · replace h := h.2 hc2
      refine g_aloadn (k0 := 0) (q := 10) dX8_number_9 rfl rfl rfl ?_
      refine g_get (v := .ref (eA E 8)) (q := 13) fg_X8_11_7 rfl dX8_number_10 rfl ?_
      refine g_iloadn (k0 := 1) (q := 14) dX8_number_13 rfl rfl rfl ?_
      have hv1 := h.1
      replace h := h.2
      refine g_iald (v := (M.1 8 a1.toNatClampNeg)) (q := 15) ar_8 hv1 rfl dX8_number_14 rfl ?_
      refine g_goto (tgt := 19) dX8_number_15 rfl ?_
      exact g_iret hz rfl dX8_number_19 h
