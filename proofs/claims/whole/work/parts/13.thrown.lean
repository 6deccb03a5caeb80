set_option maxHeartbeats 4000000 in
set_option maxRecDepth 100000 in
theorem g_X0_laterOf_4 {x : GX} {E : EX} (hE : EH E) {Q : Int32 → Mem → Prop} (hz : ZI x E Q) : ∀ (n : Nat) (v1 : Int32) (v2 : Int32) (v3 : Int32) (M : Mem), P_ClashBook_laterOf_4 Q n v1 v2 v3 M → G x E mX0_laterOf 0 0 4 [(0, .ref (eA E 13)), (1, .int v1), (2, .int v2), (3, .int v3)] [] M := by
  intro n
  induction n with
  | zero => intro _ _ _ _ h; exact h.elim
  | succ n ih =>
    intro v1 v2 v3 M h
    unfold P_ClashBook_laterOf_4 at h
    refine g_iloadn (k0 := 3) (q := 5) dX0_laterOf_4 rfl rfl rfl ?_
    refine g_sipush (q := 8) dX0_laterOf_5 ks_200 rfl ?_
    refine g_ic_ge (tgt := 33) (q := 11) dX0_laterOf_8 rfl rfl (fun hc3 => ?_) (fun hc3 => ?_)
    · replace h := h.1 hc3
      refine g_iconst (q := 34) dX0_laterOf_33 ki_m1 rfl ?_
      exact g_iret hz rfl dX0_laterOf_34 h
    · replace h := h.2 hc3
      refine g_iloadn (k0 := 2) (q := 12) dX0_laterOf_11 rfl rfl rfl ?_
      refine g_aloadn (k0 := 0) (q := 13) dX0_laterOf_12 rfl rfl rfl ?_
      refine g_get (v := .ref (eA E 14)) (q := 16) fg_X0_11_13 rfl dX0_laterOf_13 rfl ?_
      refine g_iloadn (k0 := 3) (q := 17) dX0_laterOf_16 rfl rfl rfl ?_
      have hv1 := h.1
      replace h := h.2
      refine g_iald (v := (M.1 14 v3.toNatClampNeg)) (q := 18) ar_14 hv1 rfl dX0_laterOf_17 rfl ?_
      refine g_iadd (q := 19) dX0_laterOf_18 rfl ?_
      refine g_istoren (lv' := [(0, .ref (eA E 13)), (1, .int v1), (2, .int (v2 + (M.1 14 v3.toNatClampNeg))), (3, .int v3)]) (q := 20) [1, 2, 0, 3] dX0_laterOf_19 rfl (by decide) rfl rfl ?_
      refine g_iloadn (k0 := 2) (q := 21) dX0_laterOf_20 rfl rfl rfl ?_
      refine g_iloadn (k0 := 1) (q := 22) dX0_laterOf_21 rfl rfl rfl ?_
      refine g_ic_le (tgt := 27) (q := 25) dX0_laterOf_22 rfl rfl (fun hc2 => ?_) (fun hc2 => ?_)
      · replace h := h.1 hc2
        refine g_iinc (lv' := [(0, .ref (eA E 13)), (1, .int v1), (2, .int (v2 + (M.1 14 v3.toNatClampNeg))), (3, .int (v3 + 1))]) (k0 := 3) (w := (v3 + 1)) (q := 30) [1, 2, 3, 0] dX0_laterOf_27 rfl rfl (by decide) rfl rfl ?_
        refine g_goto (tgt := 4) dX0_laterOf_30 rfl ?_
        exact ih _ _ _ _ h
      · replace h := h.2 hc2
        refine g_iloadn (k0 := 3) (q := 26) dX0_laterOf_25 rfl rfl rfl ?_
        exact g_iret hz rfl dX0_laterOf_26 h
set_option maxHeartbeats 4000000 in
set_option maxRecDepth 100000 in
theorem c_X0_laterOf {E : EX} (hE : EH E) {a1 : Int32} {M : Mem} {Q : Int32 → Mem → Prop} (h : P_ClashBook_laterOf a1 M Q) : CI yX0_laterOf cX0_laterOf 4 (some .int) rmX0_laterOf E [.ref (eA E 13), .int a1] M Q := by
  refine CI.of hE (plainFor_of_name (by decide)) (Nat.le_of_ble_eq_true rfl) (fun x hz => ?_)
  unfold P_ClashBook_laterOf at h
  show G x E mX0_laterOf 0 0 0 [(0, .ref (eA E 13)), (1, .int a1)] [] M
  refine g_iconst (q := 1) dX0_laterOf_0 ki_0 rfl ?_
  refine g_istoren (lv' := [(0, .ref (eA E 13)), (1, .int a1), (2, .int 0)]) (q := 2) [1, 2, 0] dX0_laterOf_1 rfl (by decide) rfl rfl ?_
  refine g_iconst (q := 3) dX0_laterOf_2 ki_0 rfl ?_
  refine g_istoren (lv' := [(0, .ref (eA E 13)), (1, .int a1), (2, .int 0), (3, .int 0)]) (q := 4) [1, 2, 3, 0] dX0_laterOf_3 rfl (by decide) rfl rfl ?_
  obtain ⟨n1, h⟩ := h
  exact g_X0_laterOf_4 hE hz n1 _ _ _ _ h
set_option maxHeartbeats 4000000 in
set_option maxRecDepth 100000 in
theorem g_X0_earlierOf_41 {x : GX} {E : EX} (hE : EH E) {Q : Int32 → Mem → Prop} (hz : ZI x E Q) : ∀ (n : Nat) (v3 : Int32) (v4 : Int32) (v5 : Int32) (M : Mem), P_ClashBook_earlierOf_41 Q n v3 v4 v5 M → G x E mX0_earlierOf 0 0 41 [(1, .ref (eA E 11)), (3, .int v3), (4, .int v4), (5, .int v5)] [] M := by
  intro n
  induction n with
  | zero => intro _ _ _ _ h; exact h.elim
  | succ n ih =>
    intro v3 v4 v5 M h
    unfold P_ClashBook_earlierOf_41 at h
    refine g_iload (k0 := 3) (q := 43) dX0_earlierOf_41 rfl rfl ?_
    refine g_iloadn (k0 := 1) (q := 44) dX0_earlierOf_43 rfl rfl rfl ?_
    refine g_ic_ge (tgt := 74) (q := 47) dX0_earlierOf_44 rfl rfl (fun hc5 => ?_) (fun hc5 => ?_)
    · replace h := h.1 hc5
      refine g_iconst (q := 75) dX0_earlierOf_74 ki_m1 rfl ?_
      exact g_iret hz rfl dX0_earlierOf_75 h
    · replace h := h.2 hc5
      refine g_aloadn (k0 := 0) (q := 48) dX0_earlierOf_47 rfl rfl rfl ?_
      refine g_iloadn (k0 := 1) (q := 49) dX0_earlierOf_48 rfl rfl rfl ?_
      refine g_iload (k0 := 3) (q := 51) dX0_earlierOf_49 rfl rfl ?_
      refine g_scalli (q := 54) [.ref (eA E 11), .int v3, .int v5] [] cs_X0_21 (c_X0_doClash hE h) rfl rfl ⟨rfl, rfl, Nat.le_of_ble_eq_true rfl, Nat.le_of_ble_eq_true rfl, Nat.zero_le _, Nat.zero_le _⟩ (Nat.le_of_ble_eq_true rfl) dX0_earlierOf_51 rfl (fun r2 M1 h => ?_)
      obtain ⟨hb_r2, h⟩ := h
      refine g_if_eq (tgt := 68) (q := 57) dX0_earlierOf_54 rfl rfl (fun hc4 => ?_) (fun hc4 => ?_)
      · replace h := h.1 hc4
        refine g_iinc (lv' := [(1, .ref (eA E 11)), (3, .int v3), (4, .int v4), (5, .int (v5 + 1))]) (k0 := 3) (w := (v5 + 1)) (q := 71) [1, 2, 3, 0] dX0_earlierOf_68 rfl rfl (by decide) rfl rfl ?_
        refine g_goto (tgt := 41) dX0_earlierOf_71 rfl ?_
        exact ih _ _ _ _ h
      · replace h := h.2 hc4
        refine g_iload (k0 := 2) (q := 59) dX0_earlierOf_57 rfl rfl ?_
        refine g_if_ne (tgt := 65) (q := 62) dX0_earlierOf_59 rfl rfl (fun hc3 => ?_) (fun hc3 => ?_)
        · replace h := h.1 hc3
          refine g_iinc (lv' := [(1, .ref (eA E 11)), (3, .int v3), (4, .int (v4 + (-1))), (5, .int v5)]) (k0 := 2) (w := (v4 + (-1))) (q := 68) [1, 2, 0, 3] dX0_earlierOf_65 rfl rfl (by decide) rfl rfl ?_
          refine g_iinc (lv' := [(1, .ref (eA E 11)), (3, .int v3), (4, .int (v4 + (-1))), (5, .int (v5 + 1))]) (k0 := 3) (w := (v5 + 1)) (q := 71) [1, 2, 3, 0] dX0_earlierOf_68 rfl rfl (by decide) rfl rfl ?_
          refine g_goto (tgt := 41) dX0_earlierOf_71 rfl ?_
          exact ih _ _ _ _ h
        · replace h := h.2 hc3
          refine g_iload (k0 := 3) (q := 64) dX0_earlierOf_62 rfl rfl ?_
          exact g_iret hz rfl dX0_earlierOf_64 h
set_option maxHeartbeats 4000000 in
set_option maxRecDepth 100000 in
theorem g_X0_earlierOf_6 {x : GX} {E : EX} (hE : EH E) {Q : Int32 → Mem → Prop} (hz : ZI x E Q) : ∀ (n : Nat) (v3 : Int32) (v4 : Int32) (v5 : Int32) (M : Mem), P_ClashBook_earlierOf_6 Q n v3 v4 v5 M → G x E mX0_earlierOf 0 0 6 [(0, .ref (eA E 13)), (1, .ref (eA E 11)), (3, .int v3), (4, .int v4), (5, .int v5)] [] M := by
  intro n
  induction n with
  | zero => intro _ _ _ _ h; exact h.elim
  | succ n ih =>
    intro v3 v4 v5 M h
    unfold P_ClashBook_earlierOf_6 at h
    refine g_iload (k0 := 4) (q := 8) dX0_earlierOf_6 rfl rfl ?_
    refine g_iloadn (k0 := 2) (q := 9) dX0_earlierOf_8 rfl rfl rfl ?_
    refine g_ic_ge (tgt := 38) (q := 12) dX0_earlierOf_9 rfl rfl (fun hc10 => ?_) (fun hc10 => ?_)
    · replace h := h.1 hc10
      refine g_iconst (q := 39) dX0_earlierOf_38 ki_0 rfl ?_
      refine g_istore (lv' := [(0, .ref (eA E 13)), (1, .ref (eA E 11)), (3, .int v3), (4, .int v4), (5, .int 0)]) (q := 41) [1, 2, 3, 4, 0] dX0_earlierOf_39 (by decide) rfl rfl ?_
      refine g_lv (lv' := [(1, .ref (eA E 11)), (3, .int v3), (4, .int v4), (5, .int 0)]) [1, 2, 3, 4] rfl ?_
      obtain ⟨n1, h⟩ := h
      exact g_X0_earlierOf_41 hE hz n1 _ _ _ _ h
    · replace h := h.2 hc10
      refine g_iload (k0 := 4) (q := 14) dX0_earlierOf_12 rfl rfl ?_
      refine g_sipush (q := 17) dX0_earlierOf_14 ks_200 rfl ?_
      refine g_ic_ge (tgt := 38) (q := 20) dX0_earlierOf_17 rfl rfl (fun hc9 => ?_) (fun hc9 => ?_)
      · replace h := h.1 hc9
        refine g_iconst (q := 39) dX0_earlierOf_38 ki_0 rfl ?_
        refine g_istore (lv' := [(0, .ref (eA E 13)), (1, .ref (eA E 11)), (3, .int v3), (4, .int v4), (5, .int 0)]) (q := 41) [1, 2, 3, 4, 0] dX0_earlierOf_39 (by decide) rfl rfl ?_
        refine g_lv (lv' := [(1, .ref (eA E 11)), (3, .int v3), (4, .int v4), (5, .int 0)]) [1, 2, 3, 4] rfl ?_
        obtain ⟨n1, h⟩ := h
        exact g_X0_earlierOf_41 hE hz n1 _ _ _ _ h
      · replace h := h.2 hc9
        refine g_iload (k0 := 3) (q := 22) dX0_earlierOf_20 rfl rfl ?_
        refine g_aloadn (k0 := 0) (q := 23) dX0_earlierOf_22 rfl rfl rfl ?_
        refine g_get (v := .ref (eA E 14)) (q := 26) fg_X0_11_13 rfl dX0_earlierOf_23 rfl ?_
        refine g_iload (k0 := 4) (q := 28) dX0_earlierOf_26 rfl rfl ?_
        have hv8 := h.1
        replace h := h.2
        refine g_iald (v := (M.1 14 v5.toNatClampNeg)) (q := 29) ar_14 hv8 rfl dX0_earlierOf_28 rfl ?_
        refine g_isub (q := 30) dX0_earlierOf_29 rfl ?_
        refine g_istore (lv' := [(0, .ref (eA E 13)), (1, .ref (eA E 11)), (3, .int v3), (4, .int (v4 - (M.1 14 v5.toNatClampNeg))), (5, .int v5)]) (q := 32) [1, 2, 3, 0, 4] dX0_earlierOf_30 (by decide) rfl rfl ?_
        refine g_iinc (lv' := [(0, .ref (eA E 13)), (1, .ref (eA E 11)), (3, .int v3), (4, .int (v4 - (M.1 14 v5.toNatClampNeg))), (5, .int (v5 + 1))]) (k0 := 4) (w := (v5 + 1)) (q := 35) [1, 2, 3, 4, 0] dX0_earlierOf_32 rfl rfl (by decide) rfl rfl ?_
        refine g_goto (tgt := 6) dX0_earlierOf_35 rfl ?_
        exact ih _ _ _ _ h
set_option maxHeartbeats 4000000 in
set_option maxRecDepth 100000 in
theorem c_X0_earlierOf {E : EX} (hE : EH E) {a2 : Int32} {a3 : Int32} {M : Mem} {Q : Int32 → Mem → Prop} (h : P_ClashBook_earlierOf a2 a3 M Q) : CI yX0_earlierOf cX0_earlierOf 6 (some .int) rmX0_earlierOf E [.ref (eA E 13), .ref (eA E 11), .int a2, .int a3] M Q := by
  refine CI.of hE (plainFor_of_name (by decide)) (Nat.le_of_ble_eq_true rfl) (fun x hz => ?_)
  unfold P_ClashBook_earlierOf at h
  show G x E mX0_earlierOf 0 0 0 [(0, .ref (eA E 13)), (1, .ref (eA E 11)), (2, .int a2), (3, .int a3)] [] M
  refine g_iloadn (k0 := 2) (q := 1) dX0_earlierOf_0 rfl rfl rfl ?_
  refine g_istore (lv' := [(0, .ref (eA E 13)), (1, .ref (eA E 11)), (2, .int a2), (3, .int a3), (4, .int a2)]) (q := 3) [1, 2, 3, 4, 0] dX0_earlierOf_1 (by decide) rfl rfl ?_
  refine g_iconst (q := 4) dX0_earlierOf_3 ki_0 rfl ?_
  refine g_istore (lv' := [(0, .ref (eA E 13)), (1, .ref (eA E 11)), (2, .int a2), (3, .int a3), (4, .int a2), (5, .int 0)]) (q := 6) [1, 2, 3, 4, 5, 0] dX0_earlierOf_4 (by decide) rfl rfl ?_
  refine g_lv (lv' := [(0, .ref (eA E 13)), (1, .ref (eA E 11)), (3, .int a3), (4, .int a2), (5, .int 0)]) [0, 1, 3, 4, 5] rfl ?_
  obtain ⟨n1, h⟩ := h
  exact g_X0_earlierOf_6 hE hz n1 _ _ _ _ h
set_option maxHeartbeats 4000000 in
set_option maxRecDepth 100000 in
theorem c_X10_clash {E : EX} (hE : EH E) {a1 : Int32} {a2 : Int32} {M : Mem} {Q : Int32 → Mem → Prop} {QX : Mem → Prop} (h : P_Sv_clash a1 a2 M Q QX) : CX yX10_clash cX10_clash 4 (some .int) rmX10_clash E [.ref (eA E 0), .int a1, .int a2] M Q QX := by
  refine CX.of hE (by decide) (Nat.le_of_ble_eq_true rfl) (fun x hz => ?_)
  unfold P_Sv_clash at h
  show G x E mX10_clash 0 0 0 [(0, .ref (eA E 0)), (1, .int a1), (2, .int a2)] [] M
  refine g_iloadn (k0 := 1) (q := 1) dX10_clash_0 rfl rfl rfl ?_
  refine g_if_lt (tgt := 24) (q := 4) dX10_clash_1 rfl rfl (fun hc11 => ?_) (fun hc11 => ?_)
  · replace h := h.1 hc11
    exact g_throw hz rfl (fun U hU => hU.2.2.2.2.2.2.1) dX10_clash_24 dX10_clash_27 dX10_clash_28 dX10_clash_30 dX10_clash_33 (by decide) h
  · replace h := h.2 hc11
    refine g_iloadn (k0 := 1) (q := 5) dX10_clash_4 rfl rfl rfl ?_
    refine g_aloadn (k0 := 0) (q := 6) dX10_clash_5 rfl rfl rfl ?_
    refine g_get (v := .ref (eA E 13)) (q := 9) fg_X10_50_0 rfl dX10_clash_6 rfl ?_
    refine g_calli (q := 12) [] [.int a1] cv_X10_154 rc_13 (c_X0_total hE h) rfl rfl ⟨rfl, rfl, Nat.le_of_ble_eq_true rfl, Nat.le_of_ble_eq_true rfl, Nat.zero_le _, Nat.zero_le _⟩ (Nat.le_of_ble_eq_true rfl) dX10_clash_9 rfl (fun r2 M1 h => ?_)
    refine g_ic_ge (tgt := 24) (q := 15) dX10_clash_12 rfl rfl (fun hc10 => ?_) (fun hc10 => ?_)
    · replace h := h.1 hc10
      exact g_throw hz rfl (fun U hU => hU.2.2.2.2.2.2.1) dX10_clash_24 dX10_clash_27 dX10_clash_28 dX10_clash_30 dX10_clash_33 (by decide) h
    · replace h := h.2 hc10
      refine g_iloadn (k0 := 2) (q := 16) dX10_clash_15 rfl rfl rfl ?_
      refine g_if_lt (tgt := 24) (q := 19) dX10_clash_16 rfl rfl (fun hc9 => ?_) (fun hc9 => ?_)
      · replace h := h.1 hc9
        exact g_throw hz rfl (fun U hU => hU.2.2.2.2.2.2.1) dX10_clash_24 dX10_clash_27 dX10_clash_28 dX10_clash_30 dX10_clash_33 (by decide) h
      · replace h := h.2 hc9
        refine g_iloadn (k0 := 2) (q := 20) dX10_clash_19 rfl rfl rfl ?_
        refine g_iconst (q := 21) dX10_clash_20 ki_1 rfl ?_
        refine g_ic_le (tgt := 34) (q := 24) dX10_clash_21 rfl rfl (fun hc8 => ?_) (fun hc8 => ?_)
        · replace h := h.1 hc8
          refine g_aloadn (k0 := 0) (q := 35) dX10_clash_34 rfl rfl rfl ?_
          refine g_get (v := .ref (eA E 13)) (q := 38) fg_X10_50_0 rfl dX10_clash_35 rfl ?_
          refine g_iloadn (k0 := 1) (q := 39) dX10_clash_38 rfl rfl rfl ?_
          refine g_calli (q := 42) [.int a1] [] cv_X10_159 rc_13 (c_X0_laterOf hE h) rfl rfl ⟨rfl, rfl, Nat.le_of_ble_eq_true rfl, Nat.le_of_ble_eq_true rfl, Nat.zero_le _, Nat.zero_le _⟩ (Nat.le_of_ble_eq_true rfl) dX10_clash_39 rfl (fun r4 M3 h => ?_)
          refine g_istoren (lv' := [(0, .ref (eA E 0)), (1, .int a1), (2, .int a2), (3, .int r4)]) (q := 43) [1, 2, 3, 0] dX10_clash_42 rfl (by decide) rfl rfl ?_
          refine g_iloadn (k0 := 2) (q := 44) dX10_clash_43 rfl rfl rfl ?_
          refine g_if_ne (tgt := 51) (q := 47) dX10_clash_44 rfl rfl (fun hc7 => ?_) (fun hc7 => ?_)
          · replace h := h.1 hc7
            refine g_aloadn (k0 := 0) (q := 52) dX10_clash_51 rfl rfl rfl ?_
            refine g_get (v := .ref (eA E 13)) (q := 55) fg_X10_50_0 rfl dX10_clash_52 rfl ?_
            refine g_aloadn (k0 := 0) (q := 56) dX10_clash_55 rfl rfl rfl ?_
            refine g_get (v := .ref (eA E 11)) (q := 59) fg_X10_43_0 rfl dX10_clash_56 rfl ?_
            refine g_iloadn (k0 := 1) (q := 60) dX10_clash_59 rfl rfl rfl ?_
            refine g_iloadn (k0 := 3) (q := 61) dX10_clash_60 rfl rfl rfl ?_
            refine g_calli (q := 64) [.ref (eA E 11), .int a1, .int r4] [] cv_X10_162 rc_13 (c_X0_earlierOf hE h) rfl rfl ⟨rfl, rfl, Nat.le_of_ble_eq_true rfl, Nat.le_of_ble_eq_true rfl, Nat.zero_le _, Nat.zero_le _⟩ (Nat.le_of_ble_eq_true rfl) dX10_clash_61 rfl (fun r6 M5 h => ?_)
            exact g_iretX hz rfl dX10_clash_64 h
          · replace h := h.2 hc7
            refine g_iloadn (k0 := 3) (q := 48) dX10_clash_47 rfl rfl rfl ?_
            refine g_goto (tgt := 64) dX10_clash_48 rfl ?_
            exact g_iretX hz rfl dX10_clash_64 h
        · replace h := h.2 hc8
          exact g_throw hz rfl (fun U hU => hU.2.2.2.2.2.2.1) dX10_clash_24 dX10_clash_27 dX10_clash_28 dX10_clash_30 dX10_clash_33 (by decide) h
set_option maxHeartbeats 4000000 in
set_option maxRecDepth 100000 in
theorem c_X9_wholeWith {E : EX} (hE : EH E) {a1 : Int32} {M : Mem} {Q : Int32 → Mem → Prop} (h : P_TextBook_wholeWith a1 M Q) : CI yX9_wholeWith cX9_wholeWith 2 (some .int) rmX9_wholeWith E [.ref (eA E 15), .int a1] M Q := by
  refine CI.of hE (plainFor_of_name (by decide)) (Nat.le_of_ble_eq_true rfl) (fun x hz => ?_)
  unfold P_TextBook_wholeWith at h
  show G x E mX9_wholeWith 0 0 0 [(0, .ref (eA E 15)), (1, .int a1)] [] M
  refine g_iloadn (k0 := 1) (q := 1) dX9_wholeWith_0 rfl rfl rfl ?_
  refine g_if_lt (tgt := 27) (q := 4) dX9_wholeWith_1 rfl rfl (fun hc4 => ?_) (fun hc4 => ?_)
  · replace h := h.1 hc4
    refine g_iconst (q := 28) dX9_wholeWith_27 ki_m1 rfl ?_
    exact g_iret hz rfl dX9_wholeWith_28 h
  · replace h := h.2 hc4
    refine g_iloadn (k0 := 1) (q := 5) dX9_wholeWith_4 rfl rfl rfl ?_
    refine g_aloadn (k0 := 0) (q := 6) dX9_wholeWith_5 rfl rfl rfl ?_
    refine g_get (v := .int (M.1 15 4)) (q := 9) fg_X9_29_15 rfl dX9_wholeWith_6 rfl ?_
    refine g_ic_ge (tgt := 27) (q := 12) dX9_wholeWith_9 rfl rfl (fun hc3 => ?_) (fun hc3 => ?_)
    · replace h := h.1 hc3
      refine g_iconst (q := 28) dX9_wholeWith_27 ki_m1 rfl ?_
      exact g_iret hz rfl dX9_wholeWith_28 h
    · replace h := h.2 hc3
      refine g_iloadn (k0 := 1) (q := 13) dX9_wholeWith_12 rfl rfl rfl ?_
      refine g_bipush (q := 15) dX9_wholeWith_13 kb_100 rfl ?_
      refine g_ic_ge (tgt := 27) (q := 18) dX9_wholeWith_15 rfl rfl (fun hc2 => ?_) (fun hc2 => ?_)
      · replace h := h.1 hc2
        refine g_iconst (q := 28) dX9_wholeWith_27 ki_m1 rfl ?_
        exact g_iret hz rfl dX9_wholeWith_28 h
      · replace h := h.2 hc2
        refine g_aloadn (k0 := 0) (q := 19) dX9_wholeWith_18 rfl rfl rfl ?_
        refine g_get (v := .ref (eA E 18)) (q := 22) fg_X9_23_15 rfl dX9_wholeWith_19 rfl ?_
        refine g_iloadn (k0 := 1) (q := 23) dX9_wholeWith_22 rfl rfl rfl ?_
        have hv1 := h.1
        replace h := h.2
        refine g_iald (v := (M.1 18 a1.toNatClampNeg)) (q := 24) ar_18 hv1 rfl dX9_wholeWith_23 rfl ?_
        refine g_goto (tgt := 28) dX9_wholeWith_24 rfl ?_
        exact g_iret hz rfl dX9_wholeWith_28 h
set_option maxHeartbeats 4000000 in
set_option maxRecDepth 100000 in
theorem c_X9_lettersIn {E : EX} (hE : EH E) {a2 : Int32} {M : Mem} {Q : Int32 → Mem → Prop} (h : P_TextBook_lettersIn a2 M Q) : CI yX9_lettersIn cX9_lettersIn 3 (some .int) rmX9_lettersIn E [.ref (eA E 15), .ref (eA E 11), .int a2] M Q := by
  refine CI.of hE (plainFor_of_name (by decide)) (Nat.le_of_ble_eq_true rfl) (fun x hz => ?_)
  unfold P_TextBook_lettersIn at h
  show G x E mX9_lettersIn 0 0 0 [(0, .ref (eA E 15)), (1, .ref (eA E 11)), (2, .int a2)] [] M
  refine g_aloadn (k0 := 1) (q := 1) dX9_lettersIn_0 rfl rfl rfl ?_
  refine g_aloadn (k0 := 0) (q := 2) dX9_lettersIn_1 rfl rfl rfl ?_
  refine g_iloadn (k0 := 2) (q := 3) dX9_lettersIn_2 rfl rfl rfl ?_
  refine g_calli (q := 6) [.int a2] [.ref (eA E 11)] cv_X9_33 rc_15 (c_X9_wholeWith hE h) rfl rfl ⟨rfl, rfl, Nat.le_of_ble_eq_true rfl, Nat.le_of_ble_eq_true rfl, Nat.zero_le _, Nat.zero_le _⟩ (Nat.le_of_ble_eq_true rfl) dX9_lettersIn_3 rfl (fun r2 M1 h => ?_)
  refine g_bipush (q := 8) dX9_lettersIn_6 kb_6 rfl ?_
  refine g_calli (q := 11) [.int r2, .int 6] [] cv_X9_37 rc_11 (c_X2_cell hE h) rfl rfl ⟨rfl, rfl, Nat.le_of_ble_eq_true rfl, Nat.le_of_ble_eq_true rfl, Nat.zero_le _, Nat.zero_le _⟩ (Nat.le_of_ble_eq_true rfl) dX9_lettersIn_8 rfl (fun r4 M3 h => ?_)
  refine g_iconst (q := 12) dX9_lettersIn_11 ki_4 rfl ?_
  refine g_imul (q := 13) dX9_lettersIn_12 rfl ?_
  exact g_iret hz rfl dX9_lettersIn_13 h
set_option maxHeartbeats 4000000 in
set_option maxRecDepth 100000 in
theorem c_X9_letterOf {E : EX} (hE : EH E) {a2 : Int32} {a3 : Int32} {M : Mem} {Q : Int32 → Mem → Prop} (h : P_TextBook_letterOf a2 a3 M Q) : CI yX9_letterOf cX9_letterOf 6 (some .int) rmX9_letterOf E [.ref (eA E 15), .ref (eA E 11), .int a2, .int a3] M Q := by
  refine CI.of hE (plainFor_of_name (by decide)) (Nat.le_of_ble_eq_true rfl) (fun x hz => ?_)
  unfold P_TextBook_letterOf at h
  show G x E mX9_letterOf 0 0 0 [(0, .ref (eA E 15)), (1, .ref (eA E 11)), (2, .int a2), (3, .int a3)] [] M
  refine g_iloadn (k0 := 2) (q := 1) dX9_letterOf_0 rfl rfl rfl ?_
  refine g_iconst (q := 2) dX9_letterOf_1 ki_5 rfl ?_
  refine g_imul (q := 3) dX9_letterOf_2 rfl ?_
  refine g_iloadn (k0 := 3) (q := 4) dX9_letterOf_3 rfl rfl rfl ?_
  refine g_iconst (q := 5) dX9_letterOf_4 ki_4 rfl ?_
  refine g_idiv (q := 6) dX9_letterOf_5 (by decide) rfl ?_
  refine g_iadd (q := 7) dX9_letterOf_6 rfl ?_
  refine g_istore (lv' := [(0, .ref (eA E 15)), (1, .ref (eA E 11)), (2, .int a2), (3, .int a3), (4, .int ((a2 * 5) + (a3 / 4)))]) (q := 9) [1, 2, 3, 4, 0] dX9_letterOf_7 (by decide) rfl rfl ?_
  refine g_iloadn (k0 := 3) (q := 10) dX9_letterOf_9 rfl rfl rfl ?_
  refine g_if_lt (tgt := 28) (q := 13) dX9_letterOf_10 rfl rfl (fun hc6 => ?_) (fun hc6 => ?_)
  · replace h := h.1 hc6
    refine g_iconst (q := 29) dX9_letterOf_28 ki_m1 rfl ?_
    exact g_iret hz rfl dX9_letterOf_29 h
  · replace h := h.2 hc6
    refine g_iload (k0 := 4) (q := 15) dX9_letterOf_13 rfl rfl ?_
    refine g_if_lt (tgt := 28) (q := 18) dX9_letterOf_15 rfl rfl (fun hc5 => ?_) (fun hc5 => ?_)
    · replace h := h.1 hc5
      refine g_iconst (q := 29) dX9_letterOf_28 ki_m1 rfl ?_
      exact g_iret hz rfl dX9_letterOf_29 h
    · replace h := h.2 hc5
      refine g_iload (k0 := 4) (q := 20) dX9_letterOf_18 rfl rfl ?_
      refine g_aloadn (k0 := 0) (q := 21) dX9_letterOf_20 rfl rfl rfl ?_
      refine g_get (v := .ref (eA E 17)) (q := 24) fg_X9_19_15 rfl dX9_letterOf_21 rfl ?_
      refine g_alen (q := 25) ar_17 (by decide) rfl dX9_letterOf_24 rfl ?_
      refine g_ic_lt (tgt := 30) (q := 28) dX9_letterOf_25 rfl rfl (fun hc4 => ?_) (fun hc4 => ?_)
      · replace h := h.1 hc4
        refine g_iconst (q := 31) dX9_letterOf_30 ki_3 rfl ?_
        refine g_iloadn (k0 := 3) (q := 32) dX9_letterOf_31 rfl rfl rfl ?_
        refine g_iconst (q := 33) dX9_letterOf_32 ki_4 rfl ?_
        refine g_irem (q := 34) dX9_letterOf_33 (by decide) rfl ?_
        refine g_isub (q := 35) dX9_letterOf_34 rfl ?_
        refine g_istore (lv' := [(0, .ref (eA E 15)), (1, .ref (eA E 11)), (2, .int a2), (3, .int a3), (4, .int ((a2 * 5) + (a3 / 4))), (5, .int (3 - (a3 - a3 / 4 * 4)))]) (q := 37) [1, 2, 3, 4, 5, 0] dX9_letterOf_35 (by decide) rfl rfl ?_
        refine g_aloadn (k0 := 1) (q := 38) dX9_letterOf_37 rfl rfl rfl ?_
        refine g_aloadn (k0 := 0) (q := 39) dX9_letterOf_38 rfl rfl rfl ?_
        refine g_get (v := .ref (eA E 17)) (q := 42) fg_X9_19_15 rfl dX9_letterOf_39 rfl ?_
        refine g_iload (k0 := 4) (q := 44) dX9_letterOf_42 rfl rfl ?_
        have hv1 := h.1
        replace h := h.2
        refine g_iald (v := (M.1 17 (((a2 * 5) + (a3 / 4))).toNatClampNeg)) (q := 45) ar_17 hv1 rfl dX9_letterOf_44 rfl ?_
        refine g_bipush (q := 47) dX9_letterOf_45 kb_7 rfl ?_
        refine g_calli (q := 50) [.int (M.1 17 (((a2 * 5) + (a3 / 4))).toNatClampNeg), .int 7] [] cv_X9_37 rc_11 (c_X2_cell hE h) rfl rfl ⟨rfl, rfl, Nat.le_of_ble_eq_true rfl, Nat.le_of_ble_eq_true rfl, Nat.zero_le _, Nat.zero_le _⟩ (Nat.le_of_ble_eq_true rfl) dX9_letterOf_47 rfl (fun r3 M2 h => ?_)
        refine g_iload (k0 := 5) (q := 52) dX9_letterOf_50 rfl rfl ?_
        refine g_iconst (q := 53) dX9_letterOf_52 ki_5 rfl ?_
        refine g_imul (q := 54) dX9_letterOf_53 rfl ?_
        refine g_ishr (q := 55) dX9_letterOf_54 rfl ?_
        refine g_bipush (q := 57) dX9_letterOf_55 kb_31 rfl ?_
        refine g_iand (q := 58) dX9_letterOf_57 rfl ?_
        exact g_iret hz rfl dX9_letterOf_58 h
      · replace h := h.2 hc4
        refine g_iconst (q := 29) dX9_letterOf_28 ki_m1 rfl ?_
        exact g_iret hz rfl dX9_letterOf_29 h
set_option maxHeartbeats 4000000 in
set_option maxRecDepth 100000 in
theorem c_X10_letter {E : EX} (hE : EH E) {a1 : Int32} {a2 : Int32} {M : Mem} {Q : Int32 → Mem → Prop} {QX : Mem → Prop} (h : P_Sv_letter a1 a2 M Q QX) : CX yX10_letter cX10_letter 3 (some .int) rmX10_letter E [.ref (eA E 0), .int a1, .int a2] M Q QX := by
  refine CX.of hE (by decide) (Nat.le_of_ble_eq_true rfl) (fun x hz => ?_)
  unfold P_Sv_letter at h
  show G x E mX10_letter 0 0 0 [(0, .ref (eA E 0)), (1, .int a1), (2, .int a2)] [] M
  refine g_iloadn (k0 := 1) (q := 1) dX10_letter_0 rfl rfl rfl ?_
  refine g_if_lt (tgt := 35) (q := 4) dX10_letter_1 rfl rfl (fun hc10 => ?_) (fun hc10 => ?_)
  · replace h := h.1 hc10
    exact g_throw hz rfl (fun U hU => hU.2.2.2.2.2.2.2.2.1) dX10_letter_35 dX10_letter_38 dX10_letter_39 dX10_letter_41 dX10_letter_44 (by decide) h
  · replace h := h.2 hc10
    refine g_iloadn (k0 := 1) (q := 5) dX10_letter_4 rfl rfl rfl ?_
    refine g_aloadn (k0 := 0) (q := 6) dX10_letter_5 rfl rfl rfl ?_
    refine g_get (v := .ref (eA E 15)) (q := 9) fg_X10_57_0 rfl dX10_letter_6 rfl ?_
    refine g_calli (q := 12) [] [.int a1] cv_X10_165 rc_15 (c_X9_joined hE h) rfl rfl ⟨rfl, rfl, Nat.le_of_ble_eq_true rfl, Nat.le_of_ble_eq_true rfl, Nat.zero_le _, Nat.zero_le _⟩ (Nat.le_of_ble_eq_true rfl) dX10_letter_9 rfl (fun r2 M1 h => ?_)
    refine g_ic_ge (tgt := 35) (q := 15) dX10_letter_12 rfl rfl (fun hc9 => ?_) (fun hc9 => ?_)
    · replace h := h.1 hc9
      exact g_throw hz rfl (fun U hU => hU.2.2.2.2.2.2.2.2.1) dX10_letter_35 dX10_letter_38 dX10_letter_39 dX10_letter_41 dX10_letter_44 (by decide) h
    · replace h := h.2 hc9
      refine g_iloadn (k0 := 2) (q := 16) dX10_letter_15 rfl rfl rfl ?_
      refine g_if_lt (tgt := 35) (q := 19) dX10_letter_16 rfl rfl (fun hc8 => ?_) (fun hc8 => ?_)
      · replace h := h.1 hc8
        exact g_throw hz rfl (fun U hU => hU.2.2.2.2.2.2.2.2.1) dX10_letter_35 dX10_letter_38 dX10_letter_39 dX10_letter_41 dX10_letter_44 (by decide) h
      · replace h := h.2 hc8
        refine g_iloadn (k0 := 2) (q := 20) dX10_letter_19 rfl rfl rfl ?_
        refine g_aloadn (k0 := 0) (q := 21) dX10_letter_20 rfl rfl rfl ?_
        refine g_get (v := .ref (eA E 15)) (q := 24) fg_X10_57_0 rfl dX10_letter_21 rfl ?_
        refine g_aloadn (k0 := 0) (q := 25) dX10_letter_24 rfl rfl rfl ?_
        refine g_get (v := .ref (eA E 11)) (q := 28) fg_X10_43_0 rfl dX10_letter_25 rfl ?_
        refine g_iloadn (k0 := 1) (q := 29) dX10_letter_28 rfl rfl rfl ?_
        refine g_calli (q := 32) [.ref (eA E 11), .int a1] [.int a2] cv_X10_173 rc_15 (c_X9_lettersIn hE h) rfl rfl ⟨rfl, rfl, Nat.le_of_ble_eq_true rfl, Nat.le_of_ble_eq_true rfl, Nat.zero_le _, Nat.zero_le _⟩ (Nat.le_of_ble_eq_true rfl) dX10_letter_29 rfl (fun r4 M3 h => ?_)
        refine g_ic_lt (tgt := 45) (q := 35) dX10_letter_32 rfl rfl (fun hc7 => ?_) (fun hc7 => ?_)
        · replace h := h.1 hc7
          refine g_aloadn (k0 := 0) (q := 46) dX10_letter_45 rfl rfl rfl ?_
          refine g_get (v := .ref (eA E 15)) (q := 49) fg_X10_57_0 rfl dX10_letter_46 rfl ?_
          refine g_aloadn (k0 := 0) (q := 50) dX10_letter_49 rfl rfl rfl ?_
          refine g_get (v := .ref (eA E 11)) (q := 53) fg_X10_43_0 rfl dX10_letter_50 rfl ?_
          refine g_iloadn (k0 := 1) (q := 54) dX10_letter_53 rfl rfl rfl ?_
          refine g_iloadn (k0 := 2) (q := 55) dX10_letter_54 rfl rfl rfl ?_
          refine g_calli (q := 58) [.ref (eA E 11), .int a1, .int a2] [] cv_X10_179 rc_15 (c_X9_letterOf hE h) rfl rfl ⟨rfl, rfl, Nat.le_of_ble_eq_true rfl, Nat.le_of_ble_eq_true rfl, Nat.zero_le _, Nat.zero_le _⟩ (Nat.le_of_ble_eq_true rfl) dX10_letter_55 rfl (fun r6 M5 h => ?_)
          exact g_iretX hz rfl dX10_letter_58 h
        · replace h := h.2 hc7
          exact g_throw hz rfl (fun U hU => hU.2.2.2.2.2.2.2.2.1) dX10_letter_35 dX10_letter_38 dX10_letter_39 dX10_letter_41 dX10_letter_44 (by decide) h
set_option maxHeartbeats 4000000 in
set_option maxRecDepth 100000 in
theorem c_X10_message {E : EX} (hE : EH E) {a1 : Int32} {a2 : Int32} {M : Mem} {Q : Int32 → Mem → Prop} {QX : Mem → Prop} (h : P_Sv_message a1 a2 M Q QX) : CX yX10_message cX10_message 3 (some .int) rmX10_message E [.ref (eA E 0), .int a1, .int a2] M Q QX := by
  refine CX.of hE (by decide) (Nat.le_of_ble_eq_true rfl) (fun x hz => ?_)
  unfold P_Sv_message at h
  show G x E mX10_message 0 0 0 [(0, .ref (eA E 0)), (1, .int a1), (2, .int a2)] [] M
  refine g_aloadn (k0 := 0) (q := 1) dX10_message_0 rfl rfl rfl ?_
  refine g_get (v := .ref (eA E 11)) (q := 4) fg_X10_43_0 rfl dX10_message_1 rfl ?_
  refine g_iloadn (k0 := 1) (q := 5) dX10_message_4 rfl rfl rfl ?_
  refine g_calli (q := 8) [.int a1] [] cv_X10_134 rc_11 (c_X2_has hE h) rfl rfl ⟨rfl, rfl, Nat.le_of_ble_eq_true rfl, Nat.le_of_ble_eq_true rfl, Nat.zero_le _, Nat.zero_le _⟩ (Nat.le_of_ble_eq_true rfl) dX10_message_5 rfl (fun r2 M1 h => ?_)
  obtain ⟨hb_r2, h⟩ := h
  refine g_if_eq (tgt := 21) (q := 11) dX10_message_8 rfl rfl (fun hc7 => ?_) (fun hc7 => ?_)
  · replace h := h.1 hc7
    exact g_throw hz rfl (fun U hU => hU.2.2.2.2.2.1) dX10_message_21 dX10_message_24 dX10_message_25 dX10_message_27 dX10_message_30 (by decide) h
  · replace h := h.2 hc7
    refine g_iloadn (k0 := 2) (q := 12) dX10_message_11 rfl rfl rfl ?_
    refine g_if_lt (tgt := 21) (q := 15) dX10_message_12 rfl rfl (fun hc6 => ?_) (fun hc6 => ?_)
    · replace h := h.1 hc6
      exact g_throw hz rfl (fun U hU => hU.2.2.2.2.2.1) dX10_message_21 dX10_message_24 dX10_message_25 dX10_message_27 dX10_message_30 (by decide) h
    · replace h := h.2 hc6
      refine g_iloadn (k0 := 2) (q := 16) dX10_message_15 rfl rfl rfl ?_
      refine g_bipush (q := 18) dX10_message_16 kb_8 rfl ?_
      refine g_ic_lt (tgt := 31) (q := 21) dX10_message_18 rfl rfl (fun hc5 => ?_) (fun hc5 => ?_)
      · replace h := h.1 hc5
        refine g_aloadn (k0 := 0) (q := 32) dX10_message_31 rfl rfl rfl ?_
        refine g_get (v := .ref (eA E 11)) (q := 35) fg_X10_43_0 rfl dX10_message_32 rfl ?_
        refine g_iloadn (k0 := 1) (q := 36) dX10_message_35 rfl rfl rfl ?_
        refine g_iloadn (k0 := 2) (q := 37) dX10_message_36 rfl rfl rfl ?_
        refine g_calli (q := 40) [.int a1, .int a2] [] cv_X10_139 rc_11 (c_X2_cell hE h) rfl rfl ⟨rfl, rfl, Nat.le_of_ble_eq_true rfl, Nat.le_of_ble_eq_true rfl, Nat.zero_le _, Nat.zero_le _⟩ (Nat.le_of_ble_eq_true rfl) dX10_message_37 rfl (fun r4 M3 h => ?_)
        exact g_iretX hz rfl dX10_message_40 h
      · replace h := h.2 hc5
        exact g_throw hz rfl (fun U hU => hU.2.2.2.2.2.1) dX10_message_21 dX10_message_24 dX10_message_25 dX10_message_27 dX10_message_30 (by decide) h
set_option maxHeartbeats 4000000 in
set_option maxRecDepth 100000 in
theorem c_X6_byteAt {E : EX} (hE : EH E) {a1 : Int32} {M : Mem} {Q : Int32 → Mem → Prop} (h : P_Sender_byteAt a1 M Q) : CI yX6_byteAt cX6_byteAt 2 (some .int) rmX6_byteAt E [.ref (eA E 9), .int a1] M Q := by
  refine CI.of hE (plainFor_of_name (by decide)) (Nat.le_of_ble_eq_true rfl) (fun x hz => ?_)
  unfold P_Sender_byteAt at h
  show G x E mX6_byteAt 0 0 0 [(0, .ref (eA E 9)), (1, .int a1)] [] M
  refine g_iloadn (k0 := 1) (q := 1) dX6_byteAt_0 rfl rfl rfl ?_
  refine g_if_lt (tgt := 31) (q := 4) dX6_byteAt_1 rfl rfl (fun hc6 => ?_) (fun hc6 => ?_)
  · replace h := h.1 hc6
    refine g_iconst (q := 32) dX6_byteAt_31 ki_0 rfl ?_
    exact g_iret hz rfl dX6_byteAt_32 h
  · replace h := h.2 hc6
    refine g_iloadn (k0 := 1) (q := 5) dX6_byteAt_4 rfl rfl rfl ?_
    refine g_aloadn (k0 := 0) (q := 6) dX6_byteAt_5 rfl rfl rfl ?_
    refine g_calli (q := 9) [] [.int a1] cv_X6_29 rc_9 (c_X6_bytes hE h) rfl rfl ⟨rfl, rfl, Nat.le_of_ble_eq_true rfl, Nat.le_of_ble_eq_true rfl, Nat.zero_le _, Nat.zero_le _⟩ (Nat.le_of_ble_eq_true rfl) dX6_byteAt_6 rfl (fun r2 M1 h => ?_)
    refine g_ic_ge (tgt := 31) (q := 12) dX6_byteAt_9 rfl rfl (fun hc5 => ?_) (fun hc5 => ?_)
    · replace h := h.1 hc5
      refine g_iconst (q := 32) dX6_byteAt_31 ki_0 rfl ?_
      exact g_iret hz rfl dX6_byteAt_32 h
    · replace h := h.2 hc5
      refine g_iloadn (k0 := 1) (q := 13) dX6_byteAt_12 rfl rfl rfl ?_
      refine g_bipush (q := 15) dX6_byteAt_13 kb_16 rfl ?_
      refine g_ic_ge (tgt := 31) (q := 18) dX6_byteAt_15 rfl rfl (fun hc4 => ?_) (fun hc4 => ?_)
      · replace h := h.1 hc4
        refine g_iconst (q := 32) dX6_byteAt_31 ki_0 rfl ?_
        exact g_iret hz rfl dX6_byteAt_32 h
      · replace h := h.2 hc4
        refine g_aloadn (k0 := 0) (q := 19) dX6_byteAt_18 rfl rfl rfl ?_
        refine g_get (v := .ref (eA E 10)) (q := 22) fg_X6_11_9 rfl dX6_byteAt_19 rfl ?_
        refine g_iloadn (k0 := 1) (q := 23) dX6_byteAt_22 rfl rfl rfl ?_
        have hv3 := h.1
        replace h := h.2
        refine g_bald (v := (M1.1 10 a1.toNatClampNeg)) (q := 24) ar_10 hv3 rfl dX6_byteAt_23 rfl ?_
        refine g_sipush (q := 27) dX6_byteAt_24 ks_255 rfl ?_
        refine g_iand (q := 28) dX6_byteAt_27 rfl ?_
        refine g_goto (tgt := 32) dX6_byteAt_28 rfl ?_
        exact g_iret hz rfl dX6_byteAt_32 h
set_option maxHeartbeats 4000000 in
set_option maxRecDepth 100000 in
theorem c_X10_octet {E : EX} (hE : EH E) {a1 : Int32} {M : Mem} {Q : Int32 → Mem → Prop} {QX : Mem → Prop} (h : P_Sv_octet a1 M Q QX) : CX yX10_octet cX10_octet 2 (some .int) rmX10_octet E [.ref (eA E 0), .int a1] M Q QX := by
  refine CX.of hE (by decide) (Nat.le_of_ble_eq_true rfl) (fun x hz => ?_)
  unfold P_Sv_octet at h
  show G x E mX10_octet 0 0 0 [(0, .ref (eA E 0)), (1, .int a1)] [] M
  refine g_iloadn (k0 := 1) (q := 1) dX10_octet_0 rfl rfl rfl ?_
  refine g_if_lt (tgt := 15) (q := 4) dX10_octet_1 rfl rfl (fun hc6 => ?_) (fun hc6 => ?_)
  · replace h := h.1 hc6
    exact g_throw hz rfl (fun U hU => hU.2.2.2.2.1) dX10_octet_15 dX10_octet_18 dX10_octet_19 dX10_octet_21 dX10_octet_24 (by decide) h
  · replace h := h.2 hc6
    refine g_iloadn (k0 := 1) (q := 5) dX10_octet_4 rfl rfl rfl ?_
    refine g_aloadn (k0 := 0) (q := 6) dX10_octet_5 rfl rfl rfl ?_
    refine g_get (v := .ref (eA E 9)) (q := 9) fg_X10_36_0 rfl dX10_octet_6 rfl ?_
    refine g_calli (q := 12) [] [.int a1] cv_X10_121 rc_9 (c_X6_bytes hE h) rfl rfl ⟨rfl, rfl, Nat.le_of_ble_eq_true rfl, Nat.le_of_ble_eq_true rfl, Nat.zero_le _, Nat.zero_le _⟩ (Nat.le_of_ble_eq_true rfl) dX10_octet_9 rfl (fun r2 M1 h => ?_)
    refine g_ic_lt (tgt := 25) (q := 15) dX10_octet_12 rfl rfl (fun hc5 => ?_) (fun hc5 => ?_)
    · replace h := h.1 hc5
      refine g_aloadn (k0 := 0) (q := 26) dX10_octet_25 rfl rfl rfl ?_
      refine g_get (v := .ref (eA E 9)) (q := 29) fg_X10_36_0 rfl dX10_octet_26 rfl ?_
      refine g_iloadn (k0 := 1) (q := 30) dX10_octet_29 rfl rfl rfl ?_
      refine g_calli (q := 33) [.int a1] [] cv_X10_131 rc_9 (c_X6_byteAt hE h) rfl rfl ⟨rfl, rfl, Nat.le_of_ble_eq_true rfl, Nat.le_of_ble_eq_true rfl, Nat.zero_le _, Nat.zero_le _⟩ (Nat.le_of_ble_eq_true rfl) dX10_octet_30 rfl (fun r4 M3 h => ?_)
      exact g_iretX hz rfl dX10_octet_33 h
    · replace h := h.2 hc5
      exact g_throw hz rfl (fun U hU => hU.2.2.2.2.1) dX10_octet_15 dX10_octet_18 dX10_octet_19 dX10_octet_21 dX10_octet_24 (by decide) h
set_option maxHeartbeats 4000000 in
set_option maxRecDepth 100000 in
theorem c_X10_text {E : EX} (hE : EH E) {a1 : Int32} {a2 : Int32} {M : Mem} {Q : Int32 → Mem → Prop} {QX : Mem → Prop} (h : P_Sv_text a1 a2 M Q QX) : CX yX10_text cX10_text 4 (some .int) rmX10_text E [.ref (eA E 0), .int a1, .int a2] M Q QX := by
  refine CX.of hE (by decide) (Nat.le_of_ble_eq_true rfl) (fun x hz => ?_)
  unfold P_Sv_text at h
  show G x E mX10_text 0 0 0 [(0, .ref (eA E 0)), (1, .int a1), (2, .int a2)] [] M
  refine g_iloadn (k0 := 1) (q := 1) dX10_text_0 rfl rfl rfl ?_
  refine g_if_lt (tgt := 24) (q := 4) dX10_text_1 rfl rfl (fun hc17 => ?_) (fun hc17 => ?_)
  · replace h := h.1 hc17
    exact g_throw hz rfl (fun U hU => hU.2.2.2.2.2.2.2.1) dX10_text_24 dX10_text_27 dX10_text_28 dX10_text_30 dX10_text_33 (by decide) h
  · replace h := h.2 hc17
    refine g_iloadn (k0 := 1) (q := 5) dX10_text_4 rfl rfl rfl ?_
    refine g_aloadn (k0 := 0) (q := 6) dX10_text_5 rfl rfl rfl ?_
    refine g_get (v := .ref (eA E 15)) (q := 9) fg_X10_57_0 rfl dX10_text_6 rfl ?_
    refine g_calli (q := 12) [] [.int a1] cv_X10_165 rc_15 (c_X9_joined hE h) rfl rfl ⟨rfl, rfl, Nat.le_of_ble_eq_true rfl, Nat.le_of_ble_eq_true rfl, Nat.zero_le _, Nat.zero_le _⟩ (Nat.le_of_ble_eq_true rfl) dX10_text_9 rfl (fun r2 M1 h => ?_)
    refine g_ic_ge (tgt := 24) (q := 15) dX10_text_12 rfl rfl (fun hc16 => ?_) (fun hc16 => ?_)
    · replace h := h.1 hc16
      exact g_throw hz rfl (fun U hU => hU.2.2.2.2.2.2.2.1) dX10_text_24 dX10_text_27 dX10_text_28 dX10_text_30 dX10_text_33 (by decide) h
    · replace h := h.2 hc16
      refine g_iloadn (k0 := 2) (q := 16) dX10_text_15 rfl rfl rfl ?_
      refine g_if_lt (tgt := 24) (q := 19) dX10_text_16 rfl rfl (fun hc15 => ?_) (fun hc15 => ?_)
      · replace h := h.1 hc15
        exact g_throw hz rfl (fun U hU => hU.2.2.2.2.2.2.2.1) dX10_text_24 dX10_text_27 dX10_text_28 dX10_text_30 dX10_text_33 (by decide) h
      · replace h := h.2 hc15
        refine g_iloadn (k0 := 2) (q := 20) dX10_text_19 rfl rfl rfl ?_
        refine g_iconst (q := 21) dX10_text_20 ki_3 rfl ?_
        refine g_ic_le (tgt := 34) (q := 24) dX10_text_21 rfl rfl (fun hc14 => ?_) (fun hc14 => ?_)
        · replace h := h.1 hc14
          refine g_aloadn (k0 := 0) (q := 35) dX10_text_34 rfl rfl rfl ?_
          refine g_get (v := .ref (eA E 15)) (q := 38) fg_X10_57_0 rfl dX10_text_35 rfl ?_
          refine g_iloadn (k0 := 1) (q := 39) dX10_text_38 rfl rfl rfl ?_
          refine g_calli (q := 42) [.int a1] [] cv_X10_170 rc_15 (c_X9_wholeWith hE h) rfl rfl ⟨rfl, rfl, Nat.le_of_ble_eq_true rfl, Nat.le_of_ble_eq_true rfl, Nat.zero_le _, Nat.zero_le _⟩ (Nat.le_of_ble_eq_true rfl) dX10_text_39 rfl (fun r4 M3 h => ?_)
          refine g_istoren (lv' := [(0, .ref (eA E 0)), (1, .int a1), (2, .int a2), (3, .int r4)]) (q := 43) [1, 2, 3, 0] dX10_text_42 rfl (by decide) rfl rfl ?_
          refine g_iloadn (k0 := 2) (q := 44) dX10_text_43 rfl rfl rfl ?_
          by_cases hc7 : a2 = 0
          · replace h := h.1 hc7
            refine g_tin (tgt := 72) 0 (by rw [hc7]; decide) dX10_text_44 (by decide) (by decide) rfl rfl ?_
            refine g_aloadn (k0 := 0) (q := 73) dX10_text_72 rfl rfl rfl ?_
            refine g_get (v := .ref (eA E 11)) (q := 76) fg_X10_43_0 rfl dX10_text_73 rfl ?_
            refine g_iloadn (k0 := 3) (q := 77) dX10_text_76 rfl rfl rfl ?_
            refine g_iconst (q := 78) dX10_text_77 ki_1 rfl ?_
            refine g_calli (q := 81) [.int r4, .int 1] [] cv_X10_139 rc_11 (c_X2_cell hE h) rfl rfl ⟨rfl, rfl, Nat.le_of_ble_eq_true rfl, Nat.le_of_ble_eq_true rfl, Nat.zero_le _, Nat.zero_le _⟩ (Nat.le_of_ble_eq_true rfl) dX10_text_78 rfl (fun r6 M5 h => ?_)
            exact g_iretX hz rfl dX10_text_81 h
          replace h := h.2
          by_cases hc10 : a2 = 1
          · replace h := h.1 hc10
            refine g_tin (tgt := 82) 1 (by rw [hc10]; decide) dX10_text_44 (by decide) (by decide) rfl rfl ?_
            refine g_aloadn (k0 := 0) (q := 83) dX10_text_82 rfl rfl rfl ?_
            refine g_get (v := .ref (eA E 11)) (q := 86) fg_X10_43_0 rfl dX10_text_83 rfl ?_
            refine g_iloadn (k0 := 3) (q := 87) dX10_text_86 rfl rfl rfl ?_
            refine g_iconst (q := 88) dX10_text_87 ki_4 rfl ?_
            refine g_calli (q := 91) [.int r4, .int 4] [] cv_X10_139 rc_11 (c_X2_cell hE h) rfl rfl ⟨rfl, rfl, Nat.le_of_ble_eq_true rfl, Nat.le_of_ble_eq_true rfl, Nat.zero_le _, Nat.zero_le _⟩ (Nat.le_of_ble_eq_true rfl) dX10_text_88 rfl (fun r9 M8 h => ?_)
            exact g_iretX hz rfl dX10_text_91 h
          replace h := h.2
          by_cases hc13 : a2 = 2
          · replace h := h.1 hc13
            refine g_tin (tgt := 92) 2 (by rw [hc13]; decide) dX10_text_44 (by decide) (by decide) rfl rfl ?_
            refine g_aloadn (k0 := 0) (q := 93) dX10_text_92 rfl rfl rfl ?_
            refine g_get (v := .ref (eA E 15)) (q := 96) fg_X10_57_0 rfl dX10_text_93 rfl ?_
            refine g_aloadn (k0 := 0) (q := 97) dX10_text_96 rfl rfl rfl ?_
            refine g_get (v := .ref (eA E 11)) (q := 100) fg_X10_43_0 rfl dX10_text_97 rfl ?_
            refine g_iloadn (k0 := 1) (q := 101) dX10_text_100 rfl rfl rfl ?_
            refine g_calli (q := 104) [.ref (eA E 11), .int a1] [] cv_X10_173 rc_15 (c_X9_lettersIn hE h) rfl rfl ⟨rfl, rfl, Nat.le_of_ble_eq_true rfl, Nat.le_of_ble_eq_true rfl, Nat.zero_le _, Nat.zero_le _⟩ (Nat.le_of_ble_eq_true rfl) dX10_text_101 rfl (fun r12 M11 h => ?_)
            exact g_iretX hz rfl dX10_text_104 h
          replace h := h.2
          replace h := h hc7 hc10 hc13
          refine g_tout (tgt := 105) dX10_text_44 (sw_out 0 3 (fun i hi => by rcases (show i = 0 ∨ i = 1 ∨ i = 2 by omega) with rfl | rfl | rfl <;> assumption)) rfl ?_
          refine g_iloadn (k0 := 3) (q := 106) dX10_text_105 rfl rfl rfl ?_
          exact g_iretX hz rfl dX10_text_106 h
        · replace h := h.2 hc14
          exact g_throw hz rfl (fun U hU => hU.2.2.2.2.2.2.2.1) dX10_text_24 dX10_text_27 dX10_text_28 dX10_text_30 dX10_text_33 (by decide) h
set_option maxHeartbeats 4000000 in
set_option maxRecDepth 100000 in
theorem c_L_octet {E : EX} (hE : EH E) {a2 : Int32} {M : Mem} {Q : Int32 → Mem → Prop} (h : P_Law_octet a2 M Q) : CH yL_octet cL_octet 4 (some .int) [(0, 9, 12, 13)] rmL_octet E [.ref (eA E 0), .int a2, .ref (eA E 62)] M Q := by
  refine CH.of hE (by decide) (Nat.le_of_ble_eq_true rfl) (fun x hz => ?_)
  unfold P_Law_octet at h
  show G x E mL_octet 0 0 0 [(0, .ref (eA E 0)), (1, .int a2), (2, .ref (eA E 62))] [] M
  refine g_aloadn (k0 := 2) (q := 1) dL_octet_0 rfl rfl rfl ?_
  refine g_iconst (q := 2) dL_octet_1 ki_0 rfl ?_
  refine g_aloadn (k0 := 0) (q := 3) dL_octet_2 rfl rfl rfl ?_
  refine g_iloadn (k0 := 1) (q := 4) dL_octet_3 rfl rfl rfl ?_
  refine g_xcalli (q := 7) [.int a2] [.int 0, .ref (eA E 62)] hz cv_L_7 rc_0 (c_X10_octet hE h) rfl rfl ⟨rfl, rfl, Nat.le_of_ble_eq_true rfl, Nat.le_of_ble_eq_true rfl, Nat.le_of_ble_eq_true rfl, Nat.le_of_ble_eq_true rfl⟩ (Nat.le_of_ble_eq_true rfl) dL_octet_4 rfl rfl rfl (by decide) wm_709 (fun r2 M1 h => ?_) (fun a4 M3 h => ?_)
  · refine g_i2l (q := 8) dL_octet_7 rfl ?_
    have hv5 := h.1
    replace h := h.2
    refine g_last (q := 9) ar_62 hv5 dL_octet_8 rfl ?_
    refine g_goto (tgt := 15) dL_octet_9 rfl ?_
    refine g_iconst (q := 16) dL_octet_15 ki_0 rfl ?_
    exact g_iretH hz rfl dL_octet_16 h
  · refine g_astoren (lv' := [(0, .ref (eA E 0)), (1, .int a2), (2, .ref (eA E 62)), (3, .ref a4)]) (q := 13) [1, 2, 3, 0] dL_octet_12 rfl (by decide) rfl rfl ?_
    refine g_iconst (q := 14) dL_octet_13 ki_1 rfl ?_
    exact g_iretH hz rfl dL_octet_14 h
set_option maxHeartbeats 4000000 in
set_option maxRecDepth 100000 in
theorem c_L_message {E : EX} (hE : EH E) {a2 : Int32} {a3 : Int32} {M : Mem} {Q : Int32 → Mem → Prop} (h : P_Law_message a2 a3 M Q) : CH yL_message cL_message 5 (some .int) [(0, 10, 13, 13)] rmL_message E [.ref (eA E 0), .int a2, .int a3, .ref (eA E 62)] M Q := by
  refine CH.of hE (by decide) (Nat.le_of_ble_eq_true rfl) (fun x hz => ?_)
  unfold P_Law_message at h
  show G x E mL_message 0 0 0 [(0, .ref (eA E 0)), (1, .int a2), (2, .int a3), (3, .ref (eA E 62))] [] M
  refine g_aloadn (k0 := 3) (q := 1) dL_message_0 rfl rfl rfl ?_
  refine g_iconst (q := 2) dL_message_1 ki_0 rfl ?_
  refine g_aloadn (k0 := 0) (q := 3) dL_message_2 rfl rfl rfl ?_
  refine g_iloadn (k0 := 1) (q := 4) dL_message_3 rfl rfl rfl ?_
  refine g_iloadn (k0 := 2) (q := 5) dL_message_4 rfl rfl rfl ?_
  refine g_xcalli (q := 8) [.int a2, .int a3] [.int 0, .ref (eA E 62)] hz cv_L_15 rc_0 (c_X10_message hE h) rfl rfl ⟨rfl, rfl, Nat.le_of_ble_eq_true rfl, Nat.le_of_ble_eq_true rfl, Nat.le_of_ble_eq_true rfl, Nat.le_of_ble_eq_true rfl⟩ (Nat.le_of_ble_eq_true rfl) dL_message_5 rfl rfl rfl (by decide) wm_709 (fun r2 M1 h => ?_) (fun a4 M3 h => ?_)
  · refine g_i2l (q := 9) dL_message_8 rfl ?_
    have hv5 := h.1
    replace h := h.2
    refine g_last (q := 10) ar_62 hv5 dL_message_9 rfl ?_
    refine g_goto (tgt := 17) dL_message_10 rfl ?_
    refine g_iconst (q := 18) dL_message_17 ki_0 rfl ?_
    exact g_iretH hz rfl dL_message_18 h
  · refine g_astore (lv' := [(0, .ref (eA E 0)), (1, .int a2), (2, .int a3), (3, .ref (eA E 62)), (4, .ref a4)]) (q := 15) [1, 2, 3, 4, 0] dL_message_13 (by decide) rfl rfl ?_
    refine g_iconst (q := 16) dL_message_15 ki_1 rfl ?_
    exact g_iretH hz rfl dL_message_16 h
set_option maxHeartbeats 4000000 in
set_option maxRecDepth 100000 in
theorem c_L_clash {E : EX} (hE : EH E) {a2 : Int32} {a3 : Int32} {M : Mem} {Q : Int32 → Mem → Prop} (h : P_Law_clash a2 a3 M Q) : CH yL_clash cL_clash 5 (some .int) [(0, 10, 13, 13)] rmL_clash E [.ref (eA E 0), .int a2, .int a3, .ref (eA E 62)] M Q := by
  refine CH.of hE (by decide) (Nat.le_of_ble_eq_true rfl) (fun x hz => ?_)
  unfold P_Law_clash at h
  show G x E mL_clash 0 0 0 [(0, .ref (eA E 0)), (1, .int a2), (2, .int a3), (3, .ref (eA E 62))] [] M
  refine g_aloadn (k0 := 3) (q := 1) dL_clash_0 rfl rfl rfl ?_
  refine g_iconst (q := 2) dL_clash_1 ki_0 rfl ?_
  refine g_aloadn (k0 := 0) (q := 3) dL_clash_2 rfl rfl rfl ?_
  refine g_iloadn (k0 := 1) (q := 4) dL_clash_3 rfl rfl rfl ?_
  refine g_iloadn (k0 := 2) (q := 5) dL_clash_4 rfl rfl rfl ?_
  refine g_xcalli (q := 8) [.int a2, .int a3] [.int 0, .ref (eA E 62)] hz cv_L_19 rc_0 (c_X10_clash hE h) rfl rfl ⟨rfl, rfl, Nat.le_of_ble_eq_true rfl, Nat.le_of_ble_eq_true rfl, Nat.le_of_ble_eq_true rfl, Nat.le_of_ble_eq_true rfl⟩ (Nat.le_of_ble_eq_true rfl) dL_clash_5 rfl rfl rfl (by decide) wm_709 (fun r2 M1 h => ?_) (fun a4 M3 h => ?_)
  · refine g_i2l (q := 9) dL_clash_8 rfl ?_
    have hv5 := h.1
    replace h := h.2
    refine g_last (q := 10) ar_62 hv5 dL_clash_9 rfl ?_
    refine g_goto (tgt := 17) dL_clash_10 rfl ?_
    refine g_iconst (q := 18) dL_clash_17 ki_0 rfl ?_
    exact g_iretH hz rfl dL_clash_18 h
  · refine g_astore (lv' := [(0, .ref (eA E 0)), (1, .int a2), (2, .int a3), (3, .ref (eA E 62)), (4, .ref a4)]) (q := 15) [1, 2, 3, 4, 0] dL_clash_13 (by decide) rfl rfl ?_
    refine g_iconst (q := 16) dL_clash_15 ki_1 rfl ?_
    exact g_iretH hz rfl dL_clash_16 h
set_option maxHeartbeats 4000000 in
set_option maxRecDepth 100000 in
theorem c_L_text {E : EX} (hE : EH E) {a2 : Int32} {a3 : Int32} {M : Mem} {Q : Int32 → Mem → Prop} (h : P_Law_text a2 a3 M Q) : CH yL_text cL_text 5 (some .int) [(0, 10, 13, 13)] rmL_text E [.ref (eA E 0), .int a2, .int a3, .ref (eA E 62)] M Q := by
  refine CH.of hE (by decide) (Nat.le_of_ble_eq_true rfl) (fun x hz => ?_)
  unfold P_Law_text at h
  show G x E mL_text 0 0 0 [(0, .ref (eA E 0)), (1, .int a2), (2, .int a3), (3, .ref (eA E 62))] [] M
  refine g_aloadn (k0 := 3) (q := 1) dL_text_0 rfl rfl rfl ?_
  refine g_iconst (q := 2) dL_text_1 ki_0 rfl ?_
  refine g_aloadn (k0 := 0) (q := 3) dL_text_2 rfl rfl rfl ?_
  refine g_iloadn (k0 := 1) (q := 4) dL_text_3 rfl rfl rfl ?_
  refine g_iloadn (k0 := 2) (q := 5) dL_text_4 rfl rfl rfl ?_
  refine g_xcalli (q := 8) [.int a2, .int a3] [.int 0, .ref (eA E 62)] hz cv_L_22 rc_0 (c_X10_text hE h) rfl rfl ⟨rfl, rfl, Nat.le_of_ble_eq_true rfl, Nat.le_of_ble_eq_true rfl, Nat.le_of_ble_eq_true rfl, Nat.le_of_ble_eq_true rfl⟩ (Nat.le_of_ble_eq_true rfl) dL_text_5 rfl rfl rfl (by decide) wm_709 (fun r2 M1 h => ?_) (fun a4 M3 h => ?_)
  · refine g_i2l (q := 9) dL_text_8 rfl ?_
    have hv5 := h.1
    replace h := h.2
    refine g_last (q := 10) ar_62 hv5 dL_text_9 rfl ?_
    refine g_goto (tgt := 17) dL_text_10 rfl ?_
    refine g_iconst (q := 18) dL_text_17 ki_0 rfl ?_
    exact g_iretH hz rfl dL_text_18 h
  · refine g_astore (lv' := [(0, .ref (eA E 0)), (1, .int a2), (2, .int a3), (3, .ref (eA E 62)), (4, .ref a4)]) (q := 15) [1, 2, 3, 4, 0] dL_text_13 (by decide) rfl rfl ?_
    refine g_iconst (q := 16) dL_text_15 ki_1 rfl ?_
    exact g_iretH hz rfl dL_text_16 h
set_option maxHeartbeats 4000000 in
set_option maxRecDepth 100000 in
theorem c_L_letter {E : EX} (hE : EH E) {a2 : Int32} {a3 : Int32} {M : Mem} {Q : Int32 → Mem → Prop} (h : P_Law_letter a2 a3 M Q) : CH yL_letter cL_letter 5 (some .int) [(0, 10, 13, 13)] rmL_letter E [.ref (eA E 0), .int a2, .int a3, .ref (eA E 62)] M Q := by
  refine CH.of hE (by decide) (Nat.le_of_ble_eq_true rfl) (fun x hz => ?_)
  unfold P_Law_letter at h
  show G x E mL_letter 0 0 0 [(0, .ref (eA E 0)), (1, .int a2), (2, .int a3), (3, .ref (eA E 62))] [] M
  refine g_aloadn (k0 := 3) (q := 1) dL_letter_0 rfl rfl rfl ?_
  refine g_iconst (q := 2) dL_letter_1 ki_0 rfl ?_
  refine g_aloadn (k0 := 0) (q := 3) dL_letter_2 rfl rfl rfl ?_
  refine g_iloadn (k0 := 1) (q := 4) dL_letter_3 rfl rfl rfl ?_
  refine g_iloadn (k0 := 2) (q := 5) dL_letter_4 rfl rfl rfl ?_
  refine g_xcalli (q := 8) [.int a2, .int a3] [.int 0, .ref (eA E 62)] hz cv_L_25 rc_0 (c_X10_letter hE h) rfl rfl ⟨rfl, rfl, Nat.le_of_ble_eq_true rfl, Nat.le_of_ble_eq_true rfl, Nat.le_of_ble_eq_true rfl, Nat.le_of_ble_eq_true rfl⟩ (Nat.le_of_ble_eq_true rfl) dL_letter_5 rfl rfl rfl (by decide) wm_709 (fun r2 M1 h => ?_) (fun a4 M3 h => ?_)
  · refine g_i2l (q := 9) dL_letter_8 rfl ?_
    have hv5 := h.1
    replace h := h.2
    refine g_last (q := 10) ar_62 hv5 dL_letter_9 rfl ?_
    refine g_goto (tgt := 17) dL_letter_10 rfl ?_
    refine g_iconst (q := 18) dL_letter_17 ki_0 rfl ?_
    exact g_iretH hz rfl dL_letter_18 h
  · refine g_astore (lv' := [(0, .ref (eA E 0)), (1, .int a2), (2, .int a3), (3, .ref (eA E 62)), (4, .ref a4)]) (q := 15) [1, 2, 3, 4, 0] dL_letter_13 (by decide) rfl rfl ?_
    refine g_iconst (q := 16) dL_letter_15 ki_1 rfl ?_
    exact g_iretH hz rfl dL_letter_16 h
