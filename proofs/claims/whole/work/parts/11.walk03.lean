set_option maxHeartbeats 4000000 in
set_option maxRecDepth 100000 in
theorem c_X3_isColumn {E : EX} (hE : EH E) {a1 : Int32} {M : Mem} {Q : Int32 → Mem → Prop} (h : P_Matching_isColumn a1 M Q) : CI yX3_isColumn cX3_isColumn 2 (some .boolean) rmX3_isColumn E [.ref (eA E 21), .int a1] M (fun r M => nb r ∧ Q r M) := by
  refine CI.of hE (plainFor_of_name (by decide)) (Nat.le_of_ble_eq_true rfl) (fun x hz => ?_)
  unfold P_Matching_isColumn at h
  show G x E mX3_isColumn 0 0 0 [(0, .ref (eA E 21)), (1, .int a1)] [] M
  refine g_iloadn (k0 := 1) (q := 1) dX3_isColumn_0 rfl rfl rfl ?_
  refine g_if_lt (tgt := 16) (q := 4) dX3_isColumn_1 rfl rfl (fun hc2 => ?_) (fun hc2 => ?_)
  · replace h := h.1 hc2
    refine g_iconst (q := 17) dX3_isColumn_16 ki_0 rfl ?_
    exact g_zret hz rfl rfl dX3_isColumn_17 h
  · replace h := h.2 hc2
    refine g_iloadn (k0 := 1) (q := 5) dX3_isColumn_4 rfl rfl rfl ?_
    refine g_aloadn (k0 := 0) (q := 6) dX3_isColumn_5 rfl rfl rfl ?_
    refine g_get (v := .int (M.1 21 10)) (q := 9) fg_X3_47_21 rfl dX3_isColumn_6 rfl ?_
    refine g_ic_ge (tgt := 16) (q := 12) dX3_isColumn_9 rfl rfl (fun hc1 => ?_) (fun hc1 => ?_)
    · replace h := h.1 hc1
      refine g_iconst (q := 17) dX3_isColumn_16 ki_0 rfl ?_
      exact g_zret hz rfl rfl dX3_isColumn_17 h
    · replace h := h.2 hc1
      refine g_iconst (q := 13) dX3_isColumn_12 ki_1 rfl ?_
      refine g_goto (tgt := 17) dX3_isColumn_13 rfl ?_
      exact g_zret hz rfl rfl dX3_isColumn_17 h
set_option maxHeartbeats 4000000 in
set_option maxRecDepth 100000 in
theorem c_X3_place {E : EX} (hE : EH E) {a1 : Int32} {a2 : Int32} {M : Mem} {Q : Mem → Prop} (h : P_Matching_place a1 a2 M Q) : CU yX3_place cX3_place 3 none rmX3_place E [.ref (eA E 21), .int a1, .int a2] M Q := by
  refine CU.of hE (plainFor_of_name (by decide)) (Nat.le_of_ble_eq_true rfl) (fun x hz => ?_)
  unfold P_Matching_place at h
  show G x E mX3_place 0 0 0 [(0, .ref (eA E 21)), (1, .int a1), (2, .int a2)] [] M
  refine g_aloadn (k0 := 0) (q := 1) dX3_place_0 rfl rfl rfl ?_
  refine g_iloadn (k0 := 1) (q := 2) dX3_place_1 rfl rfl rfl ?_
  refine g_calli (q := 5) [.int a1] [] cv_X3_86 rc_21 (c_X3_isColumn hE h) rfl rfl ⟨rfl, rfl, Nat.le_of_ble_eq_true rfl, Nat.le_of_ble_eq_true rfl, Nat.zero_le _, Nat.zero_le _⟩ (Nat.le_of_ble_eq_true rfl) dX3_place_2 rfl (fun r2 M1 h => ?_)
  obtain ⟨hb_r2, h⟩ := h
  refine g_if_eq (tgt := 30) (q := 8) dX3_place_5 rfl rfl (fun hc8 => ?_) (fun hc8 => ?_)
  · replace h := h.1 hc8
    exact g_vret hz rfl dX3_place_30 h
  · replace h := h.2 hc8
    refine g_aloadn (k0 := 0) (q := 9) dX3_place_8 rfl rfl rfl ?_
    refine g_iloadn (k0 := 2) (q := 10) dX3_place_9 rfl rfl rfl ?_
    refine g_calli (q := 13) [.int a2] [] cv_X3_86 rc_21 (c_X3_isColumn hE h) rfl rfl ⟨rfl, rfl, Nat.le_of_ble_eq_true rfl, Nat.le_of_ble_eq_true rfl, Nat.zero_le _, Nat.zero_le _⟩ (Nat.le_of_ble_eq_true rfl) dX3_place_10 rfl (fun r4 M3 h => ?_)
    obtain ⟨hb_r4, h⟩ := h
    refine g_if_eq (tgt := 30) (q := 16) dX3_place_13 rfl rfl (fun hc7 => ?_) (fun hc7 => ?_)
    · replace h := h.1 hc7
      exact g_vret hz rfl dX3_place_30 h
    · replace h := h.2 hc7
      refine g_aloadn (k0 := 0) (q := 17) dX3_place_16 rfl rfl rfl ?_
      refine g_get (v := .ref (eA E 27)) (q := 20) fg_X3_30_21 rfl dX3_place_17 rfl ?_
      refine g_iloadn (k0 := 2) (q := 21) dX3_place_20 rfl rfl rfl ?_
      refine g_iloadn (k0 := 1) (q := 22) dX3_place_21 rfl rfl rfl ?_
      have hv5 := h.1
      replace h := h.2
      refine g_iast (q := 23) ar_27 hv5 dX3_place_22 rfl ?_
      refine g_aloadn (k0 := 0) (q := 24) dX3_place_23 rfl rfl rfl ?_
      refine g_get (v := .ref (eA E 26)) (q := 27) fg_X3_26_21 rfl dX3_place_24 rfl ?_
      refine g_iloadn (k0 := 1) (q := 28) dX3_place_27 rfl rfl rfl ?_
      refine g_iloadn (k0 := 2) (q := 29) dX3_place_28 rfl rfl rfl ?_
      have hv6 := h.1
      replace h := h.2
      refine g_iast (q := 30) ar_26 hv6 dX3_place_29 rfl ?_
      exact g_vret hz rfl dX3_place_30 h
set_option maxHeartbeats 4000000 in
set_option maxRecDepth 100000 in
theorem g_X3_fillSpareRows_7 {x : GX} {E : EX} (hE : EH E) {Q : Mem → Prop} (hz : ZU x E Q) : ∀ (n : Nat) (v1 : Int32) (v2 : Int32) (M : Mem), P_Matching_fillSpareRows_7 Q n v1 v2 M → G x E mX3_fillSpareRows 0 0 7 [(0, .ref (eA E 21)), (1, .int v1), (2, .int v2)] [] M := by
  intro n
  induction n with
  | zero => intro _ _ _ h; exact h.elim
  | succ n ih =>
    intro v1 v2 M h
    unfold P_Matching_fillSpareRows_7 at h
    refine g_iloadn (k0 := 2) (q := 8) dX3_fillSpareRows_7 rfl rfl rfl ?_
    refine g_aloadn (k0 := 0) (q := 9) dX3_fillSpareRows_8 rfl rfl rfl ?_
    refine g_get (v := .int (M.1 21 10)) (q := 12) fg_X3_47_21 rfl dX3_fillSpareRows_9 rfl ?_
    refine g_ic_ge (tgt := 40) (q := 15) dX3_fillSpareRows_12 rfl rfl (fun hc4 => ?_) (fun hc4 => ?_)
    · replace h := h.1 hc4
      exact g_vret hz rfl dX3_fillSpareRows_40 h
    · replace h := h.2 hc4
      refine g_aloadn (k0 := 0) (q := 16) dX3_fillSpareRows_15 rfl rfl rfl ?_
      refine g_get (v := .ref (eA E 27)) (q := 19) fg_X3_30_21 rfl dX3_fillSpareRows_16 rfl ?_
      refine g_iloadn (k0 := 2) (q := 20) dX3_fillSpareRows_19 rfl rfl rfl ?_
      have hv1 := h.1
      replace h := h.2
      refine g_iald (v := (M.1 27 v2.toNatClampNeg)) (q := 21) ar_27 hv1 rfl dX3_fillSpareRows_20 rfl ?_
      refine g_iconst (q := 22) dX3_fillSpareRows_21 ki_m1 rfl ?_
      refine g_ic_ne (tgt := 34) (q := 25) dX3_fillSpareRows_22 rfl rfl (fun hc3 => ?_) (fun hc3 => ?_)
      · replace h := h.1 hc3
        refine g_iinc (lv' := [(0, .ref (eA E 21)), (1, .int v1), (2, .int (v2 + 1))]) (k0 := 2) (w := (v2 + 1)) (q := 37) [1, 2, 0] dX3_fillSpareRows_34 rfl rfl (by decide) rfl rfl ?_
        refine g_goto (tgt := 7) dX3_fillSpareRows_37 rfl ?_
        exact ih _ _ _ h
      · replace h := h.2 hc3
        refine g_aloadn (k0 := 0) (q := 26) dX3_fillSpareRows_25 rfl rfl rfl ?_
        refine g_iloadn (k0 := 1) (q := 27) dX3_fillSpareRows_26 rfl rfl rfl ?_
        refine g_iloadn (k0 := 2) (q := 28) dX3_fillSpareRows_27 rfl rfl rfl ?_
        refine g_callv (q := 31) [.int v1, .int v2] [] cv_X3_97 rc_21 (c_X3_place hE h) rfl rfl ⟨rfl, rfl, Nat.le_of_ble_eq_true rfl, Nat.le_of_ble_eq_true rfl, Nat.zero_le _, Nat.zero_le _⟩ (Nat.le_of_ble_eq_true rfl) dX3_fillSpareRows_28 rfl (fun M2 h => ?_)
        refine g_iinc (lv' := [(0, .ref (eA E 21)), (1, .int (v1 + 1)), (2, .int v2)]) (k0 := 1) (w := (v1 + 1)) (q := 34) [1, 0, 2] dX3_fillSpareRows_31 rfl rfl (by decide) rfl rfl ?_
        refine g_iinc (lv' := [(0, .ref (eA E 21)), (1, .int (v1 + 1)), (2, .int (v2 + 1))]) (k0 := 2) (w := (v2 + 1)) (q := 37) [1, 2, 0] dX3_fillSpareRows_34 rfl rfl (by decide) rfl rfl ?_
        refine g_goto (tgt := 7) dX3_fillSpareRows_37 rfl ?_
        exact ih _ _ _ h
set_option maxHeartbeats 4000000 in
set_option maxRecDepth 100000 in
theorem c_X3_fillSpareRows {E : EX} (hE : EH E) {M : Mem} {Q : Mem → Prop} (h : P_Matching_fillSpareRows  M Q) : CU yX3_fillSpareRows cX3_fillSpareRows 3 none rmX3_fillSpareRows E [.ref (eA E 21)] M Q := by
  refine CU.of hE (plainFor_of_name (by decide)) (Nat.le_of_ble_eq_true rfl) (fun x hz => ?_)
  unfold P_Matching_fillSpareRows at h
  show G x E mX3_fillSpareRows 0 0 0 [(0, .ref (eA E 21))] [] M
  refine g_aloadn (k0 := 0) (q := 1) dX3_fillSpareRows_0 rfl rfl rfl ?_
  refine g_get (v := .int (M.1 21 9)) (q := 4) fg_X3_43_21 rfl dX3_fillSpareRows_1 rfl ?_
  refine g_istoren (lv' := [(0, .ref (eA E 21)), (1, .int (M.1 21 9))]) (q := 5) [1, 0] dX3_fillSpareRows_4 rfl (by decide) rfl rfl ?_
  refine g_iconst (q := 6) dX3_fillSpareRows_5 ki_0 rfl ?_
  refine g_istoren (lv' := [(0, .ref (eA E 21)), (1, .int (M.1 21 9)), (2, .int 0)]) (q := 7) [1, 2, 0] dX3_fillSpareRows_6 rfl (by decide) rfl rfl ?_
  obtain ⟨n1, h⟩ := h
  exact g_X3_fillSpareRows_7 hE hz n1 _ _ _ h
set_option maxHeartbeats 4000000 in
set_option maxRecDepth 100000 in
theorem c_X3_price {E : EX} (hE : EH E) {a1 : Int32} {a2 : Int32} {M : Mem} {Q : Int64 → Mem → Prop} (h : P_Matching_price a1 a2 M Q) : CL yX3_price cX3_price 3 (some .long) rmX3_price E [.ref (eA E 21), .int a1, .int a2] M Q := by
  refine CL.of hE (plainFor_of_name (by decide)) (Nat.le_of_ble_eq_true rfl) (fun x hz => ?_)
  unfold P_Matching_price at h
  show G x E mX3_price 0 0 0 [(0, .ref (eA E 21)), (1, .int a1), (2, .int a2)] [] M
  refine g_iloadn (k0 := 1) (q := 1) dX3_price_0 rfl rfl rfl ?_
  refine g_aloadn (k0 := 0) (q := 2) dX3_price_1 rfl rfl rfl ?_
  refine g_get (v := .int (M.1 21 9)) (q := 5) fg_X3_43_21 rfl dX3_price_2 rfl ?_
  refine g_ic_lt (tgt := 10) (q := 8) dX3_price_5 rfl rfl (fun hc3 => ?_) (fun hc3 => ?_)
  · replace h := h.1 hc3
    refine g_iloadn (k0 := 2) (q := 11) dX3_price_10 rfl rfl rfl ?_
    refine g_aloadn (k0 := 0) (q := 12) dX3_price_11 rfl rfl rfl ?_
    refine g_get (v := .int (M.1 21 9)) (q := 15) fg_X3_43_21 rfl dX3_price_12 rfl ?_
    refine g_ic_ge (tgt := 32) (q := 18) dX3_price_15 rfl rfl (fun hc2 => ?_) (fun hc2 => ?_)
    · replace h := h.1 hc2
      refine g_ldc2 (q := 35) dX3_price_32 wm_566 rfl ?_
      exact g_lret hz rfl dX3_price_35 h
    · replace h := h.2 hc2
      refine g_aloadn (k0 := 0) (q := 19) dX3_price_18 rfl rfl rfl ?_
      refine g_get (v := .ref (eA E 22)) (q := 22) fg_X3_13_21 rfl dX3_price_19 rfl ?_
      refine g_iloadn (k0 := 1) (q := 23) dX3_price_22 rfl rfl rfl ?_
      refine g_bipush (q := 25) dX3_price_23 kb_16 rfl ?_
      refine g_imul (q := 26) dX3_price_25 rfl ?_
      refine g_iloadn (k0 := 2) (q := 27) dX3_price_26 rfl rfl rfl ?_
      refine g_iadd (q := 28) dX3_price_27 rfl ?_
      have hv1 := h.1
      replace h := h.2
      refine g_lald (v := (M.2 22 (((a1 * 16) + a2)).toNatClampNeg)) (q := 29) ar_22 hv1 rfl dX3_price_28 rfl ?_
      refine g_goto (tgt := 35) dX3_price_29 rfl ?_
      exact g_lret hz rfl dX3_price_35 h
  · replace h := h.2 hc3
    refine g_lconst (q := 9) dX3_price_8 kl_0 rfl ?_
    exact g_lret hz rfl dX3_price_9 h
set_option maxHeartbeats 4000000 in
set_option maxRecDepth 100000 in
theorem c_X3_isTight {E : EX} (hE : EH E) {a1 : Int32} {a2 : Int32} {M : Mem} {Q : Int32 → Mem → Prop} (h : P_Matching_isTight a1 a2 M Q) : CI yX3_isTight cX3_isTight 5 (some .boolean) rmX3_isTight E [.ref (eA E 21), .int a1, .int a2] M (fun r M => nb r ∧ Q r M) := by
  refine CI.of hE (plainFor_of_name (by decide)) (Nat.le_of_ble_eq_true rfl) (fun x hz => ?_)
  unfold P_Matching_isTight at h
  show G x E mX3_isTight 0 0 0 [(0, .ref (eA E 21)), (1, .int a1), (2, .int a2)] [] M
  refine g_aloadn (k0 := 0) (q := 1) dX3_isTight_0 rfl rfl rfl ?_
  refine g_iloadn (k0 := 1) (q := 2) dX3_isTight_1 rfl rfl rfl ?_
  refine g_iloadn (k0 := 2) (q := 3) dX3_isTight_2 rfl rfl rfl ?_
  refine g_calll (q := 6) [.int a1, .int a2] [] cv_X3_77 rc_21 (c_X3_price hE h) rfl rfl ⟨rfl, rfl, Nat.le_of_ble_eq_true rfl, Nat.le_of_ble_eq_true rfl, Nat.zero_le _, Nat.zero_le _⟩ (Nat.le_of_ble_eq_true rfl) dX3_isTight_3 rfl (fun r2 M1 h => ?_)
  refine g_lstoren (lv' := [(0, .ref (eA E 21)), (1, .int a1), (2, .int a2), (3, .long r2)]) (q := 7) [1, 2, 3, 0] dX3_isTight_6 rfl (by decide) rfl rfl ?_
  refine g_lloadn (k0 := 3) (q := 8) dX3_isTight_7 rfl rfl rfl ?_
  refine g_ldc2 (q := 11) dX3_isTight_8 wm_536 rfl ?_
  refine g_lc_ge (tgt := 37) (q := 12) (q2 := 15) dX3_isTight_11 rfl dX3_isTight_12 rfl rfl (fun hc6 => ?_) (fun hc6 => ?_)
  · replace h := h.1 hc6
    refine g_iconst (q := 38) dX3_isTight_37 ki_0 rfl ?_
    exact g_zret hz rfl rfl dX3_isTight_38 h
  · replace h := h.2 hc6
    refine g_lloadn (k0 := 3) (q := 16) dX3_isTight_15 rfl rfl rfl ?_
    refine g_aloadn (k0 := 0) (q := 17) dX3_isTight_16 rfl rfl rfl ?_
    refine g_get (v := .ref (eA E 23)) (q := 20) fg_X3_17_21 rfl dX3_isTight_17 rfl ?_
    refine g_iloadn (k0 := 1) (q := 21) dX3_isTight_20 rfl rfl rfl ?_
    have hv3 := h.1
    replace h := h.2
    refine g_lald (v := (M1.2 23 a1.toNatClampNeg)) (q := 22) ar_23 hv3 rfl dX3_isTight_21 rfl ?_
    refine g_aloadn (k0 := 0) (q := 23) dX3_isTight_22 rfl rfl rfl ?_
    refine g_get (v := .ref (eA E 24)) (q := 26) fg_X3_20_21 rfl dX3_isTight_23 rfl ?_
    refine g_iloadn (k0 := 2) (q := 27) dX3_isTight_26 rfl rfl rfl ?_
    have hv4 := h.1
    replace h := h.2
    refine g_lald (v := (M1.2 24 a2.toNatClampNeg)) (q := 28) ar_24 hv4 rfl dX3_isTight_27 rfl ?_
    refine g_ladd (q := 29) dX3_isTight_28 rfl ?_
    refine g_lc_ne (tgt := 37) (q := 30) (q2 := 33) dX3_isTight_29 rfl dX3_isTight_30 rfl rfl (fun hc5 => ?_) (fun hc5 => ?_)
    · replace h := h.1 hc5
      refine g_iconst (q := 38) dX3_isTight_37 ki_0 rfl ?_
      exact g_zret hz rfl rfl dX3_isTight_38 h
    · replace h := h.2 hc5
      refine g_iconst (q := 34) dX3_isTight_33 ki_1 rfl ?_
      refine g_goto (tgt := 38) dX3_isTight_34 rfl ?_
      exact g_zret hz rfl rfl dX3_isTight_38 h
set_option maxHeartbeats 4000000 in
set_option maxRecDepth 100000 in
theorem g_X3_lookOnFrom_38 {x : GX} {E : EX} (hE : EH E) {Q : Int32 → Mem → Prop} (hz : ZI x E Q) : ∀ (n : Nat) (v1 : Int32) (v2 : Int32) (v4 : Int32) (v5 : Int32) (v6 : Int32) (M : Mem), P_Matching_lookOnFrom_38 Q n v1 v2 v4 v5 v6 M → G x E mX3_lookOnFrom 0 0 38 [(0, .ref (eA E 21)), (1, .int v1), (2, .int v2), (4, .int v4), (5, .int v5), (6, .int v6)] [] M := by
  intro n
  induction n with
  | zero => intro _ _ _ _ _ _ h; exact h.elim
  | succ n ih =>
    intro v1 v2 v4 v5 v6 M h
    unfold P_Matching_lookOnFrom_38 at h
    refine g_iload (k0 := 5) (q := 40) dX3_lookOnFrom_38 rfl rfl ?_
    refine g_aloadn (k0 := 0) (q := 41) dX3_lookOnFrom_40 rfl rfl rfl ?_
    refine g_get (v := .int (M.1 21 10)) (q := 44) fg_X3_47_21 rfl dX3_lookOnFrom_41 rfl ?_
    refine g_ic_ge (tgt := 120) (q := 47) dX3_lookOnFrom_44 rfl rfl (fun hc13 => ?_) (fun hc13 => ?_)
    · replace h := h.1 hc13
      refine g_iload (k0 := 3) (q := 122) dX3_lookOnFrom_120 rfl rfl ?_
      exact g_iret hz rfl dX3_lookOnFrom_122 h
    · replace h := h.2 hc13
      refine g_aloadn (k0 := 0) (q := 48) dX3_lookOnFrom_47 rfl rfl rfl ?_
      refine g_get (v := .ref (eA E 30)) (q := 51) fg_X3_39_21 rfl dX3_lookOnFrom_48 rfl ?_
      refine g_iload (k0 := 5) (q := 53) dX3_lookOnFrom_51 rfl rfl ?_
      have hv5 := h.1
      replace h := h.2
      refine g_zald (v := (M.1 30 v6.toNatClampNeg)) (q := 54) ar_30 hv5 rfl dX3_lookOnFrom_53 rfl ?_
      refine g_if_ne (tgt := 114) (q := 57) dX3_lookOnFrom_54 rfl rfl (fun hc12 => ?_) (fun hc12 => ?_)
      · replace h := h.1 hc12
        refine g_iinc (lv' := [(0, .ref (eA E 21)), (1, .int v1), (2, .int v2), (4, .int v4), (5, .int v5), (6, .int (v6 + 1))]) (k0 := 5) (w := (v6 + 1)) (q := 117) [1, 2, 3, 4, 5, 0] dX3_lookOnFrom_114 rfl rfl (by decide) rfl rfl ?_
        refine g_goto (tgt := 38) dX3_lookOnFrom_117 rfl ?_
        exact ih _ _ _ _ _ _ h
      · replace h := h.2 hc12
        refine g_aloadn (k0 := 0) (q := 58) dX3_lookOnFrom_57 rfl rfl rfl ?_
        refine g_get (v := .ref (eA E 27)) (q := 61) fg_X3_30_21 rfl dX3_lookOnFrom_58 rfl ?_
        refine g_iload (k0 := 5) (q := 63) dX3_lookOnFrom_61 rfl rfl ?_
        refine g_iald (v := (M.1 27 v6.toNatClampNeg)) (q := 64) ar_27 hv5 rfl dX3_lookOnFrom_63 rfl ?_
        refine g_iloadn (k0 := 1) (q := 65) dX3_lookOnFrom_64 rfl rfl rfl ?_
        refine g_ic_lt (tgt := 114) (q := 68) dX3_lookOnFrom_65 rfl rfl (fun hc11 => ?_) (fun hc11 => ?_)
        · replace h := h.1 hc11
          refine g_iinc (lv' := [(0, .ref (eA E 21)), (1, .int v1), (2, .int v2), (4, .int v4), (5, .int v5), (6, .int (v6 + 1))]) (k0 := 5) (w := (v6 + 1)) (q := 117) [1, 2, 3, 4, 5, 0] dX3_lookOnFrom_114 rfl rfl (by decide) rfl rfl ?_
          refine g_goto (tgt := 38) dX3_lookOnFrom_117 rfl ?_
          exact ih _ _ _ _ _ _ h
        · replace h := h.2 hc11
          refine g_aloadn (k0 := 0) (q := 69) dX3_lookOnFrom_68 rfl rfl rfl ?_
          refine g_iload (k0 := 4) (q := 71) dX3_lookOnFrom_69 rfl rfl ?_
          refine g_iload (k0 := 5) (q := 73) dX3_lookOnFrom_71 rfl rfl ?_
          refine g_calli (q := 76) [.int v5, .int v6] [] cv_X3_100 rc_21 (c_X3_isTight hE h) rfl rfl ⟨rfl, rfl, Nat.le_of_ble_eq_true rfl, Nat.le_of_ble_eq_true rfl, Nat.zero_le _, Nat.zero_le _⟩ (Nat.le_of_ble_eq_true rfl) dX3_lookOnFrom_73 rfl (fun r7 M6 h => ?_)
          obtain ⟨hb_r7, h⟩ := h
          refine g_if_eq (tgt := 114) (q := 79) dX3_lookOnFrom_76 rfl rfl (fun hc10 => ?_) (fun hc10 => ?_)
          · replace h := h.1 hc10
            refine g_iinc (lv' := [(0, .ref (eA E 21)), (1, .int v1), (2, .int v2), (4, .int v4), (5, .int v5), (6, .int (v6 + 1))]) (k0 := 5) (w := (v6 + 1)) (q := 117) [1, 2, 3, 4, 5, 0] dX3_lookOnFrom_114 rfl rfl (by decide) rfl rfl ?_
            refine g_goto (tgt := 38) dX3_lookOnFrom_117 rfl ?_
            exact ih _ _ _ _ _ _ h
          · replace h := h.2 hc10
            refine g_iload (k0 := 3) (q := 81) dX3_lookOnFrom_79 rfl rfl ?_
            refine g_bipush (q := 83) dX3_lookOnFrom_81 kb_32 rfl ?_
            refine g_ic_ge (tgt := 114) (q := 86) dX3_lookOnFrom_83 rfl rfl (fun hc9 => ?_) (fun hc9 => ?_)
            · replace h := h.1 hc9
              refine g_iinc (lv' := [(0, .ref (eA E 21)), (1, .int v1), (2, .int v2), (4, .int v4), (5, .int v5), (6, .int (v6 + 1))]) (k0 := 5) (w := (v6 + 1)) (q := 117) [1, 2, 3, 4, 5, 0] dX3_lookOnFrom_114 rfl rfl (by decide) rfl rfl ?_
              refine g_goto (tgt := 38) dX3_lookOnFrom_117 rfl ?_
              exact ih _ _ _ _ _ _ h
            · replace h := h.2 hc9
              refine g_aloadn (k0 := 0) (q := 87) dX3_lookOnFrom_86 rfl rfl rfl ?_
              refine g_get (v := .ref (eA E 30)) (q := 90) fg_X3_39_21 rfl dX3_lookOnFrom_87 rfl ?_
              refine g_iload (k0 := 5) (q := 92) dX3_lookOnFrom_90 rfl rfl ?_
              refine g_iconst (q := 93) dX3_lookOnFrom_92 ki_1 rfl ?_
              refine g_zast (q := 94) ar_30 hv5 rfl dX3_lookOnFrom_93 rfl ?_
              refine g_aloadn (k0 := 0) (q := 95) dX3_lookOnFrom_94 rfl rfl rfl ?_
              refine g_get (v := .ref (eA E 28)) (q := 98) fg_X3_33_21 rfl dX3_lookOnFrom_95 rfl ?_
              refine g_iload (k0 := 5) (q := 100) dX3_lookOnFrom_98 rfl rfl ?_
              refine g_iloadn (k0 := 2) (q := 101) dX3_lookOnFrom_100 rfl rfl rfl ?_
              refine g_iast (q := 102) ar_28 hv5 dX3_lookOnFrom_101 rfl ?_
              refine g_aloadn (k0 := 0) (q := 103) dX3_lookOnFrom_102 rfl rfl rfl ?_
              refine g_get (v := .ref (eA E 29)) (q := 106) fg_X3_36_21 rfl dX3_lookOnFrom_103 rfl ?_
              refine g_iload (k0 := 3) (q := 108) dX3_lookOnFrom_106 rfl rfl ?_
              refine g_iload (k0 := 5) (q := 110) dX3_lookOnFrom_108 rfl rfl ?_
              have hv8 := h.1
              replace h := h.2
              refine g_iast (q := 111) ar_29 hv8 dX3_lookOnFrom_110 rfl ?_
              refine g_iinc (lv' := [(0, .ref (eA E 21)), (1, .int v1), (2, .int v2), (4, .int (v4 + 1)), (5, .int v5), (6, .int v6)]) (k0 := 3) (w := (v4 + 1)) (q := 114) [1, 2, 3, 0, 4, 5] dX3_lookOnFrom_111 rfl rfl (by decide) rfl rfl ?_
              refine g_iinc (lv' := [(0, .ref (eA E 21)), (1, .int v1), (2, .int v2), (4, .int (v4 + 1)), (5, .int v5), (6, .int (v6 + 1))]) (k0 := 5) (w := (v6 + 1)) (q := 117) [1, 2, 3, 4, 5, 0] dX3_lookOnFrom_114 rfl rfl (by decide) rfl rfl ?_
              refine g_goto (tgt := 38) dX3_lookOnFrom_117 rfl ?_
              exact ih _ _ _ _ _ _ h
set_option maxHeartbeats 4000000 in
set_option maxRecDepth 100000 in
theorem g_X3_lookOnFrom_21 {x : GX} {E : EX} (hE : EH E) {Q : Int32 → Mem → Prop} (hz : ZI x E Q) : ∀ (v1 : Int32) (v2 : Int32) (v4 : Int32) (s0 : Int32) (M : Mem), P_Matching_lookOnFrom_21 Q v1 v2 v4 s0 M → G x E mX3_lookOnFrom 0 0 21 [(0, .ref (eA E 21)), (1, .int v1), (2, .int v2), (4, .int v4)] [.int s0] M := by
  intro v1 v2 v4 s0 M h
  unfold P_Matching_lookOnFrom_21 at h
  refine g_istore (lv' := [(0, .ref (eA E 21)), (1, .int v1), (2, .int v2), (4, .int v4), (5, .int s0)]) (q := 23) [1, 2, 3, 4, 0] dX3_lookOnFrom_21 (by decide) rfl rfl ?_
  refine g_aloadn (k0 := 0) (q := 24) dX3_lookOnFrom_23 rfl rfl rfl ?_
  refine g_iload (k0 := 4) (q := 26) dX3_lookOnFrom_24 rfl rfl ?_
  refine g_calli (q := 29) [.int s0] [] cv_X3_86 rc_21 (c_X3_isColumn hE h) rfl rfl ⟨rfl, rfl, Nat.le_of_ble_eq_true rfl, Nat.le_of_ble_eq_true rfl, Nat.zero_le _, Nat.zero_le _⟩ (Nat.le_of_ble_eq_true rfl) dX3_lookOnFrom_26 rfl (fun r4 M3 h => ?_)
  obtain ⟨hb_r4, h⟩ := h
  refine g_if_ne (tgt := 35) (q := 32) dX3_lookOnFrom_29 rfl rfl (fun hc15 => ?_) (fun hc15 => ?_)
  · replace h := h.1 hc15
    refine g_iconst (q := 36) dX3_lookOnFrom_35 ki_0 rfl ?_
    refine g_istore (lv' := [(0, .ref (eA E 21)), (1, .int v1), (2, .int v2), (4, .int v4), (5, .int s0), (6, .int 0)]) (q := 38) [1, 2, 3, 4, 5, 0] dX3_lookOnFrom_36 (by decide) rfl rfl ?_
    obtain ⟨n1, h⟩ := h
    exact g_X3_lookOnFrom_38 hE hz n1 _ _ _ _ _ _ h
  · replace h := h.2 hc15
    refine g_iload (k0 := 3) (q := 34) dX3_lookOnFrom_32 rfl rfl ?_
    exact g_iret hz rfl dX3_lookOnFrom_34 h
set_option maxHeartbeats 4000000 in
set_option maxRecDepth 100000 in
theorem c_X3_lookOnFrom {E : EX} (hE : EH E) {a1 : Int32} {a2 : Int32} {a3 : Int32} {M : Mem} {Q : Int32 → Mem → Prop} (h : P_Matching_lookOnFrom a1 a2 a3 M Q) : CI yX3_lookOnFrom cX3_lookOnFrom 7 (some .int) rmX3_lookOnFrom E [.ref (eA E 21), .int a1, .int a2, .int a3] M Q := by
  refine CI.of hE (plainFor_of_name (by decide)) (Nat.le_of_ble_eq_true rfl) (fun x hz => ?_)
  unfold P_Matching_lookOnFrom at h
  show G x E mX3_lookOnFrom 0 0 0 [(0, .ref (eA E 21)), (1, .int a1), (2, .int a2), (3, .int a3)] [] M
  refine g_iloadn (k0 := 3) (q := 1) dX3_lookOnFrom_0 rfl rfl rfl ?_
  refine g_istore (lv' := [(0, .ref (eA E 21)), (1, .int a1), (2, .int a2), (3, .int a3), (4, .int a3)]) (q := 3) [1, 2, 3, 4, 0] dX3_lookOnFrom_1 (by decide) rfl rfl ?_
  refine g_aloadn (k0 := 0) (q := 4) dX3_lookOnFrom_3 rfl rfl rfl ?_
  refine g_iloadn (k0 := 2) (q := 5) dX3_lookOnFrom_4 rfl rfl rfl ?_
  refine g_calli (q := 8) [.int a2] [] cv_X3_86 rc_21 (c_X3_isColumn hE h) rfl rfl ⟨rfl, rfl, Nat.le_of_ble_eq_true rfl, Nat.le_of_ble_eq_true rfl, Nat.zero_le _, Nat.zero_le _⟩ (Nat.le_of_ble_eq_true rfl) dX3_lookOnFrom_5 rfl (fun r2 M1 h => ?_)
  obtain ⟨hb_r2, h⟩ := h
  refine g_if_eq (tgt := 20) (q := 11) dX3_lookOnFrom_8 rfl rfl (fun hc17 => ?_) (fun hc17 => ?_)
  · replace h := h.1 hc17
    refine g_iconst (q := 21) dX3_lookOnFrom_20 ki_m1 rfl ?_
    refine g_lv (lv' := [(0, .ref (eA E 21)), (1, .int a1), (2, .int a2), (4, .int a3)]) [0, 1, 2, 4] rfl ?_
    exact g_X3_lookOnFrom_21 hE hz _ _ _ _ _ h
  · replace h := h.2 hc17
    refine g_aloadn (k0 := 0) (q := 12) dX3_lookOnFrom_11 rfl rfl rfl ?_
    refine g_get (v := .ref (eA E 27)) (q := 15) fg_X3_30_21 rfl dX3_lookOnFrom_12 rfl ?_
    refine g_iloadn (k0 := 2) (q := 16) dX3_lookOnFrom_15 rfl rfl rfl ?_
    have hv16 := h.1
    replace h := h.2
    refine g_iald (v := (M1.1 27 a2.toNatClampNeg)) (q := 17) ar_27 hv16 rfl dX3_lookOnFrom_16 rfl ?_
    refine g_goto (tgt := 21) dX3_lookOnFrom_17 rfl ?_
    refine g_lv (lv' := [(0, .ref (eA E 21)), (1, .int a1), (2, .int a2), (4, .int a3)]) [0, 1, 2, 4] rfl ?_
    exact g_X3_lookOnFrom_21 hE hz _ _ _ _ _ h
set_option maxHeartbeats 4000000 in
set_option maxRecDepth 100000 in
theorem g_X3_moveAlong_5 {x : GX} {E : EX} (hE : EH E) {Q : Mem → Prop} (hz : ZU x E Q) : ∀ (n : Nat) (v1 : Int32) (v3 : Int32) (v4 : Int32) (M : Mem), P_Matching_moveAlong_5 Q n v1 v3 v4 M → G x E mX3_moveAlong 0 0 5 [(0, .ref (eA E 21)), (1, .int v1), (3, .int v3), (4, .int v4)] [] M := by
  intro n
  induction n with
  | zero => intro _ _ _ _ h; exact h.elim
  | succ n ih =>
    intro v1 v3 v4 M h
    unfold P_Matching_moveAlong_5 at h
    refine g_iload (k0 := 3) (q := 7) dX3_moveAlong_5 rfl rfl ?_
    refine g_aloadn (k0 := 0) (q := 8) dX3_moveAlong_7 rfl rfl rfl ?_
    refine g_get (v := .int (M.1 21 10)) (q := 11) fg_X3_47_21 rfl dX3_moveAlong_8 rfl ?_
    refine g_ic_ge (tgt := 56) (q := 14) dX3_moveAlong_11 rfl rfl (fun hc9 => ?_) (fun hc9 => ?_)
    · replace h := h.1 hc9
      refine g_aloadn (k0 := 0) (q := 57) dX3_moveAlong_56 rfl rfl rfl ?_
      refine g_iloadn (k0 := 1) (q := 58) dX3_moveAlong_57 rfl rfl rfl ?_
      refine g_iloadn (k0 := 2) (q := 59) dX3_moveAlong_58 rfl rfl rfl ?_
      refine g_callv (q := 62) [.int v1, .int v3] [] cv_X3_97 rc_21 (c_X3_place hE h) rfl rfl ⟨rfl, rfl, Nat.le_of_ble_eq_true rfl, Nat.le_of_ble_eq_true rfl, Nat.zero_le _, Nat.zero_le _⟩ (Nat.le_of_ble_eq_true rfl) dX3_moveAlong_59 rfl (fun M1 h => ?_)
      exact g_vret hz rfl dX3_moveAlong_62 h
    · replace h := h.2 hc9
      refine g_aloadn (k0 := 0) (q := 15) dX3_moveAlong_14 rfl rfl rfl ?_
      refine g_aloadn (k0 := 0) (q := 16) dX3_moveAlong_15 rfl rfl rfl ?_
      refine g_get (v := .ref (eA E 28)) (q := 19) fg_X3_33_21 rfl dX3_moveAlong_16 rfl ?_
      refine g_iloadn (k0 := 2) (q := 20) dX3_moveAlong_19 rfl rfl rfl ?_
      have hv2 := h.1
      replace h := h.2
      refine g_iald (v := (M.1 28 v3.toNatClampNeg)) (q := 21) ar_28 hv2 rfl dX3_moveAlong_20 rfl ?_
      refine g_calli (q := 24) [.int (M.1 28 v3.toNatClampNeg)] [] cv_X3_86 rc_21 (c_X3_isColumn hE h) rfl rfl ⟨rfl, rfl, Nat.le_of_ble_eq_true rfl, Nat.le_of_ble_eq_true rfl, Nat.zero_le _, Nat.zero_le _⟩ (Nat.le_of_ble_eq_true rfl) dX3_moveAlong_21 rfl (fun r4 M3 h => ?_)
      obtain ⟨hb_r4, h⟩ := h
      refine g_if_eq (tgt := 56) (q := 27) dX3_moveAlong_24 rfl rfl (fun hc8 => ?_) (fun hc8 => ?_)
      · replace h := h.1 hc8
        refine g_aloadn (k0 := 0) (q := 57) dX3_moveAlong_56 rfl rfl rfl ?_
        refine g_iloadn (k0 := 1) (q := 58) dX3_moveAlong_57 rfl rfl rfl ?_
        refine g_iloadn (k0 := 2) (q := 59) dX3_moveAlong_58 rfl rfl rfl ?_
        refine g_callv (q := 62) [.int v1, .int v3] [] cv_X3_97 rc_21 (c_X3_place hE h) rfl rfl ⟨rfl, rfl, Nat.le_of_ble_eq_true rfl, Nat.le_of_ble_eq_true rfl, Nat.zero_le _, Nat.zero_le _⟩ (Nat.le_of_ble_eq_true rfl) dX3_moveAlong_59 rfl (fun M5 h => ?_)
        exact g_vret hz rfl dX3_moveAlong_62 h
      · replace h := h.2 hc8
        refine g_aloadn (k0 := 0) (q := 28) dX3_moveAlong_27 rfl rfl rfl ?_
        refine g_aloadn (k0 := 0) (q := 29) dX3_moveAlong_28 rfl rfl rfl ?_
        refine g_get (v := .ref (eA E 27)) (q := 32) fg_X3_30_21 rfl dX3_moveAlong_29 rfl ?_
        refine g_aloadn (k0 := 0) (q := 33) dX3_moveAlong_32 rfl rfl rfl ?_
        refine g_get (v := .ref (eA E 28)) (q := 36) fg_X3_33_21 rfl dX3_moveAlong_33 rfl ?_
        refine g_iloadn (k0 := 2) (q := 37) dX3_moveAlong_36 rfl rfl rfl ?_
        refine g_iald (v := (M3.1 28 v3.toNatClampNeg)) (q := 38) ar_28 hv2 rfl dX3_moveAlong_37 rfl ?_
        have hv6 := h.1
        replace h := h.2
        refine g_iald (v := (M3.1 27 ((M3.1 28 v3.toNatClampNeg)).toNatClampNeg)) (q := 39) ar_27 hv6 rfl dX3_moveAlong_38 rfl ?_
        refine g_iloadn (k0 := 2) (q := 40) dX3_moveAlong_39 rfl rfl rfl ?_
        refine g_callv (q := 43) [.int (M3.1 27 ((M3.1 28 v3.toNatClampNeg)).toNatClampNeg), .int v3] [] cv_X3_97 rc_21 (c_X3_place hE h) rfl rfl ⟨rfl, rfl, Nat.le_of_ble_eq_true rfl, Nat.le_of_ble_eq_true rfl, Nat.zero_le _, Nat.zero_le _⟩ (Nat.le_of_ble_eq_true rfl) dX3_moveAlong_40 rfl (fun M7 h => ?_)
        refine g_aloadn (k0 := 0) (q := 44) dX3_moveAlong_43 rfl rfl rfl ?_
        refine g_get (v := .ref (eA E 28)) (q := 47) fg_X3_33_21 rfl dX3_moveAlong_44 rfl ?_
        refine g_iloadn (k0 := 2) (q := 48) dX3_moveAlong_47 rfl rfl rfl ?_
        refine g_iald (v := (M7.1 28 v3.toNatClampNeg)) (q := 49) ar_28 hv2 rfl dX3_moveAlong_48 rfl ?_
        refine g_istoren (lv' := [(0, .ref (eA E 21)), (1, .int v1), (3, .int (M7.1 28 v3.toNatClampNeg)), (4, .int v4)]) (q := 50) [1, 2, 0, 3] dX3_moveAlong_49 rfl (by decide) rfl rfl ?_
        refine g_iinc (lv' := [(0, .ref (eA E 21)), (1, .int v1), (3, .int (M7.1 28 v3.toNatClampNeg)), (4, .int (v4 + 1))]) (k0 := 3) (w := (v4 + 1)) (q := 53) [1, 2, 3, 0] dX3_moveAlong_50 rfl rfl (by decide) rfl rfl ?_
        refine g_goto (tgt := 5) dX3_moveAlong_53 rfl ?_
        exact ih _ _ _ _ h
set_option maxHeartbeats 4000000 in
set_option maxRecDepth 100000 in
theorem c_X3_moveAlong {E : EX} (hE : EH E) {a1 : Int32} {a2 : Int32} {M : Mem} {Q : Mem → Prop} (h : P_Matching_moveAlong a1 a2 M Q) : CU yX3_moveAlong cX3_moveAlong 5 none rmX3_moveAlong E [.ref (eA E 21), .int a1, .int a2] M Q := by
  refine CU.of hE (plainFor_of_name (by decide)) (Nat.le_of_ble_eq_true rfl) (fun x hz => ?_)
  unfold P_Matching_moveAlong at h
  show G x E mX3_moveAlong 0 0 0 [(0, .ref (eA E 21)), (1, .int a1), (2, .int a2)] [] M
  refine g_iloadn (k0 := 2) (q := 1) dX3_moveAlong_0 rfl rfl rfl ?_
  refine g_istoren (lv' := [(0, .ref (eA E 21)), (1, .int a1), (2, .int a2), (3, .int a2)]) (q := 2) [1, 2, 3, 0] dX3_moveAlong_1 rfl (by decide) rfl rfl ?_
  refine g_iconst (q := 3) dX3_moveAlong_2 ki_0 rfl ?_
  refine g_istore (lv' := [(0, .ref (eA E 21)), (1, .int a1), (2, .int a2), (3, .int a2), (4, .int 0)]) (q := 5) [1, 2, 3, 4, 0] dX3_moveAlong_3 (by decide) rfl rfl ?_
  refine g_lv (lv' := [(0, .ref (eA E 21)), (1, .int a1), (3, .int a2), (4, .int 0)]) [0, 1, 3, 4] rfl ?_
  obtain ⟨n1, h⟩ := h
  exact g_X3_moveAlong_5 hE hz n1 _ _ _ _ h
set_option maxHeartbeats 4000000 in
set_option maxRecDepth 100000 in
theorem g_X3_giveColumn_61 {x : GX} {E : EX} (hE : EH E) {Q : Int32 → Mem → Prop} (hz : ZI x E (fun r M => nb r ∧ Q r M)) : ∀ (n : Nat) (v1 : Int32) (v3 : Int32) (v4 : Int32) (v5 : Int32) (M : Mem), P_Matching_giveColumn_61 Q n v1 v3 v4 v5 M → G x E mX3_giveColumn 0 0 61 [(0, .ref (eA E 21)), (1, .int v1), (3, .int v3), (4, .int v4), (5, .int v5)] [] M := by
  intro n
  induction n with
  | zero => intro _ _ _ _ _ h; exact h.elim
  | succ n ih =>
    intro v1 v3 v4 v5 M h
    unfold P_Matching_giveColumn_61 at h
    refine g_iload (k0 := 4) (q := 63) dX3_giveColumn_61 rfl rfl ?_
    refine g_iload (k0 := 3) (q := 65) dX3_giveColumn_63 rfl rfl ?_
    refine g_ic_ge (tgt := 124) (q := 68) dX3_giveColumn_65 rfl rfl (fun hc14 => ?_) (fun hc14 => ?_)
    · replace h := h.1 hc14
      refine g_iconst (q := 125) dX3_giveColumn_124 ki_0 rfl ?_
      exact g_zret hz rfl rfl dX3_giveColumn_125 h
    · replace h := h.2 hc14
      refine g_iload (k0 := 4) (q := 70) dX3_giveColumn_68 rfl rfl ?_
      refine g_aloadn (k0 := 0) (q := 71) dX3_giveColumn_70 rfl rfl rfl ?_
      refine g_get (v := .int (M.1 21 10)) (q := 74) fg_X3_47_21 rfl dX3_giveColumn_71 rfl ?_
      refine g_ic_ge (tgt := 124) (q := 77) dX3_giveColumn_74 rfl rfl (fun hc13 => ?_) (fun hc13 => ?_)
      · replace h := h.1 hc13
        refine g_iconst (q := 125) dX3_giveColumn_124 ki_0 rfl ?_
        exact g_zret hz rfl rfl dX3_giveColumn_125 h
      · replace h := h.2 hc13
        refine g_aloadn (k0 := 0) (q := 78) dX3_giveColumn_77 rfl rfl rfl ?_
        refine g_iloadn (k0 := 1) (q := 79) dX3_giveColumn_78 rfl rfl rfl ?_
        refine g_aloadn (k0 := 0) (q := 80) dX3_giveColumn_79 rfl rfl rfl ?_
        refine g_get (v := .ref (eA E 29)) (q := 83) fg_X3_36_21 rfl dX3_giveColumn_80 rfl ?_
        refine g_iload (k0 := 4) (q := 85) dX3_giveColumn_83 rfl rfl ?_
        have hv4 := h.1
        replace h := h.2
        refine g_iald (v := (M.1 29 v5.toNatClampNeg)) (q := 86) ar_29 hv4 rfl dX3_giveColumn_85 rfl ?_
        refine g_iload (k0 := 3) (q := 88) dX3_giveColumn_86 rfl rfl ?_
        refine g_calli (q := 91) [.int v1, .int (M.1 29 v5.toNatClampNeg), .int v4] [] cv_X3_107 rc_21 (c_X3_lookOnFrom hE h) rfl rfl ⟨rfl, rfl, Nat.le_of_ble_eq_true rfl, Nat.le_of_ble_eq_true rfl, Nat.zero_le _, Nat.zero_le _⟩ (Nat.le_of_ble_eq_true rfl) dX3_giveColumn_88 rfl (fun r6 M5 h => ?_)
        refine g_istore (lv' := [(0, .ref (eA E 21)), (1, .int v1), (3, .int v3), (4, .int r6), (5, .int v5)]) (q := 93) [1, 2, 3, 0, 4] dX3_giveColumn_91 (by decide) rfl rfl ?_
        refine g_aloadn (k0 := 0) (q := 94) dX3_giveColumn_93 rfl rfl rfl ?_
        refine g_iloadn (k0 := 2) (q := 95) dX3_giveColumn_94 rfl rfl rfl ?_
        refine g_calli (q := 98) [.int v3] [] cv_X3_86 rc_21 (c_X3_isColumn hE h) rfl rfl ⟨rfl, rfl, Nat.le_of_ble_eq_true rfl, Nat.le_of_ble_eq_true rfl, Nat.zero_le _, Nat.zero_le _⟩ (Nat.le_of_ble_eq_true rfl) dX3_giveColumn_95 rfl (fun r8 M7 h => ?_)
        obtain ⟨hb_r8, h⟩ := h
        refine g_if_eq (tgt := 118) (q := 101) dX3_giveColumn_98 rfl rfl (fun hc12 => ?_) (fun hc12 => ?_)
        · replace h := h.1 hc12
          refine g_iinc (lv' := [(0, .ref (eA E 21)), (1, .int v1), (3, .int v3), (4, .int r6), (5, .int (v5 + 1))]) (k0 := 4) (w := (v5 + 1)) (q := 121) [1, 2, 3, 4, 0] dX3_giveColumn_118 rfl rfl (by decide) rfl rfl ?_
          refine g_goto (tgt := 61) dX3_giveColumn_121 rfl ?_
          exact ih _ _ _ _ _ h
        · replace h := h.2 hc12
          refine g_aloadn (k0 := 0) (q := 102) dX3_giveColumn_101 rfl rfl rfl ?_
          refine g_get (v := .ref (eA E 30)) (q := 105) fg_X3_39_21 rfl dX3_giveColumn_102 rfl ?_
          refine g_iloadn (k0 := 2) (q := 106) dX3_giveColumn_105 rfl rfl rfl ?_
          have hv9 := h.1
          replace h := h.2
          refine g_zald (v := (M7.1 30 v3.toNatClampNeg)) (q := 107) ar_30 hv9 rfl dX3_giveColumn_106 rfl ?_
          refine g_if_eq (tgt := 118) (q := 110) dX3_giveColumn_107 rfl rfl (fun hc11 => ?_) (fun hc11 => ?_)
          · replace h := h.1 hc11
            refine g_iinc (lv' := [(0, .ref (eA E 21)), (1, .int v1), (3, .int v3), (4, .int r6), (5, .int (v5 + 1))]) (k0 := 4) (w := (v5 + 1)) (q := 121) [1, 2, 3, 4, 0] dX3_giveColumn_118 rfl rfl (by decide) rfl rfl ?_
            refine g_goto (tgt := 61) dX3_giveColumn_121 rfl ?_
            exact ih _ _ _ _ _ h
          · replace h := h.2 hc11
            refine g_aloadn (k0 := 0) (q := 111) dX3_giveColumn_110 rfl rfl rfl ?_
            refine g_iloadn (k0 := 1) (q := 112) dX3_giveColumn_111 rfl rfl rfl ?_
            refine g_iloadn (k0 := 2) (q := 113) dX3_giveColumn_112 rfl rfl rfl ?_
            refine g_callv (q := 116) [.int v1, .int v3] [] cv_X3_93 rc_21 (c_X3_moveAlong hE h) rfl rfl ⟨rfl, rfl, Nat.le_of_ble_eq_true rfl, Nat.le_of_ble_eq_true rfl, Nat.zero_le _, Nat.zero_le _⟩ (Nat.le_of_ble_eq_true rfl) dX3_giveColumn_113 rfl (fun M10 h => ?_)
            refine g_iconst (q := 117) dX3_giveColumn_116 ki_1 rfl ?_
            exact g_zret hz rfl rfl dX3_giveColumn_117 h
set_option maxHeartbeats 4000000 in
set_option maxRecDepth 100000 in
theorem g_X3_giveColumn_10 {x : GX} {E : EX} (hE : EH E) {Q : Int32 → Mem → Prop} (hz : ZI x E (fun r M => nb r ∧ Q r M)) : ∀ (n : Nat) (v1 : Int32) (v2 : Int32) (v3 : Int32) (v4 : Int32) (M : Mem), P_Matching_giveColumn_10 Q n v1 v2 v3 v4 M → G x E mX3_giveColumn 0 0 10 [(0, .ref (eA E 21)), (1, .int v1), (2, .int v2), (3, .int v3), (4, .int v4)] [] M := by
  intro n
  induction n with
  | zero => intro _ _ _ _ _ h; exact h.elim
  | succ n ih =>
    intro v1 v2 v3 v4 M h
    unfold P_Matching_giveColumn_10 at h
    refine g_iload (k0 := 4) (q := 12) dX3_giveColumn_10 rfl rfl ?_
    refine g_aloadn (k0 := 0) (q := 13) dX3_giveColumn_12 rfl rfl rfl ?_
    refine g_get (v := .int (M.1 21 10)) (q := 16) fg_X3_47_21 rfl dX3_giveColumn_13 rfl ?_
    refine g_ic_ge (tgt := 41) (q := 19) dX3_giveColumn_16 rfl rfl (fun hc17 => ?_) (fun hc17 => ?_)
    · replace h := h.1 hc17
      refine g_aloadn (k0 := 0) (q := 42) dX3_giveColumn_41 rfl rfl rfl ?_
      refine g_get (v := .ref (eA E 30)) (q := 45) fg_X3_39_21 rfl dX3_giveColumn_42 rfl ?_
      refine g_iloadn (k0 := 2) (q := 46) dX3_giveColumn_45 rfl rfl rfl ?_
      refine g_iconst (q := 47) dX3_giveColumn_46 ki_1 rfl ?_
      have hv2 := h.1
      replace h := h.2
      refine g_zast (q := 48) ar_30 hv2 rfl dX3_giveColumn_47 rfl ?_
      refine g_aloadn (k0 := 0) (q := 49) dX3_giveColumn_48 rfl rfl rfl ?_
      refine g_get (v := .ref (eA E 29)) (q := 52) fg_X3_36_21 rfl dX3_giveColumn_49 rfl ?_
      refine g_iconst (q := 53) dX3_giveColumn_52 ki_0 rfl ?_
      refine g_iloadn (k0 := 2) (q := 54) dX3_giveColumn_53 rfl rfl rfl ?_
      have hv3 := h.1
      replace h := h.2
      refine g_iast (q := 55) ar_29 hv3 dX3_giveColumn_54 rfl ?_
      refine g_iconst (q := 56) dX3_giveColumn_55 ki_1 rfl ?_
      refine g_istore (lv' := [(0, .ref (eA E 21)), (1, .int v1), (2, .int v2), (3, .int v3), (4, .int 1)]) (q := 58) [1, 2, 3, 4, 0] dX3_giveColumn_56 (by decide) rfl rfl ?_
      refine g_iconst (q := 59) dX3_giveColumn_58 ki_0 rfl ?_
      refine g_istore (lv' := [(0, .ref (eA E 21)), (1, .int v1), (2, .int v2), (3, .int v3), (4, .int 1), (5, .int 0)]) (q := 61) [1, 2, 3, 4, 5, 0] dX3_giveColumn_59 (by decide) rfl rfl ?_
      refine g_lv (lv' := [(0, .ref (eA E 21)), (1, .int v1), (3, .int v3), (4, .int 1), (5, .int 0)]) [0, 1, 3, 4, 5] rfl ?_
      obtain ⟨n1, h⟩ := h
      exact g_X3_giveColumn_61 hE hz n1 _ _ _ _ _ h
    · replace h := h.2 hc17
      refine g_aloadn (k0 := 0) (q := 20) dX3_giveColumn_19 rfl rfl rfl ?_
      refine g_get (v := .ref (eA E 28)) (q := 23) fg_X3_33_21 rfl dX3_giveColumn_20 rfl ?_
      refine g_iload (k0 := 4) (q := 25) dX3_giveColumn_23 rfl rfl ?_
      refine g_iconst (q := 26) dX3_giveColumn_25 ki_m1 rfl ?_
      have hv16 := h.1
      replace h := h.2
      refine g_iast (q := 27) ar_28 hv16 dX3_giveColumn_26 rfl ?_
      refine g_aloadn (k0 := 0) (q := 28) dX3_giveColumn_27 rfl rfl rfl ?_
      refine g_get (v := .ref (eA E 30)) (q := 31) fg_X3_39_21 rfl dX3_giveColumn_28 rfl ?_
      refine g_iload (k0 := 4) (q := 33) dX3_giveColumn_31 rfl rfl ?_
      refine g_iconst (q := 34) dX3_giveColumn_33 ki_0 rfl ?_
      refine g_zast (q := 35) ar_30 hv16 rfl dX3_giveColumn_34 rfl ?_
      refine g_iinc (lv' := [(0, .ref (eA E 21)), (1, .int v1), (2, .int v2), (3, .int v3), (4, .int (v4 + 1))]) (k0 := 4) (w := (v4 + 1)) (q := 38) [1, 2, 3, 4, 0] dX3_giveColumn_35 rfl rfl (by decide) rfl rfl ?_
      refine g_goto (tgt := 10) dX3_giveColumn_38 rfl ?_
      exact ih _ _ _ _ _ h
set_option maxHeartbeats 4000000 in
set_option maxRecDepth 100000 in
theorem c_X3_giveColumn {E : EX} (hE : EH E) {a1 : Int32} {a2 : Int32} {M : Mem} {Q : Int32 → Mem → Prop} (h : P_Matching_giveColumn a1 a2 M Q) : CI yX3_giveColumn cX3_giveColumn 6 (some .boolean) rmX3_giveColumn E [.ref (eA E 21), .int a1, .int a2] M (fun r M => nb r ∧ Q r M) := by
  refine CI.of hE (plainFor_of_name (by decide)) (Nat.le_of_ble_eq_true rfl) (fun x hz => ?_)
  unfold P_Matching_giveColumn at h
  show G x E mX3_giveColumn 0 0 0 [(0, .ref (eA E 21)), (1, .int a1), (2, .int a2)] [] M
  refine g_aloadn (k0 := 0) (q := 1) dX3_giveColumn_0 rfl rfl rfl ?_
  refine g_get (v := .ref (eA E 26)) (q := 4) fg_X3_26_21 rfl dX3_giveColumn_1 rfl ?_
  refine g_iloadn (k0 := 1) (q := 5) dX3_giveColumn_4 rfl rfl rfl ?_
  have hv1 := h.1
  replace h := h.2
  refine g_iald (v := (M.1 26 a1.toNatClampNeg)) (q := 6) ar_26 hv1 rfl dX3_giveColumn_5 rfl ?_
  refine g_istoren (lv' := [(0, .ref (eA E 21)), (1, .int a1), (2, .int a2), (3, .int (M.1 26 a1.toNatClampNeg))]) (q := 7) [1, 2, 3, 0] dX3_giveColumn_6 rfl (by decide) rfl rfl ?_
  refine g_iconst (q := 8) dX3_giveColumn_7 ki_0 rfl ?_
  refine g_istore (lv' := [(0, .ref (eA E 21)), (1, .int a1), (2, .int a2), (3, .int (M.1 26 a1.toNatClampNeg)), (4, .int 0)]) (q := 10) [1, 2, 3, 4, 0] dX3_giveColumn_8 (by decide) rfl rfl ?_
  obtain ⟨n1, h⟩ := h
  exact g_X3_giveColumn_10 hE hz n1 _ _ _ _ _ h
set_option maxHeartbeats 4000000 in
set_option maxRecDepth 100000 in
theorem g_X3_settle_2 {x : GX} {E : EX} (hE : EH E) {Q : Mem → Prop} (hz : ZU x E Q) : ∀ (n : Nat) (v1 : Int32) (v2 : Int32) (M : Mem), P_Matching_settle_2 Q n v1 v2 M → G x E mX3_settle 0 0 2 [(0, .ref (eA E 21)), (1, .int v1), (2, .int v2)] [] M := by
  intro n
  induction n with
  | zero => intro _ _ _ h; exact h.elim
  | succ n ih =>
    intro v1 v2 M h
    unfold P_Matching_settle_2 at h
    refine g_iloadn (k0 := 2) (q := 3) dX3_settle_2 rfl rfl rfl ?_
    refine g_aloadn (k0 := 0) (q := 4) dX3_settle_3 rfl rfl rfl ?_
    refine g_get (v := .int (M.1 21 9)) (q := 7) fg_X3_43_21 rfl dX3_settle_4 rfl ?_
    refine g_ic_ge (tgt := 56) (q := 10) dX3_settle_7 rfl rfl (fun hc11 => ?_) (fun hc11 => ?_)
    · replace h := h.1 hc11
      exact g_vret hz rfl dX3_settle_56 h
    · replace h := h.2 hc11
      refine g_aloadn (k0 := 0) (q := 11) dX3_settle_10 rfl rfl rfl ?_
      refine g_get (v := .ref (eA E 26)) (q := 14) fg_X3_26_21 rfl dX3_settle_11 rfl ?_
      refine g_iloadn (k0 := 1) (q := 15) dX3_settle_14 rfl rfl rfl ?_
      have hv1 := h.1
      replace h := h.2
      refine g_iald (v := (M.1 26 v1.toNatClampNeg)) (q := 16) ar_26 hv1 rfl dX3_settle_15 rfl ?_
      refine g_iloadn (k0 := 2) (q := 17) dX3_settle_16 rfl rfl rfl ?_
      refine g_ic_ne (tgt := 21) (q := 20) dX3_settle_17 rfl rfl (fun hc10 => ?_) (fun hc10 => ?_)
      · replace h := h.1 hc10
        refine g_aloadn (k0 := 0) (q := 22) dX3_settle_21 rfl rfl rfl ?_
        refine g_get (v := .ref (eA E 27)) (q := 25) fg_X3_30_21 rfl dX3_settle_22 rfl ?_
        refine g_iloadn (k0 := 2) (q := 26) dX3_settle_25 rfl rfl rfl ?_
        have hv2 := h.1
        replace h := h.2
        refine g_iald (v := (M.1 27 v2.toNatClampNeg)) (q := 27) ar_27 hv2 rfl dX3_settle_26 rfl ?_
        refine g_iloadn (k0 := 1) (q := 28) dX3_settle_27 rfl rfl rfl ?_
        refine g_ic_le (tgt := 50) (q := 31) dX3_settle_28 rfl rfl (fun hc9 => ?_) (fun hc9 => ?_)
        · replace h := h.1 hc9
          refine g_iinc (lv' := [(0, .ref (eA E 21)), (1, .int v1), (2, .int (v2 + 1))]) (k0 := 2) (w := (v2 + 1)) (q := 53) [1, 2, 0] dX3_settle_50 rfl rfl (by decide) rfl rfl ?_
          refine g_goto (tgt := 2) dX3_settle_53 rfl ?_
          exact ih _ _ _ h
        · replace h := h.2 hc9
          refine g_aloadn (k0 := 0) (q := 32) dX3_settle_31 rfl rfl rfl ?_
          refine g_iloadn (k0 := 1) (q := 33) dX3_settle_32 rfl rfl rfl ?_
          refine g_iloadn (k0 := 2) (q := 34) dX3_settle_33 rfl rfl rfl ?_
          refine g_calli (q := 37) [.int v1, .int v2] [] cv_X3_100 rc_21 (c_X3_isTight hE h) rfl rfl ⟨rfl, rfl, Nat.le_of_ble_eq_true rfl, Nat.le_of_ble_eq_true rfl, Nat.zero_le _, Nat.zero_le _⟩ (Nat.le_of_ble_eq_true rfl) dX3_settle_34 rfl (fun r4 M3 h => ?_)
          obtain ⟨hb_r4, h⟩ := h
          refine g_if_eq (tgt := 50) (q := 40) dX3_settle_37 rfl rfl (fun hc8 => ?_) (fun hc8 => ?_)
          · replace h := h.1 hc8
            refine g_iinc (lv' := [(0, .ref (eA E 21)), (1, .int v1), (2, .int (v2 + 1))]) (k0 := 2) (w := (v2 + 1)) (q := 53) [1, 2, 0] dX3_settle_50 rfl rfl (by decide) rfl rfl ?_
            refine g_goto (tgt := 2) dX3_settle_53 rfl ?_
            exact ih _ _ _ h
          · replace h := h.2 hc8
            refine g_aloadn (k0 := 0) (q := 41) dX3_settle_40 rfl rfl rfl ?_
            refine g_iloadn (k0 := 1) (q := 42) dX3_settle_41 rfl rfl rfl ?_
            refine g_iloadn (k0 := 2) (q := 43) dX3_settle_42 rfl rfl rfl ?_
            refine g_calli (q := 46) [.int v1, .int v2] [] cv_X3_104 rc_21 (c_X3_giveColumn hE h) rfl rfl ⟨rfl, rfl, Nat.le_of_ble_eq_true rfl, Nat.le_of_ble_eq_true rfl, Nat.zero_le _, Nat.zero_le _⟩ (Nat.le_of_ble_eq_true rfl) dX3_settle_43 rfl (fun r6 M5 h => ?_)
            obtain ⟨hb_r6, h⟩ := h
            refine g_if_eq (tgt := 50) (q := 49) dX3_settle_46 rfl rfl (fun hc7 => ?_) (fun hc7 => ?_)
            · replace h := h.1 hc7
              refine g_iinc (lv' := [(0, .ref (eA E 21)), (1, .int v1), (2, .int (v2 + 1))]) (k0 := 2) (w := (v2 + 1)) (q := 53) [1, 2, 0] dX3_settle_50 rfl rfl (by decide) rfl rfl ?_
              refine g_goto (tgt := 2) dX3_settle_53 rfl ?_
              exact ih _ _ _ h
            · replace h := h.2 hc7
              exact g_vret hz rfl dX3_settle_49 h
      · replace h := h.2 hc10
        exact g_vret hz rfl dX3_settle_20 h
set_option maxHeartbeats 4000000 in
set_option maxRecDepth 100000 in
theorem c_X3_settle {E : EX} (hE : EH E) {a1 : Int32} {M : Mem} {Q : Mem → Prop} (h : P_Matching_settle a1 M Q) : CU yX3_settle cX3_settle 3 none rmX3_settle E [.ref (eA E 21), .int a1] M Q := by
  refine CU.of hE (plainFor_of_name (by decide)) (Nat.le_of_ble_eq_true rfl) (fun x hz => ?_)
  unfold P_Matching_settle at h
  show G x E mX3_settle 0 0 0 [(0, .ref (eA E 21)), (1, .int a1)] [] M
  refine g_iconst (q := 1) dX3_settle_0 ki_0 rfl ?_
  refine g_istoren (lv' := [(0, .ref (eA E 21)), (1, .int a1), (2, .int 0)]) (q := 2) [1, 2, 0] dX3_settle_1 rfl (by decide) rfl rfl ?_
  obtain ⟨n1, h⟩ := h
  exact g_X3_settle_2 hE hz n1 _ _ _ h
set_option maxHeartbeats 4000000 in
set_option maxRecDepth 100000 in
theorem g_X3_lookFrom_81 {x : GX} {E : EX} (hE : EH E) {Q : Int32 → Mem → Prop} (hz : ZI x E Q) {K5 : Int32 → Int32 → Int32 → Int32 → Mem → Prop} (hK5 : ∀ (v1 : Int32) (v2 : Int32) (v3 : Int32) (v4 : Int32) (M : Mem), K5 v1 v2 v3 v4 M → G x E mX3_lookFrom 0 0 5 [(0, .ref (eA E 21)), (1, .int v1), (2, .int v2), (3, .int v3), (4, .int v4)] [] M) : ∀ (v1 : Int32) (v2 : Int32) (v3 : Int32) (v4 : Int32) (M : Mem), P_Matching_lookFrom_81 K5 Q v1 v2 v3 v4 M → G x E mX3_lookFrom 0 0 81 [(0, .ref (eA E 21)), (1, .int v1), (2, .int v2), (3, .int v3), (4, .int v4)] [] M := by
  intro v1 v2 v3 v4 M h
  unfold P_Matching_lookFrom_81 at h
  refine g_iloadn (k0 := 3) (q := 82) dX3_lookFrom_81 rfl rfl rfl ?_
  refine g_iconst (q := 83) dX3_lookFrom_82 ki_m1 rfl ?_
  refine g_ic_eq (tgt := 103) (q := 86) dX3_lookFrom_83 rfl rfl (fun hc8 => ?_) (fun hc8 => ?_)
  · replace h := h.1 hc8
    refine g_iload (k0 := 4) (q := 105) dX3_lookFrom_103 rfl rfl ?_
    refine g_istoren (lv' := [(0, .ref (eA E 21)), (1, .int v1), (2, .int v2), (3, .int v4), (4, .int v4)]) (q := 106) [1, 2, 3, 0, 4] dX3_lookFrom_105 rfl (by decide) rfl rfl ?_
    refine g_iinc (lv' := [(0, .ref (eA E 21)), (1, .int v1), (2, .int v2), (3, .int v4), (4, .int (v4 + 1))]) (k0 := 4) (w := (v4 + 1)) (q := 109) [1, 2, 3, 4, 0] dX3_lookFrom_106 rfl rfl (by decide) rfl rfl ?_
    refine g_goto (tgt := 5) dX3_lookFrom_109 rfl ?_
    exact hK5 _ _ _ _ _ h
  · replace h := h.2 hc8
    refine g_aloadn (k0 := 0) (q := 87) dX3_lookFrom_86 rfl rfl rfl ?_
    refine g_get (v := .ref (eA E 25)) (q := 90) fg_X3_23_21 rfl dX3_lookFrom_87 rfl ?_
    refine g_iload (k0 := 4) (q := 92) dX3_lookFrom_90 rfl rfl ?_
    have hv5 := h.1
    replace h := h.2
    refine g_lald (v := (M.2 25 v4.toNatClampNeg)) (q := 93) ar_25 hv5 rfl dX3_lookFrom_92 rfl ?_
    refine g_aloadn (k0 := 0) (q := 94) dX3_lookFrom_93 rfl rfl rfl ?_
    refine g_get (v := .ref (eA E 25)) (q := 97) fg_X3_23_21 rfl dX3_lookFrom_94 rfl ?_
    refine g_iloadn (k0 := 3) (q := 98) dX3_lookFrom_97 rfl rfl rfl ?_
    have hv6 := h.1
    replace h := h.2
    refine g_lald (v := (M.2 25 v3.toNatClampNeg)) (q := 99) ar_25 hv6 rfl dX3_lookFrom_98 rfl ?_
    refine g_lc_ge (tgt := 106) (q := 100) (q2 := 103) dX3_lookFrom_99 rfl dX3_lookFrom_100 rfl rfl (fun hc7 => ?_) (fun hc7 => ?_)
    · replace h := h.1 hc7
      refine g_iinc (lv' := [(0, .ref (eA E 21)), (1, .int v1), (2, .int v2), (3, .int v3), (4, .int (v4 + 1))]) (k0 := 4) (w := (v4 + 1)) (q := 109) [1, 2, 3, 4, 0] dX3_lookFrom_106 rfl rfl (by decide) rfl rfl ?_
      refine g_goto (tgt := 5) dX3_lookFrom_109 rfl ?_
      exact hK5 _ _ _ _ _ h
    · replace h := h.2 hc7
      refine g_iload (k0 := 4) (q := 105) dX3_lookFrom_103 rfl rfl ?_
      refine g_istoren (lv' := [(0, .ref (eA E 21)), (1, .int v1), (2, .int v2), (3, .int v4), (4, .int v4)]) (q := 106) [1, 2, 3, 0, 4] dX3_lookFrom_105 rfl (by decide) rfl rfl ?_
      refine g_iinc (lv' := [(0, .ref (eA E 21)), (1, .int v1), (2, .int v2), (3, .int v4), (4, .int (v4 + 1))]) (k0 := 4) (w := (v4 + 1)) (q := 109) [1, 2, 3, 4, 0] dX3_lookFrom_106 rfl rfl (by decide) rfl rfl ?_
      refine g_goto (tgt := 5) dX3_lookFrom_109 rfl ?_
      exact hK5 _ _ _ _ _ h
set_option maxHeartbeats 4000000 in
set_option maxRecDepth 100000 in
theorem g_X3_lookFrom_5 {x : GX} {E : EX} (hE : EH E) {Q : Int32 → Mem → Prop} (hz : ZI x E Q) : ∀ (n : Nat) (v1 : Int32) (v2 : Int32) (v3 : Int32) (v4 : Int32) (M : Mem), P_Matching_lookFrom_5 Q n v1 v2 v3 v4 M → G x E mX3_lookFrom 0 0 5 [(0, .ref (eA E 21)), (1, .int v1), (2, .int v2), (3, .int v3), (4, .int v4)] [] M := by
  intro n
  induction n with
  | zero => intro _ _ _ _ _ h; exact h.elim
  | succ n ih =>
    intro v1 v2 v3 v4 M h
    unfold P_Matching_lookFrom_5 at h
    refine g_iload (k0 := 4) (q := 7) dX3_lookFrom_5 rfl rfl ?_
    refine g_aloadn (k0 := 0) (q := 8) dX3_lookFrom_7 rfl rfl rfl ?_
    refine g_get (v := .int (M.1 21 10)) (q := 11) fg_X3_47_21 rfl dX3_lookFrom_8 rfl ?_
    refine g_ic_ge (tgt := 112) (q := 14) dX3_lookFrom_11 rfl rfl (fun hc11 => ?_) (fun hc11 => ?_)
    · replace h := h.1 hc11
      refine g_iloadn (k0 := 3) (q := 113) dX3_lookFrom_112 rfl rfl rfl ?_
      exact g_iret hz rfl dX3_lookFrom_113 h
    · replace h := h.2 hc11
      refine g_aloadn (k0 := 0) (q := 15) dX3_lookFrom_14 rfl rfl rfl ?_
      refine g_get (v := .ref (eA E 30)) (q := 18) fg_X3_39_21 rfl dX3_lookFrom_15 rfl ?_
      refine g_iload (k0 := 4) (q := 20) dX3_lookFrom_18 rfl rfl ?_
      have hv1 := h.1
      replace h := h.2
      refine g_zald (v := (M.1 30 v4.toNatClampNeg)) (q := 21) ar_30 hv1 rfl dX3_lookFrom_20 rfl ?_
      refine g_if_eq (tgt := 27) (q := 24) dX3_lookFrom_21 rfl rfl (fun hc10 => ?_) (fun hc10 => ?_)
      · replace h := h.1 hc10
        refine g_aloadn (k0 := 0) (q := 28) dX3_lookFrom_27 rfl rfl rfl ?_
        refine g_iloadn (k0 := 1) (q := 29) dX3_lookFrom_28 rfl rfl rfl ?_
        refine g_iload (k0 := 4) (q := 31) dX3_lookFrom_29 rfl rfl ?_
        refine g_calll (q := 34) [.int v1, .int v4] [] cv_X3_77 rc_21 (c_X3_price hE h) rfl rfl ⟨rfl, rfl, Nat.le_of_ble_eq_true rfl, Nat.le_of_ble_eq_true rfl, Nat.zero_le _, Nat.zero_le _⟩ (Nat.le_of_ble_eq_true rfl) dX3_lookFrom_31 rfl (fun r3 M2 h => ?_)
        refine g_aloadn (k0 := 0) (q := 35) dX3_lookFrom_34 rfl rfl rfl ?_
        refine g_get (v := .ref (eA E 23)) (q := 38) fg_X3_17_21 rfl dX3_lookFrom_35 rfl ?_
        refine g_iloadn (k0 := 1) (q := 39) dX3_lookFrom_38 rfl rfl rfl ?_
        have hv4 := h.1
        replace h := h.2
        refine g_lald (v := (M2.2 23 v1.toNatClampNeg)) (q := 40) ar_23 hv4 rfl dX3_lookFrom_39 rfl ?_
        refine g_lsub (q := 41) dX3_lookFrom_40 rfl ?_
        refine g_aloadn (k0 := 0) (q := 42) dX3_lookFrom_41 rfl rfl rfl ?_
        refine g_get (v := .ref (eA E 24)) (q := 45) fg_X3_20_21 rfl dX3_lookFrom_42 rfl ?_
        refine g_iload (k0 := 4) (q := 47) dX3_lookFrom_45 rfl rfl ?_
        refine g_lald (v := (M2.2 24 v4.toNatClampNeg)) (q := 48) ar_24 hv1 rfl dX3_lookFrom_47 rfl ?_
        refine g_lsub (q := 49) dX3_lookFrom_48 rfl ?_
        refine g_lstore (lv' := [(0, .ref (eA E 21)), (1, .int v1), (2, .int v2), (3, .int v3), (4, .int v4), (5, .long ((r3 - (M2.2 23 v1.toNatClampNeg)) - (M2.2 24 v4.toNatClampNeg)))]) (q := 51) [1, 2, 3, 4, 5, 0] dX3_lookFrom_49 (by decide) rfl rfl ?_
        refine g_lload (k0 := 5) (q := 53) dX3_lookFrom_51 rfl rfl ?_
        refine g_aloadn (k0 := 0) (q := 54) dX3_lookFrom_53 rfl rfl rfl ?_
        refine g_get (v := .ref (eA E 25)) (q := 57) fg_X3_23_21 rfl dX3_lookFrom_54 rfl ?_
        refine g_iload (k0 := 4) (q := 59) dX3_lookFrom_57 rfl rfl ?_
        refine g_lald (v := (M2.2 25 v4.toNatClampNeg)) (q := 60) ar_25 hv1 rfl dX3_lookFrom_59 rfl ?_
        refine g_lc_ge (tgt := 81) (q := 61) (q2 := 64) dX3_lookFrom_60 rfl dX3_lookFrom_61 rfl rfl (fun hc9 => ?_) (fun hc9 => ?_)
        · replace h := h.1 hc9
          refine g_lv (lv' := [(0, .ref (eA E 21)), (1, .int v1), (2, .int v2), (3, .int v3), (4, .int v4)]) [0, 1, 2, 3, 4] rfl ?_
          exact g_X3_lookFrom_81 hE hz ih _ _ _ _ _ h
        · replace h := h.2 hc9
          refine g_aloadn (k0 := 0) (q := 65) dX3_lookFrom_64 rfl rfl rfl ?_
          refine g_get (v := .ref (eA E 25)) (q := 68) fg_X3_23_21 rfl dX3_lookFrom_65 rfl ?_
          refine g_iload (k0 := 4) (q := 70) dX3_lookFrom_68 rfl rfl ?_
          refine g_lload (k0 := 5) (q := 72) dX3_lookFrom_70 rfl rfl ?_
          refine g_last (q := 73) ar_25 hv1 dX3_lookFrom_72 rfl ?_
          refine g_aloadn (k0 := 0) (q := 74) dX3_lookFrom_73 rfl rfl rfl ?_
          refine g_get (v := .ref (eA E 28)) (q := 77) fg_X3_33_21 rfl dX3_lookFrom_74 rfl ?_
          refine g_iload (k0 := 4) (q := 79) dX3_lookFrom_77 rfl rfl ?_
          refine g_iloadn (k0 := 2) (q := 80) dX3_lookFrom_79 rfl rfl rfl ?_
          refine g_iast (q := 81) ar_28 hv1 dX3_lookFrom_80 rfl ?_
          refine g_lv (lv' := [(0, .ref (eA E 21)), (1, .int v1), (2, .int v2), (3, .int v3), (4, .int v4)]) [0, 1, 2, 3, 4] rfl ?_
          exact g_X3_lookFrom_81 hE hz ih _ _ _ _ _ h
      · replace h := h.2 hc10
        refine g_goto (tgt := 106) dX3_lookFrom_24 rfl ?_
        refine g_iinc (lv' := [(0, .ref (eA E 21)), (1, .int v1), (2, .int v2), (3, .int v3), (4, .int (v4 + 1))]) (k0 := 4) (w := (v4 + 1)) (q := 109) [1, 2, 3, 4, 0] dX3_lookFrom_106 rfl rfl (by decide) rfl rfl ?_
        refine g_goto (tgt := 5) dX3_lookFrom_109 rfl ?_
        exact ih _ _ _ _ _ h
set_option maxHeartbeats 4000000 in
set_option maxRecDepth 100000 in
theorem c_X3_lookFrom {E : EX} (hE : EH E) {a1 : Int32} {a2 : Int32} {M : Mem} {Q : Int32 → Mem → Prop} (h : P_Matching_lookFrom a1 a2 M Q) : CI yX3_lookFrom cX3_lookFrom 7 (some .int) rmX3_lookFrom E [.ref (eA E 21), .int a1, .int a2] M Q := by
  refine CI.of hE (plainFor_of_name (by decide)) (Nat.le_of_ble_eq_true rfl) (fun x hz => ?_)
  unfold P_Matching_lookFrom at h
  show G x E mX3_lookFrom 0 0 0 [(0, .ref (eA E 21)), (1, .int a1), (2, .int a2)] [] M
  refine g_iconst (q := 1) dX3_lookFrom_0 ki_m1 rfl ?_
  refine g_istoren (lv' := [(0, .ref (eA E 21)), (1, .int a1), (2, .int a2), (3, .int (-1))]) (q := 2) [1, 2, 3, 0] dX3_lookFrom_1 rfl (by decide) rfl rfl ?_
  refine g_iconst (q := 3) dX3_lookFrom_2 ki_0 rfl ?_
  refine g_istore (lv' := [(0, .ref (eA E 21)), (1, .int a1), (2, .int a2), (3, .int (-1)), (4, .int 0)]) (q := 5) [1, 2, 3, 4, 0] dX3_lookFrom_3 (by decide) rfl rfl ?_
  obtain ⟨n1, h⟩ := h
  exact g_X3_lookFrom_5 hE hz n1 _ _ _ _ _ h
set_option maxHeartbeats 4000000 in
set_option maxRecDepth 100000 in
theorem c_X3_isPosition {E : EX} (hE : EH E) {a1 : Int32} {M : Mem} {Q : Int32 → Mem → Prop} (h : P_Matching_isPosition a1 M Q) : CI yX3_isPosition cX3_isPosition 2 (some .boolean) rmX3_isPosition E [.ref (eA E 21), .int a1] M (fun r M => nb r ∧ Q r M) := by
  refine CI.of hE (plainFor_of_name (by decide)) (Nat.le_of_ble_eq_true rfl) (fun x hz => ?_)
  unfold P_Matching_isPosition at h
  show G x E mX3_isPosition 0 0 0 [(0, .ref (eA E 21)), (1, .int a1)] [] M
  refine g_iloadn (k0 := 1) (q := 1) dX3_isPosition_0 rfl rfl rfl ?_
  refine g_if_lt (tgt := 16) (q := 4) dX3_isPosition_1 rfl rfl (fun hc2 => ?_) (fun hc2 => ?_)
  · replace h := h.1 hc2
    refine g_iconst (q := 17) dX3_isPosition_16 ki_0 rfl ?_
    exact g_zret hz rfl rfl dX3_isPosition_17 h
  · replace h := h.2 hc2
    refine g_iloadn (k0 := 1) (q := 5) dX3_isPosition_4 rfl rfl rfl ?_
    refine g_aloadn (k0 := 0) (q := 6) dX3_isPosition_5 rfl rfl rfl ?_
    refine g_get (v := .int (M.1 21 9)) (q := 9) fg_X3_43_21 rfl dX3_isPosition_6 rfl ?_
    refine g_ic_ge (tgt := 16) (q := 12) dX3_isPosition_9 rfl rfl (fun hc1 => ?_) (fun hc1 => ?_)
    · replace h := h.1 hc1
      refine g_iconst (q := 17) dX3_isPosition_16 ki_0 rfl ?_
      exact g_zret hz rfl rfl dX3_isPosition_17 h
    · replace h := h.2 hc1
      refine g_iconst (q := 13) dX3_isPosition_12 ki_1 rfl ?_
      refine g_goto (tgt := 17) dX3_isPosition_13 rfl ?_
      exact g_zret hz rfl rfl dX3_isPosition_17 h
set_option maxHeartbeats 4000000 in
set_option maxRecDepth 100000 in
theorem g_X3_shiftDuals_13 {x : GX} {E : EX} (hE : EH E) {Q : Mem → Prop} (hz : ZU x E Q) : ∀ (n : Nat) (v2 : Int64) (v4 : Int32) (M : Mem), P_Matching_shiftDuals_13 Q n v2 v4 M → G x E mX3_shiftDuals 0 0 13 [(0, .ref (eA E 21)), (2, .long v2), (4, .int v4)] [] M := by
  intro n
  induction n with
  | zero => intro _ _ _ h; exact h.elim
  | succ n ih =>
    intro v2 v4 M h
    unfold P_Matching_shiftDuals_13 at h
    refine g_iload (k0 := 2) (q := 15) dX3_shiftDuals_13 rfl rfl ?_
    refine g_aloadn (k0 := 0) (q := 16) dX3_shiftDuals_15 rfl rfl rfl ?_
    refine g_get (v := .int (M.1 21 10)) (q := 19) fg_X3_47_21 rfl dX3_shiftDuals_16 rfl ?_
    refine g_ic_ge (tgt := 93) (q := 22) dX3_shiftDuals_19 rfl rfl (fun hc8 => ?_) (fun hc8 => ?_)
    · replace h := h.1 hc8
      exact g_vret hz rfl dX3_shiftDuals_93 h
    · replace h := h.2 hc8
      refine g_aloadn (k0 := 0) (q := 23) dX3_shiftDuals_22 rfl rfl rfl ?_
      refine g_get (v := .ref (eA E 30)) (q := 26) fg_X3_39_21 rfl dX3_shiftDuals_23 rfl ?_
      refine g_iload (k0 := 2) (q := 28) dX3_shiftDuals_26 rfl rfl ?_
      have hv2 := h.1
      replace h := h.2
      refine g_zald (v := (M.1 30 v4.toNatClampNeg)) (q := 29) ar_30 hv2 rfl dX3_shiftDuals_28 rfl ?_
      refine g_if_ne (tgt := 46) (q := 32) dX3_shiftDuals_29 rfl rfl (fun hc7 => ?_) (fun hc7 => ?_)
      · replace h := h.1 hc7
        refine g_aloadn (k0 := 0) (q := 47) dX3_shiftDuals_46 rfl rfl rfl ?_
        refine g_aloadn (k0 := 0) (q := 48) dX3_shiftDuals_47 rfl rfl rfl ?_
        refine g_get (v := .ref (eA E 27)) (q := 51) fg_X3_30_21 rfl dX3_shiftDuals_48 rfl ?_
        refine g_iload (k0 := 2) (q := 53) dX3_shiftDuals_51 rfl rfl ?_
        refine g_iald (v := (M.1 27 v4.toNatClampNeg)) (q := 54) ar_27 hv2 rfl dX3_shiftDuals_53 rfl ?_
        refine g_calli (q := 57) [.int (M.1 27 v4.toNatClampNeg)] [] cv_X3_61 rc_21 (c_X3_isPosition hE h) rfl rfl ⟨rfl, rfl, Nat.le_of_ble_eq_true rfl, Nat.le_of_ble_eq_true rfl, Nat.zero_le _, Nat.zero_le _⟩ (Nat.le_of_ble_eq_true rfl) dX3_shiftDuals_54 rfl (fun r4 M3 h => ?_)
        obtain ⟨hb_r4, h⟩ := h
        refine g_if_eq (tgt := 87) (q := 60) dX3_shiftDuals_57 rfl rfl (fun hc6 => ?_) (fun hc6 => ?_)
        · replace h := h.1 hc6
          refine g_iinc (lv' := [(0, .ref (eA E 21)), (2, .long v2), (4, .int (v4 + 1))]) (k0 := 2) (w := (v4 + 1)) (q := 90) [1, 2, 0] dX3_shiftDuals_87 rfl rfl (by decide) rfl rfl ?_
          refine g_goto (tgt := 13) dX3_shiftDuals_90 rfl ?_
          exact ih _ _ _ h
        · replace h := h.2 hc6
          refine g_aloadn (k0 := 0) (q := 61) dX3_shiftDuals_60 rfl rfl rfl ?_
          refine g_get (v := .ref (eA E 24)) (q := 64) fg_X3_20_21 rfl dX3_shiftDuals_61 rfl ?_
          refine g_iload (k0 := 2) (q := 66) dX3_shiftDuals_64 rfl rfl ?_
          refine g_dup2 (q := 67) dX3_shiftDuals_66 rfl rfl rfl ?_
          refine g_lald (v := (M3.2 24 v4.toNatClampNeg)) (q := 68) ar_24 hv2 rfl dX3_shiftDuals_67 rfl ?_
          refine g_lloadn (k0 := 1) (q := 69) dX3_shiftDuals_68 rfl rfl rfl ?_
          refine g_lsub (q := 70) dX3_shiftDuals_69 rfl ?_
          refine g_last (q := 71) ar_24 hv2 dX3_shiftDuals_70 rfl ?_
          refine g_aloadn (k0 := 0) (q := 72) dX3_shiftDuals_71 rfl rfl rfl ?_
          refine g_get (v := .ref (eA E 23)) (q := 75) fg_X3_17_21 rfl dX3_shiftDuals_72 rfl ?_
          refine g_aloadn (k0 := 0) (q := 76) dX3_shiftDuals_75 rfl rfl rfl ?_
          refine g_get (v := .ref (eA E 27)) (q := 79) fg_X3_30_21 rfl dX3_shiftDuals_76 rfl ?_
          refine g_iload (k0 := 2) (q := 81) dX3_shiftDuals_79 rfl rfl ?_
          refine g_iald (v := (M3.1 27 v4.toNatClampNeg)) (q := 82) ar_27 hv2 rfl dX3_shiftDuals_81 rfl ?_
          refine g_dup2 (q := 83) dX3_shiftDuals_82 rfl rfl rfl ?_
          have hv5 := h.1
          replace h := h.2
          refine g_lald (v := (M3.2 23 ((M3.1 27 v4.toNatClampNeg)).toNatClampNeg)) (q := 84) ar_23 hv5 rfl dX3_shiftDuals_83 rfl ?_
          refine g_lloadn (k0 := 1) (q := 85) dX3_shiftDuals_84 rfl rfl rfl ?_
          refine g_ladd (q := 86) dX3_shiftDuals_85 rfl ?_
          refine g_last (q := 87) ar_23 hv5 dX3_shiftDuals_86 rfl ?_
          refine g_iinc (lv' := [(0, .ref (eA E 21)), (2, .long v2), (4, .int (v4 + 1))]) (k0 := 2) (w := (v4 + 1)) (q := 90) [1, 2, 0] dX3_shiftDuals_87 rfl rfl (by decide) rfl rfl ?_
          refine g_goto (tgt := 13) dX3_shiftDuals_90 rfl ?_
          exact ih _ _ _ h
      · replace h := h.2 hc7
        refine g_aloadn (k0 := 0) (q := 33) dX3_shiftDuals_32 rfl rfl rfl ?_
        refine g_get (v := .ref (eA E 25)) (q := 36) fg_X3_23_21 rfl dX3_shiftDuals_33 rfl ?_
        refine g_iload (k0 := 2) (q := 38) dX3_shiftDuals_36 rfl rfl ?_
        refine g_dup2 (q := 39) dX3_shiftDuals_38 rfl rfl rfl ?_
        refine g_lald (v := (M.2 25 v4.toNatClampNeg)) (q := 40) ar_25 hv2 rfl dX3_shiftDuals_39 rfl ?_
        refine g_lloadn (k0 := 1) (q := 41) dX3_shiftDuals_40 rfl rfl rfl ?_
        refine g_lsub (q := 42) dX3_shiftDuals_41 rfl ?_
        refine g_last (q := 43) ar_25 hv2 dX3_shiftDuals_42 rfl ?_
        refine g_goto (tgt := 87) dX3_shiftDuals_43 rfl ?_
        refine g_iinc (lv' := [(0, .ref (eA E 21)), (2, .long v2), (4, .int (v4 + 1))]) (k0 := 2) (w := (v4 + 1)) (q := 90) [1, 2, 0] dX3_shiftDuals_87 rfl rfl (by decide) rfl rfl ?_
        refine g_goto (tgt := 13) dX3_shiftDuals_90 rfl ?_
        exact ih _ _ _ h
set_option maxHeartbeats 4000000 in
set_option maxRecDepth 100000 in
theorem c_X3_shiftDuals {E : EX} (hE : EH E) {a1 : Int32} {a2 : Int64} {M : Mem} {Q : Mem → Prop} (h : P_Matching_shiftDuals a1 a2 M Q) : CU yX3_shiftDuals cX3_shiftDuals 5 none rmX3_shiftDuals E [.ref (eA E 21), .int a1, .long a2] M Q := by
  refine CU.of hE (plainFor_of_name (by decide)) (Nat.le_of_ble_eq_true rfl) (fun x hz => ?_)
  unfold P_Matching_shiftDuals at h
  show G x E mX3_shiftDuals 0 0 0 [(0, .ref (eA E 21)), (1, .int a1), (2, .long a2)] [] M
  refine g_aloadn (k0 := 0) (q := 1) dX3_shiftDuals_0 rfl rfl rfl ?_
  refine g_get (v := .ref (eA E 23)) (q := 4) fg_X3_17_21 rfl dX3_shiftDuals_1 rfl ?_
  refine g_iloadn (k0 := 1) (q := 5) dX3_shiftDuals_4 rfl rfl rfl ?_
  refine g_dup2 (q := 6) dX3_shiftDuals_5 rfl rfl rfl ?_
  have hv1 := h.1
  replace h := h.2
  refine g_lald (v := (M.2 23 a1.toNatClampNeg)) (q := 7) ar_23 hv1 rfl dX3_shiftDuals_6 rfl ?_
  refine g_lloadn (k0 := 2) (q := 8) dX3_shiftDuals_7 rfl rfl rfl ?_
  refine g_ladd (q := 9) dX3_shiftDuals_8 rfl ?_
  refine g_last (q := 10) ar_23 hv1 dX3_shiftDuals_9 rfl ?_
  refine g_iconst (q := 11) dX3_shiftDuals_10 ki_0 rfl ?_
  refine g_istore (lv' := [(0, .ref (eA E 21)), (1, .int a1), (2, .long a2), (4, .int 0)]) (q := 13) [1, 2, 3, 0] dX3_shiftDuals_11 (by decide) rfl rfl ?_
  refine g_lv (lv' := [(0, .ref (eA E 21)), (2, .long a2), (4, .int 0)]) [0, 2, 3] rfl ?_
  obtain ⟨n1, h⟩ := h
  exact g_X3_shiftDuals_13 hE hz n1 _ _ _ h
set_option maxHeartbeats 4000000 in
set_option maxRecDepth 100000 in
theorem g_X3_admit_46 {x : GX} {E : EX} (hE : EH E) {Q : Mem → Prop} (hz : ZU x E Q) : ∀ (n : Nat) (v1 : Int32) (v2 : Int32) (v3 : Int32) (v4 : Int32) (M : Mem), P_Matching_admit_46 Q n v1 v2 v3 v4 M → G x E mX3_admit 0 0 46 [(0, .ref (eA E 21)), (1, .int v1), (2, .int v2), (3, .int v3), (4, .int v4)] [] M := by
  intro n
  induction n with
  | zero => intro _ _ _ _ _ h; exact h.elim
  | succ n ih =>
    intro v1 v2 v3 v4 M h
    unfold P_Matching_admit_46 at h
    refine g_iload (k0 := 4) (q := 48) dX3_admit_46 rfl rfl ?_
    refine g_aloadn (k0 := 0) (q := 49) dX3_admit_48 rfl rfl rfl ?_
    refine g_get (v := .int (M.1 21 10)) (q := 52) fg_X3_47_21 rfl dX3_admit_49 rfl ?_
    refine g_ic_ge (tgt := 126) (q := 55) dX3_admit_52 rfl rfl (fun hc12 => ?_) (fun hc12 => ?_)
    · replace h := h.1 hc12
      exact g_vret hz rfl dX3_admit_126 h
    · replace h := h.2 hc12
      refine g_aloadn (k0 := 0) (q := 56) dX3_admit_55 rfl rfl rfl ?_
      refine g_iloadn (k0 := 2) (q := 57) dX3_admit_56 rfl rfl rfl ?_
      refine g_iloadn (k0 := 3) (q := 58) dX3_admit_57 rfl rfl rfl ?_
      refine g_calli (q := 61) [.int v2, .int v3] [] cv_X3_83 rc_21 (c_X3_lookFrom hE h) rfl rfl ⟨rfl, rfl, Nat.le_of_ble_eq_true rfl, Nat.le_of_ble_eq_true rfl, Nat.zero_le _, Nat.zero_le _⟩ (Nat.le_of_ble_eq_true rfl) dX3_admit_58 rfl (fun r2 M1 h => ?_)
      refine g_istore (lv' := [(0, .ref (eA E 21)), (1, .int v1), (2, .int v2), (3, .int v3), (4, .int v4), (5, .int r2)]) (q := 63) [1, 2, 3, 4, 5, 0] dX3_admit_61 (by decide) rfl rfl ?_
      refine g_aloadn (k0 := 0) (q := 64) dX3_admit_63 rfl rfl rfl ?_
      refine g_iload (k0 := 5) (q := 66) dX3_admit_64 rfl rfl ?_
      refine g_calli (q := 69) [.int r2] [] cv_X3_86 rc_21 (c_X3_isColumn hE h) rfl rfl ⟨rfl, rfl, Nat.le_of_ble_eq_true rfl, Nat.le_of_ble_eq_true rfl, Nat.zero_le _, Nat.zero_le _⟩ (Nat.le_of_ble_eq_true rfl) dX3_admit_66 rfl (fun r4 M3 h => ?_)
      obtain ⟨hb_r4, h⟩ := h
      refine g_if_ne (tgt := 73) (q := 72) dX3_admit_69 rfl rfl (fun hc11 => ?_) (fun hc11 => ?_)
      · replace h := h.1 hc11
        refine g_aloadn (k0 := 0) (q := 74) dX3_admit_73 rfl rfl rfl ?_
        refine g_iloadn (k0 := 1) (q := 75) dX3_admit_74 rfl rfl rfl ?_
        refine g_aloadn (k0 := 0) (q := 76) dX3_admit_75 rfl rfl rfl ?_
        refine g_get (v := .ref (eA E 25)) (q := 79) fg_X3_23_21 rfl dX3_admit_76 rfl ?_
        refine g_iload (k0 := 5) (q := 81) dX3_admit_79 rfl rfl ?_
        have hv5 := h.1
        replace h := h.2
        refine g_lald (v := (M3.2 25 r2.toNatClampNeg)) (q := 82) ar_25 hv5 rfl dX3_admit_81 rfl ?_
        refine g_callv (q := 85) [.int v1, .long (M3.2 25 r2.toNatClampNeg)] [] cv_X3_89 rc_21 (c_X3_shiftDuals hE h) rfl rfl ⟨rfl, rfl, Nat.le_of_ble_eq_true rfl, Nat.le_of_ble_eq_true rfl, Nat.zero_le _, Nat.zero_le _⟩ (Nat.le_of_ble_eq_true rfl) dX3_admit_82 rfl (fun M6 h => ?_)
        refine g_aloadn (k0 := 0) (q := 86) dX3_admit_85 rfl rfl rfl ?_
        refine g_get (v := .ref (eA E 30)) (q := 89) fg_X3_39_21 rfl dX3_admit_86 rfl ?_
        refine g_iload (k0 := 5) (q := 91) dX3_admit_89 rfl rfl ?_
        refine g_iconst (q := 92) dX3_admit_91 ki_1 rfl ?_
        refine g_zast (q := 93) ar_30 hv5 rfl dX3_admit_92 rfl ?_
        refine g_aloadn (k0 := 0) (q := 94) dX3_admit_93 rfl rfl rfl ?_
        refine g_get (v := .ref (eA E 27)) (q := 97) fg_X3_30_21 rfl dX3_admit_94 rfl ?_
        refine g_iload (k0 := 5) (q := 99) dX3_admit_97 rfl rfl ?_
        refine g_iald (v := (M6.1 27 r2.toNatClampNeg)) (q := 100) ar_27 hv5 rfl dX3_admit_99 rfl ?_
        refine g_istoren (lv' := [(0, .ref (eA E 21)), (1, .int v1), (2, .int (M6.1 27 r2.toNatClampNeg)), (3, .int v3), (4, .int v4), (5, .int r2)]) (q := 101) [1, 2, 0, 3, 4, 5] dX3_admit_100 rfl (by decide) rfl rfl ?_
        refine g_iload (k0 := 5) (q := 103) dX3_admit_101 rfl rfl ?_
        refine g_istoren (lv' := [(0, .ref (eA E 21)), (1, .int v1), (2, .int (M6.1 27 r2.toNatClampNeg)), (3, .int r2), (4, .int v4), (5, .int r2)]) (q := 104) [1, 2, 3, 0, 4, 5] dX3_admit_103 rfl (by decide) rfl rfl ?_
        refine g_aloadn (k0 := 0) (q := 105) dX3_admit_104 rfl rfl rfl ?_
        refine g_iloadn (k0 := 2) (q := 106) dX3_admit_105 rfl rfl rfl ?_
        refine g_calli (q := 109) [.int (M6.1 27 r2.toNatClampNeg)] [] cv_X3_61 rc_21 (c_X3_isPosition hE h) rfl rfl ⟨rfl, rfl, Nat.le_of_ble_eq_true rfl, Nat.le_of_ble_eq_true rfl, Nat.zero_le _, Nat.zero_le _⟩ (Nat.le_of_ble_eq_true rfl) dX3_admit_106 rfl (fun r8 M7 h => ?_)
        obtain ⟨hb_r8, h⟩ := h
        refine g_if_ne (tgt := 120) (q := 112) dX3_admit_109 rfl rfl (fun hc10 => ?_) (fun hc10 => ?_)
        · replace h := h.1 hc10
          refine g_iinc (lv' := [(0, .ref (eA E 21)), (1, .int v1), (2, .int (M6.1 27 r2.toNatClampNeg)), (3, .int r2), (4, .int (v4 + 1)), (5, .int r2)]) (k0 := 4) (w := (v4 + 1)) (q := 123) [1, 2, 3, 4, 0, 5] dX3_admit_120 rfl rfl (by decide) rfl rfl ?_
          refine g_goto (tgt := 46) dX3_admit_123 rfl ?_
          refine g_lv (lv' := [(0, .ref (eA E 21)), (1, .int v1), (2, .int (M6.1 27 r2.toNatClampNeg)), (3, .int r2), (4, .int (v4 + 1))]) [0, 1, 2, 3, 4] rfl ?_
          exact ih _ _ _ _ _ h
        · replace h := h.2 hc10
          refine g_aloadn (k0 := 0) (q := 113) dX3_admit_112 rfl rfl rfl ?_
          refine g_iloadn (k0 := 1) (q := 114) dX3_admit_113 rfl rfl rfl ?_
          refine g_iload (k0 := 5) (q := 116) dX3_admit_114 rfl rfl ?_
          refine g_callv (q := 119) [.int v1, .int r2] [] cv_X3_93 rc_21 (c_X3_moveAlong hE h) rfl rfl ⟨rfl, rfl, Nat.le_of_ble_eq_true rfl, Nat.le_of_ble_eq_true rfl, Nat.zero_le _, Nat.zero_le _⟩ (Nat.le_of_ble_eq_true rfl) dX3_admit_116 rfl (fun M9 h => ?_)
          exact g_vret hz rfl dX3_admit_119 h
      · replace h := h.2 hc11
        exact g_vret hz rfl dX3_admit_72 h
set_option maxHeartbeats 4000000 in
set_option maxRecDepth 100000 in
theorem g_X3_admit_2 {x : GX} {E : EX} (hE : EH E) {Q : Mem → Prop} (hz : ZU x E Q) : ∀ (n : Nat) (v1 : Int32) (v2 : Int32) (M : Mem), P_Matching_admit_2 Q n v1 v2 M → G x E mX3_admit 0 0 2 [(0, .ref (eA E 21)), (1, .int v1), (2, .int v2)] [] M := by
  intro n
  induction n with
  | zero => intro _ _ _ h; exact h.elim
  | succ n ih =>
    intro v1 v2 M h
    unfold P_Matching_admit_2 at h
    refine g_iloadn (k0 := 2) (q := 3) dX3_admit_2 rfl rfl rfl ?_
    refine g_aloadn (k0 := 0) (q := 4) dX3_admit_3 rfl rfl rfl ?_
    refine g_get (v := .int (M.1 21 10)) (q := 7) fg_X3_47_21 rfl dX3_admit_4 rfl ?_
    refine g_ic_ge (tgt := 39) (q := 10) dX3_admit_7 rfl rfl (fun hc15 => ?_) (fun hc15 => ?_)
    · replace h := h.1 hc15
      refine g_iloadn (k0 := 1) (q := 40) dX3_admit_39 rfl rfl rfl ?_
      refine g_istoren (lv' := [(0, .ref (eA E 21)), (1, .int v1), (2, .int v1)]) (q := 41) [1, 2, 0] dX3_admit_40 rfl (by decide) rfl rfl ?_
      refine g_iconst (q := 42) dX3_admit_41 ki_m1 rfl ?_
      refine g_istoren (lv' := [(0, .ref (eA E 21)), (1, .int v1), (2, .int v1), (3, .int (-1))]) (q := 43) [1, 2, 3, 0] dX3_admit_42 rfl (by decide) rfl rfl ?_
      refine g_iconst (q := 44) dX3_admit_43 ki_0 rfl ?_
      refine g_istore (lv' := [(0, .ref (eA E 21)), (1, .int v1), (2, .int v1), (3, .int (-1)), (4, .int 0)]) (q := 46) [1, 2, 3, 4, 0] dX3_admit_44 (by decide) rfl rfl ?_
      obtain ⟨n1, h⟩ := h
      exact g_X3_admit_46 hE hz n1 _ _ _ _ _ h
    · replace h := h.2 hc15
      refine g_aloadn (k0 := 0) (q := 11) dX3_admit_10 rfl rfl rfl ?_
      refine g_get (v := .ref (eA E 25)) (q := 14) fg_X3_23_21 rfl dX3_admit_11 rfl ?_
      refine g_iloadn (k0 := 2) (q := 15) dX3_admit_14 rfl rfl rfl ?_
      refine g_ldc2 (q := 18) dX3_admit_15 wm_557 rfl ?_
      have hv14 := h.1
      replace h := h.2
      refine g_last (q := 19) ar_25 hv14 dX3_admit_18 rfl ?_
      refine g_aloadn (k0 := 0) (q := 20) dX3_admit_19 rfl rfl rfl ?_
      refine g_get (v := .ref (eA E 28)) (q := 23) fg_X3_33_21 rfl dX3_admit_20 rfl ?_
      refine g_iloadn (k0 := 2) (q := 24) dX3_admit_23 rfl rfl rfl ?_
      refine g_iconst (q := 25) dX3_admit_24 ki_m1 rfl ?_
      refine g_iast (q := 26) ar_28 hv14 dX3_admit_25 rfl ?_
      refine g_aloadn (k0 := 0) (q := 27) dX3_admit_26 rfl rfl rfl ?_
      refine g_get (v := .ref (eA E 30)) (q := 30) fg_X3_39_21 rfl dX3_admit_27 rfl ?_
      refine g_iloadn (k0 := 2) (q := 31) dX3_admit_30 rfl rfl rfl ?_
      refine g_iconst (q := 32) dX3_admit_31 ki_0 rfl ?_
      refine g_zast (q := 33) ar_30 hv14 rfl dX3_admit_32 rfl ?_
      refine g_iinc (lv' := [(0, .ref (eA E 21)), (1, .int v1), (2, .int (v2 + 1))]) (k0 := 2) (w := (v2 + 1)) (q := 36) [1, 2, 0] dX3_admit_33 rfl rfl (by decide) rfl rfl ?_
      refine g_goto (tgt := 2) dX3_admit_36 rfl ?_
      exact ih _ _ _ h
set_option maxHeartbeats 4000000 in
set_option maxRecDepth 100000 in
theorem c_X3_admit {E : EX} (hE : EH E) {a1 : Int32} {M : Mem} {Q : Mem → Prop} (h : P_Matching_admit a1 M Q) : CU yX3_admit cX3_admit 6 none rmX3_admit E [.ref (eA E 21), .int a1] M Q := by
  refine CU.of hE (plainFor_of_name (by decide +kernel)) (Nat.le_of_ble_eq_true rfl) (fun x hz => ?_)
  unfold P_Matching_admit at h
  show G x E mX3_admit 0 0 0 [(0, .ref (eA E 21)), (1, .int a1)] [] M
  refine g_iconst (q := 1) dX3_admit_0 ki_0 rfl ?_
  refine g_istoren (lv' := [(0, .ref (eA E 21)), (1, .int a1), (2, .int 0)]) (q := 2) [1, 2, 0] dX3_admit_1 rfl (by decide) rfl rfl ?_
  obtain ⟨n1, h⟩ := h
  exact g_X3_admit_2 hE hz n1 _ _ _ h
set_option maxHeartbeats 4000000 in
set_option maxRecDepth 100000 in
theorem g_X3_solve_27 {x : GX} {E : EX} (hE : EH E) {Q : Mem → Prop} (hz : ZU x E Q) : ∀ (n : Nat) (v1 : Int32) (M : Mem), P_Matching_solve_27 Q n v1 M → G x E mX3_solve 0 0 27 [(0, .ref (eA E 21)), (1, .int v1)] [] M := by
  intro n
  induction n with
  | zero => intro _ _ h; exact h.elim
  | succ n ih =>
    intro v1 M h
    unfold P_Matching_solve_27 at h
    refine g_iloadn (k0 := 1) (q := 28) dX3_solve_27 rfl rfl rfl ?_
    refine g_aloadn (k0 := 0) (q := 29) dX3_solve_28 rfl rfl rfl ?_
    refine g_get (v := .int (M.1 21 9)) (q := 32) fg_X3_43_21 rfl dX3_solve_29 rfl ?_
    refine g_ic_ge (tgt := 46) (q := 35) dX3_solve_32 rfl rfl (fun hc3 => ?_) (fun hc3 => ?_)
    · replace h := h.1 hc3
      exact g_vret hz rfl dX3_solve_46 h
    · replace h := h.2 hc3
      refine g_aloadn (k0 := 0) (q := 36) dX3_solve_35 rfl rfl rfl ?_
      refine g_iloadn (k0 := 1) (q := 37) dX3_solve_36 rfl rfl rfl ?_
      refine g_callv (q := 40) [.int v1] [] cv_X3_72 rc_21 (c_X3_settle hE h) rfl rfl ⟨rfl, rfl, Nat.le_of_ble_eq_true rfl, Nat.le_of_ble_eq_true rfl, Nat.zero_le _, Nat.zero_le _⟩ (Nat.le_of_ble_eq_true rfl) dX3_solve_37 rfl (fun M2 h => ?_)
      refine g_iinc (lv' := [(0, .ref (eA E 21)), (1, .int (v1 + 1))]) (k0 := 1) (w := (v1 + 1)) (q := 43) [1, 0] dX3_solve_40 rfl rfl (by decide) rfl rfl ?_
      refine g_goto (tgt := 27) dX3_solve_43 rfl ?_
      exact ih _ _ h
set_option maxHeartbeats 4000000 in
set_option maxRecDepth 100000 in
theorem g_X3_solve_2 {x : GX} {E : EX} (hE : EH E) {Q : Mem → Prop} (hz : ZU x E Q) : ∀ (n : Nat) (v1 : Int32) (M : Mem), P_Matching_solve_2 Q n v1 M → G x E mX3_solve 0 0 2 [(0, .ref (eA E 21)), (1, .int v1)] [] M := by
  intro n
  induction n with
  | zero => intro _ _ h; exact h.elim
  | succ n ih =>
    intro v1 M h
    unfold P_Matching_solve_2 at h
    refine g_iloadn (k0 := 1) (q := 3) dX3_solve_2 rfl rfl rfl ?_
    refine g_aloadn (k0 := 0) (q := 4) dX3_solve_3 rfl rfl rfl ?_
    refine g_get (v := .int (M.1 21 9)) (q := 7) fg_X3_43_21 rfl dX3_solve_4 rfl ?_
    refine g_ic_ge (tgt := 21) (q := 10) dX3_solve_7 rfl rfl (fun hc6 => ?_) (fun hc6 => ?_)
    · replace h := h.1 hc6
      refine g_aloadn (k0 := 0) (q := 22) dX3_solve_21 rfl rfl rfl ?_
      refine g_callv (q := 25) [] [] cv_X3_69 rc_21 (c_X3_fillSpareRows hE h) rfl rfl ⟨rfl, rfl, Nat.le_of_ble_eq_true rfl, Nat.le_of_ble_eq_true rfl, Nat.zero_le _, Nat.zero_le _⟩ (Nat.le_of_ble_eq_true rfl) dX3_solve_22 rfl (fun M1 h => ?_)
      refine g_iconst (q := 26) dX3_solve_25 ki_0 rfl ?_
      refine g_istoren (lv' := [(0, .ref (eA E 21)), (1, .int 0)]) (q := 27) [1, 0] dX3_solve_26 rfl (by decide) rfl rfl ?_
      obtain ⟨n1, h⟩ := h
      exact g_X3_solve_27 hE hz n1 _ _ h
    · replace h := h.2 hc6
      refine g_aloadn (k0 := 0) (q := 11) dX3_solve_10 rfl rfl rfl ?_
      refine g_iloadn (k0 := 1) (q := 12) dX3_solve_11 rfl rfl rfl ?_
      refine g_callv (q := 15) [.int v1] [] cv_X3_65 rc_21 (c_X3_admit hE h) rfl rfl ⟨rfl, rfl, Nat.le_of_ble_eq_true rfl, Nat.le_of_ble_eq_true rfl, Nat.zero_le _, Nat.zero_le _⟩ (Nat.le_of_ble_eq_true rfl) dX3_solve_12 rfl (fun M5 h => ?_)
      refine g_iinc (lv' := [(0, .ref (eA E 21)), (1, .int (v1 + 1))]) (k0 := 1) (w := (v1 + 1)) (q := 18) [1, 0] dX3_solve_15 rfl rfl (by decide) rfl rfl ?_
      refine g_goto (tgt := 2) dX3_solve_18 rfl ?_
      exact ih _ _ h
set_option maxHeartbeats 4000000 in
set_option maxRecDepth 100000 in
theorem c_X3_solve {E : EX} (hE : EH E) {M : Mem} {Q : Mem → Prop} (h : P_Matching_solve  M Q) : CU yX3_solve cX3_solve 2 none rmX3_solve E [.ref (eA E 21)] M Q := by
  refine CU.of hE (plainFor_of_name (by decide)) (Nat.le_of_ble_eq_true rfl) (fun x hz => ?_)
  unfold P_Matching_solve at h
  show G x E mX3_solve 0 0 0 [(0, .ref (eA E 21))] [] M
  refine g_iconst (q := 1) dX3_solve_0 ki_0 rfl ?_
  refine g_istoren (lv' := [(0, .ref (eA E 21)), (1, .int 0)]) (q := 2) [1, 0] dX3_solve_1 rfl (by decide) rfl rfl ?_
  obtain ⟨n1, h⟩ := h
  exact g_X3_solve_2 hE hz n1 _ _ h
set_option maxHeartbeats 4000000 in
set_option maxRecDepth 100000 in
theorem c_X3_followedBy {E : EX} (hE : EH E) {a1 : Int32} {M : Mem} {Q : Int32 → Mem → Prop} (h : P_Matching_followedBy a1 M Q) : CI yX3_followedBy cX3_followedBy 2 (some .int) rmX3_followedBy E [.ref (eA E 21), .int a1] M Q := by
  refine CI.of hE (plainFor_of_name (by decide)) (Nat.le_of_ble_eq_true rfl) (fun x hz => ?_)
  unfold P_Matching_followedBy at h
  show G x E mX3_followedBy 0 0 0 [(0, .ref (eA E 21)), (1, .int a1)] [] M
  refine g_aloadn (k0 := 0) (q := 1) dX3_followedBy_0 rfl rfl rfl ?_
  refine g_iloadn (k0 := 1) (q := 2) dX3_followedBy_1 rfl rfl rfl ?_
  refine g_calli (q := 5) [.int a1] [] cv_X3_61 rc_21 (c_X3_isPosition hE h) rfl rfl ⟨rfl, rfl, Nat.le_of_ble_eq_true rfl, Nat.le_of_ble_eq_true rfl, Nat.zero_le _, Nat.zero_le _⟩ (Nat.le_of_ble_eq_true rfl) dX3_followedBy_2 rfl (fun r2 M1 h => ?_)
  obtain ⟨hb_r2, h⟩ := h
  refine g_if_eq (tgt := 30) (q := 8) dX3_followedBy_5 rfl rfl (fun hc7 => ?_) (fun hc7 => ?_)
  · replace h := h.1 hc7
    refine g_iconst (q := 31) dX3_followedBy_30 ki_m1 rfl ?_
    exact g_iret hz rfl dX3_followedBy_31 h
  · replace h := h.2 hc7
    refine g_aloadn (k0 := 0) (q := 9) dX3_followedBy_8 rfl rfl rfl ?_
    refine g_aloadn (k0 := 0) (q := 10) dX3_followedBy_9 rfl rfl rfl ?_
    refine g_get (v := .ref (eA E 26)) (q := 13) fg_X3_26_21 rfl dX3_followedBy_10 rfl ?_
    refine g_iloadn (k0 := 1) (q := 14) dX3_followedBy_13 rfl rfl rfl ?_
    have hv3 := h.1
    replace h := h.2
    refine g_iald (v := (M1.1 26 a1.toNatClampNeg)) (q := 15) ar_26 hv3 rfl dX3_followedBy_14 rfl ?_
    refine g_calli (q := 18) [.int (M1.1 26 a1.toNatClampNeg)] [] cv_X3_61 rc_21 (c_X3_isPosition hE h) rfl rfl ⟨rfl, rfl, Nat.le_of_ble_eq_true rfl, Nat.le_of_ble_eq_true rfl, Nat.zero_le _, Nat.zero_le _⟩ (Nat.le_of_ble_eq_true rfl) dX3_followedBy_15 rfl (fun r5 M4 h => ?_)
    obtain ⟨hb_r5, h⟩ := h
    refine g_if_eq (tgt := 30) (q := 21) dX3_followedBy_18 rfl rfl (fun hc6 => ?_) (fun hc6 => ?_)
    · replace h := h.1 hc6
      refine g_iconst (q := 31) dX3_followedBy_30 ki_m1 rfl ?_
      exact g_iret hz rfl dX3_followedBy_31 h
    · replace h := h.2 hc6
      refine g_aloadn (k0 := 0) (q := 22) dX3_followedBy_21 rfl rfl rfl ?_
      refine g_get (v := .ref (eA E 26)) (q := 25) fg_X3_26_21 rfl dX3_followedBy_22 rfl ?_
      refine g_iloadn (k0 := 1) (q := 26) dX3_followedBy_25 rfl rfl rfl ?_
      refine g_iald (v := (M4.1 26 a1.toNatClampNeg)) (q := 27) ar_26 hv3 rfl dX3_followedBy_26 rfl ?_
      refine g_goto (tgt := 31) dX3_followedBy_27 rfl ?_
      exact g_iret hz rfl dX3_followedBy_31 h
set_option maxHeartbeats 4000000 in
set_option maxRecDepth 100000 in
theorem c_X3_squareOf {E : EX} (hE : EH E) {a1 : Int32} {a2 : Int32} {M : Mem} {Q : Int64 → Mem → Prop} (h : P_Matching_squareOf a1 a2 M Q) : CL yX3_squareOf cX3_squareOf 3 (some .long) rmX3_squareOf E [.ref (eA E 21), .int a1, .int a2] M Q := by
  refine CL.of hE (plainFor_of_name (by decide)) (Nat.le_of_ble_eq_true rfl) (fun x hz => ?_)
  unfold P_Matching_squareOf at h
  show G x E mX3_squareOf 0 0 0 [(0, .ref (eA E 21)), (1, .int a1), (2, .int a2)] [] M
  refine g_aloadn (k0 := 0) (q := 1) dX3_squareOf_0 rfl rfl rfl ?_
  refine g_iloadn (k0 := 1) (q := 2) dX3_squareOf_1 rfl rfl rfl ?_
  refine g_calli (q := 5) [.int a1] [] cv_X3_61 rc_21 (c_X3_isPosition hE h) rfl rfl ⟨rfl, rfl, Nat.le_of_ble_eq_true rfl, Nat.le_of_ble_eq_true rfl, Nat.zero_le _, Nat.zero_le _⟩ (Nat.le_of_ble_eq_true rfl) dX3_squareOf_2 rfl (fun r2 M1 h => ?_)
  obtain ⟨hb_r2, h⟩ := h
  refine g_if_eq (tgt := 30) (q := 8) dX3_squareOf_5 rfl rfl (fun hc7 => ?_) (fun hc7 => ?_)
  · replace h := h.1 hc7
    refine g_lconst (q := 31) dX3_squareOf_30 kl_0 rfl ?_
    exact g_lret hz rfl dX3_squareOf_31 h
  · replace h := h.2 hc7
    refine g_aloadn (k0 := 0) (q := 9) dX3_squareOf_8 rfl rfl rfl ?_
    refine g_iloadn (k0 := 2) (q := 10) dX3_squareOf_9 rfl rfl rfl ?_
    refine g_calli (q := 13) [.int a2] [] cv_X3_61 rc_21 (c_X3_isPosition hE h) rfl rfl ⟨rfl, rfl, Nat.le_of_ble_eq_true rfl, Nat.le_of_ble_eq_true rfl, Nat.zero_le _, Nat.zero_le _⟩ (Nat.le_of_ble_eq_true rfl) dX3_squareOf_10 rfl (fun r4 M3 h => ?_)
    obtain ⟨hb_r4, h⟩ := h
    refine g_if_eq (tgt := 30) (q := 16) dX3_squareOf_13 rfl rfl (fun hc6 => ?_) (fun hc6 => ?_)
    · replace h := h.1 hc6
      refine g_lconst (q := 31) dX3_squareOf_30 kl_0 rfl ?_
      exact g_lret hz rfl dX3_squareOf_31 h
    · replace h := h.2 hc6
      refine g_aloadn (k0 := 0) (q := 17) dX3_squareOf_16 rfl rfl rfl ?_
      refine g_get (v := .ref (eA E 22)) (q := 20) fg_X3_13_21 rfl dX3_squareOf_17 rfl ?_
      refine g_iloadn (k0 := 1) (q := 21) dX3_squareOf_20 rfl rfl rfl ?_
      refine g_bipush (q := 23) dX3_squareOf_21 kb_16 rfl ?_
      refine g_imul (q := 24) dX3_squareOf_23 rfl ?_
      refine g_iloadn (k0 := 2) (q := 25) dX3_squareOf_24 rfl rfl rfl ?_
      refine g_iadd (q := 26) dX3_squareOf_25 rfl ?_
      have hv5 := h.1
      replace h := h.2
      refine g_lald (v := (M3.2 22 (((a1 * 16) + a2)).toNatClampNeg)) (q := 27) ar_22 hv5 rfl dX3_squareOf_26 rfl ?_
      refine g_goto (tgt := 31) dX3_squareOf_27 rfl ?_
      exact g_lret hz rfl dX3_squareOf_31 h
set_option maxHeartbeats 4000000 in
set_option maxRecDepth 100000 in
theorem g_X5_drawTracks_78 {x : GX} {E : EX} (hE : EH E) {Q : Mem → Prop} (hz : ZU x E Q) {K12 : Int32 → Mem → Prop} (hK12 : ∀ (v1 : Int32) (M : Mem), K12 v1 M → G x E mX5_drawTracks 0 0 12 [(0, .ref (eA E 20)), (1, .int v1)] [] M) : ∀ (v1 : Int32) (M : Mem), P_Parting_drawTracks_78 K12 Q v1 M → G x E mX5_drawTracks 0 0 78 [(0, .ref (eA E 20)), (1, .int v1)] [] M := by
  intro v1 M h
  unfold P_Parting_drawTracks_78 at h
  refine g_aloadn (k0 := 0) (q := 79) dX5_drawTracks_78 rfl rfl rfl ?_
  refine g_get (v := .ref (eA E 33)) (q := 82) fg_X5_25_20 rfl dX5_drawTracks_79 rfl ?_
  refine g_iloadn (k0 := 1) (q := 83) dX5_drawTracks_82 rfl rfl rfl ?_
  refine g_aloadn (k0 := 0) (q := 84) dX5_drawTracks_83 rfl rfl rfl ?_
  refine g_get (v := .int (M.1 20 5)) (q := 87) fg_X5_32_20 rfl dX5_drawTracks_84 rfl ?_
  have hv4 := h.1
  replace h := h.2
  refine g_iast (q := 88) ar_33 hv4 dX5_drawTracks_87 rfl ?_
  refine g_aloadn (k0 := 0) (q := 89) dX5_drawTracks_88 rfl rfl rfl ?_
  refine g_dup (q := 90) dX5_drawTracks_89 rfl rfl ?_
  refine g_get (v := .int (M.1 20 5)) (q := 93) fg_X5_32_20 rfl dX5_drawTracks_90 rfl ?_
  refine g_iconst (q := 94) dX5_drawTracks_93 ki_1 rfl ?_
  refine g_iadd (q := 95) dX5_drawTracks_94 rfl ?_
  refine g_putI (q := 98) fp_X5_32_20 dX5_drawTracks_95 rfl ?_
  refine g_iinc (lv' := [(0, .ref (eA E 20)), (1, .int (v1 + 1))]) (k0 := 1) (w := (v1 + 1)) (q := 101) [1, 0] dX5_drawTracks_98 rfl rfl (by decide) rfl rfl ?_
  refine g_goto (tgt := 12) dX5_drawTracks_101 rfl ?_
  exact hK12 _ _ h
set_option maxHeartbeats 4000000 in
set_option maxRecDepth 100000 in
theorem g_X5_drawTracks_12 {x : GX} {E : EX} (hE : EH E) {Q : Mem → Prop} (hz : ZU x E Q) : ∀ (n : Nat) (v1 : Int32) (M : Mem), P_Parting_drawTracks_12 Q n v1 M → G x E mX5_drawTracks 0 0 12 [(0, .ref (eA E 20)), (1, .int v1)] [] M := by
  intro n
  induction n with
  | zero => intro _ _ h; exact h.elim
  | succ n ih =>
    intro v1 M h
    unfold P_Parting_drawTracks_12 at h
    refine g_iloadn (k0 := 1) (q := 13) dX5_drawTracks_12 rfl rfl rfl ?_
    refine g_aloadn (k0 := 0) (q := 14) dX5_drawTracks_13 rfl rfl rfl ?_
    refine g_get (v := .int (M.1 20 4)) (q := 17) fg_X5_28_20 rfl dX5_drawTracks_14 rfl ?_
    refine g_ic_ge (tgt := 104) (q := 20) dX5_drawTracks_17 rfl rfl (fun hc10 => ?_) (fun hc10 => ?_)
    · replace h := h.1 hc10
      exact g_vret hz rfl dX5_drawTracks_104 h
    · replace h := h.2 hc10
      refine g_aloadn (k0 := 0) (q := 21) dX5_drawTracks_20 rfl rfl rfl ?_
      refine g_get (v := .ref (eA E 21)) (q := 24) fg_X5_12_20 rfl dX5_drawTracks_21 rfl ?_
      refine g_iloadn (k0 := 1) (q := 25) dX5_drawTracks_24 rfl rfl rfl ?_
      refine g_calli (q := 28) [.int v1] [] cv_X5_90 rc_21 (c_X3_followedBy hE h) rfl rfl ⟨rfl, rfl, Nat.le_of_ble_eq_true rfl, Nat.le_of_ble_eq_true rfl, Nat.zero_le _, Nat.zero_le _⟩ (Nat.le_of_ble_eq_true rfl) dX5_drawTracks_25 rfl (fun r2 M1 h => ?_)
      refine g_istoren (lv' := [(0, .ref (eA E 20)), (1, .int v1), (2, .int r2)]) (q := 29) [1, 2, 0] dX5_drawTracks_28 rfl (by decide) rfl rfl ?_
      refine g_aloadn (k0 := 0) (q := 30) dX5_drawTracks_29 rfl rfl rfl ?_
      refine g_get (v := .ref (eA E 32)) (q := 33) fg_X5_22_20 rfl dX5_drawTracks_30 rfl ?_
      refine g_iloadn (k0 := 1) (q := 34) dX5_drawTracks_33 rfl rfl rfl ?_
      refine g_iloadn (k0 := 2) (q := 35) dX5_drawTracks_34 rfl rfl rfl ?_
      have hv3 := h.1
      replace h := h.2
      refine g_iast (q := 36) ar_32 hv3 dX5_drawTracks_35 rfl ?_
      refine g_iloadn (k0 := 2) (q := 37) dX5_drawTracks_36 rfl rfl rfl ?_
      refine g_if_lt (tgt := 78) (q := 40) dX5_drawTracks_37 rfl rfl (fun hc9 => ?_) (fun hc9 => ?_)
      · replace h := h.1 hc9
        refine g_lv (lv' := [(0, .ref (eA E 20)), (1, .int v1)]) [0, 1] rfl ?_
        exact g_X5_drawTracks_78 hE hz ih _ _ h
      · replace h := h.2 hc9
        refine g_iloadn (k0 := 2) (q := 41) dX5_drawTracks_40 rfl rfl rfl ?_
        refine g_iloadn (k0 := 1) (q := 42) dX5_drawTracks_41 rfl rfl rfl ?_
        refine g_ic_ge (tgt := 78) (q := 45) dX5_drawTracks_42 rfl rfl (fun hc8 => ?_) (fun hc8 => ?_)
        · replace h := h.1 hc8
          refine g_lv (lv' := [(0, .ref (eA E 20)), (1, .int v1)]) [0, 1] rfl ?_
          exact g_X5_drawTracks_78 hE hz ih _ _ h
        · replace h := h.2 hc8
          refine g_aloadn (k0 := 0) (q := 46) dX5_drawTracks_45 rfl rfl rfl ?_
          refine g_get (v := .ref (eA E 33)) (q := 49) fg_X5_25_20 rfl dX5_drawTracks_46 rfl ?_
          refine g_iloadn (k0 := 1) (q := 50) dX5_drawTracks_49 rfl rfl rfl ?_
          refine g_aloadn (k0 := 0) (q := 51) dX5_drawTracks_50 rfl rfl rfl ?_
          refine g_get (v := .ref (eA E 33)) (q := 54) fg_X5_25_20 rfl dX5_drawTracks_51 rfl ?_
          refine g_iloadn (k0 := 2) (q := 55) dX5_drawTracks_54 rfl rfl rfl ?_
          have hv5 := h.1
          replace h := h.2
          refine g_iald (v := (M1.1 33 r2.toNatClampNeg)) (q := 56) ar_33 hv5 rfl dX5_drawTracks_55 rfl ?_
          refine g_iast (q := 57) ar_33 hv3 dX5_drawTracks_56 rfl ?_
          refine g_aloadn (k0 := 0) (q := 58) dX5_drawTracks_57 rfl rfl rfl ?_
          refine g_dup (q := 59) dX5_drawTracks_58 rfl rfl ?_
          refine g_get (v := .long (M1.2 20 6)) (q := 62) fg_X5_35_20 rfl dX5_drawTracks_59 rfl ?_
          refine g_aloadn (k0 := 0) (q := 63) dX5_drawTracks_62 rfl rfl rfl ?_
          refine g_get (v := .ref (eA E 21)) (q := 66) fg_X5_12_20 rfl dX5_drawTracks_63 rfl ?_
          refine g_iloadn (k0 := 1) (q := 67) dX5_drawTracks_66 rfl rfl rfl ?_
          refine g_iloadn (k0 := 2) (q := 68) dX5_drawTracks_67 rfl rfl rfl ?_
          refine g_calll (q := 71) [.int v1, .int r2] [.long (M1.2 20 6), .ref (eA E 20)] cv_X5_94 rc_21 (c_X3_squareOf hE h) rfl rfl ⟨rfl, rfl, Nat.le_of_ble_eq_true rfl, Nat.le_of_ble_eq_true rfl, Nat.zero_le _, Nat.zero_le _⟩ (Nat.le_of_ble_eq_true rfl) dX5_drawTracks_68 rfl (fun r7 M6 h => ?_)
          refine g_ladd (q := 72) dX5_drawTracks_71 rfl ?_
          refine g_putL (q := 75) fp_X5_35_20 dX5_drawTracks_72 rfl ?_
          refine g_goto (tgt := 98) dX5_drawTracks_75 rfl ?_
          refine g_iinc (lv' := [(0, .ref (eA E 20)), (1, .int (v1 + 1)), (2, .int r2)]) (k0 := 1) (w := (v1 + 1)) (q := 101) [1, 0, 2] dX5_drawTracks_98 rfl rfl (by decide) rfl rfl ?_
          refine g_goto (tgt := 12) dX5_drawTracks_101 rfl ?_
          refine g_lv (lv' := [(0, .ref (eA E 20)), (1, .int (v1 + 1))]) [0, 1] rfl ?_
          exact ih _ _ h
set_option maxHeartbeats 4000000 in
set_option maxRecDepth 100000 in
theorem c_X5_drawTracks {E : EX} (hE : EH E) {M : Mem} {Q : Mem → Prop} (h : P_Parting_drawTracks  M Q) : CU yX5_drawTracks cX5_drawTracks 3 none rmX5_drawTracks E [.ref (eA E 20)] M Q := by
  refine CU.of hE (plainFor_of_name (by decide)) (Nat.le_of_ble_eq_true rfl) (fun x hz => ?_)
  unfold P_Parting_drawTracks at h
  show G x E mX5_drawTracks 0 0 0 [(0, .ref (eA E 20))] [] M
  refine g_aloadn (k0 := 0) (q := 1) dX5_drawTracks_0 rfl rfl rfl ?_
  refine g_iconst (q := 2) dX5_drawTracks_1 ki_0 rfl ?_
  refine g_putI (q := 5) fp_X5_32_20 dX5_drawTracks_2 rfl ?_
  refine g_aloadn (k0 := 0) (q := 6) dX5_drawTracks_5 rfl rfl rfl ?_
  refine g_lconst (q := 7) dX5_drawTracks_6 kl_0 rfl ?_
  refine g_putL (q := 10) fp_X5_35_20 dX5_drawTracks_7 rfl ?_
  refine g_iconst (q := 11) dX5_drawTracks_10 ki_0 rfl ?_
  refine g_istoren (lv' := [(0, .ref (eA E 20)), (1, .int 0)]) (q := 12) [1, 0] dX5_drawTracks_11 rfl (by decide) rfl rfl ?_
  obtain ⟨n1, h⟩ := h
  exact g_X5_drawTracks_12 hE hz n1 _ _ h
set_option maxHeartbeats 4000000 in
set_option maxRecDepth 100000 in
theorem c_X3_allow {E : EX} (hE : EH E) {a1 : Int32} {a2 : Int32} {a3 : Int64} {M : Mem} {Q : Mem → Prop} (h : P_Matching_allow a1 a2 a3 M Q) : CU yX3_allow cX3_allow 5 none rmX3_allow E [.ref (eA E 21), .int a1, .int a2, .long a3] M Q := by
  refine CU.of hE (plainFor_of_name (by decide)) (Nat.le_of_ble_eq_true rfl) (fun x hz => ?_)
  unfold P_Matching_allow at h
  show G x E mX3_allow 0 0 0 [(0, .ref (eA E 21)), (1, .int a1), (2, .int a2), (3, .long a3)] [] M
  refine g_aloadn (k0 := 0) (q := 1) dX3_allow_0 rfl rfl rfl ?_
  refine g_iloadn (k0 := 1) (q := 2) dX3_allow_1 rfl rfl rfl ?_
  refine g_calli (q := 5) [.int a1] [] cv_X3_61 rc_21 (c_X3_isPosition hE h) rfl rfl ⟨rfl, rfl, Nat.le_of_ble_eq_true rfl, Nat.le_of_ble_eq_true rfl, Nat.zero_le _, Nat.zero_le _⟩ (Nat.le_of_ble_eq_true rfl) dX3_allow_2 rfl (fun r2 M1 h => ?_)
  obtain ⟨hb_r2, h⟩ := h
  refine g_if_eq (tgt := 28) (q := 8) dX3_allow_5 rfl rfl (fun hc7 => ?_) (fun hc7 => ?_)
  · replace h := h.1 hc7
    exact g_vret hz rfl dX3_allow_28 h
  · replace h := h.2 hc7
    refine g_aloadn (k0 := 0) (q := 9) dX3_allow_8 rfl rfl rfl ?_
    refine g_iloadn (k0 := 2) (q := 10) dX3_allow_9 rfl rfl rfl ?_
    refine g_calli (q := 13) [.int a2] [] cv_X3_61 rc_21 (c_X3_isPosition hE h) rfl rfl ⟨rfl, rfl, Nat.le_of_ble_eq_true rfl, Nat.le_of_ble_eq_true rfl, Nat.zero_le _, Nat.zero_le _⟩ (Nat.le_of_ble_eq_true rfl) dX3_allow_10 rfl (fun r4 M3 h => ?_)
    obtain ⟨hb_r4, h⟩ := h
    refine g_if_eq (tgt := 28) (q := 16) dX3_allow_13 rfl rfl (fun hc6 => ?_) (fun hc6 => ?_)
    · replace h := h.1 hc6
      exact g_vret hz rfl dX3_allow_28 h
    · replace h := h.2 hc6
      refine g_aloadn (k0 := 0) (q := 17) dX3_allow_16 rfl rfl rfl ?_
      refine g_get (v := .ref (eA E 22)) (q := 20) fg_X3_13_21 rfl dX3_allow_17 rfl ?_
      refine g_iloadn (k0 := 1) (q := 21) dX3_allow_20 rfl rfl rfl ?_
      refine g_bipush (q := 23) dX3_allow_21 kb_16 rfl ?_
      refine g_imul (q := 24) dX3_allow_23 rfl ?_
      refine g_iloadn (k0 := 2) (q := 25) dX3_allow_24 rfl rfl rfl ?_
      refine g_iadd (q := 26) dX3_allow_25 rfl ?_
      refine g_lloadn (k0 := 3) (q := 27) dX3_allow_26 rfl rfl rfl ?_
      have hv5 := h.1
      replace h := h.2
      refine g_last (q := 28) ar_22 hv5 dX3_allow_27 rfl ?_
      exact g_vret hz rfl dX3_allow_28 h
set_option maxHeartbeats 4000000 in
set_option maxRecDepth 100000 in
theorem c_X5_allowIfNear {E : EX} (hE : EH E) {a2 : Int32} {a3 : Int32} {a4 : Int32} {M : Mem} {Q : Mem → Prop} (h : P_Parting_allowIfNear a2 a3 a4 M Q) : CU yX5_allowIfNear cX5_allowIfNear 17 none rmX5_allowIfNear E [.ref (eA E 20), .ref (eA E 11), .int a2, .int a3, .int a4] M Q := by
  refine CU.of hE (plainFor_of_name (by decide)) (Nat.le_of_ble_eq_true rfl) (fun x hz => ?_)
  unfold P_Parting_allowIfNear at h
  show G x E mX5_allowIfNear 0 0 0 [(0, .ref (eA E 20)), (1, .ref (eA E 11)), (2, .int a2), (3, .int a3), (4, .int a4)] [] M
  refine g_aloadn (k0 := 0) (q := 1) dX5_allowIfNear_0 rfl rfl rfl ?_
  refine g_get (v := .ref (eA E 31)) (q := 4) fg_X5_18_20 rfl dX5_allowIfNear_1 rfl ?_
  refine g_iloadn (k0 := 2) (q := 5) dX5_allowIfNear_4 rfl rfl rfl ?_
  have hv1 := h.1
  replace h := h.2
  refine g_iald (v := (M.1 31 a2.toNatClampNeg)) (q := 6) ar_31 hv1 rfl dX5_allowIfNear_5 rfl ?_
  refine g_istore (lv' := [(0, .ref (eA E 20)), (1, .ref (eA E 11)), (2, .int a2), (3, .int a3), (4, .int a4), (5, .int (M.1 31 a2.toNatClampNeg))]) (q := 8) [1, 2, 3, 4, 5, 0] dX5_allowIfNear_6 (by decide) rfl rfl ?_
  refine g_aloadn (k0 := 0) (q := 9) dX5_allowIfNear_8 rfl rfl rfl ?_
  refine g_get (v := .ref (eA E 31)) (q := 12) fg_X5_18_20 rfl dX5_allowIfNear_9 rfl ?_
  refine g_iloadn (k0 := 3) (q := 13) dX5_allowIfNear_12 rfl rfl rfl ?_
  have hv2 := h.1
  replace h := h.2
  refine g_iald (v := (M.1 31 a3.toNatClampNeg)) (q := 14) ar_31 hv2 rfl dX5_allowIfNear_13 rfl ?_
  refine g_istore (lv' := [(0, .ref (eA E 20)), (1, .ref (eA E 11)), (2, .int a2), (3, .int a3), (4, .int a4), (5, .int (M.1 31 a2.toNatClampNeg)), (6, .int (M.1 31 a3.toNatClampNeg))]) (q := 16) [1, 2, 3, 4, 5, 6, 0] dX5_allowIfNear_14 (by decide) rfl rfl ?_
  refine g_aloadn (k0 := 1) (q := 17) dX5_allowIfNear_16 rfl rfl rfl ?_
  refine g_iload (k0 := 5) (q := 19) dX5_allowIfNear_17 rfl rfl ?_
  refine g_iconst (q := 20) dX5_allowIfNear_19 ki_3 rfl ?_
  refine g_calli (q := 23) [.int (M.1 31 a2.toNatClampNeg), .int 3] [] cv_X5_78 rc_11 (c_X2_cell hE h) rfl rfl ⟨rfl, rfl, Nat.le_of_ble_eq_true rfl, Nat.le_of_ble_eq_true rfl, Nat.zero_le _, Nat.zero_le _⟩ (Nat.le_of_ble_eq_true rfl) dX5_allowIfNear_20 rfl (fun r4 M3 h => ?_)
  refine g_aloadn (k0 := 1) (q := 24) dX5_allowIfNear_23 rfl rfl rfl ?_
  refine g_iload (k0 := 6) (q := 26) dX5_allowIfNear_24 rfl rfl ?_
  refine g_iconst (q := 27) dX5_allowIfNear_26 ki_3 rfl ?_
  refine g_calli (q := 30) [.int (M.1 31 a3.toNatClampNeg), .int 3] [.int r4] cv_X5_78 rc_11 (c_X2_cell hE h) rfl rfl ⟨rfl, rfl, Nat.le_of_ble_eq_true rfl, Nat.le_of_ble_eq_true rfl, Nat.zero_le _, Nat.zero_le _⟩ (Nat.le_of_ble_eq_true rfl) dX5_allowIfNear_27 rfl (fun r6 M5 h => ?_)
  refine g_isub (q := 31) dX5_allowIfNear_30 rfl ?_
  refine g_i2l (q := 32) dX5_allowIfNear_31 rfl ?_
  refine g_lstore (lv' := [(0, .ref (eA E 20)), (1, .ref (eA E 11)), (2, .int a2), (3, .int a3), (4, .int a4), (5, .int (M.1 31 a2.toNatClampNeg)), (6, .int (M.1 31 a3.toNatClampNeg)), (7, .long (Int32.toInt64 (r4 - r6)))]) (q := 34) [1, 2, 3, 4, 5, 6, 7, 0] dX5_allowIfNear_32 (by decide) rfl rfl ?_
  refine g_aloadn (k0 := 1) (q := 35) dX5_allowIfNear_34 rfl rfl rfl ?_
  refine g_iload (k0 := 5) (q := 37) dX5_allowIfNear_35 rfl rfl ?_
  refine g_iconst (q := 38) dX5_allowIfNear_37 ki_4 rfl ?_
  refine g_calli (q := 41) [.int (M.1 31 a2.toNatClampNeg), .int 4] [] cv_X5_78 rc_11 (c_X2_cell hE h) rfl rfl ⟨rfl, rfl, Nat.le_of_ble_eq_true rfl, Nat.le_of_ble_eq_true rfl, Nat.zero_le _, Nat.zero_le _⟩ (Nat.le_of_ble_eq_true rfl) dX5_allowIfNear_38 rfl (fun r8 M7 h => ?_)
  refine g_aloadn (k0 := 1) (q := 42) dX5_allowIfNear_41 rfl rfl rfl ?_
  refine g_iload (k0 := 6) (q := 44) dX5_allowIfNear_42 rfl rfl ?_
  refine g_iconst (q := 45) dX5_allowIfNear_44 ki_4 rfl ?_
  refine g_calli (q := 48) [.int (M.1 31 a3.toNatClampNeg), .int 4] [.int r8] cv_X5_78 rc_11 (c_X2_cell hE h) rfl rfl ⟨rfl, rfl, Nat.le_of_ble_eq_true rfl, Nat.le_of_ble_eq_true rfl, Nat.zero_le _, Nat.zero_le _⟩ (Nat.le_of_ble_eq_true rfl) dX5_allowIfNear_45 rfl (fun r10 M9 h => ?_)
  refine g_isub (q := 49) dX5_allowIfNear_48 rfl ?_
  refine g_i2l (q := 50) dX5_allowIfNear_49 rfl ?_
  refine g_lstore (lv' := [(0, .ref (eA E 20)), (1, .ref (eA E 11)), (2, .int a2), (3, .int a3), (4, .int a4), (5, .int (M.1 31 a2.toNatClampNeg)), (6, .int (M.1 31 a3.toNatClampNeg)), (7, .long (Int32.toInt64 (r4 - r6))), (9, .long (Int32.toInt64 (r8 - r10)))]) (q := 52) [1, 2, 3, 4, 5, 6, 7, 8, 0] dX5_allowIfNear_50 (by decide) rfl rfl ?_
  refine g_aloadn (k0 := 1) (q := 53) dX5_allowIfNear_52 rfl rfl rfl ?_
  refine g_iload (k0 := 5) (q := 55) dX5_allowIfNear_53 rfl rfl ?_
  refine g_iconst (q := 56) dX5_allowIfNear_55 ki_5 rfl ?_
  refine g_calli (q := 59) [.int (M.1 31 a2.toNatClampNeg), .int 5] [] cv_X5_78 rc_11 (c_X2_cell hE h) rfl rfl ⟨rfl, rfl, Nat.le_of_ble_eq_true rfl, Nat.le_of_ble_eq_true rfl, Nat.zero_le _, Nat.zero_le _⟩ (Nat.le_of_ble_eq_true rfl) dX5_allowIfNear_56 rfl (fun r12 M11 h => ?_)
  refine g_aloadn (k0 := 1) (q := 60) dX5_allowIfNear_59 rfl rfl rfl ?_
  refine g_iload (k0 := 6) (q := 62) dX5_allowIfNear_60 rfl rfl ?_
  refine g_iconst (q := 63) dX5_allowIfNear_62 ki_5 rfl ?_
  refine g_calli (q := 66) [.int (M.1 31 a3.toNatClampNeg), .int 5] [.int r12] cv_X5_78 rc_11 (c_X2_cell hE h) rfl rfl ⟨rfl, rfl, Nat.le_of_ble_eq_true rfl, Nat.le_of_ble_eq_true rfl, Nat.zero_le _, Nat.zero_le _⟩ (Nat.le_of_ble_eq_true rfl) dX5_allowIfNear_63 rfl (fun r14 M13 h => ?_)
  refine g_isub (q := 67) dX5_allowIfNear_66 rfl ?_
  refine g_i2l (q := 68) dX5_allowIfNear_67 rfl ?_
  refine g_lstore (lv' := [(0, .ref (eA E 20)), (1, .ref (eA E 11)), (2, .int a2), (3, .int a3), (4, .int a4), (5, .int (M.1 31 a2.toNatClampNeg)), (6, .int (M.1 31 a3.toNatClampNeg)), (7, .long (Int32.toInt64 (r4 - r6))), (9, .long (Int32.toInt64 (r8 - r10))), (11, .long (Int32.toInt64 (r12 - r14)))]) (q := 70) [1, 2, 3, 4, 5, 6, 7, 8, 9, 0] dX5_allowIfNear_68 (by decide) rfl rfl ?_
  refine g_lload (k0 := 8) (q := 72) dX5_allowIfNear_70 rfl rfl ?_
  refine g_lload (k0 := 8) (q := 74) dX5_allowIfNear_72 rfl rfl ?_
  refine g_lmul (q := 75) dX5_allowIfNear_74 rfl ?_
  refine g_lload (k0 := 9) (q := 77) dX5_allowIfNear_75 rfl rfl ?_
  refine g_lload (k0 := 9) (q := 79) dX5_allowIfNear_77 rfl rfl ?_
  refine g_lmul (q := 80) dX5_allowIfNear_79 rfl ?_
  refine g_ladd (q := 81) dX5_allowIfNear_80 rfl ?_
  refine g_lstore (lv' := [(0, .ref (eA E 20)), (1, .ref (eA E 11)), (2, .int a2), (3, .int a3), (4, .int a4), (5, .int (M.1 31 a2.toNatClampNeg)), (6, .int (M.1 31 a3.toNatClampNeg)), (7, .long (Int32.toInt64 (r4 - r6))), (9, .long (Int32.toInt64 (r8 - r10))), (11, .long (Int32.toInt64 (r12 - r14))), (13, .long (((Int32.toInt64 (r8 - r10)) * (Int32.toInt64 (r8 - r10))) + ((Int32.toInt64 (r12 - r14)) * (Int32.toInt64 (r12 - r14)))))]) (q := 83) [1, 2, 3, 4, 5, 6, 7, 8, 9, 10, 0] dX5_allowIfNear_81 (by decide) rfl rfl ?_
  refine g_lload (k0 := 7) (q := 85) dX5_allowIfNear_83 rfl rfl ?_
  refine g_iload (k0 := 4) (q := 87) dX5_allowIfNear_85 rfl rfl ?_
  refine g_i2l (q := 88) dX5_allowIfNear_87 rfl ?_
  refine g_lmul (q := 89) dX5_allowIfNear_88 rfl ?_
  refine g_lstore (lv' := [(0, .ref (eA E 20)), (1, .ref (eA E 11)), (2, .int a2), (3, .int a3), (4, .int a4), (5, .int (M.1 31 a2.toNatClampNeg)), (6, .int (M.1 31 a3.toNatClampNeg)), (7, .long (Int32.toInt64 (r4 - r6))), (9, .long (Int32.toInt64 (r8 - r10))), (11, .long (Int32.toInt64 (r12 - r14))), (13, .long (((Int32.toInt64 (r8 - r10)) * (Int32.toInt64 (r8 - r10))) + ((Int32.toInt64 (r12 - r14)) * (Int32.toInt64 (r12 - r14))))), (15, .long ((Int32.toInt64 (r4 - r6)) * (Int32.toInt64 a4)))]) (q := 91) [1, 2, 3, 4, 5, 6, 7, 8, 9, 10, 11, 0] dX5_allowIfNear_89 (by decide) rfl rfl ?_
  refine g_lload (k0 := 7) (q := 93) dX5_allowIfNear_91 rfl rfl ?_
  refine g_lconst (q := 94) dX5_allowIfNear_93 kl_0 rfl ?_
  refine g_lc_le (tgt := 120) (q := 95) (q2 := 98) dX5_allowIfNear_94 rfl dX5_allowIfNear_95 rfl rfl (fun hc17 => ?_) (fun hc17 => ?_)
  · replace h := h.1 hc17
    exact g_vret hz rfl dX5_allowIfNear_120 h
  · replace h := h.2 hc17
    refine g_lload (k0 := 10) (q := 100) dX5_allowIfNear_98 rfl rfl ?_
    refine g_lload (k0 := 11) (q := 102) dX5_allowIfNear_100 rfl rfl ?_
    refine g_lload (k0 := 11) (q := 104) dX5_allowIfNear_102 rfl rfl ?_
    refine g_lmul (q := 105) dX5_allowIfNear_104 rfl ?_
    refine g_lc_gt (tgt := 120) (q := 106) (q2 := 109) dX5_allowIfNear_105 rfl dX5_allowIfNear_106 rfl rfl (fun hc16 => ?_) (fun hc16 => ?_)
    · replace h := h.1 hc16
      exact g_vret hz rfl dX5_allowIfNear_120 h
    · replace h := h.2 hc16
      refine g_aloadn (k0 := 0) (q := 110) dX5_allowIfNear_109 rfl rfl rfl ?_
      refine g_get (v := .ref (eA E 21)) (q := 113) fg_X5_12_20 rfl dX5_allowIfNear_110 rfl ?_
      refine g_iloadn (k0 := 2) (q := 114) dX5_allowIfNear_113 rfl rfl rfl ?_
      refine g_iloadn (k0 := 3) (q := 115) dX5_allowIfNear_114 rfl rfl rfl ?_
      refine g_lload (k0 := 10) (q := 117) dX5_allowIfNear_115 rfl rfl ?_
      refine g_callv (q := 120) [.int a2, .int a3, .long (((Int32.toInt64 (r8 - r10)) * (Int32.toInt64 (r8 - r10))) + ((Int32.toInt64 (r12 - r14)) * (Int32.toInt64 (r12 - r14))))] [] cv_X5_86 rc_21 (c_X3_allow hE h) rfl rfl ⟨rfl, rfl, Nat.le_of_ble_eq_true rfl, Nat.le_of_ble_eq_true rfl, Nat.zero_le _, Nat.zero_le _⟩ (Nat.le_of_ble_eq_true rfl) dX5_allowIfNear_117 rfl (fun M15 h => ?_)
      exact g_vret hz rfl dX5_allowIfNear_120 h
set_option maxHeartbeats 4000000 in
set_option maxRecDepth 100000 in
theorem g_X5_make_55 {x : GX} {E : EX} (hE : EH E) {Q : Int32 → Mem → Prop} (hz : ZI x E Q) {K43 : Int32 → Int32 → Mem → Prop} (hK43 : ∀ (v3 : Int32) (v5 : Int32) (M : Mem), K43 v3 v5 M → G x E mX5_make 0 0 43 [(0, .ref (eA E 20)), (1, .ref (eA E 11)), (3, .int v3), (5, .int v5)] [] M) : ∀ (n : Nat) (v3 : Int32) (v5 : Int32) (v6 : Int32) (M : Mem), P_Parting_make_55 K43 Q n v3 v5 v6 M → G x E mX5_make 0 0 55 [(0, .ref (eA E 20)), (1, .ref (eA E 11)), (3, .int v3), (5, .int v5), (6, .int v6)] [] M := by
  intro n
  induction n with
  | zero => intro _ _ _ _ h; exact h.elim
  | succ n ih =>
    intro v3 v5 v6 M h
    unfold P_Parting_make_55 at h
    refine g_iload (k0 := 4) (q := 57) dX5_make_55 rfl rfl ?_
    refine g_iload (k0 := 3) (q := 59) dX5_make_57 rfl rfl ?_
    refine g_ic_ge (tgt := 78) (q := 62) dX5_make_59 rfl rfl (fun hc8 => ?_) (fun hc8 => ?_)
    · replace h := h.1 hc8
      refine g_iinc (lv' := [(0, .ref (eA E 20)), (1, .ref (eA E 11)), (3, .int v3), (5, .int (v5 + 1)), (6, .int v6)]) (k0 := 3) (w := (v5 + 1)) (q := 81) [1, 2, 3, 0, 4] dX5_make_78 rfl rfl (by decide) rfl rfl ?_
      refine g_goto (tgt := 43) dX5_make_81 rfl ?_
      refine g_lv (lv' := [(0, .ref (eA E 20)), (1, .ref (eA E 11)), (3, .int v3), (5, .int (v5 + 1))]) [0, 1, 2, 3] rfl ?_
      exact hK43 _ _ _ h
    · replace h := h.2 hc8
      refine g_aloadn (k0 := 0) (q := 63) dX5_make_62 rfl rfl rfl ?_
      refine g_aloadn (k0 := 1) (q := 64) dX5_make_63 rfl rfl rfl ?_
      refine g_iload (k0 := 3) (q := 66) dX5_make_64 rfl rfl ?_
      refine g_iload (k0 := 4) (q := 68) dX5_make_66 rfl rfl ?_
      refine g_iloadn (k0 := 2) (q := 69) dX5_make_68 rfl rfl rfl ?_
      refine g_callv (q := 72) [.ref (eA E 11), .int v5, .int v6, .int v3] [] cv_X5_53 rc_20 (c_X5_allowIfNear hE h) rfl rfl ⟨rfl, rfl, Nat.le_of_ble_eq_true rfl, Nat.le_of_ble_eq_true rfl, Nat.zero_le _, Nat.zero_le _⟩ (Nat.le_of_ble_eq_true rfl) dX5_make_69 rfl (fun M7 h => ?_)
      refine g_iinc (lv' := [(0, .ref (eA E 20)), (1, .ref (eA E 11)), (3, .int v3), (5, .int v5), (6, .int (v6 + 1))]) (k0 := 4) (w := (v6 + 1)) (q := 75) [1, 2, 3, 4, 0] dX5_make_72 rfl rfl (by decide) rfl rfl ?_
      refine g_goto (tgt := 55) dX5_make_75 rfl ?_
      exact ih _ _ _ _ h
set_option maxHeartbeats 4000000 in
set_option maxRecDepth 100000 in
theorem g_X5_make_43 {x : GX} {E : EX} (hE : EH E) {Q : Int32 → Mem → Prop} (hz : ZI x E Q) : ∀ (n : Nat) (v3 : Int32) (v5 : Int32) (M : Mem), P_Parting_make_43 Q n v3 v5 M → G x E mX5_make 0 0 43 [(0, .ref (eA E 20)), (1, .ref (eA E 11)), (3, .int v3), (5, .int v5)] [] M := by
  intro n
  induction n with
  | zero => intro _ _ _ h; exact h.elim
  | succ n ih =>
    intro v3 v5 M h
    unfold P_Parting_make_43 at h
    refine g_iload (k0 := 3) (q := 45) dX5_make_43 rfl rfl ?_
    refine g_aloadn (k0 := 0) (q := 46) dX5_make_45 rfl rfl rfl ?_
    refine g_get (v := .int (M.1 20 4)) (q := 49) fg_X5_28_20 rfl dX5_make_46 rfl ?_
    refine g_ic_ge (tgt := 84) (q := 52) dX5_make_49 rfl rfl (fun hc10 => ?_) (fun hc10 => ?_)
    · replace h := h.1 hc10
      refine g_aloadn (k0 := 0) (q := 85) dX5_make_84 rfl rfl rfl ?_
      refine g_get (v := .ref (eA E 21)) (q := 88) fg_X5_12_20 rfl dX5_make_85 rfl ?_
      refine g_callv (q := 91) [] [] cv_X5_57 rc_21 (c_X3_solve hE h) rfl rfl ⟨rfl, rfl, Nat.le_of_ble_eq_true rfl, Nat.le_of_ble_eq_true rfl, Nat.zero_le _, Nat.zero_le _⟩ (Nat.le_of_ble_eq_true rfl) dX5_make_88 rfl (fun M5 h => ?_)
      refine g_aloadn (k0 := 0) (q := 92) dX5_make_91 rfl rfl rfl ?_
      refine g_callv (q := 95) [] [] cv_X5_60 rc_20 (c_X5_drawTracks hE h) rfl rfl ⟨rfl, rfl, Nat.le_of_ble_eq_true rfl, Nat.le_of_ble_eq_true rfl, Nat.zero_le _, Nat.zero_le _⟩ (Nat.le_of_ble_eq_true rfl) dX5_make_92 rfl (fun M6 h => ?_)
      refine g_aloadn (k0 := 0) (q := 96) dX5_make_95 rfl rfl rfl ?_
      refine g_get (v := .int (M6.1 20 5)) (q := 99) fg_X5_32_20 rfl dX5_make_96 rfl ?_
      exact g_iret hz rfl dX5_make_99 h
    · replace h := h.2 hc10
      refine g_iconst (q := 53) dX5_make_52 ki_0 rfl ?_
      refine g_istore (lv' := [(0, .ref (eA E 20)), (1, .ref (eA E 11)), (3, .int v3), (5, .int v5), (6, .int 0)]) (q := 55) [1, 2, 3, 4, 0] dX5_make_53 (by decide) rfl rfl ?_
      obtain ⟨n1, h⟩ := h
      exact g_X5_make_55 hE hz ih n1 _ _ _ _ h
set_option maxHeartbeats 4000000 in
set_option maxRecDepth 100000 in
theorem c_X5_make {E : EX} (hE : EH E) {a2 : Int32} {a3 : Int32} {M : Mem} {Q : Int32 → Mem → Prop} (h : P_Parting_make a2 a3 M Q) : CI yX5_make cX5_make 7 (some .int) rmX5_make E [.ref (eA E 20), .ref (eA E 11), .int a2, .int a3] M Q := by
  refine CI.of hE (plainFor_of_name (by decide)) (Nat.le_of_ble_eq_true rfl) (fun x hz => ?_)
  unfold P_Parting_make at h
  show G x E mX5_make 0 0 0 [(0, .ref (eA E 20)), (1, .ref (eA E 11)), (2, .int a2), (3, .int a3)] [] M
  refine g_aloadn (k0 := 1) (q := 1) dX5_make_0 rfl rfl rfl ?_
  refine g_iconst (q := 2) dX5_make_1 ki_1 rfl ?_
  refine g_iloadn (k0 := 2) (q := 3) dX5_make_2 rfl rfl rfl ?_
  refine g_calli (q := 6) [.int 1, .int a2] [] cv_X5_39 rc_11 (c_X2_howMany hE h) rfl rfl ⟨rfl, rfl, Nat.le_of_ble_eq_true rfl, Nat.le_of_ble_eq_true rfl, Nat.zero_le _, Nat.zero_le _⟩ (Nat.le_of_ble_eq_true rfl) dX5_make_3 rfl (fun r2 M1 h => ?_)
  refine g_istore (lv' := [(0, .ref (eA E 20)), (1, .ref (eA E 11)), (2, .int a2), (3, .int a3), (4, .int r2)]) (q := 8) [1, 2, 3, 4, 0] dX5_make_6 (by decide) rfl rfl ?_
  refine g_iload (k0 := 4) (q := 10) dX5_make_8 rfl rfl ?_
  refine g_iconst (q := 11) dX5_make_10 ki_1 rfl ?_
  refine g_ic_lt (tgt := 21) (q := 14) dX5_make_11 rfl rfl (fun hc13 => ?_) (fun hc13 => ?_)
  · replace h := h.1 hc13
    refine g_iconst (q := 22) dX5_make_21 ki_m1 rfl ?_
    exact g_iret hz rfl dX5_make_22 h
  · replace h := h.2 hc13
    refine g_iload (k0 := 4) (q := 16) dX5_make_14 rfl rfl ?_
    refine g_bipush (q := 18) dX5_make_16 kb_16 rfl ?_
    refine g_ic_le (tgt := 23) (q := 21) dX5_make_18 rfl rfl (fun hc12 => ?_) (fun hc12 => ?_)
    · replace h := h.1 hc12
      refine g_aloadn (k0 := 0) (q := 24) dX5_make_23 rfl rfl rfl ?_
      refine g_aloadn (k0 := 1) (q := 25) dX5_make_24 rfl rfl rfl ?_
      refine g_iloadn (k0 := 2) (q := 26) dX5_make_25 rfl rfl rfl ?_
      refine g_callv (q := 29) [.ref (eA E 11), .int a2] [] cv_X5_45 rc_20 (c_X5_gather hE h) rfl rfl ⟨rfl, rfl, Nat.le_of_ble_eq_true rfl, Nat.le_of_ble_eq_true rfl, Nat.zero_le _, Nat.zero_le _⟩ (Nat.le_of_ble_eq_true rfl) dX5_make_26 rfl (fun M3 h => ?_)
      refine g_aloadn (k0 := 0) (q := 30) dX5_make_29 rfl rfl rfl ?_
      refine g_get (v := .ref (eA E 21)) (q := 33) fg_X5_12_20 rfl dX5_make_30 rfl ?_
      refine g_aloadn (k0 := 0) (q := 34) dX5_make_33 rfl rfl rfl ?_
      refine g_get (v := .int (M3.1 20 4)) (q := 37) fg_X5_28_20 rfl dX5_make_34 rfl ?_
      refine g_callv (q := 40) [.int (M3.1 20 4)] [] cv_X5_49 rc_21 (c_X3_begin hE h) rfl rfl ⟨rfl, rfl, Nat.le_of_ble_eq_true rfl, Nat.le_of_ble_eq_true rfl, Nat.zero_le _, Nat.zero_le _⟩ (Nat.le_of_ble_eq_true rfl) dX5_make_37 rfl (fun M4 h => ?_)
      refine g_iconst (q := 41) dX5_make_40 ki_0 rfl ?_
      refine g_istore (lv' := [(0, .ref (eA E 20)), (1, .ref (eA E 11)), (2, .int a2), (3, .int a3), (4, .int r2), (5, .int 0)]) (q := 43) [1, 2, 3, 4, 5, 0] dX5_make_41 (by decide) rfl rfl ?_
      refine g_lv (lv' := [(0, .ref (eA E 20)), (1, .ref (eA E 11)), (3, .int a3), (5, .int 0)]) [0, 1, 3, 5] rfl ?_
      obtain ⟨n1, h⟩ := h
      exact g_X5_make_43 hE hz n1 _ _ _ h
    · replace h := h.2 hc12
      refine g_iconst (q := 22) dX5_make_21 ki_m1 rfl ?_
      exact g_iret hz rfl dX5_make_22 h
set_option maxHeartbeats 4000000 in
set_option maxRecDepth 100000 in
theorem c_X10_part {E : EX} (hE : EH E) {a1 : Int32} {a2 : Int32} {M : Mem} {Q : Int32 → Mem → Prop} (h : P_Sv_part a1 a2 M Q) : CI yX10_part cX10_part 3 (some .int) rmX10_part E [.ref (eA E 0), .int a1, .int a2] M Q := by
  refine CI.of hE (plainFor_of_name (by decide)) (Nat.le_of_ble_eq_true rfl) (fun x hz => ?_)
  unfold P_Sv_part at h
  show G x E mX10_part 0 0 0 [(0, .ref (eA E 0)), (1, .int a1), (2, .int a2)] [] M
  refine g_iloadn (k0 := 2) (q := 1) dX10_part_0 rfl rfl rfl ?_
  refine g_iconst (q := 2) dX10_part_1 ki_1 rfl ?_
  refine g_ic_lt (tgt := 12) (q := 5) dX10_part_2 rfl rfl (fun hc4 => ?_) (fun hc4 => ?_)
  · replace h := h.1 hc4
    refine g_iconst (q := 13) dX10_part_12 ki_m1 rfl ?_
    exact g_iret hz rfl dX10_part_13 h
  · replace h := h.2 hc4
    refine g_iloadn (k0 := 2) (q := 6) dX10_part_5 rfl rfl rfl ?_
    refine g_sipush (q := 9) dX10_part_6 ks_1000 rfl ?_
    refine g_ic_le (tgt := 14) (q := 12) dX10_part_9 rfl rfl (fun hc3 => ?_) (fun hc3 => ?_)
    · replace h := h.1 hc3
      refine g_aloadn (k0 := 0) (q := 15) dX10_part_14 rfl rfl rfl ?_
      refine g_get (v := .ref (eA E 20)) (q := 18) fg_X10_64_0 rfl dX10_part_15 rfl ?_
      refine g_aloadn (k0 := 0) (q := 19) dX10_part_18 rfl rfl rfl ?_
      refine g_get (v := .ref (eA E 11)) (q := 22) fg_X10_43_0 rfl dX10_part_19 rfl ?_
      refine g_iloadn (k0 := 1) (q := 23) dX10_part_22 rfl rfl rfl ?_
      refine g_iloadn (k0 := 2) (q := 24) dX10_part_23 rfl rfl rfl ?_
      refine g_calli (q := 27) [.ref (eA E 11), .int a1, .int a2] [] cv_X10_143 rc_20 (c_X5_make hE h) rfl rfl ⟨rfl, rfl, Nat.le_of_ble_eq_true rfl, Nat.le_of_ble_eq_true rfl, Nat.zero_le _, Nat.zero_le _⟩ (Nat.le_of_ble_eq_true rfl) dX10_part_24 rfl (fun r2 M1 h => ?_)
      exact g_iret hz rfl dX10_part_27 h
    · replace h := h.2 hc3
      refine g_iconst (q := 13) dX10_part_12 ki_m1 rfl ?_
      exact g_iret hz rfl dX10_part_13 h
set_option maxHeartbeats 4000000 in
set_option maxRecDepth 100000 in
theorem c_X5_together {E : EX} (hE : EH E) {M : Mem} {Q : Int64 → Mem → Prop} (h : P_Parting_together  M Q) : CL yX5_together cX5_together 1 (some .long) rmX5_together E [.ref (eA E 20)] M Q := by
  refine CL.of hE (plainFor_of_name (by decide)) (Nat.le_of_ble_eq_true rfl) (fun x hz => ?_)
  unfold P_Parting_together at h
  show G x E mX5_together 0 0 0 [(0, .ref (eA E 20))] [] M
  refine g_aloadn (k0 := 0) (q := 1) dX5_together_0 rfl rfl rfl ?_
  refine g_get (v := .long (M.2 20 6)) (q := 4) fg_X5_35_20 rfl dX5_together_1 rfl ?_
  exact g_lret hz rfl dX5_together_4 h
