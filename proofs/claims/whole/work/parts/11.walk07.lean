set_option maxHeartbeats 4000000 in
set_option maxRecDepth 100000 in
theorem g_X11_part_77 {x : GX} {E : EX} (hE : EH E) {Q : Int32 → Mem → Prop} (hz : ZI x E Q) {K24 : Int32 → Int32 → Int32 → Int32 → Mem → Prop} (hK24 : ∀ (v1 : Int32) (v2 : Int32) (v3 : Int32) (v4 : Int32) (M : Mem), K24 v1 v2 v3 v4 M → G x E mX11_part 0 0 24 [(0, .ref (eA E 35)), (1, .int v1), (2, .int v2), (3, .int v3), (4, .int v4)] [] M) : ∀ (n : Nat) (v1 : Int32) (v2 : Int32) (v3 : Int32) (v4 : Int32) (v5 : Int32) (M : Mem), P_Mo_part_77 K24 Q n v1 v2 v3 v4 v5 M → G x E mX11_part 0 0 77 [(0, .ref (eA E 35)), (1, .int v1), (2, .int v2), (3, .int v3), (4, .int v4), (5, .int v5)] [] M := by
  intro n
  induction n with
  | zero => intro _ _ _ _ _ _ h; exact h.elim
  | succ n ih =>
    intro v1 v2 v3 v4 v5 M h
    unfold P_Mo_part_77 at h
    refine g_iload (k0 := 5) (q := 79) dX11_part_77 rfl rfl ?_
    refine g_if_le (tgt := 122) (q := 82) dX11_part_79 rfl rfl (fun hc52 => ?_) (fun hc52 => ?_)
    · replace h := h.1 hc52
      exact g_X11_part_122 hE hz hK24 _ _ _ _ _ _ h
    · replace h := h.2 hc52
      refine g_aloadn (k0 := 0) (q := 83) dX11_part_82 rfl rfl rfl ?_
      refine g_iload (k0 := 4) (q := 85) dX11_part_83 rfl rfl ?_
      refine g_aloadn (k0 := 0) (q := 86) dX11_part_85 rfl rfl rfl ?_
      refine g_get (v := .ref (eA E 52)) (q := 89) fg_X11_59_35 rfl dX11_part_86 rfl ?_
      refine g_iload (k0 := 5) (q := 91) dX11_part_89 rfl rfl ?_
      refine g_iconst (q := 92) dX11_part_91 ki_1 rfl ?_
      refine g_isub (q := 93) dX11_part_92 rfl ?_
      have hv47 := h.1
      replace h := h.2
      refine g_iald (v := (M.1 52 ((v5 - 1)).toNatClampNeg)) (q := 94) ar_52 hv47 rfl dX11_part_93 rfl ?_
      refine g_calli (q := 97) [.int v4, .int (M.1 52 ((v5 - 1)).toNatClampNeg)] [] cv_X11_222 rc_35 (c_X11_isAhead hE h) rfl rfl ⟨rfl, rfl, Nat.le_of_ble_eq_true rfl, Nat.le_of_ble_eq_true rfl, Nat.zero_le _, Nat.zero_le _⟩ (Nat.le_of_ble_eq_true rfl) dX11_part_94 rfl (fun r49 M48 h => ?_)
      obtain ⟨hb_r49, h⟩ := h
      refine g_if_eq (tgt := 122) (q := 100) dX11_part_97 rfl rfl (fun hc51 => ?_) (fun hc51 => ?_)
      · replace h := h.1 hc51
        exact g_X11_part_122 hE hz hK24 _ _ _ _ _ _ h
      · replace h := h.2 hc51
        refine g_aloadn (k0 := 0) (q := 101) dX11_part_100 rfl rfl rfl ?_
        refine g_get (v := .ref (eA E 52)) (q := 104) fg_X11_59_35 rfl dX11_part_101 rfl ?_
        refine g_iload (k0 := 5) (q := 106) dX11_part_104 rfl rfl ?_
        refine g_aloadn (k0 := 0) (q := 107) dX11_part_106 rfl rfl rfl ?_
        refine g_get (v := .ref (eA E 52)) (q := 110) fg_X11_59_35 rfl dX11_part_107 rfl ?_
        refine g_iload (k0 := 5) (q := 112) dX11_part_110 rfl rfl ?_
        refine g_iconst (q := 113) dX11_part_112 ki_1 rfl ?_
        refine g_isub (q := 114) dX11_part_113 rfl ?_
        refine g_iald (v := (M48.1 52 ((v5 - 1)).toNatClampNeg)) (q := 115) ar_52 hv47 rfl dX11_part_114 rfl ?_
        have hv50 := h.1
        replace h := h.2
        refine g_iast (q := 116) ar_52 hv50 dX11_part_115 rfl ?_
        refine g_iinc (lv' := [(0, .ref (eA E 35)), (1, .int v1), (2, .int v2), (3, .int v3), (4, .int v4), (5, .int (v5 + (-1)))]) (k0 := 5) (w := (v5 + (-1))) (q := 119) [1, 2, 3, 4, 5, 0] dX11_part_116 rfl rfl (by decide) rfl rfl ?_
        refine g_goto (tgt := 77) dX11_part_119 rfl ?_
        exact ih _ _ _ _ _ _ h
set_option maxHeartbeats 4000000 in
set_option maxRecDepth 100000 in
theorem g_X11_part_24 {x : GX} {E : EX} (hE : EH E) {Q : Int32 → Mem → Prop} (hz : ZI x E Q) : ∀ (n : Nat) (v1 : Int32) (v2 : Int32) (v3 : Int32) (v4 : Int32) (M : Mem), P_Mo_part_24 Q n v1 v2 v3 v4 M → G x E mX11_part 0 0 24 [(0, .ref (eA E 35)), (1, .int v1), (2, .int v2), (3, .int v3), (4, .int v4)] [] M := by
  intro n
  induction n with
  | zero => intro _ _ _ _ _ h; exact h.elim
  | succ n ih =>
    intro v1 v2 v3 v4 M h
    unfold P_Mo_part_24 at h
    refine g_iload (k0 := 4) (q := 26) dX11_part_24 rfl rfl ?_
    refine g_aloadn (k0 := 0) (q := 27) dX11_part_26 rfl rfl rfl ?_
    refine g_get (v := .int (M.1 35 11)) (q := 30) fg_X11_153_35 rfl dX11_part_27 rfl ?_
    refine g_ic_ge (tgt := 140) (q := 33) dX11_part_30 rfl rfl (fun hc57 => ?_) (fun hc57 => ?_)
    · replace h := h.1 hc57
      refine g_iloadn (k0 := 3) (q := 141) dX11_part_140 rfl rfl rfl ?_
      refine g_if_ne (tgt := 146) (q := 144) dX11_part_141 rfl rfl (fun hc43 => ?_) (fun hc43 => ?_)
      · replace h := h.1 hc43
        refine g_iconst (q := 147) dX11_part_146 ki_0 rfl ?_
        refine g_istore (lv' := [(0, .ref (eA E 35)), (1, .int v1), (2, .int v2), (3, .int v3), (4, .int 0)]) (q := 149) [1, 2, 3, 4, 0] dX11_part_147 (by decide) rfl rfl ?_
        refine g_lv (lv' := [(0, .ref (eA E 35)), (2, .int v2), (3, .int v3), (4, .int 0)]) [0, 2, 3, 4] rfl ?_
        obtain ⟨n1, h⟩ := h
        exact g_X11_part_149 hE hz n1 _ _ _ _ h
      · replace h := h.2 hc43
        refine g_iconst (q := 145) dX11_part_144 ki_m1 rfl ?_
        exact g_iret hz rfl dX11_part_145 h
    · replace h := h.2 hc57
      refine g_aloadn (k0 := 0) (q := 34) dX11_part_33 rfl rfl rfl ?_
      refine g_get (v := .ref (eA E 41)) (q := 37) fg_X11_25_35 rfl dX11_part_34 rfl ?_
      refine g_bipush (q := 39) dX11_part_37 kb_8 rfl ?_
      refine g_iload (k0 := 4) (q := 41) dX11_part_39 rfl rfl ?_
      refine g_imul (q := 42) dX11_part_41 rfl ?_
      have hv44 := h.1
      replace h := h.2
      refine g_iald (v := (M.1 41 ((8 * v4)).toNatClampNeg)) (q := 43) ar_41 hv44 rfl dX11_part_42 rfl ?_
      refine g_iconst (q := 44) dX11_part_43 ki_1 rfl ?_
      refine g_ic_ne (tgt := 134) (q := 47) dX11_part_44 rfl rfl (fun hc56 => ?_) (fun hc56 => ?_)
      · replace h := h.1 hc56
        refine g_iinc (lv' := [(0, .ref (eA E 35)), (1, .int v1), (2, .int v2), (3, .int v3), (4, .int (v4 + 1))]) (k0 := 4) (w := (v4 + 1)) (q := 137) [1, 2, 3, 4, 0] dX11_part_134 rfl rfl (by decide) rfl rfl ?_
        refine g_goto (tgt := 24) dX11_part_137 rfl ?_
        exact ih _ _ _ _ _ h
      · replace h := h.2 hc56
        refine g_aloadn (k0 := 0) (q := 48) dX11_part_47 rfl rfl rfl ?_
        refine g_get (v := .ref (eA E 41)) (q := 51) fg_X11_25_35 rfl dX11_part_48 rfl ?_
        refine g_bipush (q := 53) dX11_part_51 kb_8 rfl ?_
        refine g_iload (k0 := 4) (q := 55) dX11_part_53 rfl rfl ?_
        refine g_imul (q := 56) dX11_part_55 rfl ?_
        refine g_iconst (q := 57) dX11_part_56 ki_1 rfl ?_
        refine g_iadd (q := 58) dX11_part_57 rfl ?_
        have hv45 := h.1
        replace h := h.2
        refine g_iald (v := (M.1 41 (((8 * v4) + 1)).toNatClampNeg)) (q := 59) ar_41 hv45 rfl dX11_part_58 rfl ?_
        refine g_iloadn (k0 := 1) (q := 60) dX11_part_59 rfl rfl rfl ?_
        refine g_ic_eq (tgt := 66) (q := 63) dX11_part_60 rfl rfl (fun hc55 => ?_) (fun hc55 => ?_)
        · replace h := h.1 hc55
          refine g_iloadn (k0 := 3) (q := 67) dX11_part_66 rfl rfl rfl ?_
          refine g_bipush (q := 69) dX11_part_67 kb_16 rfl ?_
          refine g_ic_ne (tgt := 74) (q := 72) dX11_part_69 rfl rfl (fun hc54 => ?_) (fun hc54 => ?_)
          · replace h := h.1 hc54
            refine g_iloadn (k0 := 3) (q := 75) dX11_part_74 rfl rfl rfl ?_
            refine g_istore (lv' := [(0, .ref (eA E 35)), (1, .int v1), (2, .int v2), (3, .int v3), (4, .int v4), (5, .int v3)]) (q := 77) [1, 2, 3, 4, 5, 0] dX11_part_75 (by decide) rfl rfl ?_
            obtain ⟨n1, h⟩ := h
            exact g_X11_part_77 hE hz ih n1 _ _ _ _ _ _ h
          · replace h := h.2 hc54
            refine g_iconst (q := 73) dX11_part_72 ki_m1 rfl ?_
            exact g_iret hz rfl dX11_part_73 h
        · replace h := h.2 hc55
          refine g_goto (tgt := 134) dX11_part_63 rfl ?_
          refine g_iinc (lv' := [(0, .ref (eA E 35)), (1, .int v1), (2, .int v2), (3, .int v3), (4, .int (v4 + 1))]) (k0 := 4) (w := (v4 + 1)) (q := 137) [1, 2, 3, 4, 0] dX11_part_134 rfl rfl (by decide) rfl rfl ?_
          refine g_goto (tgt := 24) dX11_part_137 rfl ?_
          exact ih _ _ _ _ _ h
set_option maxHeartbeats 4000000 in
set_option maxRecDepth 100000 in
theorem c_X11_part {E : EX} (hE : EH E) {a1 : Int32} {a2 : Int32} {M : Mem} {Q : Int32 → Mem → Prop} (h : P_Mo_part a1 a2 M Q) : CI yX11_part cX11_part 12 (some .int) rmX11_part E [.ref (eA E 35), .int a1, .int a2] M Q := by
  refine CI.of hE (plainFor_of_name (by decide)) (Nat.le_of_ble_eq_true rfl) (fun x hz => ?_)
  unfold P_Mo_part at h
  show G x E mX11_part 0 0 0 [(0, .ref (eA E 35)), (1, .int a1), (2, .int a2)] [] M
  refine g_aloadn (k0 := 0) (q := 1) dX11_part_0 rfl rfl rfl ?_
  refine g_iconst (q := 2) dX11_part_1 ki_0 rfl ?_
  refine g_putI (q := 5) fp_X11_94_35 dX11_part_2 rfl ?_
  refine g_iloadn (k0 := 2) (q := 6) dX11_part_5 rfl rfl rfl ?_
  refine g_iconst (q := 7) dX11_part_6 ki_1 rfl ?_
  refine g_ic_lt (tgt := 17) (q := 10) dX11_part_7 rfl rfl (fun hc60 => ?_) (fun hc60 => ?_)
  · replace h := h.1 hc60
    refine g_iconst (q := 18) dX11_part_17 ki_m1 rfl ?_
    exact g_iret hz rfl dX11_part_18 h
  · replace h := h.2 hc60
    refine g_iloadn (k0 := 2) (q := 11) dX11_part_10 rfl rfl rfl ?_
    refine g_sipush (q := 14) dX11_part_11 ks_1000 rfl ?_
    refine g_ic_le (tgt := 19) (q := 17) dX11_part_14 rfl rfl (fun hc59 => ?_) (fun hc59 => ?_)
    · replace h := h.1 hc59
      refine g_iconst (q := 20) dX11_part_19 ki_0 rfl ?_
      refine g_istoren (lv' := [(0, .ref (eA E 35)), (1, .int a1), (2, .int a2), (3, .int 0)]) (q := 21) [1, 2, 3, 0] dX11_part_20 rfl (by decide) rfl rfl ?_
      refine g_iconst (q := 22) dX11_part_21 ki_0 rfl ?_
      refine g_istore (lv' := [(0, .ref (eA E 35)), (1, .int a1), (2, .int a2), (3, .int 0), (4, .int 0)]) (q := 24) [1, 2, 3, 4, 0] dX11_part_22 (by decide) rfl rfl ?_
      obtain ⟨n1, h⟩ := h
      exact g_X11_part_24 hE hz n1 _ _ _ _ _ h
    · replace h := h.2 hc59
      refine g_iconst (q := 18) dX11_part_17 ki_m1 rfl ?_
      exact g_iret hz rfl dX11_part_18 h
set_option maxHeartbeats 4000000 in
set_option maxRecDepth 100000 in
theorem c_X11_cost {E : EX} (hE : EH E) {M : Mem} {Q : Int64 → Mem → Prop} (h : P_Mo_cost  M Q) : CL yX11_cost cX11_cost 1 (some .long) rmX11_cost E [.ref (eA E 35)] M Q := by
  refine CL.of hE (plainFor_of_name (by decide)) (Nat.le_of_ble_eq_true rfl) (fun x hz => ?_)
  unfold P_Mo_cost at h
  show G x E mX11_cost 0 0 0 [(0, .ref (eA E 35))] [] M
  refine g_aloadn (k0 := 0) (q := 1) dX11_cost_0 rfl rfl rfl ?_
  refine g_iconst (q := 2) dX11_cost_1 ki_0 rfl ?_
  refine g_putI (q := 5) fp_X11_94_35 dX11_cost_2 rfl ?_
  refine g_aloadn (k0 := 0) (q := 6) dX11_cost_5 rfl rfl rfl ?_
  refine g_get (v := .long (M.2 35 38)) (q := 9) fg_X11_231_35 rfl dX11_cost_6 rfl ?_
  exact g_lret hz rfl dX11_cost_9 h
set_option maxHeartbeats 4000000 in
set_option maxRecDepth 100000 in
theorem c_X11_parted {E : EX} (hE : EH E) {a1 : Int32} {a2 : Int32} {M : Mem} {Q : Int32 → Mem → Prop} (h : P_Mo_parted a1 a2 M Q) : CI yX11_parted cX11_parted 3 (some .int) rmX11_parted E [.ref (eA E 35), .int a1, .int a2] M Q := by
  refine CI.of hE (plainFor_of_name (by decide)) (Nat.le_of_ble_eq_true rfl) (fun x hz => ?_)
  unfold P_Mo_parted at h
  show G x E mX11_parted 0 0 0 [(0, .ref (eA E 35)), (1, .int a1), (2, .int a2)] [] M
  refine g_aloadn (k0 := 0) (q := 1) dX11_parted_0 rfl rfl rfl ?_
  refine g_iconst (q := 2) dX11_parted_1 ki_0 rfl ?_
  refine g_putI (q := 5) fp_X11_94_35 dX11_parted_2 rfl ?_
  refine g_iloadn (k0 := 1) (q := 6) dX11_parted_5 rfl rfl rfl ?_
  refine g_if_lt (tgt := 26) (q := 9) dX11_parted_6 rfl rfl (fun hc9 => ?_) (fun hc9 => ?_)
  · replace h := h.1 hc9
    refine g_iconst (q := 27) dX11_parted_26 ki_m1 rfl ?_
    exact g_iret hz rfl dX11_parted_27 h
  · replace h := h.2 hc9
    refine g_iloadn (k0 := 1) (q := 10) dX11_parted_9 rfl rfl rfl ?_
    refine g_aloadn (k0 := 0) (q := 11) dX11_parted_10 rfl rfl rfl ?_
    refine g_get (v := .int (M.1 35 37)) (q := 14) fg_X11_225_35 rfl dX11_parted_11 rfl ?_
    refine g_ic_ge (tgt := 26) (q := 17) dX11_parted_14 rfl rfl (fun hc8 => ?_) (fun hc8 => ?_)
    · replace h := h.1 hc8
      refine g_iconst (q := 27) dX11_parted_26 ki_m1 rfl ?_
      exact g_iret hz rfl dX11_parted_27 h
    · replace h := h.2 hc8
      refine g_iloadn (k0 := 2) (q := 18) dX11_parted_17 rfl rfl rfl ?_
      refine g_if_lt (tgt := 26) (q := 21) dX11_parted_18 rfl rfl (fun hc7 => ?_) (fun hc7 => ?_)
      · replace h := h.1 hc7
        refine g_iconst (q := 27) dX11_parted_26 ki_m1 rfl ?_
        exact g_iret hz rfl dX11_parted_27 h
      · replace h := h.2 hc7
        refine g_iloadn (k0 := 2) (q := 22) dX11_parted_21 rfl rfl rfl ?_
        refine g_iconst (q := 23) dX11_parted_22 ki_2 rfl ?_
        refine g_ic_le (tgt := 28) (q := 26) dX11_parted_23 rfl rfl (fun hc6 => ?_) (fun hc6 => ?_)
        · replace h := h.1 hc6
          refine g_iloadn (k0 := 2) (q := 29) dX11_parted_28 rfl rfl rfl ?_
          refine g_if_ne (tgt := 41) (q := 32) dX11_parted_29 rfl rfl (fun hc5 => ?_) (fun hc5 => ?_)
          · replace h := h.1 hc5
            refine g_iloadn (k0 := 2) (q := 42) dX11_parted_41 rfl rfl rfl ?_
            refine g_iconst (q := 43) dX11_parted_42 ki_1 rfl ?_
            refine g_ic_ne (tgt := 55) (q := 46) dX11_parted_43 rfl rfl (fun hc3 => ?_) (fun hc3 => ?_)
            · replace h := h.1 hc3
              refine g_aloadn (k0 := 0) (q := 56) dX11_parted_55 rfl rfl rfl ?_
              refine g_get (v := .ref (eA E 55)) (q := 59) fg_X11_68_35 rfl dX11_parted_56 rfl ?_
              refine g_iloadn (k0 := 1) (q := 60) dX11_parted_59 rfl rfl rfl ?_
              have hv1 := h.1
              replace h := h.2
              refine g_iald (v := (M.1 55 a1.toNatClampNeg)) (q := 61) ar_55 hv1 rfl dX11_parted_60 rfl ?_
              exact g_iret hz rfl dX11_parted_61 h
            · replace h := h.2 hc3
              refine g_aloadn (k0 := 0) (q := 47) dX11_parted_46 rfl rfl rfl ?_
              refine g_get (v := .ref (eA E 56)) (q := 50) fg_X11_71_35 rfl dX11_parted_47 rfl ?_
              refine g_iloadn (k0 := 1) (q := 51) dX11_parted_50 rfl rfl rfl ?_
              have hv2 := h.1
              replace h := h.2
              refine g_iald (v := (M.1 56 a1.toNatClampNeg)) (q := 52) ar_56 hv2 rfl dX11_parted_51 rfl ?_
              refine g_goto (tgt := 61) dX11_parted_52 rfl ?_
              exact g_iret hz rfl dX11_parted_61 h
          · replace h := h.2 hc5
            refine g_aloadn (k0 := 0) (q := 33) dX11_parted_32 rfl rfl rfl ?_
            refine g_get (v := .ref (eA E 51)) (q := 36) fg_X11_56_35 rfl dX11_parted_33 rfl ?_
            refine g_iloadn (k0 := 1) (q := 37) dX11_parted_36 rfl rfl rfl ?_
            have hv4 := h.1
            replace h := h.2
            refine g_iald (v := (M.1 51 a1.toNatClampNeg)) (q := 38) ar_51 hv4 rfl dX11_parted_37 rfl ?_
            refine g_goto (tgt := 61) dX11_parted_38 rfl ?_
            exact g_iret hz rfl dX11_parted_61 h
        · replace h := h.2 hc6
          refine g_iconst (q := 27) dX11_parted_26 ki_m1 rfl ?_
          exact g_iret hz rfl dX11_parted_27 h
set_option maxHeartbeats 4000000 in
set_option maxRecDepth 100000 in
theorem g_X11_latest_7 {x : GX} {E : EX} (hE : EH E) {Q : Int32 → Mem → Prop} (hz : ZI x E Q) : ∀ (n : Nat) (v1 : Int32) (v2 : Int32) (M : Mem), P_Mo_latest_7 Q n v1 v2 M → G x E mX11_latest 0 0 7 [(0, .ref (eA E 35)), (1, .int v1), (2, .int v2)] [] M := by
  intro n
  induction n with
  | zero => intro _ _ _ h; exact h.elim
  | succ n ih =>
    intro v1 v2 M h
    unfold P_Mo_latest_7 at h
    refine g_iloadn (k0 := 2) (q := 8) dX11_latest_7 rfl rfl rfl ?_
    refine g_if_lt (tgt := 50) (q := 11) dX11_latest_8 rfl rfl (fun hc5 => ?_) (fun hc5 => ?_)
    · replace h := h.1 hc5
      refine g_iconst (q := 51) dX11_latest_50 ki_m1 rfl ?_
      exact g_iret hz rfl dX11_latest_51 h
    · replace h := h.2 hc5
      refine g_aloadn (k0 := 0) (q := 12) dX11_latest_11 rfl rfl rfl ?_
      refine g_get (v := .ref (eA E 41)) (q := 15) fg_X11_25_35 rfl dX11_latest_12 rfl ?_
      refine g_bipush (q := 17) dX11_latest_15 kb_8 rfl ?_
      refine g_iloadn (k0 := 2) (q := 18) dX11_latest_17 rfl rfl rfl ?_
      refine g_imul (q := 19) dX11_latest_18 rfl ?_
      have hv1 := h.1
      replace h := h.2
      refine g_iald (v := (M.1 41 ((8 * v2)).toNatClampNeg)) (q := 20) ar_41 hv1 rfl dX11_latest_19 rfl ?_
      refine g_iconst (q := 21) dX11_latest_20 ki_1 rfl ?_
      refine g_ic_ne (tgt := 44) (q := 24) dX11_latest_21 rfl rfl (fun hc4 => ?_) (fun hc4 => ?_)
      · replace h := h.1 hc4
        refine g_iinc (lv' := [(0, .ref (eA E 35)), (1, .int v1), (2, .int (v2 + (-1)))]) (k0 := 2) (w := (v2 + (-1))) (q := 47) [1, 2, 0] dX11_latest_44 rfl rfl (by decide) rfl rfl ?_
        refine g_goto (tgt := 7) dX11_latest_47 rfl ?_
        exact ih _ _ _ h
      · replace h := h.2 hc4
        refine g_aloadn (k0 := 0) (q := 25) dX11_latest_24 rfl rfl rfl ?_
        refine g_get (v := .ref (eA E 41)) (q := 28) fg_X11_25_35 rfl dX11_latest_25 rfl ?_
        refine g_bipush (q := 30) dX11_latest_28 kb_8 rfl ?_
        refine g_iloadn (k0 := 2) (q := 31) dX11_latest_30 rfl rfl rfl ?_
        refine g_imul (q := 32) dX11_latest_31 rfl ?_
        refine g_iconst (q := 33) dX11_latest_32 ki_1 rfl ?_
        refine g_iadd (q := 34) dX11_latest_33 rfl ?_
        have hv2 := h.1
        replace h := h.2
        refine g_iald (v := (M.1 41 (((8 * v2) + 1)).toNatClampNeg)) (q := 35) ar_41 hv2 rfl dX11_latest_34 rfl ?_
        refine g_iloadn (k0 := 1) (q := 36) dX11_latest_35 rfl rfl rfl ?_
        refine g_ic_ne (tgt := 44) (q := 39) dX11_latest_36 rfl rfl (fun hc3 => ?_) (fun hc3 => ?_)
        · replace h := h.1 hc3
          refine g_iinc (lv' := [(0, .ref (eA E 35)), (1, .int v1), (2, .int (v2 + (-1)))]) (k0 := 2) (w := (v2 + (-1))) (q := 47) [1, 2, 0] dX11_latest_44 rfl rfl (by decide) rfl rfl ?_
          refine g_goto (tgt := 7) dX11_latest_47 rfl ?_
          exact ih _ _ _ h
        · replace h := h.2 hc3
          refine g_bipush (q := 41) dX11_latest_39 kb_8 rfl ?_
          refine g_iloadn (k0 := 2) (q := 42) dX11_latest_41 rfl rfl rfl ?_
          refine g_imul (q := 43) dX11_latest_42 rfl ?_
          exact g_iret hz rfl dX11_latest_43 h
set_option maxHeartbeats 4000000 in
set_option maxRecDepth 100000 in
theorem c_X11_latest {E : EX} (hE : EH E) {a1 : Int32} {M : Mem} {Q : Int32 → Mem → Prop} (h : P_Mo_latest a1 M Q) : CI yX11_latest cX11_latest 3 (some .int) rmX11_latest E [.ref (eA E 35), .int a1] M Q := by
  refine CI.of hE (plainFor_of_name (by decide)) (Nat.le_of_ble_eq_true rfl) (fun x hz => ?_)
  unfold P_Mo_latest at h
  show G x E mX11_latest 0 0 0 [(0, .ref (eA E 35)), (1, .int a1)] [] M
  refine g_aloadn (k0 := 0) (q := 1) dX11_latest_0 rfl rfl rfl ?_
  refine g_get (v := .int (M.1 35 11)) (q := 4) fg_X11_153_35 rfl dX11_latest_1 rfl ?_
  refine g_iconst (q := 5) dX11_latest_4 ki_1 rfl ?_
  refine g_isub (q := 6) dX11_latest_5 rfl ?_
  refine g_istoren (lv' := [(0, .ref (eA E 35)), (1, .int a1), (2, .int ((M.1 35 11) - 1))]) (q := 7) [1, 2, 0] dX11_latest_6 rfl (by decide) rfl rfl ?_
  obtain ⟨n1, h⟩ := h
  exact g_X11_latest_7 hE hz n1 _ _ _ h
set_option maxHeartbeats 4000000 in
set_option maxRecDepth 100000 in
theorem c_X11_gap {E : EX} (hE : EH E) {a1 : Int32} {a2 : Int32} {a3 : Int32} {M : Mem} {Q : Int64 → Mem → Prop} (h : P_Mo_gap a1 a2 a3 M Q) : CL yX11_gap cX11_gap 8 (some .long) rmX11_gap E [.ref (eA E 35), .int a1, .int a2, .int a3] M Q := by
  refine CL.of hE (plainFor_of_name (by decide)) (Nat.le_of_ble_eq_true rfl) (fun x hz => ?_)
  unfold P_Mo_gap at h
  show G x E mX11_gap 0 0 0 [(0, .ref (eA E 35)), (1, .int a1), (2, .int a2), (3, .int a3)] [] M
  refine g_aloadn (k0 := 0) (q := 1) dX11_gap_0 rfl rfl rfl ?_
  refine g_get (v := .ref (eA E 41)) (q := 4) fg_X11_25_35 rfl dX11_gap_1 rfl ?_
  refine g_iloadn (k0 := 1) (q := 5) dX11_gap_4 rfl rfl rfl ?_
  refine g_iconst (q := 6) dX11_gap_5 ki_4 rfl ?_
  refine g_iadd (q := 7) dX11_gap_6 rfl ?_
  have hv1 := h.1
  replace h := h.2
  refine g_iald (v := (M.1 41 ((a1 + 4)).toNatClampNeg)) (q := 8) ar_41 hv1 rfl dX11_gap_7 rfl ?_
  refine g_i2l (q := 9) dX11_gap_8 rfl ?_
  refine g_aloadn (k0 := 0) (q := 10) dX11_gap_9 rfl rfl rfl ?_
  refine g_get (v := .ref (eA E 41)) (q := 13) fg_X11_25_35 rfl dX11_gap_10 rfl ?_
  refine g_iloadn (k0 := 1) (q := 14) dX11_gap_13 rfl rfl rfl ?_
  refine g_bipush (q := 16) dX11_gap_14 kb_6 rfl ?_
  refine g_iadd (q := 17) dX11_gap_16 rfl ?_
  have hv2 := h.1
  replace h := h.2
  refine g_iald (v := (M.1 41 ((a1 + 6)).toNatClampNeg)) (q := 18) ar_41 hv2 rfl dX11_gap_17 rfl ?_
  refine g_i2l (q := 19) dX11_gap_18 rfl ?_
  refine g_iloadn (k0 := 3) (q := 20) dX11_gap_19 rfl rfl rfl ?_
  refine g_aloadn (k0 := 0) (q := 21) dX11_gap_20 rfl rfl rfl ?_
  refine g_get (v := .ref (eA E 41)) (q := 24) fg_X11_25_35 rfl dX11_gap_21 rfl ?_
  refine g_iloadn (k0 := 1) (q := 25) dX11_gap_24 rfl rfl rfl ?_
  refine g_iconst (q := 26) dX11_gap_25 ki_3 rfl ?_
  refine g_iadd (q := 27) dX11_gap_26 rfl ?_
  have hv3 := h.1
  replace h := h.2
  refine g_iald (v := (M.1 41 ((a1 + 3)).toNatClampNeg)) (q := 28) ar_41 hv3 rfl dX11_gap_27 rfl ?_
  refine g_isub (q := 29) dX11_gap_28 rfl ?_
  refine g_i2l (q := 30) dX11_gap_29 rfl ?_
  refine g_lmul (q := 31) dX11_gap_30 rfl ?_
  refine g_ladd (q := 32) dX11_gap_31 rfl ?_
  refine g_aloadn (k0 := 0) (q := 33) dX11_gap_32 rfl rfl rfl ?_
  refine g_get (v := .ref (eA E 41)) (q := 36) fg_X11_25_35 rfl dX11_gap_33 rfl ?_
  refine g_iloadn (k0 := 2) (q := 37) dX11_gap_36 rfl rfl rfl ?_
  refine g_iconst (q := 38) dX11_gap_37 ki_4 rfl ?_
  refine g_iadd (q := 39) dX11_gap_38 rfl ?_
  have hv4 := h.1
  replace h := h.2
  refine g_iald (v := (M.1 41 ((a2 + 4)).toNatClampNeg)) (q := 40) ar_41 hv4 rfl dX11_gap_39 rfl ?_
  refine g_i2l (q := 41) dX11_gap_40 rfl ?_
  refine g_lsub (q := 42) dX11_gap_41 rfl ?_
  refine g_aloadn (k0 := 0) (q := 43) dX11_gap_42 rfl rfl rfl ?_
  refine g_get (v := .ref (eA E 41)) (q := 46) fg_X11_25_35 rfl dX11_gap_43 rfl ?_
  refine g_iloadn (k0 := 2) (q := 47) dX11_gap_46 rfl rfl rfl ?_
  refine g_bipush (q := 49) dX11_gap_47 kb_6 rfl ?_
  refine g_iadd (q := 50) dX11_gap_49 rfl ?_
  have hv5 := h.1
  replace h := h.2
  refine g_iald (v := (M.1 41 ((a2 + 6)).toNatClampNeg)) (q := 51) ar_41 hv5 rfl dX11_gap_50 rfl ?_
  refine g_i2l (q := 52) dX11_gap_51 rfl ?_
  refine g_iloadn (k0 := 3) (q := 53) dX11_gap_52 rfl rfl rfl ?_
  refine g_aloadn (k0 := 0) (q := 54) dX11_gap_53 rfl rfl rfl ?_
  refine g_get (v := .ref (eA E 41)) (q := 57) fg_X11_25_35 rfl dX11_gap_54 rfl ?_
  refine g_iloadn (k0 := 2) (q := 58) dX11_gap_57 rfl rfl rfl ?_
  refine g_iconst (q := 59) dX11_gap_58 ki_3 rfl ?_
  refine g_iadd (q := 60) dX11_gap_59 rfl ?_
  have hv6 := h.1
  replace h := h.2
  refine g_iald (v := (M.1 41 ((a2 + 3)).toNatClampNeg)) (q := 61) ar_41 hv6 rfl dX11_gap_60 rfl ?_
  refine g_isub (q := 62) dX11_gap_61 rfl ?_
  refine g_i2l (q := 63) dX11_gap_62 rfl ?_
  refine g_lmul (q := 64) dX11_gap_63 rfl ?_
  refine g_lsub (q := 65) dX11_gap_64 rfl ?_
  refine g_lstore (lv' := [(0, .ref (eA E 35)), (1, .int a1), (2, .int a2), (3, .int a3), (4, .long ((((Int32.toInt64 (M.1 41 ((a1 + 4)).toNatClampNeg)) + ((Int32.toInt64 (M.1 41 ((a1 + 6)).toNatClampNeg)) * (Int32.toInt64 (a3 - (M.1 41 ((a1 + 3)).toNatClampNeg))))) - (Int32.toInt64 (M.1 41 ((a2 + 4)).toNatClampNeg))) - ((Int32.toInt64 (M.1 41 ((a2 + 6)).toNatClampNeg)) * (Int32.toInt64 (a3 - (M.1 41 ((a2 + 3)).toNatClampNeg))))))]) (q := 67) [1, 2, 3, 4, 0] dX11_gap_65 (by decide) rfl rfl ?_
  refine g_aloadn (k0 := 0) (q := 68) dX11_gap_67 rfl rfl rfl ?_
  refine g_get (v := .ref (eA E 41)) (q := 71) fg_X11_25_35 rfl dX11_gap_68 rfl ?_
  refine g_iloadn (k0 := 1) (q := 72) dX11_gap_71 rfl rfl rfl ?_
  refine g_iconst (q := 73) dX11_gap_72 ki_5 rfl ?_
  refine g_iadd (q := 74) dX11_gap_73 rfl ?_
  have hv7 := h.1
  replace h := h.2
  refine g_iald (v := (M.1 41 ((a1 + 5)).toNatClampNeg)) (q := 75) ar_41 hv7 rfl dX11_gap_74 rfl ?_
  refine g_i2l (q := 76) dX11_gap_75 rfl ?_
  refine g_aloadn (k0 := 0) (q := 77) dX11_gap_76 rfl rfl rfl ?_
  refine g_get (v := .ref (eA E 41)) (q := 80) fg_X11_25_35 rfl dX11_gap_77 rfl ?_
  refine g_iloadn (k0 := 1) (q := 81) dX11_gap_80 rfl rfl rfl ?_
  refine g_bipush (q := 83) dX11_gap_81 kb_7 rfl ?_
  refine g_iadd (q := 84) dX11_gap_83 rfl ?_
  have hv8 := h.1
  replace h := h.2
  refine g_iald (v := (M.1 41 ((a1 + 7)).toNatClampNeg)) (q := 85) ar_41 hv8 rfl dX11_gap_84 rfl ?_
  refine g_i2l (q := 86) dX11_gap_85 rfl ?_
  refine g_iloadn (k0 := 3) (q := 87) dX11_gap_86 rfl rfl rfl ?_
  refine g_aloadn (k0 := 0) (q := 88) dX11_gap_87 rfl rfl rfl ?_
  refine g_get (v := .ref (eA E 41)) (q := 91) fg_X11_25_35 rfl dX11_gap_88 rfl ?_
  refine g_iloadn (k0 := 1) (q := 92) dX11_gap_91 rfl rfl rfl ?_
  refine g_iconst (q := 93) dX11_gap_92 ki_3 rfl ?_
  refine g_iadd (q := 94) dX11_gap_93 rfl ?_
  refine g_iald (v := (M.1 41 ((a1 + 3)).toNatClampNeg)) (q := 95) ar_41 hv3 rfl dX11_gap_94 rfl ?_
  refine g_isub (q := 96) dX11_gap_95 rfl ?_
  refine g_i2l (q := 97) dX11_gap_96 rfl ?_
  refine g_lmul (q := 98) dX11_gap_97 rfl ?_
  refine g_ladd (q := 99) dX11_gap_98 rfl ?_
  refine g_aloadn (k0 := 0) (q := 100) dX11_gap_99 rfl rfl rfl ?_
  refine g_get (v := .ref (eA E 41)) (q := 103) fg_X11_25_35 rfl dX11_gap_100 rfl ?_
  refine g_iloadn (k0 := 2) (q := 104) dX11_gap_103 rfl rfl rfl ?_
  refine g_iconst (q := 105) dX11_gap_104 ki_5 rfl ?_
  refine g_iadd (q := 106) dX11_gap_105 rfl ?_
  have hv9 := h.1
  replace h := h.2
  refine g_iald (v := (M.1 41 ((a2 + 5)).toNatClampNeg)) (q := 107) ar_41 hv9 rfl dX11_gap_106 rfl ?_
  refine g_i2l (q := 108) dX11_gap_107 rfl ?_
  refine g_lsub (q := 109) dX11_gap_108 rfl ?_
  refine g_aloadn (k0 := 0) (q := 110) dX11_gap_109 rfl rfl rfl ?_
  refine g_get (v := .ref (eA E 41)) (q := 113) fg_X11_25_35 rfl dX11_gap_110 rfl ?_
  refine g_iloadn (k0 := 2) (q := 114) dX11_gap_113 rfl rfl rfl ?_
  refine g_bipush (q := 116) dX11_gap_114 kb_7 rfl ?_
  refine g_iadd (q := 117) dX11_gap_116 rfl ?_
  have hv10 := h.1
  replace h := h.2
  refine g_iald (v := (M.1 41 ((a2 + 7)).toNatClampNeg)) (q := 118) ar_41 hv10 rfl dX11_gap_117 rfl ?_
  refine g_i2l (q := 119) dX11_gap_118 rfl ?_
  refine g_iloadn (k0 := 3) (q := 120) dX11_gap_119 rfl rfl rfl ?_
  refine g_aloadn (k0 := 0) (q := 121) dX11_gap_120 rfl rfl rfl ?_
  refine g_get (v := .ref (eA E 41)) (q := 124) fg_X11_25_35 rfl dX11_gap_121 rfl ?_
  refine g_iloadn (k0 := 2) (q := 125) dX11_gap_124 rfl rfl rfl ?_
  refine g_iconst (q := 126) dX11_gap_125 ki_3 rfl ?_
  refine g_iadd (q := 127) dX11_gap_126 rfl ?_
  refine g_iald (v := (M.1 41 ((a2 + 3)).toNatClampNeg)) (q := 128) ar_41 hv6 rfl dX11_gap_127 rfl ?_
  refine g_isub (q := 129) dX11_gap_128 rfl ?_
  refine g_i2l (q := 130) dX11_gap_129 rfl ?_
  refine g_lmul (q := 131) dX11_gap_130 rfl ?_
  refine g_lsub (q := 132) dX11_gap_131 rfl ?_
  refine g_lstore (lv' := [(0, .ref (eA E 35)), (1, .int a1), (2, .int a2), (3, .int a3), (4, .long ((((Int32.toInt64 (M.1 41 ((a1 + 4)).toNatClampNeg)) + ((Int32.toInt64 (M.1 41 ((a1 + 6)).toNatClampNeg)) * (Int32.toInt64 (a3 - (M.1 41 ((a1 + 3)).toNatClampNeg))))) - (Int32.toInt64 (M.1 41 ((a2 + 4)).toNatClampNeg))) - ((Int32.toInt64 (M.1 41 ((a2 + 6)).toNatClampNeg)) * (Int32.toInt64 (a3 - (M.1 41 ((a2 + 3)).toNatClampNeg)))))), (6, .long ((((Int32.toInt64 (M.1 41 ((a1 + 5)).toNatClampNeg)) + ((Int32.toInt64 (M.1 41 ((a1 + 7)).toNatClampNeg)) * (Int32.toInt64 (a3 - (M.1 41 ((a1 + 3)).toNatClampNeg))))) - (Int32.toInt64 (M.1 41 ((a2 + 5)).toNatClampNeg))) - ((Int32.toInt64 (M.1 41 ((a2 + 7)).toNatClampNeg)) * (Int32.toInt64 (a3 - (M.1 41 ((a2 + 3)).toNatClampNeg))))))]) (q := 134) [1, 2, 3, 4, 5, 0] dX11_gap_132 (by decide) rfl rfl ?_
  refine g_lload (k0 := 4) (q := 136) dX11_gap_134 rfl rfl ?_
  refine g_lload (k0 := 4) (q := 138) dX11_gap_136 rfl rfl ?_
  refine g_lmul (q := 139) dX11_gap_138 rfl ?_
  refine g_lload (k0 := 5) (q := 141) dX11_gap_139 rfl rfl ?_
  refine g_lload (k0 := 5) (q := 143) dX11_gap_141 rfl rfl ?_
  refine g_lmul (q := 144) dX11_gap_143 rfl ?_
  refine g_ladd (q := 145) dX11_gap_144 rfl ?_
  exact g_lret hz rfl dX11_gap_145 h
set_option maxHeartbeats 4000000 in
set_option maxRecDepth 100000 in
theorem g_X11_meet_67 {x : GX} {E : EX} (hE : EH E) {Q : Int64 → Mem → Prop} (hz : ZL x E Q) : ∀ (n : Nat) (v3 : Int32) (v4 : Int32) (v5 : Int64) (v7 : Int32) (M : Mem), P_Mo_meet_67 Q n v3 v4 v5 v7 M → G x E mX11_meet 0 0 67 [(0, .ref (eA E 35)), (3, .int v3), (4, .int v4), (5, .long v5), (7, .int v7)] [] M := by
  intro n
  induction n with
  | zero => intro _ _ _ _ _ h; exact h.elim
  | succ n ih =>
    intro v3 v4 v5 v7 M h
    unfold P_Mo_meet_67 at h
    refine g_iload (k0 := 4) (q := 69) dX11_meet_67 rfl rfl ?_
    refine g_aloadn (k0 := 0) (q := 70) dX11_meet_69 rfl rfl rfl ?_
    refine g_get (v := .int (M.1 35 7)) (q := 73) fg_X11_133_35 rfl dX11_meet_70 rfl ?_
    refine g_sipush (q := 76) dX11_meet_73 ks_3600 rfl ?_
    refine g_iadd (q := 77) dX11_meet_76 rfl ?_
    refine g_ic_gt (tgt := 118) (q := 80) dX11_meet_77 rfl rfl (fun hc10 => ?_) (fun hc10 => ?_)
    · replace h := h.1 hc10
      refine g_lload (k0 := 3) (q := 120) dX11_meet_118 rfl rfl ?_
      exact g_lret hz rfl dX11_meet_120 h
    · replace h := h.2 hc10
      refine g_aloadn (k0 := 0) (q := 81) dX11_meet_80 rfl rfl rfl ?_
      refine g_iloadn (k0 := 1) (q := 82) dX11_meet_81 rfl rfl rfl ?_
      refine g_iload (k0 := 2) (q := 84) dX11_meet_82 rfl rfl ?_
      refine g_iload (k0 := 4) (q := 86) dX11_meet_84 rfl rfl ?_
      refine g_calll (q := 89) [.int v3, .int v4, .int v7] [] cv_X11_245 rc_35 (c_X11_gap hE h) rfl rfl ⟨rfl, rfl, Nat.le_of_ble_eq_true rfl, Nat.le_of_ble_eq_true rfl, Nat.zero_le _, Nat.zero_le _⟩ (Nat.le_of_ble_eq_true rfl) dX11_meet_86 rfl (fun r8 M7 h => ?_)
      refine g_lstore (lv' := [(0, .ref (eA E 35)), (3, .int v3), (4, .int v4), (5, .long v5), (7, .int v7), (8, .long r8)]) (q := 91) [1, 2, 3, 4, 5, 0] dX11_meet_89 (by decide) rfl rfl ?_
      refine g_lload (k0 := 5) (q := 93) dX11_meet_91 rfl rfl ?_
      refine g_lload (k0 := 3) (q := 95) dX11_meet_93 rfl rfl ?_
      refine g_lc_lt (tgt := 102) (q := 96) (q2 := 99) dX11_meet_95 rfl dX11_meet_96 rfl rfl (fun hc9 => ?_) (fun hc9 => ?_)
      · replace h := h.1 hc9
        refine g_lload (k0 := 5) (q := 104) dX11_meet_102 rfl rfl ?_
        refine g_lstore (lv' := [(0, .ref (eA E 35)), (3, .int v3), (4, .int v4), (5, .long r8), (7, .int v7), (8, .long r8)]) (q := 106) [1, 2, 3, 0, 4, 5] dX11_meet_104 (by decide) rfl rfl ?_
        refine g_aloadn (k0 := 0) (q := 107) dX11_meet_106 rfl rfl rfl ?_
        refine g_iload (k0 := 4) (q := 109) dX11_meet_107 rfl rfl ?_
        refine g_putI (q := 112) fp_X11_90_35 dX11_meet_109 rfl ?_
        refine g_iinc (lv' := [(0, .ref (eA E 35)), (3, .int v3), (4, .int v4), (5, .long r8), (7, .int (v7 + 1)), (8, .long r8)]) (k0 := 4) (w := (v7 + 1)) (q := 115) [1, 2, 3, 4, 0, 5] dX11_meet_112 rfl rfl (by decide) rfl rfl ?_
        refine g_goto (tgt := 67) dX11_meet_115 rfl ?_
        refine g_lv (lv' := [(0, .ref (eA E 35)), (3, .int v3), (4, .int v4), (5, .long r8), (7, .int (v7 + 1))]) [0, 1, 2, 3, 4] rfl ?_
        exact ih _ _ _ _ _ h
      · replace h := h.2 hc9
        refine g_goto (tgt := 112) dX11_meet_99 rfl ?_
        refine g_iinc (lv' := [(0, .ref (eA E 35)), (3, .int v3), (4, .int v4), (5, .long v5), (7, .int (v7 + 1)), (8, .long r8)]) (k0 := 4) (w := (v7 + 1)) (q := 115) [1, 2, 3, 4, 0, 5] dX11_meet_112 rfl rfl (by decide) rfl rfl ?_
        refine g_goto (tgt := 67) dX11_meet_115 rfl ?_
        refine g_lv (lv' := [(0, .ref (eA E 35)), (3, .int v3), (4, .int v4), (5, .long v5), (7, .int (v7 + 1))]) [0, 1, 2, 3, 4] rfl ?_
        exact ih _ _ _ _ _ h
set_option maxHeartbeats 4000000 in
set_option maxRecDepth 100000 in
theorem c_X11_meet {E : EX} (hE : EH E) {a1 : Int32} {a2 : Int32} {M : Mem} {Q : Int64 → Mem → Prop} (h : P_Mo_meet a1 a2 M Q) : CL yX11_meet cX11_meet 10 (some .long) rmX11_meet E [.ref (eA E 35), .int a1, .int a2] M Q := by
  refine CL.of hE (plainFor_of_name (by decide)) (Nat.le_of_ble_eq_true rfl) (fun x hz => ?_)
  unfold P_Mo_meet at h
  show G x E mX11_meet 0 0 0 [(0, .ref (eA E 35)), (1, .int a1), (2, .int a2)] [] M
  refine g_aloadn (k0 := 0) (q := 1) dX11_meet_0 rfl rfl rfl ?_
  refine g_iconst (q := 2) dX11_meet_1 ki_0 rfl ?_
  refine g_putI (q := 5) fp_X11_94_35 dX11_meet_2 rfl ?_
  refine g_aloadn (k0 := 0) (q := 6) dX11_meet_5 rfl rfl rfl ?_
  refine g_iloadn (k0 := 1) (q := 7) dX11_meet_6 rfl rfl rfl ?_
  refine g_calli (q := 10) [.int a1] [] cv_X11_240 rc_35 (c_X11_latest hE h) rfl rfl ⟨rfl, rfl, Nat.le_of_ble_eq_true rfl, Nat.le_of_ble_eq_true rfl, Nat.zero_le _, Nat.zero_le _⟩ (Nat.le_of_ble_eq_true rfl) dX11_meet_7 rfl (fun r2 M1 h => ?_)
  refine g_istoren (lv' := [(0, .ref (eA E 35)), (1, .int a1), (2, .int a2), (3, .int r2)]) (q := 11) [1, 2, 3, 0] dX11_meet_10 rfl (by decide) rfl rfl ?_
  refine g_aloadn (k0 := 0) (q := 12) dX11_meet_11 rfl rfl rfl ?_
  refine g_iloadn (k0 := 2) (q := 13) dX11_meet_12 rfl rfl rfl ?_
  refine g_calli (q := 16) [.int a2] [] cv_X11_240 rc_35 (c_X11_latest hE h) rfl rfl ⟨rfl, rfl, Nat.le_of_ble_eq_true rfl, Nat.le_of_ble_eq_true rfl, Nat.zero_le _, Nat.zero_le _⟩ (Nat.le_of_ble_eq_true rfl) dX11_meet_13 rfl (fun r4 M3 h => ?_)
  refine g_istore (lv' := [(0, .ref (eA E 35)), (1, .int a1), (2, .int a2), (3, .int r2), (4, .int r4)]) (q := 18) [1, 2, 3, 4, 0] dX11_meet_16 (by decide) rfl rfl ?_
  refine g_iloadn (k0 := 1) (q := 19) dX11_meet_18 rfl rfl rfl ?_
  refine g_iloadn (k0 := 2) (q := 20) dX11_meet_19 rfl rfl rfl ?_
  refine g_ic_eq (tgt := 34) (q := 23) dX11_meet_20 rfl rfl (fun hc14 => ?_) (fun hc14 => ?_)
  · replace h := h.1 hc14
    refine g_ldc2 (q := 37) dX11_meet_34 wm_1161 rfl ?_
    exact g_lret hz rfl dX11_meet_37 h
  · replace h := h.2 hc14
    refine g_iloadn (k0 := 3) (q := 24) dX11_meet_23 rfl rfl rfl ?_
    refine g_iconst (q := 25) dX11_meet_24 ki_m1 rfl ?_
    refine g_ic_eq (tgt := 34) (q := 28) dX11_meet_25 rfl rfl (fun hc13 => ?_) (fun hc13 => ?_)
    · replace h := h.1 hc13
      refine g_ldc2 (q := 37) dX11_meet_34 wm_1161 rfl ?_
      exact g_lret hz rfl dX11_meet_37 h
    · replace h := h.2 hc13
      refine g_iload (k0 := 4) (q := 30) dX11_meet_28 rfl rfl ?_
      refine g_iconst (q := 31) dX11_meet_30 ki_m1 rfl ?_
      refine g_ic_ne (tgt := 38) (q := 34) dX11_meet_31 rfl rfl (fun hc12 => ?_) (fun hc12 => ?_)
      · replace h := h.1 hc12
        refine g_aloadn (k0 := 0) (q := 39) dX11_meet_38 rfl rfl rfl ?_
        refine g_iloadn (k0 := 3) (q := 40) dX11_meet_39 rfl rfl rfl ?_
        refine g_iload (k0 := 4) (q := 42) dX11_meet_40 rfl rfl ?_
        refine g_aloadn (k0 := 0) (q := 43) dX11_meet_42 rfl rfl rfl ?_
        refine g_get (v := .int (M3.1 35 7)) (q := 46) fg_X11_133_35 rfl dX11_meet_43 rfl ?_
        refine g_calll (q := 49) [.int r2, .int r4, .int (M3.1 35 7)] [] cv_X11_245 rc_35 (c_X11_gap hE h) rfl rfl ⟨rfl, rfl, Nat.le_of_ble_eq_true rfl, Nat.le_of_ble_eq_true rfl, Nat.zero_le _, Nat.zero_le _⟩ (Nat.le_of_ble_eq_true rfl) dX11_meet_46 rfl (fun r6 M5 h => ?_)
        refine g_lstore (lv' := [(0, .ref (eA E 35)), (1, .int a1), (2, .int a2), (3, .int r2), (4, .int r4), (5, .long r6)]) (q := 51) [1, 2, 3, 4, 5, 0] dX11_meet_49 (by decide) rfl rfl ?_
        refine g_aloadn (k0 := 0) (q := 52) dX11_meet_51 rfl rfl rfl ?_
        refine g_aloadn (k0 := 0) (q := 53) dX11_meet_52 rfl rfl rfl ?_
        refine g_get (v := .int (M5.1 35 7)) (q := 56) fg_X11_133_35 rfl dX11_meet_53 rfl ?_
        refine g_putI (q := 59) fp_X11_90_35 dX11_meet_56 rfl ?_
        refine g_aloadn (k0 := 0) (q := 60) dX11_meet_59 rfl rfl rfl ?_
        refine g_get (v := .int (M5.1 35 7)) (q := 63) fg_X11_133_35 rfl dX11_meet_60 rfl ?_
        refine g_iconst (q := 64) dX11_meet_63 ki_1 rfl ?_
        refine g_iadd (q := 65) dX11_meet_64 rfl ?_
        refine g_istore (lv' := [(0, .ref (eA E 35)), (1, .int a1), (2, .int a2), (3, .int r2), (4, .int r4), (5, .long r6), (7, .int ((M5.1 35 7) + 1))]) (q := 67) [1, 2, 3, 4, 5, 6, 0] dX11_meet_65 (by decide) rfl rfl ?_
        refine g_lv (lv' := [(0, .ref (eA E 35)), (3, .int r2), (4, .int r4), (5, .long r6), (7, .int ((M5.1 35 7) + 1))]) [0, 3, 4, 5, 6] rfl ?_
        obtain ⟨n1, h⟩ := h
        exact g_X11_meet_67 hE hz n1 _ _ _ _ _ h
      · replace h := h.2 hc12
        refine g_ldc2 (q := 37) dX11_meet_34 wm_1161 rfl ?_
        exact g_lret hz rfl dX11_meet_37 h
set_option maxHeartbeats 4000000 in
set_option maxRecDepth 100000 in
theorem c_X11_when {E : EX} (hE : EH E) {M : Mem} {Q : Int32 → Mem → Prop} (h : P_Mo_when  M Q) : CI yX11_when cX11_when 1 (some .int) rmX11_when E [.ref (eA E 35)] M Q := by
  refine CI.of hE (plainFor_of_name (by decide)) (Nat.le_of_ble_eq_true rfl) (fun x hz => ?_)
  unfold P_Mo_when at h
  show G x E mX11_when 0 0 0 [(0, .ref (eA E 35))] [] M
  refine g_aloadn (k0 := 0) (q := 1) dX11_when_0 rfl rfl rfl ?_
  refine g_iconst (q := 2) dX11_when_1 ki_0 rfl ?_
  refine g_putI (q := 5) fp_X11_94_35 dX11_when_2 rfl ?_
  refine g_aloadn (k0 := 0) (q := 6) dX11_when_5 rfl rfl rfl ?_
  refine g_get (v := .int (M.1 35 43)) (q := 9) fg_X11_90_35 rfl dX11_when_6 rfl ?_
  exact g_iret hz rfl dX11_when_9 h
set_option maxHeartbeats 4000000 in
set_option maxRecDepth 100000 in
theorem c_X11_count {E : EX} (hE : EH E) {a1 : Int32} {M : Mem} {Q : Int32 → Mem → Prop} (h : P_Mo_count a1 M Q) : CI yX11_count cX11_count 2 (some .int) rmX11_count E [.ref (eA E 35), .int a1] M Q := by
  refine CI.of hE (plainFor_of_name (by decide)) (Nat.le_of_ble_eq_true rfl) (fun x hz => ?_)
  unfold P_Mo_count at h
  show G x E mX11_count 0 0 0 [(0, .ref (eA E 35)), (1, .int a1)] [] M
  refine g_aloadn (k0 := 0) (q := 1) dX11_count_0 rfl rfl rfl ?_
  refine g_iconst (q := 2) dX11_count_1 ki_0 rfl ?_
  refine g_putI (q := 5) fp_X11_94_35 dX11_count_2 rfl ?_
  refine g_iloadn (k0 := 1) (q := 6) dX11_count_5 rfl rfl rfl ?_
  by_cases hc1 : a1 = 0
  · replace h := h.1 hc1
    refine g_tin (tgt := 56) 0 (by rw [hc1]; decide) dX11_count_6 (by decide) (by decide) rfl rfl ?_
    refine g_aloadn (k0 := 0) (q := 57) dX11_count_56 rfl rfl rfl ?_
    refine g_get (v := .int (M.1 35 7)) (q := 60) fg_X11_133_35 rfl dX11_count_57 rfl ?_
    exact g_iret hz rfl dX11_count_60 h
  replace h := h.2
  by_cases hc2 : a1 = 1
  · replace h := h.1 hc2
    refine g_tin (tgt := 61) 1 (by rw [hc2]; decide) dX11_count_6 (by decide) (by decide) rfl rfl ?_
    refine g_aloadn (k0 := 0) (q := 62) dX11_count_61 rfl rfl rfl ?_
    refine g_get (v := .int (M.1 35 12)) (q := 65) fg_X11_143_35 rfl dX11_count_62 rfl ?_
    exact g_iret hz rfl dX11_count_65 h
  replace h := h.2
  by_cases hc3 : a1 = 2
  · replace h := h.1 hc3
    refine g_tin (tgt := 66) 2 (by rw [hc3]; decide) dX11_count_6 (by decide) (by decide) rfl rfl ?_
    refine g_aloadn (k0 := 0) (q := 67) dX11_count_66 rfl rfl rfl ?_
    refine g_get (v := .int (M.1 35 11)) (q := 70) fg_X11_153_35 rfl dX11_count_67 rfl ?_
    exact g_iret hz rfl dX11_count_70 h
  replace h := h.2
  by_cases hc4 : a1 = 3
  · replace h := h.1 hc4
    refine g_tin (tgt := 71) 3 (by rw [hc4]; decide) dX11_count_6 (by decide) (by decide) rfl rfl ?_
    refine g_aloadn (k0 := 0) (q := 72) dX11_count_71 rfl rfl rfl ?_
    refine g_get (v := .int (M.1 35 13)) (q := 75) fg_X11_150_35 rfl dX11_count_72 rfl ?_
    exact g_iret hz rfl dX11_count_75 h
  replace h := h.2
  by_cases hc5 : a1 = 4
  · replace h := h.1 hc5
    refine g_tin (tgt := 76) 4 (by rw [hc5]; decide) dX11_count_6 (by decide) (by decide) rfl rfl ?_
    refine g_aloadn (k0 := 0) (q := 77) dX11_count_76 rfl rfl rfl ?_
    refine g_get (v := .int (M.1 35 8)) (q := 80) fg_X11_105_35 rfl dX11_count_77 rfl ?_
    exact g_iret hz rfl dX11_count_80 h
  replace h := h.2
  by_cases hc6 : a1 = 5
  · replace h := h.1 hc6
    refine g_tin (tgt := 81) 5 (by rw [hc6]; decide) dX11_count_6 (by decide) (by decide) rfl rfl ?_
    refine g_aloadn (k0 := 0) (q := 82) dX11_count_81 rfl rfl rfl ?_
    refine g_get (v := .int (M.1 35 2)) (q := 85) fg_X11_97_35 rfl dX11_count_82 rfl ?_
    exact g_iret hz rfl dX11_count_85 h
  replace h := h.2
  by_cases hc7 : a1 = 6
  · replace h := h.1 hc7
    refine g_tin (tgt := 86) 6 (by rw [hc7]; decide) dX11_count_6 (by decide) (by decide) rfl rfl ?_
    refine g_aloadn (k0 := 0) (q := 87) dX11_count_86 rfl rfl rfl ?_
    refine g_get (v := .int (M.1 35 23)) (q := 90) fg_X11_202_35 rfl dX11_count_87 rfl ?_
    exact g_iret hz rfl dX11_count_90 h
  replace h := h.2
  by_cases hc9 : a1 = 7
  · replace h := h.1 hc9
    refine g_tin (tgt := 91) 7 (by rw [hc9]; decide) dX11_count_6 (by decide) (by decide) rfl rfl ?_
    refine g_aloadn (k0 := 0) (q := 92) dX11_count_91 rfl rfl rfl ?_
    refine g_get (v := .ref (eA E 39)) (q := 95) fg_X11_19_35 rfl dX11_count_92 rfl ?_
    refine g_iconst (q := 96) dX11_count_95 ki_0 rfl ?_
    have hv8 := h.1
    replace h := h.2
    refine g_iald (v := (M.1 39 0)) (q := 97) ar_39 hv8 rfl dX11_count_96 rfl ?_
    exact g_iret hz rfl dX11_count_97 h
  replace h := h.2
  by_cases hc11 : a1 = 8
  · replace h := h.1 hc11
    refine g_tin (tgt := 98) 8 (by rw [hc11]; decide) dX11_count_6 (by decide) (by decide) rfl rfl ?_
    refine g_aloadn (k0 := 0) (q := 99) dX11_count_98 rfl rfl rfl ?_
    refine g_get (v := .ref (eA E 39)) (q := 102) fg_X11_19_35 rfl dX11_count_99 rfl ?_
    refine g_iconst (q := 103) dX11_count_102 ki_1 rfl ?_
    have hv10 := h.1
    replace h := h.2
    refine g_iald (v := (M.1 39 1)) (q := 104) ar_39 hv10 rfl dX11_count_103 rfl ?_
    exact g_iret hz rfl dX11_count_104 h
  replace h := h.2
  replace h := h hc1 hc2 hc3 hc4 hc5 hc6 hc7 hc9 hc11
  refine g_tout (tgt := 105) dX11_count_6 (sw_out 0 9 (fun i hi => by rcases (show i = 0 ∨ i = 1 ∨ i = 2 ∨ i = 3 ∨ i = 4 ∨ i = 5 ∨ i = 6 ∨ i = 7 ∨ i = 8 by omega) with rfl | rfl | rfl | rfl | rfl | rfl | rfl | rfl | rfl <;> assumption)) rfl ?_
  refine g_iconst (q := 106) dX11_count_105 ki_m1 rfl ?_
  exact g_iret hz rfl dX11_count_106 h
