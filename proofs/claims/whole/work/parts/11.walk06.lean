set_option maxHeartbeats 4000000 in
set_option maxRecDepth 100000 in
theorem c_X11_say {E : EX} (hE : EH E) {a1 : Int32} {a2 : Int32} {M : Mem} {Q : Mem → Prop} (h : P_Mo_say a1 a2 M Q) : CU yX11_say cX11_say 4 none rmX11_say E [.ref (eA E 35), .int a1, .int a2] M Q := by
  refine CU.of hE (plainFor_of_name (by decide)) (Nat.le_of_ble_eq_true rfl) (fun x hz => ?_)
  unfold P_Mo_say at h
  show G x E mX11_say 0 0 0 [(0, .ref (eA E 35)), (1, .int a1), (2, .int a2)] [] M
  refine g_iloadn (k0 := 2) (q := 1) dX11_say_0 rfl rfl rfl ?_
  refine g_iconst (q := 2) dX11_say_1 ki_1 rfl ?_
  refine g_isub (q := 3) dX11_say_2 rfl ?_
  refine g_istoren (lv' := [(0, .ref (eA E 35)), (1, .int a1), (2, .int a2), (3, .int (a2 - 1))]) (q := 4) [1, 2, 3, 0] dX11_say_3 rfl (by decide) rfl rfl ?_
  refine g_lv (lv' := [(0, .ref (eA E 35)), (1, .int a1), (3, .int (a2 - 1))]) [0, 1, 3] rfl ?_
  obtain ⟨n1, h⟩ := h
  exact g_X11_say_4 hE hz n1 _ _ _ h
set_option maxHeartbeats 4000000 in
set_option maxRecDepth 100000 in
theorem c_X11_says {E : EX} (hE : EH E) {a1 : Int32} {a2 : Int32} {a3 : Int32} {a4 : Int32} {a5 : Int32} {M : Mem} {Q : Int32 → Mem → Prop} (h : P_Mo_says a1 a2 a3 a4 a5 M Q) : CI yX11_says cX11_says 6 (some .boolean) rmX11_says E [.ref (eA E 35), .int a1, .int a2, .int a3, .int a4, .int a5] M (fun r M => nb r ∧ Q r M) := by
  refine CI.of hE (plainFor_of_name (by decide)) (Nat.le_of_ble_eq_true rfl) (fun x hz => ?_)
  unfold P_Mo_says at h
  show G x E mX11_says 0 0 0 [(0, .ref (eA E 35)), (1, .int a1), (2, .int a2), (3, .int a3), (4, .int a4), (5, .int a5)] [] M
  refine g_iloadn (k0 := 1) (q := 1) dX11_says_0 rfl rfl rfl ?_
  by_cases hc17 : a1 = 1
  · replace h := h.1 hc17
    refine g_tin (tgt := 32) 1 (by rw [hc17]; decide) dX11_says_1 (by decide) (by decide) rfl rfl ?_
    refine g_iloadn (k0 := 2) (q := 33) dX11_says_32 rfl rfl rfl ?_
    refine g_sipush (q := 36) dX11_says_33 ks_m32768 rfl ?_
    refine g_sipush (q := 39) dX11_says_36 ks_32767 rfl ?_
    refine g_scalli (q := 42) [.int a2, .int (-32768), .int 32767] [] cs_X11_188 (c_X11_isIn hE h) rfl rfl ⟨rfl, rfl, Nat.le_of_ble_eq_true rfl, Nat.le_of_ble_eq_true rfl, Nat.zero_le _, Nat.zero_le _⟩ (Nat.le_of_ble_eq_true rfl) dX11_says_39 rfl (fun r2 M1 h => ?_)
    obtain ⟨hb_r2, h⟩ := h
    refine g_if_eq (tgt := 82) (q := 45) dX11_says_42 rfl rfl (fun hc16 => ?_) (fun hc16 => ?_)
    · replace h := h.1 hc16
      refine g_iconst (q := 83) dX11_says_82 ki_0 rfl ?_
      exact g_zret hz rfl rfl dX11_says_83 h
    · replace h := h.2 hc16
      refine g_iloadn (k0 := 3) (q := 46) dX11_says_45 rfl rfl rfl ?_
      refine g_sipush (q := 49) dX11_says_46 ks_m32768 rfl ?_
      refine g_sipush (q := 52) dX11_says_49 ks_32767 rfl ?_
      refine g_scalli (q := 55) [.int a3, .int (-32768), .int 32767] [] cs_X11_188 (c_X11_isIn hE h) rfl rfl ⟨rfl, rfl, Nat.le_of_ble_eq_true rfl, Nat.le_of_ble_eq_true rfl, Nat.zero_le _, Nat.zero_le _⟩ (Nat.le_of_ble_eq_true rfl) dX11_says_52 rfl (fun r4 M3 h => ?_)
      obtain ⟨hb_r4, h⟩ := h
      refine g_if_eq (tgt := 82) (q := 58) dX11_says_55 rfl rfl (fun hc15 => ?_) (fun hc15 => ?_)
      · replace h := h.1 hc15
        refine g_iconst (q := 83) dX11_says_82 ki_0 rfl ?_
        exact g_zret hz rfl rfl dX11_says_83 h
      · replace h := h.2 hc15
        refine g_iload (k0 := 4) (q := 60) dX11_says_58 rfl rfl ?_
        refine g_bipush (q := 62) dX11_says_60 kb_m128 rfl ?_
        refine g_bipush (q := 64) dX11_says_62 kb_127 rfl ?_
        refine g_scalli (q := 67) [.int a4, .int (-128), .int 127] [] cs_X11_188 (c_X11_isIn hE h) rfl rfl ⟨rfl, rfl, Nat.le_of_ble_eq_true rfl, Nat.le_of_ble_eq_true rfl, Nat.zero_le _, Nat.zero_le _⟩ (Nat.le_of_ble_eq_true rfl) dX11_says_64 rfl (fun r6 M5 h => ?_)
        obtain ⟨hb_r6, h⟩ := h
        refine g_if_eq (tgt := 82) (q := 70) dX11_says_67 rfl rfl (fun hc14 => ?_) (fun hc14 => ?_)
        · replace h := h.1 hc14
          refine g_iconst (q := 83) dX11_says_82 ki_0 rfl ?_
          exact g_zret hz rfl rfl dX11_says_83 h
        · replace h := h.2 hc14
          refine g_iload (k0 := 5) (q := 72) dX11_says_70 rfl rfl ?_
          refine g_bipush (q := 74) dX11_says_72 kb_m128 rfl ?_
          refine g_bipush (q := 76) dX11_says_74 kb_127 rfl ?_
          refine g_scalli (q := 79) [.int a5, .int (-128), .int 127] [] cs_X11_188 (c_X11_isIn hE h) rfl rfl ⟨rfl, rfl, Nat.le_of_ble_eq_true rfl, Nat.le_of_ble_eq_true rfl, Nat.zero_le _, Nat.zero_le _⟩ (Nat.le_of_ble_eq_true rfl) dX11_says_76 rfl (fun r8 M7 h => ?_)
          obtain ⟨hb_r8, h⟩ := h
          refine g_if_ne (tgt := 84) (q := 82) dX11_says_79 rfl rfl (fun hc13 => ?_) (fun hc13 => ?_)
          · replace h := h.1 hc13
            refine g_aloadn (k0 := 0) (q := 85) dX11_says_84 rfl rfl rfl ?_
            refine g_iloadn (k0 := 2) (q := 86) dX11_says_85 rfl rfl rfl ?_
            refine g_bipush (q := 88) dX11_says_86 kb_16 rfl ?_
            refine g_callv (q := 91) [.int a2, .int 16] [] cv_X11_191 rc_35 (c_X11_say hE h) rfl rfl ⟨rfl, rfl, Nat.le_of_ble_eq_true rfl, Nat.le_of_ble_eq_true rfl, Nat.zero_le _, Nat.zero_le _⟩ (Nat.le_of_ble_eq_true rfl) dX11_says_88 rfl (fun M9 h => ?_)
            refine g_aloadn (k0 := 0) (q := 92) dX11_says_91 rfl rfl rfl ?_
            refine g_iloadn (k0 := 3) (q := 93) dX11_says_92 rfl rfl rfl ?_
            refine g_bipush (q := 95) dX11_says_93 kb_16 rfl ?_
            refine g_callv (q := 98) [.int a3, .int 16] [] cv_X11_191 rc_35 (c_X11_say hE h) rfl rfl ⟨rfl, rfl, Nat.le_of_ble_eq_true rfl, Nat.le_of_ble_eq_true rfl, Nat.zero_le _, Nat.zero_le _⟩ (Nat.le_of_ble_eq_true rfl) dX11_says_95 rfl (fun M10 h => ?_)
            refine g_aloadn (k0 := 0) (q := 99) dX11_says_98 rfl rfl rfl ?_
            refine g_iload (k0 := 4) (q := 101) dX11_says_99 rfl rfl ?_
            refine g_bipush (q := 103) dX11_says_101 kb_8 rfl ?_
            refine g_callv (q := 106) [.int a4, .int 8] [] cv_X11_191 rc_35 (c_X11_say hE h) rfl rfl ⟨rfl, rfl, Nat.le_of_ble_eq_true rfl, Nat.le_of_ble_eq_true rfl, Nat.zero_le _, Nat.zero_le _⟩ (Nat.le_of_ble_eq_true rfl) dX11_says_103 rfl (fun M11 h => ?_)
            refine g_aloadn (k0 := 0) (q := 107) dX11_says_106 rfl rfl rfl ?_
            refine g_iload (k0 := 5) (q := 109) dX11_says_107 rfl rfl ?_
            refine g_bipush (q := 111) dX11_says_109 kb_8 rfl ?_
            refine g_callv (q := 114) [.int a5, .int 8] [] cv_X11_191 rc_35 (c_X11_say hE h) rfl rfl ⟨rfl, rfl, Nat.le_of_ble_eq_true rfl, Nat.le_of_ble_eq_true rfl, Nat.zero_le _, Nat.zero_le _⟩ (Nat.le_of_ble_eq_true rfl) dX11_says_111 rfl (fun M12 h => ?_)
            refine g_iconst (q := 115) dX11_says_114 ki_1 rfl ?_
            exact g_zret hz rfl rfl dX11_says_115 h
          · replace h := h.2 hc13
            refine g_iconst (q := 83) dX11_says_82 ki_0 rfl ?_
            exact g_zret hz rfl rfl dX11_says_83 h
  replace h := h.2
  by_cases hc36 : a1 = 2
  · replace h := h.1 hc36
    refine g_tin (tgt := 116) 2 (by rw [hc36]; decide) dX11_says_1 (by decide) (by decide) rfl rfl ?_
    refine g_iloadn (k0 := 2) (q := 117) dX11_says_116 rfl rfl rfl ?_
    refine g_iconst (q := 118) dX11_says_117 ki_0 rfl ?_
    refine g_sipush (q := 121) dX11_says_118 ks_32767 rfl ?_
    refine g_scalli (q := 124) [.int a2, .int 0, .int 32767] [] cs_X11_188 (c_X11_isIn hE h) rfl rfl ⟨rfl, rfl, Nat.le_of_ble_eq_true rfl, Nat.le_of_ble_eq_true rfl, Nat.zero_le _, Nat.zero_le _⟩ (Nat.le_of_ble_eq_true rfl) dX11_says_121 rfl (fun r19 M18 h => ?_)
    obtain ⟨hb_r19, h⟩ := h
    refine g_if_eq (tgt := 166) (q := 127) dX11_says_124 rfl rfl (fun hc35 => ?_) (fun hc35 => ?_)
    · replace h := h.1 hc35
      refine g_iconst (q := 167) dX11_says_166 ki_0 rfl ?_
      exact g_zret hz rfl rfl dX11_says_167 h
    · replace h := h.2 hc35
      refine g_iloadn (k0 := 3) (q := 128) dX11_says_127 rfl rfl rfl ?_
      refine g_iconst (q := 129) dX11_says_128 ki_0 rfl ?_
      refine g_sipush (q := 132) dX11_says_129 ks_32767 rfl ?_
      refine g_scalli (q := 135) [.int a3, .int 0, .int 32767] [] cs_X11_188 (c_X11_isIn hE h) rfl rfl ⟨rfl, rfl, Nat.le_of_ble_eq_true rfl, Nat.le_of_ble_eq_true rfl, Nat.zero_le _, Nat.zero_le _⟩ (Nat.le_of_ble_eq_true rfl) dX11_says_132 rfl (fun r21 M20 h => ?_)
      obtain ⟨hb_r21, h⟩ := h
      refine g_if_eq (tgt := 166) (q := 138) dX11_says_135 rfl rfl (fun hc34 => ?_) (fun hc34 => ?_)
      · replace h := h.1 hc34
        refine g_iconst (q := 167) dX11_says_166 ki_0 rfl ?_
        exact g_zret hz rfl rfl dX11_says_167 h
      · replace h := h.2 hc34
        refine g_iload (k0 := 4) (q := 140) dX11_says_138 rfl rfl ?_
        refine g_iconst (q := 141) dX11_says_140 ki_0 rfl ?_
        refine g_sipush (q := 144) dX11_says_141 ks_255 rfl ?_
        refine g_scalli (q := 147) [.int a4, .int 0, .int 255] [] cs_X11_188 (c_X11_isIn hE h) rfl rfl ⟨rfl, rfl, Nat.le_of_ble_eq_true rfl, Nat.le_of_ble_eq_true rfl, Nat.zero_le _, Nat.zero_le _⟩ (Nat.le_of_ble_eq_true rfl) dX11_says_144 rfl (fun r23 M22 h => ?_)
        obtain ⟨hb_r23, h⟩ := h
        refine g_if_eq (tgt := 166) (q := 150) dX11_says_147 rfl rfl (fun hc33 => ?_) (fun hc33 => ?_)
        · replace h := h.1 hc33
          refine g_iconst (q := 167) dX11_says_166 ki_0 rfl ?_
          exact g_zret hz rfl rfl dX11_says_167 h
        · replace h := h.2 hc33
          refine g_iloadn (k0 := 2) (q := 151) dX11_says_150 rfl rfl rfl ?_
          refine g_iconst (q := 152) dX11_says_151 ki_3 rfl ?_
          refine g_scalli (q := 155) [.int a2, .int 3] [] cs_X11_140 (c_X11_areLetters hE h) rfl rfl ⟨rfl, rfl, Nat.le_of_ble_eq_true rfl, Nat.le_of_ble_eq_true rfl, Nat.zero_le _, Nat.zero_le _⟩ (Nat.le_of_ble_eq_true rfl) dX11_says_152 rfl (fun r25 M24 h => ?_)
          obtain ⟨hb_r25, h⟩ := h
          refine g_if_eq (tgt := 166) (q := 158) dX11_says_155 rfl rfl (fun hc32 => ?_) (fun hc32 => ?_)
          · replace h := h.1 hc32
            refine g_iconst (q := 167) dX11_says_166 ki_0 rfl ?_
            exact g_zret hz rfl rfl dX11_says_167 h
          · replace h := h.2 hc32
            refine g_iloadn (k0 := 3) (q := 159) dX11_says_158 rfl rfl rfl ?_
            refine g_iconst (q := 160) dX11_says_159 ki_3 rfl ?_
            refine g_scalli (q := 163) [.int a3, .int 3] [] cs_X11_140 (c_X11_areLetters hE h) rfl rfl ⟨rfl, rfl, Nat.le_of_ble_eq_true rfl, Nat.le_of_ble_eq_true rfl, Nat.zero_le _, Nat.zero_le _⟩ (Nat.le_of_ble_eq_true rfl) dX11_says_160 rfl (fun r27 M26 h => ?_)
            obtain ⟨hb_r27, h⟩ := h
            refine g_if_ne (tgt := 168) (q := 166) dX11_says_163 rfl rfl (fun hc31 => ?_) (fun hc31 => ?_)
            · replace h := h.1 hc31
              refine g_aloadn (k0 := 0) (q := 169) dX11_says_168 rfl rfl rfl ?_
              refine g_iloadn (k0 := 2) (q := 170) dX11_says_169 rfl rfl rfl ?_
              refine g_bipush (q := 172) dX11_says_170 kb_15 rfl ?_
              refine g_callv (q := 175) [.int a2, .int 15] [] cv_X11_191 rc_35 (c_X11_say hE h) rfl rfl ⟨rfl, rfl, Nat.le_of_ble_eq_true rfl, Nat.le_of_ble_eq_true rfl, Nat.zero_le _, Nat.zero_le _⟩ (Nat.le_of_ble_eq_true rfl) dX11_says_172 rfl (fun M28 h => ?_)
              refine g_aloadn (k0 := 0) (q := 176) dX11_says_175 rfl rfl rfl ?_
              refine g_iloadn (k0 := 3) (q := 177) dX11_says_176 rfl rfl rfl ?_
              refine g_bipush (q := 179) dX11_says_177 kb_15 rfl ?_
              refine g_callv (q := 182) [.int a3, .int 15] [] cv_X11_191 rc_35 (c_X11_say hE h) rfl rfl ⟨rfl, rfl, Nat.le_of_ble_eq_true rfl, Nat.le_of_ble_eq_true rfl, Nat.zero_le _, Nat.zero_le _⟩ (Nat.le_of_ble_eq_true rfl) dX11_says_179 rfl (fun M29 h => ?_)
              refine g_aloadn (k0 := 0) (q := 183) dX11_says_182 rfl rfl rfl ?_
              refine g_iload (k0 := 4) (q := 185) dX11_says_183 rfl rfl ?_
              refine g_bipush (q := 187) dX11_says_185 kb_8 rfl ?_
              refine g_callv (q := 190) [.int a4, .int 8] [] cv_X11_191 rc_35 (c_X11_say hE h) rfl rfl ⟨rfl, rfl, Nat.le_of_ble_eq_true rfl, Nat.le_of_ble_eq_true rfl, Nat.zero_le _, Nat.zero_le _⟩ (Nat.le_of_ble_eq_true rfl) dX11_says_187 rfl (fun M30 h => ?_)
              refine g_iconst (q := 191) dX11_says_190 ki_1 rfl ?_
              exact g_zret hz rfl rfl dX11_says_191 h
            · replace h := h.2 hc31
              refine g_iconst (q := 167) dX11_says_166 ki_0 rfl ?_
              exact g_zret hz rfl rfl dX11_says_167 h
  replace h := h.2
  by_cases hc39 : a1 = 3
  · replace h := h.1 hc39
    refine g_tin (tgt := 192) 3 (by rw [hc39]; decide) dX11_says_1 (by decide) (by decide) rfl rfl ?_
    refine g_iloadn (k0 := 2) (q := 193) dX11_says_192 rfl rfl rfl ?_
    refine g_if_ge (tgt := 198) (q := 196) dX11_says_193 rfl rfl (fun hc38 => ?_) (fun hc38 => ?_)
    · replace h := h.1 hc38
      refine g_aloadn (k0 := 0) (q := 199) dX11_says_198 rfl rfl rfl ?_
      refine g_iloadn (k0 := 2) (q := 200) dX11_says_199 rfl rfl rfl ?_
      refine g_bipush (q := 202) dX11_says_200 kb_31 rfl ?_
      refine g_callv (q := 205) [.int a2, .int 31] [] cv_X11_191 rc_35 (c_X11_say hE h) rfl rfl ⟨rfl, rfl, Nat.le_of_ble_eq_true rfl, Nat.le_of_ble_eq_true rfl, Nat.zero_le _, Nat.zero_le _⟩ (Nat.le_of_ble_eq_true rfl) dX11_says_202 rfl (fun M37 h => ?_)
      refine g_iconst (q := 206) dX11_says_205 ki_1 rfl ?_
      exact g_zret hz rfl rfl dX11_says_206 h
    · replace h := h.2 hc38
      refine g_iconst (q := 197) dX11_says_196 ki_0 rfl ?_
      exact g_zret hz rfl rfl dX11_says_197 h
  replace h := h.2
  by_cases hc62 : a1 = 4
  · replace h := h.1 hc62
    refine g_tin (tgt := 207) 4 (by rw [hc62]; decide) dX11_says_1 (by decide) (by decide) rfl rfl ?_
    refine g_iloadn (k0 := 2) (q := 208) dX11_says_207 rfl rfl rfl ?_
    refine g_iconst (q := 209) dX11_says_208 ki_0 rfl ?_
    refine g_sipush (q := 212) dX11_says_209 ks_511 rfl ?_
    refine g_scalli (q := 215) [.int a2, .int 0, .int 511] [] cs_X11_188 (c_X11_isIn hE h) rfl rfl ⟨rfl, rfl, Nat.le_of_ble_eq_true rfl, Nat.le_of_ble_eq_true rfl, Nat.zero_le _, Nat.zero_le _⟩ (Nat.le_of_ble_eq_true rfl) dX11_says_212 rfl (fun r41 M40 h => ?_)
    obtain ⟨hb_r41, h⟩ := h
    refine g_if_eq (tgt := 283) (q := 218) dX11_says_215 rfl rfl (fun hc61 => ?_) (fun hc61 => ?_)
    · replace h := h.1 hc61
      refine g_iconst (q := 284) dX11_says_283 ki_0 rfl ?_
      exact g_zret hz rfl rfl dX11_says_284 h
    · replace h := h.2 hc61
      refine g_iloadn (k0 := 2) (q := 219) dX11_says_218 rfl rfl rfl ?_
      refine g_bipush (q := 221) dX11_says_219 kb_7 rfl ?_
      refine g_iand (q := 222) dX11_says_221 rfl ?_
      refine g_iconst (q := 223) dX11_says_222 ki_2 rfl ?_
      refine g_iconst (q := 224) dX11_says_223 ki_5 rfl ?_
      refine g_scalli (q := 227) [.int (a2 &&& 7), .int 2, .int 5] [] cs_X11_188 (c_X11_isIn hE h) rfl rfl ⟨rfl, rfl, Nat.le_of_ble_eq_true rfl, Nat.le_of_ble_eq_true rfl, Nat.zero_le _, Nat.zero_le _⟩ (Nat.le_of_ble_eq_true rfl) dX11_says_224 rfl (fun r43 M42 h => ?_)
      obtain ⟨hb_r43, h⟩ := h
      refine g_if_eq (tgt := 283) (q := 230) dX11_says_227 rfl rfl (fun hc60 => ?_) (fun hc60 => ?_)
      · replace h := h.1 hc60
        refine g_iconst (q := 284) dX11_says_283 ki_0 rfl ?_
        exact g_zret hz rfl rfl dX11_says_284 h
      · replace h := h.2 hc60
        refine g_iloadn (k0 := 2) (q := 231) dX11_says_230 rfl rfl rfl ?_
        refine g_iconst (q := 232) dX11_says_231 ki_3 rfl ?_
        refine g_ishr (q := 233) dX11_says_232 rfl ?_
        refine g_bipush (q := 235) dX11_says_233 kb_7 rfl ?_
        refine g_iand (q := 236) dX11_says_235 rfl ?_
        refine g_iloadn (k0 := 2) (q := 237) dX11_says_236 rfl rfl rfl ?_
        refine g_bipush (q := 239) dX11_says_237 kb_7 rfl ?_
        refine g_iand (q := 240) dX11_says_239 rfl ?_
        refine g_ic_ge (tgt := 283) (q := 243) dX11_says_240 rfl rfl (fun hc59 => ?_) (fun hc59 => ?_)
        · replace h := h.1 hc59
          refine g_iconst (q := 284) dX11_says_283 ki_0 rfl ?_
          exact g_zret hz rfl rfl dX11_says_284 h
        · replace h := h.2 hc59
          refine g_iloadn (k0 := 3) (q := 244) dX11_says_243 rfl rfl rfl ?_
          refine g_iconst (q := 245) dX11_says_244 ki_0 rfl ?_
          refine g_sipush (q := 248) dX11_says_245 ks_1023 rfl ?_
          refine g_scalli (q := 251) [.int a3, .int 0, .int 1023] [] cs_X11_188 (c_X11_isIn hE h) rfl rfl ⟨rfl, rfl, Nat.le_of_ble_eq_true rfl, Nat.le_of_ble_eq_true rfl, Nat.zero_le _, Nat.zero_le _⟩ (Nat.le_of_ble_eq_true rfl) dX11_says_248 rfl (fun r45 M44 h => ?_)
          obtain ⟨hb_r45, h⟩ := h
          refine g_if_eq (tgt := 283) (q := 254) dX11_says_251 rfl rfl (fun hc58 => ?_) (fun hc58 => ?_)
          · replace h := h.1 hc58
            refine g_iconst (q := 284) dX11_says_283 ki_0 rfl ?_
            exact g_zret hz rfl rfl dX11_says_284 h
          · replace h := h.2 hc58
            refine g_iload (k0 := 4) (q := 256) dX11_says_254 rfl rfl ?_
            refine g_iconst (q := 257) dX11_says_256 ki_0 rfl ?_
            refine g_sipush (q := 260) dX11_says_257 ks_1023 rfl ?_
            refine g_scalli (q := 263) [.int a4, .int 0, .int 1023] [] cs_X11_188 (c_X11_isIn hE h) rfl rfl ⟨rfl, rfl, Nat.le_of_ble_eq_true rfl, Nat.le_of_ble_eq_true rfl, Nat.zero_le _, Nat.zero_le _⟩ (Nat.le_of_ble_eq_true rfl) dX11_says_260 rfl (fun r47 M46 h => ?_)
            obtain ⟨hb_r47, h⟩ := h
            refine g_if_eq (tgt := 283) (q := 266) dX11_says_263 rfl rfl (fun hc57 => ?_) (fun hc57 => ?_)
            · replace h := h.1 hc57
              refine g_iconst (q := 284) dX11_says_283 ki_0 rfl ?_
              exact g_zret hz rfl rfl dX11_says_284 h
            · replace h := h.2 hc57
              refine g_iloadn (k0 := 3) (q := 267) dX11_says_266 rfl rfl rfl ?_
              refine g_iconst (q := 268) dX11_says_267 ki_2 rfl ?_
              refine g_scalli (q := 271) [.int a3, .int 2] [] cs_X11_140 (c_X11_areLetters hE h) rfl rfl ⟨rfl, rfl, Nat.le_of_ble_eq_true rfl, Nat.le_of_ble_eq_true rfl, Nat.zero_le _, Nat.zero_le _⟩ (Nat.le_of_ble_eq_true rfl) dX11_says_268 rfl (fun r49 M48 h => ?_)
              obtain ⟨hb_r49, h⟩ := h
              refine g_if_eq (tgt := 283) (q := 274) dX11_says_271 rfl rfl (fun hc56 => ?_) (fun hc56 => ?_)
              · replace h := h.1 hc56
                refine g_iconst (q := 284) dX11_says_283 ki_0 rfl ?_
                exact g_zret hz rfl rfl dX11_says_284 h
              · replace h := h.2 hc56
                refine g_iload (k0 := 4) (q := 276) dX11_says_274 rfl rfl ?_
                refine g_iconst (q := 277) dX11_says_276 ki_2 rfl ?_
                refine g_scalli (q := 280) [.int a4, .int 2] [] cs_X11_140 (c_X11_areLetters hE h) rfl rfl ⟨rfl, rfl, Nat.le_of_ble_eq_true rfl, Nat.le_of_ble_eq_true rfl, Nat.zero_le _, Nat.zero_le _⟩ (Nat.le_of_ble_eq_true rfl) dX11_says_277 rfl (fun r51 M50 h => ?_)
                obtain ⟨hb_r51, h⟩ := h
                refine g_if_ne (tgt := 285) (q := 283) dX11_says_280 rfl rfl (fun hc55 => ?_) (fun hc55 => ?_)
                · replace h := h.1 hc55
                  refine g_aloadn (k0 := 0) (q := 286) dX11_says_285 rfl rfl rfl ?_
                  refine g_iloadn (k0 := 2) (q := 287) dX11_says_286 rfl rfl rfl ?_
                  refine g_bipush (q := 289) dX11_says_287 kb_9 rfl ?_
                  refine g_callv (q := 292) [.int a2, .int 9] [] cv_X11_191 rc_35 (c_X11_say hE h) rfl rfl ⟨rfl, rfl, Nat.le_of_ble_eq_true rfl, Nat.le_of_ble_eq_true rfl, Nat.zero_le _, Nat.zero_le _⟩ (Nat.le_of_ble_eq_true rfl) dX11_says_289 rfl (fun M52 h => ?_)
                  refine g_aloadn (k0 := 0) (q := 293) dX11_says_292 rfl rfl rfl ?_
                  refine g_iloadn (k0 := 3) (q := 294) dX11_says_293 rfl rfl rfl ?_
                  refine g_bipush (q := 296) dX11_says_294 kb_10 rfl ?_
                  refine g_callv (q := 299) [.int a3, .int 10] [] cv_X11_191 rc_35 (c_X11_say hE h) rfl rfl ⟨rfl, rfl, Nat.le_of_ble_eq_true rfl, Nat.le_of_ble_eq_true rfl, Nat.zero_le _, Nat.zero_le _⟩ (Nat.le_of_ble_eq_true rfl) dX11_says_296 rfl (fun M53 h => ?_)
                  refine g_aloadn (k0 := 0) (q := 300) dX11_says_299 rfl rfl rfl ?_
                  refine g_iload (k0 := 4) (q := 302) dX11_says_300 rfl rfl ?_
                  refine g_bipush (q := 304) dX11_says_302 kb_10 rfl ?_
                  refine g_callv (q := 307) [.int a4, .int 10] [] cv_X11_191 rc_35 (c_X11_say hE h) rfl rfl ⟨rfl, rfl, Nat.le_of_ble_eq_true rfl, Nat.le_of_ble_eq_true rfl, Nat.zero_le _, Nat.zero_le _⟩ (Nat.le_of_ble_eq_true rfl) dX11_says_304 rfl (fun M54 h => ?_)
                  refine g_iconst (q := 308) dX11_says_307 ki_1 rfl ?_
                  exact g_zret hz rfl rfl dX11_says_308 h
                · replace h := h.2 hc55
                  refine g_iconst (q := 284) dX11_says_283 ki_0 rfl ?_
                  exact g_zret hz rfl rfl dX11_says_284 h
  replace h := h.2
  replace h := h hc17 hc36 hc39 hc62
  refine g_tout (tgt := 309) dX11_says_1 (sw_out 1 4 (fun i hi => by rcases (show i = 0 ∨ i = 1 ∨ i = 2 ∨ i = 3 by omega) with rfl | rfl | rfl | rfl <;> assumption)) rfl ?_
  refine g_iloadn (k0 := 1) (q := 310) dX11_says_309 rfl rfl rfl ?_
  refine g_iconst (q := 311) dX11_says_310 ki_5 rfl ?_
  refine g_ic_ne (tgt := 335) (q := 314) dX11_says_311 rfl rfl (fun hc71 => ?_) (fun hc71 => ?_)
  · replace h := h.1 hc71
    refine g_iconst (q := 336) dX11_says_335 ki_0 rfl ?_
    exact g_zret hz rfl rfl dX11_says_336 h
  · replace h := h.2 hc71
    refine g_iloadn (k0 := 2) (q := 315) dX11_says_314 rfl rfl rfl ?_
    refine g_iconst (q := 316) dX11_says_315 ki_0 rfl ?_
    refine g_sipush (q := 319) dX11_says_316 ks_2249 rfl ?_
    refine g_scalli (q := 322) [.int a2, .int 0, .int 2249] [] cs_X11_188 (c_X11_isIn hE h) rfl rfl ⟨rfl, rfl, Nat.le_of_ble_eq_true rfl, Nat.le_of_ble_eq_true rfl, Nat.zero_le _, Nat.zero_le _⟩ (Nat.le_of_ble_eq_true rfl) dX11_says_319 rfl (fun r64 M63 h => ?_)
    obtain ⟨hb_r64, h⟩ := h
    refine g_if_eq (tgt := 335) (q := 325) dX11_says_322 rfl rfl (fun hc70 => ?_) (fun hc70 => ?_)
    · replace h := h.1 hc70
      refine g_iconst (q := 336) dX11_says_335 ki_0 rfl ?_
      exact g_zret hz rfl rfl dX11_says_336 h
    · replace h := h.2 hc70
      refine g_iloadn (k0 := 3) (q := 326) dX11_says_325 rfl rfl rfl ?_
      refine g_iconst (q := 327) dX11_says_326 ki_1 rfl ?_
      refine g_bipush (q := 329) dX11_says_327 kb_7 rfl ?_
      refine g_scalli (q := 332) [.int a3, .int 1, .int 7] [] cs_X11_188 (c_X11_isIn hE h) rfl rfl ⟨rfl, rfl, Nat.le_of_ble_eq_true rfl, Nat.le_of_ble_eq_true rfl, Nat.zero_le _, Nat.zero_le _⟩ (Nat.le_of_ble_eq_true rfl) dX11_says_329 rfl (fun r66 M65 h => ?_)
      obtain ⟨hb_r66, h⟩ := h
      refine g_if_ne (tgt := 337) (q := 335) dX11_says_332 rfl rfl (fun hc69 => ?_) (fun hc69 => ?_)
      · replace h := h.1 hc69
        refine g_aloadn (k0 := 0) (q := 338) dX11_says_337 rfl rfl rfl ?_
        refine g_iloadn (k0 := 2) (q := 339) dX11_says_338 rfl rfl rfl ?_
        refine g_bipush (q := 341) dX11_says_339 kb_12 rfl ?_
        refine g_callv (q := 344) [.int a2, .int 12] [] cv_X11_191 rc_35 (c_X11_say hE h) rfl rfl ⟨rfl, rfl, Nat.le_of_ble_eq_true rfl, Nat.le_of_ble_eq_true rfl, Nat.zero_le _, Nat.zero_le _⟩ (Nat.le_of_ble_eq_true rfl) dX11_says_341 rfl (fun M67 h => ?_)
        refine g_aloadn (k0 := 0) (q := 345) dX11_says_344 rfl rfl rfl ?_
        refine g_iloadn (k0 := 3) (q := 346) dX11_says_345 rfl rfl rfl ?_
        refine g_iconst (q := 347) dX11_says_346 ki_3 rfl ?_
        refine g_callv (q := 350) [.int a3, .int 3] [] cv_X11_191 rc_35 (c_X11_say hE h) rfl rfl ⟨rfl, rfl, Nat.le_of_ble_eq_true rfl, Nat.le_of_ble_eq_true rfl, Nat.zero_le _, Nat.zero_le _⟩ (Nat.le_of_ble_eq_true rfl) dX11_says_347 rfl (fun M68 h => ?_)
        refine g_iconst (q := 351) dX11_says_350 ki_1 rfl ?_
        exact g_zret hz rfl rfl dX11_says_351 h
      · replace h := h.2 hc69
        refine g_iconst (q := 336) dX11_says_335 ki_0 rfl ?_
        exact g_zret hz rfl rfl dX11_says_336 h
set_option maxHeartbeats 4000000 in
set_option maxRecDepth 100000 in
theorem g_X11_level_37 {x : GX} {E : EX} (hE : EH E) {Q : Mem → Prop} (hz : ZU x E Q) : ∀ (M : Mem), P_Mo_level_37 Q M → G x E mX11_level 0 0 37 [(0, .ref (eA E 35))] [] M := by
  intro M h
  unfold P_Mo_level_37 at h
  refine g_aloadn (k0 := 0) (q := 38) dX11_level_37 rfl rfl rfl ?_
  refine g_get (v := .ref (eA E 49)) (q := 41) fg_X11_50_35 rfl dX11_level_38 rfl ?_
  refine g_aloadn (k0 := 0) (q := 42) dX11_level_41 rfl rfl rfl ?_
  refine g_get (v := .int (M.1 35 27)) (q := 45) fg_X11_182_35 rfl dX11_level_42 rfl ?_
  refine g_bipush (q := 47) dX11_level_45 kb_8 rfl ?_
  refine g_idiv (q := 48) dX11_level_47 (by decide) rfl ?_
  refine g_dup2 (q := 49) dX11_level_48 rfl rfl rfl ?_
  have hv1 := h.1
  replace h := h.2
  refine g_iald (v := (M.1 49 (((M.1 35 27) / 8)).toNatClampNeg)) (q := 50) ar_49 hv1 rfl dX11_level_49 rfl ?_
  refine g_aloadn (k0 := 0) (q := 51) dX11_level_50 rfl rfl rfl ?_
  refine g_get (v := .int (M.1 35 25)) (q := 54) fg_X11_179_35 rfl dX11_level_51 rfl ?_
  refine g_bipush (q := 56) dX11_level_54 kb_7 rfl ?_
  refine g_aloadn (k0 := 0) (q := 57) dX11_level_56 rfl rfl rfl ?_
  refine g_get (v := .int (M.1 35 27)) (q := 60) fg_X11_182_35 rfl dX11_level_57 rfl ?_
  refine g_bipush (q := 62) dX11_level_60 kb_8 rfl ?_
  refine g_irem (q := 63) dX11_level_62 (by decide) rfl ?_
  refine g_isub (q := 64) dX11_level_63 rfl ?_
  refine g_ishl (q := 65) dX11_level_64 rfl ?_
  refine g_ior (q := 66) dX11_level_65 rfl ?_
  refine g_iast (q := 67) ar_49 hv1 dX11_level_66 rfl ?_
  refine g_aloadn (k0 := 0) (q := 68) dX11_level_67 rfl rfl rfl ?_
  refine g_dup (q := 69) dX11_level_68 rfl rfl ?_
  refine g_get (v := .int (M.1 35 27)) (q := 72) fg_X11_182_35 rfl dX11_level_69 rfl ?_
  refine g_iconst (q := 73) dX11_level_72 ki_1 rfl ?_
  refine g_iadd (q := 74) dX11_level_73 rfl ?_
  refine g_putI (q := 77) fp_X11_182_35 dX11_level_74 rfl ?_
  exact g_vret hz rfl dX11_level_77 h
set_option maxHeartbeats 4000000 in
set_option maxRecDepth 100000 in
theorem g_X11_level_14 {x : GX} {E : EX} (hE : EH E) {Q : Mem → Prop} (hz : ZU x E Q) : ∀ (M : Mem), P_Mo_level_14 Q M → G x E mX11_level 0 0 14 [(0, .ref (eA E 35))] [] M := by
  intro M h
  unfold P_Mo_level_14 at h
  refine g_aloadn (k0 := 0) (q := 15) dX11_level_14 rfl rfl rfl ?_
  refine g_get (v := .int (M.1 35 27)) (q := 18) fg_X11_182_35 rfl dX11_level_15 rfl ?_
  refine g_bipush (q := 20) dX11_level_18 kb_8 rfl ?_
  refine g_irem (q := 21) dX11_level_20 (by decide) rfl ?_
  refine g_if_ne (tgt := 37) (q := 24) dX11_level_21 rfl rfl (fun hc3 => ?_) (fun hc3 => ?_)
  · replace h := h.1 hc3
    exact g_X11_level_37 hE hz _ h
  · replace h := h.2 hc3
    refine g_aloadn (k0 := 0) (q := 25) dX11_level_24 rfl rfl rfl ?_
    refine g_get (v := .ref (eA E 49)) (q := 28) fg_X11_50_35 rfl dX11_level_25 rfl ?_
    refine g_aloadn (k0 := 0) (q := 29) dX11_level_28 rfl rfl rfl ?_
    refine g_get (v := .int (M.1 35 27)) (q := 32) fg_X11_182_35 rfl dX11_level_29 rfl ?_
    refine g_bipush (q := 34) dX11_level_32 kb_8 rfl ?_
    refine g_idiv (q := 35) dX11_level_34 (by decide) rfl ?_
    refine g_iconst (q := 36) dX11_level_35 ki_0 rfl ?_
    have hv2 := h.1
    replace h := h.2
    refine g_iast (q := 37) ar_49 hv2 dX11_level_36 rfl ?_
    exact g_X11_level_37 hE hz _ h
set_option maxHeartbeats 4000000 in
set_option maxRecDepth 100000 in
theorem c_X11_level {E : EX} (hE : EH E) {a1 : Int32} {M : Mem} {Q : Mem → Prop} (h : P_Mo_level a1 M Q) : CU yX11_level cX11_level 2 none rmX11_level E [.ref (eA E 35), .int a1] M Q := by
  refine CU.of hE (plainFor_of_name (by decide)) (Nat.le_of_ble_eq_true rfl) (fun x hz => ?_)
  unfold P_Mo_level at h
  show G x E mX11_level 0 0 0 [(0, .ref (eA E 35)), (1, .int a1)] [] M
  refine g_iloadn (k0 := 1) (q := 1) dX11_level_0 rfl rfl rfl ?_
  refine g_if_ne (tgt := 14) (q := 4) dX11_level_1 rfl rfl (fun hc4 => ?_) (fun hc4 => ?_)
  · replace h := h.1 hc4
    refine g_lv (lv' := [(0, .ref (eA E 35))]) [0] rfl ?_
    exact g_X11_level_14 hE hz _ h
  · replace h := h.2 hc4
    refine g_aloadn (k0 := 0) (q := 5) dX11_level_4 rfl rfl rfl ?_
    refine g_iconst (q := 6) dX11_level_5 ki_1 rfl ?_
    refine g_aloadn (k0 := 0) (q := 7) dX11_level_6 rfl rfl rfl ?_
    refine g_get (v := .int (M.1 35 25)) (q := 10) fg_X11_179_35 rfl dX11_level_7 rfl ?_
    refine g_isub (q := 11) dX11_level_10 rfl ?_
    refine g_putI (q := 14) fp_X11_179_35 dX11_level_11 rfl ?_
    refine g_lv (lv' := [(0, .ref (eA E 35))]) [0] rfl ?_
    exact g_X11_level_14 hE hz _ h
set_option maxHeartbeats 4000000 in
set_option maxRecDepth 100000 in
theorem g_X11_mark_7 {x : GX} {E : EX} (hE : EH E) {Q : Mem → Prop} (hz : ZU x E Q) : ∀ (n : Nat) (v1 : Int32) (M : Mem), P_Mo_mark_7 Q n v1 M → G x E mX11_mark 0 0 7 [(0, .ref (eA E 35)), (1, .int v1)] [] M := by
  intro n
  induction n with
  | zero => intro _ _ h; exact h.elim
  | succ n ih =>
    intro v1 M h
    unfold P_Mo_mark_7 at h
    refine g_iloadn (k0 := 1) (q := 8) dX11_mark_7 rfl rfl rfl ?_
    refine g_bipush (q := 10) dX11_mark_8 kb_6 rfl ?_
    refine g_ic_ge (tgt := 24) (q := 13) dX11_mark_10 rfl rfl (fun hc4 => ?_) (fun hc4 => ?_)
    · replace h := h.1 hc4
      refine g_aloadn (k0 := 0) (q := 25) dX11_mark_24 rfl rfl rfl ?_
      refine g_iconst (q := 26) dX11_mark_25 ki_0 rfl ?_
      refine g_callv (q := 29) [.int 0] [] cv_X11_185 rc_35 (c_X11_level hE h) rfl rfl ⟨rfl, rfl, Nat.le_of_ble_eq_true rfl, Nat.le_of_ble_eq_true rfl, Nat.zero_le _, Nat.zero_le _⟩ (Nat.le_of_ble_eq_true rfl) dX11_mark_26 rfl (fun M2 h => ?_)
      exact g_vret hz rfl dX11_mark_29 h
    · replace h := h.2 hc4
      refine g_aloadn (k0 := 0) (q := 14) dX11_mark_13 rfl rfl rfl ?_
      refine g_iconst (q := 15) dX11_mark_14 ki_1 rfl ?_
      refine g_callv (q := 18) [.int 1] [] cv_X11_185 rc_35 (c_X11_level hE h) rfl rfl ⟨rfl, rfl, Nat.le_of_ble_eq_true rfl, Nat.le_of_ble_eq_true rfl, Nat.zero_le _, Nat.zero_le _⟩ (Nat.le_of_ble_eq_true rfl) dX11_mark_15 rfl (fun M3 h => ?_)
      refine g_iinc (lv' := [(0, .ref (eA E 35)), (1, .int (v1 + 1))]) (k0 := 1) (w := (v1 + 1)) (q := 21) [1, 0] dX11_mark_18 rfl rfl (by decide) rfl rfl ?_
      refine g_goto (tgt := 7) dX11_mark_21 rfl ?_
      exact ih _ _ h
set_option maxHeartbeats 4000000 in
set_option maxRecDepth 100000 in
theorem c_X11_mark {E : EX} (hE : EH E) {M : Mem} {Q : Mem → Prop} (h : P_Mo_mark  M Q) : CU yX11_mark cX11_mark 2 none rmX11_mark E [.ref (eA E 35)] M Q := by
  refine CU.of hE (plainFor_of_name (by decide)) (Nat.le_of_ble_eq_true rfl) (fun x hz => ?_)
  unfold P_Mo_mark at h
  show G x E mX11_mark 0 0 0 [(0, .ref (eA E 35))] [] M
  refine g_aloadn (k0 := 0) (q := 1) dX11_mark_0 rfl rfl rfl ?_
  refine g_iconst (q := 2) dX11_mark_1 ki_0 rfl ?_
  refine g_callv (q := 5) [.int 0] [] cv_X11_185 rc_35 (c_X11_level hE h) rfl rfl ⟨rfl, rfl, Nat.le_of_ble_eq_true rfl, Nat.le_of_ble_eq_true rfl, Nat.zero_le _, Nat.zero_le _⟩ (Nat.le_of_ble_eq_true rfl) dX11_mark_2 rfl (fun M1 h => ?_)
  refine g_iconst (q := 6) dX11_mark_5 ki_0 rfl ?_
  refine g_istoren (lv' := [(0, .ref (eA E 35)), (1, .int 0)]) (q := 7) [1, 0] dX11_mark_6 rfl (by decide) rfl rfl ?_
  obtain ⟨n1, h⟩ := h
  exact g_X11_mark_7 hE hz n1 _ _ h
set_option maxHeartbeats 4000000 in
set_option maxRecDepth 100000 in
theorem g_X11_build_201 {x : GX} {E : EX} (hE : EH E) {Q : Int32 → Mem → Prop} (hz : ZI x E Q) : ∀ (n : Nat) (M : Mem), P_Mo_build_201 Q n M → G x E mX11_build 0 0 201 [(0, .ref (eA E 35))] [] M := by
  intro n
  induction n with
  | zero => intro _ h; exact h.elim
  | succ n ih =>
    intro M h
    unfold P_Mo_build_201 at h
    refine g_aloadn (k0 := 0) (q := 202) dX11_build_201 rfl rfl rfl ?_
    refine g_get (v := .int (M.1 35 27)) (q := 205) fg_X11_182_35 rfl dX11_build_202 rfl ?_
    refine g_bipush (q := 207) dX11_build_205 kb_8 rfl ?_
    refine g_irem (q := 208) dX11_build_207 (by decide) rfl ?_
    refine g_if_eq (tgt := 219) (q := 211) dX11_build_208 rfl rfl (fun hc14 => ?_) (fun hc14 => ?_)
    · replace h := h.1 hc14
      refine g_aloadn (k0 := 0) (q := 220) dX11_build_219 rfl rfl rfl ?_
      refine g_aloadn (k0 := 0) (q := 221) dX11_build_220 rfl rfl rfl ?_
      refine g_get (v := .int (M.1 35 27)) (q := 224) fg_X11_182_35 rfl dX11_build_221 rfl ?_
      refine g_bipush (q := 226) dX11_build_224 kb_8 rfl ?_
      refine g_idiv (q := 227) dX11_build_226 (by decide) rfl ?_
      refine g_putI (q := 230) fp_X11_202_35 dX11_build_227 rfl ?_
      refine g_aloadn (k0 := 0) (q := 231) dX11_build_230 rfl rfl rfl ?_
      refine g_get (v := .int ((M.1 35 27) / 8)) (q := 234) fg_X11_202_35 rfl dX11_build_231 rfl ?_
      exact g_iret hz rfl dX11_build_234 h
    · replace h := h.2 hc14
      refine g_aloadn (k0 := 0) (q := 212) dX11_build_211 rfl rfl rfl ?_
      refine g_iconst (q := 213) dX11_build_212 ki_0 rfl ?_
      refine g_callv (q := 216) [.int 0] [] cv_X11_185 rc_35 (c_X11_level hE h) rfl rfl ⟨rfl, rfl, Nat.le_of_ble_eq_true rfl, Nat.le_of_ble_eq_true rfl, Nat.zero_le _, Nat.zero_le _⟩ (Nat.le_of_ble_eq_true rfl) dX11_build_213 rfl (fun M13 h => ?_)
      refine g_goto (tgt := 201) dX11_build_216 rfl ?_
      exact ih _ h
set_option maxHeartbeats 4000000 in
set_option maxRecDepth 100000 in
theorem g_X11_build_172 {x : GX} {E : EX} (hE : EH E) {Q : Int32 → Mem → Prop} (hz : ZI x E Q) {K133 : Int32 → Int32 → Mem → Prop} (hK133 : ∀ (v8 : Int32) (v9 : Int32) (M : Mem), K133 v8 v9 M → G x E mX11_build 0 0 133 [(0, .ref (eA E 35)), (8, .int v8), (9, .int v9)] [] M) : ∀ (v9 : Int32) (s0 : Int32) (M : Mem), P_Mo_build_172 K133 Q v9 s0 M → G x E mX11_build 0 0 172 [(0, .ref (eA E 35)), (9, .int v9)] [.int s0] M := by
  intro v9 s0 M h
  unfold P_Mo_build_172 at h
  refine g_istore (lv' := [(0, .ref (eA E 35)), (8, .int s0), (9, .int v9)]) (q := 174) [1, 0, 2] dX11_build_172 (by decide) rfl rfl ?_
  refine g_iload (k0 := 1) (q := 176) dX11_build_174 rfl rfl ?_
  refine g_iconst (q := 177) dX11_build_176 ki_5 rfl ?_
  refine g_ic_ge (tgt := 183) (q := 180) dX11_build_177 rfl rfl (fun hc19 => ?_) (fun hc19 => ?_)
  · replace h := h.1 hc19
    refine g_aloadn (k0 := 0) (q := 184) dX11_build_183 rfl rfl rfl ?_
    refine g_iconst (q := 185) dX11_build_184 ki_0 rfl ?_
    refine g_callv (q := 188) [.int 0] [] cv_X11_185 rc_35 (c_X11_level hE h) rfl rfl ⟨rfl, rfl, Nat.le_of_ble_eq_true rfl, Nat.le_of_ble_eq_true rfl, Nat.zero_le _, Nat.zero_le _⟩ (Nat.le_of_ble_eq_true rfl) dX11_build_185 rfl (fun M18 h => ?_)
    refine g_iconst (q := 189) dX11_build_188 ki_0 rfl ?_
    refine g_istore (lv' := [(0, .ref (eA E 35)), (8, .int 0), (9, .int v9)]) (q := 191) [1, 0, 2] dX11_build_189 (by decide) rfl rfl ?_
    refine g_iinc (lv' := [(0, .ref (eA E 35)), (8, .int 0), (9, .int (v9 + 1))]) (k0 := 2) (w := (v9 + 1)) (q := 194) [1, 2, 0] dX11_build_191 rfl rfl (by decide) rfl rfl ?_
    refine g_goto (tgt := 133) dX11_build_194 rfl ?_
    exact hK133 _ _ _ h
  · replace h := h.2 hc19
    refine g_goto (tgt := 191) dX11_build_180 rfl ?_
    refine g_iinc (lv' := [(0, .ref (eA E 35)), (8, .int s0), (9, .int (v9 + 1))]) (k0 := 2) (w := (v9 + 1)) (q := 194) [1, 2, 0] dX11_build_191 rfl rfl (by decide) rfl rfl ?_
    refine g_goto (tgt := 133) dX11_build_194 rfl ?_
    exact hK133 _ _ _ h
set_option maxHeartbeats 4000000 in
set_option maxRecDepth 100000 in
theorem g_X11_build_133 {x : GX} {E : EX} (hE : EH E) {Q : Int32 → Mem → Prop} (hz : ZI x E Q) : ∀ (n : Nat) (v8 : Int32) (v9 : Int32) (M : Mem), P_Mo_build_133 Q n v8 v9 M → G x E mX11_build 0 0 133 [(0, .ref (eA E 35)), (8, .int v8), (9, .int v9)] [] M := by
  intro n
  induction n with
  | zero => intro _ _ _ h; exact h.elim
  | succ n ih =>
    intro v8 v9 M h
    unfold P_Mo_build_133 at h
    refine g_iload (k0 := 2) (q := 135) dX11_build_133 rfl rfl ?_
    refine g_aloadn (k0 := 0) (q := 136) dX11_build_135 rfl rfl rfl ?_
    refine g_get (v := .int (M.1 35 24)) (q := 139) fg_X11_176_35 rfl dX11_build_136 rfl ?_
    refine g_ic_ge (tgt := 197) (q := 142) dX11_build_139 rfl rfl (fun hc21 => ?_) (fun hc21 => ?_)
    · replace h := h.1 hc21
      refine g_aloadn (k0 := 0) (q := 198) dX11_build_197 rfl rfl rfl ?_
      refine g_callv (q := 201) [] [] cv_X11_199 rc_35 (c_X11_mark hE h) rfl rfl ⟨rfl, rfl, Nat.le_of_ble_eq_true rfl, Nat.le_of_ble_eq_true rfl, Nat.zero_le _, Nat.zero_le _⟩ (Nat.le_of_ble_eq_true rfl) dX11_build_198 rfl (fun M12 h => ?_)
      refine g_lv (lv' := [(0, .ref (eA E 35))]) [0] rfl ?_
      obtain ⟨n1, h⟩ := h
      exact g_X11_build_201 hE hz n1 _ h
    · replace h := h.2 hc21
      refine g_aloadn (k0 := 0) (q := 143) dX11_build_142 rfl rfl rfl ?_
      refine g_aloadn (k0 := 0) (q := 144) dX11_build_143 rfl rfl rfl ?_
      refine g_get (v := .ref (eA E 50)) (q := 147) fg_X11_53_35 rfl dX11_build_144 rfl ?_
      refine g_iload (k0 := 2) (q := 149) dX11_build_147 rfl rfl ?_
      have hv16 := h.1
      replace h := h.2
      refine g_iald (v := (M.1 50 v9.toNatClampNeg)) (q := 150) ar_50 hv16 rfl dX11_build_149 rfl ?_
      refine g_callv (q := 153) [.int (M.1 50 v9.toNatClampNeg)] [] cv_X11_185 rc_35 (c_X11_level hE h) rfl rfl ⟨rfl, rfl, Nat.le_of_ble_eq_true rfl, Nat.le_of_ble_eq_true rfl, Nat.zero_le _, Nat.zero_le _⟩ (Nat.le_of_ble_eq_true rfl) dX11_build_150 rfl (fun M17 h => ?_)
      refine g_aloadn (k0 := 0) (q := 154) dX11_build_153 rfl rfl rfl ?_
      refine g_get (v := .ref (eA E 50)) (q := 157) fg_X11_53_35 rfl dX11_build_154 rfl ?_
      refine g_iload (k0 := 2) (q := 159) dX11_build_157 rfl rfl ?_
      refine g_iald (v := (M17.1 50 v9.toNatClampNeg)) (q := 160) ar_50 hv16 rfl dX11_build_159 rfl ?_
      refine g_iconst (q := 161) dX11_build_160 ki_1 rfl ?_
      refine g_ic_ne (tgt := 171) (q := 164) dX11_build_161 rfl rfl (fun hc20 => ?_) (fun hc20 => ?_)
      · replace h := h.1 hc20
        refine g_iconst (q := 172) dX11_build_171 ki_0 rfl ?_
        refine g_lv (lv' := [(0, .ref (eA E 35)), (9, .int v9)]) [0, 2] rfl ?_
        exact g_X11_build_172 hE hz ih _ _ _ h
      · replace h := h.2 hc20
        refine g_iload (k0 := 1) (q := 166) dX11_build_164 rfl rfl ?_
        refine g_iconst (q := 167) dX11_build_166 ki_1 rfl ?_
        refine g_iadd (q := 168) dX11_build_167 rfl ?_
        refine g_goto (tgt := 172) dX11_build_168 rfl ?_
        refine g_lv (lv' := [(0, .ref (eA E 35)), (9, .int v9)]) [0, 2] rfl ?_
        exact g_X11_build_172 hE hz ih _ _ _ h
set_option maxHeartbeats 4000000 in
set_option maxRecDepth 100000 in
theorem g_X11_build_68 {x : GX} {E : EX} (hE : EH E) {Q : Int32 → Mem → Prop} (hz : ZI x E Q) : ∀ (n : Nat) (v7 : Int32) (v8 : Int32) (M : Mem), P_Mo_build_68 Q n v7 v8 M → G x E mX11_build 0 0 68 [(0, .ref (eA E 35)), (7, .int v7), (8, .int v8)] [] M := by
  intro n
  induction n with
  | zero => intro _ _ _ h; exact h.elim
  | succ n ih =>
    intro v7 v8 M h
    unfold P_Mo_build_68 at h
    refine g_iload (k0 := 2) (q := 70) dX11_build_68 rfl rfl ?_
    refine g_aloadn (k0 := 0) (q := 71) dX11_build_70 rfl rfl rfl ?_
    refine g_get (v := .int (M.1 35 24)) (q := 74) fg_X11_176_35 rfl dX11_build_71 rfl ?_
    refine g_ic_ge (tgt := 97) (q := 77) dX11_build_74 rfl rfl (fun hc26 => ?_) (fun hc26 => ?_)
    · replace h := h.1 hc26
      refine g_aloadn (k0 := 0) (q := 98) dX11_build_97 rfl rfl rfl ?_
      refine g_iload (k0 := 1) (q := 100) dX11_build_98 rfl rfl ?_
      refine g_ldc (q := 102) dX11_build_100 wm_1012 rfl ?_
      refine g_ixor (q := 103) dX11_build_102 rfl ?_
      refine g_bipush (q := 105) dX11_build_103 kb_16 rfl ?_
      refine g_callv (q := 108) [.int (v7 ^^^ 65535), .int 16] [] cv_X11_191 rc_35 (c_X11_say hE h) rfl rfl ⟨rfl, rfl, Nat.le_of_ble_eq_true rfl, Nat.le_of_ble_eq_true rfl, Nat.zero_le _, Nat.zero_le _⟩ (Nat.le_of_ble_eq_true rfl) dX11_build_105 rfl (fun M9 h => ?_)
      refine g_aloadn (k0 := 0) (q := 109) dX11_build_108 rfl rfl rfl ?_
      refine g_iconst (q := 110) dX11_build_109 ki_0 rfl ?_
      refine g_putI (q := 113) fp_X11_182_35 dX11_build_110 rfl ?_
      refine g_aloadn (k0 := 0) (q := 114) dX11_build_113 rfl rfl rfl ?_
      refine g_iconst (q := 115) dX11_build_114 ki_0 rfl ?_
      refine g_putI (q := 118) fp_X11_179_35 dX11_build_115 rfl ?_
      refine g_aloadn (k0 := 0) (q := 119) dX11_build_118 rfl rfl rfl ?_
      refine g_iconst (q := 120) dX11_build_119 ki_0 rfl ?_
      refine g_callv (q := 123) [.int 0] [] cv_X11_185 rc_35 (c_X11_level hE h) rfl rfl ⟨rfl, rfl, Nat.le_of_ble_eq_true rfl, Nat.le_of_ble_eq_true rfl, Nat.zero_le _, Nat.zero_le _⟩ (Nat.le_of_ble_eq_true rfl) dX11_build_120 rfl (fun M10 h => ?_)
      refine g_aloadn (k0 := 0) (q := 124) dX11_build_123 rfl rfl rfl ?_
      refine g_callv (q := 127) [] [] cv_X11_199 rc_35 (c_X11_mark hE h) rfl rfl ⟨rfl, rfl, Nat.le_of_ble_eq_true rfl, Nat.le_of_ble_eq_true rfl, Nat.zero_le _, Nat.zero_le _⟩ (Nat.le_of_ble_eq_true rfl) dX11_build_124 rfl (fun M11 h => ?_)
      refine g_iconst (q := 128) dX11_build_127 ki_0 rfl ?_
      refine g_istore (lv' := [(0, .ref (eA E 35)), (7, .int v7), (8, .int 0)]) (q := 130) [1, 2, 0] dX11_build_128 (by decide) rfl rfl ?_
      refine g_iconst (q := 131) dX11_build_130 ki_0 rfl ?_
      refine g_istore (lv' := [(0, .ref (eA E 35)), (7, .int v7), (8, .int 0), (9, .int 0)]) (q := 133) [1, 2, 3, 0] dX11_build_131 (by decide) rfl rfl ?_
      refine g_lv (lv' := [(0, .ref (eA E 35)), (8, .int 0), (9, .int 0)]) [0, 2, 3] rfl ?_
      obtain ⟨n1, h⟩ := h
      exact g_X11_build_133 hE hz n1 _ _ _ h
    · replace h := h.2 hc26
      refine g_iload (k0 := 1) (q := 79) dX11_build_77 rfl rfl ?_
      refine g_aloadn (k0 := 0) (q := 80) dX11_build_79 rfl rfl rfl ?_
      refine g_get (v := .ref (eA E 50)) (q := 83) fg_X11_53_35 rfl dX11_build_80 rfl ?_
      refine g_iload (k0 := 2) (q := 85) dX11_build_83 rfl rfl ?_
      have hv23 := h.1
      replace h := h.2
      refine g_iald (v := (M.1 50 v8.toNatClampNeg)) (q := 86) ar_50 hv23 rfl dX11_build_85 rfl ?_
      refine g_scalli (q := 89) [.int v7, .int (M.1 50 v8.toNatClampNeg)] [] cs_X11_119 (c_X11_doubled hE h) rfl rfl ⟨rfl, rfl, Nat.le_of_ble_eq_true rfl, Nat.le_of_ble_eq_true rfl, Nat.zero_le _, Nat.zero_le _⟩ (Nat.le_of_ble_eq_true rfl) dX11_build_86 rfl (fun r25 M24 h => ?_)
      refine g_istore (lv' := [(0, .ref (eA E 35)), (7, .int r25), (8, .int v8)]) (q := 91) [1, 0, 2] dX11_build_89 (by decide) rfl rfl ?_
      refine g_iinc (lv' := [(0, .ref (eA E 35)), (7, .int r25), (8, .int (v8 + 1))]) (k0 := 2) (w := (v8 + 1)) (q := 94) [1, 2, 0] dX11_build_91 rfl rfl (by decide) rfl rfl ?_
      refine g_goto (tgt := 68) dX11_build_94 rfl ?_
      exact ih _ _ _ h
set_option maxHeartbeats 4000000 in
set_option maxRecDepth 100000 in
theorem c_X11_build {E : EX} (hE : EH E) {a1 : Int32} {a2 : Int32} {a3 : Int32} {a4 : Int32} {a5 : Int32} {a6 : Int32} {M : Mem} {Q : Int32 → Mem → Prop} (h : P_Mo_build a1 a2 a3 a4 a5 a6 M Q) : CI yX11_build cX11_build 10 (some .int) rmX11_build E [.ref (eA E 35), .int a1, .int a2, .int a3, .int a4, .int a5, .int a6] M Q := by
  refine CI.of hE (plainFor_of_name (by decide)) (Nat.le_of_ble_eq_true rfl) (fun x hz => ?_)
  unfold P_Mo_build at h
  show G x E mX11_build 0 0 0 [(0, .ref (eA E 35)), (1, .int a1), (2, .int a2), (3, .int a3), (4, .int a4), (5, .int a5), (6, .int a6)] [] M
  refine g_aloadn (k0 := 0) (q := 1) dX11_build_0 rfl rfl rfl ?_
  refine g_iconst (q := 2) dX11_build_1 ki_0 rfl ?_
  refine g_putI (q := 5) fp_X11_94_35 dX11_build_2 rfl ?_
  refine g_iloadn (k0 := 1) (q := 6) dX11_build_5 rfl rfl rfl ?_
  refine g_iconst (q := 7) dX11_build_6 ki_1 rfl ?_
  refine g_iconst (q := 8) dX11_build_7 ki_5 rfl ?_
  refine g_scalli (q := 11) [.int a1, .int 1, .int 5] [] cs_X11_188 (c_X11_isIn hE h) rfl rfl ⟨rfl, rfl, Nat.le_of_ble_eq_true rfl, Nat.le_of_ble_eq_true rfl, Nat.zero_le _, Nat.zero_le _⟩ (Nat.le_of_ble_eq_true rfl) dX11_build_8 rfl (fun r2 M1 h => ?_)
  obtain ⟨hb_r2, h⟩ := h
  refine g_if_eq (tgt := 24) (q := 14) dX11_build_11 rfl rfl (fun hc30 => ?_) (fun hc30 => ?_)
  · replace h := h.1 hc30
    refine g_iconst (q := 25) dX11_build_24 ki_m1 rfl ?_
    exact g_iret hz rfl dX11_build_25 h
  · replace h := h.2 hc30
    refine g_iloadn (k0 := 2) (q := 15) dX11_build_14 rfl rfl rfl ?_
    refine g_iconst (q := 16) dX11_build_15 ki_0 rfl ?_
    refine g_ldc (q := 18) dX11_build_16 wm_1095 rfl ?_
    refine g_scalli (q := 21) [.int a2, .int 0, .int 1048575] [] cs_X11_188 (c_X11_isIn hE h) rfl rfl ⟨rfl, rfl, Nat.le_of_ble_eq_true rfl, Nat.le_of_ble_eq_true rfl, Nat.zero_le _, Nat.zero_le _⟩ (Nat.le_of_ble_eq_true rfl) dX11_build_18 rfl (fun r4 M3 h => ?_)
    obtain ⟨hb_r4, h⟩ := h
    refine g_if_ne (tgt := 26) (q := 24) dX11_build_21 rfl rfl (fun hc29 => ?_) (fun hc29 => ?_)
    · replace h := h.1 hc29
      refine g_aloadn (k0 := 0) (q := 27) dX11_build_26 rfl rfl rfl ?_
      refine g_iconst (q := 28) dX11_build_27 ki_0 rfl ?_
      refine g_putI (q := 31) fp_X11_176_35 dX11_build_28 rfl ?_
      refine g_aloadn (k0 := 0) (q := 32) dX11_build_31 rfl rfl rfl ?_
      refine g_iloadn (k0 := 1) (q := 33) dX11_build_32 rfl rfl rfl ?_
      refine g_iconst (q := 34) dX11_build_33 ki_4 rfl ?_
      refine g_callv (q := 37) [.int a1, .int 4] [] cv_X11_191 rc_35 (c_X11_say hE h) rfl rfl ⟨rfl, rfl, Nat.le_of_ble_eq_true rfl, Nat.le_of_ble_eq_true rfl, Nat.zero_le _, Nat.zero_le _⟩ (Nat.le_of_ble_eq_true rfl) dX11_build_34 rfl (fun M5 h => ?_)
      refine g_aloadn (k0 := 0) (q := 38) dX11_build_37 rfl rfl rfl ?_
      refine g_iloadn (k0 := 2) (q := 39) dX11_build_38 rfl rfl rfl ?_
      refine g_bipush (q := 41) dX11_build_39 kb_20 rfl ?_
      refine g_callv (q := 44) [.int a2, .int 20] [] cv_X11_191 rc_35 (c_X11_say hE h) rfl rfl ⟨rfl, rfl, Nat.le_of_ble_eq_true rfl, Nat.le_of_ble_eq_true rfl, Nat.zero_le _, Nat.zero_le _⟩ (Nat.le_of_ble_eq_true rfl) dX11_build_41 rfl (fun M6 h => ?_)
      refine g_aloadn (k0 := 0) (q := 45) dX11_build_44 rfl rfl rfl ?_
      refine g_iloadn (k0 := 1) (q := 46) dX11_build_45 rfl rfl rfl ?_
      refine g_iloadn (k0 := 3) (q := 47) dX11_build_46 rfl rfl rfl ?_
      refine g_iload (k0 := 4) (q := 49) dX11_build_47 rfl rfl ?_
      refine g_iload (k0 := 5) (q := 51) dX11_build_49 rfl rfl ?_
      refine g_iload (k0 := 6) (q := 53) dX11_build_51 rfl rfl ?_
      refine g_calli (q := 56) [.int a1, .int a3, .int a4, .int a5, .int a6] [] cv_X11_195 rc_35 (c_X11_says hE h) rfl rfl ⟨rfl, rfl, Nat.le_of_ble_eq_true rfl, Nat.le_of_ble_eq_true rfl, Nat.zero_le _, Nat.zero_le _⟩ (Nat.le_of_ble_eq_true rfl) dX11_build_53 rfl (fun r8 M7 h => ?_)
      obtain ⟨hb_r8, h⟩ := h
      refine g_if_ne (tgt := 61) (q := 59) dX11_build_56 rfl rfl (fun hc28 => ?_) (fun hc28 => ?_)
      · replace h := h.1 hc28
        refine g_ldc (q := 63) dX11_build_61 wm_1012 rfl ?_
        refine g_istore (lv' := [(0, .ref (eA E 35)), (1, .int a1), (2, .int a2), (3, .int a3), (4, .int a4), (5, .int a5), (6, .int a6), (7, .int 65535)]) (q := 65) [1, 2, 3, 4, 5, 6, 7, 0] dX11_build_63 (by decide) rfl rfl ?_
        refine g_iconst (q := 66) dX11_build_65 ki_0 rfl ?_
        refine g_istore (lv' := [(0, .ref (eA E 35)), (1, .int a1), (2, .int a2), (3, .int a3), (4, .int a4), (5, .int a5), (6, .int a6), (7, .int 65535), (8, .int 0)]) (q := 68) [1, 2, 3, 4, 5, 6, 7, 8, 0] dX11_build_66 (by decide) rfl rfl ?_
        refine g_lv (lv' := [(0, .ref (eA E 35)), (7, .int 65535), (8, .int 0)]) [0, 7, 8] rfl ?_
        obtain ⟨n1, h⟩ := h
        exact g_X11_build_68 hE hz n1 _ _ _ h
      · replace h := h.2 hc28
        refine g_iconst (q := 60) dX11_build_59 ki_m1 rfl ?_
        exact g_iret hz rfl dX11_build_60 h
    · replace h := h.2 hc29
      refine g_iconst (q := 25) dX11_build_24 ki_m1 rfl ?_
      exact g_iret hz rfl dX11_build_25 h
set_option maxHeartbeats 4000000 in
set_option maxRecDepth 100000 in
theorem c_X11_octet {E : EX} (hE : EH E) {a1 : Int32} {M : Mem} {Q : Int32 → Mem → Prop} (h : P_Mo_octet a1 M Q) : CI yX11_octet cX11_octet 2 (some .int) rmX11_octet E [.ref (eA E 35), .int a1] M Q := by
  refine CI.of hE (plainFor_of_name (by decide)) (Nat.le_of_ble_eq_true rfl) (fun x hz => ?_)
  unfold P_Mo_octet at h
  show G x E mX11_octet 0 0 0 [(0, .ref (eA E 35)), (1, .int a1)] [] M
  refine g_iloadn (k0 := 1) (q := 1) dX11_octet_0 rfl rfl rfl ?_
  refine g_if_lt (tgt := 12) (q := 4) dX11_octet_1 rfl rfl (fun hc7 => ?_) (fun hc7 => ?_)
  · replace h := h.1 hc7
    refine g_aloadn (k0 := 0) (q := 13) dX11_octet_12 rfl rfl rfl ?_
    refine g_calli (q := 16) [] [] cv_X11_159 rc_35 (c_X11_refuse hE h) rfl rfl ⟨rfl, rfl, Nat.le_of_ble_eq_true rfl, Nat.le_of_ble_eq_true rfl, Nat.zero_le _, Nat.zero_le _⟩ (Nat.le_of_ble_eq_true rfl) dX11_octet_13 rfl (fun r2 M1 h => ?_)
    exact g_iret hz rfl dX11_octet_16 h
  · replace h := h.2 hc7
    refine g_iloadn (k0 := 1) (q := 5) dX11_octet_4 rfl rfl rfl ?_
    refine g_aloadn (k0 := 0) (q := 6) dX11_octet_5 rfl rfl rfl ?_
    refine g_get (v := .int (M.1 35 23)) (q := 9) fg_X11_202_35 rfl dX11_octet_6 rfl ?_
    refine g_ic_lt (tgt := 17) (q := 12) dX11_octet_9 rfl rfl (fun hc6 => ?_) (fun hc6 => ?_)
    · replace h := h.1 hc6
      refine g_aloadn (k0 := 0) (q := 18) dX11_octet_17 rfl rfl rfl ?_
      refine g_iconst (q := 19) dX11_octet_18 ki_0 rfl ?_
      refine g_putI (q := 22) fp_X11_94_35 dX11_octet_19 rfl ?_
      refine g_aloadn (k0 := 0) (q := 23) dX11_octet_22 rfl rfl rfl ?_
      refine g_get (v := .ref (eA E 49)) (q := 26) fg_X11_50_35 rfl dX11_octet_23 rfl ?_
      refine g_iloadn (k0 := 1) (q := 27) dX11_octet_26 rfl rfl rfl ?_
      have hv3 := h.1
      replace h := h.2
      refine g_iald (v := (M.1 49 a1.toNatClampNeg)) (q := 28) ar_49 hv3 rfl dX11_octet_27 rfl ?_
      exact g_iret hz rfl dX11_octet_28 h
    · replace h := h.2 hc6
      refine g_aloadn (k0 := 0) (q := 13) dX11_octet_12 rfl rfl rfl ?_
      refine g_calli (q := 16) [] [] cv_X11_159 rc_35 (c_X11_refuse hE h) rfl rfl ⟨rfl, rfl, Nat.le_of_ble_eq_true rfl, Nat.le_of_ble_eq_true rfl, Nat.zero_le _, Nat.zero_le _⟩ (Nat.le_of_ble_eq_true rfl) dX11_octet_13 rfl (fun r5 M4 h => ?_)
      exact g_iret hz rfl dX11_octet_16 h
set_option maxHeartbeats 4000000 in
set_option maxRecDepth 100000 in
theorem g_X11_lowers_65 {x : GX} {E : EX} (hE : EH E) {Q : Int32 → Mem → Prop} (hz : ZI x E (fun r M => nb r ∧ Q r M)) : ∀ (v1 : Int32) (v2 : Int32) (v3 : Int64) (M : Mem), P_Mo_lowers_65 Q v1 v2 v3 M → G x E mX11_lowers 0 0 65 [(0, .ref (eA E 35)), (1, .int v1), (2, .int v2), (3, .long v3)] [] M := by
  intro v1 v2 v3 M h
  unfold P_Mo_lowers_65 at h
  refine g_aloadn (k0 := 0) (q := 66) dX11_lowers_65 rfl rfl rfl ?_
  refine g_get (v := .ref (eA E 60)) (q := 69) fg_X11_84_35 rfl dX11_lowers_66 rfl ?_
  refine g_iloadn (k0 := 2) (q := 70) dX11_lowers_69 rfl rfl rfl ?_
  refine g_lloadn (k0 := 3) (q := 71) dX11_lowers_70 rfl rfl rfl ?_
  refine g_aloadn (k0 := 0) (q := 72) dX11_lowers_71 rfl rfl rfl ?_
  refine g_get (v := .ref (eA E 57)) (q := 75) fg_X11_74_35 rfl dX11_lowers_72 rfl ?_
  refine g_bipush (q := 77) dX11_lowers_75 kb_16 rfl ?_
  refine g_iloadn (k0 := 1) (q := 78) dX11_lowers_77 rfl rfl rfl ?_
  refine g_imul (q := 79) dX11_lowers_78 rfl ?_
  refine g_iloadn (k0 := 2) (q := 80) dX11_lowers_79 rfl rfl rfl ?_
  refine g_iadd (q := 81) dX11_lowers_80 rfl ?_
  have hv3 := h.1
  replace h := h.2
  refine g_lald (v := (M.2 57 (((16 * v1) + v2)).toNatClampNeg)) (q := 82) ar_57 hv3 rfl dX11_lowers_81 rfl ?_
  refine g_ladd (q := 83) dX11_lowers_82 rfl ?_
  have hv4 := h.1
  replace h := h.2
  refine g_last (q := 84) ar_60 hv4 dX11_lowers_83 rfl ?_
  refine g_aloadn (k0 := 0) (q := 85) dX11_lowers_84 rfl rfl rfl ?_
  refine g_get (v := .ref (eA E 61)) (q := 88) fg_X11_87_35 rfl dX11_lowers_85 rfl ?_
  refine g_iloadn (k0 := 2) (q := 89) dX11_lowers_88 rfl rfl rfl ?_
  refine g_iloadn (k0 := 1) (q := 90) dX11_lowers_89 rfl rfl rfl ?_
  refine g_iast (q := 91) ar_61 hv4 dX11_lowers_90 rfl ?_
  refine g_iconst (q := 92) dX11_lowers_91 ki_1 rfl ?_
  exact g_zret hz rfl rfl dX11_lowers_92 h
set_option maxHeartbeats 4000000 in
set_option maxRecDepth 100000 in
theorem c_X11_lowers {E : EX} (hE : EH E) {a1 : Int32} {a2 : Int32} {a3 : Int64} {M : Mem} {Q : Int32 → Mem → Prop} (h : P_Mo_lowers a1 a2 a3 M Q) : CI yX11_lowers cX11_lowers 6 (some .boolean) rmX11_lowers E [.ref (eA E 35), .int a1, .int a2, .long a3] M (fun r M => nb r ∧ Q r M) := by
  refine CI.of hE (plainFor_of_name (by decide)) (Nat.le_of_ble_eq_true rfl) (fun x hz => ?_)
  unfold P_Mo_lowers at h
  show G x E mX11_lowers 0 0 0 [(0, .ref (eA E 35)), (1, .int a1), (2, .int a2), (3, .long a3)] [] M
  refine g_aloadn (k0 := 0) (q := 1) dX11_lowers_0 rfl rfl rfl ?_
  refine g_get (v := .ref (eA E 58)) (q := 4) fg_X11_78_35 rfl dX11_lowers_1 rfl ?_
  refine g_bipush (q := 6) dX11_lowers_4 kb_16 rfl ?_
  refine g_iloadn (k0 := 1) (q := 7) dX11_lowers_6 rfl rfl rfl ?_
  refine g_imul (q := 8) dX11_lowers_7 rfl ?_
  refine g_iloadn (k0 := 2) (q := 9) dX11_lowers_8 rfl rfl rfl ?_
  refine g_iadd (q := 10) dX11_lowers_9 rfl ?_
  have hv1 := h.1
  replace h := h.2
  refine g_zald (v := (M.1 58 (((16 * a1) + a2)).toNatClampNeg)) (q := 11) ar_58 hv1 rfl dX11_lowers_10 rfl ?_
  refine g_if_eq (tgt := 37) (q := 14) dX11_lowers_11 rfl rfl (fun hc9 => ?_) (fun hc9 => ?_)
  · replace h := h.1 hc9
    refine g_iconst (q := 38) dX11_lowers_37 ki_0 rfl ?_
    exact g_zret hz rfl rfl dX11_lowers_38 h
  · replace h := h.2 hc9
    refine g_lloadn (k0 := 3) (q := 15) dX11_lowers_14 rfl rfl rfl ?_
    refine g_aloadn (k0 := 0) (q := 16) dX11_lowers_15 rfl rfl rfl ?_
    refine g_get (v := .ref (eA E 57)) (q := 19) fg_X11_74_35 rfl dX11_lowers_16 rfl ?_
    refine g_bipush (q := 21) dX11_lowers_19 kb_16 rfl ?_
    refine g_iloadn (k0 := 1) (q := 22) dX11_lowers_21 rfl rfl rfl ?_
    refine g_imul (q := 23) dX11_lowers_22 rfl ?_
    refine g_iloadn (k0 := 2) (q := 24) dX11_lowers_23 rfl rfl rfl ?_
    refine g_iadd (q := 25) dX11_lowers_24 rfl ?_
    refine g_lald (v := (M.2 57 (((16 * a1) + a2)).toNatClampNeg)) (q := 26) ar_57 hv1 rfl dX11_lowers_25 rfl ?_
    refine g_ladd (q := 27) dX11_lowers_26 rfl ?_
    refine g_aloadn (k0 := 0) (q := 28) dX11_lowers_27 rfl rfl rfl ?_
    refine g_get (v := .ref (eA E 60)) (q := 31) fg_X11_84_35 rfl dX11_lowers_28 rfl ?_
    refine g_iloadn (k0 := 2) (q := 32) dX11_lowers_31 rfl rfl rfl ?_
    have hv2 := h.1
    replace h := h.2
    refine g_lald (v := (M.2 60 a2.toNatClampNeg)) (q := 33) ar_60 hv2 rfl dX11_lowers_32 rfl ?_
    refine g_lc_lt (tgt := 39) (q := 34) (q2 := 37) dX11_lowers_33 rfl dX11_lowers_34 rfl rfl (fun hc8 => ?_) (fun hc8 => ?_)
    · replace h := h.1 hc8
      refine g_aloadn (k0 := 0) (q := 40) dX11_lowers_39 rfl rfl rfl ?_
      refine g_get (v := .ref (eA E 54)) (q := 43) fg_X11_65_35 rfl dX11_lowers_40 rfl ?_
      refine g_iloadn (k0 := 2) (q := 44) dX11_lowers_43 rfl rfl rfl ?_
      refine g_iald (v := (M.1 54 a2.toNatClampNeg)) (q := 45) ar_54 hv2 rfl dX11_lowers_44 rfl ?_
      refine g_istore (lv' := [(0, .ref (eA E 35)), (1, .int a1), (2, .int a2), (3, .long a3), (5, .int (M.1 54 a2.toNatClampNeg))]) (q := 47) [1, 2, 3, 4, 0] dX11_lowers_45 (by decide) rfl rfl ?_
      refine g_iload (k0 := 4) (q := 49) dX11_lowers_47 rfl rfl ?_
      refine g_iconst (q := 50) dX11_lowers_49 ki_m1 rfl ?_
      refine g_ic_eq (tgt := 65) (q := 53) dX11_lowers_50 rfl rfl (fun hc7 => ?_) (fun hc7 => ?_)
      · replace h := h.1 hc7
        refine g_lv (lv' := [(0, .ref (eA E 35)), (1, .int a1), (2, .int a2), (3, .long a3)]) [0, 1, 2, 3] rfl ?_
        exact g_X11_lowers_65 hE hz _ _ _ _ h
      · replace h := h.2 hc7
        refine g_aloadn (k0 := 0) (q := 54) dX11_lowers_53 rfl rfl rfl ?_
        refine g_get (v := .ref (eA E 59)) (q := 57) fg_X11_81_35 rfl dX11_lowers_54 rfl ?_
        refine g_iload (k0 := 4) (q := 59) dX11_lowers_57 rfl rfl ?_
        have hv5 := h.1
        replace h := h.2
        refine g_zald (v := (M.1 59 ((M.1 54 a2.toNatClampNeg)).toNatClampNeg)) (q := 60) ar_59 hv5 rfl dX11_lowers_59 rfl ?_
        refine g_if_eq (tgt := 65) (q := 63) dX11_lowers_60 rfl rfl (fun hc6 => ?_) (fun hc6 => ?_)
        · replace h := h.1 hc6
          refine g_lv (lv' := [(0, .ref (eA E 35)), (1, .int a1), (2, .int a2), (3, .long a3)]) [0, 1, 2, 3] rfl ?_
          exact g_X11_lowers_65 hE hz _ _ _ _ h
        · replace h := h.2 hc6
          refine g_iconst (q := 64) dX11_lowers_63 ki_0 rfl ?_
          exact g_zret hz rfl rfl dX11_lowers_64 h
    · replace h := h.2 hc8
      refine g_iconst (q := 38) dX11_lowers_37 ki_0 rfl ?_
      exact g_zret hz rfl rfl dX11_lowers_38 h
set_option maxHeartbeats 4000000 in
set_option maxRecDepth 100000 in
theorem g_X11_raises_332 {x : GX} {E : EX} (hE : EH E) {Q : Int32 → Mem → Prop} (hz : ZI x E (fun r M => nb r ∧ Q r M)) : ∀ (n : Nat) (v6 : Int32) (M : Mem), P_Mo_raises_332 Q n v6 M → G x E mX11_raises 0 0 332 [(0, .ref (eA E 35)), (6, .int v6)] [] M := by
  intro n
  induction n with
  | zero => intro _ _ h; exact h.elim
  | succ n ih =>
    intro v6 M h
    unfold P_Mo_raises_332 at h
    refine g_iload (k0 := 1) (q := 334) dX11_raises_332 rfl rfl ?_
    refine g_iconst (q := 335) dX11_raises_334 ki_m1 rfl ?_
    refine g_ic_eq (tgt := 381) (q := 338) dX11_raises_335 rfl rfl (fun hc4 => ?_) (fun hc4 => ?_)
    · replace h := h.1 hc4
      refine g_iconst (q := 382) dX11_raises_381 ki_1 rfl ?_
      exact g_zret hz rfl rfl dX11_raises_382 h
    · replace h := h.2 hc4
      refine g_aloadn (k0 := 0) (q := 339) dX11_raises_338 rfl rfl rfl ?_
      refine g_get (v := .ref (eA E 61)) (q := 342) fg_X11_87_35 rfl dX11_raises_339 rfl ?_
      refine g_iload (k0 := 1) (q := 344) dX11_raises_342 rfl rfl ?_
      have hv2 := h.1
      replace h := h.2
      refine g_iald (v := (M.1 61 v6.toNatClampNeg)) (q := 345) ar_61 hv2 rfl dX11_raises_344 rfl ?_
      refine g_istore (lv' := [(0, .ref (eA E 35)), (6, .int v6), (7, .int (M.1 61 v6.toNatClampNeg))]) (q := 347) [1, 2, 0] dX11_raises_345 (by decide) rfl rfl ?_
      refine g_aloadn (k0 := 0) (q := 348) dX11_raises_347 rfl rfl rfl ?_
      refine g_get (v := .ref (eA E 53)) (q := 351) fg_X11_62_35 rfl dX11_raises_348 rfl ?_
      refine g_iload (k0 := 2) (q := 353) dX11_raises_351 rfl rfl ?_
      have hv3 := h.1
      replace h := h.2
      refine g_iald (v := (M.1 53 ((M.1 61 v6.toNatClampNeg)).toNatClampNeg)) (q := 354) ar_53 hv3 rfl dX11_raises_353 rfl ?_
      refine g_istore (lv' := [(0, .ref (eA E 35)), (6, .int v6), (7, .int (M.1 61 v6.toNatClampNeg)), (8, .int (M.1 53 ((M.1 61 v6.toNatClampNeg)).toNatClampNeg))]) (q := 356) [1, 2, 3, 0] dX11_raises_354 (by decide) rfl rfl ?_
      refine g_aloadn (k0 := 0) (q := 357) dX11_raises_356 rfl rfl rfl ?_
      refine g_get (v := .ref (eA E 53)) (q := 360) fg_X11_62_35 rfl dX11_raises_357 rfl ?_
      refine g_iload (k0 := 2) (q := 362) dX11_raises_360 rfl rfl ?_
      refine g_iload (k0 := 1) (q := 364) dX11_raises_362 rfl rfl ?_
      refine g_iast (q := 365) ar_53 hv3 dX11_raises_364 rfl ?_
      refine g_aloadn (k0 := 0) (q := 366) dX11_raises_365 rfl rfl rfl ?_
      refine g_get (v := .ref (eA E 54)) (q := 369) fg_X11_65_35 rfl dX11_raises_366 rfl ?_
      refine g_iload (k0 := 1) (q := 371) dX11_raises_369 rfl rfl ?_
      refine g_iload (k0 := 2) (q := 373) dX11_raises_371 rfl rfl ?_
      refine g_iast (q := 374) ar_54 hv2 dX11_raises_373 rfl ?_
      refine g_iload (k0 := 3) (q := 376) dX11_raises_374 rfl rfl ?_
      refine g_istore (lv' := [(0, .ref (eA E 35)), (6, .int (M.1 53 ((M.1 61 v6.toNatClampNeg)).toNatClampNeg)), (7, .int (M.1 61 v6.toNatClampNeg)), (8, .int (M.1 53 ((M.1 61 v6.toNatClampNeg)).toNatClampNeg))]) (q := 378) [1, 0, 2, 3] dX11_raises_376 (by decide) rfl rfl ?_
      refine g_goto (tgt := 332) dX11_raises_378 rfl ?_
      refine g_lv (lv' := [(0, .ref (eA E 35)), (6, .int (M.1 53 ((M.1 61 v6.toNatClampNeg)).toNatClampNeg))]) [0, 1] rfl ?_
      exact ih _ _ h
set_option maxHeartbeats 4000000 in
set_option maxRecDepth 100000 in
theorem g_X11_raises_231 {x : GX} {E : EX} (hE : EH E) {Q : Int32 → Mem → Prop} (hz : ZI x E (fun r M => nb r ∧ Q r M)) : ∀ (n : Nat) (v1 : Int32) (v2 : Int64) (v5 : Int32) (v6 : Int32) (M : Mem), P_Mo_raises_231 Q n v1 v2 v5 v6 M → G x E mX11_raises 0 0 231 [(0, .ref (eA E 35)), (1, .int v1), (2, .long v2), (5, .int v5), (6, .int v6)] [] M := by
  intro n
  induction n with
  | zero => intro _ _ _ _ _ h; exact h.elim
  | succ n ih =>
    intro v1 v2 v5 v6 M h
    unfold P_Mo_raises_231 at h
    refine g_iload (k0 := 4) (q := 233) dX11_raises_231 rfl rfl ?_
    refine g_iloadn (k0 := 1) (q := 234) dX11_raises_233 rfl rfl rfl ?_
    refine g_ic_ge (tgt := 294) (q := 237) dX11_raises_234 rfl rfl (fun hc13 => ?_) (fun hc13 => ?_)
    · replace h := h.1 hc13
      refine g_iload (k0 := 3) (q := 296) dX11_raises_294 rfl rfl ?_
      refine g_iconst (q := 297) dX11_raises_296 ki_m1 rfl ?_
      refine g_ic_ne (tgt := 302) (q := 300) dX11_raises_297 rfl rfl (fun hc6 => ?_) (fun hc6 => ?_)
      · replace h := h.1 hc6
        refine g_aloadn (k0 := 0) (q := 303) dX11_raises_302 rfl rfl rfl ?_
        refine g_dup (q := 304) dX11_raises_303 rfl rfl ?_
        refine g_get (v := .long (M.2 35 39)) (q := 307) fg_X11_211_35 rfl dX11_raises_304 rfl ?_
        refine g_aloadn (k0 := 0) (q := 308) dX11_raises_307 rfl rfl rfl ?_
        refine g_get (v := .ref (eA E 60)) (q := 311) fg_X11_84_35 rfl dX11_raises_308 rfl ?_
        refine g_iload (k0 := 3) (q := 313) dX11_raises_311 rfl rfl ?_
        have hv1 := h.1
        replace h := h.2
        refine g_lald (v := (M.2 60 v5.toNatClampNeg)) (q := 314) ar_60 hv1 rfl dX11_raises_313 rfl ?_
        refine g_ladd (q := 315) dX11_raises_314 rfl ?_
        refine g_putL (q := 318) fp_X11_211_35 dX11_raises_315 rfl ?_
        refine g_aloadn (k0 := 0) (q := 319) dX11_raises_318 rfl rfl rfl ?_
        refine g_dup (q := 320) dX11_raises_319 rfl rfl ?_
        refine g_get (v := .int (M.1 35 40)) (q := 323) fg_X11_215_35 rfl dX11_raises_320 rfl ?_
        refine g_iconst (q := 324) dX11_raises_323 ki_1 rfl ?_
        refine g_iadd (q := 325) dX11_raises_324 rfl ?_
        refine g_putI (q := 328) fp_X11_215_35 dX11_raises_325 rfl ?_
        refine g_iload (k0 := 3) (q := 330) dX11_raises_328 rfl rfl ?_
        refine g_istore (lv' := [(0, .ref (eA E 35)), (1, .int v1), (2, .long v2), (5, .int v5), (6, .int v5)]) (q := 332) [1, 2, 3, 4, 0] dX11_raises_330 (by decide) rfl rfl ?_
        refine g_lv (lv' := [(0, .ref (eA E 35)), (6, .int v5)]) [0, 4] rfl ?_
        obtain ⟨n1, h⟩ := h
        exact g_X11_raises_332 hE hz n1 _ _ h
      · replace h := h.2 hc6
        refine g_iconst (q := 301) dX11_raises_300 ki_0 rfl ?_
        exact g_zret hz rfl rfl dX11_raises_301 h
    · replace h := h.2 hc13
      refine g_aloadn (k0 := 0) (q := 238) dX11_raises_237 rfl rfl rfl ?_
      refine g_get (v := .ref (eA E 54)) (q := 241) fg_X11_65_35 rfl dX11_raises_238 rfl ?_
      refine g_iload (k0 := 4) (q := 243) dX11_raises_241 rfl rfl ?_
      have hv7 := h.1
      replace h := h.2
      refine g_iald (v := (M.1 54 v6.toNatClampNeg)) (q := 244) ar_54 hv7 rfl dX11_raises_243 rfl ?_
      refine g_iconst (q := 245) dX11_raises_244 ki_m1 rfl ?_
      refine g_ic_ne (tgt := 288) (q := 248) dX11_raises_245 rfl rfl (fun hc12 => ?_) (fun hc12 => ?_)
      · replace h := h.1 hc12
        refine g_iinc (lv' := [(0, .ref (eA E 35)), (1, .int v1), (2, .long v2), (5, .int v5), (6, .int (v6 + 1))]) (k0 := 4) (w := (v6 + 1)) (q := 291) [1, 2, 3, 4, 0] dX11_raises_288 rfl rfl (by decide) rfl rfl ?_
        refine g_goto (tgt := 231) dX11_raises_291 rfl ?_
        exact ih _ _ _ _ _ h
      · replace h := h.2 hc12
        refine g_aloadn (k0 := 0) (q := 249) dX11_raises_248 rfl rfl rfl ?_
        refine g_get (v := .ref (eA E 60)) (q := 252) fg_X11_84_35 rfl dX11_raises_249 rfl ?_
        refine g_iload (k0 := 4) (q := 254) dX11_raises_252 rfl rfl ?_
        refine g_lald (v := (M.2 60 v6.toNatClampNeg)) (q := 255) ar_60 hv7 rfl dX11_raises_254 rfl ?_
        refine g_lloadn (k0 := 2) (q := 256) dX11_raises_255 rfl rfl rfl ?_
        refine g_lc_ge (tgt := 288) (q := 257) (q2 := 260) dX11_raises_256 rfl dX11_raises_257 rfl rfl (fun hc11 => ?_) (fun hc11 => ?_)
        · replace h := h.1 hc11
          refine g_iinc (lv' := [(0, .ref (eA E 35)), (1, .int v1), (2, .long v2), (5, .int v5), (6, .int (v6 + 1))]) (k0 := 4) (w := (v6 + 1)) (q := 291) [1, 2, 3, 4, 0] dX11_raises_288 rfl rfl (by decide) rfl rfl ?_
          refine g_goto (tgt := 231) dX11_raises_291 rfl ?_
          exact ih _ _ _ _ _ h
        · replace h := h.2 hc11
          refine g_iload (k0 := 3) (q := 262) dX11_raises_260 rfl rfl ?_
          refine g_iconst (q := 263) dX11_raises_262 ki_m1 rfl ?_
          refine g_ic_eq (tgt := 284) (q := 266) dX11_raises_263 rfl rfl (fun hc10 => ?_) (fun hc10 => ?_)
          · replace h := h.1 hc10
            refine g_iload (k0 := 4) (q := 286) dX11_raises_284 rfl rfl ?_
            refine g_istore (lv' := [(0, .ref (eA E 35)), (1, .int v1), (2, .long v2), (5, .int v6), (6, .int v6)]) (q := 288) [1, 2, 3, 0, 4] dX11_raises_286 (by decide) rfl rfl ?_
            refine g_iinc (lv' := [(0, .ref (eA E 35)), (1, .int v1), (2, .long v2), (5, .int v6), (6, .int (v6 + 1))]) (k0 := 4) (w := (v6 + 1)) (q := 291) [1, 2, 3, 4, 0] dX11_raises_288 rfl rfl (by decide) rfl rfl ?_
            refine g_goto (tgt := 231) dX11_raises_291 rfl ?_
            exact ih _ _ _ _ _ h
          · replace h := h.2 hc10
            refine g_aloadn (k0 := 0) (q := 267) dX11_raises_266 rfl rfl rfl ?_
            refine g_get (v := .ref (eA E 60)) (q := 270) fg_X11_84_35 rfl dX11_raises_267 rfl ?_
            refine g_iload (k0 := 4) (q := 272) dX11_raises_270 rfl rfl ?_
            refine g_lald (v := (M.2 60 v6.toNatClampNeg)) (q := 273) ar_60 hv7 rfl dX11_raises_272 rfl ?_
            refine g_aloadn (k0 := 0) (q := 274) dX11_raises_273 rfl rfl rfl ?_
            refine g_get (v := .ref (eA E 60)) (q := 277) fg_X11_84_35 rfl dX11_raises_274 rfl ?_
            refine g_iload (k0 := 3) (q := 279) dX11_raises_277 rfl rfl ?_
            have hv8 := h.1
            replace h := h.2
            refine g_lald (v := (M.2 60 v5.toNatClampNeg)) (q := 280) ar_60 hv8 rfl dX11_raises_279 rfl ?_
            refine g_lc_ge (tgt := 288) (q := 281) (q2 := 284) dX11_raises_280 rfl dX11_raises_281 rfl rfl (fun hc9 => ?_) (fun hc9 => ?_)
            · replace h := h.1 hc9
              refine g_iinc (lv' := [(0, .ref (eA E 35)), (1, .int v1), (2, .long v2), (5, .int v5), (6, .int (v6 + 1))]) (k0 := 4) (w := (v6 + 1)) (q := 291) [1, 2, 3, 4, 0] dX11_raises_288 rfl rfl (by decide) rfl rfl ?_
              refine g_goto (tgt := 231) dX11_raises_291 rfl ?_
              exact ih _ _ _ _ _ h
            · replace h := h.2 hc9
              refine g_iload (k0 := 4) (q := 286) dX11_raises_284 rfl rfl ?_
              refine g_istore (lv' := [(0, .ref (eA E 35)), (1, .int v1), (2, .long v2), (5, .int v6), (6, .int v6)]) (q := 288) [1, 2, 3, 0, 4] dX11_raises_286 (by decide) rfl rfl ?_
              refine g_iinc (lv' := [(0, .ref (eA E 35)), (1, .int v1), (2, .long v2), (5, .int v6), (6, .int (v6 + 1))]) (k0 := 4) (w := (v6 + 1)) (q := 291) [1, 2, 3, 4, 0] dX11_raises_288 rfl rfl (by decide) rfl rfl ?_
              refine g_goto (tgt := 231) dX11_raises_291 rfl ?_
              exact ih _ _ _ _ _ h
set_option maxHeartbeats 4000000 in
set_option maxRecDepth 100000 in
theorem g_X11_raises_162 {x : GX} {E : EX} (hE : EH E) {Q : Int32 → Mem → Prop} (hz : ZI x E (fun r M => nb r ∧ Q r M)) {K102 : Int32 → Int64 → Int32 → Mem → Prop} (hK102 : ∀ (v1 : Int32) (v2 : Int64) (v4 : Int32) (M : Mem), K102 v1 v2 v4 M → G x E mX11_raises 0 0 102 [(0, .ref (eA E 35)), (1, .int v1), (2, .long v2), (4, .int v4)] [] M) {K113 : Int32 → Int64 → Int32 → Int32 → Mem → Prop} (hK113 : ∀ (v1 : Int32) (v2 : Int64) (v4 : Int32) (v5 : Int32) (M : Mem), K113 v1 v2 v4 v5 M → G x E mX11_raises 0 0 113 [(0, .ref (eA E 35)), (1, .int v1), (2, .long v2), (4, .int v4), (5, .int v5)] [] M) : ∀ (n : Nat) (v1 : Int32) (v2 : Int64) (v4 : Int32) (v5 : Int32) (v6 : Int32) (v7 : Int32) (M : Mem), P_Mo_raises_162 K102 K113 Q n v1 v2 v4 v5 v6 v7 M → G x E mX11_raises 0 0 162 [(0, .ref (eA E 35)), (1, .int v1), (2, .long v2), (4, .int v4), (5, .int v5), (6, .int v6), (7, .int v7)] [] M := by
  intro n
  induction n with
  | zero => intro _ _ _ _ _ _ _ h; exact h.elim
  | succ n ih =>
    intro v1 v2 v4 v5 v6 v7 M h
    unfold P_Mo_raises_162 at h
    refine g_iload (k0 := 6) (q := 164) dX11_raises_162 rfl rfl ?_
    refine g_iloadn (k0 := 1) (q := 165) dX11_raises_164 rfl rfl rfl ?_
    refine g_ic_ge (tgt := 216) (q := 168) dX11_raises_165 rfl rfl (fun hc23 => ?_) (fun hc23 => ?_)
    · replace h := h.1 hc23
      refine g_iinc (lv' := [(0, .ref (eA E 35)), (1, .int v1), (2, .long v2), (4, .int v4), (5, .int (v5 + 1)), (6, .int v6), (7, .int v7)]) (k0 := 4) (w := (v5 + 1)) (q := 219) [1, 2, 3, 4, 0, 5, 6] dX11_raises_216 rfl rfl (by decide) rfl rfl ?_
      refine g_goto (tgt := 113) dX11_raises_219 rfl ?_
      refine g_lv (lv' := [(0, .ref (eA E 35)), (1, .int v1), (2, .long v2), (4, .int v4), (5, .int (v5 + 1))]) [0, 1, 2, 3, 4] rfl ?_
      exact hK113 _ _ _ _ _ h
    · replace h := h.2 hc23
      refine g_iload (k0 := 6) (q := 170) dX11_raises_168 rfl rfl ?_
      refine g_iload (k0 := 4) (q := 172) dX11_raises_170 rfl rfl ?_
      refine g_ic_eq (tgt := 210) (q := 175) dX11_raises_172 rfl rfl (fun hc22 => ?_) (fun hc22 => ?_)
      · replace h := h.1 hc22
        refine g_iinc (lv' := [(0, .ref (eA E 35)), (1, .int v1), (2, .long v2), (4, .int v4), (5, .int v5), (6, .int v6), (7, .int (v7 + 1))]) (k0 := 6) (w := (v7 + 1)) (q := 213) [1, 2, 3, 4, 5, 6, 0] dX11_raises_210 rfl rfl (by decide) rfl rfl ?_
        refine g_goto (tgt := 162) dX11_raises_213 rfl ?_
        exact ih _ _ _ _ _ _ _ h
      · replace h := h.2 hc22
        refine g_aloadn (k0 := 0) (q := 176) dX11_raises_175 rfl rfl rfl ?_
        refine g_iload (k0 := 5) (q := 178) dX11_raises_176 rfl rfl ?_
        refine g_iload (k0 := 6) (q := 180) dX11_raises_178 rfl rfl ?_
        refine g_aloadn (k0 := 0) (q := 181) dX11_raises_180 rfl rfl rfl ?_
        refine g_get (v := .ref (eA E 60)) (q := 184) fg_X11_84_35 rfl dX11_raises_181 rfl ?_
        refine g_iload (k0 := 4) (q := 186) dX11_raises_184 rfl rfl ?_
        have hv17 := h.1
        replace h := h.2
        refine g_lald (v := (M.2 60 v5.toNatClampNeg)) (q := 187) ar_60 hv17 rfl dX11_raises_186 rfl ?_
        refine g_aloadn (k0 := 0) (q := 188) dX11_raises_187 rfl rfl rfl ?_
        refine g_get (v := .ref (eA E 57)) (q := 191) fg_X11_74_35 rfl dX11_raises_188 rfl ?_
        refine g_bipush (q := 193) dX11_raises_191 kb_16 rfl ?_
        refine g_iload (k0 := 5) (q := 195) dX11_raises_193 rfl rfl ?_
        refine g_imul (q := 196) dX11_raises_195 rfl ?_
        refine g_iload (k0 := 4) (q := 198) dX11_raises_196 rfl rfl ?_
        refine g_iadd (q := 199) dX11_raises_198 rfl ?_
        have hv18 := h.1
        replace h := h.2
        refine g_lald (v := (M.2 57 (((16 * v6) + v5)).toNatClampNeg)) (q := 200) ar_57 hv18 rfl dX11_raises_199 rfl ?_
        refine g_lsub (q := 201) dX11_raises_200 rfl ?_
        refine g_calli (q := 204) [.int v6, .int v7, .long ((M.2 60 v5.toNatClampNeg) - (M.2 57 (((16 * v6) + v5)).toNatClampNeg))] [] cv_X11_207 rc_35 (c_X11_lowers hE h) rfl rfl ⟨rfl, rfl, Nat.le_of_ble_eq_true rfl, Nat.le_of_ble_eq_true rfl, Nat.zero_le _, Nat.zero_le _⟩ (Nat.le_of_ble_eq_true rfl) dX11_raises_201 rfl (fun r20 M19 h => ?_)
        obtain ⟨hb_r20, h⟩ := h
        refine g_if_eq (tgt := 210) (q := 207) dX11_raises_204 rfl rfl (fun hc21 => ?_) (fun hc21 => ?_)
        · replace h := h.1 hc21
          refine g_iinc (lv' := [(0, .ref (eA E 35)), (1, .int v1), (2, .long v2), (4, .int v4), (5, .int v5), (6, .int v6), (7, .int (v7 + 1))]) (k0 := 6) (w := (v7 + 1)) (q := 213) [1, 2, 3, 4, 5, 6, 0] dX11_raises_210 rfl rfl (by decide) rfl rfl ?_
          refine g_goto (tgt := 162) dX11_raises_213 rfl ?_
          exact ih _ _ _ _ _ _ _ h
        · replace h := h.2 hc21
          refine g_iconst (q := 208) dX11_raises_207 ki_1 rfl ?_
          refine g_istore (lv' := [(0, .ref (eA E 35)), (1, .int v1), (2, .long v2), (4, .int 1), (5, .int v5), (6, .int v6), (7, .int v7)]) (q := 210) [1, 2, 3, 0, 4, 5, 6] dX11_raises_208 (by decide) rfl rfl ?_
          refine g_iinc (lv' := [(0, .ref (eA E 35)), (1, .int v1), (2, .long v2), (4, .int 1), (5, .int v5), (6, .int v6), (7, .int (v7 + 1))]) (k0 := 6) (w := (v7 + 1)) (q := 213) [1, 2, 3, 4, 5, 6, 0] dX11_raises_210 rfl rfl (by decide) rfl rfl ?_
          refine g_goto (tgt := 162) dX11_raises_213 rfl ?_
          exact ih _ _ _ _ _ _ _ h
set_option maxHeartbeats 4000000 in
set_option maxRecDepth 100000 in
theorem g_X11_raises_113 {x : GX} {E : EX} (hE : EH E) {Q : Int32 → Mem → Prop} (hz : ZI x E (fun r M => nb r ∧ Q r M)) {K102 : Int32 → Int64 → Int32 → Mem → Prop} (hK102 : ∀ (v1 : Int32) (v2 : Int64) (v4 : Int32) (M : Mem), K102 v1 v2 v4 M → G x E mX11_raises 0 0 102 [(0, .ref (eA E 35)), (1, .int v1), (2, .long v2), (4, .int v4)] [] M) : ∀ (n : Nat) (v1 : Int32) (v2 : Int64) (v4 : Int32) (v5 : Int32) (M : Mem), P_Mo_raises_113 K102 Q n v1 v2 v4 v5 M → G x E mX11_raises 0 0 113 [(0, .ref (eA E 35)), (1, .int v1), (2, .long v2), (4, .int v4), (5, .int v5)] [] M := by
  intro n
  induction n with
  | zero => intro _ _ _ _ _ h; exact h.elim
  | succ n ih =>
    intro v1 v2 v4 v5 M h
    unfold P_Mo_raises_113 at h
    refine g_iload (k0 := 4) (q := 115) dX11_raises_113 rfl rfl ?_
    refine g_iloadn (k0 := 1) (q := 116) dX11_raises_115 rfl rfl rfl ?_
    refine g_ic_ge (tgt := 222) (q := 119) dX11_raises_116 rfl rfl (fun hc28 => ?_) (fun hc28 => ?_)
    · replace h := h.1 hc28
      refine g_goto (tgt := 102) dX11_raises_222 rfl ?_
      refine g_lv (lv' := [(0, .ref (eA E 35)), (1, .int v1), (2, .long v2), (4, .int v4)]) [0, 1, 2, 3] rfl ?_
      exact hK102 _ _ _ _ h
    · replace h := h.2 hc28
      refine g_aloadn (k0 := 0) (q := 120) dX11_raises_119 rfl rfl rfl ?_
      refine g_get (v := .ref (eA E 54)) (q := 123) fg_X11_65_35 rfl dX11_raises_120 rfl ?_
      refine g_iload (k0 := 4) (q := 125) dX11_raises_123 rfl rfl ?_
      have hv15 := h.1
      replace h := h.2
      refine g_iald (v := (M.1 54 v5.toNatClampNeg)) (q := 126) ar_54 hv15 rfl dX11_raises_125 rfl ?_
      refine g_istore (lv' := [(0, .ref (eA E 35)), (1, .int v1), (2, .long v2), (4, .int v4), (5, .int v5), (6, .int (M.1 54 v5.toNatClampNeg))]) (q := 128) [1, 2, 3, 4, 5, 0] dX11_raises_126 (by decide) rfl rfl ?_
      refine g_aloadn (k0 := 0) (q := 129) dX11_raises_128 rfl rfl rfl ?_
      refine g_get (v := .ref (eA E 60)) (q := 132) fg_X11_84_35 rfl dX11_raises_129 rfl ?_
      refine g_iload (k0 := 4) (q := 134) dX11_raises_132 rfl rfl ?_
      refine g_lald (v := (M.2 60 v5.toNatClampNeg)) (q := 135) ar_60 hv15 rfl dX11_raises_134 rfl ?_
      refine g_lloadn (k0 := 2) (q := 136) dX11_raises_135 rfl rfl rfl ?_
      refine g_lc_eq (tgt := 216) (q := 137) (q2 := 140) dX11_raises_136 rfl dX11_raises_137 rfl rfl (fun hc27 => ?_) (fun hc27 => ?_)
      · replace h := h.1 hc27
        refine g_iinc (lv' := [(0, .ref (eA E 35)), (1, .int v1), (2, .long v2), (4, .int v4), (5, .int (v5 + 1)), (6, .int (M.1 54 v5.toNatClampNeg))]) (k0 := 4) (w := (v5 + 1)) (q := 219) [1, 2, 3, 4, 0, 5] dX11_raises_216 rfl rfl (by decide) rfl rfl ?_
        refine g_goto (tgt := 113) dX11_raises_219 rfl ?_
        refine g_lv (lv' := [(0, .ref (eA E 35)), (1, .int v1), (2, .long v2), (4, .int v4), (5, .int (v5 + 1))]) [0, 1, 2, 3, 4] rfl ?_
        exact ih _ _ _ _ _ h
      · replace h := h.2 hc27
        refine g_iload (k0 := 5) (q := 142) dX11_raises_140 rfl rfl ?_
        refine g_iconst (q := 143) dX11_raises_142 ki_m1 rfl ?_
        refine g_ic_eq (tgt := 216) (q := 146) dX11_raises_143 rfl rfl (fun hc26 => ?_) (fun hc26 => ?_)
        · replace h := h.1 hc26
          refine g_iinc (lv' := [(0, .ref (eA E 35)), (1, .int v1), (2, .long v2), (4, .int v4), (5, .int (v5 + 1)), (6, .int (M.1 54 v5.toNatClampNeg))]) (k0 := 4) (w := (v5 + 1)) (q := 219) [1, 2, 3, 4, 0, 5] dX11_raises_216 rfl rfl (by decide) rfl rfl ?_
          refine g_goto (tgt := 113) dX11_raises_219 rfl ?_
          refine g_lv (lv' := [(0, .ref (eA E 35)), (1, .int v1), (2, .long v2), (4, .int v4), (5, .int (v5 + 1))]) [0, 1, 2, 3, 4] rfl ?_
          exact ih _ _ _ _ _ h
        · replace h := h.2 hc26
          refine g_aloadn (k0 := 0) (q := 147) dX11_raises_146 rfl rfl rfl ?_
          refine g_get (v := .ref (eA E 59)) (q := 150) fg_X11_81_35 rfl dX11_raises_147 rfl ?_
          refine g_iload (k0 := 5) (q := 152) dX11_raises_150 rfl rfl ?_
          have hv16 := h.1
          replace h := h.2
          refine g_zald (v := (M.1 59 ((M.1 54 v5.toNatClampNeg)).toNatClampNeg)) (q := 153) ar_59 hv16 rfl dX11_raises_152 rfl ?_
          refine g_if_eq (tgt := 159) (q := 156) dX11_raises_153 rfl rfl (fun hc25 => ?_) (fun hc25 => ?_)
          · replace h := h.1 hc25
            refine g_iconst (q := 160) dX11_raises_159 ki_0 rfl ?_
            refine g_istore (lv' := [(0, .ref (eA E 35)), (1, .int v1), (2, .long v2), (4, .int v4), (5, .int v5), (6, .int (M.1 54 v5.toNatClampNeg)), (7, .int 0)]) (q := 162) [1, 2, 3, 4, 5, 6, 0] dX11_raises_160 (by decide) rfl rfl ?_
            obtain ⟨n1, h⟩ := h
            exact g_X11_raises_162 hE hz hK102 ih n1 _ _ _ _ _ _ _ h
          · replace h := h.2 hc25
            refine g_goto (tgt := 216) dX11_raises_156 rfl ?_
            refine g_iinc (lv' := [(0, .ref (eA E 35)), (1, .int v1), (2, .long v2), (4, .int v4), (5, .int (v5 + 1)), (6, .int (M.1 54 v5.toNatClampNeg))]) (k0 := 4) (w := (v5 + 1)) (q := 219) [1, 2, 3, 4, 0, 5] dX11_raises_216 rfl rfl (by decide) rfl rfl ?_
            refine g_goto (tgt := 113) dX11_raises_219 rfl ?_
            refine g_lv (lv' := [(0, .ref (eA E 35)), (1, .int v1), (2, .long v2), (4, .int v4), (5, .int (v5 + 1))]) [0, 1, 2, 3, 4] rfl ?_
            exact ih _ _ _ _ _ h
set_option maxHeartbeats 4000000 in
set_option maxRecDepth 100000 in
theorem g_X11_raises_102 {x : GX} {E : EX} (hE : EH E) {Q : Int32 → Mem → Prop} (hz : ZI x E (fun r M => nb r ∧ Q r M)) : ∀ (n : Nat) (v1 : Int32) (v2 : Int64) (v4 : Int32) (M : Mem), P_Mo_raises_102 Q n v1 v2 v4 M → G x E mX11_raises 0 0 102 [(0, .ref (eA E 35)), (1, .int v1), (2, .long v2), (4, .int v4)] [] M := by
  intro n
  induction n with
  | zero => intro _ _ _ _ h; exact h.elim
  | succ n ih =>
    intro v1 v2 v4 M h
    unfold P_Mo_raises_102 at h
    refine g_iload (k0 := 3) (q := 104) dX11_raises_102 rfl rfl ?_
    refine g_if_eq (tgt := 225) (q := 107) dX11_raises_104 rfl rfl (fun hc30 => ?_) (fun hc30 => ?_)
    · replace h := h.1 hc30
      refine g_iconst (q := 226) dX11_raises_225 ki_m1 rfl ?_
      refine g_istore (lv' := [(0, .ref (eA E 35)), (1, .int v1), (2, .long v2), (4, .int v4), (5, .int (-1))]) (q := 228) [1, 2, 3, 4, 0] dX11_raises_226 (by decide) rfl rfl ?_
      refine g_iconst (q := 229) dX11_raises_228 ki_0 rfl ?_
      refine g_istore (lv' := [(0, .ref (eA E 35)), (1, .int v1), (2, .long v2), (4, .int v4), (5, .int (-1)), (6, .int 0)]) (q := 231) [1, 2, 3, 4, 5, 0] dX11_raises_229 (by decide) rfl rfl ?_
      refine g_lv (lv' := [(0, .ref (eA E 35)), (1, .int v1), (2, .long v2), (5, .int (-1)), (6, .int 0)]) [0, 1, 2, 4, 5] rfl ?_
      obtain ⟨n1, h⟩ := h
      exact g_X11_raises_231 hE hz n1 _ _ _ _ _ h
    · replace h := h.2 hc30
      refine g_iconst (q := 108) dX11_raises_107 ki_0 rfl ?_
      refine g_istore (lv' := [(0, .ref (eA E 35)), (1, .int v1), (2, .long v2), (4, .int 0)]) (q := 110) [1, 2, 3, 0] dX11_raises_108 (by decide) rfl rfl ?_
      refine g_iconst (q := 111) dX11_raises_110 ki_0 rfl ?_
      refine g_istore (lv' := [(0, .ref (eA E 35)), (1, .int v1), (2, .long v2), (4, .int 0), (5, .int 0)]) (q := 113) [1, 2, 3, 4, 0] dX11_raises_111 (by decide) rfl rfl ?_
      obtain ⟨n1, h⟩ := h
      exact g_X11_raises_113 hE hz ih n1 _ _ _ _ _ h
set_option maxHeartbeats 4000000 in
set_option maxRecDepth 100000 in
theorem g_X11_raises_71 {x : GX} {E : EX} (hE : EH E) {Q : Int32 → Mem → Prop} (hz : ZI x E (fun r M => nb r ∧ Q r M)) {K38 : Int32 → Int64 → Int32 → Mem → Prop} (hK38 : ∀ (v1 : Int32) (v2 : Int64) (v4 : Int32) (M : Mem), K38 v1 v2 v4 M → G x E mX11_raises 0 0 38 [(0, .ref (eA E 35)), (1, .int v1), (2, .long v2), (4, .int v4)] [] M) : ∀ (n : Nat) (v1 : Int32) (v2 : Int64) (v4 : Int32) (v5 : Int32) (M : Mem), P_Mo_raises_71 K38 Q n v1 v2 v4 v5 M → G x E mX11_raises 0 0 71 [(0, .ref (eA E 35)), (1, .int v1), (2, .long v2), (4, .int v4), (5, .int v5)] [] M := by
  intro n
  induction n with
  | zero => intro _ _ _ _ _ h; exact h.elim
  | succ n ih =>
    intro v1 v2 v4 v5 M h
    unfold P_Mo_raises_71 at h
    refine g_iload (k0 := 4) (q := 73) dX11_raises_71 rfl rfl ?_
    refine g_iloadn (k0 := 1) (q := 74) dX11_raises_73 rfl rfl rfl ?_
    refine g_ic_ge (tgt := 93) (q := 77) dX11_raises_74 rfl rfl (fun hc35 => ?_) (fun hc35 => ?_)
    · replace h := h.1 hc35
      refine g_iinc (lv' := [(0, .ref (eA E 35)), (1, .int v1), (2, .long v2), (4, .int (v4 + 1)), (5, .int v5)]) (k0 := 3) (w := (v4 + 1)) (q := 96) [1, 2, 3, 0, 4] dX11_raises_93 rfl rfl (by decide) rfl rfl ?_
      refine g_goto (tgt := 38) dX11_raises_96 rfl ?_
      refine g_lv (lv' := [(0, .ref (eA E 35)), (1, .int v1), (2, .long v2), (4, .int (v4 + 1))]) [0, 1, 2, 3] rfl ?_
      exact hK38 _ _ _ _ h
    · replace h := h.2 hc35
      refine g_aloadn (k0 := 0) (q := 78) dX11_raises_77 rfl rfl rfl ?_
      refine g_iload (k0 := 3) (q := 80) dX11_raises_78 rfl rfl ?_
      refine g_iload (k0 := 4) (q := 82) dX11_raises_80 rfl rfl ?_
      refine g_lconst (q := 83) dX11_raises_82 kl_0 rfl ?_
      refine g_calli (q := 86) [.int v4, .int v5, .long 0] [] cv_X11_207 rc_35 (c_X11_lowers hE h) rfl rfl ⟨rfl, rfl, Nat.le_of_ble_eq_true rfl, Nat.le_of_ble_eq_true rfl, Nat.zero_le _, Nat.zero_le _⟩ (Nat.le_of_ble_eq_true rfl) dX11_raises_83 rfl (fun r34 M33 h => ?_)
      obtain ⟨hb_r34, h⟩ := h
      refine g_pop (q := 87) dX11_raises_86 rfl rfl ?_
      refine g_iinc (lv' := [(0, .ref (eA E 35)), (1, .int v1), (2, .long v2), (4, .int v4), (5, .int (v5 + 1))]) (k0 := 4) (w := (v5 + 1)) (q := 90) [1, 2, 3, 4, 0] dX11_raises_87 rfl rfl (by decide) rfl rfl ?_
      refine g_goto (tgt := 71) dX11_raises_90 rfl ?_
      exact ih _ _ _ _ _ h
set_option maxHeartbeats 4000000 in
set_option maxRecDepth 100000 in
theorem g_X11_raises_38 {x : GX} {E : EX} (hE : EH E) {Q : Int32 → Mem → Prop} (hz : ZI x E (fun r M => nb r ∧ Q r M)) : ∀ (n : Nat) (v1 : Int32) (v2 : Int64) (v4 : Int32) (M : Mem), P_Mo_raises_38 Q n v1 v2 v4 M → G x E mX11_raises 0 0 38 [(0, .ref (eA E 35)), (1, .int v1), (2, .long v2), (4, .int v4)] [] M := by
  intro n
  induction n with
  | zero => intro _ _ _ _ h; exact h.elim
  | succ n ih =>
    intro v1 v2 v4 M h
    unfold P_Mo_raises_38 at h
    refine g_iload (k0 := 3) (q := 40) dX11_raises_38 rfl rfl ?_
    refine g_iloadn (k0 := 1) (q := 41) dX11_raises_40 rfl rfl rfl ?_
    refine g_ic_ge (tgt := 99) (q := 44) dX11_raises_41 rfl rfl (fun hc39 => ?_) (fun hc39 => ?_)
    · replace h := h.1 hc39
      refine g_iconst (q := 100) dX11_raises_99 ki_1 rfl ?_
      refine g_istore (lv' := [(0, .ref (eA E 35)), (1, .int v1), (2, .long v2), (4, .int 1)]) (q := 102) [1, 2, 3, 0] dX11_raises_100 (by decide) rfl rfl ?_
      obtain ⟨n1, h⟩ := h
      exact g_X11_raises_102 hE hz n1 _ _ _ _ h
    · replace h := h.2 hc39
      refine g_aloadn (k0 := 0) (q := 45) dX11_raises_44 rfl rfl rfl ?_
      refine g_get (v := .ref (eA E 59)) (q := 48) fg_X11_81_35 rfl dX11_raises_45 rfl ?_
      refine g_iload (k0 := 3) (q := 50) dX11_raises_48 rfl rfl ?_
      have hv32 := h.1
      replace h := h.2
      refine g_zald (v := (M.1 59 v4.toNatClampNeg)) (q := 51) ar_59 hv32 rfl dX11_raises_50 rfl ?_
      refine g_if_ne (tgt := 93) (q := 54) dX11_raises_51 rfl rfl (fun hc38 => ?_) (fun hc38 => ?_)
      · replace h := h.1 hc38
        refine g_iinc (lv' := [(0, .ref (eA E 35)), (1, .int v1), (2, .long v2), (4, .int (v4 + 1))]) (k0 := 3) (w := (v4 + 1)) (q := 96) [1, 2, 3, 0] dX11_raises_93 rfl rfl (by decide) rfl rfl ?_
        refine g_goto (tgt := 38) dX11_raises_96 rfl ?_
        exact ih _ _ _ _ h
      · replace h := h.2 hc38
        refine g_aloadn (k0 := 0) (q := 55) dX11_raises_54 rfl rfl rfl ?_
        refine g_get (v := .ref (eA E 53)) (q := 58) fg_X11_62_35 rfl dX11_raises_55 rfl ?_
        refine g_iload (k0 := 3) (q := 60) dX11_raises_58 rfl rfl ?_
        refine g_iald (v := (M.1 53 v4.toNatClampNeg)) (q := 61) ar_53 hv32 rfl dX11_raises_60 rfl ?_
        refine g_iconst (q := 62) dX11_raises_61 ki_m1 rfl ?_
        refine g_ic_eq (tgt := 68) (q := 65) dX11_raises_62 rfl rfl (fun hc37 => ?_) (fun hc37 => ?_)
        · replace h := h.1 hc37
          refine g_iconst (q := 69) dX11_raises_68 ki_0 rfl ?_
          refine g_istore (lv' := [(0, .ref (eA E 35)), (1, .int v1), (2, .long v2), (4, .int v4), (5, .int 0)]) (q := 71) [1, 2, 3, 4, 0] dX11_raises_69 (by decide) rfl rfl ?_
          obtain ⟨n1, h⟩ := h
          exact g_X11_raises_71 hE hz ih n1 _ _ _ _ _ h
        · replace h := h.2 hc37
          refine g_goto (tgt := 93) dX11_raises_65 rfl ?_
          refine g_iinc (lv' := [(0, .ref (eA E 35)), (1, .int v1), (2, .long v2), (4, .int (v4 + 1))]) (k0 := 3) (w := (v4 + 1)) (q := 96) [1, 2, 3, 0] dX11_raises_93 rfl rfl (by decide) rfl rfl ?_
          refine g_goto (tgt := 38) dX11_raises_96 rfl ?_
          exact ih _ _ _ _ h
set_option maxHeartbeats 4000000 in
set_option maxRecDepth 100000 in
theorem g_X11_raises_7 {x : GX} {E : EX} (hE : EH E) {Q : Int32 → Mem → Prop} (hz : ZI x E (fun r M => nb r ∧ Q r M)) : ∀ (n : Nat) (v1 : Int32) (v2 : Int64) (v4 : Int32) (M : Mem), P_Mo_raises_7 Q n v1 v2 v4 M → G x E mX11_raises 0 0 7 [(0, .ref (eA E 35)), (1, .int v1), (2, .long v2), (4, .int v4)] [] M := by
  intro n
  induction n with
  | zero => intro _ _ _ _ h; exact h.elim
  | succ n ih =>
    intro v1 v2 v4 M h
    unfold P_Mo_raises_7 at h
    refine g_iload (k0 := 3) (q := 9) dX11_raises_7 rfl rfl ?_
    refine g_iloadn (k0 := 1) (q := 10) dX11_raises_9 rfl rfl rfl ?_
    refine g_ic_ge (tgt := 35) (q := 13) dX11_raises_10 rfl rfl (fun hc42 => ?_) (fun hc42 => ?_)
    · replace h := h.1 hc42
      refine g_iconst (q := 36) dX11_raises_35 ki_0 rfl ?_
      refine g_istore (lv' := [(0, .ref (eA E 35)), (1, .int v1), (2, .long v2), (4, .int 0)]) (q := 38) [1, 2, 3, 0] dX11_raises_36 (by decide) rfl rfl ?_
      obtain ⟨n1, h⟩ := h
      exact g_X11_raises_38 hE hz n1 _ _ _ _ h
    · replace h := h.2 hc42
      refine g_aloadn (k0 := 0) (q := 14) dX11_raises_13 rfl rfl rfl ?_
      refine g_get (v := .ref (eA E 60)) (q := 17) fg_X11_84_35 rfl dX11_raises_14 rfl ?_
      refine g_iload (k0 := 3) (q := 19) dX11_raises_17 rfl rfl ?_
      refine g_lloadn (k0 := 2) (q := 20) dX11_raises_19 rfl rfl rfl ?_
      have hv41 := h.1
      replace h := h.2
      refine g_last (q := 21) ar_60 hv41 dX11_raises_20 rfl ?_
      refine g_aloadn (k0 := 0) (q := 22) dX11_raises_21 rfl rfl rfl ?_
      refine g_get (v := .ref (eA E 61)) (q := 25) fg_X11_87_35 rfl dX11_raises_22 rfl ?_
      refine g_iload (k0 := 3) (q := 27) dX11_raises_25 rfl rfl ?_
      refine g_iconst (q := 28) dX11_raises_27 ki_m1 rfl ?_
      refine g_iast (q := 29) ar_61 hv41 dX11_raises_28 rfl ?_
      refine g_iinc (lv' := [(0, .ref (eA E 35)), (1, .int v1), (2, .long v2), (4, .int (v4 + 1))]) (k0 := 3) (w := (v4 + 1)) (q := 32) [1, 2, 3, 0] dX11_raises_29 rfl rfl (by decide) rfl rfl ?_
      refine g_goto (tgt := 7) dX11_raises_32 rfl ?_
      exact ih _ _ _ _ h
set_option maxHeartbeats 4000000 in
set_option maxRecDepth 100000 in
theorem c_X11_raises {E : EX} (hE : EH E) {a1 : Int32} {M : Mem} {Q : Int32 → Mem → Prop} (h : P_Mo_raises a1 M Q) : CI yX11_raises cX11_raises 9 (some .boolean) rmX11_raises E [.ref (eA E 35), .int a1] M (fun r M => nb r ∧ Q r M) := by
  refine CI.of hE (plainFor_of_name (by decide)) (Nat.le_of_ble_eq_true rfl) (fun x hz => ?_)
  unfold P_Mo_raises at h
  show G x E mX11_raises 0 0 0 [(0, .ref (eA E 35)), (1, .int a1)] [] M
  refine g_ldc2 (q := 3) dX11_raises_0 wm_1132 rfl ?_
  refine g_lstoren (lv' := [(0, .ref (eA E 35)), (1, .int a1), (2, .long 2305843009213693951)]) (q := 4) [1, 2, 0] dX11_raises_3 rfl (by decide) rfl rfl ?_
  refine g_iconst (q := 5) dX11_raises_4 ki_0 rfl ?_
  refine g_istore (lv' := [(0, .ref (eA E 35)), (1, .int a1), (2, .long 2305843009213693951), (4, .int 0)]) (q := 7) [1, 2, 3, 0] dX11_raises_5 (by decide) rfl rfl ?_
  obtain ⟨n1, h⟩ := h
  exact g_X11_raises_7 hE hz n1 _ _ _ _ h
set_option maxHeartbeats 4000000 in
set_option maxRecDepth 100000 in
theorem g_X11_solve_133 {x : GX} {E : EX} (hE : EH E) {Q : Mem → Prop} (hz : ZU x E Q) : ∀ (n : Nat) (v1 : Int32) (v2 : Int32) (M : Mem), P_Mo_solve_133 Q n v1 v2 M → G x E mX11_solve 0 0 133 [(0, .ref (eA E 35)), (1, .int v1), (2, .int v2)] [] M := by
  intro n
  induction n with
  | zero => intro _ _ _ h; exact h.elim
  | succ n ih =>
    intro v1 v2 M h
    unfold P_Mo_solve_133 at h
    refine g_iloadn (k0 := 2) (q := 134) dX11_solve_133 rfl rfl rfl ?_
    refine g_if_eq (tgt := 146) (q := 137) dX11_solve_134 rfl rfl (fun hc3 => ?_) (fun hc3 => ?_)
    · replace h := h.1 hc3
      exact g_vret hz rfl dX11_solve_146 h
    · replace h := h.2 hc3
      refine g_aloadn (k0 := 0) (q := 138) dX11_solve_137 rfl rfl rfl ?_
      refine g_iloadn (k0 := 1) (q := 139) dX11_solve_138 rfl rfl rfl ?_
      refine g_calli (q := 142) [.int v1] [] cv_X11_218 rc_35 (c_X11_raises hE h) rfl rfl ⟨rfl, rfl, Nat.le_of_ble_eq_true rfl, Nat.le_of_ble_eq_true rfl, Nat.zero_le _, Nat.zero_le _⟩ (Nat.le_of_ble_eq_true rfl) dX11_solve_139 rfl (fun r2 M1 h => ?_)
      obtain ⟨hb_r2, h⟩ := h
      refine g_istoren (lv' := [(0, .ref (eA E 35)), (1, .int v1), (2, .int r2)]) (q := 143) [1, 2, 0] dX11_solve_142 rfl (by decide) rfl rfl ?_
      refine g_goto (tgt := 133) dX11_solve_143 rfl ?_
      exact ih _ _ _ h
set_option maxHeartbeats 4000000 in
set_option maxRecDepth 100000 in
theorem g_X11_solve_39 {x : GX} {E : EX} (hE : EH E) {Q : Mem → Prop} (hz : ZU x E Q) : ∀ (n : Nat) (v1 : Int32) (v2 : Int32) (M : Mem), P_Mo_solve_39 Q n v1 v2 M → G x E mX11_solve 0 0 39 [(0, .ref (eA E 35)), (1, .int v1), (2, .int v2)] [] M := by
  intro n
  induction n with
  | zero => intro _ _ _ h; exact h.elim
  | succ n ih =>
    intro v1 v2 M h
    unfold P_Mo_solve_39 at h
    refine g_iloadn (k0 := 2) (q := 40) dX11_solve_39 rfl rfl rfl ?_
    refine g_iloadn (k0 := 1) (q := 41) dX11_solve_40 rfl rfl rfl ?_
    refine g_ic_ge (tgt := 131) (q := 44) dX11_solve_41 rfl rfl (fun hc10 => ?_) (fun hc10 => ?_)
    · replace h := h.1 hc10
      refine g_iconst (q := 132) dX11_solve_131 ki_1 rfl ?_
      refine g_istoren (lv' := [(0, .ref (eA E 35)), (1, .int v1), (2, .int 1)]) (q := 133) [1, 2, 0] dX11_solve_132 rfl (by decide) rfl rfl ?_
      obtain ⟨n1, h⟩ := h
      exact g_X11_solve_133 hE hz n1 _ _ _ h
    · replace h := h.2 hc10
      refine g_aloadn (k0 := 0) (q := 45) dX11_solve_44 rfl rfl rfl ?_
      refine g_get (v := .ref (eA E 59)) (q := 48) fg_X11_81_35 rfl dX11_solve_45 rfl ?_
      refine g_iloadn (k0 := 2) (q := 49) dX11_solve_48 rfl rfl rfl ?_
      have hv5 := h.1
      replace h := h.2
      refine g_zald (v := (M.1 59 v2.toNatClampNeg)) (q := 50) ar_59 hv5 rfl dX11_solve_49 rfl ?_
      refine g_if_eq (tgt := 125) (q := 53) dX11_solve_50 rfl rfl (fun hc9 => ?_) (fun hc9 => ?_)
      · replace h := h.1 hc9
        refine g_iinc (lv' := [(0, .ref (eA E 35)), (1, .int v1), (2, .int (v2 + 1))]) (k0 := 2) (w := (v2 + 1)) (q := 128) [1, 2, 0] dX11_solve_125 rfl rfl (by decide) rfl rfl ?_
        refine g_goto (tgt := 39) dX11_solve_128 rfl ?_
        exact ih _ _ _ h
      · replace h := h.2 hc9
        refine g_aloadn (k0 := 0) (q := 54) dX11_solve_53 rfl rfl rfl ?_
        refine g_get (v := .ref (eA E 56)) (q := 57) fg_X11_71_35 rfl dX11_solve_54 rfl ?_
        refine g_iloadn (k0 := 2) (q := 58) dX11_solve_57 rfl rfl rfl ?_
        refine g_iald (v := (M.1 56 v2.toNatClampNeg)) (q := 59) ar_56 hv5 rfl dX11_solve_58 rfl ?_
        refine g_iconst (q := 60) dX11_solve_59 ki_m1 rfl ?_
        refine g_ic_ne (tgt := 66) (q := 63) dX11_solve_60 rfl rfl (fun hc8 => ?_) (fun hc8 => ?_)
        · replace h := h.1 hc8
          refine g_aloadn (k0 := 0) (q := 67) dX11_solve_66 rfl rfl rfl ?_
          refine g_get (v := .ref (eA E 53)) (q := 70) fg_X11_62_35 rfl dX11_solve_67 rfl ?_
          refine g_iloadn (k0 := 2) (q := 71) dX11_solve_70 rfl rfl rfl ?_
          refine g_aloadn (k0 := 0) (q := 72) dX11_solve_71 rfl rfl rfl ?_
          refine g_get (v := .ref (eA E 56)) (q := 75) fg_X11_71_35 rfl dX11_solve_72 rfl ?_
          refine g_iloadn (k0 := 2) (q := 76) dX11_solve_75 rfl rfl rfl ?_
          refine g_iald (v := (M.1 56 v2.toNatClampNeg)) (q := 77) ar_56 hv5 rfl dX11_solve_76 rfl ?_
          refine g_iast (q := 78) ar_53 hv5 dX11_solve_77 rfl ?_
          refine g_aloadn (k0 := 0) (q := 79) dX11_solve_78 rfl rfl rfl ?_
          refine g_get (v := .ref (eA E 54)) (q := 82) fg_X11_65_35 rfl dX11_solve_79 rfl ?_
          refine g_aloadn (k0 := 0) (q := 83) dX11_solve_82 rfl rfl rfl ?_
          refine g_get (v := .ref (eA E 56)) (q := 86) fg_X11_71_35 rfl dX11_solve_83 rfl ?_
          refine g_iloadn (k0 := 2) (q := 87) dX11_solve_86 rfl rfl rfl ?_
          refine g_iald (v := (M.1 56 v2.toNatClampNeg)) (q := 88) ar_56 hv5 rfl dX11_solve_87 rfl ?_
          refine g_iloadn (k0 := 2) (q := 89) dX11_solve_88 rfl rfl rfl ?_
          have hv6 := h.1
          replace h := h.2
          refine g_iast (q := 90) ar_54 hv6 dX11_solve_89 rfl ?_
          refine g_aloadn (k0 := 0) (q := 91) dX11_solve_90 rfl rfl rfl ?_
          refine g_dup (q := 92) dX11_solve_91 rfl rfl ?_
          refine g_get (v := .int (M.1 35 40)) (q := 95) fg_X11_215_35 rfl dX11_solve_92 rfl ?_
          refine g_iconst (q := 96) dX11_solve_95 ki_1 rfl ?_
          refine g_iadd (q := 97) dX11_solve_96 rfl ?_
          refine g_putI (q := 100) fp_X11_215_35 dX11_solve_97 rfl ?_
          refine g_aloadn (k0 := 0) (q := 101) dX11_solve_100 rfl rfl rfl ?_
          refine g_dup (q := 102) dX11_solve_101 rfl rfl ?_
          refine g_get (v := .long (M.2 35 39)) (q := 105) fg_X11_211_35 rfl dX11_solve_102 rfl ?_
          refine g_aloadn (k0 := 0) (q := 106) dX11_solve_105 rfl rfl rfl ?_
          refine g_get (v := .ref (eA E 57)) (q := 109) fg_X11_74_35 rfl dX11_solve_106 rfl ?_
          refine g_bipush (q := 111) dX11_solve_109 kb_16 rfl ?_
          refine g_iloadn (k0 := 2) (q := 112) dX11_solve_111 rfl rfl rfl ?_
          refine g_imul (q := 113) dX11_solve_112 rfl ?_
          refine g_aloadn (k0 := 0) (q := 114) dX11_solve_113 rfl rfl rfl ?_
          refine g_get (v := .ref (eA E 56)) (q := 117) fg_X11_71_35 rfl dX11_solve_114 rfl ?_
          refine g_iloadn (k0 := 2) (q := 118) dX11_solve_117 rfl rfl rfl ?_
          refine g_iald (v := (M.1 56 v2.toNatClampNeg)) (q := 119) ar_56 hv5 rfl dX11_solve_118 rfl ?_
          refine g_iadd (q := 120) dX11_solve_119 rfl ?_
          have hv7 := h.1
          replace h := h.2
          refine g_lald (v := (M.2 57 (((16 * v2) + (M.1 56 v2.toNatClampNeg))).toNatClampNeg)) (q := 121) ar_57 hv7 rfl dX11_solve_120 rfl ?_
          refine g_ladd (q := 122) dX11_solve_121 rfl ?_
          refine g_putL (q := 125) fp_X11_211_35 dX11_solve_122 rfl ?_
          refine g_iinc (lv' := [(0, .ref (eA E 35)), (1, .int v1), (2, .int (v2 + 1))]) (k0 := 2) (w := (v2 + 1)) (q := 128) [1, 2, 0] dX11_solve_125 rfl rfl (by decide) rfl rfl ?_
          refine g_goto (tgt := 39) dX11_solve_128 rfl ?_
          exact ih _ _ _ h
        · replace h := h.2 hc8
          refine g_goto (tgt := 125) dX11_solve_63 rfl ?_
          refine g_iinc (lv' := [(0, .ref (eA E 35)), (1, .int v1), (2, .int (v2 + 1))]) (k0 := 2) (w := (v2 + 1)) (q := 128) [1, 2, 0] dX11_solve_125 rfl rfl (by decide) rfl rfl ?_
          refine g_goto (tgt := 39) dX11_solve_128 rfl ?_
          exact ih _ _ _ h
set_option maxHeartbeats 4000000 in
set_option maxRecDepth 100000 in
theorem g_X11_solve_12 {x : GX} {E : EX} (hE : EH E) {Q : Mem → Prop} (hz : ZU x E Q) : ∀ (n : Nat) (v1 : Int32) (v2 : Int32) (M : Mem), P_Mo_solve_12 Q n v1 v2 M → G x E mX11_solve 0 0 12 [(0, .ref (eA E 35)), (1, .int v1), (2, .int v2)] [] M := by
  intro n
  induction n with
  | zero => intro _ _ _ h; exact h.elim
  | succ n ih =>
    intro v1 v2 M h
    unfold P_Mo_solve_12 at h
    refine g_iloadn (k0 := 2) (q := 13) dX11_solve_12 rfl rfl rfl ?_
    refine g_iloadn (k0 := 1) (q := 14) dX11_solve_13 rfl rfl rfl ?_
    refine g_ic_ge (tgt := 37) (q := 17) dX11_solve_14 rfl rfl (fun hc13 => ?_) (fun hc13 => ?_)
    · replace h := h.1 hc13
      refine g_iconst (q := 38) dX11_solve_37 ki_0 rfl ?_
      refine g_istoren (lv' := [(0, .ref (eA E 35)), (1, .int v1), (2, .int 0)]) (q := 39) [1, 2, 0] dX11_solve_38 rfl (by decide) rfl rfl ?_
      obtain ⟨n1, h⟩ := h
      exact g_X11_solve_39 hE hz n1 _ _ _ h
    · replace h := h.2 hc13
      refine g_aloadn (k0 := 0) (q := 18) dX11_solve_17 rfl rfl rfl ?_
      refine g_get (v := .ref (eA E 53)) (q := 21) fg_X11_62_35 rfl dX11_solve_18 rfl ?_
      refine g_iloadn (k0 := 2) (q := 22) dX11_solve_21 rfl rfl rfl ?_
      refine g_iconst (q := 23) dX11_solve_22 ki_m1 rfl ?_
      have hv12 := h.1
      replace h := h.2
      refine g_iast (q := 24) ar_53 hv12 dX11_solve_23 rfl ?_
      refine g_aloadn (k0 := 0) (q := 25) dX11_solve_24 rfl rfl rfl ?_
      refine g_get (v := .ref (eA E 54)) (q := 28) fg_X11_65_35 rfl dX11_solve_25 rfl ?_
      refine g_iloadn (k0 := 2) (q := 29) dX11_solve_28 rfl rfl rfl ?_
      refine g_iconst (q := 30) dX11_solve_29 ki_m1 rfl ?_
      refine g_iast (q := 31) ar_54 hv12 dX11_solve_30 rfl ?_
      refine g_iinc (lv' := [(0, .ref (eA E 35)), (1, .int v1), (2, .int (v2 + 1))]) (k0 := 2) (w := (v2 + 1)) (q := 34) [1, 2, 0] dX11_solve_31 rfl rfl (by decide) rfl rfl ?_
      refine g_goto (tgt := 12) dX11_solve_34 rfl ?_
      exact ih _ _ _ h
set_option maxHeartbeats 4000000 in
set_option maxRecDepth 100000 in
theorem c_X11_solve {E : EX} (hE : EH E) {a1 : Int32} {M : Mem} {Q : Mem → Prop} (h : P_Mo_solve a1 M Q) : CU yX11_solve cX11_solve 3 none rmX11_solve E [.ref (eA E 35), .int a1] M Q := by
  refine CU.of hE (plainFor_of_name (by decide)) (Nat.le_of_ble_eq_true rfl) (fun x hz => ?_)
  unfold P_Mo_solve at h
  show G x E mX11_solve 0 0 0 [(0, .ref (eA E 35)), (1, .int a1)] [] M
  refine g_aloadn (k0 := 0) (q := 1) dX11_solve_0 rfl rfl rfl ?_
  refine g_iconst (q := 2) dX11_solve_1 ki_0 rfl ?_
  refine g_putI (q := 5) fp_X11_215_35 dX11_solve_2 rfl ?_
  refine g_aloadn (k0 := 0) (q := 6) dX11_solve_5 rfl rfl rfl ?_
  refine g_lconst (q := 7) dX11_solve_6 kl_0 rfl ?_
  refine g_putL (q := 10) fp_X11_211_35 dX11_solve_7 rfl ?_
  refine g_iconst (q := 11) dX11_solve_10 ki_0 rfl ?_
  refine g_istoren (lv' := [(0, .ref (eA E 35)), (1, .int a1), (2, .int 0)]) (q := 12) [1, 2, 0] dX11_solve_11 rfl (by decide) rfl rfl ?_
  obtain ⟨n1, h⟩ := h
  exact g_X11_solve_12 hE hz n1 _ _ _ h
set_option maxHeartbeats 4000000 in
set_option maxRecDepth 100000 in
theorem g_X11_isFree_2 {x : GX} {E : EX} (hE : EH E) {Q : Int32 → Mem → Prop} (hz : ZI x E (fun r M => nb r ∧ Q r M)) : ∀ (n : Nat) (v1 : Int32) (v2 : Int32) (v3 : Int32) (M : Mem), P_Mo_isFree_2 Q n v1 v2 v3 M → G x E mX11_isFree 0 0 2 [(0, .ref (eA E 35)), (1, .int v1), (2, .int v2), (3, .int v3)] [] M := by
  intro n
  induction n with
  | zero => intro _ _ _ _ h; exact h.elim
  | succ n ih =>
    intro v1 v2 v3 M h
    unfold P_Mo_isFree_2 at h
    refine g_iloadn (k0 := 3) (q := 3) dX11_isFree_2 rfl rfl rfl ?_
    refine g_iloadn (k0 := 1) (q := 4) dX11_isFree_3 rfl rfl rfl ?_
    refine g_ic_ge (tgt := 25) (q := 7) dX11_isFree_4 rfl rfl (fun hc3 => ?_) (fun hc3 => ?_)
    · replace h := h.1 hc3
      refine g_iconst (q := 26) dX11_isFree_25 ki_1 rfl ?_
      exact g_zret hz rfl rfl dX11_isFree_26 h
    · replace h := h.2 hc3
      refine g_aloadn (k0 := 0) (q := 8) dX11_isFree_7 rfl rfl rfl ?_
      refine g_get (v := .ref (eA E 56)) (q := 11) fg_X11_71_35 rfl dX11_isFree_8 rfl ?_
      refine g_iloadn (k0 := 3) (q := 12) dX11_isFree_11 rfl rfl rfl ?_
      have hv1 := h.1
      replace h := h.2
      refine g_iald (v := (M.1 56 v3.toNatClampNeg)) (q := 13) ar_56 hv1 rfl dX11_isFree_12 rfl ?_
      refine g_iloadn (k0 := 2) (q := 14) dX11_isFree_13 rfl rfl rfl ?_
      refine g_ic_ne (tgt := 19) (q := 17) dX11_isFree_14 rfl rfl (fun hc2 => ?_) (fun hc2 => ?_)
      · replace h := h.1 hc2
        refine g_iinc (lv' := [(0, .ref (eA E 35)), (1, .int v1), (2, .int v2), (3, .int (v3 + 1))]) (k0 := 3) (w := (v3 + 1)) (q := 22) [1, 2, 3, 0] dX11_isFree_19 rfl rfl (by decide) rfl rfl ?_
        refine g_goto (tgt := 2) dX11_isFree_22 rfl ?_
        exact ih _ _ _ _ h
      · replace h := h.2 hc2
        refine g_iconst (q := 18) dX11_isFree_17 ki_0 rfl ?_
        exact g_zret hz rfl rfl dX11_isFree_18 h
set_option maxHeartbeats 4000000 in
set_option maxRecDepth 100000 in
theorem c_X11_isFree {E : EX} (hE : EH E) {a1 : Int32} {a2 : Int32} {M : Mem} {Q : Int32 → Mem → Prop} (h : P_Mo_isFree a1 a2 M Q) : CI yX11_isFree cX11_isFree 4 (some .boolean) rmX11_isFree E [.ref (eA E 35), .int a1, .int a2] M (fun r M => nb r ∧ Q r M) := by
  refine CI.of hE (plainFor_of_name (by decide)) (Nat.le_of_ble_eq_true rfl) (fun x hz => ?_)
  unfold P_Mo_isFree at h
  show G x E mX11_isFree 0 0 0 [(0, .ref (eA E 35)), (1, .int a1), (2, .int a2)] [] M
  refine g_iconst (q := 1) dX11_isFree_0 ki_0 rfl ?_
  refine g_istoren (lv' := [(0, .ref (eA E 35)), (1, .int a1), (2, .int a2), (3, .int 0)]) (q := 2) [1, 2, 3, 0] dX11_isFree_1 rfl (by decide) rfl rfl ?_
  obtain ⟨n1, h⟩ := h
  exact g_X11_isFree_2 hE hz n1 _ _ _ _ h
set_option maxHeartbeats 4000000 in
set_option maxRecDepth 100000 in
theorem c_X11_goesOn {E : EX} (hE : EH E) {a1 : Int32} {a2 : Int32} {M : Mem} {Q : Int32 → Mem → Prop} (h : P_Mo_goesOn a1 a2 M Q) : CI yX11_goesOn cX11_goesOn 3 (some .boolean) rmX11_goesOn E [.ref (eA E 35), .int a1, .int a2] M (fun r M => nb r ∧ Q r M) := by
  refine CI.of hE (plainFor_of_name (by decide)) (Nat.le_of_ble_eq_true rfl) (fun x hz => ?_)
  unfold P_Mo_goesOn at h
  show G x E mX11_goesOn 0 0 0 [(0, .ref (eA E 35)), (1, .int a1), (2, .int a2)] [] M
  refine g_aloadn (k0 := 0) (q := 1) dX11_goesOn_0 rfl rfl rfl ?_
  refine g_iloadn (k0 := 1) (q := 2) dX11_goesOn_1 rfl rfl rfl ?_
  refine g_callv (q := 5) [.int a1] [] cv_X11_228 rc_35 (c_X11_solve hE h) rfl rfl ⟨rfl, rfl, Nat.le_of_ble_eq_true rfl, Nat.le_of_ble_eq_true rfl, Nat.zero_le _, Nat.zero_le _⟩ (Nat.le_of_ble_eq_true rfl) dX11_goesOn_2 rfl (fun M1 h => ?_)
  refine g_aloadn (k0 := 0) (q := 6) dX11_goesOn_5 rfl rfl rfl ?_
  refine g_get (v := .int (M1.1 35 40)) (q := 9) fg_X11_215_35 rfl dX11_goesOn_6 rfl ?_
  refine g_iloadn (k0 := 2) (q := 10) dX11_goesOn_9 rfl rfl rfl ?_
  refine g_ic_ne (tgt := 29) (q := 13) dX11_goesOn_10 rfl rfl (fun hc3 => ?_) (fun hc3 => ?_)
  · replace h := h.1 hc3
    refine g_iconst (q := 30) dX11_goesOn_29 ki_0 rfl ?_
    exact g_zret hz rfl rfl dX11_goesOn_30 h
  · replace h := h.2 hc3
    refine g_aloadn (k0 := 0) (q := 14) dX11_goesOn_13 rfl rfl rfl ?_
    refine g_get (v := .long (M1.2 35 39)) (q := 17) fg_X11_211_35 rfl dX11_goesOn_14 rfl ?_
    refine g_aloadn (k0 := 0) (q := 18) dX11_goesOn_17 rfl rfl rfl ?_
    refine g_get (v := .long (M1.2 35 38)) (q := 21) fg_X11_231_35 rfl dX11_goesOn_18 rfl ?_
    refine g_lc_ne (tgt := 29) (q := 22) (q2 := 25) dX11_goesOn_21 rfl dX11_goesOn_22 rfl rfl (fun hc2 => ?_) (fun hc2 => ?_)
    · replace h := h.1 hc2
      refine g_iconst (q := 30) dX11_goesOn_29 ki_0 rfl ?_
      exact g_zret hz rfl rfl dX11_goesOn_30 h
    · replace h := h.2 hc2
      refine g_iconst (q := 26) dX11_goesOn_25 ki_1 rfl ?_
      refine g_goto (tgt := 30) dX11_goesOn_26 rfl ?_
      exact g_zret hz rfl rfl dX11_goesOn_30 h
set_option maxHeartbeats 4000000 in
set_option maxRecDepth 100000 in
theorem c_X11_isAhead {E : EX} (hE : EH E) {a1 : Int32} {a2 : Int32} {M : Mem} {Q : Int32 → Mem → Prop} (h : P_Mo_isAhead a1 a2 M Q) : CI yX11_isAhead cX11_isAhead 3 (some .boolean) rmX11_isAhead E [.ref (eA E 35), .int a1, .int a2] M (fun r M => nb r ∧ Q r M) := by
  refine CI.of hE (plainFor_of_name (by decide)) (Nat.le_of_ble_eq_true rfl) (fun x hz => ?_)
  unfold P_Mo_isAhead at h
  show G x E mX11_isAhead 0 0 0 [(0, .ref (eA E 35)), (1, .int a1), (2, .int a2)] [] M
  refine g_aloadn (k0 := 0) (q := 1) dX11_isAhead_0 rfl rfl rfl ?_
  refine g_get (v := .ref (eA E 41)) (q := 4) fg_X11_25_35 rfl dX11_isAhead_1 rfl ?_
  refine g_bipush (q := 6) dX11_isAhead_4 kb_8 rfl ?_
  refine g_iloadn (k0 := 1) (q := 7) dX11_isAhead_6 rfl rfl rfl ?_
  refine g_imul (q := 8) dX11_isAhead_7 rfl ?_
  refine g_iconst (q := 9) dX11_isAhead_8 ki_3 rfl ?_
  refine g_iadd (q := 10) dX11_isAhead_9 rfl ?_
  have hv1 := h.1
  replace h := h.2
  refine g_iald (v := (M.1 41 (((8 * a1) + 3)).toNatClampNeg)) (q := 11) ar_41 hv1 rfl dX11_isAhead_10 rfl ?_
  refine g_aloadn (k0 := 0) (q := 12) dX11_isAhead_11 rfl rfl rfl ?_
  refine g_get (v := .ref (eA E 41)) (q := 15) fg_X11_25_35 rfl dX11_isAhead_12 rfl ?_
  refine g_bipush (q := 17) dX11_isAhead_15 kb_8 rfl ?_
  refine g_iloadn (k0 := 2) (q := 18) dX11_isAhead_17 rfl rfl rfl ?_
  refine g_imul (q := 19) dX11_isAhead_18 rfl ?_
  refine g_iconst (q := 20) dX11_isAhead_19 ki_3 rfl ?_
  refine g_iadd (q := 21) dX11_isAhead_20 rfl ?_
  have hv2 := h.1
  replace h := h.2
  refine g_iald (v := (M.1 41 (((8 * a2) + 3)).toNatClampNeg)) (q := 22) ar_41 hv2 rfl dX11_isAhead_21 rfl ?_
  refine g_ic_eq (tgt := 56) (q := 25) dX11_isAhead_22 rfl rfl (fun hc13 => ?_) (fun hc13 => ?_)
  · replace h := h.1 hc13
    refine g_aloadn (k0 := 0) (q := 57) dX11_isAhead_56 rfl rfl rfl ?_
    refine g_get (v := .ref (eA E 41)) (q := 60) fg_X11_25_35 rfl dX11_isAhead_57 rfl ?_
    refine g_bipush (q := 62) dX11_isAhead_60 kb_8 rfl ?_
    refine g_iloadn (k0 := 1) (q := 63) dX11_isAhead_62 rfl rfl rfl ?_
    refine g_imul (q := 64) dX11_isAhead_63 rfl ?_
    refine g_iconst (q := 65) dX11_isAhead_64 ki_4 rfl ?_
    refine g_iadd (q := 66) dX11_isAhead_65 rfl ?_
    have hv3 := h.1
    replace h := h.2
    refine g_iald (v := (M.1 41 (((8 * a1) + 4)).toNatClampNeg)) (q := 67) ar_41 hv3 rfl dX11_isAhead_66 rfl ?_
    refine g_aloadn (k0 := 0) (q := 68) dX11_isAhead_67 rfl rfl rfl ?_
    refine g_get (v := .ref (eA E 41)) (q := 71) fg_X11_25_35 rfl dX11_isAhead_68 rfl ?_
    refine g_bipush (q := 73) dX11_isAhead_71 kb_8 rfl ?_
    refine g_iloadn (k0 := 2) (q := 74) dX11_isAhead_73 rfl rfl rfl ?_
    refine g_imul (q := 75) dX11_isAhead_74 rfl ?_
    refine g_iconst (q := 76) dX11_isAhead_75 ki_4 rfl ?_
    refine g_iadd (q := 77) dX11_isAhead_76 rfl ?_
    have hv4 := h.1
    replace h := h.2
    refine g_iald (v := (M.1 41 (((8 * a2) + 4)).toNatClampNeg)) (q := 78) ar_41 hv4 rfl dX11_isAhead_77 rfl ?_
    refine g_ic_eq (tgt := 112) (q := 81) dX11_isAhead_78 rfl rfl (fun hc11 => ?_) (fun hc11 => ?_)
    · replace h := h.1 hc11
      refine g_aloadn (k0 := 0) (q := 113) dX11_isAhead_112 rfl rfl rfl ?_
      refine g_get (v := .ref (eA E 41)) (q := 116) fg_X11_25_35 rfl dX11_isAhead_113 rfl ?_
      refine g_bipush (q := 118) dX11_isAhead_116 kb_8 rfl ?_
      refine g_iloadn (k0 := 1) (q := 119) dX11_isAhead_118 rfl rfl rfl ?_
      refine g_imul (q := 120) dX11_isAhead_119 rfl ?_
      refine g_iconst (q := 121) dX11_isAhead_120 ki_5 rfl ?_
      refine g_iadd (q := 122) dX11_isAhead_121 rfl ?_
      have hv5 := h.1
      replace h := h.2
      refine g_iald (v := (M.1 41 (((8 * a1) + 5)).toNatClampNeg)) (q := 123) ar_41 hv5 rfl dX11_isAhead_122 rfl ?_
      refine g_aloadn (k0 := 0) (q := 124) dX11_isAhead_123 rfl rfl rfl ?_
      refine g_get (v := .ref (eA E 41)) (q := 127) fg_X11_25_35 rfl dX11_isAhead_124 rfl ?_
      refine g_bipush (q := 129) dX11_isAhead_127 kb_8 rfl ?_
      refine g_iloadn (k0 := 2) (q := 130) dX11_isAhead_129 rfl rfl rfl ?_
      refine g_imul (q := 131) dX11_isAhead_130 rfl ?_
      refine g_iconst (q := 132) dX11_isAhead_131 ki_5 rfl ?_
      refine g_iadd (q := 133) dX11_isAhead_132 rfl ?_
      have hv6 := h.1
      replace h := h.2
      refine g_iald (v := (M.1 41 (((8 * a2) + 5)).toNatClampNeg)) (q := 134) ar_41 hv6 rfl dX11_isAhead_133 rfl ?_
      refine g_ic_eq (tgt := 170) (q := 137) dX11_isAhead_134 rfl rfl (fun hc9 => ?_) (fun hc9 => ?_)
      · replace h := h.1 hc9
        refine g_iloadn (k0 := 1) (q := 171) dX11_isAhead_170 rfl rfl rfl ?_
        refine g_iloadn (k0 := 2) (q := 172) dX11_isAhead_171 rfl rfl rfl ?_
        refine g_ic_ge (tgt := 179) (q := 175) dX11_isAhead_172 rfl rfl (fun hc7 => ?_) (fun hc7 => ?_)
        · replace h := h.1 hc7
          refine g_iconst (q := 180) dX11_isAhead_179 ki_0 rfl ?_
          exact g_zret hz rfl rfl dX11_isAhead_180 h
        · replace h := h.2 hc7
          refine g_iconst (q := 176) dX11_isAhead_175 ki_1 rfl ?_
          refine g_goto (tgt := 180) dX11_isAhead_176 rfl ?_
          exact g_zret hz rfl rfl dX11_isAhead_180 h
      · replace h := h.2 hc9
        refine g_aloadn (k0 := 0) (q := 138) dX11_isAhead_137 rfl rfl rfl ?_
        refine g_get (v := .ref (eA E 41)) (q := 141) fg_X11_25_35 rfl dX11_isAhead_138 rfl ?_
        refine g_bipush (q := 143) dX11_isAhead_141 kb_8 rfl ?_
        refine g_iloadn (k0 := 1) (q := 144) dX11_isAhead_143 rfl rfl rfl ?_
        refine g_imul (q := 145) dX11_isAhead_144 rfl ?_
        refine g_iconst (q := 146) dX11_isAhead_145 ki_5 rfl ?_
        refine g_iadd (q := 147) dX11_isAhead_146 rfl ?_
        refine g_iald (v := (M.1 41 (((8 * a1) + 5)).toNatClampNeg)) (q := 148) ar_41 hv5 rfl dX11_isAhead_147 rfl ?_
        refine g_aloadn (k0 := 0) (q := 149) dX11_isAhead_148 rfl rfl rfl ?_
        refine g_get (v := .ref (eA E 41)) (q := 152) fg_X11_25_35 rfl dX11_isAhead_149 rfl ?_
        refine g_bipush (q := 154) dX11_isAhead_152 kb_8 rfl ?_
        refine g_iloadn (k0 := 2) (q := 155) dX11_isAhead_154 rfl rfl rfl ?_
        refine g_imul (q := 156) dX11_isAhead_155 rfl ?_
        refine g_iconst (q := 157) dX11_isAhead_156 ki_5 rfl ?_
        refine g_iadd (q := 158) dX11_isAhead_157 rfl ?_
        refine g_iald (v := (M.1 41 (((8 * a2) + 5)).toNatClampNeg)) (q := 159) ar_41 hv6 rfl dX11_isAhead_158 rfl ?_
        refine g_ic_ge (tgt := 166) (q := 162) dX11_isAhead_159 rfl rfl (fun hc8 => ?_) (fun hc8 => ?_)
        · replace h := h.1 hc8
          refine g_iconst (q := 167) dX11_isAhead_166 ki_0 rfl ?_
          refine g_goto (tgt := 180) dX11_isAhead_167 rfl ?_
          exact g_zret hz rfl rfl dX11_isAhead_180 h
        · replace h := h.2 hc8
          refine g_iconst (q := 163) dX11_isAhead_162 ki_1 rfl ?_
          refine g_goto (tgt := 180) dX11_isAhead_163 rfl ?_
          exact g_zret hz rfl rfl dX11_isAhead_180 h
    · replace h := h.2 hc11
      refine g_aloadn (k0 := 0) (q := 82) dX11_isAhead_81 rfl rfl rfl ?_
      refine g_get (v := .ref (eA E 41)) (q := 85) fg_X11_25_35 rfl dX11_isAhead_82 rfl ?_
      refine g_bipush (q := 87) dX11_isAhead_85 kb_8 rfl ?_
      refine g_iloadn (k0 := 1) (q := 88) dX11_isAhead_87 rfl rfl rfl ?_
      refine g_imul (q := 89) dX11_isAhead_88 rfl ?_
      refine g_iconst (q := 90) dX11_isAhead_89 ki_4 rfl ?_
      refine g_iadd (q := 91) dX11_isAhead_90 rfl ?_
      refine g_iald (v := (M.1 41 (((8 * a1) + 4)).toNatClampNeg)) (q := 92) ar_41 hv3 rfl dX11_isAhead_91 rfl ?_
      refine g_aloadn (k0 := 0) (q := 93) dX11_isAhead_92 rfl rfl rfl ?_
      refine g_get (v := .ref (eA E 41)) (q := 96) fg_X11_25_35 rfl dX11_isAhead_93 rfl ?_
      refine g_bipush (q := 98) dX11_isAhead_96 kb_8 rfl ?_
      refine g_iloadn (k0 := 2) (q := 99) dX11_isAhead_98 rfl rfl rfl ?_
      refine g_imul (q := 100) dX11_isAhead_99 rfl ?_
      refine g_iconst (q := 101) dX11_isAhead_100 ki_4 rfl ?_
      refine g_iadd (q := 102) dX11_isAhead_101 rfl ?_
      refine g_iald (v := (M.1 41 (((8 * a2) + 4)).toNatClampNeg)) (q := 103) ar_41 hv4 rfl dX11_isAhead_102 rfl ?_
      refine g_ic_ge (tgt := 110) (q := 106) dX11_isAhead_103 rfl rfl (fun hc10 => ?_) (fun hc10 => ?_)
      · replace h := h.1 hc10
        refine g_iconst (q := 111) dX11_isAhead_110 ki_0 rfl ?_
        exact g_zret hz rfl rfl dX11_isAhead_111 h
      · replace h := h.2 hc10
        refine g_iconst (q := 107) dX11_isAhead_106 ki_1 rfl ?_
        refine g_goto (tgt := 111) dX11_isAhead_107 rfl ?_
        exact g_zret hz rfl rfl dX11_isAhead_111 h
  · replace h := h.2 hc13
    refine g_aloadn (k0 := 0) (q := 26) dX11_isAhead_25 rfl rfl rfl ?_
    refine g_get (v := .ref (eA E 41)) (q := 29) fg_X11_25_35 rfl dX11_isAhead_26 rfl ?_
    refine g_bipush (q := 31) dX11_isAhead_29 kb_8 rfl ?_
    refine g_iloadn (k0 := 1) (q := 32) dX11_isAhead_31 rfl rfl rfl ?_
    refine g_imul (q := 33) dX11_isAhead_32 rfl ?_
    refine g_iconst (q := 34) dX11_isAhead_33 ki_3 rfl ?_
    refine g_iadd (q := 35) dX11_isAhead_34 rfl ?_
    refine g_iald (v := (M.1 41 (((8 * a1) + 3)).toNatClampNeg)) (q := 36) ar_41 hv1 rfl dX11_isAhead_35 rfl ?_
    refine g_aloadn (k0 := 0) (q := 37) dX11_isAhead_36 rfl rfl rfl ?_
    refine g_get (v := .ref (eA E 41)) (q := 40) fg_X11_25_35 rfl dX11_isAhead_37 rfl ?_
    refine g_bipush (q := 42) dX11_isAhead_40 kb_8 rfl ?_
    refine g_iloadn (k0 := 2) (q := 43) dX11_isAhead_42 rfl rfl rfl ?_
    refine g_imul (q := 44) dX11_isAhead_43 rfl ?_
    refine g_iconst (q := 45) dX11_isAhead_44 ki_3 rfl ?_
    refine g_iadd (q := 46) dX11_isAhead_45 rfl ?_
    refine g_iald (v := (M.1 41 (((8 * a2) + 3)).toNatClampNeg)) (q := 47) ar_41 hv2 rfl dX11_isAhead_46 rfl ?_
    refine g_ic_ge (tgt := 54) (q := 50) dX11_isAhead_47 rfl rfl (fun hc12 => ?_) (fun hc12 => ?_)
    · replace h := h.1 hc12
      refine g_iconst (q := 55) dX11_isAhead_54 ki_0 rfl ?_
      exact g_zret hz rfl rfl dX11_isAhead_55 h
    · replace h := h.2 hc12
      refine g_iconst (q := 51) dX11_isAhead_50 ki_1 rfl ?_
      refine g_goto (tgt := 55) dX11_isAhead_51 rfl ?_
      exact g_zret hz rfl rfl dX11_isAhead_55 h
set_option maxHeartbeats 4000000 in
set_option maxRecDepth 100000 in
theorem g_X11_part_566 {x : GX} {E : EX} (hE : EH E) {Q : Int32 → Mem → Prop} (hz : ZI x E Q) {K526 : Int32 → Int32 → Int32 → Mem → Prop} (hK526 : ∀ (v3 : Int32) (v5 : Int32) (v6 : Int32) (M : Mem), K526 v3 v5 v6 M → G x E mX11_part 0 0 526 [(0, .ref (eA E 35)), (3, .int v3), (5, .int v5), (6, .int v6)] [] M) : ∀ (v3 : Int32) (v5 : Int32) (v6 : Int32) (s0 : Int32) (s1 : Int32) (M : Mem), P_Mo_part_566 K526 Q v3 v5 v6 s0 s1 M → G x E mX11_part 0 0 566 [(0, .ref (eA E 35)), (3, .int v3), (5, .int v5), (6, .int v6)] [.int s0, .int s1, .ref (eA E 55)] M := by
  intro v3 v5 v6 s0 s1 M h
  unfold P_Mo_part_566 at h
  have hv4 := h.1
  replace h := h.2
  refine g_iast (q := 567) ar_55 hv4 dX11_part_566 rfl ?_
  refine g_aloadn (k0 := 0) (q := 568) dX11_part_567 rfl rfl rfl ?_
  refine g_get (v := .ref (eA E 56)) (q := 571) fg_X11_71_35 rfl dX11_part_568 rfl ?_
  refine g_iload (k0 := 3) (q := 573) dX11_part_571 rfl rfl ?_
  have hv5 := h.1
  replace h := h.2
  refine g_iald (v := (M.1 56 v6.toNatClampNeg)) (q := 574) ar_56 hv5 rfl dX11_part_573 rfl ?_
  refine g_iconst (q := 575) dX11_part_574 ki_m1 rfl ?_
  refine g_ic_ne (tgt := 581) (q := 578) dX11_part_575 rfl rfl (fun hc6 => ?_) (fun hc6 => ?_)
  · replace h := h.1 hc6
    refine g_iinc (lv' := [(0, .ref (eA E 35)), (3, .int v3), (5, .int v5), (6, .int (v6 + 1))]) (k0 := 3) (w := (v6 + 1)) (q := 584) [1, 2, 3, 0] dX11_part_581 rfl rfl (by decide) rfl rfl ?_
    refine g_goto (tgt := 526) dX11_part_584 rfl ?_
    exact hK526 _ _ _ _ h
  · replace h := h.2 hc6
    refine g_iinc (lv' := [(0, .ref (eA E 35)), (3, .int v3), (5, .int (v5 + 1)), (6, .int v6)]) (k0 := 2) (w := (v5 + 1)) (q := 581) [1, 2, 0, 3] dX11_part_578 rfl rfl (by decide) rfl rfl ?_
    refine g_iinc (lv' := [(0, .ref (eA E 35)), (3, .int v3), (5, .int (v5 + 1)), (6, .int (v6 + 1))]) (k0 := 3) (w := (v6 + 1)) (q := 584) [1, 2, 3, 0] dX11_part_581 rfl rfl (by decide) rfl rfl ?_
    refine g_goto (tgt := 526) dX11_part_584 rfl ?_
    exact hK526 _ _ _ _ h
set_option maxHeartbeats 4000000 in
set_option maxRecDepth 100000 in
theorem g_X11_part_526 {x : GX} {E : EX} (hE : EH E) {Q : Int32 → Mem → Prop} (hz : ZI x E Q) : ∀ (n : Nat) (v3 : Int32) (v5 : Int32) (v6 : Int32) (M : Mem), P_Mo_part_526 Q n v3 v5 v6 M → G x E mX11_part 0 0 526 [(0, .ref (eA E 35)), (3, .int v3), (5, .int v5), (6, .int v6)] [] M := by
  intro n
  induction n with
  | zero => intro _ _ _ _ h; exact h.elim
  | succ n ih =>
    intro v3 v5 v6 M h
    unfold P_Mo_part_526 at h
    refine g_iload (k0 := 3) (q := 528) dX11_part_526 rfl rfl ?_
    refine g_iloadn (k0 := 1) (q := 529) dX11_part_528 rfl rfl rfl ?_
    refine g_ic_ge (tgt := 587) (q := 532) dX11_part_529 rfl rfl (fun hc8 => ?_) (fun hc8 => ?_)
    · replace h := h.1 hc8
      refine g_iload (k0 := 2) (q := 589) dX11_part_587 rfl rfl ?_
      exact g_iret hz rfl dX11_part_589 h
    · replace h := h.2 hc8
      refine g_aloadn (k0 := 0) (q := 533) dX11_part_532 rfl rfl rfl ?_
      refine g_get (v := .ref (eA E 55)) (q := 536) fg_X11_68_35 rfl dX11_part_533 rfl ?_
      refine g_iload (k0 := 3) (q := 538) dX11_part_536 rfl rfl ?_
      refine g_aloadn (k0 := 0) (q := 539) dX11_part_538 rfl rfl rfl ?_
      refine g_get (v := .ref (eA E 56)) (q := 542) fg_X11_71_35 rfl dX11_part_539 rfl ?_
      refine g_iload (k0 := 3) (q := 544) dX11_part_542 rfl rfl ?_
      have hv2 := h.1
      replace h := h.2
      refine g_iald (v := (M.1 56 v6.toNatClampNeg)) (q := 545) ar_56 hv2 rfl dX11_part_544 rfl ?_
      refine g_iconst (q := 546) dX11_part_545 ki_m1 rfl ?_
      refine g_ic_ne (tgt := 554) (q := 549) dX11_part_546 rfl rfl (fun hc7 => ?_) (fun hc7 => ?_)
      · replace h := h.1 hc7
        refine g_aloadn (k0 := 0) (q := 555) dX11_part_554 rfl rfl rfl ?_
        refine g_get (v := .ref (eA E 55)) (q := 558) fg_X11_68_35 rfl dX11_part_555 rfl ?_
        refine g_aloadn (k0 := 0) (q := 559) dX11_part_558 rfl rfl rfl ?_
        refine g_get (v := .ref (eA E 56)) (q := 562) fg_X11_71_35 rfl dX11_part_559 rfl ?_
        refine g_iload (k0 := 3) (q := 564) dX11_part_562 rfl rfl ?_
        refine g_iald (v := (M.1 56 v6.toNatClampNeg)) (q := 565) ar_56 hv2 rfl dX11_part_564 rfl ?_
        have hv3 := h.1
        replace h := h.2
        refine g_iald (v := (M.1 55 ((M.1 56 v6.toNatClampNeg)).toNatClampNeg)) (q := 566) ar_55 hv3 rfl dX11_part_565 rfl ?_
        exact g_X11_part_566 hE hz ih _ _ _ _ _ _ h
      · replace h := h.2 hc7
        refine g_iload (k0 := 2) (q := 551) dX11_part_549 rfl rfl ?_
        refine g_goto (tgt := 566) dX11_part_551 rfl ?_
        exact g_X11_part_566 hE hz ih _ _ _ _ _ _ h
set_option maxHeartbeats 4000000 in
set_option maxRecDepth 100000 in
theorem g_X11_part_501 {x : GX} {E : EX} (hE : EH E) {Q : Int32 → Mem → Prop} (hz : ZI x E Q) {K411 : Int32 → Int32 → Int32 → Mem → Prop} (hK411 : ∀ (v3 : Int32) (v4 : Int32) (v5 : Int32) (M : Mem), K411 v3 v4 v5 M → G x E mX11_part 0 0 411 [(0, .ref (eA E 35)), (3, .int v3), (4, .int v4), (5, .int v5)] [] M) : ∀ (v3 : Int32) (v4 : Int32) (v5 : Int32) (v6 : Int32) (M : Mem), P_Mo_part_501 K411 Q v3 v4 v5 v6 M → G x E mX11_part 0 0 501 [(0, .ref (eA E 35)), (3, .int v3), (4, .int v4), (5, .int v5), (6, .int v6)] [] M := by
  intro v3 v4 v5 v6 M h
  unfold P_Mo_part_501 at h
  refine g_iload (k0 := 4) (q := 503) dX11_part_501 rfl rfl ?_
  refine g_if_ne (tgt := 514) (q := 506) dX11_part_503 rfl rfl (fun hc12 => ?_) (fun hc12 => ?_)
  · replace h := h.1 hc12
    refine g_iinc (lv' := [(0, .ref (eA E 35)), (3, .int v3), (4, .int v4), (5, .int (v5 + 1)), (6, .int v6)]) (k0 := 3) (w := (v5 + 1)) (q := 517) [1, 2, 3, 0, 4] dX11_part_514 rfl rfl (by decide) rfl rfl ?_
    refine g_goto (tgt := 411) dX11_part_517 rfl ?_
    refine g_lv (lv' := [(0, .ref (eA E 35)), (3, .int v3), (4, .int v4), (5, .int (v5 + 1))]) [0, 1, 2, 3] rfl ?_
    exact hK411 _ _ _ _ h
  · replace h := h.2 hc12
    refine g_aloadn (k0 := 0) (q := 507) dX11_part_506 rfl rfl rfl ?_
    refine g_get (v := .ref (eA E 56)) (q := 510) fg_X11_71_35 rfl dX11_part_507 rfl ?_
    refine g_iload (k0 := 3) (q := 512) dX11_part_510 rfl rfl ?_
    refine g_iconst (q := 513) dX11_part_512 ki_m1 rfl ?_
    have hv11 := h.1
    replace h := h.2
    refine g_iast (q := 514) ar_56 hv11 dX11_part_513 rfl ?_
    refine g_iinc (lv' := [(0, .ref (eA E 35)), (3, .int v3), (4, .int v4), (5, .int (v5 + 1)), (6, .int v6)]) (k0 := 3) (w := (v5 + 1)) (q := 517) [1, 2, 3, 0, 4] dX11_part_514 rfl rfl (by decide) rfl rfl ?_
    refine g_goto (tgt := 411) dX11_part_517 rfl ?_
    refine g_lv (lv' := [(0, .ref (eA E 35)), (3, .int v3), (4, .int v4), (5, .int (v5 + 1))]) [0, 1, 2, 3] rfl ?_
    exact hK411 _ _ _ _ h
set_option maxHeartbeats 4000000 in
set_option maxRecDepth 100000 in
theorem g_X11_part_431 {x : GX} {E : EX} (hE : EH E) {Q : Int32 → Mem → Prop} (hz : ZI x E Q) {K411 : Int32 → Int32 → Int32 → Mem → Prop} (hK411 : ∀ (v3 : Int32) (v4 : Int32) (v5 : Int32) (M : Mem), K411 v3 v4 v5 M → G x E mX11_part 0 0 411 [(0, .ref (eA E 35)), (3, .int v3), (4, .int v4), (5, .int v5)] [] M) : ∀ (n : Nat) (v3 : Int32) (v4 : Int32) (v5 : Int32) (v6 : Int32) (v7 : Int32) (M : Mem), P_Mo_part_431 K411 Q n v3 v4 v5 v6 v7 M → G x E mX11_part 0 0 431 [(0, .ref (eA E 35)), (3, .int v3), (4, .int v4), (5, .int v5), (6, .int v6), (7, .int v7)] [] M := by
  intro n
  induction n with
  | zero => intro _ _ _ _ _ _ h; exact h.elim
  | succ n ih =>
    intro v3 v4 v5 v6 v7 M h
    unfold P_Mo_part_431 at h
    refine g_iload (k0 := 5) (q := 433) dX11_part_431 rfl rfl ?_
    refine g_iloadn (k0 := 1) (q := 434) dX11_part_433 rfl rfl rfl ?_
    refine g_ic_ge (tgt := 501) (q := 437) dX11_part_434 rfl rfl (fun hc23 => ?_) (fun hc23 => ?_)
    · replace h := h.1 hc23
      refine g_lv (lv' := [(0, .ref (eA E 35)), (3, .int v3), (4, .int v4), (5, .int v5), (6, .int v6)]) [0, 1, 2, 3, 4] rfl ?_
      exact g_X11_part_501 hE hz hK411 _ _ _ _ _ h
    · replace h := h.2 hc23
      refine g_iload (k0 := 4) (q := 439) dX11_part_437 rfl rfl ?_
      refine g_if_ne (tgt := 501) (q := 442) dX11_part_439 rfl rfl (fun hc22 => ?_) (fun hc22 => ?_)
      · replace h := h.1 hc22
        refine g_lv (lv' := [(0, .ref (eA E 35)), (3, .int v3), (4, .int v4), (5, .int v5), (6, .int v6)]) [0, 1, 2, 3, 4] rfl ?_
        exact g_X11_part_501 hE hz hK411 _ _ _ _ _ h
      · replace h := h.2 hc22
        refine g_aloadn (k0 := 0) (q := 443) dX11_part_442 rfl rfl rfl ?_
        refine g_get (v := .ref (eA E 56)) (q := 446) fg_X11_71_35 rfl dX11_part_443 rfl ?_
        refine g_iload (k0 := 3) (q := 448) dX11_part_446 rfl rfl ?_
        refine g_iload (k0 := 5) (q := 450) dX11_part_448 rfl rfl ?_
        have hv13 := h.1
        replace h := h.2
        refine g_iast (q := 451) ar_56 hv13 dX11_part_450 rfl ?_
        refine g_aloadn (k0 := 0) (q := 452) dX11_part_451 rfl rfl rfl ?_
        refine g_get (v := .ref (eA E 58)) (q := 455) fg_X11_78_35 rfl dX11_part_452 rfl ?_
        refine g_bipush (q := 457) dX11_part_455 kb_16 rfl ?_
        refine g_iload (k0 := 3) (q := 459) dX11_part_457 rfl rfl ?_
        refine g_imul (q := 460) dX11_part_459 rfl ?_
        refine g_iload (k0 := 5) (q := 462) dX11_part_460 rfl rfl ?_
        refine g_iadd (q := 463) dX11_part_462 rfl ?_
        have hv14 := h.1
        replace h := h.2
        refine g_zald (v := (M.1 58 (((16 * v5) + v7)).toNatClampNeg)) (q := 464) ar_58 hv14 rfl dX11_part_463 rfl ?_
        refine g_if_eq (tgt := 492) (q := 467) dX11_part_464 rfl rfl (fun hc21 => ?_) (fun hc21 => ?_)
        · replace h := h.1 hc21
          refine g_iconst (q := 493) dX11_part_492 ki_0 rfl ?_
          refine g_istore (lv' := [(0, .ref (eA E 35)), (3, .int v3), (4, .int v4), (5, .int v5), (6, .int 0), (7, .int v7)]) (q := 495) [1, 2, 3, 4, 0, 5] dX11_part_493 (by decide) rfl rfl ?_
          refine g_iinc (lv' := [(0, .ref (eA E 35)), (3, .int v3), (4, .int v4), (5, .int v5), (6, .int 0), (7, .int (v7 + 1))]) (k0 := 5) (w := (v7 + 1)) (q := 498) [1, 2, 3, 4, 5, 0] dX11_part_495 rfl rfl (by decide) rfl rfl ?_
          refine g_goto (tgt := 431) dX11_part_498 rfl ?_
          exact ih _ _ _ _ _ _ h
        · replace h := h.2 hc21
          refine g_aloadn (k0 := 0) (q := 468) dX11_part_467 rfl rfl rfl ?_
          refine g_iload (k0 := 3) (q := 470) dX11_part_468 rfl rfl ?_
          refine g_iload (k0 := 5) (q := 472) dX11_part_470 rfl rfl ?_
          refine g_calli (q := 475) [.int v5, .int v7] [] cv_X11_234 rc_35 (c_X11_isFree hE h) rfl rfl ⟨rfl, rfl, Nat.le_of_ble_eq_true rfl, Nat.le_of_ble_eq_true rfl, Nat.zero_le _, Nat.zero_le _⟩ (Nat.le_of_ble_eq_true rfl) dX11_part_472 rfl (fun r16 M15 h => ?_)
          obtain ⟨hb_r16, h⟩ := h
          refine g_if_eq (tgt := 492) (q := 478) dX11_part_475 rfl rfl (fun hc20 => ?_) (fun hc20 => ?_)
          · replace h := h.1 hc20
            refine g_iconst (q := 493) dX11_part_492 ki_0 rfl ?_
            refine g_istore (lv' := [(0, .ref (eA E 35)), (3, .int v3), (4, .int v4), (5, .int v5), (6, .int 0), (7, .int v7)]) (q := 495) [1, 2, 3, 4, 0, 5] dX11_part_493 (by decide) rfl rfl ?_
            refine g_iinc (lv' := [(0, .ref (eA E 35)), (3, .int v3), (4, .int v4), (5, .int v5), (6, .int 0), (7, .int (v7 + 1))]) (k0 := 5) (w := (v7 + 1)) (q := 498) [1, 2, 3, 4, 5, 0] dX11_part_495 rfl rfl (by decide) rfl rfl ?_
            refine g_goto (tgt := 431) dX11_part_498 rfl ?_
            exact ih _ _ _ _ _ _ h
          · replace h := h.2 hc20
            refine g_aloadn (k0 := 0) (q := 479) dX11_part_478 rfl rfl rfl ?_
            refine g_iloadn (k0 := 1) (q := 480) dX11_part_479 rfl rfl rfl ?_
            refine g_iload (k0 := 2) (q := 482) dX11_part_480 rfl rfl ?_
            refine g_calli (q := 485) [.int v3, .int v4] [] cv_X11_237 rc_35 (c_X11_goesOn hE h) rfl rfl ⟨rfl, rfl, Nat.le_of_ble_eq_true rfl, Nat.le_of_ble_eq_true rfl, Nat.zero_le _, Nat.zero_le _⟩ (Nat.le_of_ble_eq_true rfl) dX11_part_482 rfl (fun r18 M17 h => ?_)
            obtain ⟨hb_r18, h⟩ := h
            refine g_if_eq (tgt := 492) (q := 488) dX11_part_485 rfl rfl (fun hc19 => ?_) (fun hc19 => ?_)
            · replace h := h.1 hc19
              refine g_iconst (q := 493) dX11_part_492 ki_0 rfl ?_
              refine g_istore (lv' := [(0, .ref (eA E 35)), (3, .int v3), (4, .int v4), (5, .int v5), (6, .int 0), (7, .int v7)]) (q := 495) [1, 2, 3, 4, 0, 5] dX11_part_493 (by decide) rfl rfl ?_
              refine g_iinc (lv' := [(0, .ref (eA E 35)), (3, .int v3), (4, .int v4), (5, .int v5), (6, .int 0), (7, .int (v7 + 1))]) (k0 := 5) (w := (v7 + 1)) (q := 498) [1, 2, 3, 4, 5, 0] dX11_part_495 rfl rfl (by decide) rfl rfl ?_
              refine g_goto (tgt := 431) dX11_part_498 rfl ?_
              exact ih _ _ _ _ _ _ h
            · replace h := h.2 hc19
              refine g_iconst (q := 489) dX11_part_488 ki_1 rfl ?_
              refine g_goto (tgt := 493) dX11_part_489 rfl ?_
              refine g_istore (lv' := [(0, .ref (eA E 35)), (3, .int v3), (4, .int v4), (5, .int v5), (6, .int 1), (7, .int v7)]) (q := 495) [1, 2, 3, 4, 0, 5] dX11_part_493 (by decide) rfl rfl ?_
              refine g_iinc (lv' := [(0, .ref (eA E 35)), (3, .int v3), (4, .int v4), (5, .int v5), (6, .int 1), (7, .int (v7 + 1))]) (k0 := 5) (w := (v7 + 1)) (q := 498) [1, 2, 3, 4, 5, 0] dX11_part_495 rfl rfl (by decide) rfl rfl ?_
              refine g_goto (tgt := 431) dX11_part_498 rfl ?_
              exact ih _ _ _ _ _ _ h
set_option maxHeartbeats 4000000 in
set_option maxRecDepth 100000 in
theorem g_X11_part_411 {x : GX} {E : EX} (hE : EH E) {Q : Int32 → Mem → Prop} (hz : ZI x E Q) : ∀ (n : Nat) (v3 : Int32) (v4 : Int32) (v5 : Int32) (M : Mem), P_Mo_part_411 Q n v3 v4 v5 M → G x E mX11_part 0 0 411 [(0, .ref (eA E 35)), (3, .int v3), (4, .int v4), (5, .int v5)] [] M := by
  intro n
  induction n with
  | zero => intro _ _ _ _ h; exact h.elim
  | succ n ih =>
    intro v3 v4 v5 M h
    unfold P_Mo_part_411 at h
    refine g_iload (k0 := 3) (q := 413) dX11_part_411 rfl rfl ?_
    refine g_iloadn (k0 := 1) (q := 414) dX11_part_413 rfl rfl rfl ?_
    refine g_ic_ge (tgt := 520) (q := 417) dX11_part_414 rfl rfl (fun hc25 => ?_) (fun hc25 => ?_)
    · replace h := h.1 hc25
      refine g_iconst (q := 521) dX11_part_520 ki_0 rfl ?_
      refine g_istore (lv' := [(0, .ref (eA E 35)), (3, .int v3), (4, .int v4), (5, .int 0)]) (q := 523) [1, 2, 3, 0] dX11_part_521 (by decide) rfl rfl ?_
      refine g_iconst (q := 524) dX11_part_523 ki_0 rfl ?_
      refine g_istore (lv' := [(0, .ref (eA E 35)), (3, .int v3), (4, .int v4), (5, .int 0), (6, .int 0)]) (q := 526) [1, 2, 3, 4, 0] dX11_part_524 (by decide) rfl rfl ?_
      refine g_lv (lv' := [(0, .ref (eA E 35)), (3, .int v3), (5, .int 0), (6, .int 0)]) [0, 1, 3, 4] rfl ?_
      obtain ⟨n1, h⟩ := h
      exact g_X11_part_526 hE hz n1 _ _ _ _ h
    · replace h := h.2 hc25
      refine g_aloadn (k0 := 0) (q := 418) dX11_part_417 rfl rfl rfl ?_
      refine g_get (v := .ref (eA E 59)) (q := 421) fg_X11_81_35 rfl dX11_part_418 rfl ?_
      refine g_iload (k0 := 3) (q := 423) dX11_part_421 rfl rfl ?_
      refine g_iconst (q := 424) dX11_part_423 ki_1 rfl ?_
      have hv10 := h.1
      replace h := h.2
      refine g_zast (q := 425) ar_59 hv10 rfl dX11_part_424 rfl ?_
      refine g_iconst (q := 426) dX11_part_425 ki_0 rfl ?_
      refine g_istore (lv' := [(0, .ref (eA E 35)), (3, .int v3), (4, .int v4), (5, .int v5), (6, .int 0)]) (q := 428) [1, 2, 3, 4, 0] dX11_part_426 (by decide) rfl rfl ?_
      refine g_iconst (q := 429) dX11_part_428 ki_0 rfl ?_
      refine g_istore (lv' := [(0, .ref (eA E 35)), (3, .int v3), (4, .int v4), (5, .int v5), (6, .int 0), (7, .int 0)]) (q := 431) [1, 2, 3, 4, 5, 0] dX11_part_429 (by decide) rfl rfl ?_
      obtain ⟨n1, h⟩ := h
      exact g_X11_part_431 hE hz ih n1 _ _ _ _ _ _ h
set_option maxHeartbeats 4000000 in
set_option maxRecDepth 100000 in
theorem g_X11_part_180 {x : GX} {E : EX} (hE : EH E) {Q : Int32 → Mem → Prop} (hz : ZI x E Q) {K149 : Int32 → Int32 → Int32 → Mem → Prop} (hK149 : ∀ (v2 : Int32) (v3 : Int32) (v4 : Int32) (M : Mem), K149 v2 v3 v4 M → G x E mX11_part 0 0 149 [(0, .ref (eA E 35)), (2, .int v2), (3, .int v3), (4, .int v4)] [] M) : ∀ (n : Nat) (v2 : Int32) (v3 : Int32) (v4 : Int32) (v5 : Int32) (M : Mem), P_Mo_part_180 K149 Q n v2 v3 v4 v5 M → G x E mX11_part 0 0 180 [(0, .ref (eA E 35)), (2, .int v2), (3, .int v3), (4, .int v4), (5, .int v5)] [] M := by
  intro n
  induction n with
  | zero => intro _ _ _ _ _ h; exact h.elim
  | succ n ih =>
    intro v2 v3 v4 v5 M h
    unfold P_Mo_part_180 at h
    refine g_iload (k0 := 4) (q := 182) dX11_part_180 rfl rfl ?_
    refine g_iloadn (k0 := 2) (q := 183) dX11_part_182 rfl rfl rfl ?_
    refine g_ic_ge (tgt := 378) (q := 186) dX11_part_183 rfl rfl (fun hc39 => ?_) (fun hc39 => ?_)
    · replace h := h.1 hc39
      refine g_iinc (lv' := [(0, .ref (eA E 35)), (2, .int v2), (3, .int v3), (4, .int (v4 + 1)), (5, .int v5)]) (k0 := 3) (w := (v4 + 1)) (q := 381) [1, 2, 3, 0, 4] dX11_part_378 rfl rfl (by decide) rfl rfl ?_
      refine g_goto (tgt := 149) dX11_part_381 rfl ?_
      refine g_lv (lv' := [(0, .ref (eA E 35)), (2, .int v2), (3, .int v3), (4, .int (v4 + 1))]) [0, 1, 2, 3] rfl ?_
      exact hK149 _ _ _ _ h
    · replace h := h.2 hc39
      refine g_aloadn (k0 := 0) (q := 187) dX11_part_186 rfl rfl rfl ?_
      refine g_get (v := .ref (eA E 41)) (q := 190) fg_X11_25_35 rfl dX11_part_187 rfl ?_
      refine g_bipush (q := 192) dX11_part_190 kb_8 rfl ?_
      refine g_aloadn (k0 := 0) (q := 193) dX11_part_192 rfl rfl rfl ?_
      refine g_get (v := .ref (eA E 52)) (q := 196) fg_X11_59_35 rfl dX11_part_193 rfl ?_
      refine g_iload (k0 := 3) (q := 198) dX11_part_196 rfl rfl ?_
      have hv28 := h.1
      replace h := h.2
      refine g_iald (v := (M.1 52 v4.toNatClampNeg)) (q := 199) ar_52 hv28 rfl dX11_part_198 rfl ?_
      refine g_imul (q := 200) dX11_part_199 rfl ?_
      refine g_iconst (q := 201) dX11_part_200 ki_4 rfl ?_
      refine g_iadd (q := 202) dX11_part_201 rfl ?_
      have hv29 := h.1
      replace h := h.2
      refine g_iald (v := (M.1 41 (((8 * (M.1 52 v4.toNatClampNeg)) + 4)).toNatClampNeg)) (q := 203) ar_41 hv29 rfl dX11_part_202 rfl ?_
      refine g_aloadn (k0 := 0) (q := 204) dX11_part_203 rfl rfl rfl ?_
      refine g_get (v := .ref (eA E 41)) (q := 207) fg_X11_25_35 rfl dX11_part_204 rfl ?_
      refine g_bipush (q := 209) dX11_part_207 kb_8 rfl ?_
      refine g_aloadn (k0 := 0) (q := 210) dX11_part_209 rfl rfl rfl ?_
      refine g_get (v := .ref (eA E 52)) (q := 213) fg_X11_59_35 rfl dX11_part_210 rfl ?_
      refine g_iload (k0 := 4) (q := 215) dX11_part_213 rfl rfl ?_
      have hv30 := h.1
      replace h := h.2
      refine g_iald (v := (M.1 52 v5.toNatClampNeg)) (q := 216) ar_52 hv30 rfl dX11_part_215 rfl ?_
      refine g_imul (q := 217) dX11_part_216 rfl ?_
      refine g_iconst (q := 218) dX11_part_217 ki_4 rfl ?_
      refine g_iadd (q := 219) dX11_part_218 rfl ?_
      have hv31 := h.1
      replace h := h.2
      refine g_iald (v := (M.1 41 (((8 * (M.1 52 v5.toNatClampNeg)) + 4)).toNatClampNeg)) (q := 220) ar_41 hv31 rfl dX11_part_219 rfl ?_
      refine g_isub (q := 221) dX11_part_220 rfl ?_
      refine g_i2l (q := 222) dX11_part_221 rfl ?_
      refine g_lstore (lv' := [(0, .ref (eA E 35)), (2, .int v2), (3, .int v3), (4, .int v4), (5, .int v5), (6, .long (Int32.toInt64 ((M.1 41 (((8 * (M.1 52 v4.toNatClampNeg)) + 4)).toNatClampNeg) - (M.1 41 (((8 * (M.1 52 v5.toNatClampNeg)) + 4)).toNatClampNeg))))]) (q := 224) [1, 2, 3, 4, 5, 0] dX11_part_222 (by decide) rfl rfl ?_
      refine g_aloadn (k0 := 0) (q := 225) dX11_part_224 rfl rfl rfl ?_
      refine g_get (v := .ref (eA E 41)) (q := 228) fg_X11_25_35 rfl dX11_part_225 rfl ?_
      refine g_bipush (q := 230) dX11_part_228 kb_8 rfl ?_
      refine g_aloadn (k0 := 0) (q := 231) dX11_part_230 rfl rfl rfl ?_
      refine g_get (v := .ref (eA E 52)) (q := 234) fg_X11_59_35 rfl dX11_part_231 rfl ?_
      refine g_iload (k0 := 3) (q := 236) dX11_part_234 rfl rfl ?_
      refine g_iald (v := (M.1 52 v4.toNatClampNeg)) (q := 237) ar_52 hv28 rfl dX11_part_236 rfl ?_
      refine g_imul (q := 238) dX11_part_237 rfl ?_
      refine g_iconst (q := 239) dX11_part_238 ki_5 rfl ?_
      refine g_iadd (q := 240) dX11_part_239 rfl ?_
      have hv32 := h.1
      replace h := h.2
      refine g_iald (v := (M.1 41 (((8 * (M.1 52 v4.toNatClampNeg)) + 5)).toNatClampNeg)) (q := 241) ar_41 hv32 rfl dX11_part_240 rfl ?_
      refine g_aloadn (k0 := 0) (q := 242) dX11_part_241 rfl rfl rfl ?_
      refine g_get (v := .ref (eA E 41)) (q := 245) fg_X11_25_35 rfl dX11_part_242 rfl ?_
      refine g_bipush (q := 247) dX11_part_245 kb_8 rfl ?_
      refine g_aloadn (k0 := 0) (q := 248) dX11_part_247 rfl rfl rfl ?_
      refine g_get (v := .ref (eA E 52)) (q := 251) fg_X11_59_35 rfl dX11_part_248 rfl ?_
      refine g_iload (k0 := 4) (q := 253) dX11_part_251 rfl rfl ?_
      refine g_iald (v := (M.1 52 v5.toNatClampNeg)) (q := 254) ar_52 hv30 rfl dX11_part_253 rfl ?_
      refine g_imul (q := 255) dX11_part_254 rfl ?_
      refine g_iconst (q := 256) dX11_part_255 ki_5 rfl ?_
      refine g_iadd (q := 257) dX11_part_256 rfl ?_
      have hv33 := h.1
      replace h := h.2
      refine g_iald (v := (M.1 41 (((8 * (M.1 52 v5.toNatClampNeg)) + 5)).toNatClampNeg)) (q := 258) ar_41 hv33 rfl dX11_part_257 rfl ?_
      refine g_isub (q := 259) dX11_part_258 rfl ?_
      refine g_i2l (q := 260) dX11_part_259 rfl ?_
      refine g_lstore (lv' := [(0, .ref (eA E 35)), (2, .int v2), (3, .int v3), (4, .int v4), (5, .int v5), (6, .long (Int32.toInt64 ((M.1 41 (((8 * (M.1 52 v4.toNatClampNeg)) + 4)).toNatClampNeg) - (M.1 41 (((8 * (M.1 52 v5.toNatClampNeg)) + 4)).toNatClampNeg)))), (8, .long (Int32.toInt64 ((M.1 41 (((8 * (M.1 52 v4.toNatClampNeg)) + 5)).toNatClampNeg) - (M.1 41 (((8 * (M.1 52 v5.toNatClampNeg)) + 5)).toNatClampNeg))))]) (q := 262) [1, 2, 3, 4, 5, 6, 0] dX11_part_260 (by decide) rfl rfl ?_
      refine g_iloadn (k0 := 1) (q := 263) dX11_part_262 rfl rfl rfl ?_
      refine g_i2l (q := 264) dX11_part_263 rfl ?_
      refine g_aloadn (k0 := 0) (q := 265) dX11_part_264 rfl rfl rfl ?_
      refine g_get (v := .ref (eA E 41)) (q := 268) fg_X11_25_35 rfl dX11_part_265 rfl ?_
      refine g_bipush (q := 270) dX11_part_268 kb_8 rfl ?_
      refine g_aloadn (k0 := 0) (q := 271) dX11_part_270 rfl rfl rfl ?_
      refine g_get (v := .ref (eA E 52)) (q := 274) fg_X11_59_35 rfl dX11_part_271 rfl ?_
      refine g_iload (k0 := 3) (q := 276) dX11_part_274 rfl rfl ?_
      refine g_iald (v := (M.1 52 v4.toNatClampNeg)) (q := 277) ar_52 hv28 rfl dX11_part_276 rfl ?_
      refine g_imul (q := 278) dX11_part_277 rfl ?_
      refine g_iconst (q := 279) dX11_part_278 ki_3 rfl ?_
      refine g_iadd (q := 280) dX11_part_279 rfl ?_
      have hv34 := h.1
      replace h := h.2
      refine g_iald (v := (M.1 41 (((8 * (M.1 52 v4.toNatClampNeg)) + 3)).toNatClampNeg)) (q := 281) ar_41 hv34 rfl dX11_part_280 rfl ?_
      refine g_aloadn (k0 := 0) (q := 282) dX11_part_281 rfl rfl rfl ?_
      refine g_get (v := .ref (eA E 41)) (q := 285) fg_X11_25_35 rfl dX11_part_282 rfl ?_
      refine g_bipush (q := 287) dX11_part_285 kb_8 rfl ?_
      refine g_aloadn (k0 := 0) (q := 288) dX11_part_287 rfl rfl rfl ?_
      refine g_get (v := .ref (eA E 52)) (q := 291) fg_X11_59_35 rfl dX11_part_288 rfl ?_
      refine g_iload (k0 := 4) (q := 293) dX11_part_291 rfl rfl ?_
      refine g_iald (v := (M.1 52 v5.toNatClampNeg)) (q := 294) ar_52 hv30 rfl dX11_part_293 rfl ?_
      refine g_imul (q := 295) dX11_part_294 rfl ?_
      refine g_iconst (q := 296) dX11_part_295 ki_3 rfl ?_
      refine g_iadd (q := 297) dX11_part_296 rfl ?_
      have hv35 := h.1
      replace h := h.2
      refine g_iald (v := (M.1 41 (((8 * (M.1 52 v5.toNatClampNeg)) + 3)).toNatClampNeg)) (q := 298) ar_41 hv35 rfl dX11_part_297 rfl ?_
      refine g_isub (q := 299) dX11_part_298 rfl ?_
      refine g_i2l (q := 300) dX11_part_299 rfl ?_
      refine g_lmul (q := 301) dX11_part_300 rfl ?_
      refine g_lstore (lv' := [(0, .ref (eA E 35)), (2, .int v2), (3, .int v3), (4, .int v4), (5, .int v5), (6, .long (Int32.toInt64 ((M.1 41 (((8 * (M.1 52 v4.toNatClampNeg)) + 4)).toNatClampNeg) - (M.1 41 (((8 * (M.1 52 v5.toNatClampNeg)) + 4)).toNatClampNeg)))), (8, .long (Int32.toInt64 ((M.1 41 (((8 * (M.1 52 v4.toNatClampNeg)) + 5)).toNatClampNeg) - (M.1 41 (((8 * (M.1 52 v5.toNatClampNeg)) + 5)).toNatClampNeg)))), (10, .long ((Int32.toInt64 v2) * (Int32.toInt64 ((M.1 41 (((8 * (M.1 52 v4.toNatClampNeg)) + 3)).toNatClampNeg) - (M.1 41 (((8 * (M.1 52 v5.toNatClampNeg)) + 3)).toNatClampNeg)))))]) (q := 303) [1, 2, 3, 4, 5, 6, 7, 0] dX11_part_301 (by decide) rfl rfl ?_
      refine g_aloadn (k0 := 0) (q := 304) dX11_part_303 rfl rfl rfl ?_
      refine g_get (v := .ref (eA E 57)) (q := 307) fg_X11_74_35 rfl dX11_part_304 rfl ?_
      refine g_bipush (q := 309) dX11_part_307 kb_16 rfl ?_
      refine g_iload (k0 := 3) (q := 311) dX11_part_309 rfl rfl ?_
      refine g_imul (q := 312) dX11_part_311 rfl ?_
      refine g_iload (k0 := 4) (q := 314) dX11_part_312 rfl rfl ?_
      refine g_iadd (q := 315) dX11_part_314 rfl ?_
      refine g_lload (k0 := 5) (q := 317) dX11_part_315 rfl rfl ?_
      refine g_lload (k0 := 5) (q := 319) dX11_part_317 rfl rfl ?_
      refine g_lmul (q := 320) dX11_part_319 rfl ?_
      refine g_lload (k0 := 6) (q := 322) dX11_part_320 rfl rfl ?_
      refine g_lload (k0 := 6) (q := 324) dX11_part_322 rfl rfl ?_
      refine g_lmul (q := 325) dX11_part_324 rfl ?_
      refine g_ladd (q := 326) dX11_part_325 rfl ?_
      have hv36 := h.1
      replace h := h.2
      refine g_last (q := 327) ar_57 hv36 dX11_part_326 rfl ?_
      refine g_aloadn (k0 := 0) (q := 328) dX11_part_327 rfl rfl rfl ?_
      refine g_get (v := .ref (eA E 58)) (q := 331) fg_X11_78_35 rfl dX11_part_328 rfl ?_
      refine g_bipush (q := 333) dX11_part_331 kb_16 rfl ?_
      refine g_iload (k0 := 3) (q := 335) dX11_part_333 rfl rfl ?_
      refine g_imul (q := 336) dX11_part_335 rfl ?_
      refine g_iload (k0 := 4) (q := 338) dX11_part_336 rfl rfl ?_
      refine g_iadd (q := 339) dX11_part_338 rfl ?_
      refine g_lload (k0 := 7) (q := 341) dX11_part_339 rfl rfl ?_
      refine g_lconst (q := 342) dX11_part_341 kl_0 rfl ?_
      refine g_lc_le (tgt := 370) (q := 343) (q2 := 346) dX11_part_342 rfl dX11_part_343 rfl rfl (fun hc38 => ?_) (fun hc38 => ?_)
      · replace h := h.1 hc38
        refine g_iconst (q := 371) dX11_part_370 ki_0 rfl ?_
        refine g_zast (q := 372) ar_58 hv36 rfl dX11_part_371 rfl ?_
        refine g_iinc (lv' := [(0, .ref (eA E 35)), (2, .int v2), (3, .int v3), (4, .int v4), (5, .int (v5 + 1)), (6, .long (Int32.toInt64 ((M.1 41 (((8 * (M.1 52 v4.toNatClampNeg)) + 4)).toNatClampNeg) - (M.1 41 (((8 * (M.1 52 v5.toNatClampNeg)) + 4)).toNatClampNeg)))), (8, .long (Int32.toInt64 ((M.1 41 (((8 * (M.1 52 v4.toNatClampNeg)) + 5)).toNatClampNeg) - (M.1 41 (((8 * (M.1 52 v5.toNatClampNeg)) + 5)).toNatClampNeg)))), (10, .long ((Int32.toInt64 v2) * (Int32.toInt64 ((M.1 41 (((8 * (M.1 52 v4.toNatClampNeg)) + 3)).toNatClampNeg) - (M.1 41 (((8 * (M.1 52 v5.toNatClampNeg)) + 3)).toNatClampNeg)))))]) (k0 := 4) (w := (v5 + 1)) (q := 375) [1, 2, 3, 4, 0, 5, 6, 7] dX11_part_372 rfl rfl (by decide) rfl rfl ?_
        refine g_goto (tgt := 180) dX11_part_375 rfl ?_
        refine g_lv (lv' := [(0, .ref (eA E 35)), (2, .int v2), (3, .int v3), (4, .int v4), (5, .int (v5 + 1))]) [0, 1, 2, 3, 4] rfl ?_
        exact ih _ _ _ _ _ h
      · replace h := h.2 hc38
        refine g_lload (k0 := 5) (q := 348) dX11_part_346 rfl rfl ?_
        refine g_lload (k0 := 5) (q := 350) dX11_part_348 rfl rfl ?_
        refine g_lmul (q := 351) dX11_part_350 rfl ?_
        refine g_lload (k0 := 6) (q := 353) dX11_part_351 rfl rfl ?_
        refine g_lload (k0 := 6) (q := 355) dX11_part_353 rfl rfl ?_
        refine g_lmul (q := 356) dX11_part_355 rfl ?_
        refine g_ladd (q := 357) dX11_part_356 rfl ?_
        refine g_lload (k0 := 7) (q := 359) dX11_part_357 rfl rfl ?_
        refine g_lload (k0 := 7) (q := 361) dX11_part_359 rfl rfl ?_
        refine g_lmul (q := 362) dX11_part_361 rfl ?_
        refine g_lc_gt (tgt := 370) (q := 363) (q2 := 366) dX11_part_362 rfl dX11_part_363 rfl rfl (fun hc37 => ?_) (fun hc37 => ?_)
        · replace h := h.1 hc37
          refine g_iconst (q := 371) dX11_part_370 ki_0 rfl ?_
          refine g_zast (q := 372) ar_58 hv36 rfl dX11_part_371 rfl ?_
          refine g_iinc (lv' := [(0, .ref (eA E 35)), (2, .int v2), (3, .int v3), (4, .int v4), (5, .int (v5 + 1)), (6, .long (Int32.toInt64 ((M.1 41 (((8 * (M.1 52 v4.toNatClampNeg)) + 4)).toNatClampNeg) - (M.1 41 (((8 * (M.1 52 v5.toNatClampNeg)) + 4)).toNatClampNeg)))), (8, .long (Int32.toInt64 ((M.1 41 (((8 * (M.1 52 v4.toNatClampNeg)) + 5)).toNatClampNeg) - (M.1 41 (((8 * (M.1 52 v5.toNatClampNeg)) + 5)).toNatClampNeg)))), (10, .long ((Int32.toInt64 v2) * (Int32.toInt64 ((M.1 41 (((8 * (M.1 52 v4.toNatClampNeg)) + 3)).toNatClampNeg) - (M.1 41 (((8 * (M.1 52 v5.toNatClampNeg)) + 3)).toNatClampNeg)))))]) (k0 := 4) (w := (v5 + 1)) (q := 375) [1, 2, 3, 4, 0, 5, 6, 7] dX11_part_372 rfl rfl (by decide) rfl rfl ?_
          refine g_goto (tgt := 180) dX11_part_375 rfl ?_
          refine g_lv (lv' := [(0, .ref (eA E 35)), (2, .int v2), (3, .int v3), (4, .int v4), (5, .int (v5 + 1))]) [0, 1, 2, 3, 4] rfl ?_
          exact ih _ _ _ _ _ h
        · replace h := h.2 hc37
          refine g_iconst (q := 367) dX11_part_366 ki_1 rfl ?_
          refine g_goto (tgt := 371) dX11_part_367 rfl ?_
          refine g_zast (q := 372) ar_58 hv36 rfl dX11_part_371 rfl ?_
          refine g_iinc (lv' := [(0, .ref (eA E 35)), (2, .int v2), (3, .int v3), (4, .int v4), (5, .int (v5 + 1)), (6, .long (Int32.toInt64 ((M.1 41 (((8 * (M.1 52 v4.toNatClampNeg)) + 4)).toNatClampNeg) - (M.1 41 (((8 * (M.1 52 v5.toNatClampNeg)) + 4)).toNatClampNeg)))), (8, .long (Int32.toInt64 ((M.1 41 (((8 * (M.1 52 v4.toNatClampNeg)) + 5)).toNatClampNeg) - (M.1 41 (((8 * (M.1 52 v5.toNatClampNeg)) + 5)).toNatClampNeg)))), (10, .long ((Int32.toInt64 v2) * (Int32.toInt64 ((M.1 41 (((8 * (M.1 52 v4.toNatClampNeg)) + 3)).toNatClampNeg) - (M.1 41 (((8 * (M.1 52 v5.toNatClampNeg)) + 3)).toNatClampNeg)))))]) (k0 := 4) (w := (v5 + 1)) (q := 375) [1, 2, 3, 4, 0, 5, 6, 7] dX11_part_372 rfl rfl (by decide) rfl rfl ?_
          refine g_goto (tgt := 180) dX11_part_375 rfl ?_
          refine g_lv (lv' := [(0, .ref (eA E 35)), (2, .int v2), (3, .int v3), (4, .int v4), (5, .int (v5 + 1))]) [0, 1, 2, 3, 4] rfl ?_
          exact ih _ _ _ _ _ h
set_option maxHeartbeats 4000000 in
set_option maxRecDepth 100000 in
theorem g_X11_part_149 {x : GX} {E : EX} (hE : EH E) {Q : Int32 → Mem → Prop} (hz : ZI x E Q) : ∀ (n : Nat) (v2 : Int32) (v3 : Int32) (v4 : Int32) (M : Mem), P_Mo_part_149 Q n v2 v3 v4 M → G x E mX11_part 0 0 149 [(0, .ref (eA E 35)), (2, .int v2), (3, .int v3), (4, .int v4)] [] M := by
  intro n
  induction n with
  | zero => intro _ _ _ _ h; exact h.elim
  | succ n ih =>
    intro v2 v3 v4 M h
    unfold P_Mo_part_149 at h
    refine g_iload (k0 := 3) (q := 151) dX11_part_149 rfl rfl ?_
    refine g_iloadn (k0 := 2) (q := 152) dX11_part_151 rfl rfl rfl ?_
    refine g_ic_ge (tgt := 384) (q := 155) dX11_part_152 rfl rfl (fun hc41 => ?_) (fun hc41 => ?_)
    · replace h := h.1 hc41
      refine g_aloadn (k0 := 0) (q := 385) dX11_part_384 rfl rfl rfl ?_
      refine g_iloadn (k0 := 2) (q := 386) dX11_part_385 rfl rfl rfl ?_
      refine g_putI (q := 389) fp_X11_225_35 dX11_part_386 rfl ?_
      refine g_aloadn (k0 := 0) (q := 390) dX11_part_389 rfl rfl rfl ?_
      refine g_iloadn (k0 := 2) (q := 391) dX11_part_390 rfl rfl rfl ?_
      refine g_callv (q := 394) [.int v3] [] cv_X11_228 rc_35 (c_X11_solve hE h) rfl rfl ⟨rfl, rfl, Nat.le_of_ble_eq_true rfl, Nat.le_of_ble_eq_true rfl, Nat.zero_le _, Nat.zero_le _⟩ (Nat.le_of_ble_eq_true rfl) dX11_part_391 rfl (fun M1 h => ?_)
      refine g_aloadn (k0 := 0) (q := 395) dX11_part_394 rfl rfl rfl ?_
      refine g_get (v := .int (M1.1 35 40)) (q := 398) fg_X11_215_35 rfl dX11_part_395 rfl ?_
      refine g_istore (lv' := [(0, .ref (eA E 35)), (2, .int v2), (3, .int v3), (4, .int (M1.1 35 40))]) (q := 400) [1, 2, 3, 0] dX11_part_398 (by decide) rfl rfl ?_
      refine g_aloadn (k0 := 0) (q := 401) dX11_part_400 rfl rfl rfl ?_
      refine g_aloadn (k0 := 0) (q := 402) dX11_part_401 rfl rfl rfl ?_
      refine g_get (v := .long (M1.2 35 39)) (q := 405) fg_X11_211_35 rfl dX11_part_402 rfl ?_
      refine g_putL (q := 408) fp_X11_231_35 dX11_part_405 rfl ?_
      refine g_iconst (q := 409) dX11_part_408 ki_0 rfl ?_
      refine g_istore (lv' := [(0, .ref (eA E 35)), (2, .int v2), (3, .int v3), (4, .int (M1.1 35 40)), (5, .int 0)]) (q := 411) [1, 2, 3, 4, 0] dX11_part_409 (by decide) rfl rfl ?_
      refine g_lv (lv' := [(0, .ref (eA E 35)), (3, .int v3), (4, .int (M1.1 35 40)), (5, .int 0)]) [0, 2, 3, 4] rfl ?_
      obtain ⟨n1, h⟩ := h
      exact g_X11_part_411 hE hz n1 _ _ _ _ h
    · replace h := h.2 hc41
      refine g_aloadn (k0 := 0) (q := 156) dX11_part_155 rfl rfl rfl ?_
      refine g_get (v := .ref (eA E 51)) (q := 159) fg_X11_56_35 rfl dX11_part_156 rfl ?_
      refine g_iload (k0 := 3) (q := 161) dX11_part_159 rfl rfl ?_
      refine g_aloadn (k0 := 0) (q := 162) dX11_part_161 rfl rfl rfl ?_
      refine g_get (v := .ref (eA E 52)) (q := 165) fg_X11_59_35 rfl dX11_part_162 rfl ?_
      refine g_iload (k0 := 3) (q := 167) dX11_part_165 rfl rfl ?_
      have hv27 := h.1
      replace h := h.2
      refine g_iald (v := (M.1 52 v4.toNatClampNeg)) (q := 168) ar_52 hv27 rfl dX11_part_167 rfl ?_
      refine g_iast (q := 169) ar_51 hv27 dX11_part_168 rfl ?_
      refine g_aloadn (k0 := 0) (q := 170) dX11_part_169 rfl rfl rfl ?_
      refine g_get (v := .ref (eA E 59)) (q := 173) fg_X11_81_35 rfl dX11_part_170 rfl ?_
      refine g_iload (k0 := 3) (q := 175) dX11_part_173 rfl rfl ?_
      refine g_iconst (q := 176) dX11_part_175 ki_0 rfl ?_
      refine g_zast (q := 177) ar_59 hv27 rfl dX11_part_176 rfl ?_
      refine g_iconst (q := 178) dX11_part_177 ki_0 rfl ?_
      refine g_istore (lv' := [(0, .ref (eA E 35)), (2, .int v2), (3, .int v3), (4, .int v4), (5, .int 0)]) (q := 180) [1, 2, 3, 4, 0] dX11_part_178 (by decide) rfl rfl ?_
      obtain ⟨n1, h⟩ := h
      exact g_X11_part_180 hE hz ih n1 _ _ _ _ _ h
set_option maxHeartbeats 4000000 in
set_option maxRecDepth 100000 in
theorem g_X11_part_122 {x : GX} {E : EX} (hE : EH E) {Q : Int32 → Mem → Prop} (hz : ZI x E Q) {K24 : Int32 → Int32 → Int32 → Int32 → Mem → Prop} (hK24 : ∀ (v1 : Int32) (v2 : Int32) (v3 : Int32) (v4 : Int32) (M : Mem), K24 v1 v2 v3 v4 M → G x E mX11_part 0 0 24 [(0, .ref (eA E 35)), (1, .int v1), (2, .int v2), (3, .int v3), (4, .int v4)] [] M) : ∀ (v1 : Int32) (v2 : Int32) (v3 : Int32) (v4 : Int32) (v5 : Int32) (M : Mem), P_Mo_part_122 K24 Q v1 v2 v3 v4 v5 M → G x E mX11_part 0 0 122 [(0, .ref (eA E 35)), (1, .int v1), (2, .int v2), (3, .int v3), (4, .int v4), (5, .int v5)] [] M := by
  intro v1 v2 v3 v4 v5 M h
  unfold P_Mo_part_122 at h
  refine g_aloadn (k0 := 0) (q := 123) dX11_part_122 rfl rfl rfl ?_
  refine g_get (v := .ref (eA E 52)) (q := 126) fg_X11_59_35 rfl dX11_part_123 rfl ?_
  refine g_iload (k0 := 5) (q := 128) dX11_part_126 rfl rfl ?_
  refine g_iload (k0 := 4) (q := 130) dX11_part_128 rfl rfl ?_
  have hv46 := h.1
  replace h := h.2
  refine g_iast (q := 131) ar_52 hv46 dX11_part_130 rfl ?_
  refine g_iinc (lv' := [(0, .ref (eA E 35)), (1, .int v1), (2, .int v2), (3, .int (v3 + 1)), (4, .int v4), (5, .int v5)]) (k0 := 3) (w := (v3 + 1)) (q := 134) [1, 2, 3, 0, 4, 5] dX11_part_131 rfl rfl (by decide) rfl rfl ?_
  refine g_iinc (lv' := [(0, .ref (eA E 35)), (1, .int v1), (2, .int v2), (3, .int (v3 + 1)), (4, .int (v4 + 1)), (5, .int v5)]) (k0 := 4) (w := (v4 + 1)) (q := 137) [1, 2, 3, 4, 0, 5] dX11_part_134 rfl rfl (by decide) rfl rfl ?_
  refine g_goto (tgt := 24) dX11_part_137 rfl ?_
  refine g_lv (lv' := [(0, .ref (eA E 35)), (1, .int v1), (2, .int v2), (3, .int (v3 + 1)), (4, .int (v4 + 1))]) [0, 1, 2, 3, 4] rfl ?_
  exact hK24 _ _ _ _ _ h
