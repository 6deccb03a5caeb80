set_option maxHeartbeats 4000000 in
set_option maxRecDepth 100000 in
theorem g_X11_fields_3 {x : GX} {E : EX} (hE : EH E) {Q : Int32 → Mem → Prop} (hz : ZI x E (fun r M => nb r ∧ Q r M)) : ∀ (n : Nat) (v1 : Int32) (v2 : Int32) (v3 : Int32) (v4 : Int32) (M : Mem), P_Mo_fields_3 Q n v1 v2 v3 v4 M → G x E mX11_fields 0 0 3 [(0, .ref (eA E 35)), (1, .int v1), (2, .int v2), (3, .int v3), (4, .int v4)] [] M := by
  intro n
  induction n with
  | zero => intro _ _ _ _ _ h; exact h.elim
  | succ n ih =>
    intro v1 v2 v3 v4 M h
    unfold P_Mo_fields_3 at h
    refine g_iload (k0 := 4) (q := 5) dX11_fields_3 rfl rfl ?_
    refine g_iconst (q := 6) dX11_fields_5 ki_4 rfl ?_
    refine g_ic_ge (tgt := 23) (q := 9) dX11_fields_6 rfl rfl (fun hc76 => ?_) (fun hc76 => ?_)
    · replace h := h.1 hc76
      refine g_iloadn (k0 := 1) (q := 24) dX11_fields_23 rfl rfl rfl ?_
      by_cases hc22 : v1 = 1
      · replace h := h.1 hc22
        refine g_tin (tgt := 60) 1 (by rw [hc22]; decide) dX11_fields_24 (by decide) (by decide) rfl rfl ?_
        refine g_iloadn (k0 := 3) (q := 61) dX11_fields_60 rfl rfl rfl ?_
        refine g_bipush (q := 63) dX11_fields_61 kb_48 rfl ?_
        refine g_ic_eq (tgt := 68) (q := 66) dX11_fields_63 rfl rfl (fun hc21 => ?_) (fun hc21 => ?_)
        · replace h := h.1 hc21
          refine g_aloadn (k0 := 0) (q := 69) dX11_fields_68 rfl rfl rfl ?_
          refine g_get (v := .ref (eA E 43)) (q := 72) fg_X11_32_35 rfl dX11_fields_69 rfl ?_
          refine g_iconst (q := 73) dX11_fields_72 ki_0 rfl ?_
          refine g_aloadn (k0 := 0) (q := 74) dX11_fields_73 rfl rfl rfl ?_
          refine g_iloadn (k0 := 2) (q := 75) dX11_fields_74 rfl rfl rfl ?_
          refine g_bipush (q := 77) dX11_fields_75 kb_16 rfl ?_
          refine g_calli (q := 80) [.int v2, .int 16] [.int 0, .ref (eA E 43)] cv_X11_123 rc_35 (c_X11_read hE h) rfl rfl ⟨rfl, rfl, Nat.le_of_ble_eq_true rfl, Nat.le_of_ble_eq_true rfl, Nat.zero_le _, Nat.zero_le _⟩ (Nat.le_of_ble_eq_true rfl) dX11_fields_77 rfl (fun r2 M1 h => ?_)
          refine g_bipush (q := 82) dX11_fields_80 kb_16 rfl ?_
          refine g_scalli (q := 85) [.int r2, .int 16] [.int 0, .ref (eA E 43)] cs_X11_137 (c_X11_signed hE h) rfl rfl ⟨rfl, rfl, Nat.le_of_ble_eq_true rfl, Nat.le_of_ble_eq_true rfl, Nat.zero_le _, Nat.zero_le _⟩ (Nat.le_of_ble_eq_true rfl) dX11_fields_82 rfl (fun r4 M3 h => ?_)
          have hv5 := h.1
          replace h := h.2
          refine g_iast (q := 86) ar_43 hv5 dX11_fields_85 rfl ?_
          refine g_aloadn (k0 := 0) (q := 87) dX11_fields_86 rfl rfl rfl ?_
          refine g_get (v := .ref (eA E 43)) (q := 90) fg_X11_32_35 rfl dX11_fields_87 rfl ?_
          refine g_iconst (q := 91) dX11_fields_90 ki_1 rfl ?_
          refine g_aloadn (k0 := 0) (q := 92) dX11_fields_91 rfl rfl rfl ?_
          refine g_iloadn (k0 := 2) (q := 93) dX11_fields_92 rfl rfl rfl ?_
          refine g_bipush (q := 95) dX11_fields_93 kb_16 rfl ?_
          refine g_iadd (q := 96) dX11_fields_95 rfl ?_
          refine g_bipush (q := 98) dX11_fields_96 kb_16 rfl ?_
          refine g_calli (q := 101) [.int (v2 + 16), .int 16] [.int 1, .ref (eA E 43)] cv_X11_123 rc_35 (c_X11_read hE h) rfl rfl ⟨rfl, rfl, Nat.le_of_ble_eq_true rfl, Nat.le_of_ble_eq_true rfl, Nat.zero_le _, Nat.zero_le _⟩ (Nat.le_of_ble_eq_true rfl) dX11_fields_98 rfl (fun r7 M6 h => ?_)
          refine g_bipush (q := 103) dX11_fields_101 kb_16 rfl ?_
          refine g_scalli (q := 106) [.int r7, .int 16] [.int 1, .ref (eA E 43)] cs_X11_137 (c_X11_signed hE h) rfl rfl ⟨rfl, rfl, Nat.le_of_ble_eq_true rfl, Nat.le_of_ble_eq_true rfl, Nat.zero_le _, Nat.zero_le _⟩ (Nat.le_of_ble_eq_true rfl) dX11_fields_103 rfl (fun r9 M8 h => ?_)
          have hv10 := h.1
          replace h := h.2
          refine g_iast (q := 107) ar_43 hv10 dX11_fields_106 rfl ?_
          refine g_aloadn (k0 := 0) (q := 108) dX11_fields_107 rfl rfl rfl ?_
          refine g_get (v := .ref (eA E 43)) (q := 111) fg_X11_32_35 rfl dX11_fields_108 rfl ?_
          refine g_iconst (q := 112) dX11_fields_111 ki_2 rfl ?_
          refine g_aloadn (k0 := 0) (q := 113) dX11_fields_112 rfl rfl rfl ?_
          refine g_iloadn (k0 := 2) (q := 114) dX11_fields_113 rfl rfl rfl ?_
          refine g_bipush (q := 116) dX11_fields_114 kb_32 rfl ?_
          refine g_iadd (q := 117) dX11_fields_116 rfl ?_
          refine g_bipush (q := 119) dX11_fields_117 kb_8 rfl ?_
          refine g_calli (q := 122) [.int (v2 + 32), .int 8] [.int 2, .ref (eA E 43)] cv_X11_123 rc_35 (c_X11_read hE h) rfl rfl ⟨rfl, rfl, Nat.le_of_ble_eq_true rfl, Nat.le_of_ble_eq_true rfl, Nat.zero_le _, Nat.zero_le _⟩ (Nat.le_of_ble_eq_true rfl) dX11_fields_119 rfl (fun r12 M11 h => ?_)
          refine g_bipush (q := 124) dX11_fields_122 kb_8 rfl ?_
          refine g_scalli (q := 127) [.int r12, .int 8] [.int 2, .ref (eA E 43)] cs_X11_137 (c_X11_signed hE h) rfl rfl ⟨rfl, rfl, Nat.le_of_ble_eq_true rfl, Nat.le_of_ble_eq_true rfl, Nat.zero_le _, Nat.zero_le _⟩ (Nat.le_of_ble_eq_true rfl) dX11_fields_124 rfl (fun r14 M13 h => ?_)
          have hv15 := h.1
          replace h := h.2
          refine g_iast (q := 128) ar_43 hv15 dX11_fields_127 rfl ?_
          refine g_aloadn (k0 := 0) (q := 129) dX11_fields_128 rfl rfl rfl ?_
          refine g_get (v := .ref (eA E 43)) (q := 132) fg_X11_32_35 rfl dX11_fields_129 rfl ?_
          refine g_iconst (q := 133) dX11_fields_132 ki_3 rfl ?_
          refine g_aloadn (k0 := 0) (q := 134) dX11_fields_133 rfl rfl rfl ?_
          refine g_iloadn (k0 := 2) (q := 135) dX11_fields_134 rfl rfl rfl ?_
          refine g_bipush (q := 137) dX11_fields_135 kb_40 rfl ?_
          refine g_iadd (q := 138) dX11_fields_137 rfl ?_
          refine g_bipush (q := 140) dX11_fields_138 kb_8 rfl ?_
          refine g_calli (q := 143) [.int (v2 + 40), .int 8] [.int 3, .ref (eA E 43)] cv_X11_123 rc_35 (c_X11_read hE h) rfl rfl ⟨rfl, rfl, Nat.le_of_ble_eq_true rfl, Nat.le_of_ble_eq_true rfl, Nat.zero_le _, Nat.zero_le _⟩ (Nat.le_of_ble_eq_true rfl) dX11_fields_140 rfl (fun r17 M16 h => ?_)
          refine g_bipush (q := 145) dX11_fields_143 kb_8 rfl ?_
          refine g_scalli (q := 148) [.int r17, .int 8] [.int 3, .ref (eA E 43)] cs_X11_137 (c_X11_signed hE h) rfl rfl ⟨rfl, rfl, Nat.le_of_ble_eq_true rfl, Nat.le_of_ble_eq_true rfl, Nat.zero_le _, Nat.zero_le _⟩ (Nat.le_of_ble_eq_true rfl) dX11_fields_145 rfl (fun r19 M18 h => ?_)
          have hv20 := h.1
          replace h := h.2
          refine g_iast (q := 149) ar_43 hv20 dX11_fields_148 rfl ?_
          refine g_iconst (q := 150) dX11_fields_149 ki_1 rfl ?_
          exact g_zret hz rfl rfl dX11_fields_150 h
        · replace h := h.2 hc21
          refine g_iconst (q := 67) dX11_fields_66 ki_0 rfl ?_
          exact g_zret hz rfl rfl dX11_fields_67 h
      replace h := h.2
      by_cases hc39 : v1 = 2
      · replace h := h.1 hc39
        refine g_tin (tgt := 151) 2 (by rw [hc39]; decide) dX11_fields_24 (by decide) (by decide) rfl rfl ?_
        refine g_iloadn (k0 := 3) (q := 152) dX11_fields_151 rfl rfl rfl ?_
        refine g_bipush (q := 154) dX11_fields_152 kb_38 rfl ?_
        refine g_ic_eq (tgt := 159) (q := 157) dX11_fields_154 rfl rfl (fun hc38 => ?_) (fun hc38 => ?_)
        · replace h := h.1 hc38
          refine g_aloadn (k0 := 0) (q := 160) dX11_fields_159 rfl rfl rfl ?_
          refine g_get (v := .ref (eA E 43)) (q := 163) fg_X11_32_35 rfl dX11_fields_160 rfl ?_
          refine g_iconst (q := 164) dX11_fields_163 ki_0 rfl ?_
          refine g_aloadn (k0 := 0) (q := 165) dX11_fields_164 rfl rfl rfl ?_
          refine g_iloadn (k0 := 2) (q := 166) dX11_fields_165 rfl rfl rfl ?_
          refine g_bipush (q := 168) dX11_fields_166 kb_15 rfl ?_
          refine g_calli (q := 171) [.int v2, .int 15] [.int 0, .ref (eA E 43)] cv_X11_123 rc_35 (c_X11_read hE h) rfl rfl ⟨rfl, rfl, Nat.le_of_ble_eq_true rfl, Nat.le_of_ble_eq_true rfl, Nat.zero_le _, Nat.zero_le _⟩ (Nat.le_of_ble_eq_true rfl) dX11_fields_168 rfl (fun r24 M23 h => ?_)
          have hv25 := h.1
          replace h := h.2
          refine g_iast (q := 172) ar_43 hv25 dX11_fields_171 rfl ?_
          refine g_aloadn (k0 := 0) (q := 173) dX11_fields_172 rfl rfl rfl ?_
          refine g_get (v := .ref (eA E 43)) (q := 176) fg_X11_32_35 rfl dX11_fields_173 rfl ?_
          refine g_iconst (q := 177) dX11_fields_176 ki_1 rfl ?_
          refine g_aloadn (k0 := 0) (q := 178) dX11_fields_177 rfl rfl rfl ?_
          refine g_iloadn (k0 := 2) (q := 179) dX11_fields_178 rfl rfl rfl ?_
          refine g_bipush (q := 181) dX11_fields_179 kb_15 rfl ?_
          refine g_iadd (q := 182) dX11_fields_181 rfl ?_
          refine g_bipush (q := 184) dX11_fields_182 kb_15 rfl ?_
          refine g_calli (q := 187) [.int (v2 + 15), .int 15] [.int 1, .ref (eA E 43)] cv_X11_123 rc_35 (c_X11_read hE h) rfl rfl ⟨rfl, rfl, Nat.le_of_ble_eq_true rfl, Nat.le_of_ble_eq_true rfl, Nat.zero_le _, Nat.zero_le _⟩ (Nat.le_of_ble_eq_true rfl) dX11_fields_184 rfl (fun r27 M26 h => ?_)
          have hv28 := h.1
          replace h := h.2
          refine g_iast (q := 188) ar_43 hv28 dX11_fields_187 rfl ?_
          refine g_aloadn (k0 := 0) (q := 189) dX11_fields_188 rfl rfl rfl ?_
          refine g_get (v := .ref (eA E 43)) (q := 192) fg_X11_32_35 rfl dX11_fields_189 rfl ?_
          refine g_iconst (q := 193) dX11_fields_192 ki_2 rfl ?_
          refine g_aloadn (k0 := 0) (q := 194) dX11_fields_193 rfl rfl rfl ?_
          refine g_iloadn (k0 := 2) (q := 195) dX11_fields_194 rfl rfl rfl ?_
          refine g_bipush (q := 197) dX11_fields_195 kb_30 rfl ?_
          refine g_iadd (q := 198) dX11_fields_197 rfl ?_
          refine g_bipush (q := 200) dX11_fields_198 kb_8 rfl ?_
          refine g_calli (q := 203) [.int (v2 + 30), .int 8] [.int 2, .ref (eA E 43)] cv_X11_123 rc_35 (c_X11_read hE h) rfl rfl ⟨rfl, rfl, Nat.le_of_ble_eq_true rfl, Nat.le_of_ble_eq_true rfl, Nat.zero_le _, Nat.zero_le _⟩ (Nat.le_of_ble_eq_true rfl) dX11_fields_200 rfl (fun r30 M29 h => ?_)
          have hv31 := h.1
          replace h := h.2
          refine g_iast (q := 204) ar_43 hv31 dX11_fields_203 rfl ?_
          refine g_aloadn (k0 := 0) (q := 205) dX11_fields_204 rfl rfl rfl ?_
          refine g_get (v := .ref (eA E 43)) (q := 208) fg_X11_32_35 rfl dX11_fields_205 rfl ?_
          refine g_iconst (q := 209) dX11_fields_208 ki_0 rfl ?_
          refine g_iald (v := ((putI M29 43 2 r30).1 43 0)) (q := 210) ar_43 hv25 rfl dX11_fields_209 rfl ?_
          refine g_iconst (q := 211) dX11_fields_210 ki_3 rfl ?_
          refine g_scalli (q := 214) [.int ((putI M29 43 2 r30).1 43 0), .int 3] [] cs_X11_140 (c_X11_areLetters hE h) rfl rfl ⟨rfl, rfl, Nat.le_of_ble_eq_true rfl, Nat.le_of_ble_eq_true rfl, Nat.zero_le _, Nat.zero_le _⟩ (Nat.le_of_ble_eq_true rfl) dX11_fields_211 rfl (fun r33 M32 h => ?_)
          obtain ⟨hb_r33, h⟩ := h
          refine g_if_eq (tgt := 234) (q := 217) dX11_fields_214 rfl rfl (fun hc37 => ?_) (fun hc37 => ?_)
          · replace h := h.1 hc37
            refine g_iconst (q := 235) dX11_fields_234 ki_0 rfl ?_
            exact g_zret hz rfl rfl dX11_fields_235 h
          · replace h := h.2 hc37
            refine g_aloadn (k0 := 0) (q := 218) dX11_fields_217 rfl rfl rfl ?_
            refine g_get (v := .ref (eA E 43)) (q := 221) fg_X11_32_35 rfl dX11_fields_218 rfl ?_
            refine g_iconst (q := 222) dX11_fields_221 ki_1 rfl ?_
            refine g_iald (v := (M32.1 43 1)) (q := 223) ar_43 hv28 rfl dX11_fields_222 rfl ?_
            refine g_iconst (q := 224) dX11_fields_223 ki_3 rfl ?_
            refine g_scalli (q := 227) [.int (M32.1 43 1), .int 3] [] cs_X11_140 (c_X11_areLetters hE h) rfl rfl ⟨rfl, rfl, Nat.le_of_ble_eq_true rfl, Nat.le_of_ble_eq_true rfl, Nat.zero_le _, Nat.zero_le _⟩ (Nat.le_of_ble_eq_true rfl) dX11_fields_224 rfl (fun r35 M34 h => ?_)
            obtain ⟨hb_r35, h⟩ := h
            refine g_if_eq (tgt := 234) (q := 230) dX11_fields_227 rfl rfl (fun hc36 => ?_) (fun hc36 => ?_)
            · replace h := h.1 hc36
              refine g_iconst (q := 235) dX11_fields_234 ki_0 rfl ?_
              exact g_zret hz rfl rfl dX11_fields_235 h
            · replace h := h.2 hc36
              refine g_iconst (q := 231) dX11_fields_230 ki_1 rfl ?_
              refine g_goto (tgt := 235) dX11_fields_231 rfl ?_
              exact g_zret hz rfl rfl dX11_fields_235 h
        · replace h := h.2 hc38
          refine g_iconst (q := 158) dX11_fields_157 ki_0 rfl ?_
          exact g_zret hz rfl rfl dX11_fields_158 h
      replace h := h.2
      by_cases hc44 : v1 = 3
      · replace h := h.1 hc44
        refine g_tin (tgt := 236) 3 (by rw [hc44]; decide) dX11_fields_24 (by decide) (by decide) rfl rfl ?_
        refine g_iloadn (k0 := 3) (q := 237) dX11_fields_236 rfl rfl rfl ?_
        refine g_bipush (q := 239) dX11_fields_237 kb_31 rfl ?_
        refine g_ic_eq (tgt := 244) (q := 242) dX11_fields_239 rfl rfl (fun hc43 => ?_) (fun hc43 => ?_)
        · replace h := h.1 hc43
          refine g_aloadn (k0 := 0) (q := 245) dX11_fields_244 rfl rfl rfl ?_
          refine g_get (v := .ref (eA E 43)) (q := 248) fg_X11_32_35 rfl dX11_fields_245 rfl ?_
          refine g_iconst (q := 249) dX11_fields_248 ki_0 rfl ?_
          refine g_aloadn (k0 := 0) (q := 250) dX11_fields_249 rfl rfl rfl ?_
          refine g_iloadn (k0 := 2) (q := 251) dX11_fields_250 rfl rfl rfl ?_
          refine g_bipush (q := 253) dX11_fields_251 kb_31 rfl ?_
          refine g_calli (q := 256) [.int v2, .int 31] [.int 0, .ref (eA E 43)] cv_X11_123 rc_35 (c_X11_read hE h) rfl rfl ⟨rfl, rfl, Nat.le_of_ble_eq_true rfl, Nat.le_of_ble_eq_true rfl, Nat.zero_le _, Nat.zero_le _⟩ (Nat.le_of_ble_eq_true rfl) dX11_fields_253 rfl (fun r41 M40 h => ?_)
          have hv42 := h.1
          replace h := h.2
          refine g_iast (q := 257) ar_43 hv42 dX11_fields_256 rfl ?_
          refine g_iconst (q := 258) dX11_fields_257 ki_1 rfl ?_
          exact g_zret hz rfl rfl dX11_fields_258 h
        · replace h := h.2 hc43
          refine g_iconst (q := 243) dX11_fields_242 ki_0 rfl ?_
          exact g_zret hz rfl rfl dX11_fields_243 h
      replace h := h.2
      by_cases hc64 : v1 = 4
      · replace h := h.1 hc64
        refine g_tin (tgt := 259) 4 (by rw [hc64]; decide) dX11_fields_24 (by decide) (by decide) rfl rfl ?_
        refine g_iloadn (k0 := 3) (q := 260) dX11_fields_259 rfl rfl rfl ?_
        refine g_bipush (q := 262) dX11_fields_260 kb_29 rfl ?_
        refine g_ic_eq (tgt := 267) (q := 265) dX11_fields_262 rfl rfl (fun hc63 => ?_) (fun hc63 => ?_)
        · replace h := h.1 hc63
          refine g_aloadn (k0 := 0) (q := 268) dX11_fields_267 rfl rfl rfl ?_
          refine g_get (v := .ref (eA E 43)) (q := 271) fg_X11_32_35 rfl dX11_fields_268 rfl ?_
          refine g_iconst (q := 272) dX11_fields_271 ki_0 rfl ?_
          refine g_aloadn (k0 := 0) (q := 273) dX11_fields_272 rfl rfl rfl ?_
          refine g_iloadn (k0 := 2) (q := 274) dX11_fields_273 rfl rfl rfl ?_
          refine g_iconst (q := 275) dX11_fields_274 ki_3 rfl ?_
          refine g_calli (q := 278) [.int v2, .int 3] [.int 0, .ref (eA E 43)] cv_X11_123 rc_35 (c_X11_read hE h) rfl rfl ⟨rfl, rfl, Nat.le_of_ble_eq_true rfl, Nat.le_of_ble_eq_true rfl, Nat.zero_le _, Nat.zero_le _⟩ (Nat.le_of_ble_eq_true rfl) dX11_fields_275 rfl (fun r46 M45 h => ?_)
          have hv47 := h.1
          replace h := h.2
          refine g_iast (q := 279) ar_43 hv47 dX11_fields_278 rfl ?_
          refine g_aloadn (k0 := 0) (q := 280) dX11_fields_279 rfl rfl rfl ?_
          refine g_get (v := .ref (eA E 43)) (q := 283) fg_X11_32_35 rfl dX11_fields_280 rfl ?_
          refine g_iconst (q := 284) dX11_fields_283 ki_1 rfl ?_
          refine g_aloadn (k0 := 0) (q := 285) dX11_fields_284 rfl rfl rfl ?_
          refine g_iloadn (k0 := 2) (q := 286) dX11_fields_285 rfl rfl rfl ?_
          refine g_iconst (q := 287) dX11_fields_286 ki_3 rfl ?_
          refine g_iadd (q := 288) dX11_fields_287 rfl ?_
          refine g_iconst (q := 289) dX11_fields_288 ki_3 rfl ?_
          refine g_calli (q := 292) [.int (v2 + 3), .int 3] [.int 1, .ref (eA E 43)] cv_X11_123 rc_35 (c_X11_read hE h) rfl rfl ⟨rfl, rfl, Nat.le_of_ble_eq_true rfl, Nat.le_of_ble_eq_true rfl, Nat.zero_le _, Nat.zero_le _⟩ (Nat.le_of_ble_eq_true rfl) dX11_fields_289 rfl (fun r49 M48 h => ?_)
          have hv50 := h.1
          replace h := h.2
          refine g_iast (q := 293) ar_43 hv50 dX11_fields_292 rfl ?_
          refine g_aloadn (k0 := 0) (q := 294) dX11_fields_293 rfl rfl rfl ?_
          refine g_get (v := .ref (eA E 43)) (q := 297) fg_X11_32_35 rfl dX11_fields_294 rfl ?_
          refine g_iconst (q := 298) dX11_fields_297 ki_2 rfl ?_
          refine g_aloadn (k0 := 0) (q := 299) dX11_fields_298 rfl rfl rfl ?_
          refine g_iloadn (k0 := 2) (q := 300) dX11_fields_299 rfl rfl rfl ?_
          refine g_bipush (q := 302) dX11_fields_300 kb_6 rfl ?_
          refine g_iadd (q := 303) dX11_fields_302 rfl ?_
          refine g_iconst (q := 304) dX11_fields_303 ki_3 rfl ?_
          refine g_calli (q := 307) [.int (v2 + 6), .int 3] [.int 2, .ref (eA E 43)] cv_X11_123 rc_35 (c_X11_read hE h) rfl rfl ⟨rfl, rfl, Nat.le_of_ble_eq_true rfl, Nat.le_of_ble_eq_true rfl, Nat.zero_le _, Nat.zero_le _⟩ (Nat.le_of_ble_eq_true rfl) dX11_fields_304 rfl (fun r52 M51 h => ?_)
          have hv53 := h.1
          replace h := h.2
          refine g_iast (q := 308) ar_43 hv53 dX11_fields_307 rfl ?_
          refine g_aloadn (k0 := 0) (q := 309) dX11_fields_308 rfl rfl rfl ?_
          refine g_get (v := .ref (eA E 43)) (q := 312) fg_X11_32_35 rfl dX11_fields_309 rfl ?_
          refine g_iconst (q := 313) dX11_fields_312 ki_3 rfl ?_
          refine g_aloadn (k0 := 0) (q := 314) dX11_fields_313 rfl rfl rfl ?_
          refine g_iloadn (k0 := 2) (q := 315) dX11_fields_314 rfl rfl rfl ?_
          refine g_bipush (q := 317) dX11_fields_315 kb_9 rfl ?_
          refine g_iadd (q := 318) dX11_fields_317 rfl ?_
          refine g_bipush (q := 320) dX11_fields_318 kb_20 rfl ?_
          refine g_calli (q := 323) [.int (v2 + 9), .int 20] [.int 3, .ref (eA E 43)] cv_X11_123 rc_35 (c_X11_read hE h) rfl rfl ⟨rfl, rfl, Nat.le_of_ble_eq_true rfl, Nat.le_of_ble_eq_true rfl, Nat.zero_le _, Nat.zero_le _⟩ (Nat.le_of_ble_eq_true rfl) dX11_fields_320 rfl (fun r55 M54 h => ?_)
          have hv56 := h.1
          replace h := h.2
          refine g_iast (q := 324) ar_43 hv56 dX11_fields_323 rfl ?_
          refine g_aloadn (k0 := 0) (q := 325) dX11_fields_324 rfl rfl rfl ?_
          refine g_get (v := .ref (eA E 43)) (q := 328) fg_X11_32_35 rfl dX11_fields_325 rfl ?_
          refine g_iconst (q := 329) dX11_fields_328 ki_2 rfl ?_
          refine g_iald (v := ((putI M54 43 3 r55).1 43 2)) (q := 330) ar_43 hv53 rfl dX11_fields_329 rfl ?_
          refine g_iconst (q := 331) dX11_fields_330 ki_1 rfl ?_
          refine g_ic_le (tgt := 377) (q := 334) dX11_fields_331 rfl rfl (fun hc62 => ?_) (fun hc62 => ?_)
          · replace h := h.1 hc62
            refine g_iconst (q := 378) dX11_fields_377 ki_0 rfl ?_
            exact g_zret hz rfl rfl dX11_fields_378 h
          · replace h := h.2 hc62
            refine g_aloadn (k0 := 0) (q := 335) dX11_fields_334 rfl rfl rfl ?_
            refine g_get (v := .ref (eA E 43)) (q := 338) fg_X11_32_35 rfl dX11_fields_335 rfl ?_
            refine g_iconst (q := 339) dX11_fields_338 ki_2 rfl ?_
            refine g_iald (v := ((putI M54 43 3 r55).1 43 2)) (q := 340) ar_43 hv53 rfl dX11_fields_339 rfl ?_
            refine g_bipush (q := 342) dX11_fields_340 kb_6 rfl ?_
            refine g_ic_ge (tgt := 377) (q := 345) dX11_fields_342 rfl rfl (fun hc61 => ?_) (fun hc61 => ?_)
            · replace h := h.1 hc61
              refine g_iconst (q := 378) dX11_fields_377 ki_0 rfl ?_
              exact g_zret hz rfl rfl dX11_fields_378 h
            · replace h := h.2 hc61
              refine g_aloadn (k0 := 0) (q := 346) dX11_fields_345 rfl rfl rfl ?_
              refine g_get (v := .ref (eA E 43)) (q := 349) fg_X11_32_35 rfl dX11_fields_346 rfl ?_
              refine g_iconst (q := 350) dX11_fields_349 ki_1 rfl ?_
              refine g_iald (v := ((putI M54 43 3 r55).1 43 1)) (q := 351) ar_43 hv50 rfl dX11_fields_350 rfl ?_
              refine g_aloadn (k0 := 0) (q := 352) dX11_fields_351 rfl rfl rfl ?_
              refine g_get (v := .ref (eA E 43)) (q := 355) fg_X11_32_35 rfl dX11_fields_352 rfl ?_
              refine g_iconst (q := 356) dX11_fields_355 ki_2 rfl ?_
              refine g_iald (v := ((putI M54 43 3 r55).1 43 2)) (q := 357) ar_43 hv53 rfl dX11_fields_356 rfl ?_
              refine g_ic_ge (tgt := 377) (q := 360) dX11_fields_357 rfl rfl (fun hc60 => ?_) (fun hc60 => ?_)
              · replace h := h.1 hc60
                refine g_iconst (q := 378) dX11_fields_377 ki_0 rfl ?_
                exact g_zret hz rfl rfl dX11_fields_378 h
              · replace h := h.2 hc60
                refine g_aloadn (k0 := 0) (q := 361) dX11_fields_360 rfl rfl rfl ?_
                refine g_get (v := .ref (eA E 43)) (q := 364) fg_X11_32_35 rfl dX11_fields_361 rfl ?_
                refine g_iconst (q := 365) dX11_fields_364 ki_3 rfl ?_
                refine g_iald (v := ((putI M54 43 3 r55).1 43 3)) (q := 366) ar_43 hv56 rfl dX11_fields_365 rfl ?_
                refine g_iconst (q := 367) dX11_fields_366 ki_4 rfl ?_
                refine g_scalli (q := 370) [.int ((putI M54 43 3 r55).1 43 3), .int 4] [] cs_X11_140 (c_X11_areLetters hE h) rfl rfl ⟨rfl, rfl, Nat.le_of_ble_eq_true rfl, Nat.le_of_ble_eq_true rfl, Nat.zero_le _, Nat.zero_le _⟩ (Nat.le_of_ble_eq_true rfl) dX11_fields_367 rfl (fun r58 M57 h => ?_)
                obtain ⟨hb_r58, h⟩ := h
                refine g_if_eq (tgt := 377) (q := 373) dX11_fields_370 rfl rfl (fun hc59 => ?_) (fun hc59 => ?_)
                · replace h := h.1 hc59
                  refine g_iconst (q := 378) dX11_fields_377 ki_0 rfl ?_
                  exact g_zret hz rfl rfl dX11_fields_378 h
                · replace h := h.2 hc59
                  refine g_iconst (q := 374) dX11_fields_373 ki_1 rfl ?_
                  refine g_goto (tgt := 378) dX11_fields_374 rfl ?_
                  exact g_zret hz rfl rfl dX11_fields_378 h
        · replace h := h.2 hc63
          refine g_iconst (q := 266) dX11_fields_265 ki_0 rfl ?_
          exact g_zret hz rfl rfl dX11_fields_266 h
      replace h := h.2
      by_cases hc74 : v1 = 5
      · replace h := h.1 hc74
        refine g_tin (tgt := 379) 5 (by rw [hc74]; decide) dX11_fields_24 (by decide) (by decide) rfl rfl ?_
        refine g_iloadn (k0 := 3) (q := 380) dX11_fields_379 rfl rfl rfl ?_
        refine g_bipush (q := 382) dX11_fields_380 kb_15 rfl ?_
        refine g_ic_eq (tgt := 387) (q := 385) dX11_fields_382 rfl rfl (fun hc73 => ?_) (fun hc73 => ?_)
        · replace h := h.1 hc73
          refine g_aloadn (k0 := 0) (q := 388) dX11_fields_387 rfl rfl rfl ?_
          refine g_get (v := .ref (eA E 43)) (q := 391) fg_X11_32_35 rfl dX11_fields_388 rfl ?_
          refine g_iconst (q := 392) dX11_fields_391 ki_0 rfl ?_
          refine g_aloadn (k0 := 0) (q := 393) dX11_fields_392 rfl rfl rfl ?_
          refine g_iloadn (k0 := 2) (q := 394) dX11_fields_393 rfl rfl rfl ?_
          refine g_bipush (q := 396) dX11_fields_394 kb_12 rfl ?_
          refine g_calli (q := 399) [.int v2, .int 12] [.int 0, .ref (eA E 43)] cv_X11_123 rc_35 (c_X11_read hE h) rfl rfl ⟨rfl, rfl, Nat.le_of_ble_eq_true rfl, Nat.le_of_ble_eq_true rfl, Nat.zero_le _, Nat.zero_le _⟩ (Nat.le_of_ble_eq_true rfl) dX11_fields_396 rfl (fun r66 M65 h => ?_)
          have hv67 := h.1
          replace h := h.2
          refine g_iast (q := 400) ar_43 hv67 dX11_fields_399 rfl ?_
          refine g_aloadn (k0 := 0) (q := 401) dX11_fields_400 rfl rfl rfl ?_
          refine g_get (v := .ref (eA E 43)) (q := 404) fg_X11_32_35 rfl dX11_fields_401 rfl ?_
          refine g_iconst (q := 405) dX11_fields_404 ki_1 rfl ?_
          refine g_aloadn (k0 := 0) (q := 406) dX11_fields_405 rfl rfl rfl ?_
          refine g_iloadn (k0 := 2) (q := 407) dX11_fields_406 rfl rfl rfl ?_
          refine g_bipush (q := 409) dX11_fields_407 kb_12 rfl ?_
          refine g_iadd (q := 410) dX11_fields_409 rfl ?_
          refine g_iconst (q := 411) dX11_fields_410 ki_3 rfl ?_
          refine g_calli (q := 414) [.int (v2 + 12), .int 3] [.int 1, .ref (eA E 43)] cv_X11_123 rc_35 (c_X11_read hE h) rfl rfl ⟨rfl, rfl, Nat.le_of_ble_eq_true rfl, Nat.le_of_ble_eq_true rfl, Nat.zero_le _, Nat.zero_le _⟩ (Nat.le_of_ble_eq_true rfl) dX11_fields_411 rfl (fun r69 M68 h => ?_)
          have hv70 := h.1
          replace h := h.2
          refine g_iast (q := 415) ar_43 hv70 dX11_fields_414 rfl ?_
          refine g_aloadn (k0 := 0) (q := 416) dX11_fields_415 rfl rfl rfl ?_
          refine g_get (v := .ref (eA E 43)) (q := 419) fg_X11_32_35 rfl dX11_fields_416 rfl ?_
          refine g_iconst (q := 420) dX11_fields_419 ki_0 rfl ?_
          refine g_iald (v := ((putI M68 43 1 r69).1 43 0)) (q := 421) ar_43 hv67 rfl dX11_fields_420 rfl ?_
          refine g_sipush (q := 424) dX11_fields_421 ks_2250 rfl ?_
          refine g_ic_ge (tgt := 440) (q := 427) dX11_fields_424 rfl rfl (fun hc72 => ?_) (fun hc72 => ?_)
          · replace h := h.1 hc72
            refine g_iconst (q := 441) dX11_fields_440 ki_0 rfl ?_
            exact g_zret hz rfl rfl dX11_fields_441 h
          · replace h := h.2 hc72
            refine g_aloadn (k0 := 0) (q := 428) dX11_fields_427 rfl rfl rfl ?_
            refine g_get (v := .ref (eA E 43)) (q := 431) fg_X11_32_35 rfl dX11_fields_428 rfl ?_
            refine g_iconst (q := 432) dX11_fields_431 ki_1 rfl ?_
            refine g_iald (v := ((putI M68 43 1 r69).1 43 1)) (q := 433) ar_43 hv70 rfl dX11_fields_432 rfl ?_
            refine g_if_le (tgt := 440) (q := 436) dX11_fields_433 rfl rfl (fun hc71 => ?_) (fun hc71 => ?_)
            · replace h := h.1 hc71
              refine g_iconst (q := 441) dX11_fields_440 ki_0 rfl ?_
              exact g_zret hz rfl rfl dX11_fields_441 h
            · replace h := h.2 hc71
              refine g_iconst (q := 437) dX11_fields_436 ki_1 rfl ?_
              refine g_goto (tgt := 441) dX11_fields_437 rfl ?_
              exact g_zret hz rfl rfl dX11_fields_441 h
        · replace h := h.2 hc73
          refine g_iconst (q := 386) dX11_fields_385 ki_0 rfl ?_
          exact g_zret hz rfl rfl dX11_fields_386 h
      replace h := h.2
      replace h := h hc22 hc39 hc44 hc64 hc74
      refine g_tout (tgt := 442) dX11_fields_24 (sw_out 1 5 (fun i hi => by rcases (show i = 0 ∨ i = 1 ∨ i = 2 ∨ i = 3 ∨ i = 4 by omega) with rfl | rfl | rfl | rfl | rfl <;> assumption)) rfl ?_
      refine g_iconst (q := 443) dX11_fields_442 ki_0 rfl ?_
      exact g_zret hz rfl rfl dX11_fields_443 h
    · replace h := h.2 hc76
      refine g_aloadn (k0 := 0) (q := 10) dX11_fields_9 rfl rfl rfl ?_
      refine g_get (v := .ref (eA E 43)) (q := 13) fg_X11_32_35 rfl dX11_fields_10 rfl ?_
      refine g_iload (k0 := 4) (q := 15) dX11_fields_13 rfl rfl ?_
      refine g_iconst (q := 16) dX11_fields_15 ki_m1 rfl ?_
      have hv75 := h.1
      replace h := h.2
      refine g_iast (q := 17) ar_43 hv75 dX11_fields_16 rfl ?_
      refine g_iinc (lv' := [(0, .ref (eA E 35)), (1, .int v1), (2, .int v2), (3, .int v3), (4, .int (v4 + 1))]) (k0 := 4) (w := (v4 + 1)) (q := 20) [1, 2, 3, 4, 0] dX11_fields_17 rfl rfl (by decide) rfl rfl ?_
      refine g_goto (tgt := 3) dX11_fields_20 rfl ?_
      exact ih _ _ _ _ _ h
set_option maxHeartbeats 4000000 in
set_option maxRecDepth 100000 in
theorem c_X11_fields {E : EX} (hE : EH E) {a1 : Int32} {a2 : Int32} {a3 : Int32} {M : Mem} {Q : Int32 → Mem → Prop} (h : P_Mo_fields a1 a2 a3 M Q) : CI yX11_fields cX11_fields 5 (some .boolean) rmX11_fields E [.ref (eA E 35), .int a1, .int a2, .int a3] M (fun r M => nb r ∧ Q r M) := by
  refine CI.of hE (plainFor_of_name (by decide)) (Nat.le_of_ble_eq_true rfl) (fun x hz => ?_)
  unfold P_Mo_fields at h
  show G x E mX11_fields 0 0 0 [(0, .ref (eA E 35)), (1, .int a1), (2, .int a2), (3, .int a3)] [] M
  refine g_iconst (q := 1) dX11_fields_0 ki_0 rfl ?_
  refine g_istore (lv' := [(0, .ref (eA E 35)), (1, .int a1), (2, .int a2), (3, .int a3), (4, .int 0)]) (q := 3) [1, 2, 3, 4, 0] dX11_fields_1 (by decide) rfl rfl ?_
  obtain ⟨n1, h⟩ := h
  exact g_X11_fields_3 hE hz n1 _ _ _ _ _ h
set_option maxHeartbeats 4000000 in
set_option maxRecDepth 100000 in
theorem g_X11_note_160 {x : GX} {E : EX} (hE : EH E) {Q : Mem → Prop} (hz : ZU x E Q) : ∀ (n : Nat) (v4 : Int32) (v5 : Int32) (v6 : Int32) (v7 : Int32) (M : Mem), P_Mo_note_160 Q n v4 v5 v6 v7 M → G x E mX11_note 0 0 160 [(0, .ref (eA E 35)), (4, .int v4), (5, .int v5), (6, .int v6), (7, .int v7)] [] M := by
  intro n
  induction n with
  | zero => intro _ _ _ _ _ h; exact h.elim
  | succ n ih =>
    intro v4 v5 v6 v7 M h
    unfold P_Mo_note_160 at h
    refine g_iload (k0 := 4) (q := 162) dX11_note_160 rfl rfl ?_
    refine g_iconst (q := 163) dX11_note_162 ki_4 rfl ?_
    refine g_ic_ge (tgt := 200) (q := 166) dX11_note_163 rfl rfl (fun hc15 => ?_) (fun hc15 => ?_)
    · replace h := h.1 hc15
      refine g_aloadn (k0 := 0) (q := 201) dX11_note_200 rfl rfl rfl ?_
      refine g_get (v := .ref (eA E 42)) (q := 204) fg_X11_28_35 rfl dX11_note_201 rfl ?_
      refine g_aloadn (k0 := 0) (q := 205) dX11_note_204 rfl rfl rfl ?_
      refine g_get (v := .int (M.1 35 11)) (q := 208) fg_X11_153_35 rfl dX11_note_205 rfl ?_
      refine g_iconst (q := 209) dX11_note_208 ki_0 rfl ?_
      have hv7 := h.1
      replace h := h.2
      refine g_zast (q := 210) ar_42 hv7 rfl dX11_note_209 rfl ?_
      refine g_aloadn (k0 := 0) (q := 211) dX11_note_210 rfl rfl rfl ?_
      refine g_dup (q := 212) dX11_note_211 rfl rfl ?_
      refine g_get (v := .int (M.1 35 11)) (q := 215) fg_X11_153_35 rfl dX11_note_212 rfl ?_
      refine g_iconst (q := 216) dX11_note_215 ki_1 rfl ?_
      refine g_iadd (q := 217) dX11_note_216 rfl ?_
      refine g_putI (q := 220) fp_X11_153_35 dX11_note_217 rfl ?_
      refine g_iload (k0 := 2) (q := 222) dX11_note_220 rfl rfl ?_
      refine g_if_eq (tgt := 241) (q := 225) dX11_note_222 rfl rfl (fun hc10 => ?_) (fun hc10 => ?_)
      · replace h := h.1 hc10
        exact g_vret hz rfl dX11_note_241 h
      · replace h := h.2 hc10
        refine g_iload (k0 := 1) (q := 227) dX11_note_225 rfl rfl ?_
        refine g_iconst (q := 228) dX11_note_227 ki_4 rfl ?_
        refine g_ic_ne (tgt := 241) (q := 231) dX11_note_228 rfl rfl (fun hc9 => ?_) (fun hc9 => ?_)
        · replace h := h.1 hc9
          exact g_vret hz rfl dX11_note_241 h
        · replace h := h.2 hc9
          refine g_aloadn (k0 := 0) (q := 232) dX11_note_231 rfl rfl rfl ?_
          refine g_aloadn (k0 := 0) (q := 233) dX11_note_232 rfl rfl rfl ?_
          refine g_get (v := .int ((M.1 35 11) + 1)) (q := 236) fg_X11_153_35 rfl dX11_note_233 rfl ?_
          refine g_iconst (q := 237) dX11_note_236 ki_1 rfl ?_
          refine g_isub (q := 238) dX11_note_237 rfl ?_
          refine g_callv (q := 241) [.int (((M.1 35 11) + 1) - 1)] [] cv_X11_156 rc_35 (c_X11_join hE h) rfl rfl ⟨rfl, rfl, Nat.le_of_ble_eq_true rfl, Nat.le_of_ble_eq_true rfl, Nat.zero_le _, Nat.zero_le _⟩ (Nat.le_of_ble_eq_true rfl) dX11_note_238 rfl (fun M8 h => ?_)
          exact g_vret hz rfl dX11_note_241 h
    · replace h := h.2 hc15
      refine g_aloadn (k0 := 0) (q := 167) dX11_note_166 rfl rfl rfl ?_
      refine g_get (v := .ref (eA E 41)) (q := 170) fg_X11_25_35 rfl dX11_note_167 rfl ?_
      refine g_iload (k0 := 3) (q := 172) dX11_note_170 rfl rfl ?_
      refine g_iconst (q := 173) dX11_note_172 ki_4 rfl ?_
      refine g_iadd (q := 174) dX11_note_173 rfl ?_
      refine g_iload (k0 := 4) (q := 176) dX11_note_174 rfl rfl ?_
      refine g_iadd (q := 177) dX11_note_176 rfl ?_
      refine g_iload (k0 := 2) (q := 179) dX11_note_177 rfl rfl ?_
      refine g_if_eq (tgt := 192) (q := 182) dX11_note_179 rfl rfl (fun hc14 => ?_) (fun hc14 => ?_)
      · replace h := h.1 hc14
        refine g_iconst (q := 193) dX11_note_192 ki_m1 rfl ?_
        have hv11 := h.1
        replace h := h.2
        refine g_iast (q := 194) ar_41 hv11 dX11_note_193 rfl ?_
        refine g_iinc (lv' := [(0, .ref (eA E 35)), (4, .int v4), (5, .int v5), (6, .int v6), (7, .int (v7 + 1))]) (k0 := 4) (w := (v7 + 1)) (q := 197) [1, 2, 3, 4, 0] dX11_note_194 rfl rfl (by decide) rfl rfl ?_
        refine g_goto (tgt := 160) dX11_note_197 rfl ?_
        exact ih _ _ _ _ _ h
      · replace h := h.2 hc14
        refine g_aloadn (k0 := 0) (q := 183) dX11_note_182 rfl rfl rfl ?_
        refine g_get (v := .ref (eA E 43)) (q := 186) fg_X11_32_35 rfl dX11_note_183 rfl ?_
        refine g_iload (k0 := 4) (q := 188) dX11_note_186 rfl rfl ?_
        have hv12 := h.1
        replace h := h.2
        refine g_iald (v := (M.1 43 v7.toNatClampNeg)) (q := 189) ar_43 hv12 rfl dX11_note_188 rfl ?_
        refine g_goto (tgt := 193) dX11_note_189 rfl ?_
        have hv13 := h.1
        replace h := h.2
        refine g_iast (q := 194) ar_41 hv13 dX11_note_193 rfl ?_
        refine g_iinc (lv' := [(0, .ref (eA E 35)), (4, .int v4), (5, .int v5), (6, .int v6), (7, .int (v7 + 1))]) (k0 := 4) (w := (v7 + 1)) (q := 197) [1, 2, 3, 4, 0] dX11_note_194 rfl rfl (by decide) rfl rfl ?_
        refine g_goto (tgt := 160) dX11_note_197 rfl ?_
        exact ih _ _ _ _ _ h
set_option maxHeartbeats 4000000 in
set_option maxRecDepth 100000 in
theorem g_X11_note_133 {x : GX} {E : EX} (hE : EH E) {Q : Mem → Prop} (hz : ZU x E Q) : ∀ (v1 : Int32) (v4 : Int32) (v5 : Int32) (v6 : Int32) (s0 : Int32) (s1 : Int32) (M : Mem), P_Mo_note_133 Q v1 v4 v5 v6 s0 s1 M → G x E mX11_note 0 0 133 [(0, .ref (eA E 35)), (1, .int v1), (4, .int v4), (5, .int v5), (6, .int v6)] [.int s0, .int s1, .ref (eA E 41)] M := by
  intro v1 v4 v5 v6 s0 s1 M h
  unfold P_Mo_note_133 at h
  have hv4 := h.1
  replace h := h.2
  refine g_iast (q := 134) ar_41 hv4 dX11_note_133 rfl ?_
  refine g_aloadn (k0 := 0) (q := 135) dX11_note_134 rfl rfl rfl ?_
  refine g_get (v := .ref (eA E 41)) (q := 138) fg_X11_25_35 rfl dX11_note_135 rfl ?_
  refine g_iload (k0 := 4) (q := 140) dX11_note_138 rfl rfl ?_
  refine g_iconst (q := 141) dX11_note_140 ki_2 rfl ?_
  refine g_iadd (q := 142) dX11_note_141 rfl ?_
  refine g_iloadn (k0 := 1) (q := 143) dX11_note_142 rfl rfl rfl ?_
  have hv5 := h.1
  replace h := h.2
  refine g_iast (q := 144) ar_41 hv5 dX11_note_143 rfl ?_
  refine g_aloadn (k0 := 0) (q := 145) dX11_note_144 rfl rfl rfl ?_
  refine g_get (v := .ref (eA E 41)) (q := 148) fg_X11_25_35 rfl dX11_note_145 rfl ?_
  refine g_iload (k0 := 4) (q := 150) dX11_note_148 rfl rfl ?_
  refine g_iconst (q := 151) dX11_note_150 ki_3 rfl ?_
  refine g_iadd (q := 152) dX11_note_151 rfl ?_
  refine g_aloadn (k0 := 0) (q := 153) dX11_note_152 rfl rfl rfl ?_
  refine g_get (v := .int (M.1 35 7)) (q := 156) fg_X11_133_35 rfl dX11_note_153 rfl ?_
  have hv6 := h.1
  replace h := h.2
  refine g_iast (q := 157) ar_41 hv6 dX11_note_156 rfl ?_
  refine g_iconst (q := 158) dX11_note_157 ki_0 rfl ?_
  refine g_istore (lv' := [(0, .ref (eA E 35)), (1, .int v1), (4, .int v4), (5, .int v5), (6, .int v6), (7, .int 0)]) (q := 160) [1, 2, 3, 4, 5, 0] dX11_note_158 (by decide) rfl rfl ?_
  refine g_lv (lv' := [(0, .ref (eA E 35)), (4, .int v4), (5, .int v5), (6, .int v6), (7, .int 0)]) [0, 2, 3, 4, 5] rfl ?_
  obtain ⟨n1, h⟩ := h
  exact g_X11_note_160 hE hz n1 _ _ _ _ _ h
set_option maxHeartbeats 4000000 in
set_option maxRecDepth 100000 in
theorem g_X11_note_106 {x : GX} {E : EX} (hE : EH E) {Q : Mem → Prop} (hz : ZU x E Q) : ∀ (v1 : Int32) (v3 : Int32) (v4 : Int32) (v5 : Int32) (v6 : Int32) (s0 : Int32) (s1 : Int32) (M : Mem), P_Mo_note_106 Q v1 v3 v4 v5 v6 s0 s1 M → G x E mX11_note 0 0 106 [(0, .ref (eA E 35)), (1, .int v1), (3, .int v3), (4, .int v4), (5, .int v5), (6, .int v6)] [.int s0, .int s1, .ref (eA E 41)] M := by
  intro v1 v3 v4 v5 v6 s0 s1 M h
  unfold P_Mo_note_106 at h
  have hv3 := h.1
  replace h := h.2
  refine g_iast (q := 107) ar_41 hv3 dX11_note_106 rfl ?_
  refine g_aloadn (k0 := 0) (q := 108) dX11_note_107 rfl rfl rfl ?_
  refine g_get (v := .ref (eA E 41)) (q := 111) fg_X11_25_35 rfl dX11_note_108 rfl ?_
  refine g_iload (k0 := 5) (q := 113) dX11_note_111 rfl rfl ?_
  refine g_iconst (q := 114) dX11_note_113 ki_1 rfl ?_
  refine g_iadd (q := 115) dX11_note_114 rfl ?_
  refine g_iload (k0 := 4) (q := 117) dX11_note_115 rfl rfl ?_
  refine g_if_eq (tgt := 132) (q := 120) dX11_note_117 rfl rfl (fun hc19 => ?_) (fun hc19 => ?_)
  · replace h := h.1 hc19
    refine g_iconst (q := 133) dX11_note_132 ki_m1 rfl ?_
    refine g_lv (lv' := [(0, .ref (eA E 35)), (1, .int v1), (4, .int v4), (5, .int v5), (6, .int v6)]) [0, 1, 3, 4, 5] rfl ?_
    exact g_X11_note_133 hE hz _ _ _ _ _ _ _ h
  · replace h := h.2 hc19
    refine g_aloadn (k0 := 0) (q := 121) dX11_note_120 rfl rfl rfl ?_
    refine g_iloadn (k0 := 2) (q := 122) dX11_note_121 rfl rfl rfl ?_
    refine g_iconst (q := 123) dX11_note_122 ki_4 rfl ?_
    refine g_iadd (q := 124) dX11_note_123 rfl ?_
    refine g_bipush (q := 126) dX11_note_124 kb_20 rfl ?_
    refine g_calli (q := 129) [.int (v3 + 4), .int 20] [.int (v6 + 1), .ref (eA E 41)] cv_X11_123 rc_35 (c_X11_read hE h) rfl rfl ⟨rfl, rfl, Nat.le_of_ble_eq_true rfl, Nat.le_of_ble_eq_true rfl, Nat.zero_le _, Nat.zero_le _⟩ (Nat.le_of_ble_eq_true rfl) dX11_note_126 rfl (fun r18 M17 h => ?_)
    refine g_goto (tgt := 133) dX11_note_129 rfl ?_
    refine g_lv (lv' := [(0, .ref (eA E 35)), (1, .int v1), (4, .int v4), (5, .int v5), (6, .int v6)]) [0, 1, 3, 4, 5] rfl ?_
    exact g_X11_note_133 hE hz _ _ _ _ _ _ _ h
set_option maxHeartbeats 4000000 in
set_option maxRecDepth 100000 in
theorem g_X11_note_69 {x : GX} {E : EX} (hE : EH E) {Q : Mem → Prop} (hz : ZU x E Q) : ∀ (v1 : Int32) (v3 : Int32) (v4 : Int32) (v5 : Int32) (M : Mem), P_Mo_note_69 Q v1 v3 v4 v5 M → G x E mX11_note 0 0 69 [(0, .ref (eA E 35)), (1, .int v1), (3, .int v3), (4, .int v4), (5, .int v5)] [] M := by
  intro v1 v3 v4 v5 M h
  unfold P_Mo_note_69 at h
  refine g_aloadn (k0 := 0) (q := 70) dX11_note_69 rfl rfl rfl ?_
  refine g_get (v := .int (M.1 35 11)) (q := 73) fg_X11_153_35 rfl dX11_note_70 rfl ?_
  refine g_sipush (q := 76) dX11_note_73 ks_200 rfl ?_
  refine g_ic_ne (tgt := 80) (q := 79) dX11_note_76 rfl rfl (fun hc21 => ?_) (fun hc21 => ?_)
  · replace h := h.1 hc21
    refine g_bipush (q := 82) dX11_note_80 kb_8 rfl ?_
    refine g_aloadn (k0 := 0) (q := 83) dX11_note_82 rfl rfl rfl ?_
    refine g_get (v := .int (M.1 35 11)) (q := 86) fg_X11_153_35 rfl dX11_note_83 rfl ?_
    refine g_imul (q := 87) dX11_note_86 rfl ?_
    refine g_istore (lv' := [(0, .ref (eA E 35)), (1, .int v1), (3, .int v3), (4, .int v4), (5, .int v5), (6, .int (8 * (M.1 35 11)))]) (q := 89) [1, 2, 3, 4, 5, 0] dX11_note_87 (by decide) rfl rfl ?_
    refine g_aloadn (k0 := 0) (q := 90) dX11_note_89 rfl rfl rfl ?_
    refine g_get (v := .ref (eA E 41)) (q := 93) fg_X11_25_35 rfl dX11_note_90 rfl ?_
    refine g_iload (k0 := 5) (q := 95) dX11_note_93 rfl rfl ?_
    refine g_iload (k0 := 4) (q := 97) dX11_note_95 rfl rfl ?_
    refine g_if_eq (tgt := 105) (q := 100) dX11_note_97 rfl rfl (fun hc20 => ?_) (fun hc20 => ?_)
    · replace h := h.1 hc20
      refine g_iconst (q := 106) dX11_note_105 ki_0 rfl ?_
      exact g_X11_note_106 hE hz _ _ _ _ _ _ _ _ h
    · replace h := h.2 hc20
      refine g_iload (k0 := 3) (q := 102) dX11_note_100 rfl rfl ?_
      refine g_goto (tgt := 106) dX11_note_102 rfl ?_
      exact g_X11_note_106 hE hz _ _ _ _ _ _ _ _ h
  · replace h := h.2 hc21
    exact g_vret hz rfl dX11_note_79 h
set_option maxHeartbeats 4000000 in
set_option maxRecDepth 100000 in
theorem g_X11_note_52 {x : GX} {E : EX} (hE : EH E) {Q : Mem → Prop} (hz : ZU x E Q) : ∀ (v1 : Int32) (v3 : Int32) (v4 : Int32) (s0 : Int32) (M : Mem), P_Mo_note_52 Q v1 v3 v4 s0 M → G x E mX11_note 0 0 52 [(0, .ref (eA E 35)), (1, .int v1), (3, .int v3), (4, .int v4)] [.int s0] M := by
  intro v1 v3 v4 s0 M h
  unfold P_Mo_note_52 at h
  refine g_istore (lv' := [(0, .ref (eA E 35)), (1, .int v1), (3, .int v3), (4, .int v4), (5, .int s0)]) (q := 54) [1, 2, 3, 4, 0] dX11_note_52 (by decide) rfl rfl ?_
  refine g_iload (k0 := 4) (q := 56) dX11_note_54 rfl rfl ?_
  refine g_if_ne (tgt := 69) (q := 59) dX11_note_56 rfl rfl (fun hc22 => ?_) (fun hc22 => ?_)
  · replace h := h.1 hc22
    exact g_X11_note_69 hE hz _ _ _ _ _ h
  · replace h := h.2 hc22
    refine g_aloadn (k0 := 0) (q := 60) dX11_note_59 rfl rfl rfl ?_
    refine g_dup (q := 61) dX11_note_60 rfl rfl ?_
    refine g_get (v := .int (M.1 35 13)) (q := 64) fg_X11_150_35 rfl dX11_note_61 rfl ?_
    refine g_iconst (q := 65) dX11_note_64 ki_1 rfl ?_
    refine g_iadd (q := 66) dX11_note_65 rfl ?_
    refine g_putI (q := 69) fp_X11_150_35 dX11_note_66 rfl ?_
    exact g_X11_note_69 hE hz _ _ _ _ _ h
set_option maxHeartbeats 4000000 in
set_option maxRecDepth 100000 in
theorem g_X11_note_51 {x : GX} {E : EX} (hE : EH E) {Q : Mem → Prop} (hz : ZU x E Q) : ∀ (v1 : Int32) (v3 : Int32) (v4 : Int32) (M : Mem), P_Mo_note_51 Q v1 v3 v4 M → G x E mX11_note 0 0 51 [(0, .ref (eA E 35)), (1, .int v1), (3, .int v3), (4, .int v4)] [] M := by
  intro v1 v3 v4 M h
  unfold P_Mo_note_51 at h
  refine g_iconst (q := 52) dX11_note_51 ki_0 rfl ?_
  exact g_X11_note_52 hE hz _ _ _ _ _ h
set_option maxHeartbeats 4000000 in
set_option maxRecDepth 100000 in
theorem c_X11_note {E : EX} (hE : EH E) {a1 : Int32} {a2 : Int32} {M : Mem} {Q : Mem → Prop} (h : P_Mo_note a1 a2 M Q) : CU yX11_note cX11_note 8 none rmX11_note E [.ref (eA E 35), .int a1, .int a2] M Q := by
  refine CU.of hE (plainFor_of_name (by decide)) (Nat.le_of_ble_eq_true rfl) (fun x hz => ?_)
  unfold P_Mo_note at h
  show G x E mX11_note 0 0 0 [(0, .ref (eA E 35)), (1, .int a1), (2, .int a2)] [] M
  refine g_aloadn (k0 := 0) (q := 1) dX11_note_0 rfl rfl rfl ?_
  refine g_dup (q := 2) dX11_note_1 rfl rfl ?_
  refine g_get (v := .int (M.1 35 12)) (q := 5) fg_X11_143_35 rfl dX11_note_2 rfl ?_
  refine g_iconst (q := 6) dX11_note_5 ki_1 rfl ?_
  refine g_iadd (q := 7) dX11_note_6 rfl ?_
  refine g_putI (q := 10) fp_X11_143_35 dX11_note_7 rfl ?_
  refine g_sipush (q := 13) dX11_note_10 ks_300 rfl ?_
  refine g_iloadn (k0 := 1) (q := 14) dX11_note_13 rfl rfl rfl ?_
  refine g_imul (q := 15) dX11_note_14 rfl ?_
  refine g_istoren (lv' := [(0, .ref (eA E 35)), (1, .int a1), (2, .int a2), (3, .int (300 * a1))]) (q := 16) [1, 2, 3, 0] dX11_note_15 rfl (by decide) rfl rfl ?_
  refine g_aloadn (k0 := 0) (q := 17) dX11_note_16 rfl rfl rfl ?_
  refine g_iloadn (k0 := 3) (q := 18) dX11_note_17 rfl rfl rfl ?_
  refine g_iconst (q := 19) dX11_note_18 ki_4 rfl ?_
  refine g_calli (q := 22) [.int (300 * a1), .int 4] [] cv_X11_123 rc_35 (c_X11_read hE h) rfl rfl ⟨rfl, rfl, Nat.le_of_ble_eq_true rfl, Nat.le_of_ble_eq_true rfl, Nat.zero_le _, Nat.zero_le _⟩ (Nat.le_of_ble_eq_true rfl) dX11_note_19 rfl (fun r2 M1 h => ?_)
  refine g_istore (lv' := [(0, .ref (eA E 35)), (1, .int a1), (2, .int a2), (3, .int (300 * a1)), (4, .int r2)]) (q := 24) [1, 2, 3, 4, 0] dX11_note_22 (by decide) rfl rfl ?_
  refine g_iloadn (k0 := 2) (q := 25) dX11_note_24 rfl rfl rfl ?_
  refine g_bipush (q := 27) dX11_note_25 kb_24 rfl ?_
  refine g_ic_lt (tgt := 51) (q := 30) dX11_note_27 rfl rfl (fun hc26 => ?_) (fun hc26 => ?_)
  · replace h := h.1 hc26
    refine g_lv (lv' := [(0, .ref (eA E 35)), (1, .int a1), (3, .int (300 * a1)), (4, .int r2)]) [0, 1, 3, 4] rfl ?_
    exact g_X11_note_51 hE hz _ _ _ _ h
  · replace h := h.2 hc26
    refine g_aloadn (k0 := 0) (q := 31) dX11_note_30 rfl rfl rfl ?_
    refine g_iload (k0 := 4) (q := 33) dX11_note_31 rfl rfl ?_
    refine g_iloadn (k0 := 3) (q := 34) dX11_note_33 rfl rfl rfl ?_
    refine g_bipush (q := 36) dX11_note_34 kb_24 rfl ?_
    refine g_iadd (q := 37) dX11_note_36 rfl ?_
    refine g_iloadn (k0 := 2) (q := 38) dX11_note_37 rfl rfl rfl ?_
    refine g_bipush (q := 40) dX11_note_38 kb_24 rfl ?_
    refine g_isub (q := 41) dX11_note_40 rfl ?_
    refine g_calli (q := 44) [.int r2, .int ((300 * a1) + 24), .int (a2 - 24)] [] cv_X11_146 rc_35 (c_X11_fields hE h) rfl rfl ⟨rfl, rfl, Nat.le_of_ble_eq_true rfl, Nat.le_of_ble_eq_true rfl, Nat.zero_le _, Nat.zero_le _⟩ (Nat.le_of_ble_eq_true rfl) dX11_note_41 rfl (fun r24 M23 h => ?_)
    obtain ⟨hb_r24, h⟩ := h
    refine g_if_eq (tgt := 51) (q := 47) dX11_note_44 rfl rfl (fun hc25 => ?_) (fun hc25 => ?_)
    · replace h := h.1 hc25
      refine g_lv (lv' := [(0, .ref (eA E 35)), (1, .int a1), (3, .int (300 * a1)), (4, .int r2)]) [0, 1, 3, 4] rfl ?_
      exact g_X11_note_51 hE hz _ _ _ _ h
    · replace h := h.2 hc25
      refine g_iconst (q := 48) dX11_note_47 ki_1 rfl ?_
      refine g_goto (tgt := 52) dX11_note_48 rfl ?_
      refine g_lv (lv' := [(0, .ref (eA E 35)), (1, .int a1), (3, .int (300 * a1)), (4, .int r2)]) [0, 1, 3, 4] rfl ?_
      exact g_X11_note_52 hE hz _ _ _ _ _ h
set_option maxHeartbeats 4000000 in
set_option maxRecDepth 100000 in
theorem c_X11_doubled {E : EX} (hE : EH E) {a1 : Int32} {a2 : Int32} {M : Mem} {Q : Int32 → Mem → Prop} (h : P_Mo_doubled a1 a2 M Q) : CI yX11_doubled cX11_doubled 3 (some .int) rmX11_doubled E [.int a1, .int a2] M Q := by
  refine CI.of hE (plainFor_of_name (by decide)) (Nat.le_of_ble_eq_true rfl) (fun x hz => ?_)
  unfold P_Mo_doubled at h
  show G x E mX11_doubled 0 0 0 [(0, .int a1), (1, .int a2)] [] M
  refine g_iloadn (k0 := 0) (q := 1) dX11_doubled_0 rfl rfl rfl ?_
  refine g_iconst (q := 2) dX11_doubled_1 ki_1 rfl ?_
  refine g_ishl (q := 3) dX11_doubled_2 rfl ?_
  refine g_ldc (q := 5) dX11_doubled_3 wm_1012 rfl ?_
  refine g_iand (q := 6) dX11_doubled_5 rfl ?_
  refine g_istoren (lv' := [(0, .int a1), (1, .int a2), (2, .int ((a1 <<< ((1 : Int32) &&& 31)) &&& 65535))]) (q := 7) [1, 2, 0] dX11_doubled_6 rfl (by decide) rfl rfl ?_
  refine g_iloadn (k0 := 0) (q := 8) dX11_doubled_7 rfl rfl rfl ?_
  refine g_bipush (q := 10) dX11_doubled_8 kb_15 rfl ?_
  refine g_ishr (q := 11) dX11_doubled_10 rfl ?_
  refine g_iconst (q := 12) dX11_doubled_11 ki_1 rfl ?_
  refine g_iand (q := 13) dX11_doubled_12 rfl ?_
  refine g_iloadn (k0 := 1) (q := 14) dX11_doubled_13 rfl rfl rfl ?_
  refine g_ic_eq (tgt := 25) (q := 17) dX11_doubled_14 rfl rfl (fun hc1 => ?_) (fun hc1 => ?_)
  · replace h := h.1 hc1
    refine g_iloadn (k0 := 2) (q := 26) dX11_doubled_25 rfl rfl rfl ?_
    exact g_iret hz rfl dX11_doubled_26 h
  · replace h := h.2 hc1
    refine g_iloadn (k0 := 2) (q := 18) dX11_doubled_17 rfl rfl rfl ?_
    refine g_sipush (q := 21) dX11_doubled_18 ks_4129 rfl ?_
    refine g_ixor (q := 22) dX11_doubled_21 rfl ?_
    refine g_goto (tgt := 26) dX11_doubled_22 rfl ?_
    exact g_iret hz rfl dX11_doubled_26 h
set_option maxHeartbeats 4000000 in
set_option maxRecDepth 100000 in
theorem g_X11_ends_14 {x : GX} {E : EX} (hE : EH E) {Q : Int32 → Mem → Prop} (hz : ZI x E (fun r M => nb r ∧ Q r M)) : ∀ (n : Nat) (v1 : Int32) (v2 : Int32) (v3 : Int32) (v4 : Int32) (M : Mem), P_Mo_ends_14 Q n v1 v2 v3 v4 M → G x E mX11_ends 0 0 14 [(0, .ref (eA E 35)), (1, .int v1), (2, .int v2), (3, .int v3), (4, .int v4)] [] M := by
  intro n
  induction n with
  | zero => intro _ _ _ _ _ h; exact h.elim
  | succ n ih =>
    intro v1 v2 v3 v4 M h
    unfold P_Mo_ends_14 at h
    refine g_iload (k0 := 4) (q := 16) dX11_ends_14 rfl rfl ?_
    refine g_iloadn (k0 := 2) (q := 17) dX11_ends_16 rfl rfl rfl ?_
    refine g_bipush (q := 19) dX11_ends_17 kb_16 rfl ?_
    refine g_isub (q := 20) dX11_ends_19 rfl ?_
    refine g_ic_ge (tgt := 47) (q := 23) dX11_ends_20 rfl rfl (fun hc8 => ?_) (fun hc8 => ?_)
    · replace h := h.1 hc8
      refine g_iloadn (k0 := 3) (q := 48) dX11_ends_47 rfl rfl rfl ?_
      refine g_ldc (q := 50) dX11_ends_48 wm_1012 rfl ?_
      refine g_ixor (q := 51) dX11_ends_50 rfl ?_
      refine g_aloadn (k0 := 0) (q := 52) dX11_ends_51 rfl rfl rfl ?_
      refine g_sipush (q := 55) dX11_ends_52 ks_300 rfl ?_
      refine g_iloadn (k0 := 1) (q := 56) dX11_ends_55 rfl rfl rfl ?_
      refine g_imul (q := 57) dX11_ends_56 rfl ?_
      refine g_iloadn (k0 := 2) (q := 58) dX11_ends_57 rfl rfl rfl ?_
      refine g_iadd (q := 59) dX11_ends_58 rfl ?_
      refine g_bipush (q := 61) dX11_ends_59 kb_16 rfl ?_
      refine g_isub (q := 62) dX11_ends_61 rfl ?_
      refine g_bipush (q := 64) dX11_ends_62 kb_16 rfl ?_
      refine g_calli (q := 67) [.int (((300 * v1) + v2) - 16), .int 16] [.int (v3 ^^^ 65535)] cv_X11_123 rc_35 (c_X11_read hE h) rfl rfl ⟨rfl, rfl, Nat.le_of_ble_eq_true rfl, Nat.le_of_ble_eq_true rfl, Nat.zero_le _, Nat.zero_le _⟩ (Nat.le_of_ble_eq_true rfl) dX11_ends_64 rfl (fun r2 M1 h => ?_)
      refine g_ic_eq (tgt := 82) (q := 70) dX11_ends_67 rfl rfl (fun hc4 => ?_) (fun hc4 => ?_)
      · replace h := h.1 hc4
        refine g_aloadn (k0 := 0) (q := 83) dX11_ends_82 rfl rfl rfl ?_
        refine g_iloadn (k0 := 1) (q := 84) dX11_ends_83 rfl rfl rfl ?_
        refine g_iloadn (k0 := 2) (q := 85) dX11_ends_84 rfl rfl rfl ?_
        refine g_bipush (q := 87) dX11_ends_85 kb_16 rfl ?_
        refine g_isub (q := 88) dX11_ends_87 rfl ?_
        refine g_callv (q := 91) [.int v1, .int (v2 - 16)] [] cv_X11_126 rc_35 (c_X11_note hE h) rfl rfl ⟨rfl, rfl, Nat.le_of_ble_eq_true rfl, Nat.le_of_ble_eq_true rfl, Nat.zero_le _, Nat.zero_le _⟩ (Nat.le_of_ble_eq_true rfl) dX11_ends_88 rfl (fun M3 h => ?_)
        refine g_iconst (q := 92) dX11_ends_91 ki_1 rfl ?_
        exact g_zret hz rfl rfl dX11_ends_92 h
      · replace h := h.2 hc4
        refine g_aloadn (k0 := 0) (q := 71) dX11_ends_70 rfl rfl rfl ?_
        refine g_dup (q := 72) dX11_ends_71 rfl rfl ?_
        refine g_get (v := .int (M1.1 35 8)) (q := 75) fg_X11_105_35 rfl dX11_ends_72 rfl ?_
        refine g_iconst (q := 76) dX11_ends_75 ki_1 rfl ?_
        refine g_iadd (q := 77) dX11_ends_76 rfl ?_
        refine g_putI (q := 80) fp_X11_105_35 dX11_ends_77 rfl ?_
        refine g_iconst (q := 81) dX11_ends_80 ki_0 rfl ?_
        exact g_zret hz rfl rfl dX11_ends_81 h
    · replace h := h.2 hc8
      refine g_iloadn (k0 := 3) (q := 24) dX11_ends_23 rfl rfl rfl ?_
      refine g_aloadn (k0 := 0) (q := 25) dX11_ends_24 rfl rfl rfl ?_
      refine g_get (v := .ref (eA E 40)) (q := 28) fg_X11_22_35 rfl dX11_ends_25 rfl ?_
      refine g_sipush (q := 31) dX11_ends_28 ks_300 rfl ?_
      refine g_iloadn (k0 := 1) (q := 32) dX11_ends_31 rfl rfl rfl ?_
      refine g_imul (q := 33) dX11_ends_32 rfl ?_
      refine g_iload (k0 := 4) (q := 35) dX11_ends_33 rfl rfl ?_
      refine g_iadd (q := 36) dX11_ends_35 rfl ?_
      have hv5 := h.1
      replace h := h.2
      refine g_iald (v := (M.1 40 (((300 * v1) + v4)).toNatClampNeg)) (q := 37) ar_40 hv5 rfl dX11_ends_36 rfl ?_
      refine g_scalli (q := 40) [.int v3, .int (M.1 40 (((300 * v1) + v4)).toNatClampNeg)] [] cs_X11_119 (c_X11_doubled hE h) rfl rfl ⟨rfl, rfl, Nat.le_of_ble_eq_true rfl, Nat.le_of_ble_eq_true rfl, Nat.zero_le _, Nat.zero_le _⟩ (Nat.le_of_ble_eq_true rfl) dX11_ends_37 rfl (fun r7 M6 h => ?_)
      refine g_istoren (lv' := [(0, .ref (eA E 35)), (1, .int v1), (2, .int v2), (3, .int r7), (4, .int v4)]) (q := 41) [1, 2, 3, 0, 4] dX11_ends_40 rfl (by decide) rfl rfl ?_
      refine g_iinc (lv' := [(0, .ref (eA E 35)), (1, .int v1), (2, .int v2), (3, .int r7), (4, .int (v4 + 1))]) (k0 := 4) (w := (v4 + 1)) (q := 44) [1, 2, 3, 4, 0] dX11_ends_41 rfl rfl (by decide) rfl rfl ?_
      refine g_goto (tgt := 14) dX11_ends_44 rfl ?_
      exact ih _ _ _ _ _ h
set_option maxHeartbeats 4000000 in
set_option maxRecDepth 100000 in
theorem c_X11_ends {E : EX} (hE : EH E) {a1 : Int32} {a2 : Int32} {M : Mem} {Q : Int32 → Mem → Prop} (h : P_Mo_ends a1 a2 M Q) : CI yX11_ends cX11_ends 5 (some .boolean) rmX11_ends E [.ref (eA E 35), .int a1, .int a2] M (fun r M => nb r ∧ Q r M) := by
  refine CI.of hE (plainFor_of_name (by decide)) (Nat.le_of_ble_eq_true rfl) (fun x hz => ?_)
  unfold P_Mo_ends at h
  show G x E mX11_ends 0 0 0 [(0, .ref (eA E 35)), (1, .int a1), (2, .int a2)] [] M
  refine g_iloadn (k0 := 2) (q := 1) dX11_ends_0 rfl rfl rfl ?_
  refine g_bipush (q := 3) dX11_ends_1 kb_24 rfl ?_
  refine g_ic_ge (tgt := 8) (q := 6) dX11_ends_3 rfl rfl (fun hc10 => ?_) (fun hc10 => ?_)
  · replace h := h.1 hc10
    refine g_ldc (q := 10) dX11_ends_8 wm_1012 rfl ?_
    refine g_istoren (lv' := [(0, .ref (eA E 35)), (1, .int a1), (2, .int a2), (3, .int 65535)]) (q := 11) [1, 2, 3, 0] dX11_ends_10 rfl (by decide) rfl rfl ?_
    refine g_iconst (q := 12) dX11_ends_11 ki_0 rfl ?_
    refine g_istore (lv' := [(0, .ref (eA E 35)), (1, .int a1), (2, .int a2), (3, .int 65535), (4, .int 0)]) (q := 14) [1, 2, 3, 4, 0] dX11_ends_12 (by decide) rfl rfl ?_
    obtain ⟨n1, h⟩ := h
    exact g_X11_ends_14 hE hz n1 _ _ _ _ _ h
  · replace h := h.2 hc10
    refine g_iconst (q := 7) dX11_ends_6 ki_0 rfl ?_
    exact g_zret hz rfl rfl dX11_ends_7 h
set_option maxHeartbeats 4000000 in
set_option maxRecDepth 100000 in
theorem c_X11_lose {E : EX} (hE : EH E) {a1 : Int32} {M : Mem} {Q : Mem → Prop} (h : P_Mo_lose a1 M Q) : CU yX11_lose cX11_lose 2 none rmX11_lose E [.ref (eA E 35), .int a1] M Q := by
  refine CU.of hE (plainFor_of_name (by decide)) (Nat.le_of_ble_eq_true rfl) (fun x hz => ?_)
  unfold P_Mo_lose at h
  show G x E mX11_lose 0 0 0 [(0, .ref (eA E 35)), (1, .int a1)] [] M
  refine g_aloadn (k0 := 0) (q := 1) dX11_lose_0 rfl rfl rfl ?_
  refine g_get (v := .ref (eA E 39)) (q := 4) fg_X11_19_35 rfl dX11_lose_1 rfl ?_
  refine g_iloadn (k0 := 1) (q := 5) dX11_lose_4 rfl rfl rfl ?_
  have hv1 := h.1
  replace h := h.2
  refine g_iald (v := (M.1 39 a1.toNatClampNeg)) (q := 6) ar_39 hv1 rfl dX11_lose_5 rfl ?_
  refine g_bipush (q := 8) dX11_lose_6 kb_30 rfl ?_
  refine g_ic_lt (tgt := 21) (q := 11) dX11_lose_8 rfl rfl (fun hc2 => ?_) (fun hc2 => ?_)
  · replace h := h.1 hc2
    refine g_aloadn (k0 := 0) (q := 22) dX11_lose_21 rfl rfl rfl ?_
    refine g_get (v := .ref (eA E 39)) (q := 25) fg_X11_19_35 rfl dX11_lose_22 rfl ?_
    refine g_iloadn (k0 := 1) (q := 26) dX11_lose_25 rfl rfl rfl ?_
    refine g_iconst (q := 27) dX11_lose_26 ki_m1 rfl ?_
    refine g_iast (q := 28) ar_39 hv1 dX11_lose_27 rfl ?_
    exact g_vret hz rfl dX11_lose_28 h
  · replace h := h.2 hc2
    refine g_aloadn (k0 := 0) (q := 12) dX11_lose_11 rfl rfl rfl ?_
    refine g_dup (q := 13) dX11_lose_12 rfl rfl ?_
    refine g_get (v := .int (M.1 35 8)) (q := 16) fg_X11_105_35 rfl dX11_lose_13 rfl ?_
    refine g_iconst (q := 17) dX11_lose_16 ki_1 rfl ?_
    refine g_iadd (q := 18) dX11_lose_17 rfl ?_
    refine g_putI (q := 21) fp_X11_105_35 dX11_lose_18 rfl ?_
    refine g_aloadn (k0 := 0) (q := 22) dX11_lose_21 rfl rfl rfl ?_
    refine g_get (v := .ref (eA E 39)) (q := 25) fg_X11_19_35 rfl dX11_lose_22 rfl ?_
    refine g_iloadn (k0 := 1) (q := 26) dX11_lose_25 rfl rfl rfl ?_
    refine g_iconst (q := 27) dX11_lose_26 ki_m1 rfl ?_
    refine g_iast (q := 28) ar_39 hv1 dX11_lose_27 rfl ?_
    exact g_vret hz rfl dX11_lose_28 h
set_option maxHeartbeats 4000000 in
set_option maxRecDepth 100000 in
theorem c_X11_put {E : EX} (hE : EH E) {a1 : Int32} {a2 : Int32} {M : Mem} {Q : Mem → Prop} (h : P_Mo_put a1 a2 M Q) : CU yX11_put cX11_put 3 none rmX11_put E [.ref (eA E 35), .int a1, .int a2] M Q := by
  refine CU.of hE (plainFor_of_name (by decide)) (Nat.le_of_ble_eq_true rfl) (fun x hz => ?_)
  unfold P_Mo_put at h
  show G x E mX11_put 0 0 0 [(0, .ref (eA E 35)), (1, .int a1), (2, .int a2)] [] M
  refine g_aloadn (k0 := 0) (q := 1) dX11_put_0 rfl rfl rfl ?_
  refine g_get (v := .ref (eA E 39)) (q := 4) fg_X11_19_35 rfl dX11_put_1 rfl ?_
  refine g_iloadn (k0 := 1) (q := 5) dX11_put_4 rfl rfl rfl ?_
  have hv1 := h.1
  replace h := h.2
  refine g_iald (v := (M.1 39 a1.toNatClampNeg)) (q := 6) ar_39 hv1 rfl dX11_put_5 rfl ?_
  refine g_iconst (q := 7) dX11_put_6 ki_m1 rfl ?_
  refine g_ic_ne (tgt := 11) (q := 10) dX11_put_7 rfl rfl (fun hc5 => ?_) (fun hc5 => ?_)
  · replace h := h.1 hc5
    refine g_aloadn (k0 := 0) (q := 12) dX11_put_11 rfl rfl rfl ?_
    refine g_get (v := .ref (eA E 39)) (q := 15) fg_X11_19_35 rfl dX11_put_12 rfl ?_
    refine g_iloadn (k0 := 1) (q := 16) dX11_put_15 rfl rfl rfl ?_
    refine g_iald (v := (M.1 39 a1.toNatClampNeg)) (q := 17) ar_39 hv1 rfl dX11_put_16 rfl ?_
    refine g_sipush (q := 20) dX11_put_17 ks_300 rfl ?_
    refine g_ic_ne (tgt := 29) (q := 23) dX11_put_20 rfl rfl (fun hc4 => ?_) (fun hc4 => ?_)
    · replace h := h.1 hc4
      refine g_aloadn (k0 := 0) (q := 30) dX11_put_29 rfl rfl rfl ?_
      refine g_get (v := .ref (eA E 40)) (q := 33) fg_X11_22_35 rfl dX11_put_30 rfl ?_
      refine g_sipush (q := 36) dX11_put_33 ks_300 rfl ?_
      refine g_iloadn (k0 := 1) (q := 37) dX11_put_36 rfl rfl rfl ?_
      refine g_imul (q := 38) dX11_put_37 rfl ?_
      refine g_aloadn (k0 := 0) (q := 39) dX11_put_38 rfl rfl rfl ?_
      refine g_get (v := .ref (eA E 39)) (q := 42) fg_X11_19_35 rfl dX11_put_39 rfl ?_
      refine g_iloadn (k0 := 1) (q := 43) dX11_put_42 rfl rfl rfl ?_
      refine g_iald (v := (M.1 39 a1.toNatClampNeg)) (q := 44) ar_39 hv1 rfl dX11_put_43 rfl ?_
      refine g_iadd (q := 45) dX11_put_44 rfl ?_
      refine g_iloadn (k0 := 2) (q := 46) dX11_put_45 rfl rfl rfl ?_
      have hv2 := h.1
      replace h := h.2
      refine g_iast (q := 47) ar_40 hv2 dX11_put_46 rfl ?_
      refine g_aloadn (k0 := 0) (q := 48) dX11_put_47 rfl rfl rfl ?_
      refine g_get (v := .ref (eA E 39)) (q := 51) fg_X11_19_35 rfl dX11_put_48 rfl ?_
      refine g_iloadn (k0 := 1) (q := 52) dX11_put_51 rfl rfl rfl ?_
      refine g_dup2 (q := 53) dX11_put_52 rfl rfl rfl ?_
      refine g_iald (v := (M.1 39 a1.toNatClampNeg)) (q := 54) ar_39 hv1 rfl dX11_put_53 rfl ?_
      refine g_iconst (q := 55) dX11_put_54 ki_1 rfl ?_
      refine g_iadd (q := 56) dX11_put_55 rfl ?_
      refine g_iast (q := 57) ar_39 hv1 dX11_put_56 rfl ?_
      exact g_vret hz rfl dX11_put_57 h
    · replace h := h.2 hc4
      refine g_aloadn (k0 := 0) (q := 24) dX11_put_23 rfl rfl rfl ?_
      refine g_iloadn (k0 := 1) (q := 25) dX11_put_24 rfl rfl rfl ?_
      refine g_callv (q := 28) [.int a1] [] cv_X11_108 rc_35 (c_X11_lose hE h) rfl rfl ⟨rfl, rfl, Nat.le_of_ble_eq_true rfl, Nat.le_of_ble_eq_true rfl, Nat.zero_le _, Nat.zero_le _⟩ (Nat.le_of_ble_eq_true rfl) dX11_put_25 rfl (fun M3 h => ?_)
      exact g_vret hz rfl dX11_put_28 h
  · replace h := h.2 hc5
    exact g_vret hz rfl dX11_put_10 h
set_option maxHeartbeats 4000000 in
set_option maxRecDepth 100000 in
theorem g_X11_hears_74 {x : GX} {E : EX} (hE : EH E) {Q : Int32 → Mem → Prop} (hz : ZI x E (fun r M => nb r ∧ Q r M)) : ∀ (v1 : Int32) (v3 : Int32) (M : Mem), P_Mo_hears_74 Q v1 v3 M → G x E mX11_hears 0 0 74 [(0, .ref (eA E 35)), (1, .int v1), (3, .int v3)] [] M := by
  intro v1 v3 M h
  unfold P_Mo_hears_74 at h
  refine g_iloadn (k0 := 2) (q := 75) dX11_hears_74 rfl rfl rfl ?_
  refine g_bipush (q := 77) dX11_hears_75 kb_6 rfl ?_
  refine g_ic_eq (tgt := 82) (q := 80) dX11_hears_77 rfl rfl (fun hc5 => ?_) (fun hc5 => ?_)
  · replace h := h.1 hc5
    refine g_aloadn (k0 := 0) (q := 83) dX11_hears_82 rfl rfl rfl ?_
    refine g_iloadn (k0 := 1) (q := 84) dX11_hears_83 rfl rfl rfl ?_
    refine g_aloadn (k0 := 0) (q := 85) dX11_hears_84 rfl rfl rfl ?_
    refine g_get (v := .ref (eA E 39)) (q := 88) fg_X11_19_35 rfl dX11_hears_85 rfl ?_
    refine g_iloadn (k0 := 1) (q := 89) dX11_hears_88 rfl rfl rfl ?_
    have hv2 := h.1
    replace h := h.2
    refine g_iald (v := (M.1 39 v1.toNatClampNeg)) (q := 90) ar_39 hv2 rfl dX11_hears_89 rfl ?_
    refine g_bipush (q := 92) dX11_hears_90 kb_6 rfl ?_
    refine g_isub (q := 93) dX11_hears_92 rfl ?_
    refine g_calli (q := 96) [.int v1, .int ((M.1 39 v1.toNatClampNeg) - 6)] [] cv_X11_115 rc_35 (c_X11_ends hE h) rfl rfl ⟨rfl, rfl, Nat.le_of_ble_eq_true rfl, Nat.le_of_ble_eq_true rfl, Nat.zero_le _, Nat.zero_le _⟩ (Nat.le_of_ble_eq_true rfl) dX11_hears_93 rfl (fun r4 M3 h => ?_)
    obtain ⟨hb_r4, h⟩ := h
    refine g_istore (lv' := [(0, .ref (eA E 35)), (1, .int v1), (3, .int v3), (4, .int r4)]) (q := 98) [1, 2, 3, 0] dX11_hears_96 (by decide) rfl rfl ?_
    refine g_aloadn (k0 := 0) (q := 99) dX11_hears_98 rfl rfl rfl ?_
    refine g_get (v := .ref (eA E 39)) (q := 102) fg_X11_19_35 rfl dX11_hears_99 rfl ?_
    refine g_iloadn (k0 := 1) (q := 103) dX11_hears_102 rfl rfl rfl ?_
    refine g_iconst (q := 104) dX11_hears_103 ki_0 rfl ?_
    refine g_iast (q := 105) ar_39 hv2 dX11_hears_104 rfl ?_
    refine g_iload (k0 := 3) (q := 107) dX11_hears_105 rfl rfl ?_
    exact g_zret hz rfl hb_r4 dX11_hears_107 h
  · replace h := h.2 hc5
    refine g_iconst (q := 81) dX11_hears_80 ki_0 rfl ?_
    exact g_zret hz rfl rfl dX11_hears_81 h
set_option maxHeartbeats 4000000 in
set_option maxRecDepth 100000 in
theorem g_X11_hears_31 {x : GX} {E : EX} (hE : EH E) {Q : Int32 → Mem → Prop} (hz : ZI x E (fun r M => nb r ∧ Q r M)) : ∀ (v1 : Int32) (M : Mem), P_Mo_hears_31 Q v1 M → G x E mX11_hears 0 0 31 [(0, .ref (eA E 35)), (1, .int v1)] [] M := by
  intro v1 M h
  unfold P_Mo_hears_31 at h
  refine g_aloadn (k0 := 0) (q := 32) dX11_hears_31 rfl rfl rfl ?_
  refine g_get (v := .ref (eA E 38)) (q := 35) fg_X11_16_35 rfl dX11_hears_32 rfl ?_
  refine g_iloadn (k0 := 1) (q := 36) dX11_hears_35 rfl rfl rfl ?_
  have hv9 := h.1
  replace h := h.2
  refine g_iald (v := (M.1 38 v1.toNatClampNeg)) (q := 37) ar_38 hv9 rfl dX11_hears_36 rfl ?_
  refine g_bipush (q := 39) dX11_hears_37 kb_7 rfl ?_
  refine g_ic_ne (tgt := 47) (q := 42) dX11_hears_39 rfl rfl (fun hc11 => ?_) (fun hc11 => ?_)
  · replace h := h.1 hc11
    refine g_iconst (q := 48) dX11_hears_47 ki_0 rfl ?_
    exact g_zret hz rfl rfl dX11_hears_48 h
  · replace h := h.2 hc11
    refine g_aloadn (k0 := 0) (q := 43) dX11_hears_42 rfl rfl rfl ?_
    refine g_iloadn (k0 := 1) (q := 44) dX11_hears_43 rfl rfl rfl ?_
    refine g_callv (q := 47) [.int v1] [] cv_X11_108 rc_35 (c_X11_lose hE h) rfl rfl ⟨rfl, rfl, Nat.le_of_ble_eq_true rfl, Nat.le_of_ble_eq_true rfl, Nat.zero_le _, Nat.zero_le _⟩ (Nat.le_of_ble_eq_true rfl) dX11_hears_44 rfl (fun M10 h => ?_)
    refine g_iconst (q := 48) dX11_hears_47 ki_0 rfl ?_
    exact g_zret hz rfl rfl dX11_hears_48 h
set_option maxHeartbeats 4000000 in
set_option maxRecDepth 100000 in
theorem c_X11_hears {E : EX} (hE : EH E) {a1 : Int32} {a2 : Int32} {M : Mem} {Q : Int32 → Mem → Prop} (h : P_Mo_hears a1 a2 M Q) : CI yX11_hears cX11_hears 5 (some .boolean) rmX11_hears E [.ref (eA E 35), .int a1, .int a2] M (fun r M => nb r ∧ Q r M) := by
  refine CI.of hE (plainFor_of_name (by decide)) (Nat.le_of_ble_eq_true rfl) (fun x hz => ?_)
  unfold P_Mo_hears at h
  show G x E mX11_hears 0 0 0 [(0, .ref (eA E 35)), (1, .int a1), (2, .int a2)] [] M
  refine g_iloadn (k0 := 2) (q := 1) dX11_hears_0 rfl rfl rfl ?_
  refine g_iconst (q := 2) dX11_hears_1 ki_1 rfl ?_
  refine g_ic_ne (tgt := 49) (q := 5) dX11_hears_2 rfl rfl (fun hc14 => ?_) (fun hc14 => ?_)
  · replace h := h.1 hc14
    refine g_aloadn (k0 := 0) (q := 50) dX11_hears_49 rfl rfl rfl ?_
    refine g_get (v := .ref (eA E 38)) (q := 53) fg_X11_16_35 rfl dX11_hears_50 rfl ?_
    refine g_iloadn (k0 := 1) (q := 54) dX11_hears_53 rfl rfl rfl ?_
    have hv1 := h.1
    replace h := h.2
    refine g_iald (v := (M.1 38 a1.toNatClampNeg)) (q := 55) ar_38 hv1 rfl dX11_hears_54 rfl ?_
    refine g_istoren (lv' := [(0, .ref (eA E 35)), (1, .int a1), (2, .int a2), (3, .int (M.1 38 a1.toNatClampNeg))]) (q := 56) [1, 2, 3, 0] dX11_hears_55 rfl (by decide) rfl rfl ?_
    refine g_aloadn (k0 := 0) (q := 57) dX11_hears_56 rfl rfl rfl ?_
    refine g_get (v := .ref (eA E 38)) (q := 60) fg_X11_16_35 rfl dX11_hears_57 rfl ?_
    refine g_iloadn (k0 := 1) (q := 61) dX11_hears_60 rfl rfl rfl ?_
    refine g_iconst (q := 62) dX11_hears_61 ki_0 rfl ?_
    refine g_iast (q := 63) ar_38 hv1 dX11_hears_62 rfl ?_
    refine g_iloadn (k0 := 3) (q := 64) dX11_hears_63 rfl rfl rfl ?_
    refine g_iconst (q := 65) dX11_hears_64 ki_5 rfl ?_
    refine g_ic_ge (tgt := 74) (q := 68) dX11_hears_65 rfl rfl (fun hc7 => ?_) (fun hc7 => ?_)
    · replace h := h.1 hc7
      refine g_lv (lv' := [(0, .ref (eA E 35)), (1, .int a1), (3, .int (M.1 38 a1.toNatClampNeg))]) [0, 1, 3] rfl ?_
      exact g_X11_hears_74 hE hz _ _ _ h
    · replace h := h.2 hc7
      refine g_aloadn (k0 := 0) (q := 69) dX11_hears_68 rfl rfl rfl ?_
      refine g_iloadn (k0 := 1) (q := 70) dX11_hears_69 rfl rfl rfl ?_
      refine g_iconst (q := 71) dX11_hears_70 ki_0 rfl ?_
      refine g_callv (q := 74) [.int a1, .int 0] [] cv_X11_111 rc_35 (c_X11_put hE h) rfl rfl ⟨rfl, rfl, Nat.le_of_ble_eq_true rfl, Nat.le_of_ble_eq_true rfl, Nat.zero_le _, Nat.zero_le _⟩ (Nat.le_of_ble_eq_true rfl) dX11_hears_71 rfl (fun M6 h => ?_)
      refine g_lv (lv' := [(0, .ref (eA E 35)), (1, .int a1), (3, .int (M.1 38 a1.toNatClampNeg))]) [0, 1, 3] rfl ?_
      exact g_X11_hears_74 hE hz _ _ _ h
  · replace h := h.2 hc14
    refine g_aloadn (k0 := 0) (q := 6) dX11_hears_5 rfl rfl rfl ?_
    refine g_get (v := .ref (eA E 38)) (q := 9) fg_X11_16_35 rfl dX11_hears_6 rfl ?_
    refine g_iloadn (k0 := 1) (q := 10) dX11_hears_9 rfl rfl rfl ?_
    refine g_dup2 (q := 11) dX11_hears_10 rfl rfl rfl ?_
    have hv8 := h.1
    replace h := h.2
    refine g_iald (v := (M.1 38 a1.toNatClampNeg)) (q := 12) ar_38 hv8 rfl dX11_hears_11 rfl ?_
    refine g_iconst (q := 13) dX11_hears_12 ki_1 rfl ?_
    refine g_iadd (q := 14) dX11_hears_13 rfl ?_
    refine g_iast (q := 15) ar_38 hv8 dX11_hears_14 rfl ?_
    refine g_aloadn (k0 := 0) (q := 16) dX11_hears_15 rfl rfl rfl ?_
    refine g_get (v := .ref (eA E 38)) (q := 19) fg_X11_16_35 rfl dX11_hears_16 rfl ?_
    refine g_iloadn (k0 := 1) (q := 20) dX11_hears_19 rfl rfl rfl ?_
    refine g_iald (v := ((putI M 38 a1.toNatClampNeg ((M.1 38 a1.toNatClampNeg) + 1)).1 38 a1.toNatClampNeg)) (q := 21) ar_38 hv8 rfl dX11_hears_20 rfl ?_
    refine g_iconst (q := 22) dX11_hears_21 ki_5 rfl ?_
    refine g_ic_gt (tgt := 31) (q := 25) dX11_hears_22 rfl rfl (fun hc13 => ?_) (fun hc13 => ?_)
    · replace h := h.1 hc13
      refine g_lv (lv' := [(0, .ref (eA E 35)), (1, .int a1)]) [0, 1] rfl ?_
      exact g_X11_hears_31 hE hz _ _ h
    · replace h := h.2 hc13
      refine g_aloadn (k0 := 0) (q := 26) dX11_hears_25 rfl rfl rfl ?_
      refine g_iloadn (k0 := 1) (q := 27) dX11_hears_26 rfl rfl rfl ?_
      refine g_iconst (q := 28) dX11_hears_27 ki_1 rfl ?_
      refine g_callv (q := 31) [.int a1, .int 1] [] cv_X11_111 rc_35 (c_X11_put hE h) rfl rfl ⟨rfl, rfl, Nat.le_of_ble_eq_true rfl, Nat.le_of_ble_eq_true rfl, Nat.zero_le _, Nat.zero_le _⟩ (Nat.le_of_ble_eq_true rfl) dX11_hears_28 rfl (fun M12 h => ?_)
      refine g_lv (lv' := [(0, .ref (eA E 35)), (1, .int a1)]) [0, 1] rfl ?_
      exact g_X11_hears_31 hE hz _ _ h
set_option maxHeartbeats 4000000 in
set_option maxRecDepth 100000 in
theorem g_X11_hear_79 {x : GX} {E : EX} (hE : EH E) {Q : Int32 → Mem → Prop} (hz : ZI x E Q) {K31 : Int32 → Int32 → Int32 → Int32 → Mem → Prop} (hK31 : ∀ (v1 : Int32) (v2 : Int32) (v3 : Int32) (v4 : Int32) (M : Mem), K31 v1 v2 v3 v4 M → G x E mX11_hear 0 0 31 [(0, .ref (eA E 35)), (1, .int v1), (2, .int v2), (3, .int v3), (4, .int v4)] [] M) : ∀ (v1 : Int32) (v2 : Int32) (v3 : Int32) (v4 : Int32) (v5 : Int32) (s0 : Int32) (M : Mem), P_Mo_hear_79 K31 Q v1 v2 v3 v4 v5 s0 M → G x E mX11_hear 0 0 79 [(0, .ref (eA E 35)), (1, .int v1), (2, .int v2), (3, .int v3), (4, .int v4), (5, .int v5)] [.int s0] M := by
  intro v1 v2 v3 v4 v5 s0 M h
  unfold P_Mo_hear_79 at h
  refine g_istore (lv' := [(0, .ref (eA E 35)), (1, .int v1), (2, .int v2), (3, .int v3), (4, .int v4), (5, .int v5), (6, .int s0)]) (q := 81) [1, 2, 3, 4, 5, 6, 0] dX11_hear_79 (by decide) rfl rfl ?_
  refine g_aloadn (k0 := 0) (q := 82) dX11_hear_81 rfl rfl rfl ?_
  refine g_get (v := .ref (eA E 37)) (q := 85) fg_X11_13_35 rfl dX11_hear_82 rfl ?_
  refine g_iloadn (k0 := 1) (q := 86) dX11_hear_85 rfl rfl rfl ?_
  refine g_iload (k0 := 5) (q := 88) dX11_hear_86 rfl rfl ?_
  have hv3 := h.1
  replace h := h.2
  refine g_iast (q := 89) ar_37 hv3 dX11_hear_88 rfl ?_
  refine g_aloadn (k0 := 0) (q := 90) dX11_hear_89 rfl rfl rfl ?_
  refine g_iloadn (k0 := 1) (q := 91) dX11_hear_90 rfl rfl rfl ?_
  refine g_iload (k0 := 6) (q := 93) dX11_hear_91 rfl rfl ?_
  refine g_calli (q := 96) [.int v1, .int s0] [] cv_X11_129 rc_35 (c_X11_hears hE h) rfl rfl ⟨rfl, rfl, Nat.le_of_ble_eq_true rfl, Nat.le_of_ble_eq_true rfl, Nat.zero_le _, Nat.zero_le _⟩ (Nat.le_of_ble_eq_true rfl) dX11_hear_93 rfl (fun r5 M4 h => ?_)
  obtain ⟨hb_r5, h⟩ := h
  refine g_if_eq (tgt := 102) (q := 99) dX11_hear_96 rfl rfl (fun hc6 => ?_) (fun hc6 => ?_)
  · replace h := h.1 hc6
    refine g_iinc (lv' := [(0, .ref (eA E 35)), (1, .int v1), (2, .int v2), (3, .int v3), (4, .int (v4 + 1)), (5, .int v5), (6, .int s0)]) (k0 := 4) (w := (v4 + 1)) (q := 105) [1, 2, 3, 4, 0, 5, 6] dX11_hear_102 rfl rfl (by decide) rfl rfl ?_
    refine g_goto (tgt := 31) dX11_hear_105 rfl ?_
    refine g_lv (lv' := [(0, .ref (eA E 35)), (1, .int v1), (2, .int v2), (3, .int v3), (4, .int (v4 + 1))]) [0, 1, 2, 3, 4] rfl ?_
    exact hK31 _ _ _ _ _ h
  · replace h := h.2 hc6
    refine g_iinc (lv' := [(0, .ref (eA E 35)), (1, .int v1), (2, .int v2), (3, .int (v3 + 1)), (4, .int v4), (5, .int v5), (6, .int s0)]) (k0 := 3) (w := (v3 + 1)) (q := 102) [1, 2, 3, 0, 4, 5, 6] dX11_hear_99 rfl rfl (by decide) rfl rfl ?_
    refine g_iinc (lv' := [(0, .ref (eA E 35)), (1, .int v1), (2, .int v2), (3, .int (v3 + 1)), (4, .int (v4 + 1)), (5, .int v5), (6, .int s0)]) (k0 := 4) (w := (v4 + 1)) (q := 105) [1, 2, 3, 4, 0, 5, 6] dX11_hear_102 rfl rfl (by decide) rfl rfl ?_
    refine g_goto (tgt := 31) dX11_hear_105 rfl ?_
    refine g_lv (lv' := [(0, .ref (eA E 35)), (1, .int v1), (2, .int v2), (3, .int (v3 + 1)), (4, .int (v4 + 1))]) [0, 1, 2, 3, 4] rfl ?_
    exact hK31 _ _ _ _ _ h
set_option maxHeartbeats 4000000 in
set_option maxRecDepth 100000 in
theorem g_X11_hear_31 {x : GX} {E : EX} (hE : EH E) {Q : Int32 → Mem → Prop} (hz : ZI x E Q) : ∀ (n : Nat) (v1 : Int32) (v2 : Int32) (v3 : Int32) (v4 : Int32) (M : Mem), P_Mo_hear_31 Q n v1 v2 v3 v4 M → G x E mX11_hear 0 0 31 [(0, .ref (eA E 35)), (1, .int v1), (2, .int v2), (3, .int v3), (4, .int v4)] [] M := by
  intro n
  induction n with
  | zero => intro _ _ _ _ _ h; exact h.elim
  | succ n ih =>
    intro v1 v2 v3 v4 M h
    unfold P_Mo_hear_31 at h
    refine g_iload (k0 := 4) (q := 33) dX11_hear_31 rfl rfl ?_
    refine g_bipush (q := 35) dX11_hear_33 kb_8 rfl ?_
    refine g_iloadn (k0 := 2) (q := 36) dX11_hear_35 rfl rfl rfl ?_
    refine g_imul (q := 37) dX11_hear_36 rfl ?_
    refine g_ic_ge (tgt := 108) (q := 40) dX11_hear_37 rfl rfl (fun hc8 => ?_) (fun hc8 => ?_)
    · replace h := h.1 hc8
      refine g_iloadn (k0 := 3) (q := 109) dX11_hear_108 rfl rfl rfl ?_
      exact g_iret hz rfl dX11_hear_109 h
    · replace h := h.2 hc8
      refine g_aloadn (k0 := 0) (q := 41) dX11_hear_40 rfl rfl rfl ?_
      refine g_get (v := .ref (eA E 36)) (q := 44) fg_X11_7_35 rfl dX11_hear_41 rfl ?_
      refine g_iload (k0 := 4) (q := 46) dX11_hear_44 rfl rfl ?_
      refine g_bipush (q := 48) dX11_hear_46 kb_8 rfl ?_
      refine g_idiv (q := 49) dX11_hear_48 (by decide) rfl ?_
      have hv1 := h.1
      replace h := h.2
      refine g_iald (v := (M.1 36 ((v4 / 8)).toNatClampNeg)) (q := 50) ar_36 hv1 rfl dX11_hear_49 rfl ?_
      refine g_bipush (q := 52) dX11_hear_50 kb_7 rfl ?_
      refine g_iload (k0 := 4) (q := 54) dX11_hear_52 rfl rfl ?_
      refine g_bipush (q := 56) dX11_hear_54 kb_8 rfl ?_
      refine g_irem (q := 57) dX11_hear_56 (by decide) rfl ?_
      refine g_isub (q := 58) dX11_hear_57 rfl ?_
      refine g_ishr (q := 59) dX11_hear_58 rfl ?_
      refine g_iconst (q := 60) dX11_hear_59 ki_1 rfl ?_
      refine g_iand (q := 61) dX11_hear_60 rfl ?_
      refine g_istore (lv' := [(0, .ref (eA E 35)), (1, .int v1), (2, .int v2), (3, .int v3), (4, .int v4), (5, .int (((M.1 36 ((v4 / 8)).toNatClampNeg) >>> ((7 - (v4 - v4 / 8 * 8)) &&& 31)) &&& 1))]) (q := 63) [1, 2, 3, 4, 5, 0] dX11_hear_61 (by decide) rfl rfl ?_
      refine g_iload (k0 := 5) (q := 65) dX11_hear_63 rfl rfl ?_
      refine g_aloadn (k0 := 0) (q := 66) dX11_hear_65 rfl rfl rfl ?_
      refine g_get (v := .ref (eA E 37)) (q := 69) fg_X11_13_35 rfl dX11_hear_66 rfl ?_
      refine g_iloadn (k0 := 1) (q := 70) dX11_hear_69 rfl rfl rfl ?_
      have hv2 := h.1
      replace h := h.2
      refine g_iald (v := (M.1 37 v1.toNatClampNeg)) (q := 71) ar_37 hv2 rfl dX11_hear_70 rfl ?_
      refine g_ic_ne (tgt := 78) (q := 74) dX11_hear_71 rfl rfl (fun hc7 => ?_) (fun hc7 => ?_)
      · replace h := h.1 hc7
        refine g_iconst (q := 79) dX11_hear_78 ki_0 rfl ?_
        exact g_X11_hear_79 hE hz ih _ _ _ _ _ _ _ h
      · replace h := h.2 hc7
        refine g_iconst (q := 75) dX11_hear_74 ki_1 rfl ?_
        refine g_goto (tgt := 79) dX11_hear_75 rfl ?_
        exact g_X11_hear_79 hE hz ih _ _ _ _ _ _ _ h
set_option maxHeartbeats 4000000 in
set_option maxRecDepth 100000 in
theorem c_X11_hear {E : EX} (hE : EH E) {a1 : Int32} {M : Mem} {Q : Int32 → Mem → Prop} (h : P_Mo_hear a1 M Q) : CI yX11_hear cX11_hear 7 (some .int) rmX11_hear E [.ref (eA E 35), .int a1] M Q := by
  refine CI.of hE (plainFor_of_name (by decide)) (Nat.le_of_ble_eq_true rfl) (fun x hz => ?_)
  unfold P_Mo_hear at h
  show G x E mX11_hear 0 0 0 [(0, .ref (eA E 35)), (1, .int a1)] [] M
  refine g_aloadn (k0 := 0) (q := 1) dX11_hear_0 rfl rfl rfl ?_
  refine g_iconst (q := 2) dX11_hear_1 ki_0 rfl ?_
  refine g_putI (q := 5) fp_X11_94_35 dX11_hear_2 rfl ?_
  refine g_iloadn (k0 := 1) (q := 6) dX11_hear_5 rfl rfl rfl ?_
  refine g_if_lt (tgt := 14) (q := 9) dX11_hear_6 rfl rfl (fun hc11 => ?_) (fun hc11 => ?_)
  · replace h := h.1 hc11
    refine g_iconst (q := 15) dX11_hear_14 ki_m1 rfl ?_
    exact g_iret hz rfl dX11_hear_15 h
  · replace h := h.2 hc11
    refine g_iloadn (k0 := 1) (q := 10) dX11_hear_9 rfl rfl rfl ?_
    refine g_iconst (q := 11) dX11_hear_10 ki_1 rfl ?_
    refine g_ic_le (tgt := 16) (q := 14) dX11_hear_11 rfl rfl (fun hc10 => ?_) (fun hc10 => ?_)
    · replace h := h.1 hc10
      refine g_aloadn (k0 := 0) (q := 17) dX11_hear_16 rfl rfl rfl ?_
      refine g_get (v := .int (M.1 35 2)) (q := 20) fg_X11_97_35 rfl dX11_hear_17 rfl ?_
      refine g_istoren (lv' := [(0, .ref (eA E 35)), (1, .int a1), (2, .int (M.1 35 2))]) (q := 21) [1, 2, 0] dX11_hear_20 rfl (by decide) rfl rfl ?_
      refine g_aloadn (k0 := 0) (q := 22) dX11_hear_21 rfl rfl rfl ?_
      refine g_iconst (q := 23) dX11_hear_22 ki_0 rfl ?_
      refine g_putI (q := 26) fp_X11_97_35 dX11_hear_23 rfl ?_
      refine g_iconst (q := 27) dX11_hear_26 ki_0 rfl ?_
      refine g_istoren (lv' := [(0, .ref (eA E 35)), (1, .int a1), (2, .int (M.1 35 2)), (3, .int 0)]) (q := 28) [1, 2, 3, 0] dX11_hear_27 rfl (by decide) rfl rfl ?_
      refine g_iconst (q := 29) dX11_hear_28 ki_0 rfl ?_
      refine g_istore (lv' := [(0, .ref (eA E 35)), (1, .int a1), (2, .int (M.1 35 2)), (3, .int 0), (4, .int 0)]) (q := 31) [1, 2, 3, 4, 0] dX11_hear_29 (by decide) rfl rfl ?_
      obtain ⟨n1, h⟩ := h
      exact g_X11_hear_31 hE hz n1 _ _ _ _ _ h
    · replace h := h.2 hc10
      refine g_iconst (q := 15) dX11_hear_14 ki_m1 rfl ?_
      exact g_iret hz rfl dX11_hear_15 h
set_option maxHeartbeats 4000000 in
set_option maxRecDepth 100000 in
theorem c_X11_wait {E : EX} (hE : EH E) {a1 : Int32} {M : Mem} {Q : Int32 → Mem → Prop} (h : P_Mo_wait a1 M Q) : CI yX11_wait cX11_wait 2 (some .boolean) rmX11_wait E [.ref (eA E 35), .int a1] M (fun r M => nb r ∧ Q r M) := by
  refine CI.of hE (plainFor_of_name (by decide)) (Nat.le_of_ble_eq_true rfl) (fun x hz => ?_)
  unfold P_Mo_wait at h
  show G x E mX11_wait 0 0 0 [(0, .ref (eA E 35)), (1, .int a1)] [] M
  refine g_aloadn (k0 := 0) (q := 1) dX11_wait_0 rfl rfl rfl ?_
  refine g_iconst (q := 2) dX11_wait_1 ki_0 rfl ?_
  refine g_putI (q := 5) fp_X11_94_35 dX11_wait_2 rfl ?_
  refine g_iloadn (k0 := 1) (q := 6) dX11_wait_5 rfl rfl rfl ?_
  refine g_if_lt (tgt := 26) (q := 9) dX11_wait_6 rfl rfl (fun hc3 => ?_) (fun hc3 => ?_)
  · replace h := h.1 hc3
    refine g_iconst (q := 27) dX11_wait_26 ki_0 rfl ?_
    exact g_zret hz rfl rfl dX11_wait_27 h
  · replace h := h.2 hc3
    refine g_iloadn (k0 := 1) (q := 10) dX11_wait_9 rfl rfl rfl ?_
    refine g_ldc (q := 12) dX11_wait_10 wm_1046 rfl ?_
    refine g_ic_gt (tgt := 26) (q := 15) dX11_wait_12 rfl rfl (fun hc2 => ?_) (fun hc2 => ?_)
    · replace h := h.1 hc2
      refine g_iconst (q := 27) dX11_wait_26 ki_0 rfl ?_
      exact g_zret hz rfl rfl dX11_wait_27 h
    · replace h := h.2 hc2
      refine g_aloadn (k0 := 0) (q := 16) dX11_wait_15 rfl rfl rfl ?_
      refine g_get (v := .int (M.1 35 7)) (q := 19) fg_X11_133_35 rfl dX11_wait_16 rfl ?_
      refine g_iloadn (k0 := 1) (q := 20) dX11_wait_19 rfl rfl rfl ?_
      refine g_iadd (q := 21) dX11_wait_20 rfl ?_
      refine g_ldc (q := 23) dX11_wait_21 wm_1047 rfl ?_
      refine g_ic_le (tgt := 28) (q := 26) dX11_wait_23 rfl rfl (fun hc1 => ?_) (fun hc1 => ?_)
      · replace h := h.1 hc1
        refine g_aloadn (k0 := 0) (q := 29) dX11_wait_28 rfl rfl rfl ?_
        refine g_dup (q := 30) dX11_wait_29 rfl rfl ?_
        refine g_get (v := .int (M.1 35 7)) (q := 33) fg_X11_133_35 rfl dX11_wait_30 rfl ?_
        refine g_iloadn (k0 := 1) (q := 34) dX11_wait_33 rfl rfl rfl ?_
        refine g_iadd (q := 35) dX11_wait_34 rfl ?_
        refine g_putI (q := 38) fp_X11_133_35 dX11_wait_35 rfl ?_
        refine g_iconst (q := 39) dX11_wait_38 ki_1 rfl ?_
        exact g_zret hz rfl rfl dX11_wait_39 h
      · replace h := h.2 hc1
        refine g_iconst (q := 27) dX11_wait_26 ki_0 rfl ?_
        exact g_zret hz rfl rfl dX11_wait_27 h
set_option maxHeartbeats 4000000 in
set_option maxRecDepth 100000 in
theorem c_X11_refuse {E : EX} (hE : EH E) {M : Mem} {Q : Int32 → Mem → Prop} (h : P_Mo_refuse  M Q) : CI yX11_refuse cX11_refuse 1 (some .int) rmX11_refuse E [.ref (eA E 35)] M Q := by
  refine CI.of hE (plainFor_of_name (by decide)) (Nat.le_of_ble_eq_true rfl) (fun x hz => ?_)
  unfold P_Mo_refuse at h
  show G x E mX11_refuse 0 0 0 [(0, .ref (eA E 35))] [] M
  refine g_aloadn (k0 := 0) (q := 1) dX11_refuse_0 rfl rfl rfl ?_
  refine g_iconst (q := 2) dX11_refuse_1 ki_1 rfl ?_
  refine g_putI (q := 5) fp_X11_94_35 dX11_refuse_2 rfl ?_
  refine g_iconst (q := 6) dX11_refuse_5 ki_0 rfl ?_
  exact g_iret hz rfl dX11_refuse_6 h
set_option maxHeartbeats 4000000 in
set_option maxRecDepth 100000 in
theorem c_X11_message {E : EX} (hE : EH E) {a1 : Int32} {a2 : Int32} {M : Mem} {Q : Int32 → Mem → Prop} (h : P_Mo_message a1 a2 M Q) : CI yX11_message cX11_message 3 (some .int) rmX11_message E [.ref (eA E 35), .int a1, .int a2] M Q := by
  refine CI.of hE (plainFor_of_name (by decide)) (Nat.le_of_ble_eq_true rfl) (fun x hz => ?_)
  unfold P_Mo_message at h
  show G x E mX11_message 0 0 0 [(0, .ref (eA E 35)), (1, .int a1), (2, .int a2)] [] M
  refine g_iloadn (k0 := 1) (q := 1) dX11_message_0 rfl rfl rfl ?_
  refine g_if_lt (tgt := 22) (q := 4) dX11_message_1 rfl rfl (fun hc13 => ?_) (fun hc13 => ?_)
  · replace h := h.1 hc13
    refine g_aloadn (k0 := 0) (q := 23) dX11_message_22 rfl rfl rfl ?_
    refine g_calli (q := 26) [] [] cv_X11_159 rc_35 (c_X11_refuse hE h) rfl rfl ⟨rfl, rfl, Nat.le_of_ble_eq_true rfl, Nat.le_of_ble_eq_true rfl, Nat.zero_le _, Nat.zero_le _⟩ (Nat.le_of_ble_eq_true rfl) dX11_message_23 rfl (fun r2 M1 h => ?_)
    exact g_iret hz rfl dX11_message_26 h
  · replace h := h.2 hc13
    refine g_iloadn (k0 := 1) (q := 5) dX11_message_4 rfl rfl rfl ?_
    refine g_aloadn (k0 := 0) (q := 6) dX11_message_5 rfl rfl rfl ?_
    refine g_get (v := .int (M.1 35 11)) (q := 9) fg_X11_153_35 rfl dX11_message_6 rfl ?_
    refine g_ic_ge (tgt := 22) (q := 12) dX11_message_9 rfl rfl (fun hc12 => ?_) (fun hc12 => ?_)
    · replace h := h.1 hc12
      refine g_aloadn (k0 := 0) (q := 23) dX11_message_22 rfl rfl rfl ?_
      refine g_calli (q := 26) [] [] cv_X11_159 rc_35 (c_X11_refuse hE h) rfl rfl ⟨rfl, rfl, Nat.le_of_ble_eq_true rfl, Nat.le_of_ble_eq_true rfl, Nat.zero_le _, Nat.zero_le _⟩ (Nat.le_of_ble_eq_true rfl) dX11_message_23 rfl (fun r4 M3 h => ?_)
      exact g_iret hz rfl dX11_message_26 h
    · replace h := h.2 hc12
      refine g_iloadn (k0 := 2) (q := 13) dX11_message_12 rfl rfl rfl ?_
      refine g_if_lt (tgt := 22) (q := 16) dX11_message_13 rfl rfl (fun hc11 => ?_) (fun hc11 => ?_)
      · replace h := h.1 hc11
        refine g_aloadn (k0 := 0) (q := 23) dX11_message_22 rfl rfl rfl ?_
        refine g_calli (q := 26) [] [] cv_X11_159 rc_35 (c_X11_refuse hE h) rfl rfl ⟨rfl, rfl, Nat.le_of_ble_eq_true rfl, Nat.le_of_ble_eq_true rfl, Nat.zero_le _, Nat.zero_le _⟩ (Nat.le_of_ble_eq_true rfl) dX11_message_23 rfl (fun r6 M5 h => ?_)
        exact g_iret hz rfl dX11_message_26 h
      · replace h := h.2 hc11
        refine g_iloadn (k0 := 2) (q := 17) dX11_message_16 rfl rfl rfl ?_
        refine g_bipush (q := 19) dX11_message_17 kb_7 rfl ?_
        refine g_ic_le (tgt := 27) (q := 22) dX11_message_19 rfl rfl (fun hc10 => ?_) (fun hc10 => ?_)
        · replace h := h.1 hc10
          refine g_aloadn (k0 := 0) (q := 28) dX11_message_27 rfl rfl rfl ?_
          refine g_iconst (q := 29) dX11_message_28 ki_0 rfl ?_
          refine g_putI (q := 32) fp_X11_94_35 dX11_message_29 rfl ?_
          refine g_aloadn (k0 := 0) (q := 33) dX11_message_32 rfl rfl rfl ?_
          refine g_get (v := .ref (eA E 41)) (q := 36) fg_X11_25_35 rfl dX11_message_33 rfl ?_
          refine g_bipush (q := 38) dX11_message_36 kb_8 rfl ?_
          refine g_iloadn (k0 := 1) (q := 39) dX11_message_38 rfl rfl rfl ?_
          refine g_imul (q := 40) dX11_message_39 rfl ?_
          refine g_iloadn (k0 := 2) (q := 41) dX11_message_40 rfl rfl rfl ?_
          refine g_iadd (q := 42) dX11_message_41 rfl ?_
          have hv7 := h.1
          replace h := h.2
          refine g_iald (v := (M.1 41 (((8 * a1) + a2)).toNatClampNeg)) (q := 43) ar_41 hv7 rfl dX11_message_42 rfl ?_
          exact g_iret hz rfl dX11_message_43 h
        · replace h := h.2 hc10
          refine g_aloadn (k0 := 0) (q := 23) dX11_message_22 rfl rfl rfl ?_
          refine g_calli (q := 26) [] [] cv_X11_159 rc_35 (c_X11_refuse hE h) rfl rfl ⟨rfl, rfl, Nat.le_of_ble_eq_true rfl, Nat.le_of_ble_eq_true rfl, Nat.zero_le _, Nat.zero_le _⟩ (Nat.le_of_ble_eq_true rfl) dX11_message_23 rfl (fun r9 M8 h => ?_)
          exact g_iret hz rfl dX11_message_26 h
set_option maxHeartbeats 4000000 in
set_option maxRecDepth 100000 in
theorem g_X11_size_12 {x : GX} {E : EX} (hE : EH E) {Q : Int32 → Mem → Prop} (hz : ZI x E Q) : ∀ (n : Nat) (v1 : Int32) (v2 : Int32) (M : Mem), P_Mo_size_12 Q n v1 v2 M → G x E mX11_size 0 0 12 [(0, .ref (eA E 35)), (1, .int v1), (2, .int v2)] [] M := by
  intro n
  induction n with
  | zero => intro _ _ _ h; exact h.elim
  | succ n ih =>
    intro v1 v2 M h
    unfold P_Mo_size_12 at h
    refine g_iloadn (k0 := 2) (q := 13) dX11_size_12 rfl rfl rfl ?_
    refine g_if_lt (tgt := 63) (q := 16) dX11_size_13 rfl rfl (fun hc6 => ?_) (fun hc6 => ?_)
    · replace h := h.1 hc6
      refine g_iconst (q := 64) dX11_size_63 ki_m1 rfl ?_
      exact g_iret hz rfl dX11_size_64 h
    · replace h := h.2 hc6
      refine g_aloadn (k0 := 0) (q := 17) dX11_size_16 rfl rfl rfl ?_
      refine g_get (v := .ref (eA E 41)) (q := 20) fg_X11_25_35 rfl dX11_size_17 rfl ?_
      refine g_bipush (q := 22) dX11_size_20 kb_8 rfl ?_
      refine g_iloadn (k0 := 2) (q := 23) dX11_size_22 rfl rfl rfl ?_
      refine g_imul (q := 24) dX11_size_23 rfl ?_
      have hv1 := h.1
      replace h := h.2
      refine g_iald (v := (M.1 41 ((8 * v2)).toNatClampNeg)) (q := 25) ar_41 hv1 rfl dX11_size_24 rfl ?_
      refine g_iconst (q := 26) dX11_size_25 ki_2 rfl ?_
      refine g_ic_ne (tgt := 57) (q := 29) dX11_size_26 rfl rfl (fun hc5 => ?_) (fun hc5 => ?_)
      · replace h := h.1 hc5
        refine g_iinc (lv' := [(0, .ref (eA E 35)), (1, .int v1), (2, .int (v2 + (-1)))]) (k0 := 2) (w := (v2 + (-1))) (q := 60) [1, 2, 0] dX11_size_57 rfl rfl (by decide) rfl rfl ?_
        refine g_goto (tgt := 12) dX11_size_60 rfl ?_
        exact ih _ _ _ h
      · replace h := h.2 hc5
        refine g_aloadn (k0 := 0) (q := 30) dX11_size_29 rfl rfl rfl ?_
        refine g_get (v := .ref (eA E 41)) (q := 33) fg_X11_25_35 rfl dX11_size_30 rfl ?_
        refine g_bipush (q := 35) dX11_size_33 kb_8 rfl ?_
        refine g_iloadn (k0 := 2) (q := 36) dX11_size_35 rfl rfl rfl ?_
        refine g_imul (q := 37) dX11_size_36 rfl ?_
        refine g_iconst (q := 38) dX11_size_37 ki_1 rfl ?_
        refine g_iadd (q := 39) dX11_size_38 rfl ?_
        have hv2 := h.1
        replace h := h.2
        refine g_iald (v := (M.1 41 (((8 * v2) + 1)).toNatClampNeg)) (q := 40) ar_41 hv2 rfl dX11_size_39 rfl ?_
        refine g_iloadn (k0 := 1) (q := 41) dX11_size_40 rfl rfl rfl ?_
        refine g_ic_ne (tgt := 57) (q := 44) dX11_size_41 rfl rfl (fun hc4 => ?_) (fun hc4 => ?_)
        · replace h := h.1 hc4
          refine g_iinc (lv' := [(0, .ref (eA E 35)), (1, .int v1), (2, .int (v2 + (-1)))]) (k0 := 2) (w := (v2 + (-1))) (q := 60) [1, 2, 0] dX11_size_57 rfl rfl (by decide) rfl rfl ?_
          refine g_goto (tgt := 12) dX11_size_60 rfl ?_
          exact ih _ _ _ h
        · replace h := h.2 hc4
          refine g_aloadn (k0 := 0) (q := 45) dX11_size_44 rfl rfl rfl ?_
          refine g_get (v := .ref (eA E 41)) (q := 48) fg_X11_25_35 rfl dX11_size_45 rfl ?_
          refine g_bipush (q := 50) dX11_size_48 kb_8 rfl ?_
          refine g_iloadn (k0 := 2) (q := 51) dX11_size_50 rfl rfl rfl ?_
          refine g_imul (q := 52) dX11_size_51 rfl ?_
          refine g_bipush (q := 54) dX11_size_52 kb_6 rfl ?_
          refine g_iadd (q := 55) dX11_size_54 rfl ?_
          have hv3 := h.1
          replace h := h.2
          refine g_iald (v := (M.1 41 (((8 * v2) + 6)).toNatClampNeg)) (q := 56) ar_41 hv3 rfl dX11_size_55 rfl ?_
          exact g_iret hz rfl dX11_size_56 h
set_option maxHeartbeats 4000000 in
set_option maxRecDepth 100000 in
theorem c_X11_size {E : EX} (hE : EH E) {a1 : Int32} {M : Mem} {Q : Int32 → Mem → Prop} (h : P_Mo_size a1 M Q) : CI yX11_size cX11_size 3 (some .int) rmX11_size E [.ref (eA E 35), .int a1] M Q := by
  refine CI.of hE (plainFor_of_name (by decide)) (Nat.le_of_ble_eq_true rfl) (fun x hz => ?_)
  unfold P_Mo_size at h
  show G x E mX11_size 0 0 0 [(0, .ref (eA E 35)), (1, .int a1)] [] M
  refine g_aloadn (k0 := 0) (q := 1) dX11_size_0 rfl rfl rfl ?_
  refine g_iconst (q := 2) dX11_size_1 ki_0 rfl ?_
  refine g_putI (q := 5) fp_X11_94_35 dX11_size_2 rfl ?_
  refine g_aloadn (k0 := 0) (q := 6) dX11_size_5 rfl rfl rfl ?_
  refine g_get (v := .int (M.1 35 11)) (q := 9) fg_X11_153_35 rfl dX11_size_6 rfl ?_
  refine g_iconst (q := 10) dX11_size_9 ki_1 rfl ?_
  refine g_isub (q := 11) dX11_size_10 rfl ?_
  refine g_istoren (lv' := [(0, .ref (eA E 35)), (1, .int a1), (2, .int ((M.1 35 11) - 1))]) (q := 12) [1, 2, 0] dX11_size_11 rfl (by decide) rfl rfl ?_
  obtain ⟨n1, h⟩ := h
  exact g_X11_size_12 hE hz n1 _ _ _ h
set_option maxHeartbeats 4000000 in
set_option maxRecDepth 100000 in
theorem c_X11_texts {E : EX} (hE : EH E) {M : Mem} {Q : Int32 → Mem → Prop} (h : P_Mo_texts  M Q) : CI yX11_texts cX11_texts 1 (some .int) rmX11_texts E [.ref (eA E 35)] M Q := by
  refine CI.of hE (plainFor_of_name (by decide)) (Nat.le_of_ble_eq_true rfl) (fun x hz => ?_)
  unfold P_Mo_texts at h
  show G x E mX11_texts 0 0 0 [(0, .ref (eA E 35))] [] M
  refine g_aloadn (k0 := 0) (q := 1) dX11_texts_0 rfl rfl rfl ?_
  refine g_iconst (q := 2) dX11_texts_1 ki_0 rfl ?_
  refine g_putI (q := 5) fp_X11_94_35 dX11_texts_2 rfl ?_
  refine g_aloadn (k0 := 0) (q := 6) dX11_texts_5 rfl rfl rfl ?_
  refine g_get (v := .int (M.1 35 20)) (q := 9) fg_X11_166_35 rfl dX11_texts_6 rfl ?_
  exact g_iret hz rfl dX11_texts_9 h
set_option maxHeartbeats 4000000 in
set_option maxRecDepth 100000 in
theorem c_X11_text {E : EX} (hE : EH E) {a1 : Int32} {a2 : Int32} {M : Mem} {Q : Int32 → Mem → Prop} (h : P_Mo_text a1 a2 M Q) : CI yX11_text cX11_text 3 (some .int) rmX11_text E [.ref (eA E 35), .int a1, .int a2] M Q := by
  refine CI.of hE (plainFor_of_name (by decide)) (Nat.le_of_ble_eq_true rfl) (fun x hz => ?_)
  unfold P_Mo_text at h
  show G x E mX11_text 0 0 0 [(0, .ref (eA E 35)), (1, .int a1), (2, .int a2)] [] M
  refine g_iloadn (k0 := 1) (q := 1) dX11_text_0 rfl rfl rfl ?_
  refine g_if_lt (tgt := 21) (q := 4) dX11_text_1 rfl rfl (fun hc19 => ?_) (fun hc19 => ?_)
  · replace h := h.1 hc19
    refine g_aloadn (k0 := 0) (q := 22) dX11_text_21 rfl rfl rfl ?_
    refine g_calli (q := 25) [] [] cv_X11_159 rc_35 (c_X11_refuse hE h) rfl rfl ⟨rfl, rfl, Nat.le_of_ble_eq_true rfl, Nat.le_of_ble_eq_true rfl, Nat.zero_le _, Nat.zero_le _⟩ (Nat.le_of_ble_eq_true rfl) dX11_text_22 rfl (fun r2 M1 h => ?_)
    exact g_iret hz rfl dX11_text_25 h
  · replace h := h.2 hc19
    refine g_iloadn (k0 := 1) (q := 5) dX11_text_4 rfl rfl rfl ?_
    refine g_aloadn (k0 := 0) (q := 6) dX11_text_5 rfl rfl rfl ?_
    refine g_get (v := .int (M.1 35 20)) (q := 9) fg_X11_166_35 rfl dX11_text_6 rfl ?_
    refine g_ic_ge (tgt := 21) (q := 12) dX11_text_9 rfl rfl (fun hc18 => ?_) (fun hc18 => ?_)
    · replace h := h.1 hc18
      refine g_aloadn (k0 := 0) (q := 22) dX11_text_21 rfl rfl rfl ?_
      refine g_calli (q := 25) [] [] cv_X11_159 rc_35 (c_X11_refuse hE h) rfl rfl ⟨rfl, rfl, Nat.le_of_ble_eq_true rfl, Nat.le_of_ble_eq_true rfl, Nat.zero_le _, Nat.zero_le _⟩ (Nat.le_of_ble_eq_true rfl) dX11_text_22 rfl (fun r4 M3 h => ?_)
      exact g_iret hz rfl dX11_text_25 h
    · replace h := h.2 hc18
      refine g_iloadn (k0 := 2) (q := 13) dX11_text_12 rfl rfl rfl ?_
      refine g_if_lt (tgt := 21) (q := 16) dX11_text_13 rfl rfl (fun hc17 => ?_) (fun hc17 => ?_)
      · replace h := h.1 hc17
        refine g_aloadn (k0 := 0) (q := 22) dX11_text_21 rfl rfl rfl ?_
        refine g_calli (q := 25) [] [] cv_X11_159 rc_35 (c_X11_refuse hE h) rfl rfl ⟨rfl, rfl, Nat.le_of_ble_eq_true rfl, Nat.le_of_ble_eq_true rfl, Nat.zero_le _, Nat.zero_le _⟩ (Nat.le_of_ble_eq_true rfl) dX11_text_22 rfl (fun r6 M5 h => ?_)
        exact g_iret hz rfl dX11_text_25 h
      · replace h := h.2 hc17
        refine g_iloadn (k0 := 2) (q := 17) dX11_text_16 rfl rfl rfl ?_
        refine g_iconst (q := 18) dX11_text_17 ki_3 rfl ?_
        refine g_ic_le (tgt := 26) (q := 21) dX11_text_18 rfl rfl (fun hc16 => ?_) (fun hc16 => ?_)
        · replace h := h.1 hc16
          refine g_aloadn (k0 := 0) (q := 27) dX11_text_26 rfl rfl rfl ?_
          refine g_iconst (q := 28) dX11_text_27 ki_0 rfl ?_
          refine g_putI (q := 31) fp_X11_94_35 dX11_text_28 rfl ?_
          refine g_iloadn (k0 := 2) (q := 32) dX11_text_31 rfl rfl rfl ?_
          refine g_if_ne (tgt := 44) (q := 35) dX11_text_32 rfl rfl (fun hc13 => ?_) (fun hc13 => ?_)
          · replace h := h.1 hc13
            refine g_iloadn (k0 := 2) (q := 45) dX11_text_44 rfl rfl rfl ?_
            refine g_iconst (q := 46) dX11_text_45 ki_1 rfl ?_
            refine g_ic_ne (tgt := 58) (q := 49) dX11_text_46 rfl rfl (fun hc11 => ?_) (fun hc11 => ?_)
            · replace h := h.1 hc11
              refine g_iloadn (k0 := 2) (q := 59) dX11_text_58 rfl rfl rfl ?_
              refine g_iconst (q := 60) dX11_text_59 ki_2 rfl ?_
              refine g_ic_ne (tgt := 72) (q := 63) dX11_text_60 rfl rfl (fun hc9 => ?_) (fun hc9 => ?_)
              · replace h := h.1 hc9
                refine g_aloadn (k0 := 0) (q := 73) dX11_text_72 rfl rfl rfl ?_
                refine g_get (v := .ref (eA E 47)) (q := 76) fg_X11_44_35 rfl dX11_text_73 rfl ?_
                refine g_iloadn (k0 := 1) (q := 77) dX11_text_76 rfl rfl rfl ?_
                have hv7 := h.1
                replace h := h.2
                refine g_iald (v := (M.1 47 a1.toNatClampNeg)) (q := 78) ar_47 hv7 rfl dX11_text_77 rfl ?_
                exact g_iret hz rfl dX11_text_78 h
              · replace h := h.2 hc9
                refine g_aloadn (k0 := 0) (q := 64) dX11_text_63 rfl rfl rfl ?_
                refine g_get (v := .ref (eA E 46)) (q := 67) fg_X11_41_35 rfl dX11_text_64 rfl ?_
                refine g_iloadn (k0 := 1) (q := 68) dX11_text_67 rfl rfl rfl ?_
                have hv8 := h.1
                replace h := h.2
                refine g_iald (v := (M.1 46 a1.toNatClampNeg)) (q := 69) ar_46 hv8 rfl dX11_text_68 rfl ?_
                refine g_goto (tgt := 78) dX11_text_69 rfl ?_
                exact g_iret hz rfl dX11_text_78 h
            · replace h := h.2 hc11
              refine g_aloadn (k0 := 0) (q := 50) dX11_text_49 rfl rfl rfl ?_
              refine g_get (v := .ref (eA E 45)) (q := 53) fg_X11_38_35 rfl dX11_text_50 rfl ?_
              refine g_iloadn (k0 := 1) (q := 54) dX11_text_53 rfl rfl rfl ?_
              have hv10 := h.1
              replace h := h.2
              refine g_iald (v := (M.1 45 a1.toNatClampNeg)) (q := 55) ar_45 hv10 rfl dX11_text_54 rfl ?_
              refine g_goto (tgt := 78) dX11_text_55 rfl ?_
              exact g_iret hz rfl dX11_text_78 h
          · replace h := h.2 hc13
            refine g_aloadn (k0 := 0) (q := 36) dX11_text_35 rfl rfl rfl ?_
            refine g_get (v := .ref (eA E 44)) (q := 39) fg_X11_35_35 rfl dX11_text_36 rfl ?_
            refine g_iloadn (k0 := 1) (q := 40) dX11_text_39 rfl rfl rfl ?_
            have hv12 := h.1
            replace h := h.2
            refine g_iald (v := (M.1 44 a1.toNatClampNeg)) (q := 41) ar_44 hv12 rfl dX11_text_40 rfl ?_
            refine g_goto (tgt := 78) dX11_text_41 rfl ?_
            exact g_iret hz rfl dX11_text_78 h
        · replace h := h.2 hc16
          refine g_aloadn (k0 := 0) (q := 22) dX11_text_21 rfl rfl rfl ?_
          refine g_calli (q := 25) [] [] cv_X11_159 rc_35 (c_X11_refuse hE h) rfl rfl ⟨rfl, rfl, Nat.le_of_ble_eq_true rfl, Nat.le_of_ble_eq_true rfl, Nat.zero_le _, Nat.zero_le _⟩ (Nat.le_of_ble_eq_true rfl) dX11_text_22 rfl (fun r15 M14 h => ?_)
          exact g_iret hz rfl dX11_text_25 h
set_option maxHeartbeats 4000000 in
set_option maxRecDepth 100000 in
theorem c_X11_letter {E : EX} (hE : EH E) {a1 : Int32} {a2 : Int32} {M : Mem} {Q : Int32 → Mem → Prop} (h : P_Mo_letter a1 a2 M Q) : CI yX11_letter cX11_letter 3 (some .int) rmX11_letter E [.ref (eA E 35), .int a1, .int a2] M Q := by
  refine CI.of hE (plainFor_of_name (by decide)) (Nat.le_of_ble_eq_true rfl) (fun x hz => ?_)
  unfold P_Mo_letter at h
  show G x E mX11_letter 0 0 0 [(0, .ref (eA E 35)), (1, .int a1), (2, .int a2)] [] M
  refine g_iloadn (k0 := 1) (q := 1) dX11_letter_0 rfl rfl rfl ?_
  refine g_if_lt (tgt := 26) (q := 4) dX11_letter_1 rfl rfl (fun hc14 => ?_) (fun hc14 => ?_)
  · replace h := h.1 hc14
    refine g_aloadn (k0 := 0) (q := 27) dX11_letter_26 rfl rfl rfl ?_
    refine g_calli (q := 30) [] [] cv_X11_159 rc_35 (c_X11_refuse hE h) rfl rfl ⟨rfl, rfl, Nat.le_of_ble_eq_true rfl, Nat.le_of_ble_eq_true rfl, Nat.zero_le _, Nat.zero_le _⟩ (Nat.le_of_ble_eq_true rfl) dX11_letter_27 rfl (fun r2 M1 h => ?_)
    exact g_iret hz rfl dX11_letter_30 h
  · replace h := h.2 hc14
    refine g_iloadn (k0 := 1) (q := 5) dX11_letter_4 rfl rfl rfl ?_
    refine g_aloadn (k0 := 0) (q := 6) dX11_letter_5 rfl rfl rfl ?_
    refine g_get (v := .int (M.1 35 20)) (q := 9) fg_X11_166_35 rfl dX11_letter_6 rfl ?_
    refine g_ic_ge (tgt := 26) (q := 12) dX11_letter_9 rfl rfl (fun hc13 => ?_) (fun hc13 => ?_)
    · replace h := h.1 hc13
      refine g_aloadn (k0 := 0) (q := 27) dX11_letter_26 rfl rfl rfl ?_
      refine g_calli (q := 30) [] [] cv_X11_159 rc_35 (c_X11_refuse hE h) rfl rfl ⟨rfl, rfl, Nat.le_of_ble_eq_true rfl, Nat.le_of_ble_eq_true rfl, Nat.zero_le _, Nat.zero_le _⟩ (Nat.le_of_ble_eq_true rfl) dX11_letter_27 rfl (fun r4 M3 h => ?_)
      exact g_iret hz rfl dX11_letter_30 h
    · replace h := h.2 hc13
      refine g_iloadn (k0 := 2) (q := 13) dX11_letter_12 rfl rfl rfl ?_
      refine g_if_lt (tgt := 26) (q := 16) dX11_letter_13 rfl rfl (fun hc12 => ?_) (fun hc12 => ?_)
      · replace h := h.1 hc12
        refine g_aloadn (k0 := 0) (q := 27) dX11_letter_26 rfl rfl rfl ?_
        refine g_calli (q := 30) [] [] cv_X11_159 rc_35 (c_X11_refuse hE h) rfl rfl ⟨rfl, rfl, Nat.le_of_ble_eq_true rfl, Nat.le_of_ble_eq_true rfl, Nat.zero_le _, Nat.zero_le _⟩ (Nat.le_of_ble_eq_true rfl) dX11_letter_27 rfl (fun r6 M5 h => ?_)
        exact g_iret hz rfl dX11_letter_30 h
      · replace h := h.2 hc12
        refine g_iloadn (k0 := 2) (q := 17) dX11_letter_16 rfl rfl rfl ?_
        refine g_aloadn (k0 := 0) (q := 18) dX11_letter_17 rfl rfl rfl ?_
        refine g_get (v := .ref (eA E 46)) (q := 21) fg_X11_41_35 rfl dX11_letter_18 rfl ?_
        refine g_iloadn (k0 := 1) (q := 22) dX11_letter_21 rfl rfl rfl ?_
        have hv7 := h.1
        replace h := h.2
        refine g_iald (v := (M.1 46 a1.toNatClampNeg)) (q := 23) ar_46 hv7 rfl dX11_letter_22 rfl ?_
        refine g_ic_lt (tgt := 31) (q := 26) dX11_letter_23 rfl rfl (fun hc11 => ?_) (fun hc11 => ?_)
        · replace h := h.1 hc11
          refine g_aloadn (k0 := 0) (q := 32) dX11_letter_31 rfl rfl rfl ?_
          refine g_iconst (q := 33) dX11_letter_32 ki_0 rfl ?_
          refine g_putI (q := 36) fp_X11_94_35 dX11_letter_33 rfl ?_
          refine g_aloadn (k0 := 0) (q := 37) dX11_letter_36 rfl rfl rfl ?_
          refine g_get (v := .ref (eA E 48)) (q := 40) fg_X11_47_35 rfl dX11_letter_37 rfl ?_
          refine g_iconst (q := 41) dX11_letter_40 ki_5 rfl ?_
          refine g_iloadn (k0 := 1) (q := 42) dX11_letter_41 rfl rfl rfl ?_
          refine g_imul (q := 43) dX11_letter_42 rfl ?_
          refine g_iloadn (k0 := 2) (q := 44) dX11_letter_43 rfl rfl rfl ?_
          refine g_iconst (q := 45) dX11_letter_44 ki_4 rfl ?_
          refine g_idiv (q := 46) dX11_letter_45 (by decide) rfl ?_
          refine g_iadd (q := 47) dX11_letter_46 rfl ?_
          have hv8 := h.1
          replace h := h.2
          refine g_iald (v := (M.1 48 (((5 * a1) + (a2 / 4))).toNatClampNeg)) (q := 48) ar_48 hv8 rfl dX11_letter_47 rfl ?_
          refine g_bipush (q := 50) dX11_letter_48 kb_15 rfl ?_
          refine g_iconst (q := 51) dX11_letter_50 ki_5 rfl ?_
          refine g_iloadn (k0 := 2) (q := 52) dX11_letter_51 rfl rfl rfl ?_
          refine g_iconst (q := 53) dX11_letter_52 ki_4 rfl ?_
          refine g_irem (q := 54) dX11_letter_53 (by decide) rfl ?_
          refine g_imul (q := 55) dX11_letter_54 rfl ?_
          refine g_isub (q := 56) dX11_letter_55 rfl ?_
          refine g_ishr (q := 57) dX11_letter_56 rfl ?_
          refine g_bipush (q := 59) dX11_letter_57 kb_31 rfl ?_
          refine g_iand (q := 60) dX11_letter_59 rfl ?_
          exact g_iret hz rfl dX11_letter_60 h
        · replace h := h.2 hc11
          refine g_aloadn (k0 := 0) (q := 27) dX11_letter_26 rfl rfl rfl ?_
          refine g_calli (q := 30) [] [] cv_X11_159 rc_35 (c_X11_refuse hE h) rfl rfl ⟨rfl, rfl, Nat.le_of_ble_eq_true rfl, Nat.le_of_ble_eq_true rfl, Nat.zero_le _, Nat.zero_le _⟩ (Nat.le_of_ble_eq_true rfl) dX11_letter_27 rfl (fun r10 M9 h => ?_)
          exact g_iret hz rfl dX11_letter_30 h
set_option maxHeartbeats 4000000 in
set_option maxRecDepth 100000 in
theorem c_X11_isClash {E : EX} (hE : EH E) {a1 : Int32} {a2 : Int32} {M : Mem} {Q : Int32 → Mem → Prop} (h : P_Mo_isClash a1 a2 M Q) : CI yX11_isClash cX11_isClash 3 (some .boolean) rmX11_isClash E [.ref (eA E 35), .int a1, .int a2] M (fun r M => nb r ∧ Q r M) := by
  refine CI.of hE (plainFor_of_name (by decide)) (Nat.le_of_ble_eq_true rfl) (fun x hz => ?_)
  unfold P_Mo_isClash at h
  show G x E mX11_isClash 0 0 0 [(0, .ref (eA E 35)), (1, .int a1), (2, .int a2)] [] M
  refine g_aloadn (k0 := 0) (q := 1) dX11_isClash_0 rfl rfl rfl ?_
  refine g_get (v := .ref (eA E 41)) (q := 4) fg_X11_25_35 rfl dX11_isClash_1 rfl ?_
  refine g_bipush (q := 6) dX11_isClash_4 kb_8 rfl ?_
  refine g_iloadn (k0 := 1) (q := 7) dX11_isClash_6 rfl rfl rfl ?_
  refine g_imul (q := 8) dX11_isClash_7 rfl ?_
  have hv1 := h.1
  replace h := h.2
  refine g_iald (v := (M.1 41 ((8 * a1)).toNatClampNeg)) (q := 9) ar_41 hv1 rfl dX11_isClash_8 rfl ?_
  refine g_iconst (q := 10) dX11_isClash_9 ki_5 rfl ?_
  refine g_ic_ne (tgt := 76) (q := 13) dX11_isClash_10 rfl rfl (fun hc14 => ?_) (fun hc14 => ?_)
  · replace h := h.1 hc14
    refine g_iconst (q := 77) dX11_isClash_76 ki_0 rfl ?_
    exact g_zret hz rfl rfl dX11_isClash_77 h
  · replace h := h.2 hc14
    refine g_aloadn (k0 := 0) (q := 14) dX11_isClash_13 rfl rfl rfl ?_
    refine g_get (v := .ref (eA E 41)) (q := 17) fg_X11_25_35 rfl dX11_isClash_14 rfl ?_
    refine g_bipush (q := 19) dX11_isClash_17 kb_8 rfl ?_
    refine g_iloadn (k0 := 2) (q := 20) dX11_isClash_19 rfl rfl rfl ?_
    refine g_imul (q := 21) dX11_isClash_20 rfl ?_
    have hv2 := h.1
    replace h := h.2
    refine g_iald (v := (M.1 41 ((8 * a2)).toNatClampNeg)) (q := 22) ar_41 hv2 rfl dX11_isClash_21 rfl ?_
    refine g_iconst (q := 23) dX11_isClash_22 ki_5 rfl ?_
    refine g_ic_ne (tgt := 76) (q := 26) dX11_isClash_23 rfl rfl (fun hc13 => ?_) (fun hc13 => ?_)
    · replace h := h.1 hc13
      refine g_iconst (q := 77) dX11_isClash_76 ki_0 rfl ?_
      exact g_zret hz rfl rfl dX11_isClash_77 h
    · replace h := h.2 hc13
      refine g_aloadn (k0 := 0) (q := 27) dX11_isClash_26 rfl rfl rfl ?_
      refine g_get (v := .ref (eA E 41)) (q := 30) fg_X11_25_35 rfl dX11_isClash_27 rfl ?_
      refine g_bipush (q := 32) dX11_isClash_30 kb_8 rfl ?_
      refine g_iloadn (k0 := 1) (q := 33) dX11_isClash_32 rfl rfl rfl ?_
      refine g_imul (q := 34) dX11_isClash_33 rfl ?_
      refine g_iconst (q := 35) dX11_isClash_34 ki_1 rfl ?_
      refine g_iadd (q := 36) dX11_isClash_35 rfl ?_
      have hv3 := h.1
      replace h := h.2
      refine g_iald (v := (M.1 41 (((8 * a1) + 1)).toNatClampNeg)) (q := 37) ar_41 hv3 rfl dX11_isClash_36 rfl ?_
      refine g_aloadn (k0 := 0) (q := 38) dX11_isClash_37 rfl rfl rfl ?_
      refine g_get (v := .ref (eA E 41)) (q := 41) fg_X11_25_35 rfl dX11_isClash_38 rfl ?_
      refine g_bipush (q := 43) dX11_isClash_41 kb_8 rfl ?_
      refine g_iloadn (k0 := 2) (q := 44) dX11_isClash_43 rfl rfl rfl ?_
      refine g_imul (q := 45) dX11_isClash_44 rfl ?_
      refine g_iconst (q := 46) dX11_isClash_45 ki_1 rfl ?_
      refine g_iadd (q := 47) dX11_isClash_46 rfl ?_
      have hv4 := h.1
      replace h := h.2
      refine g_iald (v := (M.1 41 (((8 * a2) + 1)).toNatClampNeg)) (q := 48) ar_41 hv4 rfl dX11_isClash_47 rfl ?_
      refine g_ic_eq (tgt := 76) (q := 51) dX11_isClash_48 rfl rfl (fun hc12 => ?_) (fun hc12 => ?_)
      · replace h := h.1 hc12
        refine g_iconst (q := 77) dX11_isClash_76 ki_0 rfl ?_
        exact g_zret hz rfl rfl dX11_isClash_77 h
      · replace h := h.2 hc12
        refine g_aloadn (k0 := 0) (q := 52) dX11_isClash_51 rfl rfl rfl ?_
        refine g_get (v := .ref (eA E 41)) (q := 55) fg_X11_25_35 rfl dX11_isClash_52 rfl ?_
        refine g_bipush (q := 57) dX11_isClash_55 kb_8 rfl ?_
        refine g_iloadn (k0 := 1) (q := 58) dX11_isClash_57 rfl rfl rfl ?_
        refine g_imul (q := 59) dX11_isClash_58 rfl ?_
        refine g_iconst (q := 60) dX11_isClash_59 ki_4 rfl ?_
        refine g_iadd (q := 61) dX11_isClash_60 rfl ?_
        have hv5 := h.1
        replace h := h.2
        refine g_iald (v := (M.1 41 (((8 * a1) + 4)).toNatClampNeg)) (q := 62) ar_41 hv5 rfl dX11_isClash_61 rfl ?_
        refine g_aloadn (k0 := 0) (q := 63) dX11_isClash_62 rfl rfl rfl ?_
        refine g_get (v := .ref (eA E 41)) (q := 66) fg_X11_25_35 rfl dX11_isClash_63 rfl ?_
        refine g_bipush (q := 68) dX11_isClash_66 kb_8 rfl ?_
        refine g_iloadn (k0 := 2) (q := 69) dX11_isClash_68 rfl rfl rfl ?_
        refine g_imul (q := 70) dX11_isClash_69 rfl ?_
        refine g_iconst (q := 71) dX11_isClash_70 ki_4 rfl ?_
        refine g_iadd (q := 72) dX11_isClash_71 rfl ?_
        have hv6 := h.1
        replace h := h.2
        refine g_iald (v := (M.1 41 (((8 * a2) + 4)).toNatClampNeg)) (q := 73) ar_41 hv6 rfl dX11_isClash_72 rfl ?_
        refine g_ic_eq (tgt := 78) (q := 76) dX11_isClash_73 rfl rfl (fun hc11 => ?_) (fun hc11 => ?_)
        · replace h := h.1 hc11
          refine g_aloadn (k0 := 0) (q := 79) dX11_isClash_78 rfl rfl rfl ?_
          refine g_get (v := .ref (eA E 41)) (q := 82) fg_X11_25_35 rfl dX11_isClash_79 rfl ?_
          refine g_bipush (q := 84) dX11_isClash_82 kb_8 rfl ?_
          refine g_iloadn (k0 := 1) (q := 85) dX11_isClash_84 rfl rfl rfl ?_
          refine g_imul (q := 86) dX11_isClash_85 rfl ?_
          refine g_iconst (q := 87) dX11_isClash_86 ki_3 rfl ?_
          refine g_iadd (q := 88) dX11_isClash_87 rfl ?_
          have hv7 := h.1
          replace h := h.2
          refine g_iald (v := (M.1 41 (((8 * a1) + 3)).toNatClampNeg)) (q := 89) ar_41 hv7 rfl dX11_isClash_88 rfl ?_
          refine g_aloadn (k0 := 0) (q := 90) dX11_isClash_89 rfl rfl rfl ?_
          refine g_get (v := .ref (eA E 41)) (q := 93) fg_X11_25_35 rfl dX11_isClash_90 rfl ?_
          refine g_bipush (q := 95) dX11_isClash_93 kb_8 rfl ?_
          refine g_iloadn (k0 := 2) (q := 96) dX11_isClash_95 rfl rfl rfl ?_
          refine g_imul (q := 97) dX11_isClash_96 rfl ?_
          refine g_iconst (q := 98) dX11_isClash_97 ki_3 rfl ?_
          refine g_iadd (q := 99) dX11_isClash_98 rfl ?_
          have hv8 := h.1
          replace h := h.2
          refine g_iald (v := (M.1 41 (((8 * a2) + 3)).toNatClampNeg)) (q := 100) ar_41 hv8 rfl dX11_isClash_99 rfl ?_
          refine g_bipush (q := 102) dX11_isClash_100 kb_60 rfl ?_
          refine g_aloadn (k0 := 0) (q := 103) dX11_isClash_102 rfl rfl rfl ?_
          refine g_get (v := .ref (eA E 41)) (q := 106) fg_X11_25_35 rfl dX11_isClash_103 rfl ?_
          refine g_bipush (q := 108) dX11_isClash_106 kb_8 rfl ?_
          refine g_iloadn (k0 := 2) (q := 109) dX11_isClash_108 rfl rfl rfl ?_
          refine g_imul (q := 110) dX11_isClash_109 rfl ?_
          refine g_iconst (q := 111) dX11_isClash_110 ki_5 rfl ?_
          refine g_iadd (q := 112) dX11_isClash_111 rfl ?_
          have hv9 := h.1
          replace h := h.2
          refine g_iald (v := (M.1 41 (((8 * a2) + 5)).toNatClampNeg)) (q := 113) ar_41 hv9 rfl dX11_isClash_112 rfl ?_
          refine g_imul (q := 114) dX11_isClash_113 rfl ?_
          refine g_iadd (q := 115) dX11_isClash_114 rfl ?_
          refine g_ic_ge (tgt := 122) (q := 118) dX11_isClash_115 rfl rfl (fun hc10 => ?_) (fun hc10 => ?_)
          · replace h := h.1 hc10
            refine g_iconst (q := 123) dX11_isClash_122 ki_0 rfl ?_
            exact g_zret hz rfl rfl dX11_isClash_123 h
          · replace h := h.2 hc10
            refine g_iconst (q := 119) dX11_isClash_118 ki_1 rfl ?_
            refine g_goto (tgt := 123) dX11_isClash_119 rfl ?_
            exact g_zret hz rfl rfl dX11_isClash_123 h
        · replace h := h.2 hc11
          refine g_iconst (q := 77) dX11_isClash_76 ki_0 rfl ?_
          exact g_zret hz rfl rfl dX11_isClash_77 h
set_option maxHeartbeats 4000000 in
set_option maxRecDepth 100000 in
theorem g_X11_clashes_19 {x : GX} {E : EX} (hE : EH E) {Q : Int32 → Mem → Prop} (hz : ZI x E Q) {K9 : Int32 → Int32 → Mem → Prop} (hK9 : ∀ (v1 : Int32) (v2 : Int32) (M : Mem), K9 v1 v2 M → G x E mX11_clashes 0 0 9 [(0, .ref (eA E 35)), (1, .int v1), (2, .int v2)] [] M) : ∀ (n : Nat) (v1 : Int32) (v2 : Int32) (v3 : Int32) (M : Mem), P_Mo_clashes_19 K9 Q n v1 v2 v3 M → G x E mX11_clashes 0 0 19 [(0, .ref (eA E 35)), (1, .int v1), (2, .int v2), (3, .int v3)] [] M := by
  intro n
  induction n with
  | zero => intro _ _ _ _ h; exact h.elim
  | succ n ih =>
    intro v1 v2 v3 M h
    unfold P_Mo_clashes_19 at h
    refine g_iloadn (k0 := 3) (q := 20) dX11_clashes_19 rfl rfl rfl ?_
    refine g_iloadn (k0 := 2) (q := 21) dX11_clashes_20 rfl rfl rfl ?_
    refine g_ic_ge (tgt := 42) (q := 24) dX11_clashes_21 rfl rfl (fun hc4 => ?_) (fun hc4 => ?_)
    · replace h := h.1 hc4
      refine g_iinc (lv' := [(0, .ref (eA E 35)), (1, .int v1), (2, .int (v2 + 1)), (3, .int v3)]) (k0 := 2) (w := (v2 + 1)) (q := 45) [1, 2, 0, 3] dX11_clashes_42 rfl rfl (by decide) rfl rfl ?_
      refine g_goto (tgt := 9) dX11_clashes_45 rfl ?_
      refine g_lv (lv' := [(0, .ref (eA E 35)), (1, .int v1), (2, .int (v2 + 1))]) [0, 1, 2] rfl ?_
      exact hK9 _ _ _ h
    · replace h := h.2 hc4
      refine g_aloadn (k0 := 0) (q := 25) dX11_clashes_24 rfl rfl rfl ?_
      refine g_iloadn (k0 := 2) (q := 26) dX11_clashes_25 rfl rfl rfl ?_
      refine g_iloadn (k0 := 3) (q := 27) dX11_clashes_26 rfl rfl rfl ?_
      refine g_calli (q := 30) [.int v2, .int v3] [] cv_X11_169 rc_35 (c_X11_isClash hE h) rfl rfl ⟨rfl, rfl, Nat.le_of_ble_eq_true rfl, Nat.le_of_ble_eq_true rfl, Nat.zero_le _, Nat.zero_le _⟩ (Nat.le_of_ble_eq_true rfl) dX11_clashes_27 rfl (fun r2 M1 h => ?_)
      obtain ⟨hb_r2, h⟩ := h
      refine g_if_eq (tgt := 36) (q := 33) dX11_clashes_30 rfl rfl (fun hc3 => ?_) (fun hc3 => ?_)
      · replace h := h.1 hc3
        refine g_iinc (lv' := [(0, .ref (eA E 35)), (1, .int v1), (2, .int v2), (3, .int (v3 + 1))]) (k0 := 3) (w := (v3 + 1)) (q := 39) [1, 2, 3, 0] dX11_clashes_36 rfl rfl (by decide) rfl rfl ?_
        refine g_goto (tgt := 19) dX11_clashes_39 rfl ?_
        exact ih _ _ _ _ h
      · replace h := h.2 hc3
        refine g_iinc (lv' := [(0, .ref (eA E 35)), (1, .int (v1 + 1)), (2, .int v2), (3, .int v3)]) (k0 := 1) (w := (v1 + 1)) (q := 36) [1, 0, 2, 3] dX11_clashes_33 rfl rfl (by decide) rfl rfl ?_
        refine g_iinc (lv' := [(0, .ref (eA E 35)), (1, .int (v1 + 1)), (2, .int v2), (3, .int (v3 + 1))]) (k0 := 3) (w := (v3 + 1)) (q := 39) [1, 2, 3, 0] dX11_clashes_36 rfl rfl (by decide) rfl rfl ?_
        refine g_goto (tgt := 19) dX11_clashes_39 rfl ?_
        exact ih _ _ _ _ h
set_option maxHeartbeats 4000000 in
set_option maxRecDepth 100000 in
theorem g_X11_clashes_9 {x : GX} {E : EX} (hE : EH E) {Q : Int32 → Mem → Prop} (hz : ZI x E Q) : ∀ (n : Nat) (v1 : Int32) (v2 : Int32) (M : Mem), P_Mo_clashes_9 Q n v1 v2 M → G x E mX11_clashes 0 0 9 [(0, .ref (eA E 35)), (1, .int v1), (2, .int v2)] [] M := by
  intro n
  induction n with
  | zero => intro _ _ _ h; exact h.elim
  | succ n ih =>
    intro v1 v2 M h
    unfold P_Mo_clashes_9 at h
    refine g_iloadn (k0 := 2) (q := 10) dX11_clashes_9 rfl rfl rfl ?_
    refine g_aloadn (k0 := 0) (q := 11) dX11_clashes_10 rfl rfl rfl ?_
    refine g_get (v := .int (M.1 35 11)) (q := 14) fg_X11_153_35 rfl dX11_clashes_11 rfl ?_
    refine g_ic_ge (tgt := 48) (q := 17) dX11_clashes_14 rfl rfl (fun hc6 => ?_) (fun hc6 => ?_)
    · replace h := h.1 hc6
      refine g_iloadn (k0 := 1) (q := 49) dX11_clashes_48 rfl rfl rfl ?_
      exact g_iret hz rfl dX11_clashes_49 h
    · replace h := h.2 hc6
      refine g_iconst (q := 18) dX11_clashes_17 ki_0 rfl ?_
      refine g_istoren (lv' := [(0, .ref (eA E 35)), (1, .int v1), (2, .int v2), (3, .int 0)]) (q := 19) [1, 2, 3, 0] dX11_clashes_18 rfl (by decide) rfl rfl ?_
      obtain ⟨n1, h⟩ := h
      exact g_X11_clashes_19 hE hz ih n1 _ _ _ _ h
set_option maxHeartbeats 4000000 in
set_option maxRecDepth 100000 in
theorem c_X11_clashes {E : EX} (hE : EH E) {M : Mem} {Q : Int32 → Mem → Prop} (h : P_Mo_clashes  M Q) : CI yX11_clashes cX11_clashes 4 (some .int) rmX11_clashes E [.ref (eA E 35)] M Q := by
  refine CI.of hE (plainFor_of_name (by decide)) (Nat.le_of_ble_eq_true rfl) (fun x hz => ?_)
  unfold P_Mo_clashes at h
  show G x E mX11_clashes 0 0 0 [(0, .ref (eA E 35))] [] M
  refine g_aloadn (k0 := 0) (q := 1) dX11_clashes_0 rfl rfl rfl ?_
  refine g_iconst (q := 2) dX11_clashes_1 ki_0 rfl ?_
  refine g_putI (q := 5) fp_X11_94_35 dX11_clashes_2 rfl ?_
  refine g_iconst (q := 6) dX11_clashes_5 ki_0 rfl ?_
  refine g_istoren (lv' := [(0, .ref (eA E 35)), (1, .int 0)]) (q := 7) [1, 0] dX11_clashes_6 rfl (by decide) rfl rfl ?_
  refine g_iconst (q := 8) dX11_clashes_7 ki_0 rfl ?_
  refine g_istoren (lv' := [(0, .ref (eA E 35)), (1, .int 0), (2, .int 0)]) (q := 9) [1, 2, 0] dX11_clashes_8 rfl (by decide) rfl rfl ?_
  obtain ⟨n1, h⟩ := h
  exact g_X11_clashes_9 hE hz n1 _ _ _ h
set_option maxHeartbeats 4000000 in
set_option maxRecDepth 100000 in
theorem g_X11_clashOf_15 {x : GX} {E : EX} (hE : EH E) {Q : Int32 → Mem → Prop} (hz : ZI x E Q) {K4 : Int32 → Int32 → Mem → Prop} (hK4 : ∀ (v2 : Int32) (v3 : Int32) (M : Mem), K4 v2 v3 M → G x E mX11_clashOf 0 0 4 [(0, .ref (eA E 35)), (2, .int v2), (3, .int v3)] [] M) : ∀ (n : Nat) (v2 : Int32) (v3 : Int32) (v4 : Int32) (M : Mem), P_Mo_clashOf_15 K4 Q n v2 v3 v4 M → G x E mX11_clashOf 0 0 15 [(0, .ref (eA E 35)), (2, .int v2), (3, .int v3), (4, .int v4)] [] M := by
  intro n
  induction n with
  | zero => intro _ _ _ _ h; exact h.elim
  | succ n ih =>
    intro v2 v3 v4 M h
    unfold P_Mo_clashOf_15 at h
    refine g_iload (k0 := 3) (q := 17) dX11_clashOf_15 rfl rfl ?_
    refine g_iloadn (k0 := 2) (q := 18) dX11_clashOf_17 rfl rfl rfl ?_
    refine g_ic_ge (tgt := 56) (q := 21) dX11_clashOf_18 rfl rfl (fun hc5 => ?_) (fun hc5 => ?_)
    · replace h := h.1 hc5
      refine g_iinc (lv' := [(0, .ref (eA E 35)), (2, .int v2), (3, .int (v3 + 1)), (4, .int v4)]) (k0 := 2) (w := (v3 + 1)) (q := 59) [1, 2, 0, 3] dX11_clashOf_56 rfl rfl (by decide) rfl rfl ?_
      refine g_goto (tgt := 4) dX11_clashOf_59 rfl ?_
      refine g_lv (lv' := [(0, .ref (eA E 35)), (2, .int v2), (3, .int (v3 + 1))]) [0, 1, 2] rfl ?_
      exact hK4 _ _ _ h
    · replace h := h.2 hc5
      refine g_aloadn (k0 := 0) (q := 22) dX11_clashOf_21 rfl rfl rfl ?_
      refine g_iloadn (k0 := 2) (q := 23) dX11_clashOf_22 rfl rfl rfl ?_
      refine g_iload (k0 := 3) (q := 25) dX11_clashOf_23 rfl rfl ?_
      refine g_calli (q := 28) [.int v3, .int v4] [] cv_X11_169 rc_35 (c_X11_isClash hE h) rfl rfl ⟨rfl, rfl, Nat.le_of_ble_eq_true rfl, Nat.le_of_ble_eq_true rfl, Nat.zero_le _, Nat.zero_le _⟩ (Nat.le_of_ble_eq_true rfl) dX11_clashOf_25 rfl (fun r2 M1 h => ?_)
      obtain ⟨hb_r2, h⟩ := h
      refine g_if_ne (tgt := 34) (q := 31) dX11_clashOf_28 rfl rfl (fun hc4 => ?_) (fun hc4 => ?_)
      · replace h := h.1 hc4
        refine g_iloadn (k0 := 1) (q := 35) dX11_clashOf_34 rfl rfl rfl ?_
        refine g_if_ne (tgt := 47) (q := 38) dX11_clashOf_35 rfl rfl (fun hc3 => ?_) (fun hc3 => ?_)
        · replace h := h.1 hc3
          refine g_iinc (lv' := [(0, .ref (eA E 35)), (2, .int (v2 + (-1))), (3, .int v3), (4, .int v4)]) (k0 := 1) (w := (v2 + (-1))) (q := 50) [1, 0, 2, 3] dX11_clashOf_47 rfl rfl (by decide) rfl rfl ?_
          refine g_iinc (lv' := [(0, .ref (eA E 35)), (2, .int (v2 + (-1))), (3, .int v3), (4, .int (v4 + 1))]) (k0 := 3) (w := (v4 + 1)) (q := 53) [1, 2, 3, 0] dX11_clashOf_50 rfl rfl (by decide) rfl rfl ?_
          refine g_goto (tgt := 15) dX11_clashOf_53 rfl ?_
          exact ih _ _ _ _ h
        · replace h := h.2 hc3
          refine g_sipush (q := 41) dX11_clashOf_38 ks_200 rfl ?_
          refine g_iloadn (k0 := 2) (q := 42) dX11_clashOf_41 rfl rfl rfl ?_
          refine g_imul (q := 43) dX11_clashOf_42 rfl ?_
          refine g_iload (k0 := 3) (q := 45) dX11_clashOf_43 rfl rfl ?_
          refine g_iadd (q := 46) dX11_clashOf_45 rfl ?_
          exact g_iret hz rfl dX11_clashOf_46 h
      · replace h := h.2 hc4
        refine g_goto (tgt := 50) dX11_clashOf_31 rfl ?_
        refine g_iinc (lv' := [(0, .ref (eA E 35)), (2, .int v2), (3, .int v3), (4, .int (v4 + 1))]) (k0 := 3) (w := (v4 + 1)) (q := 53) [1, 2, 3, 0] dX11_clashOf_50 rfl rfl (by decide) rfl rfl ?_
        refine g_goto (tgt := 15) dX11_clashOf_53 rfl ?_
        exact ih _ _ _ _ h
set_option maxHeartbeats 4000000 in
set_option maxRecDepth 100000 in
theorem g_X11_clashOf_4 {x : GX} {E : EX} (hE : EH E) {Q : Int32 → Mem → Prop} (hz : ZI x E Q) : ∀ (n : Nat) (v2 : Int32) (v3 : Int32) (M : Mem), P_Mo_clashOf_4 Q n v2 v3 M → G x E mX11_clashOf 0 0 4 [(0, .ref (eA E 35)), (2, .int v2), (3, .int v3)] [] M := by
  intro n
  induction n with
  | zero => intro _ _ _ h; exact h.elim
  | succ n ih =>
    intro v2 v3 M h
    unfold P_Mo_clashOf_4 at h
    refine g_iloadn (k0 := 2) (q := 5) dX11_clashOf_4 rfl rfl rfl ?_
    refine g_aloadn (k0 := 0) (q := 6) dX11_clashOf_5 rfl rfl rfl ?_
    refine g_get (v := .int (M.1 35 11)) (q := 9) fg_X11_153_35 rfl dX11_clashOf_6 rfl ?_
    refine g_ic_ge (tgt := 62) (q := 12) dX11_clashOf_9 rfl rfl (fun hc7 => ?_) (fun hc7 => ?_)
    · replace h := h.1 hc7
      refine g_iconst (q := 63) dX11_clashOf_62 ki_m1 rfl ?_
      exact g_iret hz rfl dX11_clashOf_63 h
    · replace h := h.2 hc7
      refine g_iconst (q := 13) dX11_clashOf_12 ki_0 rfl ?_
      refine g_istore (lv' := [(0, .ref (eA E 35)), (2, .int v2), (3, .int v3), (4, .int 0)]) (q := 15) [1, 2, 3, 0] dX11_clashOf_13 (by decide) rfl rfl ?_
      obtain ⟨n1, h⟩ := h
      exact g_X11_clashOf_15 hE hz ih n1 _ _ _ _ h
set_option maxHeartbeats 4000000 in
set_option maxRecDepth 100000 in
theorem c_X11_clashOf {E : EX} (hE : EH E) {a1 : Int32} {M : Mem} {Q : Int32 → Mem → Prop} (h : P_Mo_clashOf a1 M Q) : CI yX11_clashOf cX11_clashOf 5 (some .int) rmX11_clashOf E [.ref (eA E 35), .int a1] M Q := by
  refine CI.of hE (plainFor_of_name (by decide)) (Nat.le_of_ble_eq_true rfl) (fun x hz => ?_)
  unfold P_Mo_clashOf at h
  show G x E mX11_clashOf 0 0 0 [(0, .ref (eA E 35)), (1, .int a1)] [] M
  refine g_iloadn (k0 := 1) (q := 1) dX11_clashOf_0 rfl rfl rfl ?_
  refine g_istoren (lv' := [(0, .ref (eA E 35)), (1, .int a1), (2, .int a1)]) (q := 2) [1, 2, 0] dX11_clashOf_1 rfl (by decide) rfl rfl ?_
  refine g_iconst (q := 3) dX11_clashOf_2 ki_0 rfl ?_
  refine g_istoren (lv' := [(0, .ref (eA E 35)), (1, .int a1), (2, .int a1), (3, .int 0)]) (q := 4) [1, 2, 3, 0] dX11_clashOf_3 rfl (by decide) rfl rfl ?_
  refine g_lv (lv' := [(0, .ref (eA E 35)), (2, .int a1), (3, .int 0)]) [0, 2, 3] rfl ?_
  obtain ⟨n1, h⟩ := h
  exact g_X11_clashOf_4 hE hz n1 _ _ _ h
set_option maxHeartbeats 4000000 in
set_option maxRecDepth 100000 in
theorem g_X11_clash_22 {x : GX} {E : EX} (hE : EH E) {Q : Int32 → Mem → Prop} (hz : ZI x E Q) : ∀ (v2 : Int32) (s0 : Int32) (M : Mem), P_Mo_clash_22 Q v2 s0 M → G x E mX11_clash 0 0 22 [(0, .ref (eA E 35)), (2, .int v2)] [.int s0] M := by
  intro v2 s0 M h
  unfold P_Mo_clash_22 at h
  refine g_istoren (lv' := [(0, .ref (eA E 35)), (2, .int v2), (3, .int s0)]) (q := 23) [1, 2, 0] dX11_clash_22 rfl (by decide) rfl rfl ?_
  refine g_iloadn (k0 := 2) (q := 24) dX11_clash_23 rfl rfl rfl ?_
  refine g_iconst (q := 25) dX11_clash_24 ki_m1 rfl ?_
  refine g_ic_ne (tgt := 33) (q := 28) dX11_clash_25 rfl rfl (fun hc4 => ?_) (fun hc4 => ?_)
  · replace h := h.1 hc4
    refine g_aloadn (k0 := 0) (q := 34) dX11_clash_33 rfl rfl rfl ?_
    refine g_iconst (q := 35) dX11_clash_34 ki_0 rfl ?_
    refine g_putI (q := 38) fp_X11_94_35 dX11_clash_35 rfl ?_
    refine g_iloadn (k0 := 1) (q := 39) dX11_clash_38 rfl rfl rfl ?_
    refine g_if_ne (tgt := 50) (q := 42) dX11_clash_39 rfl rfl (fun hc1 => ?_) (fun hc1 => ?_)
    · replace h := h.1 hc1
      refine g_iloadn (k0 := 2) (q := 51) dX11_clash_50 rfl rfl rfl ?_
      refine g_sipush (q := 54) dX11_clash_51 ks_200 rfl ?_
      refine g_irem (q := 55) dX11_clash_54 (by decide) rfl ?_
      exact g_iret hz rfl dX11_clash_55 h
    · replace h := h.2 hc1
      refine g_iloadn (k0 := 2) (q := 43) dX11_clash_42 rfl rfl rfl ?_
      refine g_sipush (q := 46) dX11_clash_43 ks_200 rfl ?_
      refine g_idiv (q := 47) dX11_clash_46 (by decide) rfl ?_
      refine g_goto (tgt := 55) dX11_clash_47 rfl ?_
      exact g_iret hz rfl dX11_clash_55 h
  · replace h := h.2 hc4
    refine g_aloadn (k0 := 0) (q := 29) dX11_clash_28 rfl rfl rfl ?_
    refine g_calli (q := 32) [] [] cv_X11_159 rc_35 (c_X11_refuse hE h) rfl rfl ⟨rfl, rfl, Nat.le_of_ble_eq_true rfl, Nat.le_of_ble_eq_true rfl, Nat.zero_le _, Nat.zero_le _⟩ (Nat.le_of_ble_eq_true rfl) dX11_clash_29 rfl (fun r3 M2 h => ?_)
    exact g_iret hz rfl dX11_clash_32 h
set_option maxHeartbeats 4000000 in
set_option maxRecDepth 100000 in
theorem g_X11_clash_13 {x : GX} {E : EX} (hE : EH E) {Q : Int32 → Mem → Prop} (hz : ZI x E Q) : ∀ (v2 : Int32) (M : Mem), P_Mo_clash_13 Q v2 M → G x E mX11_clash 0 0 13 [(0, .ref (eA E 35)), (2, .int v2)] [] M := by
  intro v2 M h
  unfold P_Mo_clash_13 at h
  refine g_iconst (q := 14) dX11_clash_13 ki_m1 rfl ?_
  refine g_goto (tgt := 22) dX11_clash_14 rfl ?_
  exact g_X11_clash_22 hE hz _ _ _ h
set_option maxHeartbeats 4000000 in
set_option maxRecDepth 100000 in
theorem c_X11_clash {E : EX} (hE : EH E) {a1 : Int32} {a2 : Int32} {M : Mem} {Q : Int32 → Mem → Prop} (h : P_Mo_clash a1 a2 M Q) : CI yX11_clash cX11_clash 4 (some .int) rmX11_clash E [.ref (eA E 35), .int a1, .int a2] M Q := by
  refine CI.of hE (plainFor_of_name (by decide)) (Nat.le_of_ble_eq_true rfl) (fun x hz => ?_)
  unfold P_Mo_clash at h
  show G x E mX11_clash 0 0 0 [(0, .ref (eA E 35)), (1, .int a1), (2, .int a2)] [] M
  refine g_iloadn (k0 := 1) (q := 1) dX11_clash_0 rfl rfl rfl ?_
  refine g_if_lt (tgt := 13) (q := 4) dX11_clash_1 rfl rfl (fun hc9 => ?_) (fun hc9 => ?_)
  · replace h := h.1 hc9
    refine g_lv (lv' := [(0, .ref (eA E 35)), (2, .int a2)]) [0, 2] rfl ?_
    exact g_X11_clash_13 hE hz _ _ h
  · replace h := h.2 hc9
    refine g_iloadn (k0 := 2) (q := 5) dX11_clash_4 rfl rfl rfl ?_
    refine g_if_lt (tgt := 13) (q := 8) dX11_clash_5 rfl rfl (fun hc8 => ?_) (fun hc8 => ?_)
    · replace h := h.1 hc8
      refine g_lv (lv' := [(0, .ref (eA E 35)), (2, .int a2)]) [0, 2] rfl ?_
      exact g_X11_clash_13 hE hz _ _ h
    · replace h := h.2 hc8
      refine g_iloadn (k0 := 2) (q := 9) dX11_clash_8 rfl rfl rfl ?_
      refine g_iconst (q := 10) dX11_clash_9 ki_1 rfl ?_
      refine g_ic_le (tgt := 17) (q := 13) dX11_clash_10 rfl rfl (fun hc7 => ?_) (fun hc7 => ?_)
      · replace h := h.1 hc7
        refine g_aloadn (k0 := 0) (q := 18) dX11_clash_17 rfl rfl rfl ?_
        refine g_iloadn (k0 := 1) (q := 19) dX11_clash_18 rfl rfl rfl ?_
        refine g_calli (q := 22) [.int a1] [] cv_X11_172 rc_35 (c_X11_clashOf hE h) rfl rfl ⟨rfl, rfl, Nat.le_of_ble_eq_true rfl, Nat.le_of_ble_eq_true rfl, Nat.zero_le _, Nat.zero_le _⟩ (Nat.le_of_ble_eq_true rfl) dX11_clash_19 rfl (fun r6 M5 h => ?_)
        refine g_lv (lv' := [(0, .ref (eA E 35)), (2, .int a2)]) [0, 2] rfl ?_
        exact g_X11_clash_22 hE hz _ _ _ h
      · replace h := h.2 hc7
        refine g_lv (lv' := [(0, .ref (eA E 35)), (2, .int a2)]) [0, 2] rfl ?_
        exact g_X11_clash_13 hE hz _ _ h
set_option maxHeartbeats 4000000 in
set_option maxRecDepth 100000 in
theorem c_X11_isIn {E : EX} (hE : EH E) {a1 : Int32} {a2 : Int32} {a3 : Int32} {M : Mem} {Q : Int32 → Mem → Prop} (h : P_Mo_isIn a1 a2 a3 M Q) : CI yX11_isIn cX11_isIn 3 (some .boolean) rmX11_isIn E [.int a1, .int a2, .int a3] M (fun r M => nb r ∧ Q r M) := by
  refine CI.of hE (plainFor_of_name (by decide)) (Nat.le_of_ble_eq_true rfl) (fun x hz => ?_)
  unfold P_Mo_isIn at h
  show G x E mX11_isIn 0 0 0 [(0, .int a1), (1, .int a2), (2, .int a3)] [] M
  refine g_iloadn (k0 := 0) (q := 1) dX11_isIn_0 rfl rfl rfl ?_
  refine g_iloadn (k0 := 1) (q := 2) dX11_isIn_1 rfl rfl rfl ?_
  refine g_ic_lt (tgt := 14) (q := 5) dX11_isIn_2 rfl rfl (fun hc2 => ?_) (fun hc2 => ?_)
  · replace h := h.1 hc2
    refine g_iconst (q := 15) dX11_isIn_14 ki_0 rfl ?_
    exact g_zret hz rfl rfl dX11_isIn_15 h
  · replace h := h.2 hc2
    refine g_iloadn (k0 := 0) (q := 6) dX11_isIn_5 rfl rfl rfl ?_
    refine g_iloadn (k0 := 2) (q := 7) dX11_isIn_6 rfl rfl rfl ?_
    refine g_ic_gt (tgt := 14) (q := 10) dX11_isIn_7 rfl rfl (fun hc1 => ?_) (fun hc1 => ?_)
    · replace h := h.1 hc1
      refine g_iconst (q := 15) dX11_isIn_14 ki_0 rfl ?_
      exact g_zret hz rfl rfl dX11_isIn_15 h
    · replace h := h.2 hc1
      refine g_iconst (q := 11) dX11_isIn_10 ki_1 rfl ?_
      refine g_goto (tgt := 15) dX11_isIn_11 rfl ?_
      exact g_zret hz rfl rfl dX11_isIn_15 h
set_option maxHeartbeats 4000000 in
set_option maxRecDepth 100000 in
theorem g_X11_say_4 {x : GX} {E : EX} (hE : EH E) {Q : Mem → Prop} (hz : ZU x E Q) : ∀ (n : Nat) (v1 : Int32) (v3 : Int32) (M : Mem), P_Mo_say_4 Q n v1 v3 M → G x E mX11_say 0 0 4 [(0, .ref (eA E 35)), (1, .int v1), (3, .int v3)] [] M := by
  intro n
  induction n with
  | zero => intro _ _ _ h; exact h.elim
  | succ n ih =>
    intro v1 v3 M h
    unfold P_Mo_say_4 at h
    refine g_iloadn (k0 := 2) (q := 5) dX11_say_4 rfl rfl rfl ?_
    refine g_if_lt (tgt := 38) (q := 8) dX11_say_5 rfl rfl (fun hc2 => ?_) (fun hc2 => ?_)
    · replace h := h.1 hc2
      exact g_vret hz rfl dX11_say_38 h
    · replace h := h.2 hc2
      refine g_aloadn (k0 := 0) (q := 9) dX11_say_8 rfl rfl rfl ?_
      refine g_get (v := .ref (eA E 50)) (q := 12) fg_X11_53_35 rfl dX11_say_9 rfl ?_
      refine g_aloadn (k0 := 0) (q := 13) dX11_say_12 rfl rfl rfl ?_
      refine g_get (v := .int (M.1 35 24)) (q := 16) fg_X11_176_35 rfl dX11_say_13 rfl ?_
      refine g_iloadn (k0 := 1) (q := 17) dX11_say_16 rfl rfl rfl ?_
      refine g_iloadn (k0 := 2) (q := 18) dX11_say_17 rfl rfl rfl ?_
      refine g_ishr (q := 19) dX11_say_18 rfl ?_
      refine g_iconst (q := 20) dX11_say_19 ki_1 rfl ?_
      refine g_iand (q := 21) dX11_say_20 rfl ?_
      have hv1 := h.1
      replace h := h.2
      refine g_iast (q := 22) ar_50 hv1 dX11_say_21 rfl ?_
      refine g_aloadn (k0 := 0) (q := 23) dX11_say_22 rfl rfl rfl ?_
      refine g_dup (q := 24) dX11_say_23 rfl rfl ?_
      refine g_get (v := .int (M.1 35 24)) (q := 27) fg_X11_176_35 rfl dX11_say_24 rfl ?_
      refine g_iconst (q := 28) dX11_say_27 ki_1 rfl ?_
      refine g_iadd (q := 29) dX11_say_28 rfl ?_
      refine g_putI (q := 32) fp_X11_176_35 dX11_say_29 rfl ?_
      refine g_iinc (lv' := [(0, .ref (eA E 35)), (1, .int v1), (3, .int (v3 + (-1)))]) (k0 := 2) (w := (v3 + (-1))) (q := 35) [1, 2, 0] dX11_say_32 rfl rfl (by decide) rfl rfl ?_
      refine g_goto (tgt := 4) dX11_say_35 rfl ?_
      exact ih _ _ _ h
