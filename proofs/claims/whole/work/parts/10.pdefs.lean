def P_Tape_hasRoomFor (a1 : Int32) (M : Mem) (Q : Int32 → Mem → Prop) : Prop :=
  (400 < ((M.1 1 1) + a1) →
    Q 0 M) ∧
  (¬ 400 < ((M.1 1 1) + a1) →
    Q 1 M)
def P_Tape_addNumber_3 (Q : Mem → Prop) : Nat → Int32 → Int32 → Mem → Prop
  | 0, _, _, _ => False
  | n + 1, v1, v2, M =>
    (v2 < 0 →
      Q M) ∧
    (¬ v2 < 0 →
      (400 ≤ (M.1 1 1) →
        P_Tape_addNumber_3 Q n v1 (v2 + (-8)) M) ∧
      (¬ 400 ≤ (M.1 1 1) →
        vp_in (M.1 1 1) 400 ∧
        P_Tape_addNumber_3 Q n v1 (v2 + (-8)) (putI (putI M 2 ((M.1 1 1)).toNatClampNeg (Int32.toInt8 (v1 >>> (v2 &&& 31))).toInt32) 1 1 ((M.1 1 1) + 1))))
def P_Tape_addNumber (a1 : Int32) (M : Mem) (Q : Mem → Prop) : Prop :=
  ∃ m4, P_Tape_addNumber_3 Q m4 a1 24 M
def P_Tape_length (M : Mem) (Q : Int32 → Mem → Prop) : Prop :=
  Q (M.1 1 1) M
def P_Sv_feed (a1 : Int32) (a2 : Int32) (a3 : Int32) (a4 : Int32) (a5 : Int32) (M : Mem) (Q : Int32 → Mem → Prop) : Prop :=
  (P_Tape_hasRoomFor 20 M fun r2 M1 =>
    (¬ r2 = 0 →
      (P_Tape_addNumber a1 M1 fun M3 =>
        (P_Tape_addNumber a2 M3 fun M4 =>
          (P_Tape_addNumber a3 M4 fun M5 =>
            (P_Tape_addNumber a4 M5 fun M6 =>
              (P_Tape_addNumber a5 M6 fun M7 =>
                (P_Tape_length  M7 fun r9 M8 =>
                  Q r9 M8))))))) ∧
    (r2 = 0 →
      Q (-1) M1))
def P_Tape_cutTo (a1 : Int32) (M : Mem) (Q : Int32 → Mem → Prop) : Prop :=
  (a1 < 0 →
    Q 0 M) ∧
  (¬ a1 < 0 →
    (a1 ≤ (M.1 1 1) →
      Q 1 (putI M 1 1 a1)) ∧
    (¬ a1 ≤ (M.1 1 1) →
      Q 0 M))
def P_Sv_end (a1 : Int32) (M : Mem) (Q : Int32 → Mem → Prop) : Prop :=
  (P_Tape_cutTo a1 M fun r2 M1 =>
    Q r2 M1)
def P_Tape_levelAt (a1 : Int32) (M : Mem) (Q : Int32 → Mem → Prop) : Prop :=
  ((a1 >>> ((3 : Int32) &&& 31)) < 0 →
    Q 0 M) ∧
  (¬ (a1 >>> ((3 : Int32) &&& 31)) < 0 →
    ((M.1 1 1) ≤ (a1 >>> ((3 : Int32) &&& 31)) →
      Q 0 M) ∧
    (¬ (M.1 1 1) ≤ (a1 >>> ((3 : Int32) &&& 31)) →
      vp_in (a1 >>> ((3 : Int32) &&& 31)) 400 ∧
      Q (((M.1 2 ((a1 >>> ((3 : Int32) &&& 31))).toNatClampNeg) >>> ((7 - (a1 &&& 7)) &&& 31)) &&& 1) M))
def P_Ear_lose (c : Nat) (M : Mem) (Q : Mem → Prop) : Prop :=
  ((M.1 c 3) < 30 →
    Q (putI M c 3 (-1))) ∧
  (¬ (M.1 c 3) < 30 →
    Q (putI (putI M c 4 ((M.1 c 4) + 1)) c 3 (-1)))
def P_Ear_putBit (c : Nat) (a1 : Int32) (M : Mem) (Q : Mem → Prop) : Prop :=
  (¬ (M.1 c 3) = (-1) →
    ((M.1 c 3) < 300 →
      vp_in (M.1 c 3) 300 ∧
      Q (putI (putI M (c + 1) ((M.1 c 3)).toNatClampNeg (Int32.toInt8 a1).toInt32) c 3 ((M.1 c 3) + 1))) ∧
    (¬ (M.1 c 3) < 300 →
      (P_Ear_lose c M fun M2 =>
        Q M2))) ∧
  ((M.1 c 3) = (-1) →
    Q M)
def P_Ear_bitAt (c : Nat) (a1 : Int32) (M : Mem) (Q : Int32 → Mem → Prop) : Prop :=
  (a1 < 0 →
    Q 0 M) ∧
  (¬ a1 < 0 →
    (300 ≤ a1 →
      Q 0 M) ∧
    (¬ 300 ≤ a1 →
      vp_in a1 300 ∧
      Q (M.1 (c + 1) a1.toNatClampNeg) M))
def P_Ear_number_5 (c : Nat) (Q : Int32 → Mem → Prop) : Nat → Int32 → Int32 → Int32 → Int32 → Mem → Prop
  | 0, _, _, _, _, _ => False
  | n + 1, v1, v2, v3, v4, M =>
    ((v1 + v2) ≤ v4 →
      Q v3 M) ∧
    (¬ (v1 + v2) ≤ v4 →
      (P_Ear_bitAt c v4 M fun r2 M1 =>
        P_Ear_number_5 c Q n v1 v2 ((v3 <<< ((1 : Int32) &&& 31)) ||| r2) (v4 + 1) M1))
def P_Ear_number (c : Nat) (a1 : Int32) (a2 : Int32) (M : Mem) (Q : Int32 → Mem → Prop) : Prop :=
  ∃ m4, P_Ear_number_5 c Q m4 a1 a2 0 a1 M
def P_Sv_checkAfter (a1 : Int32) (a2 : Int32) (M : Mem) (Q : Int32 → Mem → Prop) : Prop :=
  (((a1 >>> ((15 : Int32) &&& 31)) &&& 1) = a2 →
    Q ((a1 <<< ((1 : Int32) &&& 31)) &&& 65535) M) ∧
  (¬ ((a1 >>> ((15 : Int32) &&& 31)) &&& 1) = a2 →
    Q (((a1 <<< ((1 : Int32) &&& 31)) &&& 65535) ^^^ 4129) M)
def P_Ear_isChecked_5 (c : Nat) (Q : Int32 → Mem → Prop) : Nat → Int32 → Int32 → Mem → Prop
  | 0, _, _, _ => False
  | n + 1, v1, v2, M =>
    ((M.1 c 5) ≤ v2 →
      (P_Ear_number c (M.1 c 5) 16 M fun r2 M1 =>
        (¬ (v1 ^^^ 65535) = r2 →
          Q 0 M1) ∧
        ((v1 ^^^ 65535) = r2 →
          Q 1 M1))) ∧
    (¬ (M.1 c 5) ≤ v2 →
      (P_Ear_bitAt c v2 M fun r5 M4 =>
        (P_Sv_checkAfter v1 r5 M4 fun r7 M6 =>
          P_Ear_isChecked_5 c Q n r7 (v2 + 1) M6)))
def P_Ear_isChecked (c : Nat) (M : Mem) (Q : Int32 → Mem → Prop) : Prop :=
  ∃ m9, P_Ear_isChecked_5 c Q m9 65535 0 M
def P_Ear_endPiece (c : Nat) (M : Mem) (Q : Int32 → Mem → Prop) : Prop :=
  (24 ≤ ((M.1 c 3) - 6) →
    (P_Ear_isChecked c (putI (putI M c 3 0) c 5 (((M.1 c 3) - 6) - 16)) fun r2 M1 =>
      (r2 = 0 →
        Q 0 (putI M1 c 4 ((M1.1 c 4) + 1))) ∧
      (¬ r2 = 0 →
        Q 1 M1))) ∧
  (¬ 24 ≤ ((M.1 c 3) - 6) →
    Q 0 (putI M c 3 0))
def P_Ear_takeOne_19 (c : Nat) (Q : Mem → Prop) (M : Mem) : Prop :=
  (5 < (M.1 c 2) →
    (¬ (M.1 c 2) = 7 →
      Q M) ∧
    ((M.1 c 2) = 7 →
      (P_Ear_lose c M fun M1 =>
        Q M1))) ∧
  (¬ 5 < (M.1 c 2) →
    (P_Ear_putBit c 1 M fun M3 =>
      Q M3))
def P_Ear_takeOne (c : Nat) (M : Mem) (Q : Mem → Prop) : Prop :=
  (7 ≤ (M.1 c 2) →
    P_Ear_takeOne_19 c Q M) ∧
  (¬ 7 ≤ (M.1 c 2) →
    P_Ear_takeOne_19 c Q (putI M c 2 ((M.1 c 2) + 1)))
def P_Ear_takeLevel_13 (c : Nat) (Q : Int32 → Mem → Prop) (v1 : Int32) (s0 : Int32) (M : Mem) : Prop :=
  (s0 = 0 →
    (¬ (M.1 c 2) = 6 →
      (5 ≤ (M.1 c 2) →
        Q 0 (putI (putI M c 1 v1) c 2 0)) ∧
      (¬ 5 ≤ (M.1 c 2) →
        (P_Ear_putBit c 0 (putI (putI M c 1 v1) c 2 0) fun M1 =>
          Q 0 M1))) ∧
    ((M.1 c 2) = 6 →
      (P_Ear_endPiece c (putI (putI M c 1 v1) c 2 0) fun r4 M3 =>
        Q r4 M3))) ∧
  (¬ s0 = 0 →
    (P_Ear_takeOne c (putI M c 1 v1) fun M6 =>
      Q 0 M6))
def P_Ear_takeLevel (c : Nat) (a1 : Int32) (M : Mem) (Q : Int32 → Mem → Prop) : Prop :=
  (¬ a1 = (M.1 c 1) →
    P_Ear_takeLevel_13 c Q a1 0 M) ∧
  (a1 = (M.1 c 1) →
    P_Ear_takeLevel_13 c Q a1 1 M)
def P_Ear_frameBits (c : Nat) (M : Mem) (Q : Int32 → Mem → Prop) : Prop :=
  Q (M.1 c 5) M
def P_Telling_isKind (a1 : Int32) (M : Mem) (Q : Int32 → Mem → Prop) : Prop :=
  (a1 < 1 →
    Q 0 M) ∧
  (¬ a1 < 1 →
    (5 < a1 →
      Q 0 M) ∧
    (¬ 5 < a1 →
      Q 1 M))
def P_Telling_width (a1 : Int32) (M : Mem) (Q : Int32 → Mem → Prop) : Prop :=
  (a1 < 0 →
    Q 0 M) ∧
  (¬ a1 < 0 →
    (4 ≤ a1 →
      Q 0 M) ∧
    (¬ 4 ≤ a1 →
      (((((M.1 7 1) - 1) * 4) + a1) < 0 →
        Q 0 M) ∧
      (¬ ((((M.1 7 1) - 1) * 4) + a1) < 0 →
        (20 ≤ ((((M.1 7 1) - 1) * 4) + a1) →
          Q 0 M) ∧
        (¬ 20 ≤ ((((M.1 7 1) - 1) * 4) + a1) →
          vp_in ((((M.1 7 1) - 1) * 4) + a1) 20 ∧
          Q (wid (((((M.1 7 1) - 1) * 4) + a1)).toNatClampNeg) M))))
def P_Telling_bodyBits_4 (Q : Int32 → Mem → Prop) : Nat → Int32 → Int32 → Mem → Prop
  | 0, _, _, _ => False
  | n + 1, v1, v2, M =>
    (4 ≤ v2 →
      Q v1 M) ∧
    (¬ 4 ≤ v2 →
      (P_Telling_width v2 M fun r2 M1 =>
        P_Telling_bodyBits_4 Q n (v1 + r2) (v2 + 1) M1))
def P_Telling_bodyBits (M : Mem) (Q : Int32 → Mem → Prop) : Prop :=
  ∃ m4, P_Telling_bodyBits_4 Q m4 0 0 M
def P_Telling_areLetters_2 (Q : Int32 → Mem → Prop) : Nat → Int32 → Int32 → Int32 → Mem → Prop
  | 0, _, _, _, _ => False
  | n + 1, v0, v1, v2, M =>
    (v1 ≤ v2 →
      Q 1 M) ∧
    (¬ v1 ≤ v2 →
      (((v0 >>> ((v2 * 5) &&& 31)) &&& 31) ≤ 26 →
        P_Telling_areLetters_2 Q n v0 v1 (v2 + 1) M) ∧
      (¬ ((v0 >>> ((v2 * 5) &&& 31)) &&& 31) ≤ 26 →
        Q 0 M))
def P_Telling_areLetters (a1 : Int32) (a2 : Int32) (M : Mem) (Q : Int32 → Mem → Prop) : Prop :=
  ∃ m3, P_Telling_areLetters_2 Q m3 a1 a2 0 M
def P_Telling_isAsTold (M : Mem) (Q : Int32 → Mem → Prop) : Prop :=
  ((M.1 7 1) = 2 →
    vp_in 0 4 ∧
    (P_Telling_areLetters (M.1 8 0) 3 M fun r3 M2 =>
      (r3 = 0 →
        Q 0 M2) ∧
      (¬ r3 = 0 →
        vp_in 1 4 ∧
        (P_Telling_areLetters (M2.1 8 1) 3 M2 fun r6 M5 =>
          (r6 = 0 →
            Q 0 M5) ∧
          (¬ r6 = 0 →
            Q 1 M5))))) ∧
  ((M.1 7 1) = 3 →
    Q 1 M) ∧
  ((M.1 7 1) = 4 →
    vp_in 2 4 ∧
    ((M.1 8 2) < 2 →
      Q 0 M) ∧
    (¬ (M.1 8 2) < 2 →
      (5 < (M.1 8 2) →
        Q 0 M) ∧
      (¬ 5 < (M.1 8 2) →
        vp_in 1 4 ∧
        ((M.1 8 2) ≤ (M.1 8 1) →
          Q 0 M) ∧
        (¬ (M.1 8 2) ≤ (M.1 8 1) →
          vp_in 3 4 ∧
          (P_Telling_areLetters (M.1 8 3) 4 M fun r15 M14 =>
            (r15 = 0 →
              Q 0 M14) ∧
            (¬ r15 = 0 →
              Q 1 M14)))))) ∧
  ((M.1 7 1) = 5 →
    vp_in 0 4 ∧
    (2250 ≤ (M.1 8 0) →
      Q 0 M) ∧
    (¬ 2250 ≤ (M.1 8 0) →
      vp_in 1 4 ∧
      ((M.1 8 1) ≤ 0 →
        Q 0 M) ∧
      (¬ (M.1 8 1) ≤ 0 →
        Q 1 M))) ∧
  (¬ (M.1 7 1) = 2 → ¬ (M.1 7 1) = 3 → ¬ (M.1 7 1) = 4 → ¬ (M.1 7 1) = 5 →
    Q 1 M)
def P_Telling_signed_24 (Q : Int32 → Mem → Prop) (v1 : Int32) (v2 : Int32) (s0 : Int32) (M : Mem) : Prop :=
  (s0 = 0 →
    Q v1 M) ∧
  (¬ s0 = 0 →
    Q (v1 - ((1 : Int32) <<< (v2 &&& 31))) M)
def P_Telling_signed_23 (Q : Int32 → Mem → Prop) (v1 : Int32) (v2 : Int32) (M : Mem) : Prop :=
  P_Telling_signed_24 Q v1 v2 0 M
def P_Telling_signed (a1 : Int32) (a2 : Int32) (M : Mem) (Q : Int32 → Mem → Prop) : Prop :=
  (¬ (M.1 7 1) = 1 →
    P_Telling_signed_23 Q a1 a2 M) ∧
  ((M.1 7 1) = 1 →
    (¬ ((a1 >>> ((a2 - 1) &&& 31)) &&& 1) = 1 →
      P_Telling_signed_23 Q a1 a2 M) ∧
    (((a1 >>> ((a2 - 1) &&& 31)) &&& 1) = 1 →
      P_Telling_signed_24 Q a1 a2 1 M))
def P_Telling_readAll_100 (c : Nat) (K61 : Int32 → Int32 → Mem → Prop) (Q : Int32 → Mem → Prop) (v2 : Int32) (v3 : Int32) (v4 : Int32) (s0 : Int32) (s1 : Int32) (M : Mem) : Prop :=
  vp_in s1 4 ∧
  K61 (v2 + v4) (v3 + 1) (putI M 8 s1.toNatClampNeg s0)
def P_Telling_readAll_61 (c : Nat) (Q : Int32 → Mem → Prop) : Nat → Int32 → Int32 → Mem → Prop
  | 0, _, _, _ => False
  | n + 1, v2, v3, M =>
    (4 ≤ v3 →
      (P_Telling_isAsTold  M fun r14 M13 =>
        Q r14 M13)) ∧
    (¬ 4 ≤ v3 →
      (P_Telling_width v3 M fun r16 M15 =>
        (¬ r16 = 0 →
          (P_Ear_number c v2 r16 M15 fun r18 M17 =>
            (P_Telling_signed r18 r16 M17 fun r20 M19 =>
              P_Telling_readAll_100 c (fun v2 v3 M => P_Telling_readAll_61 c Q n v2 v3 M) Q v2 v3 r16 r20 v3 M19))) ∧
        (r16 = 0 →
          P_Telling_readAll_100 c (fun v2 v3 M => P_Telling_readAll_61 c Q n v2 v3 M) Q v2 v3 r16 (-1) v3 M15)))
def P_Telling_readAll (c : Nat) (M : Mem) (Q : Int32 → Mem → Prop) : Prop :=
  (P_Ear_frameBits c M fun r2 M1 =>
    (24 ≤ r2 →
      (P_Ear_number c 0 4 M1 fun r4 M3 =>
        (P_Ear_number c 4 20 (putI M3 7 1 r4) fun r6 M5 =>
          (P_Telling_isKind (M5.1 7 1) (putI M5 7 2 r6) fun r8 M7 =>
            (r8 = 0 →
              Q 0 M7) ∧
            (¬ r8 = 0 →
              (P_Ear_frameBits c M7 fun r10 M9 =>
                (P_Telling_bodyBits  M9 fun r12 M11 =>
                  (r10 = (24 + r12) →
                    ∃ m24, P_Telling_readAll_61 c Q m24 24 0 M11) ∧
                  (¬ r10 = (24 + r12) →
                    Q 0 M11)))))))) ∧
    (¬ 24 ≤ r2 →
      Q 0 M1))
def P_Telling_setNumbers (a1 : Int32) (a2 : Int32) (a3 : Int32) (a4 : Int32) (M : Mem) (Q : Mem → Prop) : Prop :=
  vp_in 0 4 ∧
  vp_in 1 4 ∧
  vp_in 2 4 ∧
  vp_in 3 4 ∧
  Q (putI (putI (putI (putI M 8 0 a1) 8 1 a2) 8 2 a3) 8 3 a4)
def P_Telling_readFrom (c : Nat) (M : Mem) (Q : Mem → Prop) : Prop :=
  (P_Telling_readAll c M fun r2 M1 =>
    (¬ r2 = 0 →
      Q M1) ∧
    (r2 = 0 →
      (P_Telling_setNumbers (-1) (-1) (-1) (-1) (putI (putI M1 7 1 0) 7 2 (-1)) fun M3 =>
        Q M3)))
def P_Telling_kind (M : Mem) (Q : Int32 → Mem → Prop) : Prop :=
  Q (M.1 7 1) M
def P_Telling_ship (M : Mem) (Q : Int32 → Mem → Prop) : Prop :=
  Q (M.1 7 2) M
def P_Telling_number (a1 : Int32) (M : Mem) (Q : Int32 → Mem → Prop) : Prop :=
  (a1 < 0 →
    Q (-1) M) ∧
  (¬ a1 < 0 →
    (4 ≤ a1 →
      Q (-1) M) ∧
    (¬ 4 ≤ a1 →
      vp_in a1 4 ∧
      Q (M.1 8 a1.toNatClampNeg) M))
def P_Log_add_70 (Q : Int32 → Mem → Prop) : Nat → Int32 → Int32 → Mem → Prop
  | 0, _, _, _ => False
  | n + 1, v4, v5, M =>
    (4 ≤ v5 →
      Q (((M.1 11 1) + 1) - 1) (putI M 11 1 ((M.1 11 1) + 1))) ∧
    (¬ 4 ≤ v5 →
      (P_Telling_number v5 M fun r10 M9 =>
        vp_in ((v4 + 4) + v5) 1600 ∧
        P_Log_add_70 Q n v4 (v5 + 1) (putI M9 12 (((v4 + 4) + v5)).toNatClampNeg r10)))
def P_Log_add (a2 : Int32) (a3 : Int32) (M : Mem) (Q : Int32 → Mem → Prop) : Prop :=
  ((M.1 11 1) < 200 →
    (P_Telling_kind  M fun r2 M1 =>
      vp_in (((M.1 11 1) * 8) + 0) 1600 ∧
      (P_Telling_ship  (putI M1 12 ((((M.1 11 1) * 8) + 0)).toNatClampNeg r2) fun r5 M4 =>
        vp_in (((M.1 11 1) * 8) + 1) 1600 ∧
        vp_in (((M.1 11 1) * 8) + 2) 1600 ∧
        vp_in (((M.1 11 1) * 8) + 3) 1600 ∧
        ∃ m13, P_Log_add_70 Q m13 ((M.1 11 1) * 8) 0 (putI (putI (putI M4 12 ((((M.1 11 1) * 8) + 1)).toNatClampNeg r5) 12 ((((M.1 11 1) * 8) + 2)).toNatClampNeg a2) 12 ((((M.1 11 1) * 8) + 3)).toNatClampNeg a3)))) ∧
  (¬ (M.1 11 1) < 200 →
    Q (-1) M)
def P_Log_has (a1 : Int32) (M : Mem) (Q : Int32 → Mem → Prop) : Prop :=
  (a1 < 0 →
    Q 0 M) ∧
  (¬ a1 < 0 →
    ((M.1 11 1) ≤ a1 →
      Q 0 M) ∧
    (¬ (M.1 11 1) ≤ a1 →
      Q 1 M))
def P_Log_cell (a1 : Int32) (a2 : Int32) (M : Mem) (Q : Int32 → Mem → Prop) : Prop :=
  (P_Log_has a1 M fun r2 M1 =>
    (r2 = 0 →
      Q (-1) M1) ∧
    (¬ r2 = 0 →
      (a2 < 0 →
        Q (-1) M1) ∧
      (¬ a2 < 0 →
        (8 ≤ a2 →
          Q (-1) M1) ∧
        (¬ 8 ≤ a2 →
          vp_in ((a1 * 8) + a2) 1600 ∧
          Q (M1.1 12 (((a1 * 8) + a2)).toNatClampNeg) M1))))
def P_Log_isOf (a1 : Int32) (a2 : Int32) (a3 : Int32) (M : Mem) (Q : Int32 → Mem → Prop) : Prop :=
  (P_Log_cell a1 0 M fun r2 M1 =>
    (¬ r2 = a2 →
      Q 0 M1) ∧
    (r2 = a2 →
      (P_Log_cell a1 1 M1 fun r4 M3 =>
        (¬ r4 = a3 →
          Q 0 M3) ∧
        (r4 = a3 →
          Q 1 M3))))
def P_TextBook_areOfOneText (a2 : Int32) (a3 : Int32) (M : Mem) (Q : Int32 → Mem → Prop) : Prop :=
  (P_Log_cell a3 1 M fun r2 M1 =>
    (P_Log_isOf a2 4 r2 M1 fun r4 M3 =>
      (r4 = 0 →
        Q 0 M3) ∧
      (¬ r4 = 0 →
        (P_Log_cell a2 4 M3 fun r6 M5 =>
          (P_Log_cell a3 4 M5 fun r8 M7 =>
            (¬ r6 = r8 →
              Q 0 M7) ∧
            (r6 = r8 →
              (P_Log_cell a2 6 M7 fun r10 M9 =>
                (P_Log_cell a3 6 M9 fun r12 M11 =>
                  (¬ r10 = r12 →
                    Q 0 M11) ∧
                  (r10 = r12 →
                    Q 1 M11)))))))))
def P_TextBook_findNewest_101 (K29 : Int32 → Int32 → Int32 → Int32 → Mem → Prop) (Q : Int32 → Mem → Prop) (v2 : Int32) (v3 : Int32) (v5 : Int32) (v6 : Int32) (s0 : Int32) (s1 : Int32) (M : Mem) : Prop :=
  vp_in v6 5 ∧
  K29 v2 v3 (s1 + s0) (v5 + 1) (putI M 19 v6.toNatClampNeg v5)
def P_TextBook_findNewest_29 (Q : Int32 → Mem → Prop) : Nat → Int32 → Int32 → Int32 → Int32 → Mem → Prop
  | 0, _, _, _, _, _ => False
  | n + 1, v2, v3, v4, v5, M =>
    (v2 < v5 →
      (¬ v4 = v3 →
        Q 0 M) ∧
      (v4 = v3 →
        Q 1 M)) ∧
    (¬ v2 < v5 →
      (200 ≤ v5 →
        (¬ v4 = v3 →
          Q 0 M) ∧
        (v4 = v3 →
          Q 1 M)) ∧
      (¬ 200 ≤ v5 →
        (P_Log_cell v5 5 M fun r4 M3 =>
          vp_in v5 200 ∧
          (¬ (M3.1 16 v5.toNatClampNeg) = 0 →
            P_TextBook_findNewest_29 Q n v2 v3 v4 (v5 + 1) M3) ∧
          ((M3.1 16 v5.toNatClampNeg) = 0 →
            (P_TextBook_areOfOneText v5 v2 M3 fun r7 M6 =>
              (r7 = 0 →
                P_TextBook_findNewest_29 Q n v2 v3 v4 (v5 + 1) M6) ∧
              (¬ r7 = 0 →
                (r4 < 0 →
                  P_TextBook_findNewest_29 Q n v2 v3 v4 (v5 + 1) M6) ∧
                (¬ r4 < 0 →
                  (v3 ≤ r4 →
                    P_TextBook_findNewest_29 Q n v2 v3 v4 (v5 + 1) M6) ∧
                  (¬ v3 ≤ r4 →
                    vp_in r4 5 ∧
                    (¬ (M6.1 19 r4.toNatClampNeg) = (-1) →
                      P_TextBook_findNewest_101 (fun v2 v3 v4 v5 M => P_TextBook_findNewest_29 Q n v2 v3 v4 v5 M) Q v2 v3 v5 r4 0 v4 M6) ∧
                    ((M6.1 19 r4.toNatClampNeg) = (-1) →
                      P_TextBook_findNewest_101 (fun v2 v3 v4 v5 M => P_TextBook_findNewest_29 Q n v2 v3 v4 v5 M) Q v2 v3 v5 r4 1 v4 M6)))))))))
def P_TextBook_findNewest_3 (Q : Int32 → Mem → Prop) : Nat → Int32 → Int32 → Int32 → Mem → Prop
  | 0, _, _, _, _ => False
  | n + 1, v2, v3, v4, M =>
    (5 ≤ v4 →
      ∃ m17, P_TextBook_findNewest_29 Q m17 v2 v3 0 0 M) ∧
    (¬ 5 ≤ v4 →
      vp_in v4 5 ∧
      P_TextBook_findNewest_3 Q n v2 v3 (v4 + 1) (putI M 19 v4.toNatClampNeg (-1)))
def P_TextBook_findNewest (a2 : Int32) (a3 : Int32) (M : Mem) (Q : Int32 → Mem → Prop) : Prop :=
  ∃ m20, P_TextBook_findNewest_3 Q m20 a2 a3 0 M
def P_TextBook_join_59 (Q : Mem → Prop) : Nat → Int32 → Int32 → Mem → Prop
  | 0, _, _, _ => False
  | n + 1, v2, v4, M =>
    (v2 < v4 →
      Q M) ∧
    (¬ v2 < v4 →
      (200 ≤ v4 →
        Q M) ∧
      (¬ 200 ≤ v4 →
        (P_TextBook_areOfOneText v4 v2 M fun r3 M2 =>
          (r3 = 0 →
            P_TextBook_join_59 Q n v2 (v4 + 1) M2) ∧
          (¬ r3 = 0 →
            vp_in v4 200 ∧
            P_TextBook_join_59 Q n v2 (v4 + 1) (putI M2 16 v4.toNatClampNeg 1)))))
def P_TextBook_join_3 (Q : Mem → Prop) : Nat → Int32 → Int32 → Int32 → Mem → Prop
  | 0, _, _, _, _ => False
  | n + 1, v2, v3, v4, M =>
    (v3 ≤ v4 →
      vp_in (M.1 15 4) 100 ∧
      ∃ m8, P_TextBook_join_59 Q m8 v2 0 (putI (putI M 18 ((M.1 15 4)).toNatClampNeg v2) 15 4 ((M.1 15 4) + 1))) ∧
    (¬ v3 ≤ v4 →
      vp_in v4 5 ∧
      vp_in (((M.1 15 4) * 5) + v4) 500 ∧
      P_TextBook_join_3 Q n v2 v3 (v4 + 1) (putI M 17 ((((M.1 15 4) * 5) + v4)).toNatClampNeg (M.1 19 v4.toNatClampNeg)))
def P_TextBook_join (a2 : Int32) (a3 : Int32) (M : Mem) (Q : Mem → Prop) : Prop :=
  ∃ m12, P_TextBook_join_3 Q m12 a2 a3 0 M
def P_TextBook_note (a2 : Int32) (M : Mem) (Q : Mem → Prop) : Prop :=
  (P_Log_cell a2 6 M fun r2 M1 =>
    (100 ≤ (M1.1 15 4) →
      Q M1) ∧
    (¬ 100 ≤ (M1.1 15 4) →
      (5 < r2 →
        Q M1) ∧
      (¬ 5 < r2 →
        (P_TextBook_findNewest a2 r2 M1 fun r4 M3 =>
          (r4 = 0 →
            Q M3) ∧
          (¬ r4 = 0 →
            (P_TextBook_join a2 r2 M3 fun M5 =>
              Q M5))))))
def P_ClashBook_doClash (a2 : Int32) (a3 : Int32) (M : Mem) (Q : Int32 → Mem → Prop) : Prop :=
  (P_Log_cell a3 0 M fun r2 M1 =>
    (¬ r2 = 5 →
      Q 0 M1) ∧
    (r2 = 5 →
      (P_Log_cell a3 4 M1 fun r4 M3 =>
        (P_Log_cell a2 4 M3 fun r6 M5 =>
          (¬ r4 = r6 →
            Q 0 M5) ∧
          (r4 = r6 →
            (P_Log_cell a3 1 M5 fun r8 M7 =>
              (P_Log_cell a2 1 M7 fun r10 M9 =>
                (¬ r8 = r10 →
                  (P_Log_cell a3 3 M9 fun r12 M11 =>
                    (P_Log_cell a3 5 M11 fun r14 M13 =>
                      (P_Log_cell a2 3 M13 fun r16 M15 =>
                        ((r12 + (r14 * 60)) ≤ r16 →
                          Q 0 M15) ∧
                        (¬ (r12 + (r14 * 60)) ≤ r16 →
                          Q 1 M15))))) ∧
                (r8 = r10 →
                  Q 0 M9))))))))
def P_ClashBook_note_17 (Q : Mem → Prop) : Nat → Int32 → Int32 → Int32 → Mem → Prop
  | 0, _, _, _, _ => False
  | n + 1, v2, v3, v4, M =>
    (v2 ≤ v4 →
      vp_in v2 200 ∧
      Q (putI (putI M 14 v2.toNatClampNeg v3) 13 1 ((M.1 13 1) + v3))) ∧
    (¬ v2 ≤ v4 →
      (P_ClashBook_doClash v2 v4 M fun r3 M2 =>
        (r3 = 0 →
          P_ClashBook_note_17 Q n v2 v3 (v4 + 1) M2) ∧
        (¬ r3 = 0 →
          P_ClashBook_note_17 Q n v2 (v3 + 1) (v4 + 1) M2)))
def P_ClashBook_note (a2 : Int32) (M : Mem) (Q : Mem → Prop) : Prop :=
  (a2 < 0 →
    Q M) ∧
  (¬ a2 < 0 →
    (a2 < 200 →
      ∃ m6, P_ClashBook_note_17 Q m6 a2 0 0 M) ∧
    (¬ a2 < 200 →
      Q M))
def P_Sv_readFrame_38 (c : Nat) (Q : Mem → Prop) (v2 : Int32) (M : Mem) : Prop :=
  (P_Log_add v2 (M.1 0 10) M fun r5 M4 =>
    (¬ r5 = (-1) →
      (P_Telling_kind  M4 fun r7 M6 =>
        (¬ r7 = 5 →
          (P_Telling_kind  M6 fun r9 M8 =>
            (¬ r9 = 4 →
              Q M8) ∧
            (r9 = 4 →
              (P_TextBook_note r5 M8 fun M10 =>
                Q M10)))) ∧
        (r7 = 5 →
          (P_ClashBook_note r5 M6 fun M12 =>
            Q M12)))) ∧
    (r5 = (-1) →
      Q M4))
def P_Sv_readFrame (c : Nat) (a2 : Int32) (M : Mem) (Q : Mem → Prop) : Prop :=
  (P_Telling_readFrom c M fun M1 =>
    (P_Telling_kind  (putI M1 0 11 ((M1.1 0 11) + 1)) fun r3 M2 =>
      (¬ r3 = 0 →
        P_Sv_readFrame_38 c Q a2 M2) ∧
      (r3 = 0 →
        P_Sv_readFrame_38 c Q a2 (putI M2 0 12 ((M2.1 0 12) + 1)))))
def P_Sv_hear_47 (Q : Int32 → Mem → Prop) : Nat → Int32 → Int32 → Int32 → Int32 → Mem → Prop
  | 0, _, _, _, _, _ => False
  | n + 1, v1, v2, v4, v5, M =>
    (v4 ≤ v5 →
      (P_Tape_cutTo 0 M fun r4 M3 =>
        Q ((M3.1 0 11) - v2) M3)) ∧
    (¬ v4 ≤ v5 →
      (P_Tape_levelAt v5 M fun r6 M5 =>
        (P_Ear_takeLevel 5 r6 M5 fun r8 M7 =>
          (r8 = 0 →
            P_Sv_hear_47 Q n v1 v2 v4 (v5 + 1) M7) ∧
          (¬ r8 = 0 →
            (P_Sv_readFrame 5 v1 M7 fun M9 =>
              P_Sv_hear_47 Q n v1 v2 v4 (v5 + 1) M9)))))
def P_Sv_hear_31 (Q : Int32 → Mem → Prop) (v1 : Int32) (v2 : Int32) (M : Mem) : Prop :=
  (P_Tape_length  M fun r2 M1 =>
    ∃ m12, P_Sv_hear_47 Q m12 v1 v2 (r2 * 8) 0 M1)
def P_Sv_hear_47_5 (Q : Int32 → Mem → Prop) : Nat → Int32 → Int32 → Int32 → Int32 → Mem → Prop
  | 0, _, _, _, _, _ => False
  | n + 1, v1, v2, v4, v5, M =>
    (v4 ≤ v5 →
      (P_Tape_cutTo 0 M fun r16 M15 =>
        Q ((M15.1 0 11) - v2) M15)) ∧
    (¬ v4 ≤ v5 →
      (P_Tape_levelAt v5 M fun r18 M17 =>
        (P_Ear_takeLevel 3 r18 M17 fun r20 M19 =>
          (r20 = 0 →
            P_Sv_hear_47_5 Q n v1 v2 v4 (v5 + 1) M19) ∧
          (¬ r20 = 0 →
            (P_Sv_readFrame 3 v1 M19 fun M21 =>
              P_Sv_hear_47_5 Q n v1 v2 v4 (v5 + 1) M21)))))
def P_Sv_hear_31_4 (Q : Int32 → Mem → Prop) (v1 : Int32) (v2 : Int32) (M : Mem) : Prop :=
  (P_Tape_length  M fun r14 M13 =>
    ∃ m24, P_Sv_hear_47_5 Q m24 v1 v2 (r14 * 8) 0 M13)
def P_Sv_hear_11 (Q : Int32 → Mem → Prop) (v1 : Int32) (M : Mem) : Prop :=
  (¬ v1 = 0 →
    P_Sv_hear_31 Q v1 (M.1 0 11) M) ∧
  (v1 = 0 →
    P_Sv_hear_31_4 Q v1 (M.1 0 11) M)
def P_Sv_hear (a1 : Int32) (M : Mem) (Q : Int32 → Mem → Prop) : Prop :=
  (a1 = 0 →
    P_Sv_hear_11 Q a1 M) ∧
  (¬ a1 = 0 →
    (a1 = 1 →
      P_Sv_hear_11 Q a1 M) ∧
    (¬ a1 = 1 →
      Q (-1) M))
def P_Sv_wait (a1 : Int32) (M : Mem) (Q : Int32 → Mem → Prop) : Prop :=
  (a1 < 0 →
    Q 0 M) ∧
  (¬ a1 < 0 →
    (100000 < a1 →
      Q 0 M) ∧
    (¬ 100000 < a1 →
      (a1 ≤ (2000000 - (M.1 0 10)) →
        Q 1 (putI M 0 10 ((M.1 0 10) + a1))) ∧
      (¬ a1 ≤ (2000000 - (M.1 0 10)) →
        Q 0 M)))
def P_Telling_fits (a1 : Int32) (a2 : Int32) (M : Mem) (Q : Int32 → Mem → Prop) : Prop :=
  (¬ (M.1 7 1) = 1 →
    (¬ (Int32.toUInt32 a1 >>> (Int32.toUInt32 a2 &&& Int32.toUInt32 31)).toInt32 = 0 →
      Q 0 M) ∧
    ((Int32.toUInt32 a1 >>> (Int32.toUInt32 a2 &&& Int32.toUInt32 31)).toInt32 = 0 →
      Q 1 M)) ∧
  ((M.1 7 1) = 1 →
    (a1 < (-((1 : Int32) <<< ((a2 - 1) &&& 31))) →
      Q 0 M) ∧
    (¬ a1 < (-((1 : Int32) <<< ((a2 - 1) &&& 31))) →
      (((1 : Int32) <<< ((a2 - 1) &&& 31)) ≤ a1 →
        Q 0 M) ∧
      (¬ ((1 : Int32) <<< ((a2 - 1) &&& 31)) ≤ a1 →
        Q 1 M)))
def P_Telling_areInFields_2 (Q : Int32 → Mem → Prop) : Nat → Int32 → Mem → Prop
  | 0, _, _ => False
  | n + 1, v1, M =>
    (4 ≤ v1 →
      Q 1 M) ∧
    (¬ 4 ≤ v1 →
      (P_Telling_width v1 M fun r2 M1 =>
        (r2 ≤ 0 →
          P_Telling_areInFields_2 Q n (v1 + 1) M1) ∧
        (¬ r2 ≤ 0 →
          vp_in v1 4 ∧
          (P_Telling_fits (M1.1 8 v1.toNatClampNeg) r2 M1 fun r5 M4 =>
            (¬ r5 = 0 →
              P_Telling_areInFields_2 Q n (v1 + 1) M4) ∧
            (r5 = 0 →
              Q 0 M4)))))
def P_Telling_areInFields (M : Mem) (Q : Int32 → Mem → Prop) : Prop :=
  ∃ m9, P_Telling_areInFields_2 Q m9 0 M
def P_Telling_compose_99 (Q : Int32 → Mem → Prop) (M : Mem) : Prop :=
  (P_Telling_areInFields  M fun r5 M4 =>
    (r5 = 0 →
      Q 0 M4) ∧
    (¬ r5 = 0 →
      (P_Telling_isAsTold  M4 fun r7 M6 =>
        (r7 = 0 →
          Q 0 M6) ∧
        (¬ r7 = 0 →
          Q 1 M6))))
def P_Telling_compose (a1 : Int32) (a2 : Int32) (a3 : Int32) (a4 : Int32) (a5 : Int32) (a6 : Int32) (M : Mem) (Q : Int32 → Mem → Prop) : Prop :=
  (P_Telling_isKind a1 M fun r2 M1 =>
    (r2 = 0 →
      Q 0 M1) ∧
    (¬ r2 = 0 →
      (a2 < 0 →
        Q 0 M1) ∧
      (¬ a2 < 0 →
        (a2 < 1048576 →
          (¬ a1 = 4 →
            (P_Telling_setNumbers a3 a4 a5 a6 (putI (putI M1 7 1 a1) 7 2 a2) fun M3 =>
              P_Telling_compose_99 Q M3)) ∧
          (a1 = 4 →
            (¬ (Int32.toUInt32 a3 >>> (Int32.toUInt32 (9 : Int32) &&& Int32.toUInt32 31)).toInt32 = 0 →
              Q 0 (putI (putI M1 7 1 a1) 7 2 a2)) ∧
            ((Int32.toUInt32 a3 >>> (Int32.toUInt32 (9 : Int32) &&& Int32.toUInt32 31)).toInt32 = 0 →
              (¬ (Int32.toUInt32 a4 >>> (Int32.toUInt32 (10 : Int32) &&& Int32.toUInt32 31)).toInt32 = 0 →
                Q 0 (putI (putI M1 7 1 a1) 7 2 a2)) ∧
              ((Int32.toUInt32 a4 >>> (Int32.toUInt32 (10 : Int32) &&& Int32.toUInt32 31)).toInt32 = 0 →
                ((Int32.toUInt32 a5 >>> (Int32.toUInt32 (10 : Int32) &&& Int32.toUInt32 31)).toInt32 = 0 →
                  (P_Telling_setNumbers (a3 >>> ((6 : Int32) &&& 31)) ((a3 >>> ((3 : Int32) &&& 31)) &&& 7) (a3 &&& 7) ((a4 <<< ((10 : Int32) &&& 31)) ||| a5) (putI (putI M1 7 1 a1) 7 2 a2) fun M10 =>
                    P_Telling_compose_99 Q M10)) ∧
                (¬ (Int32.toUInt32 a5 >>> (Int32.toUInt32 (10 : Int32) &&& Int32.toUInt32 31)).toInt32 = 0 →
                  Q 0 (putI (putI M1 7 1 a1) 7 2 a2)))))) ∧
        (¬ a2 < 1048576 →
          Q 0 M1))))
def P_Sender_addBit_56 (Q : Mem → Prop) (v2 : Int32) (s0 : Int32) (M : Mem) : Prop :=
  vp_in v2 16 ∧
  Q (putI (putI M 10 v2.toNatClampNeg (Int32.toInt8 (s0 ||| ((M.1 9 2) <<< ((7 - ((M.1 9 1) &&& 7)) &&& 31)))).toInt32) 9 1 ((M.1 9 1) + 1))
def P_Sender_addBit_33 (Q : Mem → Prop) (v2 : Int32) (s0 : Int32) (M : Mem) : Prop :=
  (¬ ((M.1 9 1) &&& 7) = 0 →
    vp_in v2 16 ∧
    P_Sender_addBit_56 Q v2 (M.1 10 v2.toNatClampNeg) (putI M 9 2 s0)) ∧
  (((M.1 9 1) &&& 7) = 0 →
    P_Sender_addBit_56 Q v2 0 (putI M 9 2 s0))
def P_Sender_addBit (a1 : Int32) (M : Mem) (Q : Mem → Prop) : Prop :=
  (((M.1 9 1) >>> ((3 : Int32) &&& 31)) < 16 →
    (¬ a1 = 1 →
      P_Sender_addBit_33 Q ((M.1 9 1) >>> ((3 : Int32) &&& 31)) (1 - (M.1 9 2)) M) ∧
    (a1 = 1 →
      P_Sender_addBit_33 Q ((M.1 9 1) >>> ((3 : Int32) &&& 31)) (M.1 9 2) M)) ∧
  (¬ ((M.1 9 1) >>> ((3 : Int32) &&& 31)) < 16 →
    Q M)
def P_Sender_addMark_7 (Q : Mem → Prop) : Nat → Int32 → Mem → Prop
  | 0, _, _ => False
  | n + 1, v1, M =>
    (6 ≤ v1 →
      (P_Sender_addBit 0 M fun M2 =>
        Q M2)) ∧
    (¬ 6 ≤ v1 →
      (P_Sender_addBit 1 M fun M3 =>
        P_Sender_addMark_7 Q n (v1 + 1) M3))
def P_Sender_addMark (M : Mem) (Q : Mem → Prop) : Prop :=
  (P_Sender_addBit 0 M fun M1 =>
    ∃ m5, P_Sender_addMark_7 Q m5 0 M1)
def P_Sender_addStuffed_33 (Q : Mem → Prop) (s0 : Int32) (M : Mem) : Prop :=
  (¬ s0 = 5 →
    Q (putI M 9 3 s0)) ∧
  (s0 = 5 →
    (P_Sender_addBit 0 (putI M 9 3 s0) fun M4 =>
      Q (putI M4 9 3 0)))
def P_Sender_addStuffed (a1 : Int32) (M : Mem) (Q : Mem → Prop) : Prop :=
  (P_Sv_checkAfter (M.1 9 4) a1 M fun r2 M1 =>
    (P_Sender_addBit a1 (putI M1 9 4 r2) fun M3 =>
      (¬ a1 = 1 →
        P_Sender_addStuffed_33 Q 0 M3) ∧
      (a1 = 1 →
        P_Sender_addStuffed_33 Q ((M3.1 9 3) + 1) M3)))
def P_Sender_addNumber_4 (Q : Mem → Prop) : Nat → Int32 → Int32 → Mem → Prop
  | 0, _, _, _ => False
  | n + 1, v1, v3, M =>
    (v3 < 0 →
      Q M) ∧
    (¬ v3 < 0 →
      (P_Sender_addStuffed ((v1 >>> (v3 &&& 31)) &&& 1) M fun M1 =>
        P_Sender_addNumber_4 Q n v1 (v3 + (-1)) M1))
def P_Sender_addNumber (a1 : Int32) (a2 : Int32) (M : Mem) (Q : Mem → Prop) : Prop :=
  ∃ m3, P_Sender_addNumber_4 Q m3 a1 (a2 - 1) M
def P_Sender_tell_95 (Q : Mem → Prop) : Nat → Int32 → Mem → Prop
  | 0, _, _ => False
  | n + 1, v2, M =>
    (8 ≤ v2 →
      Q M) ∧
    (¬ 8 ≤ v2 →
      (((M.1 9 1) &&& 7) = 0 →
        Q M) ∧
      (¬ ((M.1 9 1) &&& 7) = 0 →
        (P_Sender_addBit 0 M fun M11 =>
          P_Sender_tell_95 Q n (v2 + 1) M11)))
def P_Sender_tell_51 (Q : Mem → Prop) : Nat → Int32 → Mem → Prop
  | 0, _, _ => False
  | n + 1, v2, M =>
    (4 ≤ v2 →
      (P_Sender_addNumber ((M.1 9 4) ^^^ 65535) 16 M fun M9 =>
        (P_Sender_addMark  M9 fun M10 =>
          ∃ m14, P_Sender_tell_95 Q m14 0 M10))) ∧
    (¬ 4 ≤ v2 →
      (P_Telling_number v2 M fun r16 M15 =>
        (P_Telling_width v2 M15 fun r18 M17 =>
          (P_Sender_addNumber r16 r18 M17 fun M19 =>
            P_Sender_tell_51 Q n (v2 + 1) M19))))
def P_Sender_tell (M : Mem) (Q : Mem → Prop) : Prop :=
  (P_Sender_addBit 0 (putI (putI M 9 1 0) 9 2 0) fun M1 =>
    (P_Sender_addMark  M1 fun M2 =>
      (P_Telling_kind  (putI (putI M2 9 3 0) 9 4 65535) fun r4 M3 =>
        (P_Sender_addNumber r4 4 M3 fun M5 =>
          (P_Telling_ship  M5 fun r7 M6 =>
            (P_Sender_addNumber r7 20 M6 fun M8 =>
              ∃ m21, P_Sender_tell_51 Q m21 0 M8))))))
def P_Sender_bytes (M : Mem) (Q : Int32 → Mem → Prop) : Prop :=
  Q ((M.1 9 1) >>> ((3 : Int32) &&& 31)) M
def P_Sv_build (a1 : Int32) (a2 : Int32) (a3 : Int32) (a4 : Int32) (a5 : Int32) (a6 : Int32) (M : Mem) (Q : Int32 → Mem → Prop) : Prop :=
  (P_Telling_compose a1 a2 a3 a4 a5 a6 M fun r2 M1 =>
    (¬ r2 = 0 →
      (P_Sender_tell  M1 fun M3 =>
        (P_Sender_bytes  M3 fun r5 M4 =>
          Q r5 M4))) ∧
    (r2 = 0 →
      Q (-1) M1))
def P_Log_howMany_5 (Q : Int32 → Mem → Prop) : Nat → Int32 → Int32 → Int32 → Int32 → Mem → Prop
  | 0, _, _, _, _, _ => False
  | n + 1, v1, v2, v3, v4, M =>
    ((M.1 11 1) ≤ v4 →
      Q v3 M) ∧
    (¬ (M.1 11 1) ≤ v4 →
      (P_Log_isOf v4 v1 v2 M fun r2 M1 =>
        (r2 = 0 →
          P_Log_howMany_5 Q n v1 v2 v3 (v4 + 1) M1) ∧
        (¬ r2 = 0 →
          P_Log_howMany_5 Q n v1 v2 (v3 + 1) (v4 + 1) M1)))
def P_Log_howMany (a1 : Int32) (a2 : Int32) (M : Mem) (Q : Int32 → Mem → Prop) : Prop :=
  ∃ m5, P_Log_howMany_5 Q m5 a1 a2 0 0 M
def P_Log_entries (M : Mem) (Q : Int32 → Mem → Prop) : Prop :=
  Q (M.1 11 1) M
def P_J6_compare_7cf53 (a1 : Int32) (a2 : Int32) (M : Mem) (Q : Int32 → Mem → Prop) : Prop :=
  (a2 ≤ a1 →
    (¬ a1 = a2 →
      Q 1 M) ∧
    (a1 = a2 →
      Q 0 M)) ∧
  (¬ a2 ≤ a1 →
    Q (-1) M)
def P_Parting_isAhead_2 (Q : Int32 → Mem → Prop) : Nat → Int32 → Int32 → Int32 → Mem → Prop
  | 0, _, _, _, _ => False
  | n + 1, v1, v2, v3, M =>
    (5 < v3 →
      Q 0 M) ∧
    (¬ 5 < v3 →
      (P_Log_cell v1 v3 M fun r2 M1 =>
        (P_Log_cell v2 v3 M1 fun r4 M3 =>
          (P_J6_compare_7cf53 r2 r4 M3 fun r6 M5 =>
            (r6 = 0 →
              P_Parting_isAhead_2 Q n v1 v2 (v3 + 1) M5) ∧
            (¬ r6 = 0 →
              (0 ≤ r6 →
                Q 0 M5) ∧
              (¬ 0 ≤ r6 →
                Q 1 M5))))))
def P_Parting_isAhead (a2 : Int32) (a3 : Int32) (M : Mem) (Q : Int32 → Mem → Prop) : Prop :=
  ∃ m10, P_Parting_isAhead_2 Q m10 a2 a3 3 M
def P_Parting_insert_45 (Q : Mem → Prop) (v2 : Int32) (v3 : Int32) (M : Mem) : Prop :=
  vp_in v3 16 ∧
  Q (putI (putI M 31 v3.toNatClampNeg v2) 20 4 ((M.1 20 4) + 1))
def P_Parting_insert_5 (Q : Mem → Prop) : Nat → Int32 → Int32 → Mem → Prop
  | 0, _, _, _ => False
  | n + 1, v2, v3, M =>
    (v3 ≤ 0 →
      P_Parting_insert_45 Q v2 v3 M) ∧
    (¬ v3 ≤ 0 →
      vp_in (v3 - 1) 16 ∧
      (P_Parting_isAhead v2 (M.1 31 ((v3 - 1)).toNatClampNeg) M fun r4 M3 =>
        (r4 = 0 →
          P_Parting_insert_45 Q v2 v3 M3) ∧
        (¬ r4 = 0 →
          vp_in v3 16 ∧
          P_Parting_insert_5 Q n v2 (v3 + (-1)) (putI M3 31 v3.toNatClampNeg (M3.1 31 ((v3 - 1)).toNatClampNeg)))))
def P_Parting_insert (a2 : Int32) (M : Mem) (Q : Mem → Prop) : Prop :=
  ∃ m8, P_Parting_insert_5 Q m8 a2 (M.1 20 4) M
def P_Parting_gather_13 (Q : Mem → Prop) : Nat → Int32 → Int32 → Int32 → Mem → Prop
  | 0, _, _, _, _ => False
  | n + 1, v2, v3, v4, M =>
    (v3 ≤ v4 →
      Q M) ∧
    (¬ v3 ≤ v4 →
      (16 ≤ (M.1 20 4) →
        P_Parting_gather_13 Q n v2 v3 (v4 + 1) M) ∧
      (¬ 16 ≤ (M.1 20 4) →
        (P_Log_isOf v4 1 v2 M fun r4 M3 =>
          (r4 = 0 →
            P_Parting_gather_13 Q n v2 v3 (v4 + 1) M3) ∧
          (¬ r4 = 0 →
            (P_Parting_insert v4 M3 fun M5 =>
              P_Parting_gather_13 Q n v2 v3 (v4 + 1) M5)))))
def P_Parting_gather (a2 : Int32) (M : Mem) (Q : Mem → Prop) : Prop :=
  (P_Log_entries  (putI M 20 4 0) fun r2 M1 =>
    ∃ m9, P_Parting_gather_13 Q m9 a2 r2 0 M1)
def P_J9_min_7cf53 (a1 : Int32) (a2 : Int32) (M : Mem) (Q : Int32 → Mem → Prop) : Prop :=
  (a2 < a1 →
    Q a2 M) ∧
  (¬ a2 < a1 →
    Q a1 M)
def P_J9_max_7cf53 (a1 : Int32) (a2 : Int32) (M : Mem) (Q : Int32 → Mem → Prop) : Prop :=
  (a1 < a2 →
    Q a2 M) ∧
  (¬ a1 < a2 →
    Q a1 M)
def P_Matching_begin_50 (Q : Mem → Prop) : Nat → Int32 → Mem → Prop
  | 0, _, _ => False
  | n + 1, v2, M =>
    ((M.1 21 10) ≤ v2 →
      Q M) ∧
    (¬ (M.1 21 10) ≤ v2 →
      vp_in v2 32 ∧
      P_Matching_begin_50 Q n (v2 + 1) (putI (putI (putL (putL M 23 v2.toNatClampNeg 0) 24 v2.toNatClampNeg 0) 26 v2.toNatClampNeg (-1)) 27 v2.toNatClampNeg (-1)))
def P_Matching_begin_26 (Q : Mem → Prop) : Nat → Int32 → Mem → Prop
  | 0, _, _ => False
  | n + 1, v2, M =>
    (256 ≤ v2 →
      ∃ m7, P_Matching_begin_50 Q m7 0 M) ∧
    (¬ 256 ≤ v2 →
      vp_in v2 256 ∧
      P_Matching_begin_26 Q n (v2 + 1) (putL M 22 v2.toNatClampNeg 1125899906842624))
def P_Matching_begin (a1 : Int32) (M : Mem) (Q : Mem → Prop) : Prop :=
  (P_J9_min_7cf53 a1 16 M fun r2 M1 =>
    (P_J9_max_7cf53 0 r2 M1 fun r4 M3 =>
      ∃ m10, P_Matching_begin_26 Q m10 0 (putI (putI M3 21 9 r4) 21 10 (2 * r4))))
def P_Matching_isColumn (a1 : Int32) (M : Mem) (Q : Int32 → Mem → Prop) : Prop :=
  (a1 < 0 →
    Q 0 M) ∧
  (¬ a1 < 0 →
    ((M.1 21 10) ≤ a1 →
      Q 0 M) ∧
    (¬ (M.1 21 10) ≤ a1 →
      Q 1 M))
def P_Matching_place (a1 : Int32) (a2 : Int32) (M : Mem) (Q : Mem → Prop) : Prop :=
  (P_Matching_isColumn a1 M fun r2 M1 =>
    (r2 = 0 →
      Q M1) ∧
    (¬ r2 = 0 →
      (P_Matching_isColumn a2 M1 fun r4 M3 =>
        (r4 = 0 →
          Q M3) ∧
        (¬ r4 = 0 →
          vp_in a2 32 ∧
          vp_in a1 32 ∧
          Q (putI (putI M3 27 a2.toNatClampNeg a1) 26 a1.toNatClampNeg a2)))))
def P_Matching_fillSpareRows_7 (Q : Mem → Prop) : Nat → Int32 → Int32 → Mem → Prop
  | 0, _, _, _ => False
  | n + 1, v1, v2, M =>
    ((M.1 21 10) ≤ v2 →
      Q M) ∧
    (¬ (M.1 21 10) ≤ v2 →
      vp_in v2 32 ∧
      (¬ (M.1 27 v2.toNatClampNeg) = (-1) →
        P_Matching_fillSpareRows_7 Q n v1 (v2 + 1) M) ∧
      ((M.1 27 v2.toNatClampNeg) = (-1) →
        (P_Matching_place v1 v2 M fun M2 =>
          P_Matching_fillSpareRows_7 Q n (v1 + 1) (v2 + 1) M2)))
def P_Matching_fillSpareRows (M : Mem) (Q : Mem → Prop) : Prop :=
  ∃ m5, P_Matching_fillSpareRows_7 Q m5 (M.1 21 9) 0 M
def P_Matching_price (a1 : Int32) (a2 : Int32) (M : Mem) (Q : Int64 → Mem → Prop) : Prop :=
  (a1 < (M.1 21 9) →
    ((M.1 21 9) ≤ a2 →
      Q 1099511627776 M) ∧
    (¬ (M.1 21 9) ≤ a2 →
      vp_in ((a1 * 16) + a2) 256 ∧
      Q (M.2 22 (((a1 * 16) + a2)).toNatClampNeg) M)) ∧
  (¬ a1 < (M.1 21 9) →
    Q 0 M)
def P_Matching_isTight (a1 : Int32) (a2 : Int32) (M : Mem) (Q : Int32 → Mem → Prop) : Prop :=
  (P_Matching_price a1 a2 M fun r2 M1 =>
    (1125899906842624 ≤ r2 →
      Q 0 M1) ∧
    (¬ 1125899906842624 ≤ r2 →
      vp_in a1 32 ∧
      vp_in a2 32 ∧
      (¬ r2 = ((M1.2 23 a1.toNatClampNeg) + (M1.2 24 a2.toNatClampNeg)) →
        Q 0 M1) ∧
      (r2 = ((M1.2 23 a1.toNatClampNeg) + (M1.2 24 a2.toNatClampNeg)) →
        Q 1 M1)))
def P_Matching_lookOnFrom_38 (Q : Int32 → Mem → Prop) : Nat → Int32 → Int32 → Int32 → Int32 → Int32 → Mem → Prop
  | 0, _, _, _, _, _, _ => False
  | n + 1, v1, v2, v4, v5, v6, M =>
    ((M.1 21 10) ≤ v6 →
      Q v4 M) ∧
    (¬ (M.1 21 10) ≤ v6 →
      vp_in v6 32 ∧
      (¬ (M.1 30 v6.toNatClampNeg) = 0 →
        P_Matching_lookOnFrom_38 Q n v1 v2 v4 v5 (v6 + 1) M) ∧
      ((M.1 30 v6.toNatClampNeg) = 0 →
        ((M.1 27 v6.toNatClampNeg) < v1 →
          P_Matching_lookOnFrom_38 Q n v1 v2 v4 v5 (v6 + 1) M) ∧
        (¬ (M.1 27 v6.toNatClampNeg) < v1 →
          (P_Matching_isTight v5 v6 M fun r7 M6 =>
            (r7 = 0 →
              P_Matching_lookOnFrom_38 Q n v1 v2 v4 v5 (v6 + 1) M6) ∧
            (¬ r7 = 0 →
              (32 ≤ v4 →
                P_Matching_lookOnFrom_38 Q n v1 v2 v4 v5 (v6 + 1) M6) ∧
              (¬ 32 ≤ v4 →
                vp_in v4 32 ∧
                P_Matching_lookOnFrom_38 Q n v1 v2 (v4 + 1) v5 (v6 + 1) (putI (putI (putI M6 30 v6.toNatClampNeg 1) 28 v6.toNatClampNeg v2) 29 v4.toNatClampNeg v6)))))))
def P_Matching_lookOnFrom_21 (Q : Int32 → Mem → Prop) (v1 : Int32) (v2 : Int32) (v4 : Int32) (s0 : Int32) (M : Mem) : Prop :=
  (P_Matching_isColumn s0 M fun r4 M3 =>
    (¬ r4 = 0 →
      ∃ m14, P_Matching_lookOnFrom_38 Q m14 v1 v2 v4 s0 0 M3) ∧
    (r4 = 0 →
      Q v4 M3))
def P_Matching_lookOnFrom (a1 : Int32) (a2 : Int32) (a3 : Int32) (M : Mem) (Q : Int32 → Mem → Prop) : Prop :=
  (P_Matching_isColumn a2 M fun r2 M1 =>
    (r2 = 0 →
      P_Matching_lookOnFrom_21 Q a1 a2 a3 (-1) M1) ∧
    (¬ r2 = 0 →
      vp_in a2 32 ∧
      P_Matching_lookOnFrom_21 Q a1 a2 a3 (M1.1 27 a2.toNatClampNeg) M1))
def P_Matching_moveAlong_5 (Q : Mem → Prop) : Nat → Int32 → Int32 → Int32 → Mem → Prop
  | 0, _, _, _, _ => False
  | n + 1, v1, v3, v4, M =>
    ((M.1 21 10) ≤ v4 →
      (P_Matching_place v1 v3 M fun M1 =>
        Q M1)) ∧
    (¬ (M.1 21 10) ≤ v4 →
      vp_in v3 32 ∧
      (P_Matching_isColumn (M.1 28 v3.toNatClampNeg) M fun r4 M3 =>
        (r4 = 0 →
          (P_Matching_place v1 v3 M3 fun M5 =>
            Q M5)) ∧
        (¬ r4 = 0 →
          vp_in (M3.1 28 v3.toNatClampNeg) 32 ∧
          (P_Matching_place (M3.1 27 ((M3.1 28 v3.toNatClampNeg)).toNatClampNeg) v3 M3 fun M7 =>
            P_Matching_moveAlong_5 Q n v1 (M7.1 28 v3.toNatClampNeg) (v4 + 1) M7))))
def P_Matching_moveAlong (a1 : Int32) (a2 : Int32) (M : Mem) (Q : Mem → Prop) : Prop :=
  ∃ m10, P_Matching_moveAlong_5 Q m10 a1 a2 0 M
def P_Matching_giveColumn_61 (Q : Int32 → Mem → Prop) : Nat → Int32 → Int32 → Int32 → Int32 → Mem → Prop
  | 0, _, _, _, _, _ => False
  | n + 1, v1, v3, v4, v5, M =>
    (v4 ≤ v5 →
      Q 0 M) ∧
    (¬ v4 ≤ v5 →
      ((M.1 21 10) ≤ v5 →
        Q 0 M) ∧
      (¬ (M.1 21 10) ≤ v5 →
        vp_in v5 32 ∧
        (P_Matching_lookOnFrom v1 (M.1 29 v5.toNatClampNeg) v4 M fun r6 M5 =>
          (P_Matching_isColumn v3 M5 fun r8 M7 =>
            (r8 = 0 →
              P_Matching_giveColumn_61 Q n v1 v3 r6 (v5 + 1) M7) ∧
            (¬ r8 = 0 →
              vp_in v3 32 ∧
              ((M7.1 30 v3.toNatClampNeg) = 0 →
                P_Matching_giveColumn_61 Q n v1 v3 r6 (v5 + 1) M7) ∧
              (¬ (M7.1 30 v3.toNatClampNeg) = 0 →
                (P_Matching_moveAlong v1 v3 M7 fun M10 =>
                  Q 1 M10)))))))
def P_Matching_giveColumn_10 (Q : Int32 → Mem → Prop) : Nat → Int32 → Int32 → Int32 → Int32 → Mem → Prop
  | 0, _, _, _, _, _ => False
  | n + 1, v1, v2, v3, v4, M =>
    ((M.1 21 10) ≤ v4 →
      vp_in v2 32 ∧
      vp_in 0 32 ∧
      ∃ m15, P_Matching_giveColumn_61 Q m15 v1 v3 1 0 (putI (putI M 30 v2.toNatClampNeg 1) 29 0 v2)) ∧
    (¬ (M.1 21 10) ≤ v4 →
      vp_in v4 32 ∧
      P_Matching_giveColumn_10 Q n v1 v2 v3 (v4 + 1) (putI (putI M 28 v4.toNatClampNeg (-1)) 30 v4.toNatClampNeg 0))
def P_Matching_giveColumn (a1 : Int32) (a2 : Int32) (M : Mem) (Q : Int32 → Mem → Prop) : Prop :=
  vp_in a1 32 ∧
  ∃ m18, P_Matching_giveColumn_10 Q m18 a1 a2 (M.1 26 a1.toNatClampNeg) 0 M
def P_Matching_settle_2 (Q : Mem → Prop) : Nat → Int32 → Int32 → Mem → Prop
  | 0, _, _, _ => False
  | n + 1, v1, v2, M =>
    ((M.1 21 9) ≤ v2 →
      Q M) ∧
    (¬ (M.1 21 9) ≤ v2 →
      vp_in v1 32 ∧
      (¬ (M.1 26 v1.toNatClampNeg) = v2 →
        vp_in v2 32 ∧
        ((M.1 27 v2.toNatClampNeg) ≤ v1 →
          P_Matching_settle_2 Q n v1 (v2 + 1) M) ∧
        (¬ (M.1 27 v2.toNatClampNeg) ≤ v1 →
          (P_Matching_isTight v1 v2 M fun r4 M3 =>
            (r4 = 0 →
              P_Matching_settle_2 Q n v1 (v2 + 1) M3) ∧
            (¬ r4 = 0 →
              (P_Matching_giveColumn v1 v2 M3 fun r6 M5 =>
                (r6 = 0 →
                  P_Matching_settle_2 Q n v1 (v2 + 1) M5) ∧
                (¬ r6 = 0 →
                  Q M5)))))) ∧
      ((M.1 26 v1.toNatClampNeg) = v2 →
        Q M))
def P_Matching_settle (a1 : Int32) (M : Mem) (Q : Mem → Prop) : Prop :=
  ∃ m12, P_Matching_settle_2 Q m12 a1 0 M
def P_Matching_lookFrom_81 (K5 : Int32 → Int32 → Int32 → Int32 → Mem → Prop) (Q : Int32 → Mem → Prop) (v1 : Int32) (v2 : Int32) (v3 : Int32) (v4 : Int32) (M : Mem) : Prop :=
  (v3 = (-1) →
    K5 v1 v2 v4 (v4 + 1) M) ∧
  (¬ v3 = (-1) →
    vp_in v4 32 ∧
    vp_in v3 32 ∧
    ((M.2 25 v3.toNatClampNeg) ≤ (M.2 25 v4.toNatClampNeg) →
      K5 v1 v2 v3 (v4 + 1) M) ∧
    (¬ (M.2 25 v3.toNatClampNeg) ≤ (M.2 25 v4.toNatClampNeg) →
      K5 v1 v2 v4 (v4 + 1) M))
def P_Matching_lookFrom_5 (Q : Int32 → Mem → Prop) : Nat → Int32 → Int32 → Int32 → Int32 → Mem → Prop
  | 0, _, _, _, _, _ => False
  | n + 1, v1, v2, v3, v4, M =>
    ((M.1 21 10) ≤ v4 →
      Q v3 M) ∧
    (¬ (M.1 21 10) ≤ v4 →
      vp_in v4 32 ∧
      ((M.1 30 v4.toNatClampNeg) = 0 →
        (P_Matching_price v1 v4 M fun r3 M2 =>
          vp_in v1 32 ∧
          ((M2.2 25 v4.toNatClampNeg) ≤ ((r3 - (M2.2 23 v1.toNatClampNeg)) - (M2.2 24 v4.toNatClampNeg)) →
            P_Matching_lookFrom_81 (fun v1 v2 v3 v4 M => P_Matching_lookFrom_5 Q n v1 v2 v3 v4 M) Q v1 v2 v3 v4 M2) ∧
          (¬ (M2.2 25 v4.toNatClampNeg) ≤ ((r3 - (M2.2 23 v1.toNatClampNeg)) - (M2.2 24 v4.toNatClampNeg)) →
            P_Matching_lookFrom_81 (fun v1 v2 v3 v4 M => P_Matching_lookFrom_5 Q n v1 v2 v3 v4 M) Q v1 v2 v3 v4 (putI (putL M2 25 v4.toNatClampNeg ((r3 - (M2.2 23 v1.toNatClampNeg)) - (M2.2 24 v4.toNatClampNeg))) 28 v4.toNatClampNeg v2)))) ∧
      (¬ (M.1 30 v4.toNatClampNeg) = 0 →
        P_Matching_lookFrom_5 Q n v1 v2 v3 (v4 + 1) M))
def P_Matching_lookFrom (a1 : Int32) (a2 : Int32) (M : Mem) (Q : Int32 → Mem → Prop) : Prop :=
  ∃ m12, P_Matching_lookFrom_5 Q m12 a1 a2 (-1) 0 M
def P_Matching_isPosition (a1 : Int32) (M : Mem) (Q : Int32 → Mem → Prop) : Prop :=
  (a1 < 0 →
    Q 0 M) ∧
  (¬ a1 < 0 →
    ((M.1 21 9) ≤ a1 →
      Q 0 M) ∧
    (¬ (M.1 21 9) ≤ a1 →
      Q 1 M))
def P_Matching_shiftDuals_13 (Q : Mem → Prop) : Nat → Int64 → Int32 → Mem → Prop
  | 0, _, _, _ => False
  | n + 1, v2, v4, M =>
    ((M.1 21 10) ≤ v4 →
      Q M) ∧
    (¬ (M.1 21 10) ≤ v4 →
      vp_in v4 32 ∧
      (¬ (M.1 30 v4.toNatClampNeg) = 0 →
        (P_Matching_isPosition (M.1 27 v4.toNatClampNeg) M fun r4 M3 =>
          (r4 = 0 →
            P_Matching_shiftDuals_13 Q n v2 (v4 + 1) M3) ∧
          (¬ r4 = 0 →
            vp_in (M3.1 27 v4.toNatClampNeg) 32 ∧
            P_Matching_shiftDuals_13 Q n v2 (v4 + 1) (putL (putL M3 24 v4.toNatClampNeg ((M3.2 24 v4.toNatClampNeg) - v2)) 23 ((M3.1 27 v4.toNatClampNeg)).toNatClampNeg ((M3.2 23 ((M3.1 27 v4.toNatClampNeg)).toNatClampNeg) + v2))))) ∧
      ((M.1 30 v4.toNatClampNeg) = 0 →
        P_Matching_shiftDuals_13 Q n v2 (v4 + 1) (putL M 25 v4.toNatClampNeg ((M.2 25 v4.toNatClampNeg) - v2))))
def P_Matching_shiftDuals (a1 : Int32) (a2 : Int64) (M : Mem) (Q : Mem → Prop) : Prop :=
  vp_in a1 32 ∧
  ∃ m9, P_Matching_shiftDuals_13 Q m9 a2 0 (putL M 23 a1.toNatClampNeg ((M.2 23 a1.toNatClampNeg) + a2))
def P_Matching_admit_46 (Q : Mem → Prop) : Nat → Int32 → Int32 → Int32 → Int32 → Mem → Prop
  | 0, _, _, _, _, _ => False
  | n + 1, v1, v2, v3, v4, M =>
    ((M.1 21 10) ≤ v4 →
      Q M) ∧
    (¬ (M.1 21 10) ≤ v4 →
      (P_Matching_lookFrom v2 v3 M fun r2 M1 =>
        (P_Matching_isColumn r2 M1 fun r4 M3 =>
          (¬ r4 = 0 →
            vp_in r2 32 ∧
            (P_Matching_shiftDuals v1 (M3.2 25 r2.toNatClampNeg) M3 fun M6 =>
              (P_Matching_isPosition (M6.1 27 r2.toNatClampNeg) (putI M6 30 r2.toNatClampNeg 1) fun r8 M7 =>
                (¬ r8 = 0 →
                  P_Matching_admit_46 Q n v1 (M6.1 27 r2.toNatClampNeg) r2 (v4 + 1) M7) ∧
                (r8 = 0 →
                  (P_Matching_moveAlong v1 r2 M7 fun M9 =>
                    Q M9))))) ∧
          (r4 = 0 →
            Q M3))))
def P_Matching_admit_2 (Q : Mem → Prop) : Nat → Int32 → Int32 → Mem → Prop
  | 0, _, _, _ => False
  | n + 1, v1, v2, M =>
    ((M.1 21 10) ≤ v2 →
      ∃ m13, P_Matching_admit_46 Q m13 v1 v1 (-1) 0 M) ∧
    (¬ (M.1 21 10) ≤ v2 →
      vp_in v2 32 ∧
      P_Matching_admit_2 Q n v1 (v2 + 1) (putI (putI (putL M 25 v2.toNatClampNeg 1152921504606846976) 28 v2.toNatClampNeg (-1)) 30 v2.toNatClampNeg 0))
def P_Matching_admit (a1 : Int32) (M : Mem) (Q : Mem → Prop) : Prop :=
  ∃ m16, P_Matching_admit_2 Q m16 a1 0 M
def P_Matching_solve_27 (Q : Mem → Prop) : Nat → Int32 → Mem → Prop
  | 0, _, _ => False
  | n + 1, v1, M =>
    ((M.1 21 9) ≤ v1 →
      Q M) ∧
    (¬ (M.1 21 9) ≤ v1 →
      (P_Matching_settle v1 M fun M2 =>
        P_Matching_solve_27 Q n (v1 + 1) M2))
def P_Matching_solve_2 (Q : Mem → Prop) : Nat → Int32 → Mem → Prop
  | 0, _, _ => False
  | n + 1, v1, M =>
    ((M.1 21 9) ≤ v1 →
      (P_Matching_fillSpareRows  M fun M1 =>
        ∃ m4, P_Matching_solve_27 Q m4 0 M1)) ∧
    (¬ (M.1 21 9) ≤ v1 →
      (P_Matching_admit v1 M fun M5 =>
        P_Matching_solve_2 Q n (v1 + 1) M5))
def P_Matching_solve (M : Mem) (Q : Mem → Prop) : Prop :=
  ∃ m7, P_Matching_solve_2 Q m7 0 M
def P_Matching_followedBy (a1 : Int32) (M : Mem) (Q : Int32 → Mem → Prop) : Prop :=
  (P_Matching_isPosition a1 M fun r2 M1 =>
    (r2 = 0 →
      Q (-1) M1) ∧
    (¬ r2 = 0 →
      vp_in a1 32 ∧
      (P_Matching_isPosition (M1.1 26 a1.toNatClampNeg) M1 fun r5 M4 =>
        (r5 = 0 →
          Q (-1) M4) ∧
        (¬ r5 = 0 →
          Q (M4.1 26 a1.toNatClampNeg) M4))))
def P_Matching_squareOf (a1 : Int32) (a2 : Int32) (M : Mem) (Q : Int64 → Mem → Prop) : Prop :=
  (P_Matching_isPosition a1 M fun r2 M1 =>
    (r2 = 0 →
      Q 0 M1) ∧
    (¬ r2 = 0 →
      (P_Matching_isPosition a2 M1 fun r4 M3 =>
        (r4 = 0 →
          Q 0 M3) ∧
        (¬ r4 = 0 →
          vp_in ((a1 * 16) + a2) 256 ∧
          Q (M3.2 22 (((a1 * 16) + a2)).toNatClampNeg) M3))))
def P_Parting_drawTracks_78 (K12 : Int32 → Mem → Prop) (Q : Mem → Prop) (v1 : Int32) (M : Mem) : Prop :=
  vp_in v1 16 ∧
  K12 (v1 + 1) (putI (putI M 33 v1.toNatClampNeg (M.1 20 5)) 20 5 ((M.1 20 5) + 1))
def P_Parting_drawTracks_12 (Q : Mem → Prop) : Nat → Int32 → Mem → Prop
  | 0, _, _ => False
  | n + 1, v1, M =>
    ((M.1 20 4) ≤ v1 →
      Q M) ∧
    (¬ (M.1 20 4) ≤ v1 →
      (P_Matching_followedBy v1 M fun r2 M1 =>
        vp_in v1 16 ∧
        (r2 < 0 →
          P_Parting_drawTracks_78 (fun v1 M => P_Parting_drawTracks_12 Q n v1 M) Q v1 (putI M1 32 v1.toNatClampNeg r2)) ∧
        (¬ r2 < 0 →
          (v1 ≤ r2 →
            P_Parting_drawTracks_78 (fun v1 M => P_Parting_drawTracks_12 Q n v1 M) Q v1 (putI M1 32 v1.toNatClampNeg r2)) ∧
          (¬ v1 ≤ r2 →
            vp_in r2 16 ∧
            (P_Matching_squareOf v1 r2 (putI (putI M1 32 v1.toNatClampNeg r2) 33 v1.toNatClampNeg (M1.1 33 r2.toNatClampNeg)) fun r7 M6 =>
              P_Parting_drawTracks_12 Q n (v1 + 1) (putL M6 20 6 ((M1.2 20 6) + r7)))))))
def P_Parting_drawTracks (M : Mem) (Q : Mem → Prop) : Prop :=
  ∃ m11, P_Parting_drawTracks_12 Q m11 0 (putL (putI M 20 5 0) 20 6 0)
def P_Matching_allow (a1 : Int32) (a2 : Int32) (a3 : Int64) (M : Mem) (Q : Mem → Prop) : Prop :=
  (P_Matching_isPosition a1 M fun r2 M1 =>
    (r2 = 0 →
      Q M1) ∧
    (¬ r2 = 0 →
      (P_Matching_isPosition a2 M1 fun r4 M3 =>
        (r4 = 0 →
          Q M3) ∧
        (¬ r4 = 0 →
          vp_in ((a1 * 16) + a2) 256 ∧
          Q (putL M3 22 (((a1 * 16) + a2)).toNatClampNeg a3)))))
def P_Parting_allowIfNear (a2 : Int32) (a3 : Int32) (a4 : Int32) (M : Mem) (Q : Mem → Prop) : Prop :=
  vp_in a2 16 ∧
  vp_in a3 16 ∧
  (P_Log_cell (M.1 31 a2.toNatClampNeg) 3 M fun r4 M3 =>
    (P_Log_cell (M.1 31 a3.toNatClampNeg) 3 M3 fun r6 M5 =>
      (P_Log_cell (M.1 31 a2.toNatClampNeg) 4 M5 fun r8 M7 =>
        (P_Log_cell (M.1 31 a3.toNatClampNeg) 4 M7 fun r10 M9 =>
          (P_Log_cell (M.1 31 a2.toNatClampNeg) 5 M9 fun r12 M11 =>
            (P_Log_cell (M.1 31 a3.toNatClampNeg) 5 M11 fun r14 M13 =>
              ((Int32.toInt64 (r4 - r6)) ≤ 0 →
                Q M13) ∧
              (¬ (Int32.toInt64 (r4 - r6)) ≤ 0 →
                ((((Int32.toInt64 (r4 - r6)) * (Int32.toInt64 a4)) * ((Int32.toInt64 (r4 - r6)) * (Int32.toInt64 a4))) < (((Int32.toInt64 (r8 - r10)) * (Int32.toInt64 (r8 - r10))) + ((Int32.toInt64 (r12 - r14)) * (Int32.toInt64 (r12 - r14)))) →
                  Q M13) ∧
                (¬ (((Int32.toInt64 (r4 - r6)) * (Int32.toInt64 a4)) * ((Int32.toInt64 (r4 - r6)) * (Int32.toInt64 a4))) < (((Int32.toInt64 (r8 - r10)) * (Int32.toInt64 (r8 - r10))) + ((Int32.toInt64 (r12 - r14)) * (Int32.toInt64 (r12 - r14)))) →
                  (P_Matching_allow a2 a3 (((Int32.toInt64 (r8 - r10)) * (Int32.toInt64 (r8 - r10))) + ((Int32.toInt64 (r12 - r14)) * (Int32.toInt64 (r12 - r14)))) M13 fun M15 =>
                    Q M15)))))))))
def P_Parting_make_55 (K43 : Int32 → Int32 → Mem → Prop) (Q : Int32 → Mem → Prop) : Nat → Int32 → Int32 → Int32 → Mem → Prop
  | 0, _, _, _, _ => False
  | n + 1, v3, v5, v6, M =>
    (v5 ≤ v6 →
      K43 v3 (v5 + 1) M) ∧
    (¬ v5 ≤ v6 →
      (P_Parting_allowIfNear v5 v6 v3 M fun M7 =>
        P_Parting_make_55 K43 Q n v3 v5 (v6 + 1) M7))
def P_Parting_make_43 (Q : Int32 → Mem → Prop) : Nat → Int32 → Int32 → Mem → Prop
  | 0, _, _, _ => False
  | n + 1, v3, v5, M =>
    ((M.1 20 4) ≤ v5 →
      (P_Matching_solve  M fun M5 =>
        (P_Parting_drawTracks  M5 fun M6 =>
          Q (M6.1 20 5) M6))) ∧
    (¬ (M.1 20 4) ≤ v5 →
      ∃ m9, P_Parting_make_55 (fun v3 v5 M => P_Parting_make_43 Q n v3 v5 M) Q m9 v3 v5 0 M)
def P_Parting_make (a2 : Int32) (a3 : Int32) (M : Mem) (Q : Int32 → Mem → Prop) : Prop :=
  (P_Log_howMany 1 a2 M fun r2 M1 =>
    (r2 < 1 →
      Q (-1) M1) ∧
    (¬ r2 < 1 →
      (r2 ≤ 16 →
        (P_Parting_gather a2 M1 fun M3 =>
          (P_Matching_begin (M3.1 20 4) M3 fun M4 =>
            ∃ m11, P_Parting_make_43 Q m11 a3 0 M4))) ∧
      (¬ r2 ≤ 16 →
        Q (-1) M1)))
def P_Sv_part (a1 : Int32) (a2 : Int32) (M : Mem) (Q : Int32 → Mem → Prop) : Prop :=
  (a2 < 1 →
    Q (-1) M) ∧
  (¬ a2 < 1 →
    (a2 ≤ 1000 →
      (P_Parting_make a1 a2 M fun r2 M1 =>
        Q r2 M1)) ∧
    (¬ a2 ≤ 1000 →
      Q (-1) M))
def P_Parting_together (M : Mem) (Q : Int64 → Mem → Prop) : Prop :=
  Q (M.2 20 6) M
def P_Sv_cost (M : Mem) (Q : Int64 → Mem → Prop) : Prop :=
  (P_Parting_together  M fun r2 M1 =>
    Q r2 M1)
def P_Parting_tellOf (a1 : Int32) (a2 : Int32) (M : Mem) (Q : Int32 → Mem → Prop) : Prop :=
  (a1 < 0 →
    Q (-1) M) ∧
  (¬ a1 < 0 →
    ((M.1 20 4) ≤ a1 →
      Q (-1) M) ∧
    (¬ (M.1 20 4) ≤ a1 →
      (a1 < 16 →
        (a2 = 0 →
          vp_in a1 16 ∧
          Q (M.1 31 a1.toNatClampNeg) M) ∧
        (a2 = 1 →
          vp_in a1 16 ∧
          Q (M.1 32 a1.toNatClampNeg) M) ∧
        (a2 = 2 →
          vp_in a1 16 ∧
          Q (M.1 33 a1.toNatClampNeg) M) ∧
        (¬ a2 = 0 → ¬ a2 = 1 → ¬ a2 = 2 →
          Q (-1) M)) ∧
      (¬ a1 < 16 →
        Q (-1) M)))
def P_Sv_parted (a1 : Int32) (a2 : Int32) (M : Mem) (Q : Int32 → Mem → Prop) : Prop :=
  (P_Parting_tellOf a1 a2 M fun r2 M1 =>
    Q r2 M1)
def P_ClashBook_total (M : Mem) (Q : Int32 → Mem → Prop) : Prop :=
  Q (M.1 13 1) M
def P_Sv_clashes (M : Mem) (Q : Int32 → Mem → Prop) : Prop :=
  (P_ClashBook_total  M fun r2 M1 =>
    Q r2 M1)
def P_TextBook_joined (M : Mem) (Q : Int32 → Mem → Prop) : Prop :=
  Q (M.1 15 4) M
def P_Sv_texts (M : Mem) (Q : Int32 → Mem → Prop) : Prop :=
  (P_TextBook_joined  M fun r2 M1 =>
    Q r2 M1)
def P_Log_latest_7 (Q : Int32 → Mem → Prop) : Nat → Int32 → Int32 → Int32 → Mem → Prop
  | 0, _, _, _, _ => False
  | n + 1, v1, v2, v3, M =>
    (v3 < 0 →
      Q (-1) M) ∧
    (¬ v3 < 0 →
      (P_Log_isOf v3 v1 v2 M fun r2 M1 =>
        (r2 = 0 →
          P_Log_latest_7 Q n v1 v2 (v3 + (-1)) M1) ∧
        (¬ r2 = 0 →
          Q v3 M1)))
def P_Log_latest (a1 : Int32) (a2 : Int32) (M : Mem) (Q : Int32 → Mem → Prop) : Prop :=
  ∃ m5, P_Log_latest_7 Q m5 a1 a2 ((M.1 11 1) - 1) M
def P_Meeting_along (a2 : Int32) (a3 : Int32) (a4 : Int32) (a5 : Int32) (M : Mem) (Q : Int64 → Mem → Prop) : Prop :=
  (P_Log_cell a2 3 M fun r2 M1 =>
    (P_Log_cell a2 a3 M1 fun r4 M3 =>
      (P_Log_cell a2 a4 M3 fun r6 M5 =>
        Q ((Int32.toInt64 r4) + ((Int32.toInt64 (a5 - r2)) * (Int32.toInt64 r6))) M5)))
def P_Meeting_square (a1 : Int64) (a2 : Int64) (M : Mem) (Q : Int64 → Mem → Prop) : Prop :=
  Q ((a1 * a1) + (a2 * a2)) M
def P_J9_floorDiv_f86c9 (a1 : Int64) (a2 : Int64) (M : Mem) (Q : Int64 → Mem → Prop) : Prop :=
  (¬ a2 = 0) ∧
  (0 ≤ (a1 ^^^ a2) →
    Q (a1 / a2) M) ∧
  (¬ 0 ≤ (a1 ^^^ a2) →
    (((a1 / a2) * a2) = a1 →
      Q (a1 / a2) M) ∧
    (¬ ((a1 / a2) * a2) = a1 →
      Q ((a1 / a2) - 1) M))
def P_J9_min_f86c9 (a1 : Int64) (a2 : Int64) (M : Mem) (Q : Int64 → Mem → Prop) : Prop :=
  (a2 < a1 →
    Q a2 M) ∧
  (¬ a2 < a1 →
    Q a1 M)
def P_J9_max_f86c9 (a1 : Int64) (a2 : Int64) (M : Mem) (Q : Int64 → Mem → Prop) : Prop :=
  (a1 < a2 →
    Q a2 M) ∧
  (¬ a1 < a2 →
    Q a1 M)
def P_Meeting_nearestAfter (a1 : Int64) (a2 : Int64) (a3 : Int64) (a4 : Int64) (M : Mem) (Q : Int64 → Mem → Prop) : Prop :=
  (P_Meeting_square a3 a4 M fun r2 M1 =>
    (¬ r2 = 0 →
      (P_J9_floorDiv_f86c9 (-((a1 * a3) + (a2 * a4))) r2 M1 fun r4 M3 =>
        (P_J9_min_f86c9 r4 3600 M3 fun r6 M5 =>
          (P_J9_max_f86c9 0 r6 M5 fun r8 M7 =>
            Q r8 M7)))) ∧
    (r2 = 0 →
      Q 0 M1))
def P_Meeting_find (a2 : Int32) (a3 : Int32) (a4 : Int32) (M : Mem) (Q : Int64 → Mem → Prop) : Prop :=
  (P_Meeting_along a2 4 6 a4 M fun r2 M1 =>
    (P_Meeting_along a3 4 6 a4 M1 fun r4 M3 =>
      (P_Meeting_along a2 5 7 a4 M3 fun r6 M5 =>
        (P_Meeting_along a3 5 7 a4 M5 fun r8 M7 =>
          (P_Log_cell a2 6 M7 fun r10 M9 =>
            (P_Log_cell a3 6 M9 fun r12 M11 =>
              (P_Log_cell a2 7 M11 fun r14 M13 =>
                (P_Log_cell a3 7 M13 fun r16 M15 =>
                  (P_Meeting_nearestAfter (r2 - r4) (r6 - r8) (Int32.toInt64 (r10 - r12)) (Int32.toInt64 (r14 - r16)) M15 fun r18 M17 =>
                    (P_Meeting_square ((r2 - r4) + ((Int32.toInt64 (r10 - r12)) * r18)) ((r6 - r8) + ((Int32.toInt64 (r14 - r16)) * r18)) M17 fun r20 M19 =>
                      (3600 ≤ r18 →
                        Q r20 (putI M19 34 0 (a4 + (Int64.toInt32 r18)))) ∧
                      (¬ 3600 ≤ r18 →
                        (P_Meeting_square ((r2 - r4) + ((Int32.toInt64 (r10 - r12)) * (r18 + 1))) ((r6 - r8) + ((Int32.toInt64 (r14 - r16)) * (r18 + 1))) M19 fun r22 M21 =>
                          (r20 ≤ r22 →
                            Q r20 (putI M21 34 0 (a4 + (Int64.toInt32 r18)))) ∧
                          (¬ r20 ≤ r22 →
                            Q r22 (putI M21 34 0 (a4 + (Int64.toInt32 (r18 + 1)))))))))))))))))
def P_Sv_meet (a1 : Int32) (a2 : Int32) (M : Mem) (Q : Int64 → Mem → Prop) : Prop :=
  (¬ a1 = a2 →
    (P_Log_latest 1 a1 M fun r2 M1 =>
      (P_Log_latest 1 a2 M1 fun r4 M3 =>
        (r2 = (-1) →
          Q (-1) M3) ∧
        (¬ r2 = (-1) →
          (¬ r4 = (-1) →
            (P_Meeting_find r2 r4 (M3.1 0 10) M3 fun r6 M5 =>
              Q r6 M5)) ∧
          (r4 = (-1) →
            Q (-1) M3))))) ∧
  (a1 = a2 →
    Q (-1) M)
def P_Meeting_second (M : Mem) (Q : Int32 → Mem → Prop) : Prop :=
  Q (M.1 34 0) M
def P_Sv_when (M : Mem) (Q : Int32 → Mem → Prop) : Prop :=
  (P_Meeting_second  M fun r2 M1 =>
    Q r2 M1)
def P_Sv_size (a1 : Int32) (M : Mem) (Q : Int32 → Mem → Prop) : Prop :=
  (P_Log_latest 2 a1 M fun r2 M1 =>
    (¬ r2 = (-1) →
      (P_Log_cell r2 6 M1 fun r4 M3 =>
        Q r4 M3)) ∧
    (r2 = (-1) →
      Q (-1) M1))
def P_Ear_torn (c : Nat) (M : Mem) (Q : Int32 → Mem → Prop) : Prop :=
  Q (M.1 c 4) M
def P_Ear_bitsPut (c : Nat) (M : Mem) (Q : Int32 → Mem → Prop) : Prop :=
  Q (M.1 c 3) M
def P_Sv_count (a1 : Int32) (M : Mem) (Q : Int32 → Mem → Prop) : Prop :=
  (a1 = 0 →
    Q (M.1 0 10) M) ∧
  (a1 = 1 →
    Q (M.1 0 11) M) ∧
  (a1 = 2 →
    (P_Log_entries  M fun r4 M3 =>
      Q r4 M3)) ∧
  (a1 = 3 →
    Q (M.1 0 12) M) ∧
  (a1 = 4 →
    (P_Ear_torn 3 M fun r8 M7 =>
      (P_Ear_torn 5 M7 fun r10 M9 =>
        Q (r8 + r10) M9))) ∧
  (a1 = 5 →
    (P_Tape_length  M fun r13 M12 =>
      Q r13 M12)) ∧
  (a1 = 6 →
    (P_Sender_bytes  M fun r16 M15 =>
      Q r16 M15)) ∧
  (a1 = 7 →
    (P_Ear_bitsPut 3 M fun r19 M18 =>
      Q r19 M18)) ∧
  (a1 = 8 →
    (P_Ear_bitsPut 5 M fun r22 M21 =>
      Q r22 M21)) ∧
  (¬ a1 = 0 → ¬ a1 = 1 → ¬ a1 = 2 → ¬ a1 = 3 → ¬ a1 = 4 → ¬ a1 = 5 → ¬ a1 = 6 → ¬ a1 = 7 → ¬ a1 = 8 →
    Q (-1) M)
def P_Mo_thrown (M : Mem) (Q : Int32 → Mem → Prop) : Prop :=
  Q (M.1 35 0) M
def P_Mo_come_3 (Q : Mem → Prop) : Nat → Int32 → Int32 → Mem → Prop
  | 0, _, _, _ => False
  | n + 1, v1, v2, M =>
    (v2 < 0 →
      Q M) ∧
    (¬ v2 < 0 →
      vp_in (M.1 35 2) 400 ∧
      P_Mo_come_3 Q n v1 (v2 + (-8)) (putI (putI M 36 ((M.1 35 2)).toNatClampNeg ((Int32.toUInt32 v1 >>> (Int32.toUInt32 v2 &&& Int32.toUInt32 31)).toInt32 &&& 255)) 35 2 ((M.1 35 2) + 1)))
def P_Mo_come (a1 : Int32) (M : Mem) (Q : Mem → Prop) : Prop :=
  ∃ m3, P_Mo_come_3 Q m3 a1 24 M
def P_Mo_feed (a1 : Int32) (a2 : Int32) (a3 : Int32) (a4 : Int32) (a5 : Int32) (M : Mem) (Q : Int32 → Mem → Prop) : Prop :=
  (((M.1 35 2) + 20) ≤ 400 →
    (P_Mo_come a1 (putI M 35 0 0) fun M1 =>
      (P_Mo_come a2 M1 fun M2 =>
        (P_Mo_come a3 M2 fun M3 =>
          (P_Mo_come a4 M3 fun M4 =>
            (P_Mo_come a5 M4 fun M5 =>
              Q (M5.1 35 2) M5)))))) ∧
  (¬ ((M.1 35 2) + 20) ≤ 400 →
    Q (-1) (putI M 35 0 0))
def P_Mo_end (a1 : Int32) (M : Mem) (Q : Int32 → Mem → Prop) : Prop :=
  (a1 < 0 →
    Q 0 (putI M 35 0 0)) ∧
  (¬ a1 < 0 →
    (a1 ≤ (M.1 35 2) →
      Q 1 (putI (putI M 35 0 0) 35 2 a1)) ∧
    (¬ a1 ≤ (M.1 35 2) →
      Q 0 (putI M 35 0 0)))
def P_Mo_read_5 (Q : Int32 → Mem → Prop) : Nat → Int32 → Int32 → Int32 → Int32 → Mem → Prop
  | 0, _, _, _, _, _ => False
  | n + 1, v1, v2, v3, v4, M =>
    (v2 ≤ v4 →
      Q v3 M) ∧
    (¬ v2 ≤ v4 →
      vp_in (v1 + v4) 600 ∧
      P_Mo_read_5 Q n v1 v2 ((v3 <<< ((1 : Int32) &&& 31)) ||| (M.1 40 ((v1 + v4)).toNatClampNeg)) (v4 + 1) M)
def P_Mo_read (a1 : Int32) (a2 : Int32) (M : Mem) (Q : Int32 → Mem → Prop) : Prop :=
  ∃ m3, P_Mo_read_5 Q m3 a1 a2 0 0 M
def P_Mo_isOf (a1 : Int32) (a2 : Int32) (M : Mem) (Q : Int32 → Mem → Prop) : Prop :=
  vp_in (8 * a1) 1600 ∧
  (¬ (M.1 41 ((8 * a1)).toNatClampNeg) = 4 →
    Q 0 M) ∧
  ((M.1 41 ((8 * a1)).toNatClampNeg) = 4 →
    vp_in ((8 * a1) + 1) 1600 ∧
    vp_in ((8 * a2) + 1) 1600 ∧
    (¬ (M.1 41 (((8 * a1) + 1)).toNatClampNeg) = (M.1 41 (((8 * a2) + 1)).toNatClampNeg) →
      Q 0 M) ∧
    ((M.1 41 (((8 * a1) + 1)).toNatClampNeg) = (M.1 41 (((8 * a2) + 1)).toNatClampNeg) →
      vp_in ((8 * a1) + 4) 1600 ∧
      vp_in ((8 * a2) + 4) 1600 ∧
      (¬ (M.1 41 (((8 * a1) + 4)).toNatClampNeg) = (M.1 41 (((8 * a2) + 4)).toNatClampNeg) →
        Q 0 M) ∧
      ((M.1 41 (((8 * a1) + 4)).toNatClampNeg) = (M.1 41 (((8 * a2) + 4)).toNatClampNeg) →
        vp_in ((8 * a1) + 6) 1600 ∧
        vp_in ((8 * a2) + 6) 1600 ∧
        (¬ (M.1 41 (((8 * a1) + 6)).toNatClampNeg) = (M.1 41 (((8 * a2) + 6)).toNatClampNeg) →
          Q 0 M) ∧
        ((M.1 41 (((8 * a1) + 6)).toNatClampNeg) = (M.1 41 (((8 * a2) + 6)).toNatClampNeg) →
          Q 1 M))))
def P_Mo_join_194 (Q : Mem → Prop) : Nat → Int32 → Int32 → Mem → Prop
  | 0, _, _, _ => False
  | n + 1, v1, v3, M =>
    ((M.1 35 11) ≤ v3 →
      Q M) ∧
    (¬ (M.1 35 11) ≤ v3 →
      (P_Mo_isOf v3 v1 M fun r6 M5 =>
        (r6 = 0 →
          P_Mo_join_194 Q n v1 (v3 + 1) M5) ∧
        (¬ r6 = 0 →
          vp_in v3 200 ∧
          P_Mo_join_194 Q n v1 (v3 + 1) (putI M5 42 v3.toNatClampNeg 1))))
def P_Mo_join_26 (K15 : Int32 → Int32 → Int32 → Mem → Prop) (Q : Mem → Prop) : Nat → Int32 → Int32 → Int32 → Int32 → Int32 → Mem → Prop
  | 0, _, _, _, _, _, _ => False
  | n + 1, v1, v2, v3, v4, v5, M =>
    ((M.1 35 11) ≤ v5 →
      (¬ v4 = (-1) →
        vp_in ((8 * v4) + 7) 1600 ∧
        vp_in ((5 * (M.1 35 20)) + v3) 500 ∧
        K15 v1 v2 (v3 + 1) (putI M 48 (((5 * (M.1 35 20)) + v3)).toNatClampNeg (M.1 41 (((8 * v4) + 7)).toNatClampNeg))) ∧
      (v4 = (-1) →
        Q M)) ∧
    (¬ (M.1 35 11) ≤ v5 →
      vp_in v5 200 ∧
      (¬ (M.1 42 v5.toNatClampNeg) = 0 →
        P_Mo_join_26 K15 Q n v1 v2 v3 v4 (v5 + 1) M) ∧
      ((M.1 42 v5.toNatClampNeg) = 0 →
        (P_Mo_isOf v5 v1 M fun r16 M15 =>
          (r16 = 0 →
            P_Mo_join_26 K15 Q n v1 v2 v3 v4 (v5 + 1) M15) ∧
          (¬ r16 = 0 →
            vp_in ((8 * v5) + 5) 1600 ∧
            (¬ (M15.1 41 (((8 * v5) + 5)).toNatClampNeg) = v3 →
              P_Mo_join_26 K15 Q n v1 v2 v3 v4 (v5 + 1) M15) ∧
            ((M15.1 41 (((8 * v5) + 5)).toNatClampNeg) = v3 →
              P_Mo_join_26 K15 Q n v1 v2 v3 v5 (v5 + 1) M15)))))
def P_Mo_join_15 (Q : Mem → Prop) : Nat → Int32 → Int32 → Int32 → Mem → Prop
  | 0, _, _, _, _ => False
  | n + 1, v1, v2, v3, M =>
    (v2 ≤ v3 →
      vp_in ((8 * v1) + 1) 1600 ∧
      vp_in (M.1 35 20) 100 ∧
      vp_in ((8 * v1) + 4) 1600 ∧
      ∃ m10, P_Mo_join_194 Q m10 v1 0 (putI (putI (putI (putI (putI M 44 ((M.1 35 20)).toNatClampNeg (M.1 41 (((8 * v1) + 1)).toNatClampNeg)) 45 ((M.1 35 20)).toNatClampNeg (M.1 41 (((8 * v1) + 4)).toNatClampNeg)) 46 ((M.1 35 20)).toNatClampNeg (4 * v2)) 47 ((M.1 35 20)).toNatClampNeg v1) 35 20 ((M.1 35 20) + 1))) ∧
    (¬ v2 ≤ v3 →
      ∃ m22, P_Mo_join_26 (fun v1 v2 v3 M => P_Mo_join_15 Q n v1 v2 v3 M) Q m22 v1 v2 v3 (-1) 0 M)
def P_Mo_join (a1 : Int32) (M : Mem) (Q : Mem → Prop) : Prop :=
  vp_in ((8 * a1) + 6) 1600 ∧
  ∃ m24, P_Mo_join_15 Q m24 a1 (M.1 41 (((8 * a1) + 6)).toNatClampNeg) 0 M
def P_Mo_signed (a1 : Int32) (a2 : Int32) (M : Mem) (Q : Int32 → Mem → Prop) : Prop :=
  (¬ (a1 >>> ((a2 - 1) &&& 31)) = 1 →
    Q a1 M) ∧
  ((a1 >>> ((a2 - 1) &&& 31)) = 1 →
    Q (a1 - ((1 : Int32) <<< (a2 &&& 31))) M)
def P_Mo_areLetters_2 (Q : Int32 → Mem → Prop) : Nat → Int32 → Int32 → Int32 → Mem → Prop
  | 0, _, _, _, _ => False
  | n + 1, v0, v1, v2, M =>
    (v1 ≤ v2 →
      Q 1 M) ∧
    (¬ v1 ≤ v2 →
      (((v0 >>> ((5 * v2) &&& 31)) &&& 31) ≤ 26 →
        P_Mo_areLetters_2 Q n v0 v1 (v2 + 1) M) ∧
      (¬ ((v0 >>> ((5 * v2) &&& 31)) &&& 31) ≤ 26 →
        Q 0 M))
def P_Mo_areLetters (a1 : Int32) (a2 : Int32) (M : Mem) (Q : Int32 → Mem → Prop) : Prop :=
  ∃ m3, P_Mo_areLetters_2 Q m3 a1 a2 0 M
def P_Mo_fields_3 (Q : Int32 → Mem → Prop) : Nat → Int32 → Int32 → Int32 → Int32 → Mem → Prop
  | 0, _, _, _, _, _ => False
  | n + 1, v1, v2, v3, v4, M =>
    (4 ≤ v4 →
      (v1 = 1 →
        (v3 = 48 →
          (P_Mo_read v2 16 M fun r2 M1 =>
            (P_Mo_signed r2 16 M1 fun r4 M3 =>
              vp_in 0 4 ∧
              (P_Mo_read (v2 + 16) 16 (putI M3 43 0 r4) fun r7 M6 =>
                (P_Mo_signed r7 16 M6 fun r9 M8 =>
                  vp_in 1 4 ∧
                  (P_Mo_read (v2 + 32) 8 (putI M8 43 1 r9) fun r12 M11 =>
                    (P_Mo_signed r12 8 M11 fun r14 M13 =>
                      vp_in 2 4 ∧
                      (P_Mo_read (v2 + 40) 8 (putI M13 43 2 r14) fun r17 M16 =>
                        (P_Mo_signed r17 8 M16 fun r19 M18 =>
                          vp_in 3 4 ∧
                          Q 1 (putI M18 43 3 r19)))))))))) ∧
        (¬ v3 = 48 →
          Q 0 M)) ∧
      (v1 = 2 →
        (v3 = 38 →
          (P_Mo_read v2 15 M fun r24 M23 =>
            vp_in 0 4 ∧
            (P_Mo_read (v2 + 15) 15 (putI M23 43 0 r24) fun r27 M26 =>
              vp_in 1 4 ∧
              (P_Mo_read (v2 + 30) 8 (putI M26 43 1 r27) fun r30 M29 =>
                vp_in 2 4 ∧
                (P_Mo_areLetters ((putI M29 43 2 r30).1 43 0) 3 (putI M29 43 2 r30) fun r33 M32 =>
                  (r33 = 0 →
                    Q 0 M32) ∧
                  (¬ r33 = 0 →
                    (P_Mo_areLetters (M32.1 43 1) 3 M32 fun r35 M34 =>
                      (r35 = 0 →
                        Q 0 M34) ∧
                      (¬ r35 = 0 →
                        Q 1 M34)))))))) ∧
        (¬ v3 = 38 →
          Q 0 M)) ∧
      (v1 = 3 →
        (v3 = 31 →
          (P_Mo_read v2 31 M fun r41 M40 =>
            vp_in 0 4 ∧
            Q 1 (putI M40 43 0 r41))) ∧
        (¬ v3 = 31 →
          Q 0 M)) ∧
      (v1 = 4 →
        (v3 = 29 →
          (P_Mo_read v2 3 M fun r46 M45 =>
            vp_in 0 4 ∧
            (P_Mo_read (v2 + 3) 3 (putI M45 43 0 r46) fun r49 M48 =>
              vp_in 1 4 ∧
              (P_Mo_read (v2 + 6) 3 (putI M48 43 1 r49) fun r52 M51 =>
                vp_in 2 4 ∧
                (P_Mo_read (v2 + 9) 20 (putI M51 43 2 r52) fun r55 M54 =>
                  vp_in 3 4 ∧
                  (((putI M54 43 3 r55).1 43 2) ≤ 1 →
                    Q 0 (putI M54 43 3 r55)) ∧
                  (¬ ((putI M54 43 3 r55).1 43 2) ≤ 1 →
                    (6 ≤ ((putI M54 43 3 r55).1 43 2) →
                      Q 0 (putI M54 43 3 r55)) ∧
                    (¬ 6 ≤ ((putI M54 43 3 r55).1 43 2) →
                      (((putI M54 43 3 r55).1 43 2) ≤ ((putI M54 43 3 r55).1 43 1) →
                        Q 0 (putI M54 43 3 r55)) ∧
                      (¬ ((putI M54 43 3 r55).1 43 2) ≤ ((putI M54 43 3 r55).1 43 1) →
                        (P_Mo_areLetters ((putI M54 43 3 r55).1 43 3) 4 (putI M54 43 3 r55) fun r58 M57 =>
                          (r58 = 0 →
                            Q 0 M57) ∧
                          (¬ r58 = 0 →
                            Q 1 M57)))))))))) ∧
        (¬ v3 = 29 →
          Q 0 M)) ∧
      (v1 = 5 →
        (v3 = 15 →
          (P_Mo_read v2 12 M fun r66 M65 =>
            vp_in 0 4 ∧
            (P_Mo_read (v2 + 12) 3 (putI M65 43 0 r66) fun r69 M68 =>
              vp_in 1 4 ∧
              (2250 ≤ ((putI M68 43 1 r69).1 43 0) →
                Q 0 (putI M68 43 1 r69)) ∧
              (¬ 2250 ≤ ((putI M68 43 1 r69).1 43 0) →
                (((putI M68 43 1 r69).1 43 1) ≤ 0 →
                  Q 0 (putI M68 43 1 r69)) ∧
                (¬ ((putI M68 43 1 r69).1 43 1) ≤ 0 →
                  Q 1 (putI M68 43 1 r69)))))) ∧
        (¬ v3 = 15 →
          Q 0 M)) ∧
      (¬ v1 = 1 → ¬ v1 = 2 → ¬ v1 = 3 → ¬ v1 = 4 → ¬ v1 = 5 →
        Q 0 M)) ∧
    (¬ 4 ≤ v4 →
      vp_in v4 4 ∧
      P_Mo_fields_3 Q n v1 v2 v3 (v4 + 1) (putI M 43 v4.toNatClampNeg (-1)))
def P_Mo_fields (a1 : Int32) (a2 : Int32) (a3 : Int32) (M : Mem) (Q : Int32 → Mem → Prop) : Prop :=
  ∃ m77, P_Mo_fields_3 Q m77 a1 a2 a3 0 M
def P_Mo_note_160 (Q : Mem → Prop) : Nat → Int32 → Int32 → Int32 → Int32 → Mem → Prop
  | 0, _, _, _, _, _ => False
  | n + 1, v4, v5, v6, v7, M =>
    (4 ≤ v7 →
      vp_in (M.1 35 11) 200 ∧
      (v5 = 0 →
        Q (putI (putI M 42 ((M.1 35 11)).toNatClampNeg 0) 35 11 ((M.1 35 11) + 1))) ∧
      (¬ v5 = 0 →
        (¬ v4 = 4 →
          Q (putI (putI M 42 ((M.1 35 11)).toNatClampNeg 0) 35 11 ((M.1 35 11) + 1))) ∧
        (v4 = 4 →
          (P_Mo_join (((M.1 35 11) + 1) - 1) (putI (putI M 42 ((M.1 35 11)).toNatClampNeg 0) 35 11 ((M.1 35 11) + 1)) fun M8 =>
            Q M8)))) ∧
    (¬ 4 ≤ v7 →
      (v5 = 0 →
        vp_in ((v6 + 4) + v7) 1600 ∧
        P_Mo_note_160 Q n v4 v5 v6 (v7 + 1) (putI M 41 (((v6 + 4) + v7)).toNatClampNeg (-1))) ∧
      (¬ v5 = 0 →
        vp_in v7 4 ∧
        vp_in ((v6 + 4) + v7) 1600 ∧
        P_Mo_note_160 Q n v4 v5 v6 (v7 + 1) (putI M 41 (((v6 + 4) + v7)).toNatClampNeg (M.1 43 v7.toNatClampNeg))))
def P_Mo_note_133 (Q : Mem → Prop) (v1 : Int32) (v4 : Int32) (v5 : Int32) (v6 : Int32) (s0 : Int32) (s1 : Int32) (M : Mem) : Prop :=
  vp_in s1 1600 ∧
  vp_in (v6 + 2) 1600 ∧
  vp_in (v6 + 3) 1600 ∧
  ∃ m16, P_Mo_note_160 Q m16 v4 v5 v6 0 (putI (putI (putI M 41 s1.toNatClampNeg s0) 41 ((v6 + 2)).toNatClampNeg v1) 41 ((v6 + 3)).toNatClampNeg (M.1 35 7))
def P_Mo_note_106 (Q : Mem → Prop) (v1 : Int32) (v3 : Int32) (v4 : Int32) (v5 : Int32) (v6 : Int32) (s0 : Int32) (s1 : Int32) (M : Mem) : Prop :=
  vp_in s1 1600 ∧
  (v5 = 0 →
    P_Mo_note_133 Q v1 v4 v5 v6 (-1) (v6 + 1) (putI M 41 s1.toNatClampNeg s0)) ∧
  (¬ v5 = 0 →
    (P_Mo_read (v3 + 4) 20 (putI M 41 s1.toNatClampNeg s0) fun r18 M17 =>
      P_Mo_note_133 Q v1 v4 v5 v6 r18 (v6 + 1) M17))
def P_Mo_note_69 (Q : Mem → Prop) (v1 : Int32) (v3 : Int32) (v4 : Int32) (v5 : Int32) (M : Mem) : Prop :=
  (¬ (M.1 35 11) = 200 →
    (v5 = 0 →
      P_Mo_note_106 Q v1 v3 v4 v5 (8 * (M.1 35 11)) 0 (8 * (M.1 35 11)) M) ∧
    (¬ v5 = 0 →
      P_Mo_note_106 Q v1 v3 v4 v5 (8 * (M.1 35 11)) v4 (8 * (M.1 35 11)) M)) ∧
  ((M.1 35 11) = 200 →
    Q M)
def P_Mo_note_52 (Q : Mem → Prop) (v1 : Int32) (v3 : Int32) (v4 : Int32) (s0 : Int32) (M : Mem) : Prop :=
  (¬ s0 = 0 →
    P_Mo_note_69 Q v1 v3 v4 s0 M) ∧
  (s0 = 0 →
    P_Mo_note_69 Q v1 v3 v4 s0 (putI M 35 13 ((M.1 35 13) + 1)))
def P_Mo_note_51 (Q : Mem → Prop) (v1 : Int32) (v3 : Int32) (v4 : Int32) (M : Mem) : Prop :=
  P_Mo_note_52 Q v1 v3 v4 0 M
def P_Mo_note (a1 : Int32) (a2 : Int32) (M : Mem) (Q : Mem → Prop) : Prop :=
  (P_Mo_read (300 * a1) 4 (putI M 35 12 ((M.1 35 12) + 1)) fun r2 M1 =>
    (a2 < 24 →
      P_Mo_note_51 Q a1 (300 * a1) r2 M1) ∧
    (¬ a2 < 24 →
      (P_Mo_fields r2 ((300 * a1) + 24) (a2 - 24) M1 fun r24 M23 =>
        (r24 = 0 →
          P_Mo_note_51 Q a1 (300 * a1) r2 M23) ∧
        (¬ r24 = 0 →
          P_Mo_note_52 Q a1 (300 * a1) r2 1 M23))))
def P_Mo_doubled (a1 : Int32) (a2 : Int32) (M : Mem) (Q : Int32 → Mem → Prop) : Prop :=
  (((a1 >>> ((15 : Int32) &&& 31)) &&& 1) = a2 →
    Q ((a1 <<< ((1 : Int32) &&& 31)) &&& 65535) M) ∧
  (¬ ((a1 >>> ((15 : Int32) &&& 31)) &&& 1) = a2 →
    Q (((a1 <<< ((1 : Int32) &&& 31)) &&& 65535) ^^^ 4129) M)
def P_Mo_ends_14 (Q : Int32 → Mem → Prop) : Nat → Int32 → Int32 → Int32 → Int32 → Mem → Prop
  | 0, _, _, _, _, _ => False
  | n + 1, v1, v2, v3, v4, M =>
    ((v2 - 16) ≤ v4 →
      (P_Mo_read (((300 * v1) + v2) - 16) 16 M fun r2 M1 =>
        ((v3 ^^^ 65535) = r2 →
          (P_Mo_note v1 (v2 - 16) M1 fun M3 =>
            Q 1 M3)) ∧
        (¬ (v3 ^^^ 65535) = r2 →
          Q 0 (putI M1 35 8 ((M1.1 35 8) + 1))))) ∧
    (¬ (v2 - 16) ≤ v4 →
      vp_in ((300 * v1) + v4) 600 ∧
      (P_Mo_doubled v3 (M.1 40 (((300 * v1) + v4)).toNatClampNeg) M fun r7 M6 =>
        P_Mo_ends_14 Q n v1 v2 r7 (v4 + 1) M6))
def P_Mo_ends (a1 : Int32) (a2 : Int32) (M : Mem) (Q : Int32 → Mem → Prop) : Prop :=
  (24 ≤ a2 →
    ∃ m9, P_Mo_ends_14 Q m9 a1 a2 65535 0 M) ∧
  (¬ 24 ≤ a2 →
    Q 0 M)
def P_Mo_lose (a1 : Int32) (M : Mem) (Q : Mem → Prop) : Prop :=
  vp_in a1 2 ∧
  ((M.1 39 a1.toNatClampNeg) < 30 →
    Q (putI M 39 a1.toNatClampNeg (-1))) ∧
  (¬ (M.1 39 a1.toNatClampNeg) < 30 →
    Q (putI (putI M 35 8 ((M.1 35 8) + 1)) 39 a1.toNatClampNeg (-1)))
def P_Mo_put (a1 : Int32) (a2 : Int32) (M : Mem) (Q : Mem → Prop) : Prop :=
  vp_in a1 2 ∧
  (¬ (M.1 39 a1.toNatClampNeg) = (-1) →
    (¬ (M.1 39 a1.toNatClampNeg) = 300 →
      vp_in ((300 * a1) + (M.1 39 a1.toNatClampNeg)) 600 ∧
      Q (putI (putI M 40 (((300 * a1) + (M.1 39 a1.toNatClampNeg))).toNatClampNeg a2) 39 a1.toNatClampNeg ((M.1 39 a1.toNatClampNeg) + 1))) ∧
    ((M.1 39 a1.toNatClampNeg) = 300 →
      (P_Mo_lose a1 M fun M3 =>
        Q M3))) ∧
  ((M.1 39 a1.toNatClampNeg) = (-1) →
    Q M)
def P_Mo_hears_74 (Q : Int32 → Mem → Prop) (v1 : Int32) (v3 : Int32) (M : Mem) : Prop :=
  (v3 = 6 →
    vp_in v1 2 ∧
    (P_Mo_ends v1 ((M.1 39 v1.toNatClampNeg) - 6) M fun r4 M3 =>
      Q r4 (putI M3 39 v1.toNatClampNeg 0))) ∧
  (¬ v3 = 6 →
    Q 0 M)
def P_Mo_hears_31 (Q : Int32 → Mem → Prop) (v1 : Int32) (M : Mem) : Prop :=
  vp_in v1 2 ∧
  (¬ (M.1 38 v1.toNatClampNeg) = 7 →
    Q 0 M) ∧
  ((M.1 38 v1.toNatClampNeg) = 7 →
    (P_Mo_lose v1 M fun M10 =>
      Q 0 M10))
def P_Mo_hears (a1 : Int32) (a2 : Int32) (M : Mem) (Q : Int32 → Mem → Prop) : Prop :=
  (¬ a2 = 1 →
    vp_in a1 2 ∧
    (5 ≤ (M.1 38 a1.toNatClampNeg) →
      P_Mo_hears_74 Q a1 (M.1 38 a1.toNatClampNeg) (putI M 38 a1.toNatClampNeg 0)) ∧
    (¬ 5 ≤ (M.1 38 a1.toNatClampNeg) →
      (P_Mo_put a1 0 (putI M 38 a1.toNatClampNeg 0) fun M6 =>
        P_Mo_hears_74 Q a1 (M.1 38 a1.toNatClampNeg) M6))) ∧
  (a2 = 1 →
    vp_in a1 2 ∧
    (5 < ((putI M 38 a1.toNatClampNeg ((M.1 38 a1.toNatClampNeg) + 1)).1 38 a1.toNatClampNeg) →
      P_Mo_hears_31 Q a1 (putI M 38 a1.toNatClampNeg ((M.1 38 a1.toNatClampNeg) + 1))) ∧
    (¬ 5 < ((putI M 38 a1.toNatClampNeg ((M.1 38 a1.toNatClampNeg) + 1)).1 38 a1.toNatClampNeg) →
      (P_Mo_put a1 1 (putI M 38 a1.toNatClampNeg ((M.1 38 a1.toNatClampNeg) + 1)) fun M12 =>
        P_Mo_hears_31 Q a1 M12)))
def P_Mo_hear_79 (K31 : Int32 → Int32 → Int32 → Int32 → Mem → Prop) (Q : Int32 → Mem → Prop) (v1 : Int32) (v2 : Int32) (v3 : Int32) (v4 : Int32) (v5 : Int32) (s0 : Int32) (M : Mem) : Prop :=
  vp_in v1 2 ∧
  (P_Mo_hears v1 s0 (putI M 37 v1.toNatClampNeg v5) fun r5 M4 =>
    (r5 = 0 →
      K31 v1 v2 v3 (v4 + 1) M4) ∧
    (¬ r5 = 0 →
      K31 v1 v2 (v3 + 1) (v4 + 1) M4))
def P_Mo_hear_31 (Q : Int32 → Mem → Prop) : Nat → Int32 → Int32 → Int32 → Int32 → Mem → Prop
  | 0, _, _, _, _, _ => False
  | n + 1, v1, v2, v3, v4, M =>
    ((8 * v2) ≤ v4 →
      Q v3 M) ∧
    (¬ (8 * v2) ≤ v4 →
      vp_in (v4 / 8) 400 ∧
      vp_in v1 2 ∧
      (¬ (((M.1 36 ((v4 / 8)).toNatClampNeg) >>> ((7 - (v4 - v4 / 8 * 8)) &&& 31)) &&& 1) = (M.1 37 v1.toNatClampNeg) →
        P_Mo_hear_79 (fun v1 v2 v3 v4 M => P_Mo_hear_31 Q n v1 v2 v3 v4 M) Q v1 v2 v3 v4 (((M.1 36 ((v4 / 8)).toNatClampNeg) >>> ((7 - (v4 - v4 / 8 * 8)) &&& 31)) &&& 1) 0 M) ∧
      ((((M.1 36 ((v4 / 8)).toNatClampNeg) >>> ((7 - (v4 - v4 / 8 * 8)) &&& 31)) &&& 1) = (M.1 37 v1.toNatClampNeg) →
        P_Mo_hear_79 (fun v1 v2 v3 v4 M => P_Mo_hear_31 Q n v1 v2 v3 v4 M) Q v1 v2 v3 v4 (((M.1 36 ((v4 / 8)).toNatClampNeg) >>> ((7 - (v4 - v4 / 8 * 8)) &&& 31)) &&& 1) 1 M))
def P_Mo_hear (a1 : Int32) (M : Mem) (Q : Int32 → Mem → Prop) : Prop :=
  (a1 < 0 →
    Q (-1) (putI M 35 0 0)) ∧
  (¬ a1 < 0 →
    (a1 ≤ 1 →
      ∃ m9, P_Mo_hear_31 Q m9 a1 (M.1 35 2) 0 0 (putI (putI M 35 0 0) 35 2 0)) ∧
    (¬ a1 ≤ 1 →
      Q (-1) (putI M 35 0 0)))
def P_Mo_wait (a1 : Int32) (M : Mem) (Q : Int32 → Mem → Prop) : Prop :=
  (a1 < 0 →
    Q 0 (putI M 35 0 0)) ∧
  (¬ a1 < 0 →
    (100000 < a1 →
      Q 0 (putI M 35 0 0)) ∧
    (¬ 100000 < a1 →
      (((M.1 35 7) + a1) ≤ 2000000 →
        Q 1 (putI (putI M 35 0 0) 35 7 ((M.1 35 7) + a1))) ∧
      (¬ ((M.1 35 7) + a1) ≤ 2000000 →
        Q 0 (putI M 35 0 0))))
def P_Mo_refuse (M : Mem) (Q : Int32 → Mem → Prop) : Prop :=
  Q 0 (putI M 35 0 1)
def P_Mo_message (a1 : Int32) (a2 : Int32) (M : Mem) (Q : Int32 → Mem → Prop) : Prop :=
  (a1 < 0 →
    (P_Mo_refuse  M fun r2 M1 =>
      Q r2 M1)) ∧
  (¬ a1 < 0 →
    ((M.1 35 11) ≤ a1 →
      (P_Mo_refuse  M fun r4 M3 =>
        Q r4 M3)) ∧
    (¬ (M.1 35 11) ≤ a1 →
      (a2 < 0 →
        (P_Mo_refuse  M fun r6 M5 =>
          Q r6 M5)) ∧
      (¬ a2 < 0 →
        (a2 ≤ 7 →
          vp_in ((8 * a1) + a2) 1600 ∧
          Q (M.1 41 (((8 * a1) + a2)).toNatClampNeg) (putI M 35 0 0)) ∧
        (¬ a2 ≤ 7 →
          (P_Mo_refuse  M fun r9 M8 =>
            Q r9 M8)))))
def P_Mo_size_12 (Q : Int32 → Mem → Prop) : Nat → Int32 → Int32 → Mem → Prop
  | 0, _, _, _ => False
  | n + 1, v1, v2, M =>
    (v2 < 0 →
      Q (-1) M) ∧
    (¬ v2 < 0 →
      vp_in (8 * v2) 1600 ∧
      (¬ (M.1 41 ((8 * v2)).toNatClampNeg) = 2 →
        P_Mo_size_12 Q n v1 (v2 + (-1)) M) ∧
      ((M.1 41 ((8 * v2)).toNatClampNeg) = 2 →
        vp_in ((8 * v2) + 1) 1600 ∧
        (¬ (M.1 41 (((8 * v2) + 1)).toNatClampNeg) = v1 →
          P_Mo_size_12 Q n v1 (v2 + (-1)) M) ∧
        ((M.1 41 (((8 * v2) + 1)).toNatClampNeg) = v1 →
          vp_in ((8 * v2) + 6) 1600 ∧
          Q (M.1 41 (((8 * v2) + 6)).toNatClampNeg) M)))
def P_Mo_size (a1 : Int32) (M : Mem) (Q : Int32 → Mem → Prop) : Prop :=
  ∃ m7, P_Mo_size_12 Q m7 a1 ((M.1 35 11) - 1) (putI M 35 0 0)
def P_Mo_texts (M : Mem) (Q : Int32 → Mem → Prop) : Prop :=
  Q (M.1 35 20) (putI M 35 0 0)
def P_Mo_text (a1 : Int32) (a2 : Int32) (M : Mem) (Q : Int32 → Mem → Prop) : Prop :=
  (a1 < 0 →
    (P_Mo_refuse  M fun r2 M1 =>
      Q r2 M1)) ∧
  (¬ a1 < 0 →
    ((M.1 35 20) ≤ a1 →
      (P_Mo_refuse  M fun r4 M3 =>
        Q r4 M3)) ∧
    (¬ (M.1 35 20) ≤ a1 →
      (a2 < 0 →
        (P_Mo_refuse  M fun r6 M5 =>
          Q r6 M5)) ∧
      (¬ a2 < 0 →
        (a2 ≤ 3 →
          (¬ a2 = 0 →
            (¬ a2 = 1 →
              (¬ a2 = 2 →
                vp_in a1 100 ∧
                Q (M.1 47 a1.toNatClampNeg) (putI M 35 0 0)) ∧
              (a2 = 2 →
                vp_in a1 100 ∧
                Q (M.1 46 a1.toNatClampNeg) (putI M 35 0 0))) ∧
            (a2 = 1 →
              vp_in a1 100 ∧
              Q (M.1 45 a1.toNatClampNeg) (putI M 35 0 0))) ∧
          (a2 = 0 →
            vp_in a1 100 ∧
            Q (M.1 44 a1.toNatClampNeg) (putI M 35 0 0))) ∧
        (¬ a2 ≤ 3 →
          (P_Mo_refuse  M fun r15 M14 =>
            Q r15 M14)))))
def P_Mo_letter (a1 : Int32) (a2 : Int32) (M : Mem) (Q : Int32 → Mem → Prop) : Prop :=
  (a1 < 0 →
    (P_Mo_refuse  M fun r2 M1 =>
      Q r2 M1)) ∧
  (¬ a1 < 0 →
    ((M.1 35 20) ≤ a1 →
      (P_Mo_refuse  M fun r4 M3 =>
        Q r4 M3)) ∧
    (¬ (M.1 35 20) ≤ a1 →
      (a2 < 0 →
        (P_Mo_refuse  M fun r6 M5 =>
          Q r6 M5)) ∧
      (¬ a2 < 0 →
        vp_in a1 100 ∧
        (a2 < (M.1 46 a1.toNatClampNeg) →
          vp_in ((5 * a1) + (a2 / 4)) 500 ∧
          Q (((M.1 48 (((5 * a1) + (a2 / 4))).toNatClampNeg) >>> ((15 - (5 * (a2 - a2 / 4 * 4))) &&& 31)) &&& 31) (putI M 35 0 0)) ∧
        (¬ a2 < (M.1 46 a1.toNatClampNeg) →
          (P_Mo_refuse  M fun r10 M9 =>
            Q r10 M9)))))
def P_Mo_isClash (a1 : Int32) (a2 : Int32) (M : Mem) (Q : Int32 → Mem → Prop) : Prop :=
  vp_in (8 * a1) 1600 ∧
  (¬ (M.1 41 ((8 * a1)).toNatClampNeg) = 5 →
    Q 0 M) ∧
  ((M.1 41 ((8 * a1)).toNatClampNeg) = 5 →
    vp_in (8 * a2) 1600 ∧
    (¬ (M.1 41 ((8 * a2)).toNatClampNeg) = 5 →
      Q 0 M) ∧
    ((M.1 41 ((8 * a2)).toNatClampNeg) = 5 →
      vp_in ((8 * a1) + 1) 1600 ∧
      vp_in ((8 * a2) + 1) 1600 ∧
      ((M.1 41 (((8 * a1) + 1)).toNatClampNeg) = (M.1 41 (((8 * a2) + 1)).toNatClampNeg) →
        Q 0 M) ∧
      (¬ (M.1 41 (((8 * a1) + 1)).toNatClampNeg) = (M.1 41 (((8 * a2) + 1)).toNatClampNeg) →
        vp_in ((8 * a1) + 4) 1600 ∧
        vp_in ((8 * a2) + 4) 1600 ∧
        ((M.1 41 (((8 * a1) + 4)).toNatClampNeg) = (M.1 41 (((8 * a2) + 4)).toNatClampNeg) →
          vp_in ((8 * a1) + 3) 1600 ∧
          vp_in ((8 * a2) + 3) 1600 ∧
          vp_in ((8 * a2) + 5) 1600 ∧
          (((M.1 41 (((8 * a2) + 3)).toNatClampNeg) + (60 * (M.1 41 (((8 * a2) + 5)).toNatClampNeg))) ≤ (M.1 41 (((8 * a1) + 3)).toNatClampNeg) →
            Q 0 M) ∧
          (¬ ((M.1 41 (((8 * a2) + 3)).toNatClampNeg) + (60 * (M.1 41 (((8 * a2) + 5)).toNatClampNeg))) ≤ (M.1 41 (((8 * a1) + 3)).toNatClampNeg) →
            Q 1 M)) ∧
        (¬ (M.1 41 (((8 * a1) + 4)).toNatClampNeg) = (M.1 41 (((8 * a2) + 4)).toNatClampNeg) →
          Q 0 M))))
def P_Mo_clashes_19 (K9 : Int32 → Int32 → Mem → Prop) (Q : Int32 → Mem → Prop) : Nat → Int32 → Int32 → Int32 → Mem → Prop
  | 0, _, _, _, _ => False
  | n + 1, v1, v2, v3, M =>
    (v2 ≤ v3 →
      K9 v1 (v2 + 1) M) ∧
    (¬ v2 ≤ v3 →
      (P_Mo_isClash v2 v3 M fun r2 M1 =>
        (r2 = 0 →
          P_Mo_clashes_19 K9 Q n v1 v2 (v3 + 1) M1) ∧
        (¬ r2 = 0 →
          P_Mo_clashes_19 K9 Q n (v1 + 1) v2 (v3 + 1) M1)))
def P_Mo_clashes_9 (Q : Int32 → Mem → Prop) : Nat → Int32 → Int32 → Mem → Prop
  | 0, _, _, _ => False
  | n + 1, v1, v2, M =>
    ((M.1 35 11) ≤ v2 →
      Q v1 M) ∧
    (¬ (M.1 35 11) ≤ v2 →
      ∃ m5, P_Mo_clashes_19 (fun v1 v2 M => P_Mo_clashes_9 Q n v1 v2 M) Q m5 v1 v2 0 M)
def P_Mo_clashes (M : Mem) (Q : Int32 → Mem → Prop) : Prop :=
  ∃ m7, P_Mo_clashes_9 Q m7 0 0 (putI M 35 0 0)
def P_Mo_clashOf_15 (K4 : Int32 → Int32 → Mem → Prop) (Q : Int32 → Mem → Prop) : Nat → Int32 → Int32 → Int32 → Mem → Prop
  | 0, _, _, _, _ => False
  | n + 1, v2, v3, v4, M =>
    (v3 ≤ v4 →
      K4 v2 (v3 + 1) M) ∧
    (¬ v3 ≤ v4 →
      (P_Mo_isClash v3 v4 M fun r2 M1 =>
        (¬ r2 = 0 →
          (¬ v2 = 0 →
            P_Mo_clashOf_15 K4 Q n (v2 + (-1)) v3 (v4 + 1) M1) ∧
          (v2 = 0 →
            Q ((200 * v3) + v4) M1)) ∧
        (r2 = 0 →
          P_Mo_clashOf_15 K4 Q n v2 v3 (v4 + 1) M1)))
def P_Mo_clashOf_4 (Q : Int32 → Mem → Prop) : Nat → Int32 → Int32 → Mem → Prop
  | 0, _, _, _ => False
  | n + 1, v2, v3, M =>
    ((M.1 35 11) ≤ v3 →
      Q (-1) M) ∧
    (¬ (M.1 35 11) ≤ v3 →
      ∃ m6, P_Mo_clashOf_15 (fun v2 v3 M => P_Mo_clashOf_4 Q n v2 v3 M) Q m6 v2 v3 0 M)
def P_Mo_clashOf (a1 : Int32) (M : Mem) (Q : Int32 → Mem → Prop) : Prop :=
  ∃ m8, P_Mo_clashOf_4 Q m8 a1 0 M
def P_Mo_clash_22 (Q : Int32 → Mem → Prop) (v2 : Int32) (s0 : Int32) (M : Mem) : Prop :=
  (¬ s0 = (-1) →
    (¬ v2 = 0 →
      Q (s0 - s0 / 200 * 200) (putI M 35 0 0)) ∧
    (v2 = 0 →
      Q (s0 / 200) (putI M 35 0 0))) ∧
  (s0 = (-1) →
    (P_Mo_refuse  M fun r3 M2 =>
      Q r3 M2))
def P_Mo_clash_13 (Q : Int32 → Mem → Prop) (v2 : Int32) (M : Mem) : Prop :=
  P_Mo_clash_22 Q v2 (-1) M
def P_Mo_clash (a1 : Int32) (a2 : Int32) (M : Mem) (Q : Int32 → Mem → Prop) : Prop :=
  (a1 < 0 →
    P_Mo_clash_13 Q a2 M) ∧
  (¬ a1 < 0 →
    (a2 < 0 →
      P_Mo_clash_13 Q a2 M) ∧
    (¬ a2 < 0 →
      (a2 ≤ 1 →
        (P_Mo_clashOf a1 M fun r6 M5 =>
          P_Mo_clash_22 Q a2 r6 M5)) ∧
      (¬ a2 ≤ 1 →
        P_Mo_clash_13 Q a2 M)))
def P_Mo_isIn (a1 : Int32) (a2 : Int32) (a3 : Int32) (M : Mem) (Q : Int32 → Mem → Prop) : Prop :=
  (a1 < a2 →
    Q 0 M) ∧
  (¬ a1 < a2 →
    (a3 < a1 →
      Q 0 M) ∧
    (¬ a3 < a1 →
      Q 1 M))
def P_Mo_say_4 (Q : Mem → Prop) : Nat → Int32 → Int32 → Mem → Prop
  | 0, _, _, _ => False
  | n + 1, v1, v3, M =>
    (v3 < 0 →
      Q M) ∧
    (¬ v3 < 0 →
      vp_in (M.1 35 24) 120 ∧
      P_Mo_say_4 Q n v1 (v3 + (-1)) (putI (putI M 50 ((M.1 35 24)).toNatClampNeg ((v1 >>> (v3 &&& 31)) &&& 1)) 35 24 ((M.1 35 24) + 1)))
def P_Mo_say (a1 : Int32) (a2 : Int32) (M : Mem) (Q : Mem → Prop) : Prop :=
  ∃ m3, P_Mo_say_4 Q m3 a1 (a2 - 1) M
def P_Mo_says (a1 : Int32) (a2 : Int32) (a3 : Int32) (a4 : Int32) (a5 : Int32) (M : Mem) (Q : Int32 → Mem → Prop) : Prop :=
  (a1 = 1 →
    (P_Mo_isIn a2 (-32768) 32767 M fun r2 M1 =>
      (r2 = 0 →
        Q 0 M1) ∧
      (¬ r2 = 0 →
        (P_Mo_isIn a3 (-32768) 32767 M1 fun r4 M3 =>
          (r4 = 0 →
            Q 0 M3) ∧
          (¬ r4 = 0 →
            (P_Mo_isIn a4 (-128) 127 M3 fun r6 M5 =>
              (r6 = 0 →
                Q 0 M5) ∧
              (¬ r6 = 0 →
                (P_Mo_isIn a5 (-128) 127 M5 fun r8 M7 =>
                  (¬ r8 = 0 →
                    (P_Mo_say a2 16 M7 fun M9 =>
                      (P_Mo_say a3 16 M9 fun M10 =>
                        (P_Mo_say a4 8 M10 fun M11 =>
                          (P_Mo_say a5 8 M11 fun M12 =>
                            Q 1 M12))))) ∧
                  (r8 = 0 →
                    Q 0 M7))))))))) ∧
  (a1 = 2 →
    (P_Mo_isIn a2 0 32767 M fun r19 M18 =>
      (r19 = 0 →
        Q 0 M18) ∧
      (¬ r19 = 0 →
        (P_Mo_isIn a3 0 32767 M18 fun r21 M20 =>
          (r21 = 0 →
            Q 0 M20) ∧
          (¬ r21 = 0 →
            (P_Mo_isIn a4 0 255 M20 fun r23 M22 =>
              (r23 = 0 →
                Q 0 M22) ∧
              (¬ r23 = 0 →
                (P_Mo_areLetters a2 3 M22 fun r25 M24 =>
                  (r25 = 0 →
                    Q 0 M24) ∧
                  (¬ r25 = 0 →
                    (P_Mo_areLetters a3 3 M24 fun r27 M26 =>
                      (¬ r27 = 0 →
                        (P_Mo_say a2 15 M26 fun M28 =>
                          (P_Mo_say a3 15 M28 fun M29 =>
                            (P_Mo_say a4 8 M29 fun M30 =>
                              Q 1 M30)))) ∧
                      (r27 = 0 →
                        Q 0 M26))))))))))) ∧
  (a1 = 3 →
    (0 ≤ a2 →
      (P_Mo_say a2 31 M fun M37 =>
        Q 1 M37)) ∧
    (¬ 0 ≤ a2 →
      Q 0 M)) ∧
  (a1 = 4 →
    (P_Mo_isIn a2 0 511 M fun r41 M40 =>
      (r41 = 0 →
        Q 0 M40) ∧
      (¬ r41 = 0 →
        (P_Mo_isIn (a2 &&& 7) 2 5 M40 fun r43 M42 =>
          (r43 = 0 →
            Q 0 M42) ∧
          (¬ r43 = 0 →
            ((a2 &&& 7) ≤ ((a2 >>> ((3 : Int32) &&& 31)) &&& 7) →
              Q 0 M42) ∧
            (¬ (a2 &&& 7) ≤ ((a2 >>> ((3 : Int32) &&& 31)) &&& 7) →
              (P_Mo_isIn a3 0 1023 M42 fun r45 M44 =>
                (r45 = 0 →
                  Q 0 M44) ∧
                (¬ r45 = 0 →
                  (P_Mo_isIn a4 0 1023 M44 fun r47 M46 =>
                    (r47 = 0 →
                      Q 0 M46) ∧
                    (¬ r47 = 0 →
                      (P_Mo_areLetters a3 2 M46 fun r49 M48 =>
                        (r49 = 0 →
                          Q 0 M48) ∧
                        (¬ r49 = 0 →
                          (P_Mo_areLetters a4 2 M48 fun r51 M50 =>
                            (¬ r51 = 0 →
                              (P_Mo_say a2 9 M50 fun M52 =>
                                (P_Mo_say a3 10 M52 fun M53 =>
                                  (P_Mo_say a4 10 M53 fun M54 =>
                                    Q 1 M54)))) ∧
                            (r51 = 0 →
                              Q 0 M50)))))))))))))) ∧
  (¬ a1 = 1 → ¬ a1 = 2 → ¬ a1 = 3 → ¬ a1 = 4 →
    (¬ a1 = 5 →
      Q 0 M) ∧
    (a1 = 5 →
      (P_Mo_isIn a2 0 2249 M fun r64 M63 =>
        (r64 = 0 →
          Q 0 M63) ∧
        (¬ r64 = 0 →
          (P_Mo_isIn a3 1 7 M63 fun r66 M65 =>
            (¬ r66 = 0 →
              (P_Mo_say a2 12 M65 fun M67 =>
                (P_Mo_say a3 3 M67 fun M68 =>
                  Q 1 M68))) ∧
            (r66 = 0 →
              Q 0 M65))))))
def P_Mo_level_37 (Q : Mem → Prop) (M : Mem) : Prop :=
  vp_in ((M.1 35 27) / 8) 60 ∧
  Q (putI (putI M 49 (((M.1 35 27) / 8)).toNatClampNeg ((M.1 49 (((M.1 35 27) / 8)).toNatClampNeg) ||| ((M.1 35 25) <<< ((7 - ((M.1 35 27) - (M.1 35 27) / 8 * 8)) &&& 31)))) 35 27 ((M.1 35 27) + 1))
def P_Mo_level_14 (Q : Mem → Prop) (M : Mem) : Prop :=
  (¬ ((M.1 35 27) - (M.1 35 27) / 8 * 8) = 0 →
    P_Mo_level_37 Q M) ∧
  (((M.1 35 27) - (M.1 35 27) / 8 * 8) = 0 →
    vp_in ((M.1 35 27) / 8) 60 ∧
    P_Mo_level_37 Q (putI M 49 (((M.1 35 27) / 8)).toNatClampNeg 0))
def P_Mo_level (a1 : Int32) (M : Mem) (Q : Mem → Prop) : Prop :=
  (¬ a1 = 0 →
    P_Mo_level_14 Q M) ∧
  (a1 = 0 →
    P_Mo_level_14 Q (putI M 35 25 (1 - (M.1 35 25))))
def P_Mo_mark_7 (Q : Mem → Prop) : Nat → Int32 → Mem → Prop
  | 0, _, _ => False
  | n + 1, v1, M =>
    (6 ≤ v1 →
      (P_Mo_level 0 M fun M2 =>
        Q M2)) ∧
    (¬ 6 ≤ v1 →
      (P_Mo_level 1 M fun M3 =>
        P_Mo_mark_7 Q n (v1 + 1) M3))
def P_Mo_mark (M : Mem) (Q : Mem → Prop) : Prop :=
  (P_Mo_level 0 M fun M1 =>
    ∃ m5, P_Mo_mark_7 Q m5 0 M1)
def P_Mo_build_201 (Q : Int32 → Mem → Prop) : Nat → Mem → Prop
  | 0, _ => False
  | n + 1, M =>
    (((M.1 35 27) - (M.1 35 27) / 8 * 8) = 0 →
      Q ((M.1 35 27) / 8) (putI M 35 23 ((M.1 35 27) / 8))) ∧
    (¬ ((M.1 35 27) - (M.1 35 27) / 8 * 8) = 0 →
      (P_Mo_level 0 M fun M13 =>
        P_Mo_build_201 Q n M13))
def P_Mo_build_172 (K133 : Int32 → Int32 → Mem → Prop) (Q : Int32 → Mem → Prop) (v9 : Int32) (s0 : Int32) (M : Mem) : Prop :=
  (5 ≤ s0 →
    (P_Mo_level 0 M fun M18 =>
      K133 0 (v9 + 1) M18)) ∧
  (¬ 5 ≤ s0 →
    K133 s0 (v9 + 1) M)
def P_Mo_build_133 (Q : Int32 → Mem → Prop) : Nat → Int32 → Int32 → Mem → Prop
  | 0, _, _, _ => False
  | n + 1, v8, v9, M =>
    ((M.1 35 24) ≤ v9 →
      (P_Mo_mark  M fun M12 =>
        ∃ m15, P_Mo_build_201 Q m15 M12)) ∧
    (¬ (M.1 35 24) ≤ v9 →
      vp_in v9 120 ∧
      (P_Mo_level (M.1 50 v9.toNatClampNeg) M fun M17 =>
        (¬ (M17.1 50 v9.toNatClampNeg) = 1 →
          P_Mo_build_172 (fun v8 v9 M => P_Mo_build_133 Q n v8 v9 M) Q v9 0 M17) ∧
        ((M17.1 50 v9.toNatClampNeg) = 1 →
          P_Mo_build_172 (fun v8 v9 M => P_Mo_build_133 Q n v8 v9 M) Q v9 (v8 + 1) M17)))
def P_Mo_build_68 (Q : Int32 → Mem → Prop) : Nat → Int32 → Int32 → Mem → Prop
  | 0, _, _, _ => False
  | n + 1, v7, v8, M =>
    ((M.1 35 24) ≤ v8 →
      (P_Mo_say (v7 ^^^ 65535) 16 M fun M9 =>
        (P_Mo_level 0 (putI (putI M9 35 27 0) 35 25 0) fun M10 =>
          (P_Mo_mark  M10 fun M11 =>
            ∃ m22, P_Mo_build_133 Q m22 0 0 M11)))) ∧
    (¬ (M.1 35 24) ≤ v8 →
      vp_in v8 120 ∧
      (P_Mo_doubled v7 (M.1 50 v8.toNatClampNeg) M fun r25 M24 =>
        P_Mo_build_68 Q n r25 (v8 + 1) M24))
def P_Mo_build (a1 : Int32) (a2 : Int32) (a3 : Int32) (a4 : Int32) (a5 : Int32) (a6 : Int32) (M : Mem) (Q : Int32 → Mem → Prop) : Prop :=
  (P_Mo_isIn a1 1 5 (putI M 35 0 0) fun r2 M1 =>
    (r2 = 0 →
      Q (-1) M1) ∧
    (¬ r2 = 0 →
      (P_Mo_isIn a2 0 1048575 M1 fun r4 M3 =>
        (¬ r4 = 0 →
          (P_Mo_say a1 4 (putI M3 35 24 0) fun M5 =>
            (P_Mo_say a2 20 M5 fun M6 =>
              (P_Mo_says a1 a3 a4 a5 a6 M6 fun r8 M7 =>
                (¬ r8 = 0 →
                  ∃ m27, P_Mo_build_68 Q m27 65535 0 M7) ∧
                (r8 = 0 →
                  Q (-1) M7))))) ∧
        (r4 = 0 →
          Q (-1) M3))))
def P_Mo_octet (a1 : Int32) (M : Mem) (Q : Int32 → Mem → Prop) : Prop :=
  (a1 < 0 →
    (P_Mo_refuse  M fun r2 M1 =>
      Q r2 M1)) ∧
  (¬ a1 < 0 →
    (a1 < (M.1 35 23) →
      vp_in a1 60 ∧
      Q (M.1 49 a1.toNatClampNeg) (putI M 35 0 0)) ∧
    (¬ a1 < (M.1 35 23) →
      (P_Mo_refuse  M fun r5 M4 =>
        Q r5 M4)))
def P_Mo_lowers_65 (Q : Int32 → Mem → Prop) (v1 : Int32) (v2 : Int32) (v3 : Int64) (M : Mem) : Prop :=
  vp_in ((16 * v1) + v2) 256 ∧
  vp_in v2 16 ∧
  Q 1 (putI (putL M 60 v2.toNatClampNeg (v3 + (M.2 57 (((16 * v1) + v2)).toNatClampNeg))) 61 v2.toNatClampNeg v1)
def P_Mo_lowers (a1 : Int32) (a2 : Int32) (a3 : Int64) (M : Mem) (Q : Int32 → Mem → Prop) : Prop :=
  vp_in ((16 * a1) + a2) 256 ∧
  ((M.1 58 (((16 * a1) + a2)).toNatClampNeg) = 0 →
    Q 0 M) ∧
  (¬ (M.1 58 (((16 * a1) + a2)).toNatClampNeg) = 0 →
    vp_in a2 16 ∧
    ((a3 + (M.2 57 (((16 * a1) + a2)).toNatClampNeg)) < (M.2 60 a2.toNatClampNeg) →
      ((M.1 54 a2.toNatClampNeg) = (-1) →
        P_Mo_lowers_65 Q a1 a2 a3 M) ∧
      (¬ (M.1 54 a2.toNatClampNeg) = (-1) →
        vp_in (M.1 54 a2.toNatClampNeg) 16 ∧
        ((M.1 59 ((M.1 54 a2.toNatClampNeg)).toNatClampNeg) = 0 →
          P_Mo_lowers_65 Q a1 a2 a3 M) ∧
        (¬ (M.1 59 ((M.1 54 a2.toNatClampNeg)).toNatClampNeg) = 0 →
          Q 0 M))) ∧
    (¬ (a3 + (M.2 57 (((16 * a1) + a2)).toNatClampNeg)) < (M.2 60 a2.toNatClampNeg) →
      Q 0 M))
def P_Mo_raises_332 (Q : Int32 → Mem → Prop) : Nat → Int32 → Mem → Prop
  | 0, _, _ => False
  | n + 1, v6, M =>
    (v6 = (-1) →
      Q 1 M) ∧
    (¬ v6 = (-1) →
      vp_in v6 16 ∧
      vp_in (M.1 61 v6.toNatClampNeg) 16 ∧
      P_Mo_raises_332 Q n (M.1 53 ((M.1 61 v6.toNatClampNeg)).toNatClampNeg) (putI (putI M 53 ((M.1 61 v6.toNatClampNeg)).toNatClampNeg v6) 54 v6.toNatClampNeg (M.1 61 v6.toNatClampNeg)))
def P_Mo_raises_231 (Q : Int32 → Mem → Prop) : Nat → Int32 → Int64 → Int32 → Int32 → Mem → Prop
  | 0, _, _, _, _, _ => False
  | n + 1, v1, v2, v5, v6, M =>
    (v1 ≤ v6 →
      (¬ v5 = (-1) →
        vp_in v5 16 ∧
        ∃ m5, P_Mo_raises_332 Q m5 v5 (putI (putL M 35 39 ((M.2 35 39) + (M.2 60 v5.toNatClampNeg))) 35 40 ((M.1 35 40) + 1))) ∧
      (v5 = (-1) →
        Q 0 M)) ∧
    (¬ v1 ≤ v6 →
      vp_in v6 16 ∧
      (¬ (M.1 54 v6.toNatClampNeg) = (-1) →
        P_Mo_raises_231 Q n v1 v2 v5 (v6 + 1) M) ∧
      ((M.1 54 v6.toNatClampNeg) = (-1) →
        (v2 ≤ (M.2 60 v6.toNatClampNeg) →
          P_Mo_raises_231 Q n v1 v2 v5 (v6 + 1) M) ∧
        (¬ v2 ≤ (M.2 60 v6.toNatClampNeg) →
          (v5 = (-1) →
            P_Mo_raises_231 Q n v1 v2 v6 (v6 + 1) M) ∧
          (¬ v5 = (-1) →
            vp_in v5 16 ∧
            ((M.2 60 v5.toNatClampNeg) ≤ (M.2 60 v6.toNatClampNeg) →
              P_Mo_raises_231 Q n v1 v2 v5 (v6 + 1) M) ∧
            (¬ (M.2 60 v5.toNatClampNeg) ≤ (M.2 60 v6.toNatClampNeg) →
              P_Mo_raises_231 Q n v1 v2 v6 (v6 + 1) M)))))
def P_Mo_raises_162 (K102 : Int32 → Int64 → Int32 → Mem → Prop) (K113 : Int32 → Int64 → Int32 → Int32 → Mem → Prop) (Q : Int32 → Mem → Prop) : Nat → Int32 → Int64 → Int32 → Int32 → Int32 → Int32 → Mem → Prop
  | 0, _, _, _, _, _, _, _ => False
  | n + 1, v1, v2, v4, v5, v6, v7, M =>
    (v1 ≤ v7 →
      K113 v1 v2 v4 (v5 + 1) M) ∧
    (¬ v1 ≤ v7 →
      (v7 = v5 →
        P_Mo_raises_162 K102 K113 Q n v1 v2 v4 v5 v6 (v7 + 1) M) ∧
      (¬ v7 = v5 →
        vp_in v5 16 ∧
        vp_in ((16 * v6) + v5) 256 ∧
        (P_Mo_lowers v6 v7 ((M.2 60 v5.toNatClampNeg) - (M.2 57 (((16 * v6) + v5)).toNatClampNeg)) M fun r20 M19 =>
          (r20 = 0 →
            P_Mo_raises_162 K102 K113 Q n v1 v2 v4 v5 v6 (v7 + 1) M19) ∧
          (¬ r20 = 0 →
            P_Mo_raises_162 K102 K113 Q n v1 v2 1 v5 v6 (v7 + 1) M19))))
def P_Mo_raises_113 (K102 : Int32 → Int64 → Int32 → Mem → Prop) (Q : Int32 → Mem → Prop) : Nat → Int32 → Int64 → Int32 → Int32 → Mem → Prop
  | 0, _, _, _, _, _ => False
  | n + 1, v1, v2, v4, v5, M =>
    (v1 ≤ v5 →
      K102 v1 v2 v4 M) ∧
    (¬ v1 ≤ v5 →
      vp_in v5 16 ∧
      ((M.2 60 v5.toNatClampNeg) = v2 →
        P_Mo_raises_113 K102 Q n v1 v2 v4 (v5 + 1) M) ∧
      (¬ (M.2 60 v5.toNatClampNeg) = v2 →
        ((M.1 54 v5.toNatClampNeg) = (-1) →
          P_Mo_raises_113 K102 Q n v1 v2 v4 (v5 + 1) M) ∧
        (¬ (M.1 54 v5.toNatClampNeg) = (-1) →
          vp_in (M.1 54 v5.toNatClampNeg) 16 ∧
          ((M.1 59 ((M.1 54 v5.toNatClampNeg)).toNatClampNeg) = 0 →
            ∃ m24, P_Mo_raises_162 K102 (fun v1 v2 v4 v5 M => P_Mo_raises_113 K102 Q n v1 v2 v4 v5 M) Q m24 v1 v2 v4 v5 (M.1 54 v5.toNatClampNeg) 0 M) ∧
          (¬ (M.1 59 ((M.1 54 v5.toNatClampNeg)).toNatClampNeg) = 0 →
            P_Mo_raises_113 K102 Q n v1 v2 v4 (v5 + 1) M))))
def P_Mo_raises_102 (Q : Int32 → Mem → Prop) : Nat → Int32 → Int64 → Int32 → Mem → Prop
  | 0, _, _, _, _ => False
  | n + 1, v1, v2, v4, M =>
    (v4 = 0 →
      ∃ m14, P_Mo_raises_231 Q m14 v1 v2 (-1) 0 M) ∧
    (¬ v4 = 0 →
      ∃ m29, P_Mo_raises_113 (fun v1 v2 v4 M => P_Mo_raises_102 Q n v1 v2 v4 M) Q m29 v1 v2 0 0 M)
def P_Mo_raises_71 (K38 : Int32 → Int64 → Int32 → Mem → Prop) (Q : Int32 → Mem → Prop) : Nat → Int32 → Int64 → Int32 → Int32 → Mem → Prop
  | 0, _, _, _, _, _ => False
  | n + 1, v1, v2, v4, v5, M =>
    (v1 ≤ v5 →
      K38 v1 v2 (v4 + 1) M) ∧
    (¬ v1 ≤ v5 →
      (P_Mo_lowers v4 v5 0 M fun r34 M33 =>
        P_Mo_raises_71 K38 Q n v1 v2 v4 (v5 + 1) M33))
def P_Mo_raises_38 (Q : Int32 → Mem → Prop) : Nat → Int32 → Int64 → Int32 → Mem → Prop
  | 0, _, _, _, _ => False
  | n + 1, v1, v2, v4, M =>
    (v1 ≤ v4 →
      ∃ m31, P_Mo_raises_102 Q m31 v1 v2 1 M) ∧
    (¬ v1 ≤ v4 →
      vp_in v4 16 ∧
      (¬ (M.1 59 v4.toNatClampNeg) = 0 →
        P_Mo_raises_38 Q n v1 v2 (v4 + 1) M) ∧
      ((M.1 59 v4.toNatClampNeg) = 0 →
        ((M.1 53 v4.toNatClampNeg) = (-1) →
          ∃ m36, P_Mo_raises_71 (fun v1 v2 v4 M => P_Mo_raises_38 Q n v1 v2 v4 M) Q m36 v1 v2 v4 0 M) ∧
        (¬ (M.1 53 v4.toNatClampNeg) = (-1) →
          P_Mo_raises_38 Q n v1 v2 (v4 + 1) M)))
def P_Mo_raises_7 (Q : Int32 → Mem → Prop) : Nat → Int32 → Int64 → Int32 → Mem → Prop
  | 0, _, _, _, _ => False
  | n + 1, v1, v2, v4, M =>
    (v1 ≤ v4 →
      ∃ m40, P_Mo_raises_38 Q m40 v1 v2 0 M) ∧
    (¬ v1 ≤ v4 →
      vp_in v4 16 ∧
      P_Mo_raises_7 Q n v1 v2 (v4 + 1) (putI (putL M 60 v4.toNatClampNeg v2) 61 v4.toNatClampNeg (-1)))
def P_Mo_raises (a1 : Int32) (M : Mem) (Q : Int32 → Mem → Prop) : Prop :=
  ∃ m43, P_Mo_raises_7 Q m43 a1 2305843009213693951 0 M
def P_Mo_solve_133 (Q : Mem → Prop) : Nat → Int32 → Int32 → Mem → Prop
  | 0, _, _, _ => False
  | n + 1, v1, v2, M =>
    (v2 = 0 →
      Q M) ∧
    (¬ v2 = 0 →
      (P_Mo_raises v1 M fun r2 M1 =>
        P_Mo_solve_133 Q n v1 r2 M1))
def P_Mo_solve_39 (Q : Mem → Prop) : Nat → Int32 → Int32 → Mem → Prop
  | 0, _, _, _ => False
  | n + 1, v1, v2, M =>
    (v1 ≤ v2 →
      ∃ m4, P_Mo_solve_133 Q m4 v1 1 M) ∧
    (¬ v1 ≤ v2 →
      vp_in v2 16 ∧
      ((M.1 59 v2.toNatClampNeg) = 0 →
        P_Mo_solve_39 Q n v1 (v2 + 1) M) ∧
      (¬ (M.1 59 v2.toNatClampNeg) = 0 →
        (¬ (M.1 56 v2.toNatClampNeg) = (-1) →
          vp_in (M.1 56 v2.toNatClampNeg) 16 ∧
          vp_in ((16 * v2) + (M.1 56 v2.toNatClampNeg)) 256 ∧
          P_Mo_solve_39 Q n v1 (v2 + 1) (putL (putI (putI (putI M 53 v2.toNatClampNeg (M.1 56 v2.toNatClampNeg)) 54 ((M.1 56 v2.toNatClampNeg)).toNatClampNeg v2) 35 40 ((M.1 35 40) + 1)) 35 39 ((M.2 35 39) + (M.2 57 (((16 * v2) + (M.1 56 v2.toNatClampNeg))).toNatClampNeg)))) ∧
        ((M.1 56 v2.toNatClampNeg) = (-1) →
          P_Mo_solve_39 Q n v1 (v2 + 1) M)))
def P_Mo_solve_12 (Q : Mem → Prop) : Nat → Int32 → Int32 → Mem → Prop
  | 0, _, _, _ => False
  | n + 1, v1, v2, M =>
    (v1 ≤ v2 →
      ∃ m11, P_Mo_solve_39 Q m11 v1 0 M) ∧
    (¬ v1 ≤ v2 →
      vp_in v2 16 ∧
      P_Mo_solve_12 Q n v1 (v2 + 1) (putI (putI M 53 v2.toNatClampNeg (-1)) 54 v2.toNatClampNeg (-1)))
def P_Mo_solve (a1 : Int32) (M : Mem) (Q : Mem → Prop) : Prop :=
  ∃ m14, P_Mo_solve_12 Q m14 a1 0 (putL (putI M 35 40 0) 35 39 0)
def P_Mo_isFree_2 (Q : Int32 → Mem → Prop) : Nat → Int32 → Int32 → Int32 → Mem → Prop
  | 0, _, _, _, _ => False
  | n + 1, v1, v2, v3, M =>
    (v1 ≤ v3 →
      Q 1 M) ∧
    (¬ v1 ≤ v3 →
      vp_in v3 16 ∧
      (¬ (M.1 56 v3.toNatClampNeg) = v2 →
        P_Mo_isFree_2 Q n v1 v2 (v3 + 1) M) ∧
      ((M.1 56 v3.toNatClampNeg) = v2 →
        Q 0 M))
def P_Mo_isFree (a1 : Int32) (a2 : Int32) (M : Mem) (Q : Int32 → Mem → Prop) : Prop :=
  ∃ m4, P_Mo_isFree_2 Q m4 a1 a2 0 M
def P_Mo_goesOn (a1 : Int32) (a2 : Int32) (M : Mem) (Q : Int32 → Mem → Prop) : Prop :=
  (P_Mo_solve a1 M fun M1 =>
    (¬ (M1.1 35 40) = a2 →
      Q 0 M1) ∧
    ((M1.1 35 40) = a2 →
      (¬ (M1.2 35 39) = (M1.2 35 38) →
        Q 0 M1) ∧
      ((M1.2 35 39) = (M1.2 35 38) →
        Q 1 M1)))
def P_Mo_isAhead (a1 : Int32) (a2 : Int32) (M : Mem) (Q : Int32 → Mem → Prop) : Prop :=
  vp_in ((8 * a1) + 3) 1600 ∧
  vp_in ((8 * a2) + 3) 1600 ∧
  ((M.1 41 (((8 * a1) + 3)).toNatClampNeg) = (M.1 41 (((8 * a2) + 3)).toNatClampNeg) →
    vp_in ((8 * a1) + 4) 1600 ∧
    vp_in ((8 * a2) + 4) 1600 ∧
    ((M.1 41 (((8 * a1) + 4)).toNatClampNeg) = (M.1 41 (((8 * a2) + 4)).toNatClampNeg) →
      vp_in ((8 * a1) + 5) 1600 ∧
      vp_in ((8 * a2) + 5) 1600 ∧
      ((M.1 41 (((8 * a1) + 5)).toNatClampNeg) = (M.1 41 (((8 * a2) + 5)).toNatClampNeg) →
        (a2 ≤ a1 →
          Q 0 M) ∧
        (¬ a2 ≤ a1 →
          Q 1 M)) ∧
      (¬ (M.1 41 (((8 * a1) + 5)).toNatClampNeg) = (M.1 41 (((8 * a2) + 5)).toNatClampNeg) →
        ((M.1 41 (((8 * a2) + 5)).toNatClampNeg) ≤ (M.1 41 (((8 * a1) + 5)).toNatClampNeg) →
          Q 0 M) ∧
        (¬ (M.1 41 (((8 * a2) + 5)).toNatClampNeg) ≤ (M.1 41 (((8 * a1) + 5)).toNatClampNeg) →
          Q 1 M))) ∧
    (¬ (M.1 41 (((8 * a1) + 4)).toNatClampNeg) = (M.1 41 (((8 * a2) + 4)).toNatClampNeg) →
      ((M.1 41 (((8 * a2) + 4)).toNatClampNeg) ≤ (M.1 41 (((8 * a1) + 4)).toNatClampNeg) →
        Q 0 M) ∧
      (¬ (M.1 41 (((8 * a2) + 4)).toNatClampNeg) ≤ (M.1 41 (((8 * a1) + 4)).toNatClampNeg) →
        Q 1 M))) ∧
  (¬ (M.1 41 (((8 * a1) + 3)).toNatClampNeg) = (M.1 41 (((8 * a2) + 3)).toNatClampNeg) →
    ((M.1 41 (((8 * a2) + 3)).toNatClampNeg) ≤ (M.1 41 (((8 * a1) + 3)).toNatClampNeg) →
      Q 0 M) ∧
    (¬ (M.1 41 (((8 * a2) + 3)).toNatClampNeg) ≤ (M.1 41 (((8 * a1) + 3)).toNatClampNeg) →
      Q 1 M))
def P_Mo_part_566 (K526 : Int32 → Int32 → Int32 → Mem → Prop) (Q : Int32 → Mem → Prop) (v3 : Int32) (v5 : Int32) (v6 : Int32) (s0 : Int32) (s1 : Int32) (M : Mem) : Prop :=
  vp_in s1 16 ∧
  vp_in v6 16 ∧
  (¬ (M.1 56 v6.toNatClampNeg) = (-1) →
    K526 v3 v5 (v6 + 1) (putI M 55 s1.toNatClampNeg s0)) ∧
  ((M.1 56 v6.toNatClampNeg) = (-1) →
    K526 v3 (v5 + 1) (v6 + 1) (putI M 55 s1.toNatClampNeg s0))
def P_Mo_part_526 (Q : Int32 → Mem → Prop) : Nat → Int32 → Int32 → Int32 → Mem → Prop
  | 0, _, _, _, _ => False
  | n + 1, v3, v5, v6, M =>
    (v3 ≤ v6 →
      Q v5 M) ∧
    (¬ v3 ≤ v6 →
      vp_in v6 16 ∧
      (¬ (M.1 56 v6.toNatClampNeg) = (-1) →
        vp_in (M.1 56 v6.toNatClampNeg) 16 ∧
        P_Mo_part_566 (fun v3 v5 v6 M => P_Mo_part_526 Q n v3 v5 v6 M) Q v3 v5 v6 (M.1 55 ((M.1 56 v6.toNatClampNeg)).toNatClampNeg) v6 M) ∧
      ((M.1 56 v6.toNatClampNeg) = (-1) →
        P_Mo_part_566 (fun v3 v5 v6 M => P_Mo_part_526 Q n v3 v5 v6 M) Q v3 v5 v6 v5 v6 M))
def P_Mo_part_501 (K411 : Int32 → Int32 → Int32 → Mem → Prop) (Q : Int32 → Mem → Prop) (v3 : Int32) (v4 : Int32) (v5 : Int32) (v6 : Int32) (M : Mem) : Prop :=
  (¬ v6 = 0 →
    K411 v3 v4 (v5 + 1) M) ∧
  (v6 = 0 →
    vp_in v5 16 ∧
    K411 v3 v4 (v5 + 1) (putI M 56 v5.toNatClampNeg (-1)))
def P_Mo_part_431 (K411 : Int32 → Int32 → Int32 → Mem → Prop) (Q : Int32 → Mem → Prop) : Nat → Int32 → Int32 → Int32 → Int32 → Int32 → Mem → Prop
  | 0, _, _, _, _, _, _ => False
  | n + 1, v3, v4, v5, v6, v7, M =>
    (v3 ≤ v7 →
      P_Mo_part_501 K411 Q v3 v4 v5 v6 M) ∧
    (¬ v3 ≤ v7 →
      (¬ v6 = 0 →
        P_Mo_part_501 K411 Q v3 v4 v5 v6 M) ∧
      (v6 = 0 →
        vp_in v5 16 ∧
        vp_in ((16 * v5) + v7) 256 ∧
        ((M.1 58 (((16 * v5) + v7)).toNatClampNeg) = 0 →
          P_Mo_part_431 K411 Q n v3 v4 v5 0 (v7 + 1) (putI M 56 v5.toNatClampNeg v7)) ∧
        (¬ (M.1 58 (((16 * v5) + v7)).toNatClampNeg) = 0 →
          (P_Mo_isFree v5 v7 (putI M 56 v5.toNatClampNeg v7) fun r16 M15 =>
            (r16 = 0 →
              P_Mo_part_431 K411 Q n v3 v4 v5 0 (v7 + 1) M15) ∧
            (¬ r16 = 0 →
              (P_Mo_goesOn v3 v4 M15 fun r18 M17 =>
                (r18 = 0 →
                  P_Mo_part_431 K411 Q n v3 v4 v5 0 (v7 + 1) M17) ∧
                (¬ r18 = 0 →
                  P_Mo_part_431 K411 Q n v3 v4 v5 1 (v7 + 1) M17)))))))
def P_Mo_part_411 (Q : Int32 → Mem → Prop) : Nat → Int32 → Int32 → Int32 → Mem → Prop
  | 0, _, _, _, _ => False
  | n + 1, v3, v4, v5, M =>
    (v3 ≤ v5 →
      ∃ m9, P_Mo_part_526 Q m9 v3 0 0 M) ∧
    (¬ v3 ≤ v5 →
      vp_in v5 16 ∧
      ∃ m24, P_Mo_part_431 (fun v3 v4 v5 M => P_Mo_part_411 Q n v3 v4 v5 M) Q m24 v3 v4 v5 0 0 (putI M 59 v5.toNatClampNeg 1))
def P_Mo_part_180 (K149 : Int32 → Int32 → Int32 → Mem → Prop) (Q : Int32 → Mem → Prop) : Nat → Int32 → Int32 → Int32 → Int32 → Mem → Prop
  | 0, _, _, _, _, _ => False
  | n + 1, v2, v3, v4, v5, M =>
    (v3 ≤ v5 →
      K149 v2 v3 (v4 + 1) M) ∧
    (¬ v3 ≤ v5 →
      vp_in v4 16 ∧
      vp_in ((8 * (M.1 52 v4.toNatClampNeg)) + 4) 1600 ∧
      vp_in v5 16 ∧
      vp_in ((8 * (M.1 52 v5.toNatClampNeg)) + 4) 1600 ∧
      vp_in ((8 * (M.1 52 v4.toNatClampNeg)) + 5) 1600 ∧
      vp_in ((8 * (M.1 52 v5.toNatClampNeg)) + 5) 1600 ∧
      vp_in ((8 * (M.1 52 v4.toNatClampNeg)) + 3) 1600 ∧
      vp_in ((8 * (M.1 52 v5.toNatClampNeg)) + 3) 1600 ∧
      vp_in ((16 * v4) + v5) 256 ∧
      (((Int32.toInt64 v2) * (Int32.toInt64 ((M.1 41 (((8 * (M.1 52 v4.toNatClampNeg)) + 3)).toNatClampNeg) - (M.1 41 (((8 * (M.1 52 v5.toNatClampNeg)) + 3)).toNatClampNeg)))) ≤ 0 →
        P_Mo_part_180 K149 Q n v2 v3 v4 (v5 + 1) (putI (putL M 57 (((16 * v4) + v5)).toNatClampNeg (((Int32.toInt64 ((M.1 41 (((8 * (M.1 52 v4.toNatClampNeg)) + 4)).toNatClampNeg) - (M.1 41 (((8 * (M.1 52 v5.toNatClampNeg)) + 4)).toNatClampNeg))) * (Int32.toInt64 ((M.1 41 (((8 * (M.1 52 v4.toNatClampNeg)) + 4)).toNatClampNeg) - (M.1 41 (((8 * (M.1 52 v5.toNatClampNeg)) + 4)).toNatClampNeg)))) + ((Int32.toInt64 ((M.1 41 (((8 * (M.1 52 v4.toNatClampNeg)) + 5)).toNatClampNeg) - (M.1 41 (((8 * (M.1 52 v5.toNatClampNeg)) + 5)).toNatClampNeg))) * (Int32.toInt64 ((M.1 41 (((8 * (M.1 52 v4.toNatClampNeg)) + 5)).toNatClampNeg) - (M.1 41 (((8 * (M.1 52 v5.toNatClampNeg)) + 5)).toNatClampNeg)))))) 58 (((16 * v4) + v5)).toNatClampNeg 0)) ∧
      (¬ ((Int32.toInt64 v2) * (Int32.toInt64 ((M.1 41 (((8 * (M.1 52 v4.toNatClampNeg)) + 3)).toNatClampNeg) - (M.1 41 (((8 * (M.1 52 v5.toNatClampNeg)) + 3)).toNatClampNeg)))) ≤ 0 →
        ((((Int32.toInt64 v2) * (Int32.toInt64 ((M.1 41 (((8 * (M.1 52 v4.toNatClampNeg)) + 3)).toNatClampNeg) - (M.1 41 (((8 * (M.1 52 v5.toNatClampNeg)) + 3)).toNatClampNeg)))) * ((Int32.toInt64 v2) * (Int32.toInt64 ((M.1 41 (((8 * (M.1 52 v4.toNatClampNeg)) + 3)).toNatClampNeg) - (M.1 41 (((8 * (M.1 52 v5.toNatClampNeg)) + 3)).toNatClampNeg))))) < (((Int32.toInt64 ((M.1 41 (((8 * (M.1 52 v4.toNatClampNeg)) + 4)).toNatClampNeg) - (M.1 41 (((8 * (M.1 52 v5.toNatClampNeg)) + 4)).toNatClampNeg))) * (Int32.toInt64 ((M.1 41 (((8 * (M.1 52 v4.toNatClampNeg)) + 4)).toNatClampNeg) - (M.1 41 (((8 * (M.1 52 v5.toNatClampNeg)) + 4)).toNatClampNeg)))) + ((Int32.toInt64 ((M.1 41 (((8 * (M.1 52 v4.toNatClampNeg)) + 5)).toNatClampNeg) - (M.1 41 (((8 * (M.1 52 v5.toNatClampNeg)) + 5)).toNatClampNeg))) * (Int32.toInt64 ((M.1 41 (((8 * (M.1 52 v4.toNatClampNeg)) + 5)).toNatClampNeg) - (M.1 41 (((8 * (M.1 52 v5.toNatClampNeg)) + 5)).toNatClampNeg))))) →
          P_Mo_part_180 K149 Q n v2 v3 v4 (v5 + 1) (putI (putL M 57 (((16 * v4) + v5)).toNatClampNeg (((Int32.toInt64 ((M.1 41 (((8 * (M.1 52 v4.toNatClampNeg)) + 4)).toNatClampNeg) - (M.1 41 (((8 * (M.1 52 v5.toNatClampNeg)) + 4)).toNatClampNeg))) * (Int32.toInt64 ((M.1 41 (((8 * (M.1 52 v4.toNatClampNeg)) + 4)).toNatClampNeg) - (M.1 41 (((8 * (M.1 52 v5.toNatClampNeg)) + 4)).toNatClampNeg)))) + ((Int32.toInt64 ((M.1 41 (((8 * (M.1 52 v4.toNatClampNeg)) + 5)).toNatClampNeg) - (M.1 41 (((8 * (M.1 52 v5.toNatClampNeg)) + 5)).toNatClampNeg))) * (Int32.toInt64 ((M.1 41 (((8 * (M.1 52 v4.toNatClampNeg)) + 5)).toNatClampNeg) - (M.1 41 (((8 * (M.1 52 v5.toNatClampNeg)) + 5)).toNatClampNeg)))))) 58 (((16 * v4) + v5)).toNatClampNeg 0)) ∧
        (¬ (((Int32.toInt64 v2) * (Int32.toInt64 ((M.1 41 (((8 * (M.1 52 v4.toNatClampNeg)) + 3)).toNatClampNeg) - (M.1 41 (((8 * (M.1 52 v5.toNatClampNeg)) + 3)).toNatClampNeg)))) * ((Int32.toInt64 v2) * (Int32.toInt64 ((M.1 41 (((8 * (M.1 52 v4.toNatClampNeg)) + 3)).toNatClampNeg) - (M.1 41 (((8 * (M.1 52 v5.toNatClampNeg)) + 3)).toNatClampNeg))))) < (((Int32.toInt64 ((M.1 41 (((8 * (M.1 52 v4.toNatClampNeg)) + 4)).toNatClampNeg) - (M.1 41 (((8 * (M.1 52 v5.toNatClampNeg)) + 4)).toNatClampNeg))) * (Int32.toInt64 ((M.1 41 (((8 * (M.1 52 v4.toNatClampNeg)) + 4)).toNatClampNeg) - (M.1 41 (((8 * (M.1 52 v5.toNatClampNeg)) + 4)).toNatClampNeg)))) + ((Int32.toInt64 ((M.1 41 (((8 * (M.1 52 v4.toNatClampNeg)) + 5)).toNatClampNeg) - (M.1 41 (((8 * (M.1 52 v5.toNatClampNeg)) + 5)).toNatClampNeg))) * (Int32.toInt64 ((M.1 41 (((8 * (M.1 52 v4.toNatClampNeg)) + 5)).toNatClampNeg) - (M.1 41 (((8 * (M.1 52 v5.toNatClampNeg)) + 5)).toNatClampNeg))))) →
          P_Mo_part_180 K149 Q n v2 v3 v4 (v5 + 1) (putI (putL M 57 (((16 * v4) + v5)).toNatClampNeg (((Int32.toInt64 ((M.1 41 (((8 * (M.1 52 v4.toNatClampNeg)) + 4)).toNatClampNeg) - (M.1 41 (((8 * (M.1 52 v5.toNatClampNeg)) + 4)).toNatClampNeg))) * (Int32.toInt64 ((M.1 41 (((8 * (M.1 52 v4.toNatClampNeg)) + 4)).toNatClampNeg) - (M.1 41 (((8 * (M.1 52 v5.toNatClampNeg)) + 4)).toNatClampNeg)))) + ((Int32.toInt64 ((M.1 41 (((8 * (M.1 52 v4.toNatClampNeg)) + 5)).toNatClampNeg) - (M.1 41 (((8 * (M.1 52 v5.toNatClampNeg)) + 5)).toNatClampNeg))) * (Int32.toInt64 ((M.1 41 (((8 * (M.1 52 v4.toNatClampNeg)) + 5)).toNatClampNeg) - (M.1 41 (((8 * (M.1 52 v5.toNatClampNeg)) + 5)).toNatClampNeg)))))) 58 (((16 * v4) + v5)).toNatClampNeg 1))))
def P_Mo_part_149 (Q : Int32 → Mem → Prop) : Nat → Int32 → Int32 → Int32 → Mem → Prop
  | 0, _, _, _, _ => False
  | n + 1, v2, v3, v4, M =>
    (v3 ≤ v4 →
      (P_Mo_solve v3 (putI M 35 37 v3) fun M1 =>
        ∃ m26, P_Mo_part_411 Q m26 v3 (M1.1 35 40) 0 (putL M1 35 38 (M1.2 35 39)))) ∧
    (¬ v3 ≤ v4 →
      vp_in v4 16 ∧
      ∃ m40, P_Mo_part_180 (fun v2 v3 v4 M => P_Mo_part_149 Q n v2 v3 v4 M) Q m40 v2 v3 v4 0 (putI (putI M 51 v4.toNatClampNeg (M.1 52 v4.toNatClampNeg)) 59 v4.toNatClampNeg 0))
def P_Mo_part_122 (K24 : Int32 → Int32 → Int32 → Int32 → Mem → Prop) (Q : Int32 → Mem → Prop) (v1 : Int32) (v2 : Int32) (v3 : Int32) (v4 : Int32) (v5 : Int32) (M : Mem) : Prop :=
  vp_in v5 16 ∧
  K24 v1 v2 (v3 + 1) (v4 + 1) (putI M 52 v5.toNatClampNeg v4)
def P_Mo_part_77 (K24 : Int32 → Int32 → Int32 → Int32 → Mem → Prop) (Q : Int32 → Mem → Prop) : Nat → Int32 → Int32 → Int32 → Int32 → Int32 → Mem → Prop
  | 0, _, _, _, _, _, _ => False
  | n + 1, v1, v2, v3, v4, v5, M =>
    (v5 ≤ 0 →
      P_Mo_part_122 K24 Q v1 v2 v3 v4 v5 M) ∧
    (¬ v5 ≤ 0 →
      vp_in (v5 - 1) 16 ∧
      (P_Mo_isAhead v4 (M.1 52 ((v5 - 1)).toNatClampNeg) M fun r49 M48 =>
        (r49 = 0 →
          P_Mo_part_122 K24 Q v1 v2 v3 v4 v5 M48) ∧
        (¬ r49 = 0 →
          vp_in v5 16 ∧
          P_Mo_part_77 K24 Q n v1 v2 v3 v4 (v5 + (-1)) (putI M48 52 v5.toNatClampNeg (M48.1 52 ((v5 - 1)).toNatClampNeg)))))
def P_Mo_part_24 (Q : Int32 → Mem → Prop) : Nat → Int32 → Int32 → Int32 → Int32 → Mem → Prop
  | 0, _, _, _, _, _ => False
  | n + 1, v1, v2, v3, v4, M =>
    ((M.1 35 11) ≤ v4 →
      (¬ v3 = 0 →
        ∃ m42, P_Mo_part_149 Q m42 v2 v3 0 M) ∧
      (v3 = 0 →
        Q (-1) M)) ∧
    (¬ (M.1 35 11) ≤ v4 →
      vp_in (8 * v4) 1600 ∧
      (¬ (M.1 41 ((8 * v4)).toNatClampNeg) = 1 →
        P_Mo_part_24 Q n v1 v2 v3 (v4 + 1) M) ∧
      ((M.1 41 ((8 * v4)).toNatClampNeg) = 1 →
        vp_in ((8 * v4) + 1) 1600 ∧
        ((M.1 41 (((8 * v4) + 1)).toNatClampNeg) = v1 →
          (¬ v3 = 16 →
            ∃ m53, P_Mo_part_77 (fun v1 v2 v3 v4 M => P_Mo_part_24 Q n v1 v2 v3 v4 M) Q m53 v1 v2 v3 v4 v3 M) ∧
          (v3 = 16 →
            Q (-1) M)) ∧
        (¬ (M.1 41 (((8 * v4) + 1)).toNatClampNeg) = v1 →
          P_Mo_part_24 Q n v1 v2 v3 (v4 + 1) M)))
def P_Mo_part (a1 : Int32) (a2 : Int32) (M : Mem) (Q : Int32 → Mem → Prop) : Prop :=
  (a2 < 1 →
    Q (-1) (putI M 35 0 0)) ∧
  (¬ a2 < 1 →
    (a2 ≤ 1000 →
      ∃ m58, P_Mo_part_24 Q m58 a1 a2 0 0 (putI M 35 0 0)) ∧
    (¬ a2 ≤ 1000 →
      Q (-1) (putI M 35 0 0)))
def P_Mo_cost (M : Mem) (Q : Int64 → Mem → Prop) : Prop :=
  Q (M.2 35 38) (putI M 35 0 0)
def P_Mo_parted (a1 : Int32) (a2 : Int32) (M : Mem) (Q : Int32 → Mem → Prop) : Prop :=
  (a1 < 0 →
    Q (-1) (putI M 35 0 0)) ∧
  (¬ a1 < 0 →
    ((M.1 35 37) ≤ a1 →
      Q (-1) (putI M 35 0 0)) ∧
    (¬ (M.1 35 37) ≤ a1 →
      (a2 < 0 →
        Q (-1) (putI M 35 0 0)) ∧
      (¬ a2 < 0 →
        (a2 ≤ 2 →
          (¬ a2 = 0 →
            (¬ a2 = 1 →
              vp_in a1 16 ∧
              Q (M.1 55 a1.toNatClampNeg) (putI M 35 0 0)) ∧
            (a2 = 1 →
              vp_in a1 16 ∧
              Q (M.1 56 a1.toNatClampNeg) (putI M 35 0 0))) ∧
          (a2 = 0 →
            vp_in a1 16 ∧
            Q (M.1 51 a1.toNatClampNeg) (putI M 35 0 0))) ∧
        (¬ a2 ≤ 2 →
          Q (-1) (putI M 35 0 0)))))
def P_Mo_latest_7 (Q : Int32 → Mem → Prop) : Nat → Int32 → Int32 → Mem → Prop
  | 0, _, _, _ => False
  | n + 1, v1, v2, M =>
    (v2 < 0 →
      Q (-1) M) ∧
    (¬ v2 < 0 →
      vp_in (8 * v2) 1600 ∧
      (¬ (M.1 41 ((8 * v2)).toNatClampNeg) = 1 →
        P_Mo_latest_7 Q n v1 (v2 + (-1)) M) ∧
      ((M.1 41 ((8 * v2)).toNatClampNeg) = 1 →
        vp_in ((8 * v2) + 1) 1600 ∧
        (¬ (M.1 41 (((8 * v2) + 1)).toNatClampNeg) = v1 →
          P_Mo_latest_7 Q n v1 (v2 + (-1)) M) ∧
        ((M.1 41 (((8 * v2) + 1)).toNatClampNeg) = v1 →
          Q (8 * v2) M)))
def P_Mo_latest (a1 : Int32) (M : Mem) (Q : Int32 → Mem → Prop) : Prop :=
  ∃ m6, P_Mo_latest_7 Q m6 a1 ((M.1 35 11) - 1) M
def P_Mo_gap (a1 : Int32) (a2 : Int32) (a3 : Int32) (M : Mem) (Q : Int64 → Mem → Prop) : Prop :=
  vp_in (a1 + 4) 1600 ∧
  vp_in (a1 + 6) 1600 ∧
  vp_in (a1 + 3) 1600 ∧
  vp_in (a2 + 4) 1600 ∧
  vp_in (a2 + 6) 1600 ∧
  vp_in (a2 + 3) 1600 ∧
  vp_in (a1 + 5) 1600 ∧
  vp_in (a1 + 7) 1600 ∧
  vp_in (a2 + 5) 1600 ∧
  vp_in (a2 + 7) 1600 ∧
  Q ((((((Int32.toInt64 (M.1 41 ((a1 + 4)).toNatClampNeg)) + ((Int32.toInt64 (M.1 41 ((a1 + 6)).toNatClampNeg)) * (Int32.toInt64 (a3 - (M.1 41 ((a1 + 3)).toNatClampNeg))))) - (Int32.toInt64 (M.1 41 ((a2 + 4)).toNatClampNeg))) - ((Int32.toInt64 (M.1 41 ((a2 + 6)).toNatClampNeg)) * (Int32.toInt64 (a3 - (M.1 41 ((a2 + 3)).toNatClampNeg))))) * ((((Int32.toInt64 (M.1 41 ((a1 + 4)).toNatClampNeg)) + ((Int32.toInt64 (M.1 41 ((a1 + 6)).toNatClampNeg)) * (Int32.toInt64 (a3 - (M.1 41 ((a1 + 3)).toNatClampNeg))))) - (Int32.toInt64 (M.1 41 ((a2 + 4)).toNatClampNeg))) - ((Int32.toInt64 (M.1 41 ((a2 + 6)).toNatClampNeg)) * (Int32.toInt64 (a3 - (M.1 41 ((a2 + 3)).toNatClampNeg)))))) + (((((Int32.toInt64 (M.1 41 ((a1 + 5)).toNatClampNeg)) + ((Int32.toInt64 (M.1 41 ((a1 + 7)).toNatClampNeg)) * (Int32.toInt64 (a3 - (M.1 41 ((a1 + 3)).toNatClampNeg))))) - (Int32.toInt64 (M.1 41 ((a2 + 5)).toNatClampNeg))) - ((Int32.toInt64 (M.1 41 ((a2 + 7)).toNatClampNeg)) * (Int32.toInt64 (a3 - (M.1 41 ((a2 + 3)).toNatClampNeg))))) * ((((Int32.toInt64 (M.1 41 ((a1 + 5)).toNatClampNeg)) + ((Int32.toInt64 (M.1 41 ((a1 + 7)).toNatClampNeg)) * (Int32.toInt64 (a3 - (M.1 41 ((a1 + 3)).toNatClampNeg))))) - (Int32.toInt64 (M.1 41 ((a2 + 5)).toNatClampNeg))) - ((Int32.toInt64 (M.1 41 ((a2 + 7)).toNatClampNeg)) * (Int32.toInt64 (a3 - (M.1 41 ((a2 + 3)).toNatClampNeg))))))) M
def P_Mo_meet_67 (Q : Int64 → Mem → Prop) : Nat → Int32 → Int32 → Int64 → Int32 → Mem → Prop
  | 0, _, _, _, _, _ => False
  | n + 1, v3, v4, v5, v7, M =>
    (((M.1 35 7) + 3600) < v7 →
      Q v5 M) ∧
    (¬ ((M.1 35 7) + 3600) < v7 →
      (P_Mo_gap v3 v4 v7 M fun r8 M7 =>
        (r8 < v5 →
          P_Mo_meet_67 Q n v3 v4 r8 (v7 + 1) (putI M7 35 43 v7)) ∧
        (¬ r8 < v5 →
          P_Mo_meet_67 Q n v3 v4 v5 (v7 + 1) M7)))
def P_Mo_meet (a1 : Int32) (a2 : Int32) (M : Mem) (Q : Int64 → Mem → Prop) : Prop :=
  (P_Mo_latest a1 (putI M 35 0 0) fun r2 M1 =>
    (P_Mo_latest a2 M1 fun r4 M3 =>
      (a1 = a2 →
        Q (-1) M3) ∧
      (¬ a1 = a2 →
        (r2 = (-1) →
          Q (-1) M3) ∧
        (¬ r2 = (-1) →
          (¬ r4 = (-1) →
            (P_Mo_gap r2 r4 (M3.1 35 7) M3 fun r6 M5 =>
              ∃ m11, P_Mo_meet_67 Q m11 r2 r4 r6 ((M5.1 35 7) + 1) (putI M5 35 43 (M5.1 35 7)))) ∧
          (r4 = (-1) →
            Q (-1) M3)))))
def P_Mo_when (M : Mem) (Q : Int32 → Mem → Prop) : Prop :=
  Q (M.1 35 43) (putI M 35 0 0)
def P_Mo_count (a1 : Int32) (M : Mem) (Q : Int32 → Mem → Prop) : Prop :=
  (a1 = 0 →
    Q (M.1 35 7) (putI M 35 0 0)) ∧
  (a1 = 1 →
    Q (M.1 35 12) (putI M 35 0 0)) ∧
  (a1 = 2 →
    Q (M.1 35 11) (putI M 35 0 0)) ∧
  (a1 = 3 →
    Q (M.1 35 13) (putI M 35 0 0)) ∧
  (a1 = 4 →
    Q (M.1 35 8) (putI M 35 0 0)) ∧
  (a1 = 5 →
    Q (M.1 35 2) (putI M 35 0 0)) ∧
  (a1 = 6 →
    Q (M.1 35 23) (putI M 35 0 0)) ∧
  (a1 = 7 →
    vp_in 0 2 ∧
    Q (M.1 39 0) (putI M 35 0 0)) ∧
  (a1 = 8 →
    vp_in 1 2 ∧
    Q (M.1 39 1) (putI M 35 0 0)) ∧
  (¬ a1 = 0 → ¬ a1 = 1 → ¬ a1 = 2 → ¬ a1 = 3 → ¬ a1 = 4 → ¬ a1 = 5 → ¬ a1 = 6 → ¬ a1 = 7 → ¬ a1 = 8 →
    Q (-1) (putI M 35 0 0))
def P_ClashBook_laterOf_4 (Q : Int32 → Mem → Prop) : Nat → Int32 → Int32 → Int32 → Mem → Prop
  | 0, _, _, _, _ => False
  | n + 1, v1, v2, v3, M =>
    (200 ≤ v3 →
      Q (-1) M) ∧
    (¬ 200 ≤ v3 →
      vp_in v3 200 ∧
      ((v2 + (M.1 14 v3.toNatClampNeg)) ≤ v1 →
        P_ClashBook_laterOf_4 Q n v1 (v2 + (M.1 14 v3.toNatClampNeg)) (v3 + 1) M) ∧
      (¬ (v2 + (M.1 14 v3.toNatClampNeg)) ≤ v1 →
        Q v3 M))
def P_ClashBook_laterOf (a1 : Int32) (M : Mem) (Q : Int32 → Mem → Prop) : Prop :=
  ∃ m4, P_ClashBook_laterOf_4 Q m4 a1 0 0 M
def P_ClashBook_earlierOf_41 (Q : Int32 → Mem → Prop) : Nat → Int32 → Int32 → Int32 → Mem → Prop
  | 0, _, _, _, _ => False
  | n + 1, v3, v4, v5, M =>
    (v3 ≤ v5 →
      Q (-1) M) ∧
    (¬ v3 ≤ v5 →
      (P_ClashBook_doClash v3 v5 M fun r2 M1 =>
        (r2 = 0 →
          P_ClashBook_earlierOf_41 Q n v3 v4 (v5 + 1) M1) ∧
        (¬ r2 = 0 →
          (¬ v4 = 0 →
            P_ClashBook_earlierOf_41 Q n v3 (v4 + (-1)) (v5 + 1) M1) ∧
          (v4 = 0 →
            Q v5 M1))))
def P_ClashBook_earlierOf_6 (Q : Int32 → Mem → Prop) : Nat → Int32 → Int32 → Int32 → Mem → Prop
  | 0, _, _, _, _ => False
  | n + 1, v3, v4, v5, M =>
    (v3 ≤ v5 →
      ∃ m6, P_ClashBook_earlierOf_41 Q m6 v3 v4 0 M) ∧
    (¬ v3 ≤ v5 →
      (200 ≤ v5 →
        ∃ m7, P_ClashBook_earlierOf_41 Q m7 v3 v4 0 M) ∧
      (¬ 200 ≤ v5 →
        vp_in v5 200 ∧
        P_ClashBook_earlierOf_6 Q n v3 (v4 - (M.1 14 v5.toNatClampNeg)) (v5 + 1) M))
def P_ClashBook_earlierOf (a2 : Int32) (a3 : Int32) (M : Mem) (Q : Int32 → Mem → Prop) : Prop :=
  ∃ m11, P_ClashBook_earlierOf_6 Q m11 a3 a2 0 M
def P_Sv_clash (a1 : Int32) (a2 : Int32) (M : Mem) (Q : Int32 → Mem → Prop) (QX : Mem → Prop) : Prop :=
  (a1 < 0 →
    QX M) ∧
  (¬ a1 < 0 →
    (P_ClashBook_total  M fun r2 M1 =>
      (r2 ≤ a1 →
        QX M1) ∧
      (¬ r2 ≤ a1 →
        (a2 < 0 →
          QX M1) ∧
        (¬ a2 < 0 →
          (a2 ≤ 1 →
            (P_ClashBook_laterOf a1 M1 fun r4 M3 =>
              (¬ a2 = 0 →
                (P_ClashBook_earlierOf a1 r4 M3 fun r6 M5 =>
                  Q r6 M5)) ∧
              (a2 = 0 →
                Q r4 M3))) ∧
          (¬ a2 ≤ 1 →
            QX M1)))))
def P_TextBook_wholeWith (a1 : Int32) (M : Mem) (Q : Int32 → Mem → Prop) : Prop :=
  (a1 < 0 →
    Q (-1) M) ∧
  (¬ a1 < 0 →
    ((M.1 15 4) ≤ a1 →
      Q (-1) M) ∧
    (¬ (M.1 15 4) ≤ a1 →
      (100 ≤ a1 →
        Q (-1) M) ∧
      (¬ 100 ≤ a1 →
        vp_in a1 100 ∧
        Q (M.1 18 a1.toNatClampNeg) M)))
def P_TextBook_lettersIn (a2 : Int32) (M : Mem) (Q : Int32 → Mem → Prop) : Prop :=
  (P_TextBook_wholeWith a2 M fun r2 M1 =>
    (P_Log_cell r2 6 M1 fun r4 M3 =>
      Q (r4 * 4) M3))
def P_TextBook_letterOf (a2 : Int32) (a3 : Int32) (M : Mem) (Q : Int32 → Mem → Prop) : Prop :=
  (a3 < 0 →
    Q (-1) M) ∧
  (¬ a3 < 0 →
    (((a2 * 5) + (a3 / 4)) < 0 →
      Q (-1) M) ∧
    (¬ ((a2 * 5) + (a3 / 4)) < 0 →
      (((a2 * 5) + (a3 / 4)) < 500 →
        vp_in ((a2 * 5) + (a3 / 4)) 500 ∧
        (P_Log_cell (M.1 17 (((a2 * 5) + (a3 / 4))).toNatClampNeg) 7 M fun r3 M2 =>
          Q ((r3 >>> (((3 - (a3 - a3 / 4 * 4)) * 5) &&& 31)) &&& 31) M2)) ∧
      (¬ ((a2 * 5) + (a3 / 4)) < 500 →
        Q (-1) M)))
def P_Sv_letter (a1 : Int32) (a2 : Int32) (M : Mem) (Q : Int32 → Mem → Prop) (QX : Mem → Prop) : Prop :=
  (a1 < 0 →
    QX M) ∧
  (¬ a1 < 0 →
    (P_TextBook_joined  M fun r2 M1 =>
      (r2 ≤ a1 →
        QX M1) ∧
      (¬ r2 ≤ a1 →
        (a2 < 0 →
          QX M1) ∧
        (¬ a2 < 0 →
          (P_TextBook_lettersIn a1 M1 fun r4 M3 =>
            (a2 < r4 →
              (P_TextBook_letterOf a1 a2 M3 fun r6 M5 =>
                Q r6 M5)) ∧
            (¬ a2 < r4 →
              QX M3))))))
def P_Sv_message (a1 : Int32) (a2 : Int32) (M : Mem) (Q : Int32 → Mem → Prop) (QX : Mem → Prop) : Prop :=
  (P_Log_has a1 M fun r2 M1 =>
    (r2 = 0 →
      QX M1) ∧
    (¬ r2 = 0 →
      (a2 < 0 →
        QX M1) ∧
      (¬ a2 < 0 →
        (a2 < 8 →
          (P_Log_cell a1 a2 M1 fun r4 M3 =>
            Q r4 M3)) ∧
        (¬ a2 < 8 →
          QX M1))))
def P_Sender_byteAt (a1 : Int32) (M : Mem) (Q : Int32 → Mem → Prop) : Prop :=
  (a1 < 0 →
    Q 0 M) ∧
  (¬ a1 < 0 →
    (P_Sender_bytes  M fun r2 M1 =>
      (r2 ≤ a1 →
        Q 0 M1) ∧
      (¬ r2 ≤ a1 →
        (16 ≤ a1 →
          Q 0 M1) ∧
        (¬ 16 ≤ a1 →
          vp_in a1 16 ∧
          Q ((M1.1 10 a1.toNatClampNeg) &&& 255) M1))))
def P_Sv_octet (a1 : Int32) (M : Mem) (Q : Int32 → Mem → Prop) (QX : Mem → Prop) : Prop :=
  (a1 < 0 →
    QX M) ∧
  (¬ a1 < 0 →
    (P_Sender_bytes  M fun r2 M1 =>
      (a1 < r2 →
        (P_Sender_byteAt a1 M1 fun r4 M3 =>
          Q r4 M3)) ∧
      (¬ a1 < r2 →
        QX M1)))
def P_Sv_text (a1 : Int32) (a2 : Int32) (M : Mem) (Q : Int32 → Mem → Prop) (QX : Mem → Prop) : Prop :=
  (a1 < 0 →
    QX M) ∧
  (¬ a1 < 0 →
    (P_TextBook_joined  M fun r2 M1 =>
      (r2 ≤ a1 →
        QX M1) ∧
      (¬ r2 ≤ a1 →
        (a2 < 0 →
          QX M1) ∧
        (¬ a2 < 0 →
          (a2 ≤ 3 →
            (P_TextBook_wholeWith a1 M1 fun r4 M3 =>
              (a2 = 0 →
                (P_Log_cell r4 1 M3 fun r6 M5 =>
                  Q r6 M5)) ∧
              (a2 = 1 →
                (P_Log_cell r4 4 M3 fun r9 M8 =>
                  Q r9 M8)) ∧
              (a2 = 2 →
                (P_TextBook_lettersIn a1 M3 fun r12 M11 =>
                  Q r12 M11)) ∧
              (¬ a2 = 0 → ¬ a2 = 1 → ¬ a2 = 2 →
                Q r4 M3))) ∧
          (¬ a2 ≤ 3 →
            QX M1)))))
def P_Law_octet (a2 : Int32) (M : Mem) (Q : Int32 → Mem → Prop) : Prop :=
  (P_Sv_octet a2 M (fun r2 M1 =>
    vp_in 0 1 ∧
    Q 0 (putL M1 62 0 (Int32.toInt64 r2))) fun M3 =>
    Q 1 M3)
def P_Law_message (a2 : Int32) (a3 : Int32) (M : Mem) (Q : Int32 → Mem → Prop) : Prop :=
  (P_Sv_message a2 a3 M (fun r2 M1 =>
    vp_in 0 1 ∧
    Q 0 (putL M1 62 0 (Int32.toInt64 r2))) fun M3 =>
    Q 1 M3)
def P_Law_clash (a2 : Int32) (a3 : Int32) (M : Mem) (Q : Int32 → Mem → Prop) : Prop :=
  (P_Sv_clash a2 a3 M (fun r2 M1 =>
    vp_in 0 1 ∧
    Q 0 (putL M1 62 0 (Int32.toInt64 r2))) fun M3 =>
    Q 1 M3)
def P_Law_text (a2 : Int32) (a3 : Int32) (M : Mem) (Q : Int32 → Mem → Prop) : Prop :=
  (P_Sv_text a2 a3 M (fun r2 M1 =>
    vp_in 0 1 ∧
    Q 0 (putL M1 62 0 (Int32.toInt64 r2))) fun M3 =>
    Q 1 M3)
def P_Law_letter (a2 : Int32) (a3 : Int32) (M : Mem) (Q : Int32 → Mem → Prop) : Prop :=
  (P_Sv_letter a2 a3 M (fun r2 M1 =>
    vp_in 0 1 ∧
    Q 0 (putL M1 62 0 (Int32.toInt64 r2))) fun M3 =>
    Q 1 M3)
