/-! THE CLAIM OUT OF ONE WALK OF THE LAW'S BODY. Your part is whole_start (and what it stands on); all else here is the same for every law, but numbers. -/
def R_law : String := "ShipVoicesLaw"
def lw_P (b : Addr) (xs : List Int32) (args : Array Value) (s : State) : Prop := args = #[.ref b] ∧ s.IntsAt b xs ∧ xs.length ≤ 3584 ∧ (Jvm.Cond.and given_1 narrow_1).before args s = true
def lw_Q (_ : Array Value) (s : State) (o : Outcome) (t : State) : Prop := o = .returned (some (.int 1)) ∧ Framed s o t [] 1092 17061
def lw_Z (below : List Frame) (a : Array Value) (s : State) : State → Prop := fun t => ∃ o, t.status = .running ∧ Ended t below o ∧ lw_Q a s o t
/-- the law's own end, with 1 on the stack, nothing written that was there before, its room as the claim has it -/
theorem lw_ret {p : Program} {l : Launch} {e : Env} {s : State} {m : MethodId} {below : List Frame} {meth : Method} {c : Code} {b : Nat} (hx : p.tables.exec = Jvm.exec) (hb : c.code = code) (hr : meth.sig.returnType = ret) (hlocks : meth.locks = false) {pc : Nat} {H : Heap} {ls : Array Slot} (hdg : decode code pc = .ok (.ireturn, 1)) : W p l e room_1 s m #[Value.ref b] below meth c H [] 1092 17061 (lw_Z below #[Value.ref b] s) (F0 m pc ls [.int 1]) := by
  intro T hT X
  obtain ⟨fs, hret, hrun, hended, hW, hframe⟩ := X.leave (v := some (.int 1)) (hlocks := hlocks) (fun h => by rw [hr] at h; cases h)
  have hmeth' : T.vm.method? m = some meth := X.method'
  refine ⟨T.setFrames fs, ?_, .returned (some (.int 1)), hrun, hended, rfl, ⟨_, rfl⟩, hW, hframe⟩
  jvm_step X.here [X.here.top, hx, hb, hdg, hmeth', hr, ret, narrow_b1]
  (try refine ⟨rfl, ?_⟩); (try refine ⟨rfl, ?_⟩)
  first | (intro acts; rw [hret _ acts rfl rfl rfl]) | rw [hret _ _ rfl rfl rfl]
  exact Steps.refl _
/-- what holds at the law's entry: the machine, the code, the tables' words (any of lw_tbl by 'hts w (by decide +kernel)'), the script of L ints xs at the cell b, what the Statement gives of the start (any of its parts by flat_of_before) -/
def lw_At (p : Program) (s : State) (m : MethodId) (meth : Method) (c : Code) (b L : Nat) (xs : Nat → Int32) : Prop :=
  p.tables.exec = Jvm.exec ∧ c.code = code ∧ meth.sig.returnType = ret ∧ c.maxLocals = 7 ∧ s.vm.findClass R_law = some m.cls ∧ (∀ w ∈ lw_tbl, w.before #[Value.ref b] s = true) ∧ va_X b L xs s s.heap ∧ b < s.heap.size ∧ meth.locks = false ∧ (Jvm.Cond.and given_1 narrow_1).before #[Value.ref b] s = true

/-! the law's own walk -/
abbrev rmL_law : Room := { frames := 10, cells := 1092, slots := 17061, locals := 380 }
abbrev mL_law : MD := (RL, cL_law, 7, some .boolean, rmL_law)
def ZW (x : GX) (E : EX) (b : Nat) : Prop := match x with
  | (_, _, _, _, s, _, args, below, _, _, Z) => args = #[Value.ref b] ∧ Z = lw_Z below #[Value.ref b] s ∧ eB E = s.heap.size
def SX (x : GX) (E : EX) (b L : Nat) (xs : Nat → Int32) : Prop := match x with
  | (_, _, _, _, s, _, _, _, _, _, _) => va_X b L xs s s.heap ∧ b < s.heap.size ∧ ¬ AE E b
section LawRows
variable {x : GX} {E : EX} {md : MD} {nc ns pc q b L : Nat} {xs : Nat → Int32} {lv : List (Nat × Value)} {st : List Value} {M : Mem}
theorem g_slen (hX : SX x E b L xs) (d : decode md.2.1 pc = .ok (.arraylength, 1)) (hq : pc + 1 = q) (k : G x E md nc ns q lv (.int (Int32.ofNat L) :: st) M) : G x E md nc ns pc lv (.ref b :: st) M := by
  obtain ⟨p, l, e, R, s, m, args, below, meth, c, Z⟩ := x; intro hK H locs ls hP hS hl; subst hq
  exact va_slen hK.1 hK.2.1 hX.1 hX.2.1 hX.2.2 hS d (k hK H locs ls hP hS hl)
theorem g_sld {i : Int32} (hX : SX x E b L xs) (hin : vp_in i L) (d : decode md.2.1 pc = .ok (.iaload, 1)) (hq : pc + 1 = q) (k : G x E md nc ns q lv (.int (xs i.toNatClampNeg) :: st) M) : G x E md nc ns pc lv (.int i :: .ref b :: st) M := by
  obtain ⟨p, l, e, R, s, m, args, below, meth, c, Z⟩ := x; intro hK H locs ls hP hS hl; subst hq
  exact va_sld hK.1 hK.2.1 hX.1 hX.2.1 hX.2.2 hS hin d (k hK H locs ls hP hS hl)
theorem g_lawret {v : Int32} (hz : ZW x E b) (d : decode cL_law pc = .ok (.ireturn, 1)) (hnc : nc ≤ 1092) (hns : ns ≤ 17061) (h : v = 1) : G x E mL_law nc ns pc lv [.int v] M := by
  obtain ⟨p, l, e, R, s, m, args, below, meth, c, Z⟩ := x; intro hK H locs ls hP hS hl
  obtain ⟨h1, h2, h3⟩ := hz
  subst h1; subst h2; subst h
  have hR : R = room_1 := hK.2.2.2.2.2.2.2.2.2.2.1
  subst hR
  refine va_forget (fun q hq => by have h9 := hS.2.2 q hq; unfold AE at h9; rw [h3] at h9; exact h9) ?_
  refine W.widen (k := 1092) (n := 17061) hnc hns ?_
  exact lw_ret hK.1 hK.2.1 hK.2.2.2.2.2.2.2.2.1 hK.2.2.2.2.2.2.2.2.2.1 d
end LawRows
def P_Law_law_23 (xs : Nat → Int32) (L : Nat) : Nat → Int32 → Mem → Prop
  | 0, _, _ => False
  | n + 1, v4, M =>
    (((Int32.ofNat L) - 7) < v4 →
      1 = (1 : Int32)) ∧
    (¬ ((Int32.ofNat L) - 7) < v4 →
      vp_in v4 L ∧
      (((xs v4.toNatClampNeg) &&& 31) = 0 →
        vp_in (v4 + 1) L ∧
        vp_in (v4 + 2) L ∧
        vp_in (v4 + 3) L ∧
        vp_in (v4 + 4) L ∧
        vp_in (v4 + 5) L ∧
        (P_Sv_feed (xs ((v4 + 1)).toNatClampNeg) (xs ((v4 + 2)).toNatClampNeg) (xs ((v4 + 3)).toNatClampNeg) (xs ((v4 + 4)).toNatClampNeg) (xs ((v4 + 5)).toNatClampNeg) M fun r8 M7 =>
          (P_Mo_feed (xs ((v4 + 1)).toNatClampNeg) (xs ((v4 + 2)).toNatClampNeg) (xs ((v4 + 3)).toNatClampNeg) (xs ((v4 + 4)).toNatClampNeg) (xs ((v4 + 5)).toNatClampNeg) M7 fun r10 M9 =>
            (r8 = r10 →
              P_Law_law_23 xs L n (v4 + 7) M9) ∧
            (¬ r8 = r10 →
              0 = (1 : Int32))))) ∧
      (((xs v4.toNatClampNeg) &&& 31) = 1 →
        vp_in (v4 + 1) L ∧
        (P_Sv_end (xs ((v4 + 1)).toNatClampNeg) M fun r15 M14 =>
          (P_Mo_end (xs ((v4 + 1)).toNatClampNeg) M14 fun r17 M16 =>
            (r15 = r17 →
              P_Law_law_23 xs L n (v4 + 7) M16) ∧
            (¬ r15 = r17 →
              0 = (1 : Int32))))) ∧
      (((xs v4.toNatClampNeg) &&& 31) = 2 →
        vp_in (v4 + 1) L ∧
        (P_Sv_hear (xs ((v4 + 1)).toNatClampNeg) M fun r22 M21 =>
          (P_Mo_hear (xs ((v4 + 1)).toNatClampNeg) M21 fun r24 M23 =>
            (r22 = r24 →
              P_Law_law_23 xs L n (v4 + 7) M23) ∧
            (¬ r22 = r24 →
              0 = (1 : Int32))))) ∧
      (((xs v4.toNatClampNeg) &&& 31) = 3 →
        vp_in (v4 + 1) L ∧
        (P_Sv_wait (xs ((v4 + 1)).toNatClampNeg) M fun r29 M28 =>
          (P_Mo_wait (xs ((v4 + 1)).toNatClampNeg) M28 fun r31 M30 =>
            (r29 = r31 →
              P_Law_law_23 xs L n (v4 + 7) M30) ∧
            (¬ r29 = r31 →
              0 = (1 : Int32))))) ∧
      (((xs v4.toNatClampNeg) &&& 31) = 4 →
        vp_in (v4 + 1) L ∧
        vp_in (v4 + 2) L ∧
        vp_in (v4 + 3) L ∧
        vp_in (v4 + 4) L ∧
        vp_in (v4 + 5) L ∧
        vp_in (v4 + 6) L ∧
        (P_Sv_build (xs ((v4 + 1)).toNatClampNeg) (xs ((v4 + 2)).toNatClampNeg) (xs ((v4 + 3)).toNatClampNeg) (xs ((v4 + 4)).toNatClampNeg) (xs ((v4 + 5)).toNatClampNeg) (xs ((v4 + 6)).toNatClampNeg) M fun r41 M40 =>
          (P_Mo_build (xs ((v4 + 1)).toNatClampNeg) (xs ((v4 + 2)).toNatClampNeg) (xs ((v4 + 3)).toNatClampNeg) (xs ((v4 + 4)).toNatClampNeg) (xs ((v4 + 5)).toNatClampNeg) (xs ((v4 + 6)).toNatClampNeg) M40 fun r43 M42 =>
            (r41 = r43 →
              P_Law_law_23 xs L n (v4 + 7) M42) ∧
            (¬ r41 = r43 →
              0 = (1 : Int32))))) ∧
      (((xs v4.toNatClampNeg) &&& 31) = 5 →
        vp_in (v4 + 1) L ∧
        (P_Law_octet (xs ((v4 + 1)).toNatClampNeg) M fun r48 M47 =>
          (P_Mo_octet (xs ((v4 + 1)).toNatClampNeg) M47 fun r50 M49 =>
            (P_Mo_thrown  M49 fun r52 M51 =>
              (r52 = r48 →
                (¬ r48 = 0 →
                  P_Law_law_23 xs L n (v4 + 7) M51) ∧
                (r48 = 0 →
                  vp_in 0 1 ∧
                  ((M51.2 62 0) = (Int32.toInt64 r50) →
                    P_Law_law_23 xs L n (v4 + 7) M51) ∧
                  (¬ (M51.2 62 0) = (Int32.toInt64 r50) →
                    0 = (1 : Int32)))) ∧
              (¬ r52 = r48 →
                0 = (1 : Int32)))))) ∧
      (((xs v4.toNatClampNeg) &&& 31) = 6 →
        vp_in (v4 + 1) L ∧
        vp_in (v4 + 2) L ∧
        (P_Law_message (xs ((v4 + 1)).toNatClampNeg) (xs ((v4 + 2)).toNatClampNeg) M fun r61 M60 =>
          (P_Mo_message (xs ((v4 + 1)).toNatClampNeg) (xs ((v4 + 2)).toNatClampNeg) M60 fun r63 M62 =>
            (P_Mo_thrown  M62 fun r65 M64 =>
              (r65 = r61 →
                (¬ r61 = 0 →
                  P_Law_law_23 xs L n (v4 + 7) M64) ∧
                (r61 = 0 →
                  vp_in 0 1 ∧
                  ((M64.2 62 0) = (Int32.toInt64 r63) →
                    P_Law_law_23 xs L n (v4 + 7) M64) ∧
                  (¬ (M64.2 62 0) = (Int32.toInt64 r63) →
                    0 = (1 : Int32)))) ∧
              (¬ r65 = r61 →
                0 = (1 : Int32)))))) ∧
      (((xs v4.toNatClampNeg) &&& 31) = 7 →
        vp_in (v4 + 1) L ∧
        vp_in (v4 + 2) L ∧
        (P_Sv_part (xs ((v4 + 1)).toNatClampNeg) (xs ((v4 + 2)).toNatClampNeg) M fun r74 M73 =>
          (P_Mo_part (xs ((v4 + 1)).toNatClampNeg) (xs ((v4 + 2)).toNatClampNeg) M73 fun r76 M75 =>
            (r74 = r76 →
              P_Law_law_23 xs L n (v4 + 7) M75) ∧
            (¬ r74 = r76 →
              0 = (1 : Int32))))) ∧
      (((xs v4.toNatClampNeg) &&& 31) = 8 →
        (P_Sv_cost  M fun r80 M79 =>
          (P_Mo_cost  M79 fun r82 M81 =>
            (r80 = r82 →
              P_Law_law_23 xs L n (v4 + 7) M81) ∧
            (¬ r80 = r82 →
              0 = (1 : Int32))))) ∧
      (((xs v4.toNatClampNeg) &&& 31) = 9 →
        vp_in (v4 + 1) L ∧
        vp_in (v4 + 2) L ∧
        (P_Sv_parted (xs ((v4 + 1)).toNatClampNeg) (xs ((v4 + 2)).toNatClampNeg) M fun r88 M87 =>
          (P_Mo_parted (xs ((v4 + 1)).toNatClampNeg) (xs ((v4 + 2)).toNatClampNeg) M87 fun r90 M89 =>
            (r88 = r90 →
              P_Law_law_23 xs L n (v4 + 7) M89) ∧
            (¬ r88 = r90 →
              0 = (1 : Int32))))) ∧
      (((xs v4.toNatClampNeg) &&& 31) = 10 →
        (P_Sv_clashes  M fun r94 M93 =>
          (P_Mo_clashes  M93 fun r96 M95 =>
            (r94 = r96 →
              P_Law_law_23 xs L n (v4 + 7) M95) ∧
            (¬ r94 = r96 →
              0 = (1 : Int32))))) ∧
      (((xs v4.toNatClampNeg) &&& 31) = 11 →
        vp_in (v4 + 1) L ∧
        vp_in (v4 + 2) L ∧
        (P_Law_clash (xs ((v4 + 1)).toNatClampNeg) (xs ((v4 + 2)).toNatClampNeg) M fun r102 M101 =>
          (P_Mo_clash (xs ((v4 + 1)).toNatClampNeg) (xs ((v4 + 2)).toNatClampNeg) M101 fun r104 M103 =>
            (P_Mo_thrown  M103 fun r106 M105 =>
              (r106 = r102 →
                (¬ r102 = 0 →
                  P_Law_law_23 xs L n (v4 + 7) M105) ∧
                (r102 = 0 →
                  vp_in 0 1 ∧
                  ((M105.2 62 0) = (Int32.toInt64 r104) →
                    P_Law_law_23 xs L n (v4 + 7) M105) ∧
                  (¬ (M105.2 62 0) = (Int32.toInt64 r104) →
                    0 = (1 : Int32)))) ∧
              (¬ r106 = r102 →
                0 = (1 : Int32)))))) ∧
      (((xs v4.toNatClampNeg) &&& 31) = 12 →
        (P_Sv_texts  M fun r113 M112 =>
          (P_Mo_texts  M112 fun r115 M114 =>
            (r113 = r115 →
              P_Law_law_23 xs L n (v4 + 7) M114) ∧
            (¬ r113 = r115 →
              0 = (1 : Int32))))) ∧
      (((xs v4.toNatClampNeg) &&& 31) = 13 →
        vp_in (v4 + 1) L ∧
        vp_in (v4 + 2) L ∧
        (P_Law_text (xs ((v4 + 1)).toNatClampNeg) (xs ((v4 + 2)).toNatClampNeg) M fun r121 M120 =>
          (P_Mo_text (xs ((v4 + 1)).toNatClampNeg) (xs ((v4 + 2)).toNatClampNeg) M120 fun r123 M122 =>
            (P_Mo_thrown  M122 fun r125 M124 =>
              (r125 = r121 →
                (¬ r121 = 0 →
                  P_Law_law_23 xs L n (v4 + 7) M124) ∧
                (r121 = 0 →
                  vp_in 0 1 ∧
                  ((M124.2 62 0) = (Int32.toInt64 r123) →
                    P_Law_law_23 xs L n (v4 + 7) M124) ∧
                  (¬ (M124.2 62 0) = (Int32.toInt64 r123) →
                    0 = (1 : Int32)))) ∧
              (¬ r125 = r121 →
                0 = (1 : Int32)))))) ∧
      (((xs v4.toNatClampNeg) &&& 31) = 14 →
        vp_in (v4 + 1) L ∧
        vp_in (v4 + 2) L ∧
        (P_Law_letter (xs ((v4 + 1)).toNatClampNeg) (xs ((v4 + 2)).toNatClampNeg) M fun r134 M133 =>
          (P_Mo_letter (xs ((v4 + 1)).toNatClampNeg) (xs ((v4 + 2)).toNatClampNeg) M133 fun r136 M135 =>
            (P_Mo_thrown  M135 fun r138 M137 =>
              (r138 = r134 →
                (¬ r134 = 0 →
                  P_Law_law_23 xs L n (v4 + 7) M137) ∧
                (r134 = 0 →
                  vp_in 0 1 ∧
                  ((M137.2 62 0) = (Int32.toInt64 r136) →
                    P_Law_law_23 xs L n (v4 + 7) M137) ∧
                  (¬ (M137.2 62 0) = (Int32.toInt64 r136) →
                    0 = (1 : Int32)))) ∧
              (¬ r138 = r134 →
                0 = (1 : Int32)))))) ∧
      (((xs v4.toNatClampNeg) &&& 31) = 15 →
        vp_in (v4 + 1) L ∧
        vp_in (v4 + 2) L ∧
        (P_Sv_meet (xs ((v4 + 1)).toNatClampNeg) (xs ((v4 + 2)).toNatClampNeg) M fun r147 M146 =>
          (P_Mo_meet (xs ((v4 + 1)).toNatClampNeg) (xs ((v4 + 2)).toNatClampNeg) M146 fun r149 M148 =>
            (r147 = r149 →
              P_Law_law_23 xs L n (v4 + 7) M148) ∧
            (¬ r147 = r149 →
              0 = (1 : Int32))))) ∧
      (((xs v4.toNatClampNeg) &&& 31) = 16 →
        (P_Sv_when  M fun r153 M152 =>
          (P_Mo_when  M152 fun r155 M154 =>
            (r153 = r155 →
              P_Law_law_23 xs L n (v4 + 7) M154) ∧
            (¬ r153 = r155 →
              0 = (1 : Int32))))) ∧
      (((xs v4.toNatClampNeg) &&& 31) = 17 →
        vp_in (v4 + 1) L ∧
        (P_Sv_size (xs ((v4 + 1)).toNatClampNeg) M fun r160 M159 =>
          (P_Mo_size (xs ((v4 + 1)).toNatClampNeg) M159 fun r162 M161 =>
            (r160 = r162 →
              P_Law_law_23 xs L n (v4 + 7) M161) ∧
            (¬ r160 = r162 →
              0 = (1 : Int32))))) ∧
      (((xs v4.toNatClampNeg) &&& 31) = 18 →
        vp_in (v4 + 1) L ∧
        (P_Sv_count (xs ((v4 + 1)).toNatClampNeg) M fun r167 M166 =>
          (P_Mo_count (xs ((v4 + 1)).toNatClampNeg) M166 fun r169 M168 =>
            (r167 = r169 →
              P_Law_law_23 xs L n (v4 + 7) M168) ∧
            (¬ r167 = r169 →
              0 = (1 : Int32))))) ∧
      (¬ ((xs v4.toNatClampNeg) &&& 31) = 0 → ¬ ((xs v4.toNatClampNeg) &&& 31) = 1 → ¬ ((xs v4.toNatClampNeg) &&& 31) = 2 → ¬ ((xs v4.toNatClampNeg) &&& 31) = 3 → ¬ ((xs v4.toNatClampNeg) &&& 31) = 4 → ¬ ((xs v4.toNatClampNeg) &&& 31) = 5 → ¬ ((xs v4.toNatClampNeg) &&& 31) = 6 → ¬ ((xs v4.toNatClampNeg) &&& 31) = 7 → ¬ ((xs v4.toNatClampNeg) &&& 31) = 8 → ¬ ((xs v4.toNatClampNeg) &&& 31) = 9 → ¬ ((xs v4.toNatClampNeg) &&& 31) = 10 → ¬ ((xs v4.toNatClampNeg) &&& 31) = 11 → ¬ ((xs v4.toNatClampNeg) &&& 31) = 12 → ¬ ((xs v4.toNatClampNeg) &&& 31) = 13 → ¬ ((xs v4.toNatClampNeg) &&& 31) = 14 → ¬ ((xs v4.toNatClampNeg) &&& 31) = 15 → ¬ ((xs v4.toNatClampNeg) &&& 31) = 16 → ¬ ((xs v4.toNatClampNeg) &&& 31) = 17 → ¬ ((xs v4.toNatClampNeg) &&& 31) = 18 →
        P_Law_law_23 xs L n (v4 + 7) M))
set_option maxHeartbeats 16000000 in
set_option maxRecDepth 100000 in
theorem g_law {x : GX} {E : EX} {b L : Nat} {xs : Nat → Int32} (hE : EH E) (hz : ZW x E b) (hX : SX x E b L xs) : ∀ (n : Nat) (v4 : Int32) (nc ns : Nat) (M : Mem), nc + n ≤ 1092 → ns + 6 * n ≤ 17061 → P_Law_law_23 xs L n v4 M → G x E mL_law nc ns 23 [(0, .ref b), (1, .ref (eA E 0)), (2, .ref (eA E 35)), (3, .ref (eA E 62)), (4, .int v4)] [] M := by
  intro n
  induction n with
  | zero => intro _ _ _ _ _ _ h; exact h.elim
  | succ n ih =>
    intro v4 nc ns M hnc hns h
    unfold P_Law_law_23 at h
    refine g_iload (k0 := 4) (q := 25) dL_law_23 rfl rfl ?_
    refine g_aloadn (k0 := 0) (q := 26) dL_law_25 rfl rfl rfl ?_
    refine g_slen (q := 27) hX dL_law_26 rfl ?_
    refine g_bipush (q := 29) dL_law_27 kb_7 rfl ?_
    refine g_isub (q := 30) dL_law_29 rfl ?_
    refine g_ic_gt (tgt := 916) (q := 33) dL_law_30 rfl rfl (fun hc172 => ?_) (fun hc172 => ?_)
    · replace h := h.1 hc172
      refine g_iconst (q := 917) dL_law_916 ki_1 rfl ?_
      exact g_lawret hz dL_law_917 (by show nc ≤ 1092; omega) (by show ns ≤ 17061; omega) h
    · replace h := h.2 hc172
      refine g_aloadn (k0 := 0) (q := 34) dL_law_33 rfl rfl rfl ?_
      refine g_iload (k0 := 4) (q := 36) dL_law_34 rfl rfl ?_
      have hv1 := h.1
      replace h := h.2
      refine g_sld (q := 37) hX hv1 dL_law_36 rfl ?_
      refine g_bipush (q := 39) dL_law_37 kb_31 rfl ?_
      refine g_iand (q := 40) dL_law_39 rfl ?_
      by_cases hc12 : ((xs v4.toNatClampNeg) &&& 31) = 0
      · replace h := h.1 hc12
        refine g_tin (tgt := 132) 0 (by rw [hc12]; decide) dL_law_40 (by decide) (by decide) rfl rfl ?_
        refine g_aloadn (k0 := 1) (q := 133) dL_law_132 rfl rfl rfl ?_
        refine g_aloadn (k0 := 0) (q := 134) dL_law_133 rfl rfl rfl ?_
        refine g_iload (k0 := 4) (q := 136) dL_law_134 rfl rfl ?_
        refine g_iconst (q := 137) dL_law_136 ki_1 rfl ?_
        refine g_iadd (q := 138) dL_law_137 rfl ?_
        have hv2 := h.1
        replace h := h.2
        refine g_sld (q := 139) hX hv2 dL_law_138 rfl ?_
        refine g_aloadn (k0 := 0) (q := 140) dL_law_139 rfl rfl rfl ?_
        refine g_iload (k0 := 4) (q := 142) dL_law_140 rfl rfl ?_
        refine g_iconst (q := 143) dL_law_142 ki_2 rfl ?_
        refine g_iadd (q := 144) dL_law_143 rfl ?_
        have hv3 := h.1
        replace h := h.2
        refine g_sld (q := 145) hX hv3 dL_law_144 rfl ?_
        refine g_aloadn (k0 := 0) (q := 146) dL_law_145 rfl rfl rfl ?_
        refine g_iload (k0 := 4) (q := 148) dL_law_146 rfl rfl ?_
        refine g_iconst (q := 149) dL_law_148 ki_3 rfl ?_
        refine g_iadd (q := 150) dL_law_149 rfl ?_
        have hv4 := h.1
        replace h := h.2
        refine g_sld (q := 151) hX hv4 dL_law_150 rfl ?_
        refine g_aloadn (k0 := 0) (q := 152) dL_law_151 rfl rfl rfl ?_
        refine g_iload (k0 := 4) (q := 154) dL_law_152 rfl rfl ?_
        refine g_iconst (q := 155) dL_law_154 ki_4 rfl ?_
        refine g_iadd (q := 156) dL_law_155 rfl ?_
        have hv5 := h.1
        replace h := h.2
        refine g_sld (q := 157) hX hv5 dL_law_156 rfl ?_
        refine g_aloadn (k0 := 0) (q := 158) dL_law_157 rfl rfl rfl ?_
        refine g_iload (k0 := 4) (q := 160) dL_law_158 rfl rfl ?_
        refine g_iconst (q := 161) dL_law_160 ki_5 rfl ?_
        refine g_iadd (q := 162) dL_law_161 rfl ?_
        have hv6 := h.1
        replace h := h.2
        refine g_sld (q := 163) hX hv6 dL_law_162 rfl ?_
        refine g_calli (q := 166) [.int (xs ((v4 + 1)).toNatClampNeg), .int (xs ((v4 + 2)).toNatClampNeg), .int (xs ((v4 + 3)).toNatClampNeg), .int (xs ((v4 + 4)).toNatClampNeg), .int (xs ((v4 + 5)).toNatClampNeg)] [] cv_L_32 rc_0 (c_X10_feed hE h) rfl rfl ⟨rfl, rfl, Nat.le_of_ble_eq_true rfl, Nat.le_of_ble_eq_true rfl, (by show nc ≤ 1092; omega), (by show ns ≤ 17061; omega)⟩ (Nat.le_of_ble_eq_true rfl) dL_law_163 rfl (fun r8 M7 h => ?_)
        refine g_aloadn (k0 := 2) (q := 167) dL_law_166 rfl rfl rfl ?_
        refine g_aloadn (k0 := 0) (q := 168) dL_law_167 rfl rfl rfl ?_
        refine g_iload (k0 := 4) (q := 170) dL_law_168 rfl rfl ?_
        refine g_iconst (q := 171) dL_law_170 ki_1 rfl ?_
        refine g_iadd (q := 172) dL_law_171 rfl ?_
        refine g_sld (q := 173) hX hv2 dL_law_172 rfl ?_
        refine g_aloadn (k0 := 0) (q := 174) dL_law_173 rfl rfl rfl ?_
        refine g_iload (k0 := 4) (q := 176) dL_law_174 rfl rfl ?_
        refine g_iconst (q := 177) dL_law_176 ki_2 rfl ?_
        refine g_iadd (q := 178) dL_law_177 rfl ?_
        refine g_sld (q := 179) hX hv3 dL_law_178 rfl ?_
        refine g_aloadn (k0 := 0) (q := 180) dL_law_179 rfl rfl rfl ?_
        refine g_iload (k0 := 4) (q := 182) dL_law_180 rfl rfl ?_
        refine g_iconst (q := 183) dL_law_182 ki_3 rfl ?_
        refine g_iadd (q := 184) dL_law_183 rfl ?_
        refine g_sld (q := 185) hX hv4 dL_law_184 rfl ?_
        refine g_aloadn (k0 := 0) (q := 186) dL_law_185 rfl rfl rfl ?_
        refine g_iload (k0 := 4) (q := 188) dL_law_186 rfl rfl ?_
        refine g_iconst (q := 189) dL_law_188 ki_4 rfl ?_
        refine g_iadd (q := 190) dL_law_189 rfl ?_
        refine g_sld (q := 191) hX hv5 dL_law_190 rfl ?_
        refine g_aloadn (k0 := 0) (q := 192) dL_law_191 rfl rfl rfl ?_
        refine g_iload (k0 := 4) (q := 194) dL_law_192 rfl rfl ?_
        refine g_iconst (q := 195) dL_law_194 ki_5 rfl ?_
        refine g_iadd (q := 196) dL_law_195 rfl ?_
        refine g_sld (q := 197) hX hv6 dL_law_196 rfl ?_
        refine g_calli (q := 200) [.int (xs ((v4 + 1)).toNatClampNeg), .int (xs ((v4 + 2)).toNatClampNeg), .int (xs ((v4 + 3)).toNatClampNeg), .int (xs ((v4 + 4)).toNatClampNeg), .int (xs ((v4 + 5)).toNatClampNeg)] [.int r8] cv_L_36 rc_35 (c_X11_feed hE h) rfl rfl ⟨rfl, rfl, Nat.le_of_ble_eq_true rfl, Nat.le_of_ble_eq_true rfl, (by show nc ≤ 1092; omega), (by show ns ≤ 17061; omega)⟩ (Nat.le_of_ble_eq_true rfl) dL_law_197 rfl (fun r10 M9 h => ?_)
        refine g_ic_eq (tgt := 910) (q := 203) dL_law_200 rfl rfl (fun hc11 => ?_) (fun hc11 => ?_)
        · replace h := h.1 hc11
          refine g_iinc (lv' := [(0, .ref b), (1, .ref (eA E 0)), (2, .ref (eA E 35)), (3, .ref (eA E 62)), (4, .int (v4 + 7))]) (k0 := 4) (w := (v4 + 7)) (q := 913) [1, 2, 3, 4, 0] dL_law_910 rfl rfl (by decide) rfl rfl ?_
          refine g_goto (tgt := 23) dL_law_913 rfl ?_
          exact ih _ _ _ _ (by omega) (by omega) h
        · replace h := h.2 hc11
          refine g_iconst (q := 204) dL_law_203 ki_0 rfl ?_
          exact g_lawret hz dL_law_204 (by show nc ≤ 1092; omega) (by show ns ≤ 17061; omega) h
      replace h := h.2
      by_cases hc19 : ((xs v4.toNatClampNeg) &&& 31) = 1
      · replace h := h.1 hc19
        refine g_tin (tgt := 205) 1 (by rw [hc19]; decide) dL_law_40 (by decide) (by decide) rfl rfl ?_
        refine g_aloadn (k0 := 1) (q := 206) dL_law_205 rfl rfl rfl ?_
        refine g_aloadn (k0 := 0) (q := 207) dL_law_206 rfl rfl rfl ?_
        refine g_iload (k0 := 4) (q := 209) dL_law_207 rfl rfl ?_
        refine g_iconst (q := 210) dL_law_209 ki_1 rfl ?_
        refine g_iadd (q := 211) dL_law_210 rfl ?_
        have hv13 := h.1
        replace h := h.2
        refine g_sld (q := 212) hX hv13 dL_law_211 rfl ?_
        refine g_calli (q := 215) [.int (xs ((v4 + 1)).toNatClampNeg)] [] cv_L_37 rc_0 (c_X10_end hE h) rfl rfl ⟨rfl, rfl, Nat.le_of_ble_eq_true rfl, Nat.le_of_ble_eq_true rfl, (by show nc ≤ 1092; omega), (by show ns ≤ 17061; omega)⟩ (Nat.le_of_ble_eq_true rfl) dL_law_212 rfl (fun r15 M14 h => ?_)
        obtain ⟨hb_r15, h⟩ := h
        refine g_aloadn (k0 := 2) (q := 216) dL_law_215 rfl rfl rfl ?_
        refine g_aloadn (k0 := 0) (q := 217) dL_law_216 rfl rfl rfl ?_
        refine g_iload (k0 := 4) (q := 219) dL_law_217 rfl rfl ?_
        refine g_iconst (q := 220) dL_law_219 ki_1 rfl ?_
        refine g_iadd (q := 221) dL_law_220 rfl ?_
        refine g_sld (q := 222) hX hv13 dL_law_221 rfl ?_
        refine g_calli (q := 225) [.int (xs ((v4 + 1)).toNatClampNeg)] [.int r15] cv_L_41 rc_35 (c_X11_end hE h) rfl rfl ⟨rfl, rfl, Nat.le_of_ble_eq_true rfl, Nat.le_of_ble_eq_true rfl, (by show nc ≤ 1092; omega), (by show ns ≤ 17061; omega)⟩ (Nat.le_of_ble_eq_true rfl) dL_law_222 rfl (fun r17 M16 h => ?_)
        obtain ⟨hb_r17, h⟩ := h
        refine g_ic_eq (tgt := 910) (q := 228) dL_law_225 rfl rfl (fun hc18 => ?_) (fun hc18 => ?_)
        · replace h := h.1 hc18
          refine g_iinc (lv' := [(0, .ref b), (1, .ref (eA E 0)), (2, .ref (eA E 35)), (3, .ref (eA E 62)), (4, .int (v4 + 7))]) (k0 := 4) (w := (v4 + 7)) (q := 913) [1, 2, 3, 4, 0] dL_law_910 rfl rfl (by decide) rfl rfl ?_
          refine g_goto (tgt := 23) dL_law_913 rfl ?_
          exact ih _ _ _ _ (by omega) (by omega) h
        · replace h := h.2 hc18
          refine g_iconst (q := 229) dL_law_228 ki_0 rfl ?_
          exact g_lawret hz dL_law_229 (by show nc ≤ 1092; omega) (by show ns ≤ 17061; omega) h
      replace h := h.2
      by_cases hc26 : ((xs v4.toNatClampNeg) &&& 31) = 2
      · replace h := h.1 hc26
        refine g_tin (tgt := 230) 2 (by rw [hc26]; decide) dL_law_40 (by decide) (by decide) rfl rfl ?_
        refine g_aloadn (k0 := 1) (q := 231) dL_law_230 rfl rfl rfl ?_
        refine g_aloadn (k0 := 0) (q := 232) dL_law_231 rfl rfl rfl ?_
        refine g_iload (k0 := 4) (q := 234) dL_law_232 rfl rfl ?_
        refine g_iconst (q := 235) dL_law_234 ki_1 rfl ?_
        refine g_iadd (q := 236) dL_law_235 rfl ?_
        have hv20 := h.1
        replace h := h.2
        refine g_sld (q := 237) hX hv20 dL_law_236 rfl ?_
        refine g_calli (q := 240) [.int (xs ((v4 + 1)).toNatClampNeg)] [] cv_L_42 rc_0 (c_X10_hear hE h) rfl rfl ⟨rfl, rfl, Nat.le_of_ble_eq_true rfl, Nat.le_of_ble_eq_true rfl, (by show nc ≤ 1092; omega), (by show ns ≤ 17061; omega)⟩ (Nat.le_of_ble_eq_true rfl) dL_law_237 rfl (fun r22 M21 h => ?_)
        refine g_aloadn (k0 := 2) (q := 241) dL_law_240 rfl rfl rfl ?_
        refine g_aloadn (k0 := 0) (q := 242) dL_law_241 rfl rfl rfl ?_
        refine g_iload (k0 := 4) (q := 244) dL_law_242 rfl rfl ?_
        refine g_iconst (q := 245) dL_law_244 ki_1 rfl ?_
        refine g_iadd (q := 246) dL_law_245 rfl ?_
        refine g_sld (q := 247) hX hv20 dL_law_246 rfl ?_
        refine g_calli (q := 250) [.int (xs ((v4 + 1)).toNatClampNeg)] [.int r22] cv_L_45 rc_35 (c_X11_hear hE h) rfl rfl ⟨rfl, rfl, Nat.le_of_ble_eq_true rfl, Nat.le_of_ble_eq_true rfl, (by show nc ≤ 1092; omega), (by show ns ≤ 17061; omega)⟩ (Nat.le_of_ble_eq_true rfl) dL_law_247 rfl (fun r24 M23 h => ?_)
        refine g_ic_eq (tgt := 910) (q := 253) dL_law_250 rfl rfl (fun hc25 => ?_) (fun hc25 => ?_)
        · replace h := h.1 hc25
          refine g_iinc (lv' := [(0, .ref b), (1, .ref (eA E 0)), (2, .ref (eA E 35)), (3, .ref (eA E 62)), (4, .int (v4 + 7))]) (k0 := 4) (w := (v4 + 7)) (q := 913) [1, 2, 3, 4, 0] dL_law_910 rfl rfl (by decide) rfl rfl ?_
          refine g_goto (tgt := 23) dL_law_913 rfl ?_
          exact ih _ _ _ _ (by omega) (by omega) h
        · replace h := h.2 hc25
          refine g_iconst (q := 254) dL_law_253 ki_0 rfl ?_
          exact g_lawret hz dL_law_254 (by show nc ≤ 1092; omega) (by show ns ≤ 17061; omega) h
      replace h := h.2
      by_cases hc33 : ((xs v4.toNatClampNeg) &&& 31) = 3
      · replace h := h.1 hc33
        refine g_tin (tgt := 255) 3 (by rw [hc33]; decide) dL_law_40 (by decide) (by decide) rfl rfl ?_
        refine g_aloadn (k0 := 1) (q := 256) dL_law_255 rfl rfl rfl ?_
        refine g_aloadn (k0 := 0) (q := 257) dL_law_256 rfl rfl rfl ?_
        refine g_iload (k0 := 4) (q := 259) dL_law_257 rfl rfl ?_
        refine g_iconst (q := 260) dL_law_259 ki_1 rfl ?_
        refine g_iadd (q := 261) dL_law_260 rfl ?_
        have hv27 := h.1
        replace h := h.2
        refine g_sld (q := 262) hX hv27 dL_law_261 rfl ?_
        refine g_calli (q := 265) [.int (xs ((v4 + 1)).toNatClampNeg)] [] cv_L_46 rc_0 (c_X10_wait hE h) rfl rfl ⟨rfl, rfl, Nat.le_of_ble_eq_true rfl, Nat.le_of_ble_eq_true rfl, (by show nc ≤ 1092; omega), (by show ns ≤ 17061; omega)⟩ (Nat.le_of_ble_eq_true rfl) dL_law_262 rfl (fun r29 M28 h => ?_)
        obtain ⟨hb_r29, h⟩ := h
        refine g_aloadn (k0 := 2) (q := 266) dL_law_265 rfl rfl rfl ?_
        refine g_aloadn (k0 := 0) (q := 267) dL_law_266 rfl rfl rfl ?_
        refine g_iload (k0 := 4) (q := 269) dL_law_267 rfl rfl ?_
        refine g_iconst (q := 270) dL_law_269 ki_1 rfl ?_
        refine g_iadd (q := 271) dL_law_270 rfl ?_
        refine g_sld (q := 272) hX hv27 dL_law_271 rfl ?_
        refine g_calli (q := 275) [.int (xs ((v4 + 1)).toNatClampNeg)] [.int r29] cv_L_49 rc_35 (c_X11_wait hE h) rfl rfl ⟨rfl, rfl, Nat.le_of_ble_eq_true rfl, Nat.le_of_ble_eq_true rfl, (by show nc ≤ 1092; omega), (by show ns ≤ 17061; omega)⟩ (Nat.le_of_ble_eq_true rfl) dL_law_272 rfl (fun r31 M30 h => ?_)
        obtain ⟨hb_r31, h⟩ := h
        refine g_ic_eq (tgt := 910) (q := 278) dL_law_275 rfl rfl (fun hc32 => ?_) (fun hc32 => ?_)
        · replace h := h.1 hc32
          refine g_iinc (lv' := [(0, .ref b), (1, .ref (eA E 0)), (2, .ref (eA E 35)), (3, .ref (eA E 62)), (4, .int (v4 + 7))]) (k0 := 4) (w := (v4 + 7)) (q := 913) [1, 2, 3, 4, 0] dL_law_910 rfl rfl (by decide) rfl rfl ?_
          refine g_goto (tgt := 23) dL_law_913 rfl ?_
          exact ih _ _ _ _ (by omega) (by omega) h
        · replace h := h.2 hc32
          refine g_iconst (q := 279) dL_law_278 ki_0 rfl ?_
          exact g_lawret hz dL_law_279 (by show nc ≤ 1092; omega) (by show ns ≤ 17061; omega) h
      replace h := h.2
      by_cases hc45 : ((xs v4.toNatClampNeg) &&& 31) = 4
      · replace h := h.1 hc45
        refine g_tin (tgt := 280) 4 (by rw [hc45]; decide) dL_law_40 (by decide) (by decide) rfl rfl ?_
        refine g_aloadn (k0 := 1) (q := 281) dL_law_280 rfl rfl rfl ?_
        refine g_aloadn (k0 := 0) (q := 282) dL_law_281 rfl rfl rfl ?_
        refine g_iload (k0 := 4) (q := 284) dL_law_282 rfl rfl ?_
        refine g_iconst (q := 285) dL_law_284 ki_1 rfl ?_
        refine g_iadd (q := 286) dL_law_285 rfl ?_
        have hv34 := h.1
        replace h := h.2
        refine g_sld (q := 287) hX hv34 dL_law_286 rfl ?_
        refine g_aloadn (k0 := 0) (q := 288) dL_law_287 rfl rfl rfl ?_
        refine g_iload (k0 := 4) (q := 290) dL_law_288 rfl rfl ?_
        refine g_iconst (q := 291) dL_law_290 ki_2 rfl ?_
        refine g_iadd (q := 292) dL_law_291 rfl ?_
        have hv35 := h.1
        replace h := h.2
        refine g_sld (q := 293) hX hv35 dL_law_292 rfl ?_
        refine g_aloadn (k0 := 0) (q := 294) dL_law_293 rfl rfl rfl ?_
        refine g_iload (k0 := 4) (q := 296) dL_law_294 rfl rfl ?_
        refine g_iconst (q := 297) dL_law_296 ki_3 rfl ?_
        refine g_iadd (q := 298) dL_law_297 rfl ?_
        have hv36 := h.1
        replace h := h.2
        refine g_sld (q := 299) hX hv36 dL_law_298 rfl ?_
        refine g_aloadn (k0 := 0) (q := 300) dL_law_299 rfl rfl rfl ?_
        refine g_iload (k0 := 4) (q := 302) dL_law_300 rfl rfl ?_
        refine g_iconst (q := 303) dL_law_302 ki_4 rfl ?_
        refine g_iadd (q := 304) dL_law_303 rfl ?_
        have hv37 := h.1
        replace h := h.2
        refine g_sld (q := 305) hX hv37 dL_law_304 rfl ?_
        refine g_aloadn (k0 := 0) (q := 306) dL_law_305 rfl rfl rfl ?_
        refine g_iload (k0 := 4) (q := 308) dL_law_306 rfl rfl ?_
        refine g_iconst (q := 309) dL_law_308 ki_5 rfl ?_
        refine g_iadd (q := 310) dL_law_309 rfl ?_
        have hv38 := h.1
        replace h := h.2
        refine g_sld (q := 311) hX hv38 dL_law_310 rfl ?_
        refine g_aloadn (k0 := 0) (q := 312) dL_law_311 rfl rfl rfl ?_
        refine g_iload (k0 := 4) (q := 314) dL_law_312 rfl rfl ?_
        refine g_bipush (q := 316) dL_law_314 kb_6 rfl ?_
        refine g_iadd (q := 317) dL_law_316 rfl ?_
        have hv39 := h.1
        replace h := h.2
        refine g_sld (q := 318) hX hv39 dL_law_317 rfl ?_
        refine g_calli (q := 321) [.int (xs ((v4 + 1)).toNatClampNeg), .int (xs ((v4 + 2)).toNatClampNeg), .int (xs ((v4 + 3)).toNatClampNeg), .int (xs ((v4 + 4)).toNatClampNeg), .int (xs ((v4 + 5)).toNatClampNeg), .int (xs ((v4 + 6)).toNatClampNeg)] [] cv_L_50 rc_0 (c_X10_build hE h) rfl rfl ⟨rfl, rfl, Nat.le_of_ble_eq_true rfl, Nat.le_of_ble_eq_true rfl, (by show nc ≤ 1092; omega), (by show ns ≤ 17061; omega)⟩ (Nat.le_of_ble_eq_true rfl) dL_law_318 rfl (fun r41 M40 h => ?_)
        refine g_aloadn (k0 := 2) (q := 322) dL_law_321 rfl rfl rfl ?_
        refine g_aloadn (k0 := 0) (q := 323) dL_law_322 rfl rfl rfl ?_
        refine g_iload (k0 := 4) (q := 325) dL_law_323 rfl rfl ?_
        refine g_iconst (q := 326) dL_law_325 ki_1 rfl ?_
        refine g_iadd (q := 327) dL_law_326 rfl ?_
        refine g_sld (q := 328) hX hv34 dL_law_327 rfl ?_
        refine g_aloadn (k0 := 0) (q := 329) dL_law_328 rfl rfl rfl ?_
        refine g_iload (k0 := 4) (q := 331) dL_law_329 rfl rfl ?_
        refine g_iconst (q := 332) dL_law_331 ki_2 rfl ?_
        refine g_iadd (q := 333) dL_law_332 rfl ?_
        refine g_sld (q := 334) hX hv35 dL_law_333 rfl ?_
        refine g_aloadn (k0 := 0) (q := 335) dL_law_334 rfl rfl rfl ?_
        refine g_iload (k0 := 4) (q := 337) dL_law_335 rfl rfl ?_
        refine g_iconst (q := 338) dL_law_337 ki_3 rfl ?_
        refine g_iadd (q := 339) dL_law_338 rfl ?_
        refine g_sld (q := 340) hX hv36 dL_law_339 rfl ?_
        refine g_aloadn (k0 := 0) (q := 341) dL_law_340 rfl rfl rfl ?_
        refine g_iload (k0 := 4) (q := 343) dL_law_341 rfl rfl ?_
        refine g_iconst (q := 344) dL_law_343 ki_4 rfl ?_
        refine g_iadd (q := 345) dL_law_344 rfl ?_
        refine g_sld (q := 346) hX hv37 dL_law_345 rfl ?_
        refine g_aloadn (k0 := 0) (q := 347) dL_law_346 rfl rfl rfl ?_
        refine g_iload (k0 := 4) (q := 349) dL_law_347 rfl rfl ?_
        refine g_iconst (q := 350) dL_law_349 ki_5 rfl ?_
        refine g_iadd (q := 351) dL_law_350 rfl ?_
        refine g_sld (q := 352) hX hv38 dL_law_351 rfl ?_
        refine g_aloadn (k0 := 0) (q := 353) dL_law_352 rfl rfl rfl ?_
        refine g_iload (k0 := 4) (q := 355) dL_law_353 rfl rfl ?_
        refine g_bipush (q := 357) dL_law_355 kb_6 rfl ?_
        refine g_iadd (q := 358) dL_law_357 rfl ?_
        refine g_sld (q := 359) hX hv39 dL_law_358 rfl ?_
        refine g_calli (q := 362) [.int (xs ((v4 + 1)).toNatClampNeg), .int (xs ((v4 + 2)).toNatClampNeg), .int (xs ((v4 + 3)).toNatClampNeg), .int (xs ((v4 + 4)).toNatClampNeg), .int (xs ((v4 + 5)).toNatClampNeg), .int (xs ((v4 + 6)).toNatClampNeg)] [.int r41] cv_L_54 rc_35 (c_X11_build hE h) rfl rfl ⟨rfl, rfl, Nat.le_of_ble_eq_true rfl, Nat.le_of_ble_eq_true rfl, (by show nc ≤ 1092; omega), (by show ns ≤ 17061; omega)⟩ (Nat.le_of_ble_eq_true rfl) dL_law_359 rfl (fun r43 M42 h => ?_)
        refine g_ic_eq (tgt := 910) (q := 365) dL_law_362 rfl rfl (fun hc44 => ?_) (fun hc44 => ?_)
        · replace h := h.1 hc44
          refine g_iinc (lv' := [(0, .ref b), (1, .ref (eA E 0)), (2, .ref (eA E 35)), (3, .ref (eA E 62)), (4, .int (v4 + 7))]) (k0 := 4) (w := (v4 + 7)) (q := 913) [1, 2, 3, 4, 0] dL_law_910 rfl rfl (by decide) rfl rfl ?_
          refine g_goto (tgt := 23) dL_law_913 rfl ?_
          exact ih _ _ _ _ (by omega) (by omega) h
        · replace h := h.2 hc44
          refine g_iconst (q := 366) dL_law_365 ki_0 rfl ?_
          exact g_lawret hz dL_law_366 (by show nc ≤ 1092; omega) (by show ns ≤ 17061; omega) h
      replace h := h.2
      by_cases hc57 : ((xs v4.toNatClampNeg) &&& 31) = 5
      · replace h := h.1 hc57
        refine g_tin (tgt := 367) 5 (by rw [hc57]; decide) dL_law_40 (by decide) (by decide) rfl rfl ?_
        refine g_aloadn (k0 := 1) (q := 368) dL_law_367 rfl rfl rfl ?_
        refine g_aloadn (k0 := 0) (q := 369) dL_law_368 rfl rfl rfl ?_
        refine g_iload (k0 := 4) (q := 371) dL_law_369 rfl rfl ?_
        refine g_iconst (q := 372) dL_law_371 ki_1 rfl ?_
        refine g_iadd (q := 373) dL_law_372 rfl ?_
        have hv46 := h.1
        replace h := h.2
        refine g_sld (q := 374) hX hv46 dL_law_373 rfl ?_
        refine g_aloadn (k0 := 3) (q := 375) dL_law_374 rfl rfl rfl ?_
        refine g_hcalli (q := 378) [.ref (eA E 0), .int (xs ((v4 + 1)).toNatClampNeg), .ref (eA E 62)] [] ch_L_55 (c_L_octet hE h) rfl rfl ⟨rfl, rfl, Nat.le_of_ble_eq_true rfl, Nat.le_of_ble_eq_true rfl, (by show nc + 1 ≤ 1092; omega), (by show ns + 6 ≤ 17061; omega)⟩ (Nat.le_of_ble_eq_true rfl) dL_law_375 rfl (fun r48 M47 h => ?_)
        refine g_istore (lv' := [(0, .ref b), (1, .ref (eA E 0)), (2, .ref (eA E 35)), (3, .ref (eA E 62)), (4, .int v4), (5, .int r48)]) (q := 380) [1, 2, 3, 4, 5, 0] dL_law_378 (by decide) rfl rfl ?_
        refine g_aloadn (k0 := 2) (q := 381) dL_law_380 rfl rfl rfl ?_
        refine g_aloadn (k0 := 0) (q := 382) dL_law_381 rfl rfl rfl ?_
        refine g_iload (k0 := 4) (q := 384) dL_law_382 rfl rfl ?_
        refine g_iconst (q := 385) dL_law_384 ki_1 rfl ?_
        refine g_iadd (q := 386) dL_law_385 rfl ?_
        refine g_sld (q := 387) hX hv46 dL_law_386 rfl ?_
        refine g_calli (q := 390) [.int (xs ((v4 + 1)).toNatClampNeg)] [] cv_L_60 rc_35 (c_X11_octet hE h) rfl rfl ⟨rfl, rfl, Nat.le_of_ble_eq_true rfl, Nat.le_of_ble_eq_true rfl, (by show nc + 1 ≤ 1092; omega), (by show ns + 6 ≤ 17061; omega)⟩ (Nat.le_of_ble_eq_true rfl) dL_law_387 rfl (fun r50 M49 h => ?_)
        refine g_istore (lv' := [(0, .ref b), (1, .ref (eA E 0)), (2, .ref (eA E 35)), (3, .ref (eA E 62)), (4, .int v4), (5, .int r48), (6, .int r50)]) (q := 392) [1, 2, 3, 4, 5, 6, 0] dL_law_390 (by decide) rfl rfl ?_
        refine g_aloadn (k0 := 2) (q := 393) dL_law_392 rfl rfl rfl ?_
        refine g_calli (q := 396) [] [] cv_L_61 rc_35 (c_X11_thrown hE h) rfl rfl ⟨rfl, rfl, Nat.le_of_ble_eq_true rfl, Nat.le_of_ble_eq_true rfl, (by show nc + 1 ≤ 1092; omega), (by show ns + 6 ≤ 17061; omega)⟩ (Nat.le_of_ble_eq_true rfl) dL_law_393 rfl (fun r52 M51 h => ?_)
        refine g_iload (k0 := 5) (q := 398) dL_law_396 rfl rfl ?_
        refine g_ic_eq (tgt := 403) (q := 401) dL_law_398 rfl rfl (fun hc56 => ?_) (fun hc56 => ?_)
        · replace h := h.1 hc56
          refine g_iload (k0 := 5) (q := 405) dL_law_403 rfl rfl ?_
          refine g_if_ne (tgt := 420) (q := 408) dL_law_405 rfl rfl (fun hc55 => ?_) (fun hc55 => ?_)
          · replace h := h.1 hc55
            refine g_goto (tgt := 910) dL_law_420 rfl ?_
            refine g_iinc (lv' := [(0, .ref b), (1, .ref (eA E 0)), (2, .ref (eA E 35)), (3, .ref (eA E 62)), (4, .int (v4 + 7)), (5, .int r48), (6, .int r50)]) (k0 := 4) (w := (v4 + 7)) (q := 913) [1, 2, 3, 4, 0, 5, 6] dL_law_910 rfl rfl (by decide) rfl rfl ?_
            refine g_goto (tgt := 23) dL_law_913 rfl ?_
            refine g_lv (lv' := [(0, .ref b), (1, .ref (eA E 0)), (2, .ref (eA E 35)), (3, .ref (eA E 62)), (4, .int (v4 + 7))]) [0, 1, 2, 3, 4] rfl ?_
            exact ih _ _ _ _ (by omega) (by omega) h
          · replace h := h.2 hc55
            refine g_aloadn (k0 := 3) (q := 409) dL_law_408 rfl rfl rfl ?_
            refine g_iconst (q := 410) dL_law_409 ki_0 rfl ?_
            have hv53 := h.1
            replace h := h.2
            refine g_lald (v := (M51.2 62 0)) (q := 411) ar_62 hv53 rfl dL_law_410 rfl ?_
            refine g_iload (k0 := 6) (q := 413) dL_law_411 rfl rfl ?_
            refine g_i2l (q := 414) dL_law_413 rfl ?_
            refine g_lc_eq (tgt := 420) (q := 415) (q2 := 418) dL_law_414 rfl dL_law_415 rfl rfl (fun hc54 => ?_) (fun hc54 => ?_)
            · replace h := h.1 hc54
              refine g_goto (tgt := 910) dL_law_420 rfl ?_
              refine g_iinc (lv' := [(0, .ref b), (1, .ref (eA E 0)), (2, .ref (eA E 35)), (3, .ref (eA E 62)), (4, .int (v4 + 7)), (5, .int r48), (6, .int r50)]) (k0 := 4) (w := (v4 + 7)) (q := 913) [1, 2, 3, 4, 0, 5, 6] dL_law_910 rfl rfl (by decide) rfl rfl ?_
              refine g_goto (tgt := 23) dL_law_913 rfl ?_
              refine g_lv (lv' := [(0, .ref b), (1, .ref (eA E 0)), (2, .ref (eA E 35)), (3, .ref (eA E 62)), (4, .int (v4 + 7))]) [0, 1, 2, 3, 4] rfl ?_
              exact ih _ _ _ _ (by omega) (by omega) h
            · replace h := h.2 hc54
              refine g_iconst (q := 419) dL_law_418 ki_0 rfl ?_
              exact g_lawret hz dL_law_419 (by show nc + 1 ≤ 1092; omega) (by show ns + 6 ≤ 17061; omega) h
        · replace h := h.2 hc56
          refine g_iconst (q := 402) dL_law_401 ki_0 rfl ?_
          exact g_lawret hz dL_law_402 (by show nc + 1 ≤ 1092; omega) (by show ns + 6 ≤ 17061; omega) h
      replace h := h.2
      by_cases hc70 : ((xs v4.toNatClampNeg) &&& 31) = 6
      · replace h := h.1 hc70
        refine g_tin (tgt := 423) 6 (by rw [hc70]; decide) dL_law_40 (by decide) (by decide) rfl rfl ?_
        refine g_aloadn (k0 := 1) (q := 424) dL_law_423 rfl rfl rfl ?_
        refine g_aloadn (k0 := 0) (q := 425) dL_law_424 rfl rfl rfl ?_
        refine g_iload (k0 := 4) (q := 427) dL_law_425 rfl rfl ?_
        refine g_iconst (q := 428) dL_law_427 ki_1 rfl ?_
        refine g_iadd (q := 429) dL_law_428 rfl ?_
        have hv58 := h.1
        replace h := h.2
        refine g_sld (q := 430) hX hv58 dL_law_429 rfl ?_
        refine g_aloadn (k0 := 0) (q := 431) dL_law_430 rfl rfl rfl ?_
        refine g_iload (k0 := 4) (q := 433) dL_law_431 rfl rfl ?_
        refine g_iconst (q := 434) dL_law_433 ki_2 rfl ?_
        refine g_iadd (q := 435) dL_law_434 rfl ?_
        have hv59 := h.1
        replace h := h.2
        refine g_sld (q := 436) hX hv59 dL_law_435 rfl ?_
        refine g_aloadn (k0 := 3) (q := 437) dL_law_436 rfl rfl rfl ?_
        refine g_hcalli (q := 440) [.ref (eA E 0), .int (xs ((v4 + 1)).toNatClampNeg), .int (xs ((v4 + 2)).toNatClampNeg), .ref (eA E 62)] [] ch_L_65 (c_L_message hE h) rfl rfl ⟨rfl, rfl, Nat.le_of_ble_eq_true rfl, Nat.le_of_ble_eq_true rfl, (by show nc + 1 ≤ 1092; omega), (by show ns + 6 ≤ 17061; omega)⟩ (Nat.le_of_ble_eq_true rfl) dL_law_437 rfl (fun r61 M60 h => ?_)
        refine g_istore (lv' := [(0, .ref b), (1, .ref (eA E 0)), (2, .ref (eA E 35)), (3, .ref (eA E 62)), (4, .int v4), (5, .int r61)]) (q := 442) [1, 2, 3, 4, 5, 0] dL_law_440 (by decide) rfl rfl ?_
        refine g_aloadn (k0 := 2) (q := 443) dL_law_442 rfl rfl rfl ?_
        refine g_aloadn (k0 := 0) (q := 444) dL_law_443 rfl rfl rfl ?_
        refine g_iload (k0 := 4) (q := 446) dL_law_444 rfl rfl ?_
        refine g_iconst (q := 447) dL_law_446 ki_1 rfl ?_
        refine g_iadd (q := 448) dL_law_447 rfl ?_
        refine g_sld (q := 449) hX hv58 dL_law_448 rfl ?_
        refine g_aloadn (k0 := 0) (q := 450) dL_law_449 rfl rfl rfl ?_
        refine g_iload (k0 := 4) (q := 452) dL_law_450 rfl rfl ?_
        refine g_iconst (q := 453) dL_law_452 ki_2 rfl ?_
        refine g_iadd (q := 454) dL_law_453 rfl ?_
        refine g_sld (q := 455) hX hv59 dL_law_454 rfl ?_
        refine g_calli (q := 458) [.int (xs ((v4 + 1)).toNatClampNeg), .int (xs ((v4 + 2)).toNatClampNeg)] [] cv_L_68 rc_35 (c_X11_message hE h) rfl rfl ⟨rfl, rfl, Nat.le_of_ble_eq_true rfl, Nat.le_of_ble_eq_true rfl, (by show nc + 1 ≤ 1092; omega), (by show ns + 6 ≤ 17061; omega)⟩ (Nat.le_of_ble_eq_true rfl) dL_law_455 rfl (fun r63 M62 h => ?_)
        refine g_istore (lv' := [(0, .ref b), (1, .ref (eA E 0)), (2, .ref (eA E 35)), (3, .ref (eA E 62)), (4, .int v4), (5, .int r61), (6, .int r63)]) (q := 460) [1, 2, 3, 4, 5, 6, 0] dL_law_458 (by decide) rfl rfl ?_
        refine g_aloadn (k0 := 2) (q := 461) dL_law_460 rfl rfl rfl ?_
        refine g_calli (q := 464) [] [] cv_L_61 rc_35 (c_X11_thrown hE h) rfl rfl ⟨rfl, rfl, Nat.le_of_ble_eq_true rfl, Nat.le_of_ble_eq_true rfl, (by show nc + 1 ≤ 1092; omega), (by show ns + 6 ≤ 17061; omega)⟩ (Nat.le_of_ble_eq_true rfl) dL_law_461 rfl (fun r65 M64 h => ?_)
        refine g_iload (k0 := 5) (q := 466) dL_law_464 rfl rfl ?_
        refine g_ic_eq (tgt := 471) (q := 469) dL_law_466 rfl rfl (fun hc69 => ?_) (fun hc69 => ?_)
        · replace h := h.1 hc69
          refine g_iload (k0 := 5) (q := 473) dL_law_471 rfl rfl ?_
          refine g_if_ne (tgt := 488) (q := 476) dL_law_473 rfl rfl (fun hc68 => ?_) (fun hc68 => ?_)
          · replace h := h.1 hc68
            refine g_goto (tgt := 910) dL_law_488 rfl ?_
            refine g_iinc (lv' := [(0, .ref b), (1, .ref (eA E 0)), (2, .ref (eA E 35)), (3, .ref (eA E 62)), (4, .int (v4 + 7)), (5, .int r61), (6, .int r63)]) (k0 := 4) (w := (v4 + 7)) (q := 913) [1, 2, 3, 4, 0, 5, 6] dL_law_910 rfl rfl (by decide) rfl rfl ?_
            refine g_goto (tgt := 23) dL_law_913 rfl ?_
            refine g_lv (lv' := [(0, .ref b), (1, .ref (eA E 0)), (2, .ref (eA E 35)), (3, .ref (eA E 62)), (4, .int (v4 + 7))]) [0, 1, 2, 3, 4] rfl ?_
            exact ih _ _ _ _ (by omega) (by omega) h
          · replace h := h.2 hc68
            refine g_aloadn (k0 := 3) (q := 477) dL_law_476 rfl rfl rfl ?_
            refine g_iconst (q := 478) dL_law_477 ki_0 rfl ?_
            have hv66 := h.1
            replace h := h.2
            refine g_lald (v := (M64.2 62 0)) (q := 479) ar_62 hv66 rfl dL_law_478 rfl ?_
            refine g_iload (k0 := 6) (q := 481) dL_law_479 rfl rfl ?_
            refine g_i2l (q := 482) dL_law_481 rfl ?_
            refine g_lc_eq (tgt := 488) (q := 483) (q2 := 486) dL_law_482 rfl dL_law_483 rfl rfl (fun hc67 => ?_) (fun hc67 => ?_)
            · replace h := h.1 hc67
              refine g_goto (tgt := 910) dL_law_488 rfl ?_
              refine g_iinc (lv' := [(0, .ref b), (1, .ref (eA E 0)), (2, .ref (eA E 35)), (3, .ref (eA E 62)), (4, .int (v4 + 7)), (5, .int r61), (6, .int r63)]) (k0 := 4) (w := (v4 + 7)) (q := 913) [1, 2, 3, 4, 0, 5, 6] dL_law_910 rfl rfl (by decide) rfl rfl ?_
              refine g_goto (tgt := 23) dL_law_913 rfl ?_
              refine g_lv (lv' := [(0, .ref b), (1, .ref (eA E 0)), (2, .ref (eA E 35)), (3, .ref (eA E 62)), (4, .int (v4 + 7))]) [0, 1, 2, 3, 4] rfl ?_
              exact ih _ _ _ _ (by omega) (by omega) h
            · replace h := h.2 hc67
              refine g_iconst (q := 487) dL_law_486 ki_0 rfl ?_
              exact g_lawret hz dL_law_487 (by show nc + 1 ≤ 1092; omega) (by show ns + 6 ≤ 17061; omega) h
        · replace h := h.2 hc69
          refine g_iconst (q := 470) dL_law_469 ki_0 rfl ?_
          exact g_lawret hz dL_law_470 (by show nc + 1 ≤ 1092; omega) (by show ns + 6 ≤ 17061; omega) h
      replace h := h.2
      by_cases hc78 : ((xs v4.toNatClampNeg) &&& 31) = 7
      · replace h := h.1 hc78
        refine g_tin (tgt := 491) 7 (by rw [hc78]; decide) dL_law_40 (by decide) (by decide) rfl rfl ?_
        refine g_aloadn (k0 := 1) (q := 492) dL_law_491 rfl rfl rfl ?_
        refine g_aloadn (k0 := 0) (q := 493) dL_law_492 rfl rfl rfl ?_
        refine g_iload (k0 := 4) (q := 495) dL_law_493 rfl rfl ?_
        refine g_iconst (q := 496) dL_law_495 ki_1 rfl ?_
        refine g_iadd (q := 497) dL_law_496 rfl ?_
        have hv71 := h.1
        replace h := h.2
        refine g_sld (q := 498) hX hv71 dL_law_497 rfl ?_
        refine g_aloadn (k0 := 0) (q := 499) dL_law_498 rfl rfl rfl ?_
        refine g_iload (k0 := 4) (q := 501) dL_law_499 rfl rfl ?_
        refine g_iconst (q := 502) dL_law_501 ki_2 rfl ?_
        refine g_iadd (q := 503) dL_law_502 rfl ?_
        have hv72 := h.1
        replace h := h.2
        refine g_sld (q := 504) hX hv72 dL_law_503 rfl ?_
        refine g_calli (q := 507) [.int (xs ((v4 + 1)).toNatClampNeg), .int (xs ((v4 + 2)).toNatClampNeg)] [] cv_L_69 rc_0 (c_X10_part hE h) rfl rfl ⟨rfl, rfl, Nat.le_of_ble_eq_true rfl, Nat.le_of_ble_eq_true rfl, (by show nc ≤ 1092; omega), (by show ns ≤ 17061; omega)⟩ (Nat.le_of_ble_eq_true rfl) dL_law_504 rfl (fun r74 M73 h => ?_)
        refine g_aloadn (k0 := 2) (q := 508) dL_law_507 rfl rfl rfl ?_
        refine g_aloadn (k0 := 0) (q := 509) dL_law_508 rfl rfl rfl ?_
        refine g_iload (k0 := 4) (q := 511) dL_law_509 rfl rfl ?_
        refine g_iconst (q := 512) dL_law_511 ki_1 rfl ?_
        refine g_iadd (q := 513) dL_law_512 rfl ?_
        refine g_sld (q := 514) hX hv71 dL_law_513 rfl ?_
        refine g_aloadn (k0 := 0) (q := 515) dL_law_514 rfl rfl rfl ?_
        refine g_iload (k0 := 4) (q := 517) dL_law_515 rfl rfl ?_
        refine g_iconst (q := 518) dL_law_517 ki_2 rfl ?_
        refine g_iadd (q := 519) dL_law_518 rfl ?_
        refine g_sld (q := 520) hX hv72 dL_law_519 rfl ?_
        refine g_calli (q := 523) [.int (xs ((v4 + 1)).toNatClampNeg), .int (xs ((v4 + 2)).toNatClampNeg)] [.int r74] cv_L_72 rc_35 (c_X11_part hE h) rfl rfl ⟨rfl, rfl, Nat.le_of_ble_eq_true rfl, Nat.le_of_ble_eq_true rfl, (by show nc ≤ 1092; omega), (by show ns ≤ 17061; omega)⟩ (Nat.le_of_ble_eq_true rfl) dL_law_520 rfl (fun r76 M75 h => ?_)
        refine g_ic_eq (tgt := 910) (q := 526) dL_law_523 rfl rfl (fun hc77 => ?_) (fun hc77 => ?_)
        · replace h := h.1 hc77
          refine g_iinc (lv' := [(0, .ref b), (1, .ref (eA E 0)), (2, .ref (eA E 35)), (3, .ref (eA E 62)), (4, .int (v4 + 7))]) (k0 := 4) (w := (v4 + 7)) (q := 913) [1, 2, 3, 4, 0] dL_law_910 rfl rfl (by decide) rfl rfl ?_
          refine g_goto (tgt := 23) dL_law_913 rfl ?_
          exact ih _ _ _ _ (by omega) (by omega) h
        · replace h := h.2 hc77
          refine g_iconst (q := 527) dL_law_526 ki_0 rfl ?_
          exact g_lawret hz dL_law_527 (by show nc ≤ 1092; omega) (by show ns ≤ 17061; omega) h
      replace h := h.2
      by_cases hc84 : ((xs v4.toNatClampNeg) &&& 31) = 8
      · replace h := h.1 hc84
        refine g_tin (tgt := 528) 8 (by rw [hc84]; decide) dL_law_40 (by decide) (by decide) rfl rfl ?_
        refine g_aloadn (k0 := 1) (q := 529) dL_law_528 rfl rfl rfl ?_
        refine g_calll (q := 532) [] [] cv_L_73 rc_0 (c_X10_cost hE h) rfl rfl ⟨rfl, rfl, Nat.le_of_ble_eq_true rfl, Nat.le_of_ble_eq_true rfl, (by show nc ≤ 1092; omega), (by show ns ≤ 17061; omega)⟩ (Nat.le_of_ble_eq_true rfl) dL_law_529 rfl (fun r80 M79 h => ?_)
        refine g_aloadn (k0 := 2) (q := 533) dL_law_532 rfl rfl rfl ?_
        refine g_calll (q := 536) [] [.long r80] cv_L_77 rc_35 (c_X11_cost hE h) rfl rfl ⟨rfl, rfl, Nat.le_of_ble_eq_true rfl, Nat.le_of_ble_eq_true rfl, (by show nc ≤ 1092; omega), (by show ns ≤ 17061; omega)⟩ (Nat.le_of_ble_eq_true rfl) dL_law_533 rfl (fun r82 M81 h => ?_)
        refine g_lc_eq (tgt := 910) (q := 537) (q2 := 540) dL_law_536 rfl dL_law_537 rfl rfl (fun hc83 => ?_) (fun hc83 => ?_)
        · replace h := h.1 hc83
          refine g_iinc (lv' := [(0, .ref b), (1, .ref (eA E 0)), (2, .ref (eA E 35)), (3, .ref (eA E 62)), (4, .int (v4 + 7))]) (k0 := 4) (w := (v4 + 7)) (q := 913) [1, 2, 3, 4, 0] dL_law_910 rfl rfl (by decide) rfl rfl ?_
          refine g_goto (tgt := 23) dL_law_913 rfl ?_
          exact ih _ _ _ _ (by omega) (by omega) h
        · replace h := h.2 hc83
          refine g_iconst (q := 541) dL_law_540 ki_0 rfl ?_
          exact g_lawret hz dL_law_541 (by show nc ≤ 1092; omega) (by show ns ≤ 17061; omega) h
      replace h := h.2
      by_cases hc92 : ((xs v4.toNatClampNeg) &&& 31) = 9
      · replace h := h.1 hc92
        refine g_tin (tgt := 542) 9 (by rw [hc92]; decide) dL_law_40 (by decide) (by decide) rfl rfl ?_
        refine g_aloadn (k0 := 1) (q := 543) dL_law_542 rfl rfl rfl ?_
        refine g_aloadn (k0 := 0) (q := 544) dL_law_543 rfl rfl rfl ?_
        refine g_iload (k0 := 4) (q := 546) dL_law_544 rfl rfl ?_
        refine g_iconst (q := 547) dL_law_546 ki_1 rfl ?_
        refine g_iadd (q := 548) dL_law_547 rfl ?_
        have hv85 := h.1
        replace h := h.2
        refine g_sld (q := 549) hX hv85 dL_law_548 rfl ?_
        refine g_aloadn (k0 := 0) (q := 550) dL_law_549 rfl rfl rfl ?_
        refine g_iload (k0 := 4) (q := 552) dL_law_550 rfl rfl ?_
        refine g_iconst (q := 553) dL_law_552 ki_2 rfl ?_
        refine g_iadd (q := 554) dL_law_553 rfl ?_
        have hv86 := h.1
        replace h := h.2
        refine g_sld (q := 555) hX hv86 dL_law_554 rfl ?_
        refine g_calli (q := 558) [.int (xs ((v4 + 1)).toNatClampNeg), .int (xs ((v4 + 2)).toNatClampNeg)] [] cv_L_78 rc_0 (c_X10_parted hE h) rfl rfl ⟨rfl, rfl, Nat.le_of_ble_eq_true rfl, Nat.le_of_ble_eq_true rfl, (by show nc ≤ 1092; omega), (by show ns ≤ 17061; omega)⟩ (Nat.le_of_ble_eq_true rfl) dL_law_555 rfl (fun r88 M87 h => ?_)
        refine g_aloadn (k0 := 2) (q := 559) dL_law_558 rfl rfl rfl ?_
        refine g_aloadn (k0 := 0) (q := 560) dL_law_559 rfl rfl rfl ?_
        refine g_iload (k0 := 4) (q := 562) dL_law_560 rfl rfl ?_
        refine g_iconst (q := 563) dL_law_562 ki_1 rfl ?_
        refine g_iadd (q := 564) dL_law_563 rfl ?_
        refine g_sld (q := 565) hX hv85 dL_law_564 rfl ?_
        refine g_aloadn (k0 := 0) (q := 566) dL_law_565 rfl rfl rfl ?_
        refine g_iload (k0 := 4) (q := 568) dL_law_566 rfl rfl ?_
        refine g_iconst (q := 569) dL_law_568 ki_2 rfl ?_
        refine g_iadd (q := 570) dL_law_569 rfl ?_
        refine g_sld (q := 571) hX hv86 dL_law_570 rfl ?_
        refine g_calli (q := 574) [.int (xs ((v4 + 1)).toNatClampNeg), .int (xs ((v4 + 2)).toNatClampNeg)] [.int r88] cv_L_81 rc_35 (c_X11_parted hE h) rfl rfl ⟨rfl, rfl, Nat.le_of_ble_eq_true rfl, Nat.le_of_ble_eq_true rfl, (by show nc ≤ 1092; omega), (by show ns ≤ 17061; omega)⟩ (Nat.le_of_ble_eq_true rfl) dL_law_571 rfl (fun r90 M89 h => ?_)
        refine g_ic_eq (tgt := 910) (q := 577) dL_law_574 rfl rfl (fun hc91 => ?_) (fun hc91 => ?_)
        · replace h := h.1 hc91
          refine g_iinc (lv' := [(0, .ref b), (1, .ref (eA E 0)), (2, .ref (eA E 35)), (3, .ref (eA E 62)), (4, .int (v4 + 7))]) (k0 := 4) (w := (v4 + 7)) (q := 913) [1, 2, 3, 4, 0] dL_law_910 rfl rfl (by decide) rfl rfl ?_
          refine g_goto (tgt := 23) dL_law_913 rfl ?_
          exact ih _ _ _ _ (by omega) (by omega) h
        · replace h := h.2 hc91
          refine g_iconst (q := 578) dL_law_577 ki_0 rfl ?_
          exact g_lawret hz dL_law_578 (by show nc ≤ 1092; omega) (by show ns ≤ 17061; omega) h
      replace h := h.2
      by_cases hc98 : ((xs v4.toNatClampNeg) &&& 31) = 10
      · replace h := h.1 hc98
        refine g_tin (tgt := 579) 10 (by rw [hc98]; decide) dL_law_40 (by decide) (by decide) rfl rfl ?_
        refine g_aloadn (k0 := 1) (q := 580) dL_law_579 rfl rfl rfl ?_
        refine g_calli (q := 583) [] [] cv_L_82 rc_0 (c_X10_clashes hE h) rfl rfl ⟨rfl, rfl, Nat.le_of_ble_eq_true rfl, Nat.le_of_ble_eq_true rfl, (by show nc ≤ 1092; omega), (by show ns ≤ 17061; omega)⟩ (Nat.le_of_ble_eq_true rfl) dL_law_580 rfl (fun r94 M93 h => ?_)
        refine g_aloadn (k0 := 2) (q := 584) dL_law_583 rfl rfl rfl ?_
        refine g_calli (q := 587) [] [.int r94] cv_L_85 rc_35 (c_X11_clashes hE h) rfl rfl ⟨rfl, rfl, Nat.le_of_ble_eq_true rfl, Nat.le_of_ble_eq_true rfl, (by show nc ≤ 1092; omega), (by show ns ≤ 17061; omega)⟩ (Nat.le_of_ble_eq_true rfl) dL_law_584 rfl (fun r96 M95 h => ?_)
        refine g_ic_eq (tgt := 910) (q := 590) dL_law_587 rfl rfl (fun hc97 => ?_) (fun hc97 => ?_)
        · replace h := h.1 hc97
          refine g_iinc (lv' := [(0, .ref b), (1, .ref (eA E 0)), (2, .ref (eA E 35)), (3, .ref (eA E 62)), (4, .int (v4 + 7))]) (k0 := 4) (w := (v4 + 7)) (q := 913) [1, 2, 3, 4, 0] dL_law_910 rfl rfl (by decide) rfl rfl ?_
          refine g_goto (tgt := 23) dL_law_913 rfl ?_
          exact ih _ _ _ _ (by omega) (by omega) h
        · replace h := h.2 hc97
          refine g_iconst (q := 591) dL_law_590 ki_0 rfl ?_
          exact g_lawret hz dL_law_591 (by show nc ≤ 1092; omega) (by show ns ≤ 17061; omega) h
      replace h := h.2
      by_cases hc111 : ((xs v4.toNatClampNeg) &&& 31) = 11
      · replace h := h.1 hc111
        refine g_tin (tgt := 592) 11 (by rw [hc111]; decide) dL_law_40 (by decide) (by decide) rfl rfl ?_
        refine g_aloadn (k0 := 1) (q := 593) dL_law_592 rfl rfl rfl ?_
        refine g_aloadn (k0 := 0) (q := 594) dL_law_593 rfl rfl rfl ?_
        refine g_iload (k0 := 4) (q := 596) dL_law_594 rfl rfl ?_
        refine g_iconst (q := 597) dL_law_596 ki_1 rfl ?_
        refine g_iadd (q := 598) dL_law_597 rfl ?_
        have hv99 := h.1
        replace h := h.2
        refine g_sld (q := 599) hX hv99 dL_law_598 rfl ?_
        refine g_aloadn (k0 := 0) (q := 600) dL_law_599 rfl rfl rfl ?_
        refine g_iload (k0 := 4) (q := 602) dL_law_600 rfl rfl ?_
        refine g_iconst (q := 603) dL_law_602 ki_2 rfl ?_
        refine g_iadd (q := 604) dL_law_603 rfl ?_
        have hv100 := h.1
        replace h := h.2
        refine g_sld (q := 605) hX hv100 dL_law_604 rfl ?_
        refine g_aloadn (k0 := 3) (q := 606) dL_law_605 rfl rfl rfl ?_
        refine g_hcalli (q := 609) [.ref (eA E 0), .int (xs ((v4 + 1)).toNatClampNeg), .int (xs ((v4 + 2)).toNatClampNeg), .ref (eA E 62)] [] ch_L_86 (c_L_clash hE h) rfl rfl ⟨rfl, rfl, Nat.le_of_ble_eq_true rfl, Nat.le_of_ble_eq_true rfl, (by show nc + 1 ≤ 1092; omega), (by show ns + 6 ≤ 17061; omega)⟩ (Nat.le_of_ble_eq_true rfl) dL_law_606 rfl (fun r102 M101 h => ?_)
        refine g_istore (lv' := [(0, .ref b), (1, .ref (eA E 0)), (2, .ref (eA E 35)), (3, .ref (eA E 62)), (4, .int v4), (5, .int r102)]) (q := 611) [1, 2, 3, 4, 5, 0] dL_law_609 (by decide) rfl rfl ?_
        refine g_aloadn (k0 := 2) (q := 612) dL_law_611 rfl rfl rfl ?_
        refine g_aloadn (k0 := 0) (q := 613) dL_law_612 rfl rfl rfl ?_
        refine g_iload (k0 := 4) (q := 615) dL_law_613 rfl rfl ?_
        refine g_iconst (q := 616) dL_law_615 ki_1 rfl ?_
        refine g_iadd (q := 617) dL_law_616 rfl ?_
        refine g_sld (q := 618) hX hv99 dL_law_617 rfl ?_
        refine g_aloadn (k0 := 0) (q := 619) dL_law_618 rfl rfl rfl ?_
        refine g_iload (k0 := 4) (q := 621) dL_law_619 rfl rfl ?_
        refine g_iconst (q := 622) dL_law_621 ki_2 rfl ?_
        refine g_iadd (q := 623) dL_law_622 rfl ?_
        refine g_sld (q := 624) hX hv100 dL_law_623 rfl ?_
        refine g_calli (q := 627) [.int (xs ((v4 + 1)).toNatClampNeg), .int (xs ((v4 + 2)).toNatClampNeg)] [] cv_L_88 rc_35 (c_X11_clash hE h) rfl rfl ⟨rfl, rfl, Nat.le_of_ble_eq_true rfl, Nat.le_of_ble_eq_true rfl, (by show nc + 1 ≤ 1092; omega), (by show ns + 6 ≤ 17061; omega)⟩ (Nat.le_of_ble_eq_true rfl) dL_law_624 rfl (fun r104 M103 h => ?_)
        refine g_istore (lv' := [(0, .ref b), (1, .ref (eA E 0)), (2, .ref (eA E 35)), (3, .ref (eA E 62)), (4, .int v4), (5, .int r102), (6, .int r104)]) (q := 629) [1, 2, 3, 4, 5, 6, 0] dL_law_627 (by decide) rfl rfl ?_
        refine g_aloadn (k0 := 2) (q := 630) dL_law_629 rfl rfl rfl ?_
        refine g_calli (q := 633) [] [] cv_L_61 rc_35 (c_X11_thrown hE h) rfl rfl ⟨rfl, rfl, Nat.le_of_ble_eq_true rfl, Nat.le_of_ble_eq_true rfl, (by show nc + 1 ≤ 1092; omega), (by show ns + 6 ≤ 17061; omega)⟩ (Nat.le_of_ble_eq_true rfl) dL_law_630 rfl (fun r106 M105 h => ?_)
        refine g_iload (k0 := 5) (q := 635) dL_law_633 rfl rfl ?_
        refine g_ic_eq (tgt := 640) (q := 638) dL_law_635 rfl rfl (fun hc110 => ?_) (fun hc110 => ?_)
        · replace h := h.1 hc110
          refine g_iload (k0 := 5) (q := 642) dL_law_640 rfl rfl ?_
          refine g_if_ne (tgt := 657) (q := 645) dL_law_642 rfl rfl (fun hc109 => ?_) (fun hc109 => ?_)
          · replace h := h.1 hc109
            refine g_goto (tgt := 910) dL_law_657 rfl ?_
            refine g_iinc (lv' := [(0, .ref b), (1, .ref (eA E 0)), (2, .ref (eA E 35)), (3, .ref (eA E 62)), (4, .int (v4 + 7)), (5, .int r102), (6, .int r104)]) (k0 := 4) (w := (v4 + 7)) (q := 913) [1, 2, 3, 4, 0, 5, 6] dL_law_910 rfl rfl (by decide) rfl rfl ?_
            refine g_goto (tgt := 23) dL_law_913 rfl ?_
            refine g_lv (lv' := [(0, .ref b), (1, .ref (eA E 0)), (2, .ref (eA E 35)), (3, .ref (eA E 62)), (4, .int (v4 + 7))]) [0, 1, 2, 3, 4] rfl ?_
            exact ih _ _ _ _ (by omega) (by omega) h
          · replace h := h.2 hc109
            refine g_aloadn (k0 := 3) (q := 646) dL_law_645 rfl rfl rfl ?_
            refine g_iconst (q := 647) dL_law_646 ki_0 rfl ?_
            have hv107 := h.1
            replace h := h.2
            refine g_lald (v := (M105.2 62 0)) (q := 648) ar_62 hv107 rfl dL_law_647 rfl ?_
            refine g_iload (k0 := 6) (q := 650) dL_law_648 rfl rfl ?_
            refine g_i2l (q := 651) dL_law_650 rfl ?_
            refine g_lc_eq (tgt := 657) (q := 652) (q2 := 655) dL_law_651 rfl dL_law_652 rfl rfl (fun hc108 => ?_) (fun hc108 => ?_)
            · replace h := h.1 hc108
              refine g_goto (tgt := 910) dL_law_657 rfl ?_
              refine g_iinc (lv' := [(0, .ref b), (1, .ref (eA E 0)), (2, .ref (eA E 35)), (3, .ref (eA E 62)), (4, .int (v4 + 7)), (5, .int r102), (6, .int r104)]) (k0 := 4) (w := (v4 + 7)) (q := 913) [1, 2, 3, 4, 0, 5, 6] dL_law_910 rfl rfl (by decide) rfl rfl ?_
              refine g_goto (tgt := 23) dL_law_913 rfl ?_
              refine g_lv (lv' := [(0, .ref b), (1, .ref (eA E 0)), (2, .ref (eA E 35)), (3, .ref (eA E 62)), (4, .int (v4 + 7))]) [0, 1, 2, 3, 4] rfl ?_
              exact ih _ _ _ _ (by omega) (by omega) h
            · replace h := h.2 hc108
              refine g_iconst (q := 656) dL_law_655 ki_0 rfl ?_
              exact g_lawret hz dL_law_656 (by show nc + 1 ≤ 1092; omega) (by show ns + 6 ≤ 17061; omega) h
        · replace h := h.2 hc110
          refine g_iconst (q := 639) dL_law_638 ki_0 rfl ?_
          exact g_lawret hz dL_law_639 (by show nc + 1 ≤ 1092; omega) (by show ns + 6 ≤ 17061; omega) h
      replace h := h.2
      by_cases hc117 : ((xs v4.toNatClampNeg) &&& 31) = 12
      · replace h := h.1 hc117
        refine g_tin (tgt := 660) 12 (by rw [hc117]; decide) dL_law_40 (by decide) (by decide) rfl rfl ?_
        refine g_aloadn (k0 := 1) (q := 661) dL_law_660 rfl rfl rfl ?_
        refine g_calli (q := 664) [] [] cv_L_89 rc_0 (c_X10_texts hE h) rfl rfl ⟨rfl, rfl, Nat.le_of_ble_eq_true rfl, Nat.le_of_ble_eq_true rfl, (by show nc ≤ 1092; omega), (by show ns ≤ 17061; omega)⟩ (Nat.le_of_ble_eq_true rfl) dL_law_661 rfl (fun r113 M112 h => ?_)
        refine g_aloadn (k0 := 2) (q := 665) dL_law_664 rfl rfl rfl ?_
        refine g_calli (q := 668) [] [.int r113] cv_L_92 rc_35 (c_X11_texts hE h) rfl rfl ⟨rfl, rfl, Nat.le_of_ble_eq_true rfl, Nat.le_of_ble_eq_true rfl, (by show nc ≤ 1092; omega), (by show ns ≤ 17061; omega)⟩ (Nat.le_of_ble_eq_true rfl) dL_law_665 rfl (fun r115 M114 h => ?_)
        refine g_ic_eq (tgt := 910) (q := 671) dL_law_668 rfl rfl (fun hc116 => ?_) (fun hc116 => ?_)
        · replace h := h.1 hc116
          refine g_iinc (lv' := [(0, .ref b), (1, .ref (eA E 0)), (2, .ref (eA E 35)), (3, .ref (eA E 62)), (4, .int (v4 + 7))]) (k0 := 4) (w := (v4 + 7)) (q := 913) [1, 2, 3, 4, 0] dL_law_910 rfl rfl (by decide) rfl rfl ?_
          refine g_goto (tgt := 23) dL_law_913 rfl ?_
          exact ih _ _ _ _ (by omega) (by omega) h
        · replace h := h.2 hc116
          refine g_iconst (q := 672) dL_law_671 ki_0 rfl ?_
          exact g_lawret hz dL_law_672 (by show nc ≤ 1092; omega) (by show ns ≤ 17061; omega) h
      replace h := h.2
      by_cases hc130 : ((xs v4.toNatClampNeg) &&& 31) = 13
      · replace h := h.1 hc130
        refine g_tin (tgt := 673) 13 (by rw [hc130]; decide) dL_law_40 (by decide) (by decide) rfl rfl ?_
        refine g_aloadn (k0 := 1) (q := 674) dL_law_673 rfl rfl rfl ?_
        refine g_aloadn (k0 := 0) (q := 675) dL_law_674 rfl rfl rfl ?_
        refine g_iload (k0 := 4) (q := 677) dL_law_675 rfl rfl ?_
        refine g_iconst (q := 678) dL_law_677 ki_1 rfl ?_
        refine g_iadd (q := 679) dL_law_678 rfl ?_
        have hv118 := h.1
        replace h := h.2
        refine g_sld (q := 680) hX hv118 dL_law_679 rfl ?_
        refine g_aloadn (k0 := 0) (q := 681) dL_law_680 rfl rfl rfl ?_
        refine g_iload (k0 := 4) (q := 683) dL_law_681 rfl rfl ?_
        refine g_iconst (q := 684) dL_law_683 ki_2 rfl ?_
        refine g_iadd (q := 685) dL_law_684 rfl ?_
        have hv119 := h.1
        replace h := h.2
        refine g_sld (q := 686) hX hv119 dL_law_685 rfl ?_
        refine g_aloadn (k0 := 3) (q := 687) dL_law_686 rfl rfl rfl ?_
        refine g_hcalli (q := 690) [.ref (eA E 0), .int (xs ((v4 + 1)).toNatClampNeg), .int (xs ((v4 + 2)).toNatClampNeg), .ref (eA E 62)] [] ch_L_93 (c_L_text hE h) rfl rfl ⟨rfl, rfl, Nat.le_of_ble_eq_true rfl, Nat.le_of_ble_eq_true rfl, (by show nc + 1 ≤ 1092; omega), (by show ns + 6 ≤ 17061; omega)⟩ (Nat.le_of_ble_eq_true rfl) dL_law_687 rfl (fun r121 M120 h => ?_)
        refine g_istore (lv' := [(0, .ref b), (1, .ref (eA E 0)), (2, .ref (eA E 35)), (3, .ref (eA E 62)), (4, .int v4), (5, .int r121)]) (q := 692) [1, 2, 3, 4, 5, 0] dL_law_690 (by decide) rfl rfl ?_
        refine g_aloadn (k0 := 2) (q := 693) dL_law_692 rfl rfl rfl ?_
        refine g_aloadn (k0 := 0) (q := 694) dL_law_693 rfl rfl rfl ?_
        refine g_iload (k0 := 4) (q := 696) dL_law_694 rfl rfl ?_
        refine g_iconst (q := 697) dL_law_696 ki_1 rfl ?_
        refine g_iadd (q := 698) dL_law_697 rfl ?_
        refine g_sld (q := 699) hX hv118 dL_law_698 rfl ?_
        refine g_aloadn (k0 := 0) (q := 700) dL_law_699 rfl rfl rfl ?_
        refine g_iload (k0 := 4) (q := 702) dL_law_700 rfl rfl ?_
        refine g_iconst (q := 703) dL_law_702 ki_2 rfl ?_
        refine g_iadd (q := 704) dL_law_703 rfl ?_
        refine g_sld (q := 705) hX hv119 dL_law_704 rfl ?_
        refine g_calli (q := 708) [.int (xs ((v4 + 1)).toNatClampNeg), .int (xs ((v4 + 2)).toNatClampNeg)] [] cv_L_95 rc_35 (c_X11_text hE h) rfl rfl ⟨rfl, rfl, Nat.le_of_ble_eq_true rfl, Nat.le_of_ble_eq_true rfl, (by show nc + 1 ≤ 1092; omega), (by show ns + 6 ≤ 17061; omega)⟩ (Nat.le_of_ble_eq_true rfl) dL_law_705 rfl (fun r123 M122 h => ?_)
        refine g_istore (lv' := [(0, .ref b), (1, .ref (eA E 0)), (2, .ref (eA E 35)), (3, .ref (eA E 62)), (4, .int v4), (5, .int r121), (6, .int r123)]) (q := 710) [1, 2, 3, 4, 5, 6, 0] dL_law_708 (by decide) rfl rfl ?_
        refine g_aloadn (k0 := 2) (q := 711) dL_law_710 rfl rfl rfl ?_
        refine g_calli (q := 714) [] [] cv_L_61 rc_35 (c_X11_thrown hE h) rfl rfl ⟨rfl, rfl, Nat.le_of_ble_eq_true rfl, Nat.le_of_ble_eq_true rfl, (by show nc + 1 ≤ 1092; omega), (by show ns + 6 ≤ 17061; omega)⟩ (Nat.le_of_ble_eq_true rfl) dL_law_711 rfl (fun r125 M124 h => ?_)
        refine g_iload (k0 := 5) (q := 716) dL_law_714 rfl rfl ?_
        refine g_ic_eq (tgt := 721) (q := 719) dL_law_716 rfl rfl (fun hc129 => ?_) (fun hc129 => ?_)
        · replace h := h.1 hc129
          refine g_iload (k0 := 5) (q := 723) dL_law_721 rfl rfl ?_
          refine g_if_ne (tgt := 738) (q := 726) dL_law_723 rfl rfl (fun hc128 => ?_) (fun hc128 => ?_)
          · replace h := h.1 hc128
            refine g_goto (tgt := 910) dL_law_738 rfl ?_
            refine g_iinc (lv' := [(0, .ref b), (1, .ref (eA E 0)), (2, .ref (eA E 35)), (3, .ref (eA E 62)), (4, .int (v4 + 7)), (5, .int r121), (6, .int r123)]) (k0 := 4) (w := (v4 + 7)) (q := 913) [1, 2, 3, 4, 0, 5, 6] dL_law_910 rfl rfl (by decide) rfl rfl ?_
            refine g_goto (tgt := 23) dL_law_913 rfl ?_
            refine g_lv (lv' := [(0, .ref b), (1, .ref (eA E 0)), (2, .ref (eA E 35)), (3, .ref (eA E 62)), (4, .int (v4 + 7))]) [0, 1, 2, 3, 4] rfl ?_
            exact ih _ _ _ _ (by omega) (by omega) h
          · replace h := h.2 hc128
            refine g_aloadn (k0 := 3) (q := 727) dL_law_726 rfl rfl rfl ?_
            refine g_iconst (q := 728) dL_law_727 ki_0 rfl ?_
            have hv126 := h.1
            replace h := h.2
            refine g_lald (v := (M124.2 62 0)) (q := 729) ar_62 hv126 rfl dL_law_728 rfl ?_
            refine g_iload (k0 := 6) (q := 731) dL_law_729 rfl rfl ?_
            refine g_i2l (q := 732) dL_law_731 rfl ?_
            refine g_lc_eq (tgt := 738) (q := 733) (q2 := 736) dL_law_732 rfl dL_law_733 rfl rfl (fun hc127 => ?_) (fun hc127 => ?_)
            · replace h := h.1 hc127
              refine g_goto (tgt := 910) dL_law_738 rfl ?_
              refine g_iinc (lv' := [(0, .ref b), (1, .ref (eA E 0)), (2, .ref (eA E 35)), (3, .ref (eA E 62)), (4, .int (v4 + 7)), (5, .int r121), (6, .int r123)]) (k0 := 4) (w := (v4 + 7)) (q := 913) [1, 2, 3, 4, 0, 5, 6] dL_law_910 rfl rfl (by decide) rfl rfl ?_
              refine g_goto (tgt := 23) dL_law_913 rfl ?_
              refine g_lv (lv' := [(0, .ref b), (1, .ref (eA E 0)), (2, .ref (eA E 35)), (3, .ref (eA E 62)), (4, .int (v4 + 7))]) [0, 1, 2, 3, 4] rfl ?_
              exact ih _ _ _ _ (by omega) (by omega) h
            · replace h := h.2 hc127
              refine g_iconst (q := 737) dL_law_736 ki_0 rfl ?_
              exact g_lawret hz dL_law_737 (by show nc + 1 ≤ 1092; omega) (by show ns + 6 ≤ 17061; omega) h
        · replace h := h.2 hc129
          refine g_iconst (q := 720) dL_law_719 ki_0 rfl ?_
          exact g_lawret hz dL_law_720 (by show nc + 1 ≤ 1092; omega) (by show ns + 6 ≤ 17061; omega) h
      replace h := h.2
      by_cases hc143 : ((xs v4.toNatClampNeg) &&& 31) = 14
      · replace h := h.1 hc143
        refine g_tin (tgt := 741) 14 (by rw [hc143]; decide) dL_law_40 (by decide) (by decide) rfl rfl ?_
        refine g_aloadn (k0 := 1) (q := 742) dL_law_741 rfl rfl rfl ?_
        refine g_aloadn (k0 := 0) (q := 743) dL_law_742 rfl rfl rfl ?_
        refine g_iload (k0 := 4) (q := 745) dL_law_743 rfl rfl ?_
        refine g_iconst (q := 746) dL_law_745 ki_1 rfl ?_
        refine g_iadd (q := 747) dL_law_746 rfl ?_
        have hv131 := h.1
        replace h := h.2
        refine g_sld (q := 748) hX hv131 dL_law_747 rfl ?_
        refine g_aloadn (k0 := 0) (q := 749) dL_law_748 rfl rfl rfl ?_
        refine g_iload (k0 := 4) (q := 751) dL_law_749 rfl rfl ?_
        refine g_iconst (q := 752) dL_law_751 ki_2 rfl ?_
        refine g_iadd (q := 753) dL_law_752 rfl ?_
        have hv132 := h.1
        replace h := h.2
        refine g_sld (q := 754) hX hv132 dL_law_753 rfl ?_
        refine g_aloadn (k0 := 3) (q := 755) dL_law_754 rfl rfl rfl ?_
        refine g_hcalli (q := 758) [.ref (eA E 0), .int (xs ((v4 + 1)).toNatClampNeg), .int (xs ((v4 + 2)).toNatClampNeg), .ref (eA E 62)] [] ch_L_96 (c_L_letter hE h) rfl rfl ⟨rfl, rfl, Nat.le_of_ble_eq_true rfl, Nat.le_of_ble_eq_true rfl, (by show nc + 1 ≤ 1092; omega), (by show ns + 6 ≤ 17061; omega)⟩ (Nat.le_of_ble_eq_true rfl) dL_law_755 rfl (fun r134 M133 h => ?_)
        refine g_istore (lv' := [(0, .ref b), (1, .ref (eA E 0)), (2, .ref (eA E 35)), (3, .ref (eA E 62)), (4, .int v4), (5, .int r134)]) (q := 760) [1, 2, 3, 4, 5, 0] dL_law_758 (by decide) rfl rfl ?_
        refine g_aloadn (k0 := 2) (q := 761) dL_law_760 rfl rfl rfl ?_
        refine g_aloadn (k0 := 0) (q := 762) dL_law_761 rfl rfl rfl ?_
        refine g_iload (k0 := 4) (q := 764) dL_law_762 rfl rfl ?_
        refine g_iconst (q := 765) dL_law_764 ki_1 rfl ?_
        refine g_iadd (q := 766) dL_law_765 rfl ?_
        refine g_sld (q := 767) hX hv131 dL_law_766 rfl ?_
        refine g_aloadn (k0 := 0) (q := 768) dL_law_767 rfl rfl rfl ?_
        refine g_iload (k0 := 4) (q := 770) dL_law_768 rfl rfl ?_
        refine g_iconst (q := 771) dL_law_770 ki_2 rfl ?_
        refine g_iadd (q := 772) dL_law_771 rfl ?_
        refine g_sld (q := 773) hX hv132 dL_law_772 rfl ?_
        refine g_calli (q := 776) [.int (xs ((v4 + 1)).toNatClampNeg), .int (xs ((v4 + 2)).toNatClampNeg)] [] cv_L_98 rc_35 (c_X11_letter hE h) rfl rfl ⟨rfl, rfl, Nat.le_of_ble_eq_true rfl, Nat.le_of_ble_eq_true rfl, (by show nc + 1 ≤ 1092; omega), (by show ns + 6 ≤ 17061; omega)⟩ (Nat.le_of_ble_eq_true rfl) dL_law_773 rfl (fun r136 M135 h => ?_)
        refine g_istore (lv' := [(0, .ref b), (1, .ref (eA E 0)), (2, .ref (eA E 35)), (3, .ref (eA E 62)), (4, .int v4), (5, .int r134), (6, .int r136)]) (q := 778) [1, 2, 3, 4, 5, 6, 0] dL_law_776 (by decide) rfl rfl ?_
        refine g_aloadn (k0 := 2) (q := 779) dL_law_778 rfl rfl rfl ?_
        refine g_calli (q := 782) [] [] cv_L_61 rc_35 (c_X11_thrown hE h) rfl rfl ⟨rfl, rfl, Nat.le_of_ble_eq_true rfl, Nat.le_of_ble_eq_true rfl, (by show nc + 1 ≤ 1092; omega), (by show ns + 6 ≤ 17061; omega)⟩ (Nat.le_of_ble_eq_true rfl) dL_law_779 rfl (fun r138 M137 h => ?_)
        refine g_iload (k0 := 5) (q := 784) dL_law_782 rfl rfl ?_
        refine g_ic_eq (tgt := 789) (q := 787) dL_law_784 rfl rfl (fun hc142 => ?_) (fun hc142 => ?_)
        · replace h := h.1 hc142
          refine g_iload (k0 := 5) (q := 791) dL_law_789 rfl rfl ?_
          refine g_if_ne (tgt := 806) (q := 794) dL_law_791 rfl rfl (fun hc141 => ?_) (fun hc141 => ?_)
          · replace h := h.1 hc141
            refine g_goto (tgt := 910) dL_law_806 rfl ?_
            refine g_iinc (lv' := [(0, .ref b), (1, .ref (eA E 0)), (2, .ref (eA E 35)), (3, .ref (eA E 62)), (4, .int (v4 + 7)), (5, .int r134), (6, .int r136)]) (k0 := 4) (w := (v4 + 7)) (q := 913) [1, 2, 3, 4, 0, 5, 6] dL_law_910 rfl rfl (by decide) rfl rfl ?_
            refine g_goto (tgt := 23) dL_law_913 rfl ?_
            refine g_lv (lv' := [(0, .ref b), (1, .ref (eA E 0)), (2, .ref (eA E 35)), (3, .ref (eA E 62)), (4, .int (v4 + 7))]) [0, 1, 2, 3, 4] rfl ?_
            exact ih _ _ _ _ (by omega) (by omega) h
          · replace h := h.2 hc141
            refine g_aloadn (k0 := 3) (q := 795) dL_law_794 rfl rfl rfl ?_
            refine g_iconst (q := 796) dL_law_795 ki_0 rfl ?_
            have hv139 := h.1
            replace h := h.2
            refine g_lald (v := (M137.2 62 0)) (q := 797) ar_62 hv139 rfl dL_law_796 rfl ?_
            refine g_iload (k0 := 6) (q := 799) dL_law_797 rfl rfl ?_
            refine g_i2l (q := 800) dL_law_799 rfl ?_
            refine g_lc_eq (tgt := 806) (q := 801) (q2 := 804) dL_law_800 rfl dL_law_801 rfl rfl (fun hc140 => ?_) (fun hc140 => ?_)
            · replace h := h.1 hc140
              refine g_goto (tgt := 910) dL_law_806 rfl ?_
              refine g_iinc (lv' := [(0, .ref b), (1, .ref (eA E 0)), (2, .ref (eA E 35)), (3, .ref (eA E 62)), (4, .int (v4 + 7)), (5, .int r134), (6, .int r136)]) (k0 := 4) (w := (v4 + 7)) (q := 913) [1, 2, 3, 4, 0, 5, 6] dL_law_910 rfl rfl (by decide) rfl rfl ?_
              refine g_goto (tgt := 23) dL_law_913 rfl ?_
              refine g_lv (lv' := [(0, .ref b), (1, .ref (eA E 0)), (2, .ref (eA E 35)), (3, .ref (eA E 62)), (4, .int (v4 + 7))]) [0, 1, 2, 3, 4] rfl ?_
              exact ih _ _ _ _ (by omega) (by omega) h
            · replace h := h.2 hc140
              refine g_iconst (q := 805) dL_law_804 ki_0 rfl ?_
              exact g_lawret hz dL_law_805 (by show nc + 1 ≤ 1092; omega) (by show ns + 6 ≤ 17061; omega) h
        · replace h := h.2 hc142
          refine g_iconst (q := 788) dL_law_787 ki_0 rfl ?_
          exact g_lawret hz dL_law_788 (by show nc + 1 ≤ 1092; omega) (by show ns + 6 ≤ 17061; omega) h
      replace h := h.2
      by_cases hc151 : ((xs v4.toNatClampNeg) &&& 31) = 15
      · replace h := h.1 hc151
        refine g_tin (tgt := 809) 15 (by rw [hc151]; decide) dL_law_40 (by decide) (by decide) rfl rfl ?_
        refine g_aloadn (k0 := 1) (q := 810) dL_law_809 rfl rfl rfl ?_
        refine g_aloadn (k0 := 0) (q := 811) dL_law_810 rfl rfl rfl ?_
        refine g_iload (k0 := 4) (q := 813) dL_law_811 rfl rfl ?_
        refine g_iconst (q := 814) dL_law_813 ki_1 rfl ?_
        refine g_iadd (q := 815) dL_law_814 rfl ?_
        have hv144 := h.1
        replace h := h.2
        refine g_sld (q := 816) hX hv144 dL_law_815 rfl ?_
        refine g_aloadn (k0 := 0) (q := 817) dL_law_816 rfl rfl rfl ?_
        refine g_iload (k0 := 4) (q := 819) dL_law_817 rfl rfl ?_
        refine g_iconst (q := 820) dL_law_819 ki_2 rfl ?_
        refine g_iadd (q := 821) dL_law_820 rfl ?_
        have hv145 := h.1
        replace h := h.2
        refine g_sld (q := 822) hX hv145 dL_law_821 rfl ?_
        refine g_calll (q := 825) [.int (xs ((v4 + 1)).toNatClampNeg), .int (xs ((v4 + 2)).toNatClampNeg)] [] cv_L_99 rc_0 (c_X10_meet hE h) rfl rfl ⟨rfl, rfl, Nat.le_of_ble_eq_true rfl, Nat.le_of_ble_eq_true rfl, (by show nc ≤ 1092; omega), (by show ns ≤ 17061; omega)⟩ (Nat.le_of_ble_eq_true rfl) dL_law_822 rfl (fun r147 M146 h => ?_)
        refine g_aloadn (k0 := 2) (q := 826) dL_law_825 rfl rfl rfl ?_
        refine g_aloadn (k0 := 0) (q := 827) dL_law_826 rfl rfl rfl ?_
        refine g_iload (k0 := 4) (q := 829) dL_law_827 rfl rfl ?_
        refine g_iconst (q := 830) dL_law_829 ki_1 rfl ?_
        refine g_iadd (q := 831) dL_law_830 rfl ?_
        refine g_sld (q := 832) hX hv144 dL_law_831 rfl ?_
        refine g_aloadn (k0 := 0) (q := 833) dL_law_832 rfl rfl rfl ?_
        refine g_iload (k0 := 4) (q := 835) dL_law_833 rfl rfl ?_
        refine g_iconst (q := 836) dL_law_835 ki_2 rfl ?_
        refine g_iadd (q := 837) dL_law_836 rfl ?_
        refine g_sld (q := 838) hX hv145 dL_law_837 rfl ?_
        refine g_calll (q := 841) [.int (xs ((v4 + 1)).toNatClampNeg), .int (xs ((v4 + 2)).toNatClampNeg)] [.long r147] cv_L_103 rc_35 (c_X11_meet hE h) rfl rfl ⟨rfl, rfl, Nat.le_of_ble_eq_true rfl, Nat.le_of_ble_eq_true rfl, (by show nc ≤ 1092; omega), (by show ns ≤ 17061; omega)⟩ (Nat.le_of_ble_eq_true rfl) dL_law_838 rfl (fun r149 M148 h => ?_)
        refine g_lc_eq (tgt := 910) (q := 842) (q2 := 845) dL_law_841 rfl dL_law_842 rfl rfl (fun hc150 => ?_) (fun hc150 => ?_)
        · replace h := h.1 hc150
          refine g_iinc (lv' := [(0, .ref b), (1, .ref (eA E 0)), (2, .ref (eA E 35)), (3, .ref (eA E 62)), (4, .int (v4 + 7))]) (k0 := 4) (w := (v4 + 7)) (q := 913) [1, 2, 3, 4, 0] dL_law_910 rfl rfl (by decide) rfl rfl ?_
          refine g_goto (tgt := 23) dL_law_913 rfl ?_
          exact ih _ _ _ _ (by omega) (by omega) h
        · replace h := h.2 hc150
          refine g_iconst (q := 846) dL_law_845 ki_0 rfl ?_
          exact g_lawret hz dL_law_846 (by show nc ≤ 1092; omega) (by show ns ≤ 17061; omega) h
      replace h := h.2
      by_cases hc157 : ((xs v4.toNatClampNeg) &&& 31) = 16
      · replace h := h.1 hc157
        refine g_tin (tgt := 847) 16 (by rw [hc157]; decide) dL_law_40 (by decide) (by decide) rfl rfl ?_
        refine g_aloadn (k0 := 1) (q := 848) dL_law_847 rfl rfl rfl ?_
        refine g_calli (q := 851) [] [] cv_L_104 rc_0 (c_X10_when hE h) rfl rfl ⟨rfl, rfl, Nat.le_of_ble_eq_true rfl, Nat.le_of_ble_eq_true rfl, (by show nc ≤ 1092; omega), (by show ns ≤ 17061; omega)⟩ (Nat.le_of_ble_eq_true rfl) dL_law_848 rfl (fun r153 M152 h => ?_)
        refine g_aloadn (k0 := 2) (q := 852) dL_law_851 rfl rfl rfl ?_
        refine g_calli (q := 855) [] [.int r153] cv_L_107 rc_35 (c_X11_when hE h) rfl rfl ⟨rfl, rfl, Nat.le_of_ble_eq_true rfl, Nat.le_of_ble_eq_true rfl, (by show nc ≤ 1092; omega), (by show ns ≤ 17061; omega)⟩ (Nat.le_of_ble_eq_true rfl) dL_law_852 rfl (fun r155 M154 h => ?_)
        refine g_ic_eq (tgt := 910) (q := 858) dL_law_855 rfl rfl (fun hc156 => ?_) (fun hc156 => ?_)
        · replace h := h.1 hc156
          refine g_iinc (lv' := [(0, .ref b), (1, .ref (eA E 0)), (2, .ref (eA E 35)), (3, .ref (eA E 62)), (4, .int (v4 + 7))]) (k0 := 4) (w := (v4 + 7)) (q := 913) [1, 2, 3, 4, 0] dL_law_910 rfl rfl (by decide) rfl rfl ?_
          refine g_goto (tgt := 23) dL_law_913 rfl ?_
          exact ih _ _ _ _ (by omega) (by omega) h
        · replace h := h.2 hc156
          refine g_iconst (q := 859) dL_law_858 ki_0 rfl ?_
          exact g_lawret hz dL_law_859 (by show nc ≤ 1092; omega) (by show ns ≤ 17061; omega) h
      replace h := h.2
      by_cases hc164 : ((xs v4.toNatClampNeg) &&& 31) = 17
      · replace h := h.1 hc164
        refine g_tin (tgt := 860) 17 (by rw [hc164]; decide) dL_law_40 (by decide) (by decide) rfl rfl ?_
        refine g_aloadn (k0 := 1) (q := 861) dL_law_860 rfl rfl rfl ?_
        refine g_aloadn (k0 := 0) (q := 862) dL_law_861 rfl rfl rfl ?_
        refine g_iload (k0 := 4) (q := 864) dL_law_862 rfl rfl ?_
        refine g_iconst (q := 865) dL_law_864 ki_1 rfl ?_
        refine g_iadd (q := 866) dL_law_865 rfl ?_
        have hv158 := h.1
        replace h := h.2
        refine g_sld (q := 867) hX hv158 dL_law_866 rfl ?_
        refine g_calli (q := 870) [.int (xs ((v4 + 1)).toNatClampNeg)] [] cv_L_108 rc_0 (c_X10_size hE h) rfl rfl ⟨rfl, rfl, Nat.le_of_ble_eq_true rfl, Nat.le_of_ble_eq_true rfl, (by show nc ≤ 1092; omega), (by show ns ≤ 17061; omega)⟩ (Nat.le_of_ble_eq_true rfl) dL_law_867 rfl (fun r160 M159 h => ?_)
        refine g_aloadn (k0 := 2) (q := 871) dL_law_870 rfl rfl rfl ?_
        refine g_aloadn (k0 := 0) (q := 872) dL_law_871 rfl rfl rfl ?_
        refine g_iload (k0 := 4) (q := 874) dL_law_872 rfl rfl ?_
        refine g_iconst (q := 875) dL_law_874 ki_1 rfl ?_
        refine g_iadd (q := 876) dL_law_875 rfl ?_
        refine g_sld (q := 877) hX hv158 dL_law_876 rfl ?_
        refine g_calli (q := 880) [.int (xs ((v4 + 1)).toNatClampNeg)] [.int r160] cv_L_111 rc_35 (c_X11_size hE h) rfl rfl ⟨rfl, rfl, Nat.le_of_ble_eq_true rfl, Nat.le_of_ble_eq_true rfl, (by show nc ≤ 1092; omega), (by show ns ≤ 17061; omega)⟩ (Nat.le_of_ble_eq_true rfl) dL_law_877 rfl (fun r162 M161 h => ?_)
        refine g_ic_eq (tgt := 910) (q := 883) dL_law_880 rfl rfl (fun hc163 => ?_) (fun hc163 => ?_)
        · replace h := h.1 hc163
          refine g_iinc (lv' := [(0, .ref b), (1, .ref (eA E 0)), (2, .ref (eA E 35)), (3, .ref (eA E 62)), (4, .int (v4 + 7))]) (k0 := 4) (w := (v4 + 7)) (q := 913) [1, 2, 3, 4, 0] dL_law_910 rfl rfl (by decide) rfl rfl ?_
          refine g_goto (tgt := 23) dL_law_913 rfl ?_
          exact ih _ _ _ _ (by omega) (by omega) h
        · replace h := h.2 hc163
          refine g_iconst (q := 884) dL_law_883 ki_0 rfl ?_
          exact g_lawret hz dL_law_884 (by show nc ≤ 1092; omega) (by show ns ≤ 17061; omega) h
      replace h := h.2
      by_cases hc171 : ((xs v4.toNatClampNeg) &&& 31) = 18
      · replace h := h.1 hc171
        refine g_tin (tgt := 885) 18 (by rw [hc171]; decide) dL_law_40 (by decide) (by decide) rfl rfl ?_
        refine g_aloadn (k0 := 1) (q := 886) dL_law_885 rfl rfl rfl ?_
        refine g_aloadn (k0 := 0) (q := 887) dL_law_886 rfl rfl rfl ?_
        refine g_iload (k0 := 4) (q := 889) dL_law_887 rfl rfl ?_
        refine g_iconst (q := 890) dL_law_889 ki_1 rfl ?_
        refine g_iadd (q := 891) dL_law_890 rfl ?_
        have hv165 := h.1
        replace h := h.2
        refine g_sld (q := 892) hX hv165 dL_law_891 rfl ?_
        refine g_calli (q := 895) [.int (xs ((v4 + 1)).toNatClampNeg)] [] cv_L_112 rc_0 (c_X10_count hE h) rfl rfl ⟨rfl, rfl, Nat.le_of_ble_eq_true rfl, Nat.le_of_ble_eq_true rfl, (by show nc ≤ 1092; omega), (by show ns ≤ 17061; omega)⟩ (Nat.le_of_ble_eq_true rfl) dL_law_892 rfl (fun r167 M166 h => ?_)
        refine g_aloadn (k0 := 2) (q := 896) dL_law_895 rfl rfl rfl ?_
        refine g_aloadn (k0 := 0) (q := 897) dL_law_896 rfl rfl rfl ?_
        refine g_iload (k0 := 4) (q := 899) dL_law_897 rfl rfl ?_
        refine g_iconst (q := 900) dL_law_899 ki_1 rfl ?_
        refine g_iadd (q := 901) dL_law_900 rfl ?_
        refine g_sld (q := 902) hX hv165 dL_law_901 rfl ?_
        refine g_calli (q := 905) [.int (xs ((v4 + 1)).toNatClampNeg)] [.int r167] cv_L_115 rc_35 (c_X11_count hE h) rfl rfl ⟨rfl, rfl, Nat.le_of_ble_eq_true rfl, Nat.le_of_ble_eq_true rfl, (by show nc ≤ 1092; omega), (by show ns ≤ 17061; omega)⟩ (Nat.le_of_ble_eq_true rfl) dL_law_902 rfl (fun r169 M168 h => ?_)
        refine g_ic_eq (tgt := 910) (q := 908) dL_law_905 rfl rfl (fun hc170 => ?_) (fun hc170 => ?_)
        · replace h := h.1 hc170
          refine g_iinc (lv' := [(0, .ref b), (1, .ref (eA E 0)), (2, .ref (eA E 35)), (3, .ref (eA E 62)), (4, .int (v4 + 7))]) (k0 := 4) (w := (v4 + 7)) (q := 913) [1, 2, 3, 4, 0] dL_law_910 rfl rfl (by decide) rfl rfl ?_
          refine g_goto (tgt := 23) dL_law_913 rfl ?_
          exact ih _ _ _ _ (by omega) (by omega) h
        · replace h := h.2 hc170
          refine g_iconst (q := 909) dL_law_908 ki_0 rfl ?_
          exact g_lawret hz dL_law_909 (by show nc ≤ 1092; omega) (by show ns ≤ 17061; omega) h
      replace h := h.2
      replace h := h hc12 hc19 hc26 hc33 hc45 hc57 hc70 hc78 hc84 hc92 hc98 hc111 hc117 hc130 hc143 hc151 hc157 hc164 hc171
      refine g_tout (tgt := 910) dL_law_40 (sw_out 0 19 (fun i hi => by rcases (show i = 0 ∨ i = 1 ∨ i = 2 ∨ i = 3 ∨ i = 4 ∨ i = 5 ∨ i = 6 ∨ i = 7 ∨ i = 8 ∨ i = 9 ∨ i = 10 ∨ i = 11 ∨ i = 12 ∨ i = 13 ∨ i = 14 ∨ i = 15 ∨ i = 16 ∨ i = 17 ∨ i = 18 by omega) with rfl | rfl | rfl | rfl | rfl | rfl | rfl | rfl | rfl | rfl | rfl | rfl | rfl | rfl | rfl | rfl | rfl | rfl | rfl <;> assumption)) rfl ?_
      refine g_iinc (lv' := [(0, .ref b), (1, .ref (eA E 0)), (2, .ref (eA E 35)), (3, .ref (eA E 62)), (4, .int (v4 + 7))]) (k0 := 4) (w := (v4 + 7)) (q := 913) [1, 2, 3, 4, 0] dL_law_910 rfl rfl (by decide) rfl rfl ?_
      refine g_goto (tgt := 23) dL_law_913 rfl ?_
      exact ih _ _ _ _ (by omega) (by omega) h
