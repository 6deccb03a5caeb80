/-! a frame is noted: the log -/
theorem P_logadd {Q : Int32 → Mem → Prop} {M : Mem} {e : Nat} {a b : Int32} (h11 : M.1 11 1 = nI e) (he : e < 200)
    (hQ : ∀ N, Same [11, 12] M N → N.1 11 1 = nI (e + 1) → (∀ j, j < 8 * e → N.1 12 j = M.1 12 j) → N.1 12 (8 * e) = M.1 7 1 → N.1 12 (8 * e + 1) = M.1 7 2 → N.1 12 (8 * e + 2) = a → N.1 12 (8 * e + 3) = b → (∀ i, i < 4 → N.1 12 (8 * e + 4 + i) = M.1 8 i) → Q (nI e) N) : P_Log_add a b M Q := by
  unfold P_Log_add P_Telling_kind P_Telling_ship
  try dsimp only
  have i0 : nI e * 8 = nI (8 * e) := by rw [show (8 : Int32) = nI 8 from rfl, pk_mul, Nat.mul_comm]
  rw [h11, i0, show nI (8 * e) + 0 = nI (8 * e) from nI_add (8 * e) 0, show nI (8 * e) + 1 = nI (8 * e + 1) from nI_add (8 * e) 1, show nI (8 * e) + 2 = nI (8 * e + 2) from nI_add (8 * e) 2, show nI (8 * e) + 3 = nI (8 * e + 3) from nI_add (8 * e) 3,
    cl_nI (n := 8 * e) (by omega), cl_nI (n := 8 * e + 1) (by omega), cl_nI (n := 8 * e + 2) (by omega), cl_nI (n := 8 * e + 3) (by omega)]
  refine br_T ((nlt_of (a := 200) (by omega) (by omega)).mpr he) ⟨in_nI (by omega) (by omega), in_nI (by omega) (by omega), in_nI (by omega) (by omega), in_nI (by omega) (by omega), ?_⟩
  rw [show (putI M 12 (8 * e) (M.1 7 1)).1 7 2 = M.1 7 2 from rfl]
  generalize hN0 : putI (putI (putI (putI M 12 (8 * e) (M.1 7 1)) 12 (8 * e + 1) (M.1 7 2)) 12 (8 * e + 2) a) 12 (8 * e + 3) b = N0
  have s0 : Same [12] M N0 := by
    rw [← hN0]
    exact ((((Same.refl _ _).putI (by simp)).putI (by simp)).putI (by simp)).putI (by simp)
  have r_lo : ∀ j, j < 8 * e → N0.1 12 j = M.1 12 j := fun j hj => by
    rw [← hN0, putI_at, if_neg (by omega), putI_at, if_neg (by omega), putI_at, if_neg (by omega), putI_at, if_neg (by omega)]
  have r_0 : N0.1 12 (8 * e) = M.1 7 1 := by
    rw [← hN0, putI_at, if_neg (by omega), putI_at, if_neg (by omega), putI_at, if_neg (by omega), putI_at, if_pos ⟨rfl, rfl⟩]
  have r_1 : N0.1 12 (8 * e + 1) = M.1 7 2 := by
    rw [← hN0, putI_at, if_neg (by omega), putI_at, if_neg (by omega), putI_at, if_pos ⟨rfl, rfl⟩]
  have r_2 : N0.1 12 (8 * e + 2) = a := by
    rw [← hN0, putI_at, if_neg (by omega), putI_at, if_pos ⟨rfl, rfl⟩]
  have r_3 : N0.1 12 (8 * e + 3) = b := by
    rw [← hN0, putI_at, if_pos ⟨rfl, rfl⟩]
  have key : ∀ d i, i + d = 4 → ∀ N, Same [12] M N → (∀ j, j < 8 * e + 4 → N.1 12 j = N0.1 12 j) → (∀ p, p < i → N.1 12 (8 * e + 4 + p) = M.1 8 p) → P_Log_add_70 Q (d + 1) (nI (8 * e)) (nI i) N := by
    intro d
    induction d with
    | zero =>
      intro i hi N hS h1 h2
      have : i = 4 := by omega
      subst this
      unfold P_Log_add_70
      have e11 : N.1 11 1 = nI e := by rw [(hS 11 (by decide)).1]; exact h11
      rw [e11, nI_1, show nI (e + 1) - 1 = nI e from pk_sub (a := e + 1) (b := 1) (by omega)]
      refine br_T (nI_le (a := 4) (by omega) (by omega)) (hQ _ ((hS.mono (by simp)).putI (by simp)) rfl (fun j hj => ?_) ?_ ?_ ?_ ?_ h2)
      · exact (h1 j (by omega)).trans (r_lo j hj)
      · exact (h1 _ (by omega)).trans r_0
      · exact (h1 _ (by omega)).trans r_1
      · exact (h1 _ (by omega)).trans r_2
      · exact (h1 _ (by omega)).trans r_3
    | succ d ih =>
      intro i hi N hS h1 h2
      unfold P_Log_add_70 P_Telling_number
      try dsimp only
      rw [show nI (8 * e) + 4 = nI (8 * e + 4) from nI_add (8 * e) 4, nI_add (8 * e + 4) i, cl_nI (n := 8 * e + 4 + i) (by omega), cl_nI (n := i) (by omega), nI_1 i]
      refine br_F (nI_ge (b := 4) (by omega) (by omega)) (br_F (nI_pos (by omega)) (br_F (nI_ge (b := 4) (by omega) (by omega)) ⟨in_nI (by omega) (by omega), in_nI (by omega) (by omega), ih (i + 1) (by omega) _ (hS.putI (by simp)) (fun j hj => ?_) (fun p hp => ?_)⟩))
      · rw [putI_at, if_neg (by omega)]; exact h1 j hj
      · rw [putI_at]
        by_cases hpi : p = i
        · rw [if_pos ⟨rfl, by omega⟩, hpi, (hS 8 (by decide)).1]
        · rw [if_neg (by omega)]; exact h2 p (by omega)
  exact ⟨5, key 4 0 rfl N0 s0 (fun _ _ => rfl) (fun p hp => absurd hp (Nat.not_lt_zero _))⟩
theorem P_logfull {Q : Int32 → Mem → Prop} {M : Mem} {a b : Int32} (h11 : M.1 11 1 = nI 200) (hQ : Q (-1) M) : P_Log_add a b M Q := by
  unfold P_Log_add
  rw [h11]
  exact br_F (by decide) hQ
/-! the model's note -/
def lgB (g : Nat → Int32) (e : Nat) (K S ch now : Int32) : Nat → Int32 := upd (upd (upd (upd g (8 * e) K) (8 * e + 1) S) (8 * e + 2) ch) (8 * e + 3) now
def lgF (h : Nat → Int32) (e : Nat) (F : Nat → Int32) : Nat → Nat → Int32
  | 0 => h
  | i + 1 => upd (lgF h e F i) (8 * e + 4 + i) (F i)
theorem lgF_lo {h F : Nat → Int32} {e n j : Nat} (hj : j < 8 * e + 4) : lgF h e F n j = h j := by
  induction n with
  | zero => rfl
  | succ n ih =>
    unfold lgF upd
    rw [if_neg (by omega)]
    exact ih
theorem lgF_at {h F : Nat → Int32} {e n i : Nat} (hi : i < n) : lgF h e F n (8 * e + 4 + i) = F i := by
  induction n with
  | zero => exact absurd hi (Nat.not_lt_zero _)
  | succ n ih =>
    unfold lgF upd
    by_cases hp : i = n
    · rw [if_pos (by omega), hp]
    · rw [if_neg (by omega)]
      exact ih (by omega)
theorem lgB_lo {g : Nat → Int32} {e j : Nat} {K S ch now : Int32} (hj : j < 8 * e) : lgB g e K S ch now j = g j := by
  unfold lgB upd
  rw [if_neg (by omega), if_neg (by omega), if_neg (by omega), if_neg (by omega)]
theorem lgB_0 {g : Nat → Int32} {e : Nat} {K S ch now : Int32} : lgB g e K S ch now (8 * e) = K := by
  unfold lgB upd
  rw [if_neg (by omega), if_neg (by omega), if_neg (by omega), if_pos rfl]
theorem lgB_1 {g : Nat → Int32} {e : Nat} {K S ch now : Int32} : lgB g e K S ch now (8 * e + 1) = S := by
  unfold lgB upd
  rw [if_neg (by omega), if_neg (by omega), if_pos rfl]
theorem lgB_2 {g : Nat → Int32} {e : Nat} {K S ch now : Int32} : lgB g e K S ch now (8 * e + 2) = ch := by
  unfold lgB upd
  rw [if_neg (by omega), if_pos rfl]
theorem lgB_3 {g : Nat → Int32} {e : Nat} {K S ch now : Int32} : lgB g e K S ch now (8 * e + 3) = now := by
  unfold lgB upd
  rw [if_pos rfl]
def mN2 (ch L e : Nat) (Y : Mem) : Mem := putI (putI (setRow Y 41 (lgF (lgB (Y.1 41) e (rK (Y.1 40) (300 * ch) L) (rS (Y.1 40) (300 * ch) L) (nI ch) (Y.1 35 7)) e (rF (Y.1 40) (300 * ch) L) 4)) 42 e 0) 35 11 (nI (e + 1))
theorem P_monote_133 {Q : Mem → Prop} {Y : Mem} {ch L e k : Nat} {s0 : Int32} (he : e < 200) (h11 : Y.1 35 11 = nI e) (hk : k < 16)
    (hs : s0 = if fB (Y.1 40) (300 * ch) L then 1 else 0) (hk2 : rv (Y.1 40) (300 * ch) 4 = k)
    (h43 : fB (Y.1 40) (300 * ch) L = true → ∀ i, i < 4 → Y.1 43 i = fv (Y.1 40) (300 * ch) k i)
    (hno : ¬ (fB (Y.1 40) (300 * ch) L = true ∧ k = 4) → Q (mN2 ch L e Y))
    (hj : fB (Y.1 40) (300 * ch) L = true → k = 4 → P_Mo_join (nI e) (mN2 ch L e Y) Q) :
    P_Mo_note_133 Q (nI ch) (nI k) s0 (nI (8 * e)) (rS (Y.1 40) (300 * ch) L) (nI (8 * e + 1)) (putI Y 41 (8 * e) (rK (Y.1 40) (300 * ch) L)) := by
  unfold P_Mo_note_133
  rw [show nI (8 * e) + 2 = nI (8 * e + 2) from nI_add (8 * e) 2, show nI (8 * e) + 3 = nI (8 * e + 3) from nI_add (8 * e) 3, cl_nI (n := 8 * e + 1) (by omega), cl_nI (n := 8 * e + 2) (by omega), cl_nI (n := 8 * e + 3) (by omega)]
  refine ⟨in_nI (by omega) (by omega), in_nI (by omega) (by omega), in_nI (by omega) (by omega), ?_⟩
  rw [show (putI Y 41 (8 * e) (rK (Y.1 40) (300 * ch) L)).1 35 7 = Y.1 35 7 from rfl, putI_row Y 41, setRow_put, setRow_put, setRow_put]
  have key : ∀ d i, i + d = 4 → P_Mo_note_160 Q (d + 1) (nI k) s0 (nI (8 * e)) (nI i) (setRow Y 41 (lgF (lgB (Y.1 41) e (rK (Y.1 40) (300 * ch) L) (rS (Y.1 40) (300 * ch) L) (nI ch) (Y.1 35 7)) e (rF (Y.1 40) (300 * ch) L) i)) := by
    intro d
    induction d with
    | zero =>
      intro i hi
      have : i = 4 := by omega
      subst this
      unfold P_Mo_note_160
      have e11 : (setRow Y 41 (lgF (lgB (Y.1 41) e (rK (Y.1 40) (300 * ch) L) (rS (Y.1 40) (300 * ch) L) (nI ch) (Y.1 35 7)) e (rF (Y.1 40) (300 * ch) L) 4)).1 35 11 = nI e := h11
      rw [e11, cl_nI (n := e) (by omega), nI_1 e, show nI (e + 1) - 1 = nI e from pk_sub (a := e + 1) (b := 1) (by omega)]
      refine br_T (nI_le (a := 4) (by omega) (by omega)) ⟨in_nI he (by omega), ?_⟩
      cases hb : fB (Y.1 40) (300 * ch) L
      · rw [hb] at hs
        exact br_T hs (hno (by simp [hb]))
      · rw [hb] at hs
        refine br_F (by rw [hs]; decide) ⟨fun h4 => hno (fun x => h4 (by rw [x.2]; rfl)), fun h4 => hj hb ((nI_eq (b := 4) (by omega) (by omega)).mp h4)⟩
    | succ d ih =>
      intro i hi
      have n : P_Mo_note_160 Q (d + 1) (nI k) s0 (nI (8 * e)) (nI (i + 1)) (setRow Y 41 (upd (lgF (lgB (Y.1 41) e (rK (Y.1 40) (300 * ch) L) (rS (Y.1 40) (300 * ch) L) (nI ch) (Y.1 35 7)) e (rF (Y.1 40) (300 * ch) L) i) (8 * e + 4 + i) (rF (Y.1 40) (300 * ch) L i))) := ih (i + 1) (by omega)
      unfold P_Mo_note_160
      rw [show nI (8 * e) + 4 = nI (8 * e + 4) from nI_add (8 * e) 4, nI_add (8 * e + 4) i, cl_nI (n := 8 * e + 4 + i) (by omega), cl_nI (n := i) (by omega), nI_1 i, setRow_put, setRow_put]
      refine br_F (nI_ge (b := 4) (by omega) (by omega)) ?_
      cases hb : fB (Y.1 40) (300 * ch) L
      · rw [hb] at hs
        refine br_T hs ⟨in_nI (by omega) (by omega), ?_⟩
        rw [show rF (Y.1 40) (300 * ch) L i = -1 by unfold rF; rw [hb]; rfl] at n
        exact n
      · rw [hb] at hs
        refine br_F (by rw [hs]; decide) ⟨in_nI (by omega) (by omega), in_nI (by omega) (by omega), ?_⟩
        have e43 : (setRow Y 41 (lgF (lgB (Y.1 41) e (rK (Y.1 40) (300 * ch) L) (rS (Y.1 40) (300 * ch) L) (nI ch) (Y.1 35 7)) e (rF (Y.1 40) (300 * ch) L) i)).1 43 i = rF (Y.1 40) (300 * ch) L i := by
          show Y.1 43 i = rF (Y.1 40) (300 * ch) L i
          rw [h43 hb i (by omega)]
          unfold rF
          rw [hb, hk2]
          rfl
        rw [e43]
        exact n
  exact ⟨5, key 4 0 rfl⟩
theorem P_monote_69 {Q : Mem → Prop} {Y : Mem} {ch L e k : Nat} {s0 : Int32} (hch : ch < 2) (hL : L ≤ 284) (he : e ≤ 200) (h11 : Y.1 35 11 = nI e) (hb40 : BitsOk (Y.1 40) (300 * ch) L)
    (hs : s0 = if fB (Y.1 40) (300 * ch) L then 1 else 0) (hk2 : rv (Y.1 40) (300 * ch) 4 = k)
    (h43 : fB (Y.1 40) (300 * ch) L = true → ∀ i, i < 4 → Y.1 43 i = fv (Y.1 40) (300 * ch) k i)
    (h200 : e = 200 → Q Y)
    (hno : e < 200 → ¬ (fB (Y.1 40) (300 * ch) L = true ∧ k = 4) → Q (mN2 ch L e Y))
    (hj : e < 200 → fB (Y.1 40) (300 * ch) L = true → k = 4 → P_Mo_join (nI e) (mN2 ch L e Y) Q) :
    P_Mo_note_69 Q (nI ch) (nI (300 * ch)) (nI k) s0 Y := by
  have hk16 : k < 16 := by rw [← hk2]; exact rv_lt _ _ 4
  unfold P_Mo_note_69
  rw [h11, ix_m0]
  refine ⟨fun h => ?_, fun h => h200 ((nI_eq (b := 200) (by omega) (by omega)).mp h)⟩
  have he2 : e < 200 := by
    rcases Nat.lt_or_ge e 200 with z | z
    · exact z
    · exact absurd (by rw [show e = 200 by omega]; rfl) h
  have main := P_monote_133 (s0 := s0) he2 h11 hk16 hs hk2 h43 (hno he2) (hj he2)
  unfold P_Mo_note_106
  rw [cl_nI (n := 8 * e) (by omega), show nI (8 * e) + 1 = nI (8 * e + 1) from nI_add (8 * e) 1]
  cases hb : fB (Y.1 40) (300 * ch) L
  · have eK : rK (Y.1 40) (300 * ch) L = 0 := by unfold rK; rw [hb]; rfl
    have eS : rS (Y.1 40) (300 * ch) L = -1 := by unfold rS; rw [hb]; rfl
    rw [hb] at hs
    rw [eK, eS] at main
    exact br_T hs ⟨in_nI (by omega) (by omega), br_T hs main⟩
  · have eK : rK (Y.1 40) (300 * ch) L = nI k := by unfold rK; rw [hb, hk2]; rfl
    have eS : rS (Y.1 40) (300 * ch) L = nI (rv (Y.1 40) (300 * ch + 4) 20) := by unfold rS; rw [hb]; rfl
    have hs1 : ¬ s0 = 0 := by rw [hs, hb]; decide
    have hL24 : 24 ≤ L := by
      unfold fB lenB at hb
      simp at hb
      omega
    rw [eK, eS] at main
    refine br_F hs1 ⟨in_nI (by omega) (by omega), br_F hs1 ?_⟩
    rw [show nI (300 * ch) + 4 = nI (300 * ch + 4) from nI_add _ 4]
    exact P_moread (M := putI Y 41 (8 * e) (nI k)) (n := 20) (fun i hi => by have := hb40 (4 + i) (by omega); show Y.1 40 _ = 0 ∨ Y.1 40 _ = 1; rwa [← Nat.add_assoc] at this) (by omega) (by omega) main
def mN1 (ch L : Nat) (Y : Mem) : Mem :=
  if fB (Y.1 40) (300 * ch) L then setRow (putI Y 35 12 (Y.1 35 12 + 1)) 43 (ff (Y.1 40) (300 * ch) (rv (Y.1 40) (300 * ch) 4) L (Y.1 43))
  else if 24 ≤ L then putI (setRow (putI Y 35 12 (Y.1 35 12 + 1)) 43 (ff (Y.1 40) (300 * ch) (rv (Y.1 40) (300 * ch) 4) L (Y.1 43))) 35 13 (Y.1 35 13 + 1)
  else putI (putI Y 35 12 (Y.1 35 12 + 1)) 35 13 (Y.1 35 13 + 1)
theorem P_monote {Q : Mem → Prop} {Y : Mem} {ch L e : Nat} (hch : ch < 2) (hL : L ≤ 284) (hL8 : 8 ≤ L) (he : e ≤ 200) (h11 : Y.1 35 11 = nI e) (hb40 : BitsOk (Y.1 40) (300 * ch) L)
    (h200 : e = 200 → Q (mN1 ch L Y))
    (hno : e < 200 → ¬ (fB (Y.1 40) (300 * ch) L = true ∧ rv (Y.1 40) (300 * ch) 4 = 4) → Q (mN2 ch L e (mN1 ch L Y)))
    (hj : e < 200 → fB (Y.1 40) (300 * ch) L = true → rv (Y.1 40) (300 * ch) 4 = 4 → P_Mo_join (nI e) (mN2 ch L e (mN1 ch L Y)) Q) :
    P_Mo_note (nI ch) (nI L) Y Q := by
  unfold P_Mo_note
  rw [show (300 : Int32) * nI ch = nI (300 * ch) from pk_mul 300 ch]
  refine P_moread (M := putI Y 35 12 (Y.1 35 12 + 1)) (n := 4) (fun i hi => hb40 i (by omega)) (by omega) (by omega) ?_
  rw [show (putI Y 35 12 (Y.1 35 12 + 1)).1 40 = Y.1 40 from rfl]
  have hk16 := rv_lt (Y.1 40) (300 * ch) 4
  unfold mN1 at h200 hno hj
  refine ⟨fun hl => ?_, fun hl => ?_⟩
  · have hl : L < 24 := (nlt_of (a := 24) (by omega) (by omega)).mp hl
    have hf : fB (Y.1 40) (300 * ch) L = false := by unfold fB lenB; simp [show ¬ 24 ≤ L by omega]
    rw [hf] at h200 hno hj
    rw [if_neg (by decide), if_neg (by omega)] at h200 hno hj
    unfold P_Mo_note_51 P_Mo_note_52
    refine br_T' rfl (P_monote_69 (L := L) (e := e) (k := rv (Y.1 40) (300 * ch) 4) hch hL he h11 hb40 (by show (0 : Int32) = if fB (Y.1 40) (300 * ch) L then 1 else 0; rw [hf]; rfl) rfl (fun x => by rw [show fB (Y.1 40) (300 * ch) L = true from x] at hf; cases hf) h200 (fun h1 h2 => hno h1 (by simp)) (fun h1 h2 => by rw [show fB (Y.1 40) (300 * ch) L = true from h2] at hf; cases hf))
  · have hl : 24 ≤ L := by
      rcases Nat.lt_or_ge L 24 with z | z
      · exact absurd ((nlt_of (a := 24) (by omega) (by omega)).mpr z) hl
      · exact z
    rw [show nI (300 * ch) + 24 = nI (300 * ch + 24) from nI_add _ 24, show nI L - 24 = nI (L - 24) from pk_sub (b := 24) hl]
    refine P_mofields (M := putI Y 35 12 (Y.1 35 12 + 1)) hk16 hl hL (by omega) hb40 ?_
    rw [show (putI Y 35 12 (Y.1 35 12 + 1)).1 40 = Y.1 40 from rfl, show (putI Y 35 12 (Y.1 35 12 + 1)).1 43 = Y.1 43 from rfl, show (lenB (rv (Y.1 40) (300 * ch) 4) L && toldB (rv (Y.1 40) (300 * ch) 4) (fv (Y.1 40) (300 * ch) (rv (Y.1 40) (300 * ch) 4))) = fB (Y.1 40) (300 * ch) L from rfl]
    unfold P_Mo_note_51 P_Mo_note_52
    cases hf : fB (Y.1 40) (300 * ch) L
    · rw [hf] at h200 hno hj
      rw [if_neg (by decide), if_pos hl] at h200 hno hj
      refine br_T rfl (br_T' rfl (P_monote_69 (L := L) (e := e) (k := rv (Y.1 40) (300 * ch) 4) hch hL he h11 hb40 (by show (0 : Int32) = if fB (Y.1 40) (300 * ch) L then 1 else 0; rw [hf]; rfl) rfl (fun x => by rw [show fB (Y.1 40) (300 * ch) L = true from x] at hf; cases hf) h200 (fun h1 h2 => hno h1 (by simp)) (fun h1 h2 => by rw [show fB (Y.1 40) (300 * ch) L = true from h2] at hf; cases hf)))
    · rw [hf] at h200 hno hj
      rw [if_pos rfl] at h200 hno hj
      refine br_F (by decide) (br_F' (by decide) (P_monote_69 (L := L) (e := e) (k := rv (Y.1 40) (300 * ch) 4) hch hL he h11 hb40 (by show (1 : Int32) = if fB (Y.1 40) (300 * ch) L then 1 else 0; rw [hf]; rfl) rfl (fun x i hi => ?_) h200 (fun h1 h2 => hno h1 (fun x => h2 ⟨hf, x.2⟩)) (fun h1 h2 h3 => hj h1 rfl h3)))
      show ff (Y.1 40) (300 * ch) (rv (Y.1 40) (300 * ch) 4) L (Y.1 43) i = _
      unfold ff
      unfold fB at hf
      rw [if_pos hi, show lenB (rv (Y.1 40) (300 * ch) 4) L = true by simp at hf; exact hf.1]
      rfl
theorem mN1_mix (ch L : Nat) (A X : Mem) : mN1 ch L (mix A X) = mix A (mN1 ch L X) := by
  unfold mN1
  rw [mix_hi (c := 40) (by omega), mix_hi (c := 35) (by omega), mix_hi (c := 43) (by omega), mix_putI (by omega), mix_row (by omega), mix_putI (by omega), mix_putI (by omega)]
  split
  · rfl
  · split <;> rfl
theorem mN2_mix (ch L e : Nat) (A X : Mem) : mN2 ch L e (mix A X) = mix A (mN2 ch L e X) := by
  unfold mN2
  rw [mix_hi (c := 40) (by omega), mix_hi (c := 35) (by omega), mix_hi (c := 41) (by omega), mix_row (by omega), mix_putI (by omega), mix_putI (by omega)]
theorem mN1_c {ch L c : Nat} {Y : Mem} (h : c ≠ 35) (h2 : c ≠ 43) : (mN1 ch L Y).1 c = Y.1 c ∧ (mN1 ch L Y).2 = Y.2 := by
  unfold mN1
  split
  · exact ⟨(setRow_ne h2).trans (putI_ne1 h), rfl⟩
  · split
    · exact ⟨(putI_ne1 h).trans ((setRow_ne h2).trans (putI_ne1 h)), rfl⟩
    · exact ⟨(putI_ne1 h).trans (putI_ne1 h), rfl⟩
theorem mN1_f {ch L f : Nat} {Y : Mem} (h : f ≠ 12) (h2 : f ≠ 13) : (mN1 ch L Y).1 35 f = Y.1 35 f := by
  unfold mN1
  split
  · rw [setRow_ne (by omega), putI_at, if_neg (by omega)]
  · split
    · rw [putI_at, if_neg (by omega), setRow_ne (by omega), putI_at, if_neg (by omega)]
    · rw [putI_at, if_neg (by omega), putI_at, if_neg (by omega)]
theorem mN1_12 {ch L : Nat} {Y : Mem} : (mN1 ch L Y).1 35 12 = Y.1 35 12 + 1 := by
  unfold mN1
  split
  · rfl
  · split <;> rfl
theorem mN1_13 {ch L : Nat} {Y : Mem} : (mN1 ch L Y).1 35 13 = if fB (Y.1 40) (300 * ch) L then Y.1 35 13 else Y.1 35 13 + 1 := by
  unfold mN1
  split
  · rfl
  · split <;> rfl
