/-! a row is admitted: it looks, the duals shift -/
def FAR : Int := 1152921504606846976
theorem FAR_is : (1152921504606846976 : Int64).toInt = FAR := by decide
theorem wp_rng {n : Nat} {A : Nat → Nat → Bool} {p : Nat → Nat → Int} (hp : ∀ k j, k < n → j < n → 0 ≤ p k j ∧ p k j ≤ PMX) (r c : Nat) : 0 ≤ wp n A p r c ∧ wp n A p r c ≤ FORB := by
  unfold wp FORB BIG
  by_cases h1 : r < n
  · rw [if_pos h1]
    by_cases h2 : c < n
    · rw [if_pos h2]
      have := hp r c h1 h2
      unfold PMX at this
      by_cases h3 : A r c = true
      · rw [if_pos h3]; omega
      · rw [if_neg h3]; omega
    · rw [if_neg h2]; omega
  · rw [if_neg h1]; omega
section Adm
variable {n : Nat} {A : Nat → Nat → Bool} {p : Nat → Nat → Int}
theorem P_lookFrom {r0 : Nat} {last : Option Nat} {u v sl : Nat → Int} {fr : Nat → Option Nat} {sb : Nat → Bool} {M : Mem} {Q : Int32 → Mem → Prop} (pm : PM n A p M) (hn : n ≤ 16) (hp : ∀ k j, k < n → j < n → 0 ≤ p k j ∧ p k j ≤ PMX) (hr : r0 < 2 * n)
    (du : ∀ r, r < 2 * n → (M.2 23 r).toInt = u r) (dv : ∀ c, c < 2 * n → (M.2 24 c).toInt = v c) (ds : ∀ c, c < 2 * n → (M.2 25 c).toInt = sl c) (df : ∀ c, c < 2 * n → M.1 28 c = oI (fr c)) (db : ∀ c, c < 2 * n → M.1 30 c = if sb c then 1 else 0)
    (bu : 0 ≤ u r0 ∧ u r0 ≤ BIG) (bv : ∀ c, c < 2 * n → -BIG ≤ v c ∧ v c ≤ 0) (hex : ∃ c, c < 2 * n ∧ sb c = false)
    (hQ : ∀ (N : Mem) (sl' : Nat → Int) (fr' : Nat → Option Nat) (y : Nat), Same [25, 28] M N → (∀ c, c < 2 * n → (N.2 25 c).toInt = sl' c) → (∀ c, c < 2 * n → N.1 28 c = oI (fr' c)) → (∀ c, c < 2 * n → sb c = false → wp n A p r0 c - u r0 - v c < sl c → sl' c = wp n A p r0 c - u r0 - v c ∧ fr' c = last) → (∀ c, c < 2 * n → ¬ (sb c = false ∧ wp n A p r0 c - u r0 - v c < sl c) → sl' c = sl c ∧ fr' c = fr c) → y < 2 * n → sb y = false → (∀ c, c < 2 * n → sb c = false → sl' y ≤ sl' c) → Q (nI y) N) : P_Matching_lookFrom (nI r0) (oI last) M Q := by
  have key : ∀ d i, i + d = 2 * n → ∀ (N : Mem) (sl' : Nat → Int) (fr' : Nat → Option Nat) (o : Option Nat), Same [25, 28] M N → (∀ c, c < 2 * n → (N.2 25 c).toInt = sl' c) → (∀ c, c < 2 * n → N.1 28 c = oI (fr' c)) →
      (∀ c, c < i → sb c = false → wp n A p r0 c - u r0 - v c < sl c → sl' c = wp n A p r0 c - u r0 - v c ∧ fr' c = last) → (∀ c, c < i → ¬ (sb c = false ∧ wp n A p r0 c - u r0 - v c < sl c) → sl' c = sl c ∧ fr' c = fr c) → (∀ c, i ≤ c → sl' c = sl c ∧ fr' c = fr c) →
      (match o with | none => ∀ c, c < i → sb c = true | some y => y < i ∧ sb y = false ∧ ∀ c, c < i → sb c = false → sl' y ≤ sl' c) → P_Matching_lookFrom_5 Q (d + 1) (nI r0) (oI last) (oI o) (nI i) N := by
    intro d
    induction d with
    | zero =>
      intro i hi N sl' fr' o sN h25 h28 s1 s2 s3 ho
      have : i = 2 * n := by omega
      subst this
      unfold P_Matching_lookFrom_5
      have n21 : N.1 21 10 = nI (2 * n) := by rw [(sN 21 (by decide)).1]; exact pm.2.1
      rw [n21]
      refine br_T (nI_le (by omega) (by omega)) ?_
      cases o with
      | none =>
        obtain ⟨c, hc, hb⟩ := hex
        have := ho c hc
        rw [this] at hb
        cases hb
      | some y =>
        obtain ⟨y1, y2, y3⟩ := ho
        exact hQ N sl' fr' y sN h25 h28 s1 s2 y1 y2 y3
    | succ d ih =>
      intro i hi N sl' fr' o sN h25 h28 s1 s2 s3 ho
      have hi2 : i < 2 * n := by omega
      have n21 : N.1 21 10 = nI (2 * n) := by rw [(sN 21 (by decide)).1]; exact pm.2.1
      have n30 : N.1 30 i = if sb i then 1 else 0 := by rw [(sN 30 (by decide)).1]; exact db i hi2
      have hpm : PM n A p N := pm.congr (sN 21 (by decide)).1 (sN 22 (by decide)).2
      have n23 : (N.2 23 r0).toInt = u r0 := by rw [(sN 23 (by decide)).2]; exact du r0 hr
      have n24 : (N.2 24 i).toInt = v i := by rw [(sN 24 (by decide)).2]; exact dv i hi2
      unfold P_Matching_lookFrom_5
      rw [n21, cl_nI (n := i) (by omega), n30, cl_nI (n := r0) (by omega)]
      refine br_F (nI_ge (by omega) (by omega)) ⟨in_nI (by omega) (by omega), ?_⟩
      cases hb : sb i
      · refine br_T rfl (P_price hpm hn hr hi2 (fun x hx => ⟨in_nI (by omega) (by omega), ?_⟩))
        have wr := wp_rng (A := A) hp r0 i
        have vr := bv i hi2
        have hs : (x - N.2 23 r0 - N.2 24 i).toInt = wp n A p r0 i - u r0 - v i := by
          have e1 : (x - N.2 23 r0).toInt = wp n A p r0 i - u r0 := by
            rw [j_sub (by rw [hx, n23]; unfold BIG FORB at *; omega) (by rw [hx, n23]; unfold BIG FORB at *; omega), hx, n23]
          rw [j_sub (by rw [e1, n24]; unfold BIG FORB at *; omega) (by rw [e1, n24]; unfold BIG FORB at *; omega), e1, n24]
        rw [j_le, hs, h25 i hi2, (s3 i (Nat.le_refl _)).1]
        /- the nearest so far -/
        have cont : ∀ (N2 : Mem) (sl2 : Nat → Int) (fr2 : Nat → Option Nat), Same [25, 28] M N2 → (∀ c, c < 2 * n → (N2.2 25 c).toInt = sl2 c) → (∀ c, c < 2 * n → N2.1 28 c = oI (fr2 c)) → (∀ c, c ≠ i → sl2 c = sl' c ∧ fr2 c = fr' c) → (wp n A p r0 i - u r0 - v i < sl i → sl2 i = wp n A p r0 i - u r0 - v i ∧ fr2 i = last) → (¬ wp n A p r0 i - u r0 - v i < sl i → sl2 i = sl i ∧ fr2 i = fr i) →
            P_Matching_lookFrom_81 (fun v1 v2 v3 v4 M => P_Matching_lookFrom_5 Q (d + 1) v1 v2 v3 v4 M) Q (nI r0) (oI last) (oI o) (nI i) N2 := fun N2 sl2 fr2 t1 t2 t3 t4 t5 t6 => by
          have nx : ∀ o2 : Option Nat, (match o2 with | none => ∀ c, c < i + 1 → sb c = true | some y => y < i + 1 ∧ sb y = false ∧ ∀ c, c < i + 1 → sb c = false → sl2 y ≤ sl2 c) → P_Matching_lookFrom_5 Q (d + 1) (nI r0) (oI last) (oI o2) (nI (i + 1)) N2 := fun o2 ho2 => by
            refine ih (i + 1) (by omega) N2 sl2 fr2 o2 t1 t2 t3 (fun c hc h1 h2 => ?_) (fun c hc h1 => ?_) (fun c hc => ?_) ho2
            · by_cases hci : c = i
              · subst hci; exact t5 h2
              · rw [(t4 c hci).1, (t4 c hci).2]; exact s1 c (by omega) h1 h2
            · by_cases hci : c = i
              · subst hci; exact t6 (fun y => h1 ⟨hb, y⟩)
              · rw [(t4 c hci).1, (t4 c hci).2]; exact s2 c (by omega) h1
            · rw [(t4 c (by omega)).1, (t4 c (by omega)).2]; exact s3 c (by omega)
          unfold P_Matching_lookFrom_81
          rw [nI_1, cl_nI (n := i) (by omega)]
          cases o with
          | none =>
            refine br_T rfl (nx (some i) ⟨by omega, hb, fun c hc hbc => ?_⟩)
            by_cases hci : c = i
            · rw [hci]; exact Int.le_refl _
            · have := ho c (by omega)
              rw [this] at hbc; cases hbc
          | some y =>
            obtain ⟨y1, y2, y3⟩ := ho
            refine br_F (nI_ne1 (by omega)) ⟨in_nI (by omega) (by omega), in_nI (by omega) (by omega), ?_⟩
            show (N2.2 25 (nI y).toNatClampNeg ≤ N2.2 25 i → _) ∧ (¬ N2.2 25 (nI y).toNatClampNeg ≤ N2.2 25 i → _)
            rw [cl_nI (n := y) (by omega), j_le, t2 y (by omega), t2 i hi2]
            have ey := (t4 y (by omega)).1
            refine ⟨fun hle => nx (some y) ⟨by omega, y2, fun c hc hbc => ?_⟩, fun hle => nx (some i) ⟨by omega, hb, fun c hc hbc => ?_⟩⟩
            · by_cases hci : c = i
              · rw [hci]; exact hle
              · rw [ey, (t4 c hci).1]; exact y3 c (by omega) hbc
            · by_cases hci : c = i
              · rw [hci]; exact Int.le_refl _
              · have := y3 c (by omega) hbc
                rw [(t4 c hci).1]
                omega
        refine ⟨fun hle => cont N sl' fr' sN h25 h28 (fun c _ => ⟨rfl, rfl⟩) (fun y => by omega) (fun _ => s3 i (Nat.le_refl _)), fun hle => ?_⟩
        refine cont _ (uz sl' i (wp n A p r0 i - u r0 - v i)) (uo fr' i last) ((sN.putL (by simp)).putI (by simp)) (fun c hc => ?_) (fun c hc => ?_) (fun c hc => ⟨by unfold uz; rw [if_neg hc], uo_ne hc⟩) (fun _ => ⟨by unfold uz; rw [if_pos rfl], uo_at _ _ _⟩) (fun y => by omega)
        · show ((putL N 25 i (x - N.2 23 r0 - N.2 24 i)).2 25 c).toInt = _
          rw [putL_at]
          unfold uz
          by_cases hci : c = i
          · rw [if_pos ⟨rfl, hci⟩, if_pos hci]; exact hs
          · rw [if_neg (fun y => hci y.2), if_neg hci]; exact h25 c hc
        · rw [putI_at]
          by_cases hci : c = i
          · rw [if_pos ⟨rfl, hci⟩, hci, uo_at]
          · rw [if_neg (fun y => hci y.2), uo_ne hci]; exact h28 c hc
      · rw [nI_1]
        refine br_F (by decide) (ih (i + 1) (by omega) N sl' fr' o sN h25 h28 (fun c hc h1 h2 => ?_) (fun c hc h1 => ?_) (fun c hc => s3 c (by omega)) ?_)
        · by_cases hci : c = i
          · subst hci; rw [hb] at h1; cases h1
          · exact s1 c (by omega) h1 h2
        · by_cases hci : c = i
          · subst hci; exact s3 c (Nat.le_refl _)
          · exact s2 c (by omega) h1
        · cases o with
          | none =>
            exact fun c hc => by
              by_cases hci : c = i
              · rw [hci]; exact hb
              · exact ho c (by omega)
          | some y =>
            obtain ⟨y1, y2, y3⟩ := ho
            refine ⟨by omega, y2, fun c hc hbc => ?_⟩
            by_cases hci : c = i
            · rw [hci, hb] at hbc; cases hbc
            · exact y3 c (by omega) hbc
  unfold P_Matching_lookFrom
  exact ⟨2 * n + 1, key (2 * n) 0 (by omega) M sl fr none (Same.refl _ _) ds df (fun c hc => absurd hc (Nat.not_lt_zero _)) (fun c hc => absurd hc (Nat.not_lt_zero _)) (fun c _ => ⟨rfl, rfl⟩) (fun c hc => absurd hc (Nat.not_lt_zero _))⟩
theorem P_shift {k : Nat} {dd : Int64} {u v sl : Nat → Int} {R : Nat → Option Nat} {sb : Nat → Bool} {M : Mem} {Q : Mem → Prop} (pm : PM n A p M) (hn : n ≤ 16) (hk : k < n)
    (du : ∀ r, r < 2 * n → (M.2 23 r).toInt = u r) (dv : ∀ c, c < 2 * n → (M.2 24 c).toInt = v c) (ds : ∀ c, c < 2 * n → (M.2 25 c).toInt = sl c) (dr : ∀ c, c < 2 * n → M.1 27 c = oI (R c)) (db : ∀ c, c < 2 * n → M.1 30 c = if sb c then 1 else 0)
    (hsb : ∀ c, c < 2 * n → sb c = true → ∃ r, r < k ∧ R c = some r) (hinj : ∀ c c' r, c < 2 * n → c' < 2 * n → R c = some r → R c' = some r → c = c')
    (hd : 0 ≤ dd.toInt ∧ dd.toInt ≤ FAR) (bu : ∀ r, r < 2 * n → 0 ≤ u r ∧ u r ≤ FAR) (bv : ∀ c, c < 2 * n → -FAR ≤ v c ∧ v c ≤ 0) (bs : ∀ c, c < 2 * n → 0 ≤ sl c ∧ sl c ≤ FAR)
    (hQ : ∀ (N : Mem) (u' v' sl' : Nat → Int), Same [23, 24, 25] M N → (∀ r, r < 2 * n → (N.2 23 r).toInt = u' r) → (∀ c, c < 2 * n → (N.2 24 c).toInt = v' c) → (∀ c, c < 2 * n → (N.2 25 c).toInt = sl' c) → u' k = u k + dd.toInt → (∀ c r, c < 2 * n → sb c = true → R c = some r → u' r = u r + dd.toInt) → (∀ r, r ≠ k → (∀ c, c < 2 * n → sb c = true → R c ≠ some r) → u' r = u r) → (∀ c, c < 2 * n → v' c = if sb c then v c - dd.toInt else v c) → (∀ c, c < 2 * n → sl' c = if sb c then sl c else sl c - dd.toInt) → Q N) : P_Matching_shiftDuals (nI k) dd M Q := by
  have key : ∀ d i, i + d = 2 * n → ∀ (N : Mem) (u' v' sl' : Nat → Int), Same [23, 24, 25] M N → (∀ r, r < 2 * n → (N.2 23 r).toInt = u' r) → (∀ c, c < 2 * n → (N.2 24 c).toInt = v' c) → (∀ c, c < 2 * n → (N.2 25 c).toInt = sl' c) → u' k = u k + dd.toInt → (∀ c r, c < i → sb c = true → R c = some r → u' r = u r + dd.toInt) → (∀ r, r ≠ k → (∀ c, c < i → sb c = true → R c ≠ some r) → u' r = u r) → (∀ c, c < 2 * n → v' c = if sb c = true ∧ c < i then v c - dd.toInt else v c) → (∀ c, c < 2 * n → sl' c = if sb c = false ∧ c < i then sl c - dd.toInt else sl c) → P_Matching_shiftDuals_13 Q (d + 1) dd (nI i) N := by
    intro d
    induction d with
    | zero =>
      intro i hi N u' v' sl' sN h23 h24 h25 g1 g2 g3 g4 g5
      have : i = 2 * n := by omega
      subst this
      unfold P_Matching_shiftDuals_13
      have n21 : N.1 21 10 = nI (2 * n) := by rw [(sN 21 (by decide)).1]; exact pm.2.1
      rw [n21]
      refine br_T (nI_le (by omega) (by omega)) (hQ N u' v' sl' sN h23 h24 h25 g1 g2 g3 (fun c hc => ?_) (fun c hc => ?_))
      · rw [g4 c hc]
        cases sb c <;> simp [hc]
      · rw [g5 c hc]
        cases sb c <;> simp [hc]
    | succ d ih =>
      intro i hi N u' v' sl' sN h23 h24 h25 g1 g2 g3 g4 g5
      have hi2 : i < 2 * n := by omega
      have n21 : N.1 21 10 = nI (2 * n) := by rw [(sN 21 (by decide)).1]; exact pm.2.1
      have n219 : N.1 21 9 = nI n := by rw [(sN 21 (by decide)).1]; exact pm.1
      have n30 : N.1 30 i = if sb i then 1 else 0 := by rw [(sN 30 (by decide)).1]; exact db i hi2
      have n27 : N.1 27 i = oI (R i) := by rw [(sN 27 (by decide)).1]; exact dr i hi2
      unfold P_Matching_shiftDuals_13
      rw [n21, cl_nI (n := i) (by omega), n30, nI_1]
      refine br_F (nI_ge (by omega) (by omega)) ⟨in_nI (by omega) (by omega), ?_⟩
      cases hb : sb i
      · refine br_T' rfl (ih (i + 1) (by omega) _ u' v' (uz sl' i (sl i - dd.toInt)) (sN.putL (by simp)) h23 h24 (fun c hc => ?_) g1 (fun c r hc hbc hR => ?_) (fun r h1 h2 => ?_) (fun c hc => ?_) (fun c hc => ?_))
        · rw [putL_at]
          unfold uz
          by_cases hci : c = i
          · have e : sl' i = sl i := by rw [g5 i hi2, if_neg (by omega)]
            have := bs i hi2
            rw [if_pos ⟨rfl, hci⟩, if_pos hci, j_sub (by rw [h25 i hi2, e]; unfold FAR at *; omega) (by rw [h25 i hi2, e]; unfold FAR at *; omega), h25 i hi2, e]
          · rw [if_neg (fun y => hci y.2), if_neg hci]; exact h25 c hc
        · by_cases hci : c = i
          · rw [hci, hb] at hbc; cases hbc
          · exact g2 c r (by omega) hbc hR
        · exact g3 r h1 (fun c hc => h2 c (by omega))
        · rw [g4 c hc]
          by_cases hci : c = i
          · rw [hci, hb]; simp
          · simp [show c < i + 1 ↔ c < i by omega]
        · unfold uz
          by_cases hci : c = i
          · rw [if_pos hci, hci, if_pos ⟨hb, by omega⟩]
          · rw [if_neg hci, g5 c hc]
            simp [show c < i + 1 ↔ c < i by omega]
      · obtain ⟨r, hr, hR⟩ := hsb i hi2 hb
        rw [n27, hR]
        have fresh : u' r = u r := g3 r (by omega) (fun c hc hbc e => by have := hinj c i r (by omega) hi2 e hR; omega)
        refine br_F' (by decide) (P_isPos n219 hn (by omega) (fun _ => br_F (by decide) ?_) (fun x => absurd (show r < n by omega) x))
        rw [n27, hR]
        show vp_in (nI r) 32 ∧ P_Matching_shiftDuals_13 Q (d + 1) dd (nI (i + 1)) (putL (putL N 24 i (N.2 24 i - dd)) 23 (nI r).toNatClampNeg (N.2 23 (nI r).toNatClampNeg + dd))
        rw [cl_nI (n := r) (by omega)]
        refine ⟨in_nI (by omega) (by omega), ih (i + 1) (by omega) _ (uz u' r (u r + dd.toInt)) (uz v' i (v i - dd.toInt)) sl' ((sN.putL (by simp)).putL (by simp)) (fun r' hr' => ?_) (fun c hc => ?_) h25 ?_ (fun c r' hc hbc hR' => ?_) (fun r' h1 h2 => ?_) (fun c hc => ?_) (fun c hc => ?_)⟩
        · rw [putL_at]
          unfold uz
          by_cases hrr : r' = r
          · have e23 : (N.2 23 r).toInt = u r := by rw [h23 r (by omega), fresh]
            have := bu r (by omega)
            rw [if_pos ⟨rfl, hrr⟩, if_pos hrr, j_add (by rw [e23]; unfold FAR at *; omega) (by rw [e23]; unfold FAR at *; omega), e23]
          · rw [if_neg (fun y => hrr y.2), if_neg hrr]
            show ((putL N 24 i (N.2 24 i - dd)).2 23 r').toInt = _
            rw [putL_at, if_neg (by omega)]
            exact h23 r' hr'
        · show ((putL (putL N 24 i (N.2 24 i - dd)) 23 r (N.2 23 r + dd)).2 24 c).toInt = _
          rw [putL_at, if_neg (by omega), putL_at]
          unfold uz
          by_cases hci : c = i
          · have e : v' i = v i := by rw [g4 i hi2, if_neg (by omega)]
            have := bv i hi2
            rw [if_pos ⟨rfl, hci⟩, if_pos hci, j_sub (by rw [h24 i hi2, e]; unfold FAR at *; omega) (by rw [h24 i hi2, e]; unfold FAR at *; omega), h24 i hi2, e]
          · rw [if_neg (fun y => hci y.2), if_neg hci]; exact h24 c hc
        · unfold uz
          rw [if_neg (by omega)]; exact g1
        · unfold uz
          by_cases hrr : r' = r
          · rw [if_pos hrr, hrr]
          · rw [if_neg hrr]
            by_cases hci : c = i
            · rw [hci, hR] at hR'; cases hR'; exact absurd rfl hrr
            · exact g2 c r' (by omega) hbc hR'
        · unfold uz
          by_cases hrr : r' = r
          · exact absurd (by rw [hrr]; exact hR) (h2 i (by omega) hb)
          · rw [if_neg hrr]
            exact g3 r' h1 (fun c hc => h2 c (by omega))
        · unfold uz
          by_cases hci : c = i
          · rw [if_pos hci, hci, if_pos ⟨hb, by omega⟩]
          · rw [if_neg hci, g4 c hc]
            simp [show c < i + 1 ↔ c < i by omega]
        · rw [g5 c hc]
          by_cases hci : c = i
          · rw [hci, hb]; simp
          · simp [show c < i + 1 ↔ c < i by omega]
  unfold P_Matching_shiftDuals
  rw [cl_nI (n := k) (by omega)]
  refine ⟨in_nI (by omega) (by omega), 2 * n + 1, key (2 * n) 0 (by omega) _ (uz u k (u k + dd.toInt)) v sl ((Same.refl _ _).putL (by simp)) (fun r hr => ?_) dv ds (by unfold uz; rw [if_pos rfl]) (fun c r hc => absurd hc (Nat.not_lt_zero _)) (fun r hr _ => by unfold uz; rw [if_neg hr]) (fun c hc => by rw [if_neg (by omega)]) (fun c hc => by rw [if_neg (by omega)])⟩
  rw [putL_at]
  unfold uz
  by_cases hrr : r = k
  · have := bu k (by omega)
    rw [if_pos ⟨rfl, hrr⟩, if_pos hrr, j_add (by rw [du k (by omega)]; unfold FAR at *; omega) (by rw [du k (by omega)]; unfold FAR at *; omega), du k (by omega)]
  · rw [if_neg (fun y => hrr y.2), if_neg hrr]; exact du r hr
end Adm
