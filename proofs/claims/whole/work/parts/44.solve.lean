/-! the chain is turned: one more follows -/
def uo (F : Nat → Option Nat) (k : Nat) (o : Option Nat) : Nat → Option Nat := fun i => if i = k then o else F i
theorem uo_at (F : Nat → Option Nat) (k : Nat) (o : Option Nat) : uo F k o k = o := by unfold uo; rw [if_pos rfl]
theorem uo_ne {F : Nat → Option Nat} {k i : Nat} {o : Option Nat} (h : i ≠ k) : uo F k o i = F i := by unfold uo; rw [if_neg h]
theorem csF_uo {n k j : Nat} {p : Nat → Nat → Int} {F : Nat → Option Nat} (hk : k < n) : csF n p (uo F k (some j)) = csF n p F - ow p 0 k (F k) + p k j := by
  unfold csF
  have e : sz (fun i => ow p 0 i (uo F k (some j) i)) n = sz (uz (fun i => ow p 0 i (F i)) k (p k j)) n := sz_congr (fun i hi => by
    unfold uz
    by_cases hik : i = k
    · subst hik
      rw [if_pos rfl, uo_at]
      show p i j - 0 = p i j
      omega
    · rw [if_neg hik, uo_ne hik])
  rw [e, sz_uz hk]
theorem cnF_uo {n k j : Nat} {F : Nat → Option Nat} (hk : k < n) : cnF n (uo F k (some j)) = if F k = none then cnF n F + 1 else cnF n F := by
  unfold cnF
  by_cases hz : F k = none
  · rw [if_pos hz]
    refine cntB_flip (i := k) (fun x _ hx => ?_) hk ?_ ?_
    · rw [uo_ne hx]
    · rw [hz]; rfl
    · rw [uo_at]; rfl
  · rw [if_neg hz]
    refine cntB_congr (fun x hx => ?_)
    by_cases hxk : x = k
    · subst hxk
      rw [uo_at]
      cases hy : F x with
      | none => exact absurd hy hz
      | some y => rfl
    · rw [uo_ne hxk]
theorem Val_uo {n k j : Nat} {A : Nat → Nat → Bool} {F : Nat → Option Nat} (h : Val n A F) (hA : A k j = true) (hj : j < n) (hf : FC n F j) : Val n A (uo F k (some j)) := by
  refine ⟨fun i x hi hz => ?_, fun i i' x hi hi' hz hz' => ?_⟩
  · by_cases hik : i = k
    · subst hik
      rw [uo_at] at hz
      cases hz
      exact ⟨hA, hj⟩
    · rw [uo_ne hik] at hz
      exact h.1 i x hi hz
  · by_cases hik : i = k
    · subst hik
      rw [uo_at] at hz
      cases hz
      by_cases hik' : i' = i
      · exact hik'.symm
      · rw [uo_ne hik'] at hz'
        exact absurd hz' (hf i' hi')
    · rw [uo_ne hik] at hz
      by_cases hik' : i' = k
      · subst hik'
        rw [uo_at] at hz'
        cases hz'
        exact absurd hz (hf i hi)
      · rw [uo_ne hik'] at hz'
        exact h.2 i i' x hi hi' hz hz'
theorem cut_uo {m k i : Nat} {F : Nat → Option Nat} {o : Option Nat} (hk : m ≤ k) : cut m (uo F k o) i = if i = k then o else cut m F i := by
  unfold cut uo
  by_cases him : i < m
  · rw [if_pos him, if_neg (by omega), if_pos him]
  · rw [if_neg him, if_neg him]
def nu (b f : Nat → Int) (tm : Nat → Nat) (T j : Nat) : Nat := (f j + b j).toNat * T + tm j
theorem nu_lt {b f : Nat → Int} {tm : Nat → Nat} {T x j : Nat} (h0 : 0 ≤ f x + b x) (ht : tm x < T) (h : f x + b x < f j + b j ∨ (f x + b x = f j + b j ∧ tm x < tm j)) : nu b f tm T x < nu b f tm T j := by
  unfold nu
  rcases h with h | ⟨h, h2⟩
  · have : (f x + b x).toNat + 1 ≤ (f j + b j).toNat := by omega
    have := Nat.mul_le_mul_right T this
    rw [Nat.succ_mul] at this
    omega
  · rw [h]; omega
def MR (M N : Mem) : Prop := Same [35, 53, 54, 60, 61] M N ∧ (∀ f, f ≠ 40 → N.1 35 f = M.1 35 f) ∧ (∀ f, f ≠ 39 → N.2 35 f = M.2 35 f)
theorem MR.trans {M N O : Mem} (h1 : MR M N) (h2 : MR N O) : MR M O := ⟨h1.1.trans h2.1, fun f hf => (h2.2.1 f hf).trans (h1.2.1 f hf), fun f hf => (h2.2.2 f hf).trans (h1.2.2 f hf)⟩
theorem MR.of {M N : Mem} (h : Same [60, 61] M N) : MR M N := ⟨h.mono (by simp), fun f _ => by rw [(h 35 (by decide)).1], fun f _ => by rw [(h 35 (by decide)).2]⟩
/-- a chain half turned: the column j waits -/
def AU (n m : Nat) (A : Nat → Nat → Bool) (p : Nat → Nat → Int) (F : Nat → Option Nat) (a' b' : Nat → Int) (b f : Nat → Int) (tm : Nat → Nat) (T : Nat) (D : Int) (M N : Mem) (Fc : Nat → Option Nat) (j : Nat) : Prop :=
  (j < n ∧ f j ≠ GRT ∧ f j + b j ≤ D ∧ Same [53, 54] M N) ∧
  ((∀ k, k < n → N.1 53 k = oI (Fc k)) ∧ (∀ j' k, j' < n → k < n → Fc k = some j' → N.1 54 j' = nI k) ∧ (∀ j', j' < n → j' ≠ j → FC n Fc j' → N.1 54 j' = -1)) ∧
  (Val n A Fc ∧ (∀ i, i < m → Fc i = F i) ∧ FC n Fc j ∧ (∀ k, k < n → Fc k ≠ F k → ∃ x, F k = some x ∧ nu b f tm T j ≤ nu b f tm T x) ∧ csF n p Fc = csF n p F + D - f j ∧ cnF n Fc = cnF n F) ∧
  (∀ k x, m ≤ k → k < n → Fc k = some x → p k x - D + a' k + b' x = 0) ∧ (∀ k, k < n → cut m Fc k = none → a' k = 0) ∧ (∀ j', j' < n → j' ≠ j → (∀ k, k < n → cut m Fc k ≠ some j') → b' j' = 0)
section Solve
variable {n m : Nat} {A : Nat → Nat → Bool} {p : Nat → Nat → Int} {l : Int} {F : Nat → Option Nat} {a b : Nat → Int}
theorem P_r332 {f : Nat → Int} {v : Nat → Nat} {y : Nat} {M : Mem} {Q : Int32 → Mem → Prop} (st : ST n m A p F M) (fr : ∀ j, j < n → f j ≠ GRT → M.1 61 j = nI (v j)) (fi : FI n m A p l F b f v) (fx : Fix n m A p F f) (vF : Val n A F) (c : Cert n m A p l F a b) (hn : n ≤ 16) (hm : m ≤ n) (hp : ∀ k j, k < n → j < n → 0 ≤ p k j ∧ p k j ≤ PMX) (hl0 : 0 ≤ l)
    (hy : y < n) (yf : FC n F y) (yg : f y ≠ GRT) (ymin : ∀ j, j < n → FC n F j → f y ≤ f j)
    (hQ : ∀ N F', Same [53, 54] M N → ST n m A p F' N → Val n A F' → (∀ i, i < m → F' i = F i) → Cert n m A p (f y) F' (a1 m l (f y) F a b f) (b1 l (f y) b f) → cnF n F' = cnF n F + 1 → csF n p F' = csF n p F + f y → l ≤ f y → Q 1 N) : ∃ q, P_Mo_raises_332 Q q (nI y) M := by
  have fi' := fi
  obtain ⟨tm, T, hT, fj⟩ := fi'
  have cutF : ∀ j, FC n F j → ∀ k, k < n → cut m F k ≠ some j := fun j hj k hk x => hj k hk (cut_some x).2
  have by0 : b y = 0 := c.2.2.2.2 y hy (cutF y yf)
  have hlD : l ≤ f y := by have := ((fj y hy).2 yg).2.2.1; omega
  have hDG : f y ≤ GRT := (fj y hy).1
  have hnn : ∀ j, j < n → 0 ≤ f j + b j := fun j hj => by
    have := FI_nn c vF hp hl0 fi hj
    have := c.2.1 j hj
    omega
  have step : ∀ (N : Mem) (Fc : Nat → Option Nat) (j : Nat), AU n m A p F (a1 m l (f y) F a b f) (b1 l (f y) b f) b f tm T (f y) M N Fc j → ∀ q, (∀ N1 Fc1 x, nu b f tm T x < nu b f tm T j → AU n m A p F (a1 m l (f y) F a b f) (b1 l (f y) b f) b f tm T (f y) M N1 Fc1 x → P_Mo_raises_332 Q (q + 1) (nI x) N1) → P_Mo_raises_332 Q (q + 2) (nI j) N := by
    intro N Fc j au q nx
    obtain ⟨⟨hj, hg, hle, sN⟩, ⟨n53, n54, n54f⟩, ⟨vc, pre, jf, vis, cs, cn⟩, t1, t2, t3⟩ := au
    obtain ⟨-, hTj, -, hmk, hk, hA, hne, hfp⟩ := (fj j hj).2 hg
    have n61 : N.1 61 j = nI (v j) := by rw [(sN 61 (by decide)).1]; exact fr j hj hg
    generalize hkv : v j = k at *
    have unv : Fc k = F k := by
      by_cases hc : Fc k = F k
      · exact hc
      · obtain ⟨x, hx1, hx2⟩ := vis k hk hc
        unfold FIp at hfp
        rw [hkv, hx1] at hfp
        have := nu_lt (hnn x (vF.1 k x hk hx1).2) (hT x) hfp.2.2
        omega
    have hv2 : Val n A (uo Fc k (some j)) := Val_uo vc hA hj jf
    have pre2 : ∀ i, i < m → uo Fc k (some j) i = F i := fun i hi => by rw [uo_ne (by omega)]; exact pre i hi
    have s2 : Same [53, 54] M (putI (putI N 53 k (nI j)) 54 j (nI k)) := (sN.putI (by simp)).putI (by simp)
    have m53 : ∀ k', k' < n → (putI (putI N 53 k (nI j)) 54 j (nI k)).1 53 k' = oI (uo Fc k (some j) k') := fun k' hk' => by
      rw [putI_ne1 (by omega), putI_at]
      by_cases hkk : k' = k
      · subst hkk; rw [if_pos ⟨rfl, rfl⟩, uo_at]; rfl
      · rw [if_neg (fun x => hkk x.2), uo_ne hkk]; exact n53 k' hk'
    have m54 : ∀ j' k', j' < n → k' < n → uo Fc k (some j) k' = some j' → (putI (putI N 53 k (nI j)) 54 j (nI k)).1 54 j' = nI k' := fun j' k' hj' hk' hz => by
      rw [putI_at]
      by_cases hkk : k' = k
      · subst hkk
        rw [uo_at] at hz
        cases hz
        rw [if_pos ⟨rfl, rfl⟩]
      · rw [uo_ne hkk] at hz
        rw [if_neg (fun x => jf k' hk' (by rw [hz, x.2])), putI_ne1 (by omega)]
        exact n54 j' k' hj' hk' hz
    have c1 : ∀ k' x, m ≤ k' → k' < n → uo Fc k (some j) k' = some x → p k' x - f y + a1 m l (f y) F a b f k' + b1 l (f y) b f x = 0 := fun k' x h1 h2 hz => by
      by_cases hkk : k' = k
      · subst hkk
        rw [uo_at] at hz
        cases hz
        refine new_path c vF fx h1 h2 hj hA hTj hne hle ?_
        unfold FIp at hfp
        rw [hkv] at hfp
        cases hz : F k' with
        | none => rw [hz] at hfp; exact hfp
        | some x =>
          rw [hz] at hfp
          obtain ⟨g1, g2, g3⟩ := hfp
          exact ⟨g1, g2, by omega⟩
      · rw [uo_ne hkk] at hz
        exact t1 k' x h1 h2 hz
    have c2 : ∀ k', k' < n → cut m (uo Fc k (some j)) k' = none → a1 m l (f y) F a b f k' = 0 := fun k' h2 hz => by
      rw [cut_uo hmk] at hz
      by_cases hkk : k' = k
      · rw [if_pos hkk] at hz; cases hz
      · rw [if_neg hkk] at hz
        exact t2 k' h2 hz
    unfold P_Mo_raises_332
    rw [cl_nI (n := j) (by omega), n61, cl_nI (n := k) (by omega), n53 k hk, unv]
    refine br_F (nI_ne1 (by omega)) ⟨in_nI (by omega) (by omega), in_nI (by omega) (by omega), ?_⟩
    unfold FIp at hfp
    rw [hkv] at hfp
    cases hz : F k with
    | none =>
      rw [hz] at hfp
      have hfp : f j = p k j := hfp
      unfold P_Mo_raises_332
      refine br_T rfl (hQ _ (uo Fc k (some j)) s2 ⟨?_, ?_, m53, m54, fun j' hj' hf => ?_⟩ hv2 pre2 ⟨fun k' h => new_a c vF fi hlD hDG h, fun j' h => new_b c h, fun k' j' h1 h2 h3 h4 h5 => ?_, fun k' h => ?_, fun j' h1 h2 => ?_⟩ ?_ ?_ hlD)
      · exact fun k' j' h1 h2 => by
          show N.1 58 _ = _ ∧ (N.2 57 _).toInt = _
          rw [(sN 58 (by decide)).1, (sN 57 (by decide)).2]
          exact st.1 k' j' h1 h2
      · exact fun k' h => by
          show N.1 59 k' = _
          rw [(sN 59 (by decide)).1]
          exact st.2.1 k' h
      · have hjj : j' ≠ j := fun e => hf k hk (by rw [uo_at, e])
        rw [putI_at, if_neg (fun x => hjj x.2), putI_ne1 (by omega)]
        refine n54f j' hj' hjj (fun k' hk' e => ?_)
        by_cases hkk : k' = k
        · rw [hkk, unv, hz] at e; cases e
        · exact hf k' hk' (by rw [uo_ne hkk]; exact e)
      · exact new_feas c vF fi fx hp hlD hDG h1 h2 h3 h4 (fun i hi e => h5 i hi (by rw [pre2 i hi]; exact e))
      · cases hw : cut m (uo Fc k (some j)) k' with
        | none =>
          show 0 + a1 m l (f y) F a b f k' + 0 = 0
          rw [c2 k' h hw]
          rfl
        | some x =>
          obtain ⟨e1, e2⟩ := cut_some hw
          exact c1 k' x e1 h e2
      · have hjj : j' ≠ j := fun e => h2 k hk (by rw [cut_uo hmk, if_pos rfl, e])
        refine t3 j' h1 hjj (fun k' hk' e => ?_)
        by_cases hkk : k' = k
        · rw [hkk, cut_ge hmk, unv, hz] at e; cases e
        · exact h2 k' hk' (by rw [cut_uo hmk, if_neg hkk]; exact e)
      · rw [cnF_uo hk, if_pos (by rw [unv]; exact hz), cn]
      · rw [csF_uo hk, cs, unv, hz]
        show csF n p F + f y - f j - 0 + p k j = _
        omega
    | some x =>
      rw [hz] at hfp
      obtain ⟨g1, g2, g3⟩ := hfp
      have hx := (vF.1 k x hk hz).2
      have hxj : x ≠ j := fun e => hne (by rw [hz, e])
      have lt := nu_lt (hnn x hx) (hT x) g3
      have feq := fx.2 k x j hmk hk hx hj hz g1 (fun e => hxj e.symm) hA hTj
      refine nx _ (uo Fc k (some j)) x lt ⟨⟨hx, g1, by omega, s2⟩, ⟨m53, m54, fun j' hj' hjx hf => ?_⟩, ⟨hv2, pre2, fun k' hk' e => ?_, fun k' hk' hd => ?_, ?_, ?_⟩, c1, c2, fun j' h1 hjx h2 => ?_⟩
      · have hjj : j' ≠ j := fun e => hf k hk (by rw [uo_at, e])
        rw [putI_at, if_neg (fun x => hjj x.2), putI_ne1 (by omega)]
        refine n54f j' hj' hjj (fun k' hk' e => ?_)
        by_cases hkk : k' = k
        · rw [hkk, unv, hz] at e; cases e; exact hjx rfl
        · exact hf k' hk' (by rw [uo_ne hkk]; exact e)
      · by_cases hkk : k' = k
        · rw [hkk, uo_at] at e; cases e; exact hxj rfl
        · rw [uo_ne hkk] at e
          exact hkk (vc.2 k' k x hk' hk e (by rw [unv]; exact hz))
      · by_cases hkk : k' = k
        · rw [hkk]; exact ⟨x, hz, Nat.le_refl _⟩
        · rw [uo_ne hkk] at hd
          obtain ⟨x', e1, e2⟩ := vis k' hk' hd
          exact ⟨x', e1, by omega⟩
      · rw [csF_uo hk, cs, unv, hz]
        show csF n p F + f y - f j - (p k x - 0) + p k j = _
        omega
      · rw [cnF_uo hk, if_neg (by rw [unv, hz]; intro e; cases e), cn]
      · have hjj : j' ≠ j := fun e => h2 k hk (by rw [cut_uo hmk, if_pos rfl, e])
        refine t3 j' h1 hjj (fun k' hk' e => ?_)
        by_cases hkk : k' = k
        · rw [hkk, cut_ge hmk, unv, hz] at e; cases e; exact hjx rfl
        · exact h2 k' hk' (by rw [cut_uo hmk, if_neg hkk]; exact e)
  have key : ∀ W : Nat, ∀ (N : Mem) (Fc : Nat → Option Nat) (j : Nat), nu b f tm T j ≤ W → AU n m A p F (a1 m l (f y) F a b f) (b1 l (f y) b f) b f tm T (f y) M N Fc j → P_Mo_raises_332 Q (W + 2) (nI j) N := by
    intro W
    induction W with
    | zero => exact fun N Fc j hW au => step N Fc j au 0 (fun N1 Fc1 x hlt _ => absurd hlt (by omega))
    | succ W ih => exact fun N Fc j hW au => step N Fc j au (W + 1) (fun N1 Fc1 x hlt au1 => ih N1 Fc1 x (by omega) au1)
  refine ⟨_, key (nu b f tm T y) M F y (Nat.le_refl _) ⟨⟨hy, yg, by omega, Same.refl _ _⟩, ⟨st.2.2.1, st.2.2.2.1, fun j' h1 _ h2 => st.2.2.2.2 j' h1 h2⟩, ⟨vF, fun _ _ => rfl, yf, fun k _ hd => absurd rfl hd, by omega, rfl⟩, fun k x h1 h2 hz => new_kept c h1 h2 hz, fun k h1 h2 => new_alone c h1 h2, fun j' h1 hne h2 => ?_⟩⟩
  refine new_free c hlD h1 (c.2.2.2.2 j' h1 h2) ?_
  by_cases hf : FC n F j'
  · exact ymin j' h1 hf
  · have : f j' = GRT := by
      by_cases hg : f j' = GRT
      · exact hg
      · have hTj := ((fj j' h1).2 hg).2.1
        exfalso
        refine hf (fun k hk e => ?_)
        by_cases hkm : k < m
        · exact hTj k hkm e
        · exact h2 k hk (by rw [cut_ge (by omega)]; exact e)
    omega
theorem P_raises {M : Mem} {Q : Int32 → Mem → Prop} (hAj : ∀ k j, A k j = true → j < k) (st : ST n m A p F M) (vF : Val n A F) (c : Cert n m A p l F a b) (hn : n ≤ 16) (hm : m ≤ n) (hp : ∀ k j, k < n → j < n → 0 ≤ p k j ∧ p k j ≤ PMX) (hl0 : 0 ≤ l) (hlB : l ≤ BIG) (e40 : M.1 35 40 = nI (cnF n F)) (e39 : (M.2 35 39).toInt = csF n p F)
    (h0 : ∀ N a' b', MR M N → ST n m A p F N → Cert n m A p BIG F a' b' → N.1 35 40 = nI (cnF n F) → (N.2 35 39).toInt = csF n p F → Q 0 N)
    (h1 : ∀ N F' l' a' b', MR M N → ST n m A p F' N → Val n A F' → (∀ i, i < m → F' i = F i) → Cert n m A p l' F' a' b' → 0 ≤ l' → l' ≤ BIG → cnF n F' = cnF n F + 1 → N.1 35 40 = nI (cnF n F') → (N.2 35 39).toInt = csF n p F' → Q 1 N) : P_Mo_raises (nI n) M Q := by
  have hpB : ∀ k j, k < n → A k j = true → 0 ≤ p k j ∧ p k j ≤ PMX := fun k j hk h => hp k j hk (by have := hAj k j h; omega)
  refine P_r7 (l := l) (b := b) st hn (fun N1 f1 v1 s1 bf1 => P_r38 bf1 vF c hn hm hp (fun N2 f2 v2 s2 bf2 ph2 => P_r102 bf2 vF c hn hm hp hl0 ph2 (fun N3 f v s3 bf fx => ?_)))
  have sA : Same [60, 61] M N3 := (s1.trans s2).trans s3
  have i40 : N3.1 35 40 = nI (cnF n F) := by rw [(sA 35 (by decide)).1]; exact e40
  have i39 : (N3.2 35 39).toInt = csF n p F := by rw [(sA 35 (by decide)).2]; exact e39
  refine P_r231 bf hn (fun hno => ?_) (fun y hy yf yg ymin => ?_)
  · refine h0 N3 _ _ (MR.of sA) bf.1 (cert_last c vF bf.2.2 fx hp hn hlB (fun j hj hc => ?_)) i40 i39
    by_cases hf : FC n F j
    · exact hno j hj hf
    · by_cases hg : f j = GRT
      · exact hg
      · obtain ⟨tm, T, -, fj⟩ := bf.2.2
        have hTj := ((fj j hj).2 hg).2.1
        exfalso
        refine hf (fun k hk e => ?_)
        by_cases hkm : k < m
        · exact hTj k hkm e
        · exact hc k hk (by rw [cut_ge (by omega)]; exact e)
  · have hfr : ∀ j, j < n → f j ≠ GRT → (putI (putL N3 35 39 (N3.2 35 39 + N3.2 60 y)) 35 40 (N3.1 35 40 + 1)).1 61 j = nI (v j) := fun j hj hg => (bf.2.1 j hj).2 hg
    have hy0 := FI_nn c vF hp hl0 bf.2.2 hy
    have hyG := FI_le bf.2.2 hy
    refine P_r332 (bf.1.congr rfl rfl rfl rfl rfl) hfr bf.2.2 fx vF c hn hm hp hl0 hy yf yg ymin (fun N F' sN st' vF' pre c' cn cs hlD => ?_)
    have rF := csF_rng (A := A) (F := F) hn hpB vF
    have rF' := csF_rng (A := A) (F := F') hn hpB vF'
    refine h1 N F' (f y) _ _ ((MR.of sA).trans ⟨?_, fun f' hf' => ?_, fun f' hf' => ?_⟩) st' vF' pre c' hy0 (by omega) cn ?_ ?_
    · exact (((Same.refl _ _).putL (by simp)).putI (by simp)).trans (sN.mono (by simp))
    · rw [(sN 35 (by decide)).1, putI_at, if_neg (fun x => hf' x.2)]
      rfl
    · rw [(sN 35 (by decide)).2]
      show (putL N3 35 39 (N3.2 35 39 + N3.2 60 y)).2 35 f' = _
      rw [putL_at, if_neg (fun x => hf' x.2)]
    · rw [(sN 35 (by decide)).1, putI_same, i40, nI_1, cn]
    · rw [(sN 35 (by decide)).2]
      show ((putL N3 35 39 (N3.2 35 39 + N3.2 60 y)).2 35 39).toInt = _
      rw [putL_at, if_pos ⟨rfl, rfl⟩]
      have e60 := (bf.2.1 y hy).1
      rw [j_add (by rw [i39, e60]; unfold GRT BIG at *; omega) (by rw [i39, e60]; unfold GRT BIG at *; omega), i39, e60, cs]
/-- the rows below k of F -/
def low (k : Nat) (F : Nat → Option Nat) : Nat → Option Nat := fun i => if i < k then F i else none
theorem low_at {k : Nat} {F : Nat → Option Nat} : low k F k = none := by unfold low; rw [if_neg (by omega)]
theorem low_succ (k : Nat) (F : Nat → Option Nat) : low (k + 1) F = uo (low k F) k (F k) := by
  funext i
  unfold low uo
  by_cases h : i = k
  · subst h; rw [if_pos (by omega), if_pos rfl]
  · rw [if_neg h]
    by_cases h2 : i < k
    · show _ = (if i < k then F i else none)
      rw [if_pos h2, if_pos (by omega)]
    · show _ = (if i < k then F i else none)
      rw [if_neg h2, if_neg (by omega)]
theorem Val_low {k : Nat} (v : Val n A F) : Val n A (low k F) := by
  have e : ∀ i x, low k F i = some x → F i = some x := fun i x h => by
    unfold low at h
    by_cases hk : i < k
    · rw [if_pos hk] at h; exact h
    · rw [if_neg hk] at h; cases h
  exact ⟨fun i x hi h => v.1 i x hi (e i x h), fun i i' x hi hi' h h' => v.2 i i' x hi hi' (e i x h) (e i' x h')⟩
theorem P_solve {M : Mem} {Q : Mem → Prop} (hAj : ∀ k j, A k j = true → j < k) (hn : n ≤ 16) (hm : m ≤ n) (hp : ∀ k j, k < n → j < n → 0 ≤ p k j ∧ p k j ≤ PMX) (pd : PD n A p M) (s59 : ∀ k, k < n → M.1 59 k = if k < m then 1 else 0) (s56 : ∀ k, k < m → M.1 56 k = oI (F k)) (hF0 : ∀ k, m ≤ k → F k = none) (vF : Val n A F)
    (hQ : ∀ N G a' b', MR M N → ST n m A p G N → Val n A G → (∀ i, i < m → G i = F i) → Cert n m A p BIG G a' b' → N.1 35 40 = nI (cnF n G) → (N.2 35 39).toInt = csF n p G → Q N) : P_Mo_solve (nI n) M Q := by
  have hpB : ∀ k j, k < n → A k j = true → 0 ≤ p k j ∧ p k j ≤ PMX := fun k j hk h => hp k j hk (by have := hAj k j h; omega)
  /- raised as long as it goes -/
  have k133 : ∀ W : Nat, ∀ (N : Mem) (G : Nat → Option Nat) (l : Int) (a b : Nat → Int), n - cnF n G ≤ W → MR M N → ST n m A p G N → Val n A G → (∀ i, i < m → G i = F i) → Cert n m A p l G a b → 0 ≤ l → l ≤ BIG → N.1 35 40 = nI (cnF n G) → (N.2 35 39).toInt = csF n p G → P_Mo_solve_133 Q (W + 2) (nI n) 1 N := by
    have last : ∀ q (N : Mem) (G : Nat → Option Nat) (a b : Nat → Int), MR M N → ST n m A p G N → Val n A G → (∀ i, i < m → G i = F i) → Cert n m A p BIG G a b → N.1 35 40 = nI (cnF n G) → (N.2 35 39).toInt = csF n p G → P_Mo_solve_133 Q (q + 1) (nI n) 0 N := fun q N G a b h1 h2 h3 h4 h5 h6 h7 => by
      unfold P_Mo_solve_133
      exact br_T rfl (hQ N G a b h1 h2 h3 h4 h5 h6 h7)
    intro W
    induction W with
    | zero =>
      intro N G l a b hW mr st vG pre c hl0 hlB e40 e39
      unfold P_Mo_solve_133
      refine br_F (by decide) (P_raises hAj st vG c hn hm hp hl0 hlB e40 e39 (fun N' a' b' mr' st' c' f40 f39 => last 0 N' G a' b' (mr.trans mr') st' vG pre c' f40 f39) (fun N' F' l' a' b' mr' st' v' pre' c' h1 h2 cn f40 f39 => ?_))
      have := cntB_le (fun k => (F' k).isSome) n
      unfold cnF at cn hW
      omega
    | succ W ih =>
      intro N G l a b hW mr st vG pre c hl0 hlB e40 e39
      unfold P_Mo_solve_133
      refine br_F (by decide) (P_raises hAj st vG c hn hm hp hl0 hlB e40 e39 (fun N' a' b' mr' st' c' f40 f39 => last (W + 1) N' G a' b' (mr.trans mr') st' vG pre c' f40 f39) (fun N' F' l' a' b' mr' st' v' pre' c' h1 h2 cn f40 f39 => ih N' F' l' a' b' (by omega) (mr.trans mr') st' v' (fun i hi => (pre' i hi).trans (pre i hi)) c' h1 h2 f40 f39))
  /- the fixed rows -/
  have k39 : ∀ d k, k + d = n → ∀ N, MR M N → ST n m A p (low k F) N → N.1 35 40 = nI (cnF n (low k F)) → (N.2 35 39).toInt = csF n p (low k F) → P_Mo_solve_39 Q (d + 1) (nI n) (nI k) N := by
    intro d
    induction d with
    | zero =>
      intro k hk N mr st e40 e39
      have : k = n := by omega
      subst this
      unfold P_Mo_solve_39
      refine br_T (nI_le (by omega) (by omega)) ⟨_, k133 _ N (low k F) 0 (fun _ => 0) (fun _ => 0) (Nat.le_refl _) mr st (Val_low vF) (fun i hi => ?_) ⟨fun _ _ => Int.le_refl _, fun _ _ => Int.le_refl _, fun k' j h1 h2 h3 h4 h5 => ?_, fun k' h => ?_, fun _ _ _ => rfl⟩ (Int.le_refl _) (by unfold BIG; omega) e40 e39⟩
      · unfold low; rw [if_pos (by omega)]
      · have := (hp k' j h2 h3).1
        show 0 ≤ p k' j - 0 + 0 + 0
        omega
      · have : cut m (low k F) k' = none := by
          unfold cut low
          by_cases hkm : k' < m
          · rw [if_pos hkm]
          · rw [if_neg hkm, if_pos h]
            exact hF0 k' (by omega)
        rw [this]
        rfl
    | succ d ih =>
      intro k hk N mr st e40 e39
      have hkn : k < n := by omega
      have nx := ih (k + 1) (by omega)
      rw [low_succ] at nx
      unfold P_Mo_solve_39
      rw [nI_1 k, cl_nI (n := k) (by omega), st.2.1 k hkn]
      refine br_F (nI_ge (by omega) (by omega)) ⟨in_nI (by omega) (by omega), ?_⟩
      have same : F k = none → uo (low k F) k (F k) = low k F := fun hz => by
        funext i
        by_cases hik : i = k
        · subst hik; rw [uo_at, hz, low_at]
        · rw [uo_ne hik]
      by_cases hkm : k < m
      · rw [if_pos hkm]
        have n56 : N.1 56 k = oI (F k) := by rw [(mr.1 56 (by decide)).1]; exact s56 k hkm
        rw [n56]
        refine br_F (by decide) ?_
        cases hz : F k with
        | none =>
          rw [same hz] at nx
          exact br_T' rfl (nx N mr st e40 e39)
        | some j =>
          obtain ⟨hA, hj⟩ := vF.1 k j hkn hz
          rw [hz] at nx
          show (¬ nI j = -1 → vp_in (nI j) 16 ∧ vp_in (16 * nI k + nI j) 256 ∧ _) ∧ _
          refine br_F' (nI_ne1 (by omega)) ?_
          show vp_in (nI j) 16 ∧ vp_in (16 * nI k + nI j) 256 ∧ P_Mo_solve_39 Q (d + 1) (nI n) (nI (k + 1)) (putL (putI (putI (putI N 53 k (nI j)) 54 (nI j).toNatClampNeg (nI k)) 35 40 (N.1 35 40 + 1)) 35 39 (N.2 35 39 + N.2 57 (16 * nI k + nI j).toNatClampNeg))
          rw [ix16, cl_nI (n := j) (by omega), cl_nI (n := 16 * k + j) (by omega), e40, nI_1]
          have jf : FC n (low k F) j := fun k' hk' e => by
            unfold low at e
            by_cases hkk : k' < k
            · rw [if_pos hkk] at e
              have := vF.2 k' k j hk' hkn e hz
              omega
            · rw [if_neg hkk] at e; cases e
          refine ⟨in_nI (by omega) (by omega), in_nI (by omega) (by omega), nx _ (mr.trans ⟨?_, fun f hf => ?_, fun f hf => ?_⟩) ⟨fun k' j' h1 h2 => ?_, fun k' h => ?_, fun k' hk' => ?_, fun j' k' hj' hk' hw => ?_, fun j' hj' hf => ?_⟩ ?_ ?_⟩
          · exact ((((Same.refl _ _).putI (by simp)).putI (by simp)).putI (by simp)).putL (by simp)
          · show (putI (putI (putI N 53 k (nI j)) 54 j (nI k)) 35 40 (nI (cnF n (low k F) + 1))).1 35 f = _
            rw [putI_at, if_neg (fun x => hf x.2), putI_ne1 (by omega), putI_ne1 (by omega)]
          · rw [putL_at, if_neg (fun x => hf x.2)]
            rfl
          · exact st.1 k' j' h1 h2
          · exact st.2.1 k' h
          · show (putI (putI (putI N 53 k (nI j)) 54 j (nI k)) 35 40 (nI (cnF n (low k F) + 1))).1 53 k' = _
            rw [putI_ne1 (by omega), putI_ne1 (by omega), putI_at]
            by_cases hkk : k' = k
            · subst hkk; rw [if_pos ⟨rfl, rfl⟩, uo_at]; rfl
            · rw [if_neg (fun x => hkk x.2), uo_ne hkk]; exact st.2.2.1 k' hk'
          · show (putI (putI (putI N 53 k (nI j)) 54 j (nI k)) 35 40 (nI (cnF n (low k F) + 1))).1 54 j' = _
            rw [putI_ne1 (by omega), putI_at]
            by_cases hkk : k' = k
            · subst hkk
              rw [uo_at] at hw
              cases hw
              rw [if_pos ⟨rfl, rfl⟩]
            · rw [uo_ne hkk] at hw
              rw [if_neg (fun x => jf k' hk' (by rw [hw, x.2])), putI_ne1 (by omega)]
              exact st.2.2.2.1 j' k' hj' hk' hw
          · have hjj : j' ≠ j := fun e => hf k hkn (by rw [uo_at, e])
            show (putI (putI (putI N 53 k (nI j)) 54 j (nI k)) 35 40 (nI (cnF n (low k F) + 1))).1 54 j' = _
            rw [putI_ne1 (by omega), putI_at, if_neg (fun x => hjj x.2), putI_ne1 (by omega)]
            refine st.2.2.2.2 j' hj' (fun k' hk' e => ?_)
            by_cases hkk : k' = k
            · rw [hkk, low_at] at e; cases e
            · exact hf k' hk' (by rw [uo_ne hkk]; exact e)
          · rw [cnF_uo hkn, if_pos low_at]
            show (putI (putI (putI N 53 k (nI j)) 54 j (nI k)) 35 40 (nI (cnF n (low k F) + 1))).1 35 40 = _
            exact putI_same
          · rw [putL_at, if_pos ⟨rfl, rfl⟩, csF_uo hkn, low_at]
            have e57 := (st.1 k j hkn hj).2
            have rr := csF_rng hn hpB (Val_low (k := k) vF)
            have pp := hp k j hkn hj
            rw [j_add (by rw [e39, e57]; unfold BIG PMX at *; omega) (by rw [e39, e57]; unfold BIG PMX at *; omega), e39, e57]
            show _ = csF n p (low k F) - 0 + p k j
            omega
      · rw [if_neg hkm]
        rw [same (hF0 k (by omega))] at nx
        exact br_T rfl (nx N mr st e40 e39)
  /- all free -/
  have k12 : ∀ d k, k + d = n → ∀ N, MR M N → (∀ i, i < k → N.1 53 i = -1 ∧ N.1 54 i = -1) → N.1 35 40 = 0 → N.2 35 39 = 0 → P_Mo_solve_12 Q (d + 1) (nI n) (nI k) N := by
    intro d
    induction d with
    | zero =>
      intro k hk N mr hN e40 e39
      have : k = n := by omega
      subst this
      have z : ∀ i, low 0 F i = none := fun i => by unfold low; rw [if_neg (by omega)]
      have zc : cnF k (low 0 F) = 0 := by
        unfold cnF
        have : ∀ q, cntB (fun i => (low 0 F i).isSome) q = 0 := fun q => by
          induction q with
          | zero => rfl
          | succ q ih => rw [cntB_succ_f (by rw [z]; decide)]; exact ih
        exact this k
      have zs : csF k p (low 0 F) = 0 := sz_zero (fun i hi => by rw [z]; rfl)
      unfold P_Mo_solve_12
      refine br_T (nI_le (by omega) (by omega)) ⟨k + 1, k39 k 0 (by omega) N mr ⟨fun k' j' h1 h2 => ?_, fun k' h => ?_, fun k' hk' => ?_, fun j' k' _ _ hw => ?_, fun j' hj' _ => (hN j' hj').2⟩ ?_ ?_⟩
      · rw [(mr.1 58 (by decide)).1, (mr.1 57 (by decide)).2]; exact pd k' j' h1 h2
      · rw [(mr.1 59 (by decide)).1]; exact s59 k' h
      · rw [z]; exact (hN k' hk').1
      · rw [z] at hw; cases hw
      · rw [zc]; exact e40
      · rw [zs, e39]; decide
    | succ d ih =>
      intro k hk N mr hN e40 e39
      unfold P_Mo_solve_12
      rw [nI_1 k, cl_nI (n := k) (by omega)]
      refine br_F (nI_ge (by omega) (by omega)) ⟨in_nI (by omega) (by omega), ih (k + 1) (by omega) _ (mr.trans ⟨((Same.refl _ _).putI (by simp)).putI (by simp), fun f _ => rfl, fun f _ => rfl⟩) (fun i hi => ?_) e40 e39⟩
      by_cases hik : i = k
      · subst hik
        exact ⟨by rw [putI_ne1 (by omega), putI_same], putI_same⟩
      · rw [putI_ne1 (c' := 53) (by omega), putI_at, if_neg (fun x => hik x.2), putI_at, if_neg (fun x => hik x.2), putI_ne1 (by omega)]
        exact hN i (by omega)
  unfold P_Mo_solve
  refine ⟨n + 1, k12 n 0 (by omega) _ ⟨((Same.refl _ _).putI (by simp)).putL (by simp), fun f hf => ?_, fun f hf => ?_⟩ (fun i hi => absurd hi (Nat.not_lt_zero _)) rfl rfl⟩
  · show (putI M 35 40 0).1 35 f = _
    rw [putI_at, if_neg (fun x => hf x.2)]
  · rw [putL_at, if_neg (fun x => hf x.2)]
    rfl
end Solve
