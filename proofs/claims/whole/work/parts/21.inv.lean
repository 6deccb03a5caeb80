/-! what holds between the class' memory and the model's, between calls -/
def ITape (M : Mem) : Prop := ∃ u : Nat, u ≤ 400 ∧ M.1 1 1 = nI u ∧ M.1 35 2 = nI u ∧ ∀ j, j < u → M.1 36 j = M.1 2 j &&& 255
def INow (M : Mem) : Prop := ∃ t : Nat, t ≤ 2000000 ∧ M.1 0 10 = nI t ∧ M.1 35 7 = nI t
def IEar (ch c k : Nat) (M : Mem) : Prop :=
  M.1 37 ch = M.1 c 1 ∧ (M.1 c 1 = 0 ∨ M.1 c 1 = 1) ∧ (∃ o : Nat, o ≤ 3200 * k ∧ M.1 38 ch = nI o ∧ M.1 c 2 = nI (min o 7) ∧ (7 ≤ o → M.1 c 3 = -1)) ∧ M.1 39 ch = M.1 c 3 ∧
  (M.1 c 3 = -1 ∨ ∃ p : Nat, p ≤ 300 ∧ M.1 c 3 = nI p ∧ ∀ j, j < p → M.1 40 (300 * ch + j) = M.1 (c + 1) j ∧ (M.1 (c + 1) j = 0 ∨ M.1 (c + 1) j = 1))
def ITorn (M : Mem) : Prop := M.1 3 4 + M.1 5 4 = M.1 35 8
def ICount (M : Mem) : Prop := M.1 0 11 = M.1 35 12 ∧ M.1 0 12 = M.1 35 13
/-- a row of the log is as it is read -/
def RecOk (r : Nat → Int32) : Prop :=
  (∃ s : Nat, s ≤ 2000000 ∧ r 3 = nI s) ∧ (r 2 = 0 ∨ r 2 = 1) ∧
  (r 0 = 1 → (-32768 ≤ (r 4).toInt ∧ (r 4).toInt ≤ 32767) ∧ (-32768 ≤ (r 5).toInt ∧ (r 5).toInt ≤ 32767) ∧ (-128 ≤ (r 6).toInt ∧ (r 6).toInt ≤ 127) ∧ (-128 ≤ (r 7).toInt ∧ (r 7).toInt ≤ 127)) ∧
  (r 0 = 4 → ∃ m w : Nat, 2 ≤ m ∧ m ≤ 5 ∧ w < m ∧ r 6 = nI m ∧ r 5 = nI w)
def ILog (e : Nat) (M : Mem) : Prop :=
  e ≤ 200 ∧ M.1 11 1 = nI e ∧ M.1 35 11 = nI e ∧ (∀ j, j < 8 * e → M.1 41 j = M.1 12 j) ∧ (∀ i, i < e → RecOk (fun f => M.1 12 (8 * i + f))) ∧
  (∀ i, i < e → (M.1 12 (8 * i + 3)).toInt ≤ (M.1 0 10).toInt) ∧ ∀ i j, i ≤ j → j < e → (M.1 12 (8 * i + 3)).toInt ≤ (M.1 12 (8 * j + 3)).toInt
def cntB (f : Nat → Bool) : Nat → Nat
  | 0 => 0
  | n + 1 => cntB f n + (if f n then 1 else 0)
def sumN (f : Nat → Nat) : Nat → Nat
  | 0 => 0
  | n + 1 => sumN f n + f n
/-- a claim at l clashes with an earlier one at r -/
def clB (g : Nat → Int32) (l r : Nat) : Bool := decide (g (8 * l) = 5) && decide (g (8 * r) = 5) && decide (¬ g (8 * l + 1) = g (8 * r + 1)) && decide (g (8 * l + 4) = g (8 * r + 4)) && decide (g (8 * l + 3) < g (8 * r + 3) + 60 * g (8 * r + 5))
def clN (g : Nat → Int32) (l : Nat) : Nat := cntB (clB g l) l
def IClash (e : Nat) (M : Mem) : Prop := (∀ k, k < 200 → M.1 14 k = nI (if k < e then clN (M.1 12) k else 0)) ∧ M.1 13 1 = nI (sumN (clN (M.1 12)) e)
def IText (e : Nat) (M : Mem) : Prop :=
  (∀ i, i < e → M.1 16 i = M.1 42 i ∧ (M.1 16 i = 0 ∨ M.1 16 i = 1)) ∧ (∀ i, e ≤ i → i < 200 → M.1 16 i = 0) ∧
  ∃ t : Nat, M.1 15 4 = nI t ∧ M.1 35 20 = nI t ∧ 2 * t ≤ cntB (fun i => decide (M.1 16 i = 1)) e ∧
    ∀ i, i < t → ∃ w : Nat, w < e ∧ M.1 12 (8 * w) = 4 ∧ M.1 18 i = nI w ∧ M.1 47 i = nI w ∧ M.1 44 i = M.1 12 (8 * w + 1) ∧ M.1 45 i = M.1 12 (8 * w + 4) ∧ M.1 46 i = M.1 12 (8 * w + 6) * 4 ∧
      ∀ p : Nat, nI p < M.1 12 (8 * w + 6) → p < 5 → ∃ j : Nat, j < e ∧ M.1 17 (5 * i + p) = nI j ∧ M.1 48 (5 * i + p) = M.1 12 (8 * j + 7)
def ILogs (M : Mem) : Prop := ∃ e : Nat, ILog e M ∧ IClash e M ∧ IText e M
def IOut (M : Mem) : Prop := ∃ n : Nat, n ≤ 16 ∧ M.1 9 1 = nI (8 * n) ∧ M.1 35 23 = nI n ∧ ∀ k, k < n → M.1 49 k = M.1 10 k &&& 255
def IPart (M : Mem) : Prop := (∃ n : Nat, n ≤ 16 ∧ M.1 20 4 = nI n ∧ M.1 35 37 = nI n ∧ ∀ k, k < n → M.1 31 k = M.1 51 k ∧ M.1 32 k = M.1 56 k ∧ M.1 33 k = M.1 55 k) ∧ M.2 20 6 = M.2 35 38
def IMeet (M : Mem) : Prop := M.1 34 0 = M.1 35 43
def Inv (k : Nat) (M : Mem) : Prop := ITape M ∧ INow M ∧ IEar 0 3 k M ∧ IEar 1 5 k M ∧ ITorn M ∧ ICount M ∧ ILogs M ∧ IOut M ∧ IPart M ∧ IMeet M
theorem ITape.congr {M N : Mem} (h : ITape M) (h1 : N.1 1 1 = M.1 1 1) (h2 : N.1 35 2 = M.1 35 2) (h3 : N.1 36 = M.1 36) (h4 : N.1 2 = M.1 2) : ITape N := by
  unfold ITape at h ⊢; rw [h1, h2, h3, h4]; exact h
theorem INow.congr {M N : Mem} (h : INow M) (h1 : N.1 0 10 = M.1 0 10) (h2 : N.1 35 7 = M.1 35 7) : INow N := by
  unfold INow at h ⊢; rw [h1, h2]; exact h
theorem IEar.congr {ch c k k' : Nat} {M N : Mem} (h : IEar ch c k M) (hk : k ≤ k') (h1 : N.1 37 = M.1 37) (h2 : N.1 38 = M.1 38) (h3 : N.1 39 = M.1 39) (h4 : N.1 40 = M.1 40) (h5 : N.1 c = M.1 c) (h6 : N.1 (c + 1) = M.1 (c + 1)) : IEar ch c k' N := by
  unfold IEar at h ⊢; rw [h1, h2, h3, h4, h5, h6]
  obtain ⟨a1, a2, ⟨o, a3, a4⟩, a5⟩ := h
  exact ⟨a1, a2, ⟨o, Nat.le_trans a3 (Nat.mul_le_mul_left _ hk), a4⟩, a5⟩
theorem ITorn.congr {M N : Mem} (h : ITorn M) (h1 : N.1 3 4 = M.1 3 4) (h2 : N.1 5 4 = M.1 5 4) (h3 : N.1 35 8 = M.1 35 8) : ITorn N := by
  unfold ITorn at h ⊢; rw [h1, h2, h3]; exact h
theorem ICount.congr {M N : Mem} (h : ICount M) (h1 : N.1 0 11 = M.1 0 11) (h2 : N.1 35 12 = M.1 35 12) (h3 : N.1 0 12 = M.1 0 12) (h4 : N.1 35 13 = M.1 35 13) : ICount N := by
  unfold ICount at h ⊢; rw [h1, h2, h3, h4]; exact h
theorem ILog.congr {e : Nat} {M N : Mem} (h : ILog e M) (h1 : N.1 11 1 = M.1 11 1) (h2 : N.1 35 11 = M.1 35 11) (h3 : N.1 41 = M.1 41) (h4 : N.1 12 = M.1 12) (h5 : (M.1 0 10).toInt ≤ (N.1 0 10).toInt) : ILog e N := by
  unfold ILog at h ⊢; rw [h1, h2, h3, h4]
  obtain ⟨a1, a2, a3, a4, a5, a6, a7⟩ := h
  exact ⟨a1, a2, a3, a4, a5, fun i hi => Int.le_trans (a6 i hi) h5, a7⟩
theorem IClash.congr {e : Nat} {M N : Mem} (h : IClash e M) (h1 : N.1 14 = M.1 14) (h2 : N.1 13 1 = M.1 13 1) (h3 : N.1 12 = M.1 12) : IClash e N := by
  unfold IClash at h ⊢; rw [h1, h2, h3]; exact h
theorem IText.congr {e : Nat} {M N : Mem} (h : IText e M) (h1 : N.1 16 = M.1 16) (h2 : N.1 42 = M.1 42) (h3 : N.1 15 4 = M.1 15 4) (h4 : N.1 35 20 = M.1 35 20) (h5 : N.1 12 = M.1 12) (h6 : N.1 18 = M.1 18) (h7 : N.1 47 = M.1 47) (h8 : N.1 44 = M.1 44) (h9 : N.1 45 = M.1 45) (h10 : N.1 46 = M.1 46) (h11 : N.1 17 = M.1 17) (h12 : N.1 48 = M.1 48) : IText e N := by
  unfold IText at h ⊢; rw [h1, h2, h3, h4, h5, h6, h7, h8, h9, h10, h11, h12]; exact h
theorem IOut.congr {M N : Mem} (h : IOut M) (h1 : N.1 9 1 = M.1 9 1) (h2 : N.1 35 23 = M.1 35 23) (h3 : N.1 49 = M.1 49) (h4 : N.1 10 = M.1 10) : IOut N := by
  unfold IOut at h ⊢; rw [h1, h2, h3, h4]; exact h
theorem IPart.congr {M N : Mem} (h : IPart M) (h1 : N.1 20 4 = M.1 20 4) (h2 : N.1 35 37 = M.1 35 37) (h3 : N.1 31 = M.1 31) (h4 : N.1 51 = M.1 51) (h5 : N.1 32 = M.1 32) (h6 : N.1 56 = M.1 56) (h7 : N.1 33 = M.1 33) (h8 : N.1 55 = M.1 55) (h9 : N.2 20 6 = M.2 20 6) (h10 : N.2 35 38 = M.2 35 38) : IPart N := by
  unfold IPart at h ⊢; rw [h1, h2, h3, h4, h5, h6, h7, h8, h9, h10]; exact h
theorem IMeet.congr {M N : Mem} (h : IMeet M) (h1 : N.1 34 0 = M.1 34 0) (h2 : N.1 35 43 = M.1 35 43) : IMeet N := by
  unfold IMeet at h ⊢; rw [h1, h2]; exact h
theorem ILogs.congr {M N : Mem} (h : ILogs M) (h1 : N.1 11 1 = M.1 11 1) (h2 : N.1 35 11 = M.1 35 11) (h3 : N.1 41 = M.1 41) (h4 : N.1 12 = M.1 12) (h5 : (M.1 0 10).toInt ≤ (N.1 0 10).toInt) (g1 : N.1 14 = M.1 14) (g2 : N.1 13 1 = M.1 13 1) (f1 : N.1 16 = M.1 16) (f2 : N.1 42 = M.1 42) (f3 : N.1 15 4 = M.1 15 4) (f4 : N.1 35 20 = M.1 35 20) (f6 : N.1 18 = M.1 18) (f7 : N.1 47 = M.1 47) (f8 : N.1 44 = M.1 44) (f9 : N.1 45 = M.1 45) (f10 : N.1 46 = M.1 46) (f11 : N.1 17 = M.1 17) (f12 : N.1 48 = M.1 48) : ILogs N := by
  obtain ⟨e, a, b, c⟩ := h
  exact ⟨e, a.congr h1 h2 h3 h4 h5, b.congr g1 g2 h4, c.congr f1 f2 f3 f4 h4 f6 f7 f8 f9 f10 f11 f12⟩
/-- 'thrown' and the law's own row count for nothing -/
theorem Inv.thrown {k : Nat} {M : Mem} (h : Inv k M) (v : Int32) : Inv (k + 1) (putI M 35 0 v) := by
  obtain ⟨a1, a2, a3, a4, a5, a6, a7, a8, a9, a10⟩ := h
  exact ⟨a1.congr rfl rfl rfl rfl, a2.congr rfl rfl, a3.congr (Nat.le_succ k) rfl rfl rfl rfl rfl rfl, a4.congr (Nat.le_succ k) rfl rfl rfl rfl rfl rfl, a5.congr rfl rfl rfl, a6.congr rfl rfl rfl rfl,
    a7.congr rfl rfl rfl rfl (Int.le_refl _) rfl rfl rfl rfl rfl rfl rfl rfl rfl rfl rfl rfl rfl, a8.congr rfl rfl rfl rfl, a9.congr rfl rfl rfl rfl rfl rfl rfl rfl rfl rfl, a10.congr rfl rfl⟩
theorem Inv.out {k : Nat} {M : Mem} (h : Inv k M) (v : Int64) : Inv k (putL M 62 0 v) := by
  obtain ⟨a1, a2, a3, a4, a5, a6, a7, a8, a9, a10⟩ := h
  exact ⟨a1, a2, a3, a4, a5, a6, a7, a8, a9.congr rfl rfl rfl rfl rfl rfl rfl rfl rfl rfl, a10⟩
