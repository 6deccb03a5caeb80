/-! plain facts of ints and of the memory -/
theorem i_lt (a b : Int32) : a < b ↔ a.toInt < b.toInt := Int32.lt_iff_toInt_lt
theorem i_le (a b : Int32) : a ≤ b ↔ a.toInt ≤ b.toInt := Int32.le_iff_toInt_le
theorem i_eq (a b : Int32) : a = b ↔ a.toInt = b.toInt := Int32.toInt_inj.symm
theorem i_rng (a : Int32) : -2147483648 ≤ a.toInt ∧ a.toInt ≤ 2147483647 := by
  have h1 := Int32.le_toInt a
  have h2 := Int32.toInt_lt a
  omega
theorem bm32 {x : Int} (h1 : -2147483648 ≤ x) (h2 : x ≤ 2147483647) : x.bmod (2 ^ 32) = x := by
  rw [Int.bmod_eq_of_le] <;> omega
theorem i_add {a b : Int32} (h1 : -2147483648 ≤ a.toInt + b.toInt) (h2 : a.toInt + b.toInt ≤ 2147483647) : (a + b).toInt = a.toInt + b.toInt := by
  rw [Int32.toInt_add, bm32 h1 h2]
theorem i_sub {a b : Int32} (h1 : -2147483648 ≤ a.toInt - b.toInt) (h2 : a.toInt - b.toInt ≤ 2147483647) : (a - b).toInt = a.toInt - b.toInt := by
  rw [Int32.toInt_sub, bm32 h1 h2]
theorem i_mul {a b : Int32} (h1 : -2147483648 ≤ a.toInt * b.toInt) (h2 : a.toInt * b.toInt ≤ 2147483647) : (a * b).toInt = a.toInt * b.toInt := by
  rw [Int32.toInt_mul, bm32 h1 h2]
theorem i_nI {n : Nat} (h : n < 2147483648) : (nI n).toInt = n := nI_toInt h
theorem i_of {a : Int32} (h : 0 ≤ a.toInt) : ∃ n : Nat, n < 2147483648 ∧ a = nI n := by
  have h2 := i_rng a
  refine ⟨a.toInt.toNat, by omega, ?_⟩
  rw [i_eq, i_nI (by omega)]
  omega
theorem i_lit (n : Nat) : (OfNat.ofNat n : Int32) = nI n := rfl
theorem i_m1 : (-1 : Int32).toInt = -1 := by decide
theorem cl_nI {n : Nat} (h : n < 2147483648) : (nI n).toNatClampNeg = n := nI_clamp h
theorem in_nI {n N : Nat} (h : n < N) (hN : N < 2147483648) : vp_in (nI n) N := vp_in_nI h hN
/-- two memories are alike but for some cells -/
def Same (S : List Nat) (M N : Mem) : Prop := ∀ c, c ∉ S → N.1 c = M.1 c ∧ N.2 c = M.2 c
theorem Same.refl (S : List Nat) (M : Mem) : Same S M M := fun _ _ => ⟨rfl, rfl⟩
theorem Same.putI {S : List Nat} {M N : Mem} {c k : Nat} {v : Int32} (h : Same S M N) (hc : c ∈ S) : Same S M (putI N c k v) := fun d hd => by
  have hne : d ≠ c := fun e => hd (e ▸ hc)
  exact ⟨(putI_ne1 hne).trans (h d hd).1, (h d hd).2⟩
theorem Same.putL {S : List Nat} {M N : Mem} {c k : Nat} {v : Int64} (h : Same S M N) (hc : c ∈ S) : Same S M (putL N c k v) := fun d hd => by
  have hne : d ≠ c := fun e => hd (e ▸ hc)
  exact ⟨(h d hd).1, (putL_ne2 hne).trans (h d hd).2⟩
theorem Same.trans {S : List Nat} {M N O : Mem} (h1 : Same S M N) (h2 : Same S N O) : Same S M O := fun d hd => ⟨(h2 d hd).1.trans (h1 d hd).1, (h2 d hd).2.trans (h1 d hd).2⟩
theorem Same.mono {S T : List Nat} {M N : Mem} (h : Same S M N) (hs : ∀ c ∈ S, c ∈ T) : Same T M N := fun d hd => h d (fun z => hd (hs d z))
theorem putI_at (M : Mem) (c k : Nat) (v : Int32) (c' k' : Nat) : (putI M c k v).1 c' k' = if c' = c ∧ k' = k then v else M.1 c' k' := by
  unfold putI
  by_cases h1 : c' = c <;> by_cases h2 : k' = k <;> simp [h1, h2]
theorem putL_at (M : Mem) (c k : Nat) (v : Int64) (c' k' : Nat) : (putL M c k v).2 c' k' = if c' = c ∧ k' = k then v else M.2 c' k' := by
  unfold putL
  by_cases h1 : c' = c <;> by_cases h2 : k' = k <;> simp [h1, h2]
theorem putL_fst (M : Mem) (c k : Nat) (v : Int64) : (putL M c k v).1 = M.1 := rfl
theorem putI_snd (M : Mem) (c k : Nat) (v : Int32) : (putI M c k v).2 = M.2 := rfl
/-- a branch of a predicate is an if -/
theorem br_eq {c : Prop} [Decidable c] {A B : Prop} : ((c → A) ∧ (¬ c → B)) = if c then A else B := by
  by_cases h : c <;> simp [h]
theorem br_eq' {c : Prop} [Decidable c] {A B : Prop} : ((¬ c → A) ∧ (c → B)) = if c then B else A := by
  by_cases h : c <;> simp [h]
theorem br_T {c A B : Prop} (h : c) (a : A) : (c → A) ∧ (¬ c → B) := ⟨fun _ => a, fun n => absurd h n⟩
theorem br_F {c A B : Prop} (h : ¬ c) (b : B) : (c → A) ∧ (¬ c → B) := ⟨fun n => absurd n h, fun _ => b⟩
theorem br_T' {c A B : Prop} (h : c) (b : B) : (¬ c → A) ∧ (c → B) := ⟨fun n => absurd h n, fun _ => b⟩
theorem br_F' {c A B : Prop} (h : ¬ c) (a : A) : (¬ c → A) ∧ (c → B) := ⟨fun _ => a, fun n => absurd n h⟩
theorem res_eq {α : Type} {a b : α} {A : Prop} (h : a = b) (k : A) : (a = b → A) ∧ (¬ a = b → (0 : Int32) = 1) := ⟨fun _ => k, fun n => absurd h n⟩
