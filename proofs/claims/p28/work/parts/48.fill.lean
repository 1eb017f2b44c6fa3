/-- Arrays.fill on a row of the class -/
theorem e_fill (a n : Nat) (hn : mm_len S_c a = n) (hn2 : n ≤ 100000) (v : Int32) (M : mm_M) : ∃ M', J7_fill_53178 a v M = some M' ∧ (∀ i, i < n → M' a i = v) ∧ (∀ i, n ≤ i → M' a i = M a i) ∧ ∀ c, c ≠ a → M' c = M c := by
  unfold J7_fill_53178
  rw [hn]
  refine e_loopF (I := fun (s : Int32 × mm_M) => ∃ i : Nat, i ≤ n ∧ s.1 = nI i ∧ (∀ k, k < i → s.2 a k = v) ∧ (∀ k, i ≤ k → s.2 a k = M a k) ∧ ∀ c, c ≠ a → s.2 c = M c) (Q := fun (M' : mm_M) => (∀ i, i < n → M' a i = v) ∧ (∀ i, n ≤ i → M' a i = M a i) ∧ ∀ c, c ≠ a → M' c = M c) (fun (s : Int32 × mm_M) => n - Int32.toNatClampNeg s.1) ?_ (0, M) ⟨0, by omega, rfl, fun k h => by omega, fun k _ => rfl, fun c _ => rfl⟩ (by omega)
  rintro ⟨x, N⟩ ⟨i, hi, rfl, h1, h2, h3⟩
  dsimp only at h1 h2 h3
  unfold J7_fill_53178_l5
  dsimp only
  rw [hn]
  by_cases c : i = n
  · subst c
    rw [if_pos (show Int32.ofNat i ≤ nI i from Int32.le_refl _)]
    exact Or.inr ⟨N, rfl, h1, h2, h3⟩
  · have c0 : ¬ Int32.ofNat n ≤ nI i := by
      show ¬ nI n ≤ nI i
      rw [e_le, e_nIt (by omega), e_nIt (by omega)]
      omega
    have hin : mm_in (nI i) n = true := e_inb (by rw [e_nIt (by omega)]; omega) (by rw [e_nIt (by omega)]; omega)
    rw [if_neg c0, if_pos hin, e_nIc (show i < 2147483648 by omega)]
    refine Or.inl ⟨_, rfl, ⟨i + 1, by omega, nI_1 i, fun k hk => ?_, fun k hk => ?_, fun c hc => ?_⟩, ?_⟩
    · show mm_U N a i v a k = v
      rw [e_U]
      by_cases ck : k = i
      · simp [ck]
      · simp only [ck, and_false, if_false]
        exact h1 k (by omega)
    · show mm_U N a i v a k = M a k
      rw [e_U]
      have ck : k ≠ i := by omega
      simp only [ck, and_false, if_false]
      exact h2 k (by omega)
    · show mm_U N a i v c = M c
      rw [mm_U_ne c hc]
      exact h3 c hc
    · show n - Int32.toNatClampNeg (nI i + 1) < n - i
      rw [nI_1, e_nIc (by omega)]
      omega
/-- the greatest of the first k numbers -/
def mxA (f : Nat → Nat) : Nat → Nat
  | 0 => 0
  | k + 1 => max (mxA f k) (f k)
theorem mxA_le {f : Nat → Nat} : ∀ k a, a < k → f a ≤ mxA f k := by
  intro k
  induction k with
  | zero => intro a h; omega
  | succ k ih =>
    intro a h
    show f a ≤ max (mxA f k) (f k)
    by_cases c : a = k
    · subst c
      exact Nat.le_max_right _ _
    · exact Nat.le_trans (ih a (by omega)) (Nat.le_max_left _ _)
theorem mxA_ub {f : Nat → Nat} {b : Nat} : ∀ k, (∀ a, a < k → f a ≤ b) → mxA f k ≤ b := by
  intro k
  induction k with
  | zero => intro _; exact Nat.zero_le _
  | succ k ih => intro h; exact Nat.max_le.mpr ⟨ih (fun a ha => h a (by omega)), h k (by omega)⟩
theorem mxA_inc {f g : Nat → Nat} {k a : Nat} (ha : a < k) (hg : g a = f a + 1) (ho : ∀ b, b < k → b ≠ a → g b = f b) : mxA g k = max (mxA f k) (f a + 1) := by
  apply Nat.le_antisymm
  · refine mxA_ub k (fun b hb => ?_)
    by_cases c : b = a
    · subst c
      rw [hg]
      exact Nat.le_max_right _ _
    · rw [ho b hb c]
      exact Nat.le_trans (mxA_le k b hb) (Nat.le_max_left _ _)
  · refine Nat.max_le.mpr ⟨mxA_ub k (fun b hb => ?_), ?_⟩
    · by_cases c : b = a
      · subst c
        have := mxA_le (f := g) k b hb
        omega
      · rw [← ho b hb c]
        exact mxA_le k b hb
    · rw [← hg]
      exact mxA_le k a ha
theorem mxA_congr {f g : Nat → Nat} : ∀ k, (∀ a, a < k → f a = g a) → mxA f k = mxA g k := by
  intro k
  induction k with
  | zero => intro _; rfl
  | succ k ih =>
    intro h
    show max (mxA f k) (f k) = max (mxA g k) (g k)
    rw [ih (fun a ha => h a (by omega)), h k (by omega)]
/-- of the states below k in the set x: how many answer a -/
def nxC (M : mm_M) (x : Int32) (q a : Nat) : Nat → Nat
  | 0 => 0
  | k + 1 => nxC M x q a k + if bt x k = true ∧ vA M q k = nI a then 1 else 0
theorem nxC_le {M : mm_M} {x : Int32} {q a : Nat} : ∀ k, nxC M x q a k ≤ k := by
  intro k
  induction k with
  | zero => exact Nat.le_refl _
  | succ k ih =>
    show nxC M x q a k + (if _ then 1 else 0) ≤ k + 1
    split <;> omega
theorem nx_has (x : Int32) {k : Nat} (hk : k < 32) : (X12_has x (nI k) = true ↔ bt x k = true) ∧ (((x >>> (nI k &&& 31)) &&& 1) = 0 ↔ ¬ bt x k = true) := by
  unfold X12_has
  rw [b_has x hk]
  cases bt x k <;> simp
theorem nx_ans {M1 M2 : mm_M} (hv : rl_val M1 M2) {q s : Nat} (hq : q < 8) (hs : s < 10) : ∃ a : Nat, a < 10 ∧ vA M1 q s = nI a := by
  obtain ⟨-, -, hr, -⟩ := hv.2.2 (10 * q + s) (by omega)
  have h2 := hr.2
  exact ⟨Int32.toNatClampNeg (M1 8 (10 * q + s)), by have := e_cl hr.1; omega, e_nI hr.1⟩
