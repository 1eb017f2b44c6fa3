-- loops: what they come to
theorem e_loop {σ ρ : Type} {step : σ → Option (σ ⊕ ρ)} (I : σ → Prop) (Q : ρ → Prop) (μ : σ → Nat) (hs : ∀ s, I s → (∃ s', step s = some (.inl s') ∧ I s' ∧ μ s' < μ s) ∨ (∃ r, step s = some (.inr r) ∧ Q r)) : ∀ (n : Nat) (s : σ), I s → μ s < n → ∃ r, mm_loop step n s = some r ∧ Q r := by
  intro n
  induction n with
  | zero => intro s _ h; omega
  | succ n ih =>
    intro s hi hm
    rcases hs s hi with ⟨s', e, hi', hm'⟩ | ⟨r, e, hq⟩
    · obtain ⟨r, h1, h2⟩ := ih s' hi' (by omega)
      exact ⟨r, by rw [mm_loop, e]; exact h1, h2⟩
    · exact ⟨r, by rw [mm_loop, e]; rfl, hq⟩
/-- a loop that counts: the states one behind the other -/
theorem e_trace {σ ρ : Type} {step : σ → Option (σ ⊕ ρ)} (f : Nat → σ) (e : Nat) (r : ρ) (hs : ∀ i, i < e → step (f i) = some (.inl (f (i + 1)))) (he : step (f e) = some (.inr r)) : ∀ (k i n : Nat), i + k = e → k < n → mm_loop step n (f i) = some r := by
  intro k
  induction k with
  | zero =>
    intro i n hi hn
    obtain ⟨m, rfl⟩ : ∃ m, n = m + 1 := ⟨n - 1, by omega⟩
    have : i = e := by omega
    subst this
    rw [mm_loop, he]
    rfl
  | succ k ih =>
    intro i n hi hn
    obtain ⟨m, rfl⟩ : ∃ m, n = m + 1 := ⟨n - 1, by omega⟩
    rw [mm_loop, hs i (by omega)]
    exact ih (i + 1) m (by omega) (by omega)
theorem e_trace0 {σ ρ : Type} {step : σ → Option (σ ⊕ ρ)} (f : Nat → σ) (e : Nat) (he4 : e < 4000000000) (r : ρ) (hs : ∀ i, i < e → step (f i) = some (.inl (f (i + 1)))) (he : step (f e) = some (.inr r)) : mm_loop step mm_fuel (f 0) = some r := e_trace f e r hs he e 0 mm_fuel (by omega) (by rw [mm_fuel_eq]; exact he4)
theorem e_loopF {σ ρ : Type} {step : σ → Option (σ ⊕ ρ)} (I : σ → Prop) (Q : ρ → Prop) (μ : σ → Nat) (hs : ∀ s, I s → (∃ s', step s = some (.inl s') ∧ I s' ∧ μ s' < μ s) ∨ (∃ r, step s = some (.inr r) ∧ Q r)) (s : σ) (hi : I s) (hm : μ s < 4000000000) : ∃ r, mm_loop step mm_fuel s = some r ∧ Q r := e_loop I Q μ hs mm_fuel s hi (by rw [mm_fuel_eq]; exact hm)
/-- two loops side by side -/
theorem e_loop2 {σ σ' ρ ρ' : Type} {step : σ → Option (σ ⊕ ρ)} {step' : σ' → Option (σ' ⊕ ρ')} (I : σ → σ' → Prop) (Q : ρ → ρ' → Prop) (μ : σ → σ' → Nat) (hs : ∀ s s', I s s' → (∃ t t', step s = some (.inl t) ∧ step' s' = some (.inl t') ∧ I t t' ∧ μ t t' < μ s s') ∨ (∃ r r', step s = some (.inr r) ∧ step' s' = some (.inr r') ∧ Q r r')) : ∀ (n : Nat) (s : σ) (s' : σ'), I s s' → μ s s' < n → ∃ r r', mm_loop step n s = some r ∧ mm_loop step' n s' = some r' ∧ Q r r' := by
  intro n
  induction n with
  | zero => intro s s' _ h; omega
  | succ n ih =>
    intro s s' hi hm
    rcases hs s s' hi with ⟨t, t', e, e', hi', hm'⟩ | ⟨r, r', e, e', hq⟩
    · obtain ⟨r, r', h1, h2, h3⟩ := ih t t' hi' (by omega)
      exact ⟨r, r', by rw [mm_loop, e]; exact h1, by rw [mm_loop, e']; exact h2, h3⟩
    · exact ⟨r, r', by rw [mm_loop, e]; rfl, by rw [mm_loop, e']; rfl, hq⟩
theorem e_loop2F {σ σ' ρ ρ' : Type} {step : σ → Option (σ ⊕ ρ)} {step' : σ' → Option (σ' ⊕ ρ')} (I : σ → σ' → Prop) (Q : ρ → ρ' → Prop) (μ : σ → σ' → Nat) (hs : ∀ s s', I s s' → (∃ t t', step s = some (.inl t) ∧ step' s' = some (.inl t') ∧ I t t' ∧ μ t t' < μ s s') ∨ (∃ r r', step s = some (.inr r) ∧ step' s' = some (.inr r') ∧ Q r r')) (s : σ) (s' : σ') (hi : I s s') (hm : μ s s' < 4000000000) : ∃ r r', mm_loop step mm_fuel s = some r ∧ mm_loop step' mm_fuel s' = some r' ∧ Q r r' := e_loop2 I Q μ hs mm_fuel s s' hi (by rw [mm_fuel_eq]; exact hm)
-- numbers
/-- an int by its value: every int is that of one Int -/
theorem e_lt {a b : Int32} : a < b ↔ a.toInt < b.toInt := Int32.lt_iff_toInt_lt
theorem e_le {a b : Int32} : a ≤ b ↔ a.toInt ≤ b.toInt := Int32.le_iff_toInt_le
theorem e_eq {a b : Int32} : a = b ↔ a.toInt = b.toInt := Int32.toInt_inj.symm
theorem e_bmod {x : Int} (h1 : -2147483648 ≤ x) (h2 : x < 2147483648) : x.bmod (2 ^ 32) = x := by
  have h3 : ((2 ^ 32 : Nat) : Int) = 4294967296 := rfl
  rw [Int.bmod_def, h3]
  split <;> omega
theorem e_add {a b : Int32} (h1 : -2147483648 ≤ a.toInt + b.toInt) (h2 : a.toInt + b.toInt < 2147483648) : (a + b).toInt = a.toInt + b.toInt := by
  rw [Int32.toInt_add]
  exact e_bmod h1 h2
theorem e_sub {a b : Int32} (h1 : -2147483648 ≤ a.toInt - b.toInt) (h2 : a.toInt - b.toInt < 2147483648) : (a - b).toInt = a.toInt - b.toInt := by
  rw [Int32.toInt_sub]
  exact e_bmod h1 h2
theorem e_mul {a b : Int32} (h1 : -2147483648 ≤ a.toInt * b.toInt) (h2 : a.toInt * b.toInt < 2147483648) : (a * b).toInt = a.toInt * b.toInt := by
  rw [Int32.toInt_mul]
  exact e_bmod h1 h2
theorem e_rng (a : Int32) : -2147483648 ≤ a.toInt ∧ a.toInt < 2147483648 := ⟨Int32.le_toInt a, Int32.toInt_lt a⟩
theorem e_cl {a : Int32} (h : 0 ≤ a.toInt) : ((Int32.toNatClampNeg a : Nat) : Int) = a.toInt := by
  unfold Int32.toNatClampNeg
  exact Int.toNat_of_nonneg h
theorem e_in {a : Int32} {n : Nat} : mm_in a n = true ↔ 0 ≤ a.toInt ∧ a.toInt < n := by
  rw [← vp_in_iff]
  unfold mm_in vp_in
  exact decide_eq_true_iff
theorem e_inb {a : Int32} {n : Nat} (h : 0 ≤ a.toInt) (h2 : a.toInt < n) : mm_in a n = true := e_in.mpr ⟨h, h2⟩
/-- a number from 0 on is the int of a Nat -/
theorem e_nI {a : Int32} (h : 0 ≤ a.toInt) : a = nI (Int32.toNatClampNeg a) := by
  rw [e_eq, nI_toInt (by have := e_cl h; have := e_rng a; omega), e_cl h]
theorem e_nIt {n : Nat} (h : n < 2147483648) : (nI n).toInt = (n : Int) := nI_toInt (by omega)
theorem e_nIc {n : Nat} (h : n < 2147483648) : Int32.toNatClampNeg (nI n) = n := nI_clamp (by omega)
theorem e_U {M : mm_M} {a k b j : Nat} {v : Int32} : mm_U M a k v b j = if b = a ∧ j = k then v else M b j := by
  unfold mm_U upd
  by_cases h1 : b = a
  · subst h1
    by_cases h2 : j = k <;> simp [h2]
  · simp [h1]
