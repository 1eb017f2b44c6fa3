-- the relation between the class's memory and the reference's
def rl_r (x : Int32) (lo hi : Int) : Prop := lo ≤ x.toInt ∧ x.toInt ≤ hi
/-- a standing at address a: its numbers' bounds -/
def rl_st (M : mm_M) (a : Nat) : Prop := rl_r (M a 0) 0 9 ∧ rl_r (M a 1) 0 9 ∧ rl_r (M a 2) 0 8 ∧ rl_r (M a 3) 0 9999 ∧ rl_r (M a 4) 0 9999 ∧ rl_r (M a 5) 0 99999 ∧ rl_r (M a 6) 0 9999 ∧ rl_r (M a 7) 0 65535
def rl_now (M1 M2 : mm_M) : Prop := (∀ k, k < 8 → M1 4 k = M2 1 k) ∧ rl_st M1 4
def rl_kept (M1 M2 : mm_M) : Prop := M1 0 5 = M2 0 60 ∧ (¬ M1 0 5 = 0 → (∀ k, k < 8 → M1 5 k = M2 3 k) ∧ rl_st M1 5)
def rl_price (M1 M2 : mm_M) : Prop := ∀ k, k < 8 → M1 3 k = M2 4 k ∧ rl_r (M1 3 k) 0 99
def rl_val (M1 M2 : mm_M) : Prop := M1 7 0 = M2 0 6 ∧ ((M1 7 0).toInt = 0 ∨ rl_r (M1 7 0) 2 10) ∧ ∀ i, i < 80 → M1 8 i = M2 5 i ∧ M1 9 i = M2 6 i ∧ rl_r (M1 8 i) 0 9 ∧ rl_r (M1 9 i) 0 9
/-- where a question leads is a state -/
def rl_in (M1 : mm_M) : Prop := ((M1 4 0).toInt < (M1 7 0).toInt ∨ (M1 4 0).toInt = 0) ∧ ∀ q s : Nat, q < 8 → (s : Int) < (M1 7 0).toInt → (M1 9 (10 * q + s)).toInt < (M1 7 0).toInt
def rl_tape (M1 M2 : mm_M) : Prop := M1 1 1 = M2 0 8 ∧ rl_r (M1 1 1) 0 260 ∧ ∀ i : Nat, (i : Int) < (M1 1 1).toInt → M1 2 i = M2 7 i &&& 255 ∧ rl_r (M1 2 i) 0 255
def rl_core (M1 M2 : mm_M) : Prop := rl_now M1 M2 ∧ rl_kept M1 M2 ∧ rl_price M1 M2 ∧ rl_val M1 M2 ∧ rl_in M1 ∧ rl_tape M1 M2
theorem rl_has {M1 M2 : mm_M} (h : rl_val M1 M2) (x : Int32) : X8_has 7 x M1 = X12_isState x M2 := by
  obtain ⟨h1, h2, -⟩ := h
  unfold X8_has X12_isState X12_in
  rw [← h1]
  have k1 : (1 : Int32).toInt = 1 := rfl
  have hb : 0 ≤ (M1 7 0).toInt ∧ (M1 7 0).toInt ≤ 10 := by
    rcases h2 with h | h
    · omega
    · exact ⟨by have := h.1; omega, h.2⟩
  have e1 : (M1 7 0 - 1).toInt = (M1 7 0).toInt - 1 := by
    rw [e_sub (by rw [k1]; omega) (by rw [k1]; omega), k1]
  by_cases c1 : x < 0
  · rw [if_pos c1, if_pos c1]
  · rw [if_neg c1, if_neg c1]
    by_cases c2 : M1 7 0 ≤ x
    · rw [if_pos c2, if_pos]
      rw [e_le] at c2
      rw [e_lt, e1]
      omega
    · rw [if_neg c2, if_neg]
      rw [e_le] at c2
      rw [e_lt, e1]
      omega
theorem rl_hasI {M : mm_M} {x : Int32} : X8_has 7 x M = true ↔ 0 ≤ x.toInt ∧ x.toInt < (M 7 0).toInt := by
  unfold X8_has
  by_cases c1 : x < 0
  · rw [if_pos c1]
    rw [e_lt] at c1
    simp at c1 ⊢
    omega
  · rw [if_neg c1]
    by_cases c2 : M 7 0 ≤ x
    · rw [if_pos c2]
      rw [e_le] at c2
      simp
      omega
    · rw [if_neg c2]
      rw [e_le] at c2
      rw [e_lt] at c1
      simp at c1 ⊢
      omega
theorem rl_isq (x : Int32) : X11_isQuestion x = X12_isQuestion x := by
  unfold X11_isQuestion X12_isQuestion X12_in
  by_cases c1 : x < 0
  · rw [if_pos c1, if_pos c1]
  · rw [if_neg c1, if_neg c1]
    by_cases c2 : 8 ≤ x
    · rw [if_pos c2, if_pos]
      rw [e_le] at c2
      rw [e_lt]
      simp at c2 ⊢
      omega
    · rw [if_neg c2, if_neg]
      rw [e_le] at c2
      rw [e_lt]
      simp at c2 ⊢
      omega
theorem rl_isqI {x : Int32} : X11_isQuestion x = true ↔ 0 ≤ x.toInt ∧ x.toInt < 8 := by
  unfold X11_isQuestion
  by_cases c1 : x < 0
  · rw [if_pos c1]
    rw [e_lt] at c1
    simp at c1 ⊢
    omega
  · rw [if_neg c1]
    by_cases c2 : 8 ≤ x
    · rw [if_pos c2]
      rw [e_le] at c2
      simp at c2 ⊢
      omega
    · rw [if_neg c2]
      rw [e_le] at c2
      rw [e_lt] at c1
      simp at c1 c2 ⊢
      omega
theorem rl_inI {x lo hi : Int32} : X12_in x lo hi = true ↔ lo.toInt ≤ x.toInt ∧ x.toInt ≤ hi.toInt := by
  unfold X12_in
  by_cases c1 : x < lo
  · rw [if_pos c1]
    rw [e_lt] at c1
    simp
    omega
  · rw [if_neg c1]
    by_cases c2 : hi < x
    · rw [if_pos c2]
      rw [e_lt] at c2
      simp
      omega
    · rw [if_neg c2]
      rw [e_lt] at c1 c2
      simp
      omega
-- the law's part of the relation speaks of the law's own cells alone: of the class 13 (count, size), 14 to 18; of the reference its clauses and 14 to 18
/-- simple calls: a number that is stored in both -/
theorem rl_lt {lo hi x : Int32} : (¬ x < lo ∧ x ≤ hi) ↔ lo.toInt ≤ x.toInt ∧ x.toInt ≤ hi.toInt := by
  rw [e_lt, e_le]
  omega
/-- what a changed standing and nothing else means -/
theorem rl_core_now {M1 M2 M1' M2' : mm_M} (h : rl_core M1 M2) (hn : rl_now M1' M2') (hi : (M1' 4 0).toInt < (M1' 7 0).toInt ∨ (M1' 4 0).toInt = 0) (e1 : ∀ a, a ≠ 4 → M1' a = M1 a) (e2 : ∀ a, a ≠ 1 → M2' a = M2 a) : rl_core M1' M2' := by
  obtain ⟨-, hk, hp, hv, hin, ht⟩ := h
  have a0 := e1 0 (by decide); have a1 := e1 1 (by decide); have a2 := e1 2 (by decide); have a3 := e1 3 (by decide); have a5 := e1 5 (by decide); have a7 := e1 7 (by decide); have a8 := e1 8 (by decide); have a9 := e1 9 (by decide)
  have b0 := e2 0 (by decide); have b3 := e2 3 (by decide); have b4 := e2 4 (by decide); have b5 := e2 5 (by decide); have b6 := e2 6 (by decide); have b7 := e2 7 (by decide)
  refine ⟨hn, ?_, ?_, ?_, ⟨hi, ?_⟩, ?_⟩
  · unfold rl_kept rl_st at *
    rw [a0, a5, b0, b3]
    exact hk
  · unfold rl_price at *
    rw [a3, b4]
    exact hp
  · unfold rl_val at *
    rw [a7, a8, a9, b0, b5, b6]
    exact hv
  · have := hin.2
    rw [a7, a9]
    exact this
  · unfold rl_tape at *
    rw [a1, a2, b0, b7]
    exact ht
/-- a field of the standing set in both -/
theorem rl_now_set {M1 M2 : mm_M} (h : rl_now M1 M2) (k : Nat) (v : Int32) (hst : rl_st (mm_U M1 4 k v) 4) : rl_now (mm_U M1 4 k v) (mm_U M2 1 k v) := by
  refine ⟨fun j hj => ?_, hst⟩
  rw [e_U, e_U]
  by_cases c : j = k
  · simp [c]
  · simp [c, h.1 j hj]
