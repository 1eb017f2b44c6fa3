/-! THE REFERENCE READS A TEXT -/
def tI (M : mm_M) (n p : Nat) : Prop := M 0 9 = nI p ∧ M 0 10 = nI n ∧ p ≤ n ∧ n ≤ 240
/-- the sign that stands there -/
noncomputable def hv (M : mm_M) : Int32 := (X12_here M).getD 0
theorem he_m {M : mm_M} {n p : Nat} (h : tI M n p) : X12_here M = some (hv M) ∧ ((p < n ∧ 0 ≤ (hv M).toInt ∧ (hv M).toInt ≤ 255) ∨ (p = n ∧ hv M = -1)) := by
  obtain ⟨h9, h10, hp, hn⟩ := h
  have k : ok (X12_here M) (fun r => (p < n ∧ 0 ≤ r.toInt ∧ r.toInt ≤ 255) ∨ (p = n ∧ r = -1)) := by
    unfold X12_here
    rw [h9, h10]
    refine ok_i (fun c => ok_s (Or.inr ⟨?_, rfl⟩)) (fun c => ok_i (fun _ => ok_s (Or.inl ⟨?_, ?_⟩)) (fun z => ?_))
    · rw [e_le, e_nIt (by omega), e_nIt (by omega)] at c
      omega
    · rw [e_le, e_nIt (by omega), e_nIt (by omega)] at c
      omega
    · obtain ⟨j, hj, e⟩ := pk_andE (M 7 (Int32.toNatClampNeg (nI p))) (m := 255) 8 (by decide)
      rw [e, nI_toInt (by omega)]
      omega
    · exfalso
      rw [e_le, e_nIt (by omega), e_nIt (by omega)] at c
      exact z (e_inb (by rw [e_nIt (by omega)]; omega) (by rw [e_nIt (by omega)]; omega))
  obtain ⟨r, e, hr⟩ := k
  have ev : hv M = r := by
    unfold hv
    rw [e]
    rfl
  rw [ev]
  exact ⟨e, hr⟩
theorem he_lt {M : mm_M} {n p : Nat} (h : tI M n p) (c : ¬ hv M = -1) : p < n := by
  rcases (he_m h).2 with z | z
  · exact z.1
  · exact absurd z.2 c
theorem dg_m {M : mm_M} {n p : Nat} (h : tI M n p) : ∃ b, X12_isDigit M = some b ∧ (b = true → p < n ∧ 48 ≤ (hv M).toInt ∧ (hv M).toInt ≤ 57) := by
  obtain ⟨e, f⟩ := he_m h
  have k48 : (48 : Int32).toInt = 48 := rfl
  have k57 : (57 : Int32).toInt = 57 := rfl
  have km : (-1 : Int32).toInt = -1 := rfl
  unfold X12_isDigit
  simp only [e, Option.bind_some]
  by_cases c1 : hv M < 48
  · rw [if_pos c1]
    exact ⟨false, rfl, fun z => by cases z⟩
  · rw [if_neg c1]
    by_cases c2 : 57 < hv M
    · rw [if_pos c2]
      exact ⟨false, rfl, fun z => by cases z⟩
    · rw [if_neg c2]
      refine ⟨true, rfl, fun _ => ?_⟩
      rw [e_lt] at c1 c2
      rcases f with f | f
      · omega
      · rw [f.2] at c1; omega
theorem tI_n {M : mm_M} {n p : Nat} (h : tI M n p) (c : p < n) : tI (mm_U M 0 9 (M 0 9 + 1)) n (p + 1) := by
  obtain ⟨h9, h10, hp, hn⟩ := h
  refine ⟨?_, ?_, by omega, hn⟩
  · rw [mm_U_same, h9]
    exact nI_1 p
  · rw [e_U, if_neg (fun z => by have := z.2; omega)]
    exact h10
theorem tI_u {M : mm_M} {n p a k : Nat} {v : Int32} (h : tI M n p) (c : a ≠ 0 ∨ (k ≠ 9 ∧ k ≠ 10)) : tI (mm_U M a k v) n p := by
  obtain ⟨h9, h10, hp, hn⟩ := h
  refine ⟨?_, ?_, hp, hn⟩
  · rw [e_U, if_neg (fun z => by omega)]
    exact h9
  · rw [e_U, if_neg (fun z => by omega)]
    exact h10
/-- a sign taken: what holds of M behind any fault, and behind the sign -/
theorem ta_m {M : mm_M} {n p : Nat} {c : Int32} (h : tI M n p) (hc : ¬ c = -1) {Q : Bool × mm_M → Prop} (h1 : p < n → Q (true, mm_U M 0 9 (M 0 9 + 1))) (h2 : ∀ v, Q (false, mm_U M 0 11 v)) : ok (X12_takes c M) Q := by
  obtain ⟨e, f⟩ := he_m h
  unfold X12_takes
  simp only [e, Option.bind_some]
  refine ok_i (fun z => ok_s (h1 (he_lt h (by rw [z]; exact hc)))) (fun _ => ok_l (ok_s (h2 _)))
theorem bt_m {M : mm_M} {x : Int32} {n : Nat} (hx : x = nI n) (hn : n ≤ 240) : tI (X12_beginsText x M) n 0 := by
  subst hx
  refine ⟨?_, ?_, by omega, hn⟩
  · show (0 : Int32) = nI 0
    exact nI_0.symm
  · rfl
theorem xin {x : Int32} {lo hi : Nat} (h : X12_in x (nI lo) (nI hi) = true) (h1 : lo < 2147483648) (h2 : hi < 2147483648) : ∃ n : Nat, x = nI n ∧ lo ≤ n ∧ n ≤ hi := by
  have h3 := rl_inI.mp h
  rw [e_nIt h1, e_nIt h2] at h3
  have h4 : 0 ≤ x.toInt := by omega
  refine ⟨Int32.toNatClampNeg x, e_nI h4, ?_, ?_⟩
  · have := e_cl h4; omega
  · have := e_cl h4; omega
