/-- the tape emptied in both -/
theorem rl_core_clear {M1 M2 : mm_M} (h : rl_core M1 M2) : rl_core (mm_U M1 1 1 0) (mm_U M2 0 8 0) := by
  obtain ⟨hn, hk, hp, hv, hin, ht⟩ := h
  refine ⟨hn, hk, hp, hv, hin, rfl, show rl_r 0 0 260 from ⟨by decide, by decide⟩, fun i hi => ?_⟩
  have hi : (i : Int) < (0 : Int32).toInt := hi
  have k0 : (0 : Int32).toInt = 0 := rfl
  omega
theorem rl_lf_clear {M1 M2 : mm_M} : rl_lf M1 (mm_U M1 1 1 0) M2 (mm_U M2 0 8 0) := ⟨⟨rfl, rfl, rfl, rfl, rfl, rfl, rfl⟩, ⟨rfl, rfl, rfl, rfl, rfl, rfl⟩⟩
def tN (M : mm_M) : Nat := Int32.toNatClampNeg (M 1 1)
def tB (M : mm_M) (i : Nat) : Nat := Int32.toNatClampNeg (M 2 i)
theorem t_n {M1 M2 : mm_M} (h : rl_tape M1 M2) : M1 1 1 = nI (tN M1) ∧ tN M1 ≤ 260 ∧ (M1 1 1).toInt = (tN M1 : Int) ∧ M2 0 8 = nI (tN M1) := by
  have e := e_cl h.2.1.1
  have := h.2.1.2
  exact ⟨e_nI h.2.1.1, by unfold tN; omega, by unfold tN; omega, by rw [← h.1]; exact e_nI h.2.1.1⟩
theorem t_b {M1 M2 : mm_M} (h : rl_tape M1 M2) {i : Nat} (hi : i < tN M1) : M1 2 i = nI (tB M1 i) ∧ tB M1 i < 256 := by
  have hn := t_n h
  obtain ⟨-, h2⟩ := h.2.2 i (by omega)
  have e := e_cl h2.1
  have := h2.2
  exact ⟨e_nI h2.1, by unfold tB; omega⟩
theorem t_byte {M1 M2 : mm_M} (h : rl_tape M1 M2) {i : Nat} (hi : i < tN M1) : X7_byteAt (nI i) M1 = some (nI (tB M1 i)) := by
  have hn := t_n h
  unfold X7_byteAt
  have c1 : ¬ nI i < 0 := nI_pos (by omega)
  have c2 : ¬ M1 1 1 ≤ nI i := by
    rw [e_le, hn.2.2.1, e_nIt (by omega)]
    omega
  rw [if_neg c1, if_neg c2, if_pos (e_inb (by rw [e_nIt (by omega)]; omega) (by rw [e_nIt (by omega)]; omega)), e_nIc (by omega), (t_b h hi).1]
theorem t_octet {M1 M2 N : mm_M} (h : rl_tape M1 M2) (hN : N 7 = M2 7) {i : Nat} (hi : i < tN M1) : X12_octet (nI i) N = some (nI (tB M1 i)) := by
  have hn := t_n h
  unfold X12_octet
  rw [if_pos (e_inb (by rw [e_nIt (by omega)]; omega) (by rw [e_nIt (by omega)]; omega)), e_nIc (by omega), hN, ← (h.2.2 i (by omega)).1, (t_b h hi).1]
/-- the first place at which P does not hold, -1: there is none -/
def e_first (P : Nat → Prop) (n : Nat) (a : Int32) : Prop := (a = -1 ∧ ∀ j, j < n → P j) ∨ ∃ j, j < n ∧ a = nI j ∧ ¬ P j ∧ ∀ k, k < j → P k
theorem e_first_eq {P : Nat → Prop} {n : Nat} {a b : Int32} (ha : e_first P n a) (hb : e_first P n b) : a = b := by
  rcases ha with ⟨rfl, h1⟩ | ⟨i, hi, rfl, h1, h2⟩ <;> rcases hb with ⟨rfl, h3⟩ | ⟨j, hj, rfl, h3, h4⟩
  · rfl
  · exact absurd (h1 j hj) h3
  · exact absurd (h3 i hi) h1
  · rcases Nat.lt_trichotomy i j with h | h | h
    · exact absurd (h4 i h) h1
    · rw [h]
    · exact absurd (h2 j h) h3
/-- what a byte of a check is due to be -/
def vDue (M : mm_M) (q i : Nat) : Int32 := if i < vN M then vA M q i else 255
theorem v_has {M1 M2 : mm_M} (hv : rl_val M1 M2) {i : Nat} (hi : i < 1000) : X8_has 7 (nI i) M1 = decide (i < vN M1) := by
  have hn := v_n hv
  rw [Bool.eq_iff_iff, rl_hasI, decide_eq_true_eq, e_nIt (by omega), hn.2.2]
  omega
theorem op_29_c {M1 M2 : mm_M} (hv : rl_val M1 M2) (ht : rl_tape M1 M2) {q n : Nat} (hq : q < 8) (hn : n ≤ 10) (hnt : n ≤ tN M1) : ∃ a, mm_loop (X11_check_l36 (nI q) (nI n)) mm_fuel (-1, 0, M1) = some (a, mm_U M1 1 1 0) ∧ e_first (fun j => nI (tB M1 j) = vDue M1 q j) n a := by
  have := e_loopF (step := X11_check_l36 (nI q) (nI n)) (I := fun (s : Int32 × Int32 × mm_M) => ∃ i : Nat, i ≤ n ∧ s.2.1 = nI i ∧ s.2.2 = M1 ∧ ((s.1 = -1 ∧ ∀ j, j < i → nI (tB M1 j) = vDue M1 q j) ∨ (∃ j, j < n ∧ s.1 = nI j ∧ ¬ nI (tB M1 j) = vDue M1 q j ∧ ∀ k, k < j → nI (tB M1 k) = vDue M1 q k))) (Q := fun (r : Int32 × mm_M) => r.2 = mm_U M1 1 1 0 ∧ e_first (fun j => nI (tB M1 j) = vDue M1 q j) n r.1) (fun s => 20 - Int32.toNatClampNeg s.2.1) ?_ (-1, 0, M1) ⟨0, by omega, rfl, rfl, Or.inl ⟨rfl, fun j h => by omega⟩⟩ (by omega)
  · obtain ⟨⟨a, N⟩, h1, h2, h3⟩ := this
    dsimp only at h2 h3
    subst h2
    exact ⟨a, h1, h3⟩
  · rintro ⟨w, x, N⟩ ⟨i, hi, hx, hN, hcase⟩
    dsimp only at hx hN hcase
    subst hx hN
    unfold X11_check_l36
    by_cases c1 : n ≤ i
    · have : i = n := by omega
      subst this
      rw [if_pos (Int32.le_refl _)]
      refine Or.inr ⟨_, rfl, rfl, ?_⟩
      rcases hcase with ⟨rfl, h⟩ | h
      · exact Or.inl ⟨rfl, h⟩
      · exact Or.inr h
    · have c1' : ¬ nI n ≤ nI i := by
        rw [e_le, e_nIt (by omega), e_nIt (by omega)]
        omega
      rw [if_neg c1']
      rcases hcase with ⟨rfl, h⟩ | ⟨j, hj, rfl, h1, h2⟩
      · rw [if_pos rfl]
        left
        have hby := t_byte ht (show i < tN N by omega)
        have key : ∀ z : Int32, z = vDue N q i → ∃ s', X11_check_j75l36 (nI q) (nI n) (-1) (nI i) z N = some (.inl s') ∧ (∃ i' : Nat, i' ≤ n ∧ s'.2.1 = nI i' ∧ s'.2.2 = N ∧ ((s'.1 = -1 ∧ ∀ j, j < i' → nI (tB N j) = vDue N q j) ∨ (∃ j, j < n ∧ s'.1 = nI j ∧ ¬ nI (tB N j) = vDue N q j ∧ ∀ k, k < j → nI (tB N k) = vDue N q k))) ∧ 20 - Int32.toNatClampNeg s'.2.1 < 20 - Int32.toNatClampNeg (nI i) := by
          intro z hz
          unfold X11_check_j75l36
          rw [hby, Option.bind_some]
          have hlt : 20 - Int32.toNatClampNeg (nI i + 1) < 20 - Int32.toNatClampNeg (nI i) := by
            rw [nI_1, e_nIc (by omega), e_nIc (by omega)]
            omega
          by_cases d : nI (tB N i) = z
          · rw [if_pos d]
            refine ⟨_, rfl, ⟨i + 1, by omega, nI_1 i, rfl, Or.inl ⟨rfl, fun j hj => ?_⟩⟩, hlt⟩
            by_cases cj : j = i
            · subst cj
              rw [d, hz]
            · exact h j (by omega)
          · rw [if_neg d]
            refine ⟨_, rfl, ⟨i + 1, by omega, nI_1 i, rfl, Or.inr ⟨i, by omega, rfl, ?_, h⟩⟩, hlt⟩
            rw [← hz]
            exact d
        rw [v_has hv (by omega)]
        by_cases d : i < vN N
        · rw [if_pos (by simpa using d)]
          exact key _ (by rw [v_ans hq (by omega), vDue, if_pos d])
        · rw [if_neg (by simpa using d)]
          exact key _ (by rw [vDue, if_neg d])
      · have hne : ¬ nI j = -1 := by
          rw [e_eq, e_nIt (by omega)]
          show ¬ (j : Int) = -1
          omega
        rw [if_neg hne]
        exact Or.inr ⟨_, rfl, rfl, Or.inr ⟨j, hj, rfl, h1, h2⟩⟩
theorem op_29_m {M1 M2 : mm_M} (hv : rl_val M1 M2) (ht : rl_tape M1 M2) {q n : Nat} (hq : q < 8) (hn : n ≤ 10) (hnt : n ≤ tN M1) : ∃ a, mm_loop (X12_check_l35 (nI q) (nI n) (mm_U M2 0 8 0)) mm_fuel 0 = some (a, mm_U M2 0 8 0) ∧ e_first (fun j => nI (tB M1 j) = vDue M1 q j) n a := by
  have hv' : rl_val M1 (mm_U M2 0 8 0) := hv
  have := e_loopF (step := X12_check_l35 (nI q) (nI n) (mm_U M2 0 8 0)) (I := fun (s : Int32) => ∃ i : Nat, i ≤ n ∧ s = nI i ∧ ∀ j, j < i → nI (tB M1 j) = vDue M1 q j) (Q := fun (r : Int32 × mm_M) => r.2 = mm_U M2 0 8 0 ∧ e_first (fun j => nI (tB M1 j) = vDue M1 q j) n r.1) (fun s => 20 - Int32.toNatClampNeg s) ?_ 0 ⟨0, by omega, rfl, fun j h => by omega⟩ (by omega)
  · obtain ⟨⟨a, N⟩, h1, h2, h3⟩ := this
    dsimp only at h2 h3
    subst h2
    exact ⟨a, h1, h3⟩
  · rintro x ⟨i, hi, rfl, h⟩
    unfold X12_check_l35
    by_cases c1 : n ≤ i
    · have : i = n := by omega
      subst this
      rw [if_pos (Int32.le_refl _)]
      exact Or.inr ⟨_, rfl, rfl, Or.inl ⟨rfl, h⟩⟩
    · have c1' : ¬ nI n ≤ nI i := by
        rw [e_le, e_nIt (by omega), e_nIt (by omega)]
        omega
      rw [if_neg c1', t_octet (N := mm_U M2 0 8 0) ht rfl (show i < tN M1 by omega), Option.bind_some, ← rl_has hv', v_has hv' (by omega)]
      have key : ∀ z : Int32, z = vDue M1 q i → ((∃ s', X12_check_j65l35 (nI q) (nI n) (nI i) (nI (tB M1 i)) z (mm_U M2 0 8 0) = some (.inl s') ∧ (∃ i' : Nat, i' ≤ n ∧ s' = nI i' ∧ ∀ j, j < i' → nI (tB M1 j) = vDue M1 q j) ∧ 20 - Int32.toNatClampNeg s' < 20 - Int32.toNatClampNeg (nI i)) ∨ (∃ r, X12_check_j65l35 (nI q) (nI n) (nI i) (nI (tB M1 i)) z (mm_U M2 0 8 0) = some (.inr r) ∧ (r.2 = mm_U M2 0 8 0 ∧ e_first (fun j => nI (tB M1 j) = vDue M1 q j) n r.1))) := by
        intro z hz
        unfold X12_check_j65l35
        by_cases d : nI (tB M1 i) = z
        · rw [if_pos d]
          refine Or.inl ⟨_, rfl, ⟨i + 1, by omega, nI_1 i, fun j hj => ?_⟩, ?_⟩
          · by_cases cj : j = i
            · subst cj
              rw [d, hz]
            · exact h j (by omega)
          · rw [nI_1, e_nIc (by omega), e_nIc (by omega)]
            omega
        · rw [if_neg d]
          exact Or.inr ⟨_, rfl, rfl, Or.inr ⟨i, by omega, rfl, by show ¬ nI (tB M1 i) = vDue M1 q i; rw [← hz]; exact d, h⟩⟩
      by_cases d : i < vN M1
      · rw [if_pos (by simpa using d), v_ans2 hv' hq (by omega), Option.bind_some]
        exact key _ (by rw [vDue, if_pos d])
      · rw [if_neg (by simpa using d)]
        exact key _ (by rw [vDue, if_neg d])
theorem op_29 (x y : Int32) : rl_ok (cl_29 x y) (md_29 x y) := by
  intro M1 M2 h
  have hv := h.2.2.2.1
  have ht := h.2.2.2.2.2
  have hn := t_n ht
  unfold cl_29 md_29 X11_check X12_check
  rw [← rl_isq x]
  by_cases c1 : X11_isQuestion x = true
  · by_cases c2 : X12_in y 0 10 = true
    · have hy := rl_inI.mp c2
      have k0 : (0 : Int32).toInt = 0 := rfl
      have k10 : (10 : Int32).toInt = 10 := rfl
      rw [k0, k10] at hy
      have c3 : ¬ y < 0 := by rw [e_lt, k0]; omega
      have c4 : ¬ (10 : Int32) < y := by rw [e_lt, k10]; omega
      by_cases c5 : y ≤ M1 1 1
      · have c6 : y ≤ M2 0 8 := by rw [← ht.1]; exact c5
        obtain ⟨q, hq, rfl⟩ := v_q c1
        have hyn := e_nI hy.1
        have hyc := e_cl hy.1
        generalize Int32.toNatClampNeg y = n at hyn hyc
        subst hyn
        rw [e_le, hn.2.2.1] at c5
        have hnt : n ≤ tN M1 := by omega
        obtain ⟨a, e1, f1⟩ := op_29_c hv ht hq (by omega) hnt
        obtain ⟨b, e2, f2⟩ := op_29_m hv ht hq (by omega) hnt
        have := e_first_eq f1 f2
        subst this
        have c5' : nI n ≤ M1 1 1 := by rw [e_le, hn.2.2.1]; exact c5
        refine ⟨a, _, _, ?_, ?_, rl_core_clear h, rl_lf_clear⟩
        · simp only [if_pos c1, if_neg c3, if_neg c4, if_pos c5', e1]
          rfl
        · simp only [if_pos c1, if_pos c2, if_pos c6, e2]
          rfl
      · have c6 : ¬ y ≤ M2 0 8 := by rw [← ht.1]; exact c5
        refine ⟨-2, M1, M2, ?_, ?_, h, rl_lf_rfl⟩
        · simp only [if_pos c1, if_neg c3, if_neg c4, if_neg c5]
          rfl
        · simp only [if_pos c1, if_pos c2, if_neg c6]
          rfl
    · refine ⟨-2, M1, M2, ?_, by simp only [if_pos c1, if_neg c2]; rfl, h, rl_lf_rfl⟩
      by_cases c3 : y < 0
      · simp only [if_pos c1, if_pos c3]; rfl
      · by_cases c4 : (10 : Int32) < y
        · simp only [if_pos c1, if_neg c3, if_pos c4]; rfl
        · exact absurd (rl_inI.mpr (by rw [e_lt] at c3 c4; omega)) c2
  · exact ⟨-2, M1, M2, by simp only [if_neg c1]; rfl, by simp only [if_neg c1]; rfl, h, rl_lf_rfl⟩
