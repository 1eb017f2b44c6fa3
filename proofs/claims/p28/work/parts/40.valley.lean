-- the valley by Nats: n states, answers, the states behind
def vN (M : mm_M) : Nat := Int32.toNatClampNeg (M 7 0)
def vA (M : mm_M) (q s : Nat) : Int32 := M 8 (10 * q + s)
def vB (M : mm_M) (q s : Nat) : Nat := Int32.toNatClampNeg (M 9 (10 * q + s))
theorem v_n {M1 M2 : mm_M} (h : rl_val M1 M2) : M1 7 0 = nI (vN M1) ∧ vN M1 ≤ 10 ∧ (M1 7 0).toInt = (vN M1 : Int) := by
  have hb : 0 ≤ (M1 7 0).toInt ∧ (M1 7 0).toInt ≤ 10 := by
    rcases h.2.1 with h | h
    · omega
    · exact ⟨by have := h.1; omega, h.2⟩
  have e := e_cl hb.1
  exact ⟨e_nI hb.1, by unfold vN; omega, by unfold vN; omega⟩
theorem v_cell {q s : Nat} (hq : q < 8) (hs : s < 10) : nI q * 10 + nI s = nI (10 * q + s) ∧ (10 : Int32) * nI q + nI s = nI (10 * q + s) := by
  have e1 : nI q * nI 10 = nI (q * 10) := pk_mul q 10
  have e2 : nI 10 * nI q = nI (10 * q) := pk_mul 10 q
  have k : (10 : Int32) = nI 10 := rfl
  rw [k, e1, e2, nI_add, nI_add, Nat.mul_comm q 10]
  exact ⟨rfl, rfl⟩
theorem v_ans {M : mm_M} {q s : Nat} (hq : q < 8) (hs : s < 10) : X8_answer (nI q) (nI s) M = vA M q s := by
  unfold X8_answer vA
  rw [(v_cell hq hs).1]
  have c1 : ¬ nI (10 * q + s) < 0 := nI_pos (by omega)
  have c2 : ¬ (80 : Int32) ≤ nI (10 * q + s) := by
    rw [e_le, e_nIt (by omega)]
    show ¬ (80 : Int) ≤ _
    omega
  rw [if_neg c1, if_neg c2, e_nIc (by omega)]
theorem v_behI {M : mm_M} {q s : Nat} (hq : q < 8) (hs : s < 10) : X8_behind (nI q) (nI s) M = M 9 (10 * q + s) := by
  unfold X8_behind
  rw [(v_cell hq hs).1]
  have c1 : ¬ nI (10 * q + s) < 0 := nI_pos (by omega)
  have c2 : ¬ (80 : Int32) ≤ nI (10 * q + s) := by
    rw [e_le, e_nIt (by omega)]
    show ¬ (80 : Int) ≤ _
    omega
  rw [if_neg c1, if_neg c2, e_nIc (by omega)]
theorem v_B {M1 M2 : mm_M} (h : rl_val M1 M2) {q s : Nat} (hq : q < 8) (hs : s < 10) : M1 9 (10 * q + s) = nI (vB M1 q s) ∧ vB M1 q s < 10 := by
  obtain ⟨-, -, -, hr⟩ := h.2.2 (10 * q + s) (by omega)
  have e := e_cl hr.1
  have := hr.2
  exact ⟨e_nI hr.1, by unfold vB; omega⟩
theorem v_beh {M1 M2 : mm_M} (h : rl_val M1 M2) {q s : Nat} (hq : q < 8) (hs : s < 10) : X8_behind (nI q) (nI s) M1 = nI (vB M1 q s) := by
  rw [v_behI hq hs]
  exact (v_B h hq hs).1
theorem v_Bn {M1 M2 : mm_M} (h : rl_val M1 M2) (hi : rl_in M1) {q s : Nat} (hq : q < 8) (hs : s < vN M1) : vB M1 q s < vN M1 := by
  have hn := v_n h
  have h2 := hi.2 q s hq (by omega)
  have h3 := (v_B h hq (by omega : s < 10))
  rw [h3.1, e_nIt (by omega)] at h2
  omega
theorem v_in {q s : Nat} (hq : q < 8) (hs : s < 10) : mm_in ((10 : Int32) * nI q + nI s) 80 = true := by
  rw [(v_cell hq hs).2]
  exact e_inb (by rw [e_nIt (by omega)]; omega) (by rw [e_nIt (by omega)]; omega)
theorem v_ans2 {M1 M2 : mm_M} (h : rl_val M1 M2) {q s : Nat} (hq : q < 8) (hs : s < 10) : X12_answer (nI q) (nI s) M2 = some (vA M1 q s) := by
  unfold X12_answer vA
  rw [if_pos (v_in hq hs), (v_cell hq hs).2, e_nIc (by omega), (h.2.2 (10 * q + s) (by omega)).1]
theorem v_beh2 {M1 M2 : mm_M} (h : rl_val M1 M2) {q s : Nat} (hq : q < 8) (hs : s < 10) : X12_behind (nI q) (nI s) M2 = some (nI (vB M1 q s)) := by
  unfold X12_behind
  rw [if_pos (v_in hq hs), (v_cell hq hs).2, e_nIc (by omega), ← (h.2.2 (10 * q + s) (by omega)).2.1, (v_B h hq hs).1]
/-- a question, a state: as Nats -/
theorem v_q {x : Int32} (h : X11_isQuestion x = true) : ∃ q : Nat, q < 8 ∧ x = nI q := by
  have := rl_isqI.mp h
  exact ⟨_, by have := e_cl this.1; omega, e_nI this.1⟩
theorem v_s {M1 M2 : mm_M} (hv : rl_val M1 M2) {x : Int32} (h : X8_has 7 x M1 = true) : ∃ s : Nat, s < vN M1 ∧ s < 10 ∧ x = nI s := by
  have h1 := rl_hasI.mp h
  have h2 := v_n hv
  have h3 := e_cl h1.1
  exact ⟨_, by omega, by omega, e_nI h1.1⟩
theorem rl_01 (x : Int32) : X11_isZeroOrOne x = X12_in x 0 1 := by
  rw [Bool.eq_iff_iff, rl_inI]
  unfold X11_isZeroOrOne
  have k0 : (0 : Int32).toInt = 0 := rfl
  have k1 : (1 : Int32).toInt = 1 := rfl
  by_cases c : x = 0
  · rw [if_pos c, c]
    simp
  · rw [if_neg c]
    by_cases d : x = 1
    · rw [if_pos d, d]
      simp
    · rw [if_neg d]
      rw [e_eq, k0] at c
      rw [e_eq, k1] at d
      rw [k0, k1]
      simp
      omega
theorem rl_told {M1 M2 : mm_M} (h : rl_val M1 M2) : X8_isTold M1 = true ↔ ¬ M2 0 6 = 0 := by
  unfold X8_isTold
  rw [← h.1]
  have k0 : (0 : Int32).toInt = 0 := rfl
  have hn := v_n h
  by_cases c : M1 7 0 ≤ 0
  · rw [if_pos c]
    rw [e_le, k0] at c
    simp
    rw [e_eq, k0]
    omega
  · rw [if_neg c]
    rw [e_le, k0] at c
    simp
    rw [e_eq, k0]
    omega
theorem op_10 (x y z : Int32) : rl_ok (cl_10 x y z) (md_10 x y z) := by
  intro M1 M2 h
  have hv := h.2.2.2.1
  refine ⟨_, M1, M2, rfl, ?_, h, rl_lf_rfl⟩
  unfold md_10 X12_askedAt X11_askedAt
  rw [← rl_isq x, ← rl_has hv y, ← rl_01 z]
  by_cases c1 : X11_isQuestion x = true
  · by_cases c2 : X8_has 7 y M1 = true
    · by_cases c3 : X11_isZeroOrOne z = true
      · obtain ⟨q, hq, rfl⟩ := v_q c1
        obtain ⟨s, hs, hs10, rfl⟩ := v_s hv c2
        by_cases c4 : z = 0
        · simp only [if_pos c1, if_pos c2, if_pos c3, if_pos c4, v_ans2 hv hq hs10, v_ans hq hs10]
          rfl
        · simp only [if_pos c1, if_pos c2, if_pos c3, if_neg c4, v_beh2 hv hq hs10, v_beh hv hq hs10]
          rfl
      · simp only [if_pos c1, if_pos c2, if_neg c3]
        rfl
    · simp only [if_pos c1, if_neg c2]
      rfl
  · simp only [if_neg c1]
    rfl
theorem v_keeps {M1 M2 : mm_M} (hv : rl_val M1 M2) {q r s : Nat} (hq : q < 8) (hr : r < 8) (hs : s < 10) : X8_keepsAnswer (nI q) (nI r) (nI s) M1 = decide (vA M1 r (vB M1 q s) = vA M1 r s) := by
  unfold X8_keepsAnswer
  rw [v_beh hv hq hs, v_ans hr (v_B hv hq hs).2, v_ans hr hs]
  by_cases c : vA M1 r (vB M1 q s) = vA M1 r s
  · rw [if_pos c]; simp [c]
  · rw [if_neg c]; simp [c]
theorem op_24 (x y z : Int32) : rl_ok (cl_24 x y z) (md_24 x y z) := by
  intro M1 M2 h
  have hv := h.2.2.2.1
  refine ⟨_, M1, M2, rfl, ?_, h, rl_lf_rfl⟩
  unfold md_24 X12_together X11_together
  rw [← rl_isq x, ← rl_isq y, ← rl_has hv z]
  by_cases c1 : X11_isQuestion x = true
  · by_cases c2 : X11_isQuestion y = true
    · by_cases c3 : X8_has 7 z M1 = true
      · obtain ⟨q, hq, rfl⟩ := v_q c1
        obtain ⟨r, hr, rfl⟩ := v_q c2
        obtain ⟨s, hs, hs10, rfl⟩ := v_s hv c3
        have b1 := (v_B hv hq hs10).2
        have b2 := (v_B hv hr hs10).2
        simp only [if_pos c1, if_pos c2, if_pos c3, v_beh2 hv hq hs10, Option.bind_some, v_ans2 hv hr b1, v_ans2 hv hr hs10, v_keeps hv hq hr hs10, X11_together_j45, v_keeps hv hr hq hs10, X12_together_j49, v_beh2 hv hr hs10, v_ans2 hv hq b2, v_ans2 hv hq hs10, X12_together_j76, X12_together_j88, decide_eq_true_eq]
        by_cases d1 : vA M1 r (vB M1 q s) = vA M1 r s <;> by_cases d2 : vA M1 q (vB M1 r s) = vA M1 q s <;> simp [d1, d2]
      · simp only [if_pos c1, if_pos c2, if_neg c3]
        rfl
    · simp only [if_pos c1, if_neg c2]
      rfl
  · simp only [if_neg c1]
    rfl
/-- two questions may change places -/
def vSwap (M : mm_M) (q r : Nat) : Prop := q = r ∨ ∀ s, s < vN M → vB M r (vB M q s) = vB M q (vB M r s) ∧ vA M r (vB M q s) = vA M r s ∧ vA M q (vB M r s) = vA M q s
theorem v_nIe {a b : Nat} (ha : a < 1000) (hb : b < 1000) : nI a = nI b ↔ a = b := nI_eq (by omega) (by omega)
theorem v_head {M1 M2 : mm_M} (hv : rl_val M1 M2) {s : Nat} (hs : s ≤ 10) : (M1 7 0 ≤ nI s ↔ vN M1 ≤ s) ∧ (M2 0 6 ≤ nI s ↔ vN M1 ≤ s) := by
  have hn := v_n hv
  rw [← hv.1, e_le, e_nIt (by omega), hn.2.2]
  omega
theorem v_swap1 {M1 M2 : mm_M} (hv : rl_val M1 M2) (hi : rl_in M1) {q r : Nat} (hq : q < 8) (hr : r < 8) : ∃ b, X8_maySwap (nI q) (nI r) M1 = some b ∧ (b = true ↔ vSwap M1 q r) := by
  unfold X8_maySwap
  by_cases c : q = r
  · rw [if_pos (by rw [c])]
    exact ⟨true, rfl, by simp [vSwap, c]⟩
  · rw [if_neg (by rw [v_nIe (by omega) (by omega)]; exact c)]
    have hn := v_n hv
    refine e_loopF (I := fun (x : Int32) => ∃ s : Nat, s ≤ vN M1 ∧ x = nI s ∧ ∀ t, t < s → vB M1 r (vB M1 q t) = vB M1 q (vB M1 r t) ∧ vA M1 r (vB M1 q t) = vA M1 r t ∧ vA M1 q (vB M1 r t) = vA M1 q t) (Q := fun (b : Bool) => (b = true ↔ vSwap M1 q r)) (fun x => 20 - Int32.toNatClampNeg x) ?_ 0 ⟨0, by omega, rfl, fun t h => by omega⟩ (by omega)
    rintro x ⟨s, hs, rfl, hall⟩
    unfold X8_maySwap_l9
    by_cases cs : vN M1 ≤ s
    · have : s = vN M1 := by omega
      subst this
      rw [if_pos ((v_head hv (by omega)).1.mpr cs)]
      exact Or.inr ⟨true, rfl, by simp only [vSwap, true_iff]; exact Or.inr hall⟩
    · rw [if_neg (fun h => cs ((v_head hv (by omega)).1.mp h))]
      have hs10 : s < 10 := by omega
      have b1 := (v_B hv hq hs10).2
      have b2 := (v_B hv hr hs10).2
      have b3 := (v_B hv hr b1).2
      have b4 := (v_B hv hq b2).2
      rw [v_beh hv hq hs10, v_beh hv hr hs10, v_beh hv hr b1, v_beh hv hq b2]
      have no : ∀ P : Prop, ¬ (vB M1 r (vB M1 q s) = vB M1 q (vB M1 r s) ∧ vA M1 r (vB M1 q s) = vA M1 r s ∧ vA M1 q (vB M1 r s) = vA M1 q s) → (false = true ↔ vSwap M1 q r) := by
        intro _ hno
        simp only [vSwap, Bool.false_eq_true, false_iff]
        rintro (h | h)
        · exact c h
        · exact hno (h s (by omega))
      by_cases d1 : vB M1 r (vB M1 q s) = vB M1 q (vB M1 r s)
      · rw [if_pos (by rw [d1])]
        simp only [X8_maySwap_j47l9, if_true, v_keeps hv hq hr hs10, v_keeps hv hr hq hs10, decide_eq_true_eq]
        by_cases d2 : vA M1 r (vB M1 q s) = vA M1 r s
        · rw [if_pos d2]
          by_cases d3 : vA M1 q (vB M1 r s) = vA M1 q s
          · rw [if_pos d3]
            refine Or.inl ⟨nI s + 1, rfl, ⟨s + 1, by omega, nI_1 s, fun t ht => ?_⟩, ?_⟩
            · by_cases ct : t = s
              · subst ct
                exact ⟨d1, d2, d3⟩
              · exact hall t (by omega)
            · rw [nI_1, e_nIc (by omega), e_nIc (by omega)]
              omega
          · rw [if_neg d3]
            exact Or.inr ⟨false, rfl, no True (fun h => d3 h.2.2)⟩
        · rw [if_neg d2]
          exact Or.inr ⟨false, rfl, no True (fun h => d2 h.2.1)⟩
      · rw [if_neg (fun h => d1 ((v_nIe (by omega) (by omega)).mp h))]
        simp only [X8_maySwap_j47l9, Bool.false_eq_true, if_false]
        exact Or.inr ⟨false, rfl, no True (fun h => d1 h.1)⟩
