/-- the greatest group of one answer, by the class: its row 40 is used, nothing else changes -/
theorem nx_great1 {M1 M2 N : mm_M} (hv : rl_val M1 M2) (hN : ∀ c, c ≠ 40 → N c = M1 c) (x : Int32) {q : Nat} (hq : q < 8) : ∃ N', X5_greatestGroup x (nI q) N = some (nI (mxA (fun a => nxC M1 x q a (vN M1)) 10), N') ∧ ∀ c, c ≠ 40 → N' c = M1 c := by
  have hVN := v_n hv
  unfold X5_greatestGroup
  obtain ⟨F, e, f1, f2, f3⟩ := e_fill 40 10 rfl (by decide) 0 N
  rw [e, Option.bind_some]
  have := e_loopF (step := X5_greatestGroup_l14 x (nI q)) (I := fun (s : Int32 × Int32 × mm_M) => ∃ k : Nat, k ≤ vN M1 ∧ s.1 = nI (mxA (fun a => nxC M1 x q a k) 10) ∧ s.2.1 = nI k ∧ (∀ a, a < 10 → s.2.2 40 a = nI (nxC M1 x q a k)) ∧ ∀ c, c ≠ 40 → s.2.2 c = M1 c) (Q := fun (r : Int32 × mm_M) => r.1 = nI (mxA (fun a => nxC M1 x q a (vN M1)) 10) ∧ ∀ c, c ≠ 40 → r.2 c = M1 c) (fun s => 20 - Int32.toNatClampNeg s.2.1) ?_ (0, 0, F) ⟨0, by omega, rfl, rfl, fun a ha => f1 a ha, fun c hc => (f3 c hc).trans (hN c hc)⟩ (by omega)
  · obtain ⟨⟨r, N'⟩, e2, h1, h2⟩ := this
    dsimp only at h1 h2
    subst h1
    exact ⟨N', e2, h2⟩
  · rintro ⟨g, y, G⟩ ⟨k, hk, hg, hy, h1, h2⟩
    dsimp only at hg hy h1 h2
    subst hg hy
    have hans : ∀ s : Nat, s < 10 → X8_answer (nI q) (nI s) G = vA M1 q s := by
      intro s hs
      rw [v_ans hq hs, vA, vA, h2 8 (by decide)]
    have h70 : G 7 0 = M1 7 0 := by rw [h2 7 (by decide)]
    unfold X5_greatestGroup_l14
    dsimp only
    by_cases c : vN M1 ≤ k
    · have : k = vN M1 := by omega
      subst this
      simp only [h70, if_pos ((v_head hv (by omega : vN M1 ≤ 10)).1.mpr c)]
      exact Or.inr ⟨_, rfl, rfl, h2⟩
    · have hk10 : k < 10 := by omega
      have hlt : 20 - Int32.toNatClampNeg (nI k + 1) < 20 - Int32.toNatClampNeg (nI k) := by
        rw [nI_1, e_nIc (by omega), e_nIc (by omega)]
        omega
      have c0 : ¬ M1 7 0 ≤ nI k := fun h => c ((v_head hv (by omega : k ≤ 10)).1.mp h)
      obtain ⟨a, ha, hA⟩ := nx_ans hv hq hk10
      have hC : ∀ b, b < 10 → nxC M1 x q b (k + 1) = nxC M1 x q b k + if bt x k = true ∧ b = a then 1 else 0 := by
        intro b hb
        show nxC M1 x q b k + (if bt x k = true ∧ vA M1 q k = nI b then 1 else 0) = _
        rw [hA]
        by_cases cb : b = a
        · subst cb
          simp
        · have : ¬ nI a = nI b := fun h => cb ((nI_eq (by omega) (by omega)).mp h).symm
          simp [cb, this]
      by_cases cb : bt x k = true
      · have hle := nxC_le (M := M1) (x := x) (q := q) (a := a) k
        have hmx : mxA (fun a => nxC M1 x q a k) 10 ≤ k := mxA_ub 10 (fun b _ => nxC_le k)
        have d1 : ¬ nI a < 0 := nI_pos (by omega)
        have d2 : ¬ (9 : Int32) < nI a := by
          rw [e_lt, e_nIt (by omega)]
          show ¬ (9 : Int) < a
          omega
        have hin : mm_in (nI a) 10 = true := e_inb (by rw [e_nIt (by omega)]; omega) (by rw [e_nIt (by omega)]; omega)
        have c1 : ¬ ((x >>> (nI k &&& 31)) &&& 1) = 0 := fun h => ((nx_has x (show k < 32 by omega)).2.mp h) cb
        have hmxe : mxA (fun a => nxC M1 x q a (k + 1)) 10 = max (mxA (fun a => nxC M1 x q a k) 10) (nxC M1 x q a k + 1) := mxA_inc ha (by rw [hC a ha]; simp [cb]) (fun b hb hne => by rw [hC b hb]; simp [hne])
        simp only [h70, if_neg c0, if_neg c1, hans k hk10, hA, if_neg d1, if_neg d2, if_pos hin, e_nIc (show a < 2147483648 by omega), h1 a ha, nI_1 (nxC M1 x q a k)]
        refine Or.inl ⟨_, rfl, ⟨k + 1, by omega, ?_, nI_1 k, fun b hb => ?_, fun c hc => (mm_U_ne c hc).trans (h2 c hc)⟩, by simpa using hlt⟩
        · show (if nI (mxA (fun a => nxC M1 x q a k) 10) < nI (nxC M1 x q a k + 1) then nI (nxC M1 x q a k + 1) else nI (mxA (fun a => nxC M1 x q a k) 10)) = _
          rw [hmxe]
          by_cases d : mxA (fun a => nxC M1 x q a k) 10 < nxC M1 x q a k + 1
          · rw [if_pos ((nI_ltI (by omega) (by omega)).mpr d), Nat.max_eq_right (by omega)]
          · rw [if_neg (fun h => d ((nI_ltI (by omega) (by omega)).mp h)), Nat.max_eq_left (by omega)]
        · show mm_U G 40 a (nI (nxC M1 x q a k + 1)) 40 b = nI (nxC M1 x q b (k + 1))
          rw [e_U, hC b hb]
          by_cases cb2 : b = a
          · subst cb2
            simp [cb]
          · simp only [cb2, and_false, if_false, Nat.add_zero]
            exact h1 b hb
      · have c1 : ((x >>> (nI k &&& 31)) &&& 1) = 0 := (nx_has x (show k < 32 by omega)).2.mpr cb
        have hsame : ∀ b, b < 10 → nxC M1 x q b (k + 1) = nxC M1 x q b k := fun b hb => by rw [hC b hb]; simp [cb]
        simp only [h70, if_neg c0, if_pos c1]
        refine Or.inl ⟨_, rfl, ⟨k + 1, by omega, ?_, nI_1 k, fun b hb => by rw [hsame b hb]; exact h1 b hb, h2⟩, hlt⟩
        show nI (mxA (fun a => nxC M1 x q a k) 10) = _
        rw [mxA_congr 10 (fun b hb => (hsame b hb).symm)]
theorem nx_cnt2 {M1 M2 : mm_M} (hv : rl_val M1 M2) (x : Int32) {q a : Nat} (hq : q < 8) (ha : a < 10) (x3 : Int32) : mm_loop (X12_greatestBy_l18 x (nI q) x3 (nI a) M2) mm_fuel (0, 0) = some (nI (nxC M1 x q a (vN M1))) := by
  have hVN := v_n hv
  refine e_trace0 (fun k => (nI (nxC M1 x q a k), nI k)) (vN M1) (by omega) _ ?_ ?_
  · intro k hk
    have hk10 : k < 10 := by omega
    unfold X12_greatestBy_l18
    dsimp only
    rw [if_neg (fun h => by have := (v_head hv (by omega : k ≤ 10)).2.mp h; omega), v_ans2 hv hq hk10, Option.bind_some, nI_1, nI_1]
    show _ = some (Sum.inl (nI (nxC M1 x q a k + if bt x k = true ∧ vA M1 q k = nI a then 1 else 0), nI (k + 1)))
    by_cases cb : bt x k = true
    · rw [if_pos ((nx_has x (show k < 32 by omega)).1.mpr cb)]
      by_cases d : vA M1 q k = nI a
      · rw [if_pos d, if_pos ⟨cb, d⟩]
      · rw [if_neg d, if_neg (fun h => d h.2)]
        rfl
    · rw [if_neg (fun h => cb ((nx_has x (show k < 32 by omega)).1.mp h)), if_neg (fun h => cb h.1)]
      rfl
  · unfold X12_greatestBy_l18
    dsimp only
    rw [if_pos ((v_head hv (by omega)).2.mpr (Nat.le_refl _))]
theorem nx_great2 {M1 M2 : mm_M} (hv : rl_val M1 M2) (x : Int32) {q : Nat} (hq : q < 8) : X12_greatestBy x (nI q) M2 = some (nI (mxA (fun a => nxC M1 x q a (vN M1)) 10)) := by
  have hVN := v_n hv
  unfold X12_greatestBy
  refine e_trace0 (fun k => (nI (mxA (fun a => nxC M1 x q a (vN M1)) k), nI k)) 10 (by decide) _ ?_ ?_
  · intro k hk
    have hle := nxC_le (M := M1) (x := x) (q := q) (a := k) (vN M1)
    have hmx : mxA (fun a => nxC M1 x q a (vN M1)) k ≤ vN M1 := mxA_ub k (fun b _ => nxC_le _)
    unfold X12_greatestBy_l5
    dsimp only
    rw [if_neg (fun h => by have := (e_10 (by omega)).mp h; omega), nx_cnt2 hv x hq hk, Option.bind_some, nI_1]
    show some (Sum.inl (X12_max _ _, _)) = some (Sum.inl (nI (max (mxA (fun a => nxC M1 x q a (vN M1)) k) (nxC M1 x q k (vN M1))), nI (k + 1)))
    unfold X12_max
    by_cases d : mxA (fun a => nxC M1 x q a (vN M1)) k ≤ nxC M1 x q k (vN M1)
    · rw [if_pos ((nI_leI (by omega) (by omega)).mpr d), Nat.max_eq_right d]
    · rw [if_neg (fun h => d ((nI_leI (by omega) (by omega)).mp h)), Nat.max_eq_left (by omega)]
  · unfold X12_greatestBy_l5
    dsimp only
    rw [if_pos ((e_10 (by omega)).mpr (by omega))]
def nxG (M : mm_M) (x : Int32) (q : Nat) : Nat := mxA (fun a => nxC M x q a (vN M)) 10
/-- the lowest of the questions 0 to k whose greatest group is least -/
def nxB (M : mm_M) (x : Int32) : Nat → Nat
  | 0 => 0
  | k + 1 => if nxG M x (k + 1) < nxG M x (nxB M x k) then k + 1 else nxB M x k
theorem nxB_le {M : mm_M} {x : Int32} : ∀ k, nxB M x k ≤ k := by
  intro k
  induction k with
  | zero => exact Nat.le_refl _
  | succ k ih =>
    by_cases c : nxG M x (k + 1) < nxG M x (nxB M x k)
    · rw [show nxB M x (k + 1) = k + 1 from if_pos c]
      exact Nat.le_refl _
    · rw [show nxB M x (k + 1) = nxB M x k from if_neg c]
      omega
theorem nxG_le {M1 M2 : mm_M} (hv : rl_val M1 M2) (x : Int32) (q : Nat) : nxG M1 x q ≤ 10 := by
  have := v_n hv
  exact Nat.le_trans (mxA_ub 10 (fun b _ => nxC_le _)) this.2.1
theorem nx_best1 {M1 M2 : mm_M} (hv : rl_val M1 M2) (x w : Int32) : ∃ N, X5_bestSplit x w M1 = some (if w = 0 then nI (nxB M1 x 7) else nI (nxG M1 x (nxB M1 x 7)), N) ∧ ∀ c, c ≠ 40 → N c = M1 c := by
  unfold X5_bestSplit
  have := e_loopF (step := X5_bestSplit_l10 x w) (I := fun (s : Int32 × Int32 × Int32 × mm_M) => ∃ q : Nat, q ≤ 8 ∧ s.2.2.1 = nI q ∧ ((q = 0 ∧ s.2.1 = 11) ∨ (1 ≤ q ∧ s.1 = nI (nxB M1 x (q - 1)) ∧ s.2.1 = nI (nxG M1 x (nxB M1 x (q - 1))))) ∧ ∀ c, c ≠ 40 → s.2.2.2 c = M1 c) (Q := fun (r : Int32 × mm_M) => r.1 = (if w = 0 then nI (nxB M1 x 7) else nI (nxG M1 x (nxB M1 x 7))) ∧ ∀ c, c ≠ 40 → r.2 c = M1 c) (fun s => 20 - Int32.toNatClampNeg s.2.2.1) ?_ (-1, 11, 0, M1) ⟨0, by omega, rfl, Or.inl ⟨rfl, rfl⟩, fun c _ => rfl⟩ (by omega)
  · obtain ⟨⟨r, N⟩, e, h1, h2⟩ := this
    dsimp only at h1 h2
    subst h1
    exact ⟨N, e, h2⟩
  · rintro ⟨b, l, y, G⟩ ⟨q, hq, hy, hcase, h2⟩
    dsimp only at hy hcase h2
    subst hy
    unfold X5_bestSplit_l10
    dsimp only
    by_cases c : 8 ≤ q
    · have : q = 8 := by omega
      subst this
      rw [if_pos ((e_8 (by omega)).mpr c)]
      rcases hcase with h | ⟨-, rfl, rfl⟩
      · omega
      · by_cases cw : w = 0
        · rw [if_pos cw]
          exact Or.inr ⟨_, rfl, by rw [if_pos cw], h2⟩
        · rw [if_neg cw]
          exact Or.inr ⟨_, rfl, by rw [if_neg cw], h2⟩
    · obtain ⟨N', e, hN'⟩ := nx_great1 hv h2 x (show q < 8 by omega)
      rw [if_neg (fun h => c ((e_8 (by omega)).mp h)), e, Option.bind_some]
      have hlt : 20 - Int32.toNatClampNeg (nI q + 1) < 20 - Int32.toNatClampNeg (nI q) := by
        rw [nI_1, e_nIc (by omega), e_nIc (by omega)]
        omega
      have hG := nxG_le hv x q
      dsimp only
      rcases hcase with ⟨rfl, rfl⟩ | ⟨hq1, rfl, rfl⟩
      · have c1 : ¬ (11 : Int32) ≤ nI (nxG M1 x 0) := by
          rw [e_le, e_nIt (by omega)]
          show ¬ (11 : Int) ≤ _
          omega
        have c1' : ¬ (11 : Int32) ≤ nI (mxA (fun a => nxC M1 x 0 a (vN M1)) 10) := c1
        rw [if_neg c1']
        exact Or.inl ⟨_, rfl, ⟨1, by omega, rfl, Or.inr ⟨by omega, rfl, rfl⟩, hN'⟩, hlt⟩
      · obtain ⟨k, rfl⟩ : ∃ k, q = k + 1 := ⟨q - 1, by omega⟩
        have hG2 := nxG_le hv x (nxB M1 x k)
        have q1 : nI (nxG M1 x (nxB M1 x k)) ≤ nI (mxA (fun a => nxC M1 x (k + 1) a (vN M1)) 10) ↔ nxG M1 x (nxB M1 x k) ≤ nxG M1 x (k + 1) := nI_leI (by omega) (by have := hG; unfold nxG at this; omega)
        by_cases d : nxG M1 x (nxB M1 x k) ≤ nxG M1 x (k + 1)
        · rw [if_pos (show nI (nxG M1 x (nxB M1 x (k + 1 - 1))) ≤ nI (mxA (fun a => nxC M1 x (k + 1) a (vN M1)) 10) from q1.mpr d)]
          have eb : nxB M1 x (k + 1) = nxB M1 x k := if_neg (by omega)
          refine Or.inl ⟨_, rfl, ⟨k + 2, by omega, nI_1 _, Or.inr ⟨by omega, ?_, ?_⟩, hN'⟩, hlt⟩
          · show nI (nxB M1 x k) = nI (nxB M1 x (k + 1))
            rw [eb]
          · show nI (nxG M1 x (nxB M1 x k)) = nI (nxG M1 x (nxB M1 x (k + 1)))
            rw [eb]
        · rw [if_neg (show ¬ nI (nxG M1 x (nxB M1 x (k + 1 - 1))) ≤ nI (mxA (fun a => nxC M1 x (k + 1) a (vN M1)) 10) from fun h => d (q1.mp h))]
          have eb : nxB M1 x (k + 1) = k + 1 := if_pos (by omega)
          refine Or.inl ⟨_, rfl, ⟨k + 2, by omega, nI_1 _, Or.inr ⟨by omega, ?_, ?_⟩, hN'⟩, hlt⟩
          · show nI (k + 1) = nI (nxB M1 x (k + 1))
            rw [eb]
          · show nI (nxG M1 x (k + 1)) = nI (nxG M1 x (nxB M1 x (k + 1)))
            rw [eb]
theorem nx_best2 {M1 M2 : mm_M} (hv : rl_val M1 M2) (x w : Int32) : mm_loop (X12_next_l31 x w M2) mm_fuel (0, 1) = some (nI (nxB M1 x 7)) := by
  refine e_trace0 (fun k => (nI (nxB M1 x k), nI (k + 1))) 7 (by decide) _ ?_ ?_
  · intro k hk
    have hb := nxB_le (M := M1) (x := x) k
    have h1 := nxG_le hv x (k + 1)
    have h2 := nxG_le hv x (nxB M1 x k)
    unfold X12_next_l31
    dsimp only
    rw [if_neg (fun h => by have := (e_8 (by omega)).mp h; omega), nx_great2 hv x (show k + 1 < 8 by omega), Option.bind_some, nx_great2 hv x (show nxB M1 x k < 8 by omega), Option.bind_some, nI_1]
    have q1 : nI (mxA (fun a => nxC M1 x (nxB M1 x k) a (vN M1)) 10) ≤ nI (mxA (fun a => nxC M1 x (k + 1) a (vN M1)) 10) ↔ nxG M1 x (nxB M1 x k) ≤ nxG M1 x (k + 1) := nI_leI (by unfold nxG at h2; omega) (by unfold nxG at h1; omega)
    show _ = some (Sum.inl (nI (if nxG M1 x (k + 1) < nxG M1 x (nxB M1 x k) then k + 1 else nxB M1 x k), nI (k + 1 + 1)))
    by_cases d : nxG M1 x (nxB M1 x k) ≤ nxG M1 x (k + 1)
    · rw [if_pos (q1.mpr d), if_neg (by omega)]
    · rw [if_neg (fun h => d (q1.mp h)), if_pos (by omega)]
  · unfold X12_next_l31
    dsimp only
    rw [if_pos ((e_8 (by omega)).mpr (by omega))]
theorem nx_pow : ∀ n, n < 11 → ((1 : Int32) <<< (nI n &&& 31)).toInt = (2 : Int) ^ n ∧ (((1 : Int32) <<< (nI n &&& 31)) - 1).toInt = (2 : Int) ^ n - 1 := by decide +kernel
theorem nx_sets {M1 M2 : mm_M} (hv : rl_val M1 M2) (x : Int32) : X8_hasAll x M1 = X12_areStates x M2 := by
  have hVN := v_n hv
  have hp := nx_pow (vN M1) (by omega)
  unfold X8_hasAll X12_areStates X8_everyState
  rw [← hv.1, hVN.1]
  by_cases c : x ≤ 0
  · rw [if_pos c, if_pos c]
  · rw [if_neg c, if_neg c]
    by_cases d : ((1 : Int32) <<< (nI (vN M1) &&& 31)) ≤ x
    · rw [if_pos d, if_pos]
      rw [e_le, hp.1] at d
      rw [e_lt, hp.2]
      omega
    · rw [if_neg d, if_neg]
      rw [e_le, hp.1] at d
      rw [e_lt, hp.2]
      omega
theorem nx_told {M1 M2 : mm_M} (hv : rl_val M1 M2) {x : Int32} (h : X8_hasAll x M1 = true) : ¬ M2 0 6 = 0 := by
  intro c
  have hVN := v_n hv
  have h0 : vN M1 = 0 := by
    rw [← hv.1, e_eq, hVN.2.2] at c
    have k0 : (0 : Int32).toInt = 0 := rfl
    omega
  unfold X8_hasAll X8_everyState at h
  rw [hVN.1, h0] at h
  by_cases d : x ≤ 0
  · rw [if_pos d] at h
    cases h
  · rw [if_neg d, if_pos] at h
    · cases h
    · have e : ((1 : Int32) <<< (nI 0 &&& 31)) - 1 = 0 := by decide
      rw [e]
      rw [e_le] at d
      rw [e_lt]
      omega
theorem op_21 (x y : Int32) : rl_ok (cl_21 x y) (md_21 x y) := by
  intro M1 M2 h
  have hv := h.2.2.2.1
  unfold cl_21 md_21 X11_next X12_next
  rw [← nx_sets hv x, ← rl_01 y]
  by_cases c1 : X8_hasAll x M1 = true
  · have c3 := nx_told hv c1
    by_cases c2 : X11_isZeroOrOne y = true
    · obtain ⟨N, e, hN⟩ := nx_best1 hv x y
      have hb := nxB_le (M := M1) (x := x) 7
      have hc : rl_core N M2 := rl_core_congr h ⟨by rw [hN 0 (by decide)], by rw [hN 1 (by decide)], hN 2 (by decide), hN 3 (by decide), hN 4 (by decide), hN 5 (by decide), by rw [hN 7 (by decide)], hN 8 (by decide), hN 9 (by decide)⟩ rl_same2_rfl
      have hl : rl_lf M1 N M2 M2 := ⟨⟨by rw [hN 13 (by decide)], by rw [hN 13 (by decide)], hN 14 (by decide), hN 15 (by decide), hN 16 (by decide), hN 17 (by decide), by rw [hN 18 (by decide), hN 32 (by decide)]⟩, rfl, rfl, rfl, rfl, rfl, rfl⟩
      simp only [if_pos c1, if_pos c2, if_neg c3, e, Option.bind_some, nx_best2 hv x y, nx_great2 hv x (show nxB M1 x 7 < 8 by omega)]
      by_cases cy : y = 0
      · simp only [if_pos cy]
        exact ⟨_, N, M2, rfl, rfl, hc, hl⟩
      · simp only [if_neg cy]
        exact ⟨_, N, M2, rfl, rfl, hc, hl⟩
    · simp only [if_pos c1, if_neg c2, if_neg c3]
      exact ⟨-1, M1, M2, rfl, rfl, h, rl_lf_rfl⟩
  · simp only [if_neg c1, ite_self]
    exact ⟨-1, M1, M2, rfl, rfl, h, rl_lf_rfl⟩
