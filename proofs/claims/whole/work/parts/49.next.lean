/-- the greatest group of one answer, by the class: its row 40 is used, nothing else changes -/
theorem nx_great1 {M1 M2 N : mm_M} (hv : rl_val M1 M2) (hN : ∀ c, c ≠ 40 → N c = M1 c) (x : Int32) {q : Nat} (hq : q < 8) : ∃ N', X5_greatestGroup x (nI q) N = some (nI (mxA (fun a => nxC M1 x q a (vN M1)) 10), N') ∧ ∀ c, c ≠ 40 → N' c = M1 c := by
  have hVN := v_n hv
  unfold X5_greatestGroup
  obtain ⟨F, e, f1, f2, f3⟩ := e_fill 40 10 rfl (by decide) 0 N
  rw [e, Option.bind_some]
  have := e_loopF (step := X5_greatestGroup_l14 x (nI q)) (I := fun (s : Int32 × Int32 × mm_M) => ∃ k : Nat, k ≤ vN M1 ∧ s.1 = nI (mxA (fun a => nxC M1 x q a k) 10) ∧ s.2.1 = nI k ∧ (∀ a, a < 10 → s.2.2 40 a = nI (nxC M1 x q a k)) ∧ ∀ c, c ≠ 40 → s.2.2 c = M1 c) (Q := fun (r : Int32 × mm_M) => r.1 = nI (mxA (fun a => nxC M1 x q a (vN M1)) 10) ∧ ∀ c, c ≠ 40 → r.2 c = M1 c) (fun s => 20 - Int32.toNatClampNeg s.2.1) ?_ (0, 0, F) ⟨0, by omega, rfl, rfl, fun a ha => f1 a ha, fun c hc => (f3 c hc).trans (hN c hc)⟩ (by omega)
  · obtain ⟨⟨r, N'⟩, e2, h1, h2⟩ := this
    dsimp only at h1 h2
    subst h1
    exact ⟨N', e2, h2⟩
  · rintro ⟨g, y, G⟩ ⟨k, hk, hg, hy, h1, h2⟩
    dsimp only at hg hy h1 h2
    subst hg hy
    have hans : ∀ s : Nat, s < 10 → X8_answer (nI q) (nI s) G = vA M1 q s := by
      intro s hs
      rw [v_ans hq hs, vA, vA, h2 8 (by decide)]
    have h70 : G 7 0 = M1 7 0 := by rw [h2 7 (by decide)]
    unfold X5_greatestGroup_l14
    dsimp only
    by_cases c : vN M1 ≤ k
    · have : k = vN M1 := by omega
      subst this
      simp only [h70, if_pos ((v_head hv (by omega : vN M1 ≤ 10)).1.mpr c)]
      exact Or.inr ⟨_, rfl, rfl, h2⟩
    · have hk10 : k < 10 := by omega
      have hlt : 20 - Int32.toNatClampNeg (nI k + 1) < 20 - Int32.toNatClampNeg (nI k) := by
        rw [nI_1, e_nIc (by omega), e_nIc (by omega)]
        omega
      have c0 : ¬ M1 7 0 ≤ nI k := fun h => c ((v_head hv (by omega : k ≤ 10)).1.mp h)
      obtain ⟨a, ha, hA⟩ := nx_ans hv hq hk10
      have hC : ∀ b, b < 10 → nxC M1 x q b (k + 1) = nxC M1 x q b k + if bt x k = true ∧ b = a then 1 else 0 := by
        intro b hb
        show nxC M1 x q b k + (if bt x k = true ∧ vA M1 q k = nI b then 1 else 0) = _
        rw [hA]
        by_cases cb : b = a
        · subst cb
          simp
        · have : ¬ nI a = nI b := fun h => cb ((nI_eq (by omega) (by omega)).mp h).symm
          simp [cb, this]
      by_cases cb : bt x k = true
      · have hle := nxC_le (M := M1) (x := x) (q := q) (a := a) k
        have hmx : mxA (fun a => nxC M1 x q a k) 10 ≤ k := mxA_ub 10 (fun b _ => nxC_le k)
        have d1 : ¬ nI a < 0 := nI_pos (by omega)
        have d2 : ¬ (9 : Int32) < nI a := by
          rw [e_lt, e_nIt (by omega)]
          show ¬ (9 : Int) < a
          omega
        have hin : mm_in (nI a) 10 = true := e_inb (by rw [e_nIt (by omega)]; omega) (by rw [e_nIt (by omega)]; omega)
        have c1 : ¬ ((x >>> (nI k &&& 31)) &&& 1) = 0 := fun h => ((nx_has x (show k < 32 by omega)).2.mp h) cb
        have hmxe : mxA (fun a => nxC M1 x q a (k + 1)) 10 = max (mxA (fun a => nxC M1 x q a k) 10) (nxC M1 x q a k + 1) := mxA_inc ha (by rw [hC a ha]; simp [cb]) (fun b hb hne => by rw [hC b hb]; simp [hne])
        simp only [h70, if_neg c0, if_neg c1, hans k hk10, hA, if_neg d1, if_neg d2, if_pos hin, e_nIc (show a < 2147483648 by omega), h1 a ha, nI_1 (nxC M1 x q a k)]
        refine Or.inl ⟨_, rfl, ⟨k + 1, by omega, ?_, nI_1 k, fun b hb => ?_, fun c hc => (mm_U_ne c hc).trans (h2 c hc)⟩, by simpa using hlt⟩
        · show (if nI (mxA (fun a => nxC M1 x q a k) 10) < nI (nxC M1 x q a k + 1) then nI (nxC M1 x q a k + 1) else nI (mxA (fun a => nxC M1 x q a k) 10)) = _
          rw [hmxe]
          by_cases d : mxA (fun a => nxC M1 x q a k) 10 < nxC M1 x q a k + 1
          · rw [if_pos ((nI_ltI (by omega) (by omega)).mpr d), Nat.max_eq_right (by omega)]
          · rw [if_neg (fun h => d ((nI_ltI (by omega) (by omega)).mp h)), Nat.max_eq_left (by omega)]
        · show mm_U G 40 a (nI (nxC M1 x q a k + 1)) 40 b = nI (nxC M1 x q b (k + 1))
          rw [e_U, hC b hb]
          by_cases cb2 : b = a
          · subst cb2
            simp [cb]
          · simp only [cb2, and_false, if_false, Nat.add_zero]
            exact h1 b hb
      · have c1 : ((x >>> (nI k &&& 31)) &&& 1) = 0 := (nx_has x (show k < 32 by omega)).2.mpr cb
        have hsame : ∀ b, b < 10 → nxC M1 x q b (k + 1) = nxC M1 x q b k := fun b hb => by rw [hC b hb]; simp [cb]
        simp only [h70, if_neg c0, if_pos c1]
        refine Or.inl ⟨_, rfl, ⟨k + 1, by omega, ?_, nI_1 k, fun b hb => by rw [hsame b hb]; exact h1 b hb, h2⟩, hlt⟩
        show nI (mxA (fun a => nxC M1 x q a k) 10) = _
        rw [mxA_congr 10 (fun b hb => (hsame b hb).symm)]
theorem nx_cnt2 {M1 M2 : mm_M} (hv : rl_val M1 M2) (x : Int32) {q a : Nat} (hq : q < 8) (ha : a < 10) (x3 : Int32) : mm_loop (X12_greatestBy_l18 x (nI q) x3 (nI a) M2) mm_fuel (0, 0) = some (nI (nxC M1 x q a (vN M1))) := by
  have hVN := v_n hv
  refine e_trace0 (fun k => (nI (nxC M1 x q a k), nI k)) (vN M1) (by omega) _ ?_ ?_
  · intro k hk
    have hk10 : k < 10 := by omega
    unfold X12_greatestBy_l18
    dsimp only
    rw [if_neg (fun h => by have := (v_head hv (by omega : k ≤ 10)).2.mp h; omega), v_ans2 hv hq hk10, Option.bind_some, nI_1, nI_1]
    show _ = some (Sum.inl (nI (nxC M1 x q a k + if bt x k = true ∧ vA M1 q k = nI a then 1 else 0), nI (k + 1)))
    by_cases cb : bt x k = true
    · rw [if_pos ((nx_has x (show k < 32 by omega)).1.mpr cb)]
      by_cases d : vA M1 q k = nI a
      · rw [if_pos d, if_pos ⟨cb, d⟩]
      · rw [if_neg d, if_neg (fun h => d h.2)]
        rfl
    · rw [if_neg (fun h => cb ((nx_has x (show k < 32 by omega)).1.mp h)), if_neg (fun h => cb h.1)]
      rfl
  · unfold X12_greatestBy_l18
    dsimp only
    rw [if_pos ((v_head hv (by omega)).2.mpr (Nat.le_refl _))]
theorem nx_great2 {M1 M2 : mm_M} (hv : rl_val M1 M2) (x : Int32) {q : Nat} (hq : q < 8) : X12_greatestBy x (nI q) M2 = some (nI (mxA (fun a => nxC M1 x q a (vN M1)) 10)) := by
  have hVN := v_n hv
  unfold X12_greatestBy
  refine e_trace0 (fun k => (nI (mxA (fun a => nxC M1 x q a (vN M1)) k), nI k)) 10 (by decide) _ ?_ ?_
  · intro k hk
    have hle := nxC_le (M := M1) (x := x) (q := q) (a := k) (vN M1)
    have hmx : mxA (fun a => nxC M1 x q a (vN M1)) k ≤ vN M1 := mxA_ub k (fun b _ => nxC_le _)
    unfold X12_greatestBy_l5
    dsimp only
    rw [if_neg (fun h => by have := (e_10 (by omega)).mp h; omega), nx_cnt2 hv x hq hk, Option.bind_some, nI_1]
    show some (Sum.inl (X12_max _ _, _)) = some (Sum.inl (nI (max (mxA (fun a => nxC M1 x q a (vN M1)) k) (nxC M1 x q k (vN M1))), nI (k + 1)))
    unfold X12_max
    by_cases d : mxA (fun a => nxC M1 x q a (vN M1)) k ≤ nxC M1 x q k (vN M1)
    · rw [if_pos ((nI_leI (by omega) (by omega)).mpr d), Nat.max_eq_right d]
    · rw [if_neg (fun h => d ((nI_leI (by omega) (by omega)).mp h)), Nat.max_eq_left (by omega)]
  · unfold X12_greatestBy_l5
    dsimp only
    rw [if_pos ((e_10 (by omega)).mpr (by omega))]
