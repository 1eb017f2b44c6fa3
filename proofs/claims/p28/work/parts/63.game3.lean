theorem g_play1 {M1 M2 : mm_M} (hv : rl_val M1 M2) {a s : Nat} (hs : s < 10) : ∃ N, X10_play (nI s) (nI a) M1 = some (nI (gG M1 a 91 (9 * s + 8)), N) ∧ ∀ b, b ≠ 35 → N b = M1 b := by
  have hn := (v_n hv).2.1
  obtain ⟨y, a1, a2', a3, a4⟩ := e_fill 35 90 rfl (by omega) 0 M1
  have h0 : gM M1 y 35 (gG M1 a 0) := ⟨fun i hi => by rw [a2' i hi]; rfl, a4⟩
  have main := e_loopF (step := X10_play_l14 (nI s) (nI a)) (I := fun (z : Bool × Int32 × mm_M) => ∃ r : Nat, r ≤ 90 ∧ z.2.1 = nI (r + 1) ∧ gM M1 z.2.2 35 (gG M1 a r) ∧ (z.1 = false → ∃ j, j < r ∧ gG M1 a (j + 1) = gG M1 a j)) (Q := fun (z : Int32 × mm_M) => z.1 = nI (gG M1 a 91 (9 * s + 8)) ∧ ∀ b, b ≠ 35 → z.2 b = M1 b) (fun z => 200 - Int32.toNatClampNeg z.2.1) ?_ (true, 1, y) ⟨0, by omega, rfl, h0, fun z => by cases z⟩ (by omega)
  · obtain ⟨⟨v, N⟩, m1, m2, m3⟩ := main
    refine ⟨N, ?_, m3⟩
    dsimp only at m2
    unfold X10_play
    rw [a1, Option.bind_some, m1, m2]
  · rintro ⟨b, x, N⟩ ⟨r, hr, hx, hN, hb⟩
    dsimp only at hx hN hb
    subst hx
    have fin : (r = 90 ∨ (gG M1 a (r + 1) = gG M1 a r) ∨ ∃ j, j < r ∧ gG M1 a (j + 1) = gG M1 a j) → X10_play_j123l14 (nI s) N = some (.inr (nI (gG M1 a 91 (9 * s + 8)), N)) := by
      intro hq
      unfold X10_play_j123l14
      rw [gG_end hn hr hq]
      have := g_endingAt hN (s := s) (l := 8) hs (by omega)
      rw [← this]
      rfl
    have c90 : ((90 : Int32) < nI (r + 1)) ↔ r = 90 := by
      show nI 90 < nI (r + 1) ↔ _
      rw [e_lt, e_nIt (by omega), e_nIt (by omega)]
      omega
    unfold X10_play_l14
    dsimp only
    by_cases e : r = 90
    · rw [if_pos (c90.mpr e), fin (Or.inl e)]
      exact Or.inr ⟨_, rfl, rfl, hN.2⟩
    · rw [if_neg (fun z => e (c90.mp z))]
      cases b
      · simp only [Bool.false_eq_true, if_false]
        rw [fin (Or.inr (Or.inr (hb rfl)))]
        exact Or.inr ⟨_, rfl, rfl, hN.2⟩
      · obtain ⟨b', N', r1, r2, r3⟩ := g_round1 hv (a := a) (r := r) (by omega) (nI s) hN
        simp only [if_true, r1, Option.bind_some]
        refine Or.inl ⟨_, rfl, ⟨r + 1, by omega, nI_1 (r + 1), r2, fun z => ⟨r, by omega, ?_⟩⟩, ?_⟩
        · dsimp only at z
          rw [z] at r3
          funext k
          rcases Nat.lt_or_ge k 90 with w | w
          · rcases Decidable.em (gG M1 a (r + 1) k = gG M1 a r k) with u | u
            · exact u
            · exact absurd (r3.mpr ⟨k, w, u⟩) (by decide)
          · rw [gG_out (by omega), gG_out (by omega)]
        · show 200 - Int32.toNatClampNeg (nI (r + 1) + 1) < 200 - Int32.toNatClampNeg (nI (r + 1))
          rw [nI_1, e_nIc (by omega), e_nIc (by omega)]
          omega
theorem g_play2 {M1 M2 : mm_M} (hv : rl_val M1 M2) {a : Nat} : ∃ N, X12_laysGame (nI a) M2 = some N ∧ gM2 M2 N (gG M1 a 91) := by
  have hn := (v_n hv).2.1
  have fill : ∃ y, mm_loop (X12_laysGame_l2 (nI a)) mm_fuel (0, M2) = some y ∧ gM2 M2 y (gG M1 a 0) := by
    refine e_loopF (step := X12_laysGame_l2 (nI a)) (I := fun (z : Int32 × mm_M) => ∃ i : Nat, i ≤ 90 ∧ z.1 = nI i ∧ (∀ k, k < i → z.2 35 k = 0 ∧ z.2 36 k = 0) ∧ ∀ b, b ≠ 35 → b ≠ 36 → z.2 b = M2 b) (Q := fun N => gM2 M2 N (gG M1 a 0)) (fun z => 200 - Int32.toNatClampNeg z.1) ?_ (0, M2) ⟨0, by omega, rfl, fun k hk => by omega, fun _ _ _ => rfl⟩ (by omega)
    rintro ⟨x, N⟩ ⟨i, hi, hx, h1, h2⟩
    dsimp only at hx h1 h2
    subst hx
    unfold X12_laysGame_l2
    dsimp only
    by_cases e : i = 90
    · rw [if_pos ((g_90 (by omega)).mpr (by omega))]
      refine Or.inr ⟨N, rfl, fun k hk => ?_, fun k hk => ?_, h2⟩
      · rw [(h1 k (by omega)).1]
        rfl
      · rw [(h1 k (by omega)).2]
        rfl
    · have in90 : mm_in (nI i) 90 = true := e_inb (by rw [e_nIt (by omega)]; omega) (by rw [e_nIt (by omega)]; omega)
      rw [if_neg (fun h => by have := (g_90 (by omega)).mp h; omega), if_pos in90, if_pos in90, e_nIc (show i < 2147483648 by omega)]
      refine Or.inl ⟨_, rfl, ⟨i + 1, by omega, nI_1 i, fun k hk => ?_, fun b hb1 hb2 => ?_⟩, ?_⟩
      · constructor
        · show mm_U (mm_U N 35 i 0) 36 i 0 35 k = 0
          rw [mm_U_ne 35 (by decide), e_U]
          split
          · rfl
          · rename_i w
            exact (h1 k (by omega)).1
        · show mm_U (mm_U N 35 i 0) 36 i 0 36 k = 0
          rw [e_U]
          split
          · rfl
          · rename_i w
            rw [mm_U_ne 36 (by decide)]
            exact (h1 k (by omega)).2
      · show mm_U (mm_U N 35 i 0) 36 i 0 b = M2 b
        rw [mm_U_ne b hb2, mm_U_ne b hb1]
        exact h2 b hb1 hb2
      · show 200 - Int32.toNatClampNeg (nI i + 1) < 200 - i
        rw [nI_1, e_nIc (by omega)]
        omega
  obtain ⟨y, y1, y2⟩ := fill
  have main := e_loopF (step := X12_laysGame_l30 (nI a)) (I := fun (z : Int32 × mm_M) => ∃ r : Nat, r ≤ 91 ∧ z.1 = nI (r + 1) ∧ gM2 M2 z.2 (gG M1 a r)) (Q := fun N => gM2 M2 N (gG M1 a 91)) (fun z => 200 - Int32.toNatClampNeg z.1) ?_ (1, y) ⟨0, by omega, rfl, y2⟩ (by omega)
  · obtain ⟨N, m1, m2⟩ := main
    refine ⟨N, ?_, m2⟩
    unfold X12_laysGame
    rw [y1, Option.bind_some]
    exact m1
  · rintro ⟨x, N⟩ ⟨r, hr, hx, hN⟩
    dsimp only at hx hN
    subst hx
    have c92 : ((92 : Int32) ≤ nI (r + 1)) ↔ r = 91 := by
      show nI 92 ≤ nI (r + 1) ↔ _
      rw [e_le, e_nIt (by omega), e_nIt (by omega)]
      omega
    unfold X12_laysGame_l30
    dsimp only
    by_cases e : r = 91
    · subst e
      rw [if_pos (c92.mpr rfl)]
      exact Or.inr ⟨N, rfl, hN⟩
    · obtain ⟨N', r1, r2⟩ := g_round2 hv (a := a) (r := r) (by omega) hN
      rw [if_neg (fun z => e (c92.mp z)), r1, Option.bind_some]
      refine Or.inl ⟨_, rfl, ⟨r + 1, by omega, nI_1 (r + 1), r2⟩, ?_⟩
      show 200 - Int32.toNatClampNeg (nI (r + 1) + 1) < 200 - Int32.toNatClampNeg (nI (r + 1))
      rw [nI_1, e_nIc (by omega), e_nIc (by omega)]
      omega
theorem rl_keep2 {M1 M2 N1 N2 : mm_M} (h : rl_core M1 M2) (g1 : ∀ b, b ≤ 32 → N1 b = M1 b) (g2 : ∀ b, b ≤ 18 → N2 b = M2 b) : rl_core N1 N2 ∧ rl_lf M1 N1 M2 N2 := by
  refine ⟨rl_core_congr h ⟨by rw [g1 0 (by omega)], by rw [g1 1 (by omega)], g1 2 (by omega), g1 3 (by omega), g1 4 (by omega), g1 5 (by omega), by rw [g1 7 (by omega)], g1 8 (by omega), g1 9 (by omega)⟩ ⟨by rw [g2 0 (by omega)], by rw [g2 0 (by omega)], by rw [g2 0 (by omega)], g2 1 (by omega), g2 3 (by omega), g2 4 (by omega), g2 5 (by omega), g2 6 (by omega), g2 7 (by omega)⟩, ⟨by rw [g1 13 (by omega)], by rw [g1 13 (by omega)], g1 14 (by omega), g1 15 (by omega), g1 16 (by omega), g1 17 (by omega), by rw [g1 18 (by omega), g1 32 (by omega)]⟩, ⟨by rw [g2 0 (by omega)], g2 14 (by omega), g2 15 (by omega), g2 16 (by omega), g2 17 (by omega), g2 18 (by omega)⟩⟩
theorem op_23 (x y z : Int32) : rl_ok (cl_23 x y z) (md_23 x y z) := by
  intro M1 M2 h
  have hv := h.2.2.2.1
  unfold cl_23 md_23 X11_inspectors X12_inspectors
  rw [← rl_has hv x, ← rl_01 z]
  by_cases c1 : X8_has 7 x M1 = true
  · by_cases c2 : X12_in y 0 9 = true
    · have hy := rl_inI.mp c2
      have d1 : ¬ y < 0 := (rl_lt.mpr hy).1
      have d2 : ¬ 9 < y := by
        rw [e_lt]
        have := hy.2
        omega
      by_cases c3 : X11_isZeroOrOne z = true
      · obtain ⟨s, hs, hs10, rfl⟩ := v_s hv c1
        obtain ⟨a, rfl⟩ : ∃ a, y = nI a := ⟨_, e_nI hy.1⟩
        obtain ⟨N1, e1, k1⟩ := g_play1 hv (a := a) hs10
        obtain ⟨N2, e2, g2⟩ := g_play2 hv (a := a)
        obtain ⟨hc, hl⟩ := rl_keep2 h (fun b hb => k1 b (by omega)) (fun b hb => g2.2.2 b (by omega) (by omega))
        have hat : X12_at (nI s) 8 = nI (9 * s + 8) := g_cell.2
        have in90 : mm_in (nI (9 * s + 8)) 90 = true := e_inb (by rw [e_nIt (by omega)]; omega) (by rw [e_nIt (by omega)]; omega)
        have hle := gG_le (M := M1) (a := a) (k := 9 * s + 8) 91
        simp only [if_pos c1, if_pos c2, if_neg d1, if_neg d2, if_pos c3, e1, e2, Option.bind_some, hat, if_pos in90, e_nIc (show 9 * s + 8 < 2147483648 by omega), g2.1 _ (show 9 * s + 8 < 90 by omega), g2.2.1 _ (show 9 * s + 8 < 90 by omega), g_par _ (show gG M1 a 91 (9 * s + 8) < 100 by omega), nI_add]
        have z0 : ∀ v, v < 100 → (nI v = 0 ↔ v = 0) := fun v hv => nI_eq (b := 0) (by omega) (by omega)
        by_cases cz : z = 1
        · simp only [if_pos cz]
          have : (if gG M1 a 91 (9 * s + 8) % 2 = 1 then gG M1 a 91 (9 * s + 8) else 0) + (if gG M1 a 91 (9 * s + 8) % 2 = 0 then gG M1 a 91 (9 * s + 8) else 0) = gG M1 a 91 (9 * s + 8) := by
            split <;> split <;> omega
          rw [this]
          exact ⟨_, N1, N2, rfl, rfl, hc, hl⟩
        · simp only [if_neg cz]
          by_cases f0 : gG M1 a 91 (9 * s + 8) = 0
          · rw [f0]
            exact ⟨0, N1, N2, rfl, rfl, hc, hl⟩
          · rw [if_neg (fun w => f0 ((z0 _ (by omega)).mp w))]
            rcases Nat.mod_two_eq_zero_or_one (gG M1 a 91 (9 * s + 8)) with p | p
            · have q1 : ¬ gG M1 a 91 (9 * s + 8) % 2 = 1 := by omega
              rw [p]
              rw [if_neg (show ¬ nI 0 = 1 by decide), if_neg (show ¬ (0 : Nat) = 1 by decide), if_pos (show nI 0 = 0 from rfl), if_pos (rfl : 0 = 0), if_neg (fun w => f0 ((z0 _ (by omega)).mp w))]
              exact ⟨2, N1, N2, rfl, rfl, hc, hl⟩
            · rw [p]
              rw [if_pos (show nI 1 = 1 from rfl), if_pos (rfl : 1 = 1), if_neg (fun w => f0 ((z0 _ (by omega)).mp w))]
              exact ⟨1, N1, N2, rfl, rfl, hc, hl⟩
      · simp only [if_pos c1, if_pos c2, if_neg d1, if_neg d2, if_neg c3]
        exact ⟨-1, M1, M2, rfl, rfl, h, rl_lf_rfl⟩
    · refine ⟨-1, M1, M2, ?_, by simp only [if_pos c1, if_neg c2]; rfl, h, rl_lf_rfl⟩
      by_cases d1 : y < 0
      · simp only [if_pos c1, if_pos d1]
        rfl
      · have d2 : 9 < y := by
          rcases Decidable.em (9 < y) with w | w
          · exact w
          · exact absurd (rl_inI.mpr (rl_lt.mp ⟨d1, by rw [e_le]; rw [e_lt] at w; omega⟩)) c2
        simp only [if_pos c1, if_neg d1, if_pos d2]
        rfl
  · simp only [if_neg c1]
    exact ⟨-1, M1, M2, rfl, rfl, h, rl_lf_rfl⟩
