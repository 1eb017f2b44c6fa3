/-- the two rows 'ahead', each side's loop -/
theorem f_order1 {M1 M2 : mm_M} (hv : rl_val M1 M2) (hi : rl_in M1) (ht : rl_tape M1 M2) {n : Nat} (hn : n ≤ 10) (hnt : n ≤ tN M1) (hb : ∀ i, i < n → tB M1 i < 8) : ∃ N, X5_orderForms (nI n) M1 = some N ∧ (∀ i, i < n → N 41 i = nI (tB M1 i) ∧ bSet (fP M1 i) (N 42 i)) ∧ ∀ b, b ≠ 41 → b ≠ 42 → N b = M1 b := by
  unfold X5_orderForms
  refine e_loopF (step := X5_orderForms_l3 (nI n)) (I := fun (z : Int32 × mm_M) => ∃ i : Nat, i ≤ n ∧ z.1 = nI i ∧ (∀ k, k < i → z.2 41 k = nI (tB M1 k) ∧ bSet (fP M1 k) (z.2 42 k)) ∧ ∀ b, b ≠ 41 → b ≠ 42 → z.2 b = M1 b) (Q := fun (N : mm_M) => (∀ i, i < n → N 41 i = nI (tB M1 i) ∧ bSet (fP M1 i) (N 42 i)) ∧ ∀ b, b ≠ 41 → b ≠ 42 → N b = M1 b) (fun z => 20 - Int32.toNatClampNeg z.1) ?_ (0, M1) ⟨0, by omega, rfl, fun k hk => by omega, fun _ _ _ => rfl⟩ (by omega)
  rintro ⟨x, N⟩ ⟨i, hin, hx, h1, h2⟩
  dsimp only at hx h1 h2
  subst hx
  unfold X5_orderForms_l3
  dsimp only
  by_cases e : i = n
  · subst e
    rw [if_pos (show nI i ≤ nI i from Int32.le_refl _)]
    exact Or.inr ⟨N, rfl, h1, h2⟩
  · have c0 : ¬ nI n ≤ nI i := by
      rw [e_le, e_nIt (by omega), e_nIt (by omega)]
      omega
    have in10 : mm_in (nI i) 10 = true := e_inb (by rw [e_nIt (by omega)]; omega) (by rw [e_nIt (by omega)]; omega)
    have hbyte : X7_byteAt (nI i) N = some (nI (tB M1 i)) := by
      rw [← t_byte ht (show i < tN M1 by omega)]
      unfold X7_byteAt
      rw [h2 1 (by decide) (by decide), h2 2 (by decide) (by decide)]
    have inner : ∃ N', mm_loop (X5_orderForms_l40 (nI n) (nI i)) mm_fuel (0, mm_U (mm_U N 41 i (nI (tB M1 i))) 42 i 0) = some N' ∧ (∀ k, k ≤ i → N' 41 k = nI (tB M1 k)) ∧ (∀ k, k < i → N' 42 k = N 42 k) ∧ bSet (fP M1 i) (N' 42 i) ∧ ∀ b, b ≠ 41 → b ≠ 42 → N' b = M1 b := by
      refine e_loopF (step := X5_orderForms_l40 (nI n) (nI i)) (I := fun (z : Int32 × mm_M) => ∃ j : Nat, j ≤ i ∧ z.1 = nI j ∧ (∀ k, k ≤ i → z.2 41 k = nI (tB M1 k)) ∧ (∀ k, k < i → z.2 42 k = N 42 k) ∧ bSet (fun l => fP M1 i l ∧ l < j) (z.2 42 i) ∧ ∀ b, b ≠ 41 → b ≠ 42 → z.2 b = M1 b) (Q := fun (N' : mm_M) => (∀ k, k ≤ i → N' 41 k = nI (tB M1 k)) ∧ (∀ k, k < i → N' 42 k = N 42 k) ∧ bSet (fP M1 i) (N' 42 i) ∧ ∀ b, b ≠ 41 → b ≠ 42 → N' b = M1 b) (fun z => 20 - Int32.toNatClampNeg z.1) ?_ _ ⟨0, by omega, rfl, fun k hk => ?_, fun k hk => ?_, ?_, fun b b1 b2 => ?_⟩ (by omega)
      · rintro ⟨y, K⟩ ⟨j, hji, hy, g1, g2, g3, g4⟩
        dsimp only at hy g1 g2 g3 g4
        subst hy
        unfold X5_orderForms_l40
        dsimp only
        by_cases ej : j = i
        · subst ej
          rw [if_pos (show nI j ≤ nI j from Int32.le_refl _)]
          exact Or.inr ⟨K, rfl, g1, g2, bSet_iff g3 (fun l _ => ⟨fun z => z.1, fun z => ⟨z, z.1⟩⟩), g4⟩
        · have c1 : ¬ nI i ≤ nI j := by
            rw [e_le, e_nIt (by omega), e_nIt (by omega)]
            omega
          have jn10 : mm_in (nI j) 10 = true := e_inb (by rw [e_nIt (by omega)]; omega) (by rw [e_nIt (by omega)]; omega)
          have hbi := hb i (by omega)
          have hbj := hb j (by omega)
          have hvK : rl_val K M2 := by
            unfold rl_val
            rw [g4 7 (by decide) (by decide), g4 8 (by decide) (by decide), g4 9 (by decide) (by decide)]
            exact hv
          obtain ⟨b, s1, s2, s3⟩ := v_swap hv hi hbj hbi
          have s1' : X8_maySwap (nI (tB M1 j)) (nI (tB M1 i)) K = some b := by
            rw [← s1]
            unfold X8_maySwap
            have : X8_maySwap_l9 (nI (tB M1 j)) (nI (tB M1 i)) K = X8_maySwap_l9 (nI (tB M1 j)) (nI (tB M1 i)) M1 := by
              funext z
              unfold X8_maySwap_l9 X8_maySwap_j47l9 X8_keepsAnswer X8_answer X8_behind
              rw [g4 7 (by decide) (by decide), g4 8 (by decide) (by decide), g4 9 (by decide) (by decide)]
            rw [this]
          have hlt : 20 - Int32.toNatClampNeg (nI j + 1) < 20 - Int32.toNatClampNeg (nI j) := by
            rw [nI_1, e_nIc (by omega), e_nIc (by omega)]
            omega
          have put : fP M1 i j → ∃ s', X5_orderForms_j85l40 (nI n) (nI i) (nI j) K = some (.inl s') ∧ (∃ j : Nat, j ≤ i ∧ s'.1 = nI j ∧ (∀ k, k ≤ i → s'.2 41 k = nI (tB M1 k)) ∧ (∀ k, k < i → s'.2 42 k = N 42 k) ∧ bSet (fun l => fP M1 i l ∧ l < j) (s'.2 42 i) ∧ ∀ b, b ≠ 41 → b ≠ 42 → s'.2 b = M1 b) ∧ 20 - Int32.toNatClampNeg s'.1 < 20 - Int32.toNatClampNeg (nI j) := by
            intro hp
            unfold X5_orderForms_j85l40
            rw [if_pos in10, if_pos in10, e_nIc (show i < 2147483648 by omega)]
            refine ⟨_, rfl, ⟨j + 1, by omega, nI_1 j, fun k hk => ?_, fun k hk => ?_, ?_, fun b b1 b2 => ?_⟩, hlt⟩
            · show mm_U K 42 i (K 42 i ||| ((1 : Int32) <<< (nI j &&& 31))) 41 k = _
              rw [mm_U_ne 41 (by decide)]
              exact g1 k hk
            · show mm_U K 42 i _ 42 k = _
              rw [e_U, if_neg (by omega)]
              exact g2 k hk
            · show bSet _ (mm_U K 42 i _ 42 i)
              rw [e_U, if_pos ⟨rfl, rfl⟩]
              refine bSet_iff (bSet_set g3 (show j < 32 by omega)) (fun l _ => ⟨fun z => ?_, fun z => ?_⟩)
              · rcases z with z | z
                · exact ⟨z.1, by omega⟩
                · rw [z]
                  exact ⟨hp, by omega⟩
              · by_cases w : l = j
                · exact Or.inr w
                · exact Or.inl ⟨z.1, by omega⟩
            · show mm_U K 42 i _ b = _
              rw [mm_U_ne b b2]
              exact g4 b b1 b2
          simp only [if_neg c1, if_pos jn10, if_pos in10, e_nIc (show i < 2147483648 by omega), e_nIc (show j < 2147483648 by omega), g1 i (show i ≤ i by omega), g1 j (show j ≤ i by omega), s1', Option.bind_some]
          rw [e_nIc (show j < 2147483648 by omega)] at put hlt
          by_cases eq : tB M1 j = tB M1 i
          · rw [if_pos (by rw [eq])]
            exact Or.inl (put ⟨by omega, Or.inl eq⟩)
          · rw [if_neg (fun z => eq ((v_nIe (by omega) (by omega)).mp z))]
            by_cases hb1 : b = true
            · rw [if_pos hb1]
              refine Or.inl ⟨_, rfl, ⟨j + 1, by omega, nI_1 j, g1, g2, bSet_iff g3 (fun l _ => ⟨fun z => ⟨z.1, by omega⟩, fun z => ⟨z.1, ?_⟩⟩), g4⟩, hlt⟩
              rcases Nat.lt_or_ge l j with w | w
              · exact w
              · exfalso
                have : l = j := by omega
                subst this
                rcases z.1.2 with y | y
                · exact eq y
                · exact y (s3.mp hb1)
            · rw [if_neg hb1]
              exact Or.inl (put ⟨by omega, Or.inr (fun z => hb1 (s3.mpr z))⟩)
      · show mm_U (mm_U N 41 i (nI (tB M1 i))) 42 i 0 41 k = _
        rw [mm_U_ne 41 (by decide), e_U]
        by_cases w : k = i
        · rw [if_pos ⟨rfl, w⟩, w]
        · rw [if_neg (fun z => w z.2)]
          exact (h1 k (by omega)).1
      · show mm_U (mm_U N 41 i (nI (tB M1 i))) 42 i 0 42 k = _
        rw [e_U, if_neg (by omega), mm_U_ne 42 (by decide)]
      · show bSet _ (mm_U (mm_U N 41 i (nI (tB M1 i))) 42 i 0 42 i)
        rw [e_U, if_pos ⟨rfl, rfl⟩]
        exact bSet_iff bSet_0 (fun l _ => ⟨fun z => z.elim, fun z => by omega⟩)
      · show mm_U (mm_U N 41 i (nI (tB M1 i))) 42 i 0 b = _
        rw [mm_U_ne b b2, mm_U_ne b b1]
        exact h2 b b1 b2
    obtain ⟨N', i1, i2, i3, i4, i5⟩ := inner
    rw [if_neg c0, if_neg (fun h => by have := (e_10 (by omega)).mp h; omega), hbyte, Option.bind_some, if_pos in10, if_pos in10, e_nIc (show i < 2147483648 by omega), i1, Option.bind_some]
    refine Or.inl ⟨_, rfl, ⟨i + 1, by omega, nI_1 i, fun k hk => ⟨i2 k (by omega), ?_⟩, i5⟩, ?_⟩
    · show bSet _ (N' 42 k)
      by_cases w : k = i
      · subst w
        exact i4
      · rw [i3 k (by omega)]
        exact (h1 k (by omega)).2
    · show 20 - Int32.toNatClampNeg (nI i + 1) < 20 - i
      rw [nI_1, e_nIc (by omega)]
      omega
theorem f_order2 {M1 M2 K2 : mm_M} (hv : rl_val M1 M2) (hi : rl_in M1) (ht : rl_tape M1 M2) (hK : rl_val M1 K2) (hK7 : K2 7 = M2 7) {n : Nat} (hn : n ≤ 10) (hnt : n ≤ tN M1) (hb : ∀ i, i < n → tB M1 i < 8) : ∃ N, X12_laysAhead (nI n) K2 = some N ∧ (∀ i, i < n → bSet (fP M1 i) (N 27 i)) ∧ ∀ b, b ≠ 27 → N b = K2 b := by
  unfold X12_laysAhead
  refine e_loopF (step := X12_laysAhead_l2 (nI n)) (I := fun (z : Int32 × mm_M) => ∃ i : Nat, i ≤ n ∧ z.1 = nI i ∧ (∀ k, k < i → bSet (fP M1 k) (z.2 27 k)) ∧ ∀ b, b ≠ 27 → z.2 b = K2 b) (Q := fun (N : mm_M) => (∀ i, i < n → bSet (fP M1 i) (N 27 i)) ∧ ∀ b, b ≠ 27 → N b = K2 b) (fun z => 20 - Int32.toNatClampNeg z.1) ?_ (0, K2) ⟨0, by omega, rfl, fun k hk => by omega, fun _ _ => rfl⟩ (by omega)
  rintro ⟨x, N⟩ ⟨i, hin, hx, h1, h2⟩
  dsimp only at hx h1 h2
  subst hx
  unfold X12_laysAhead_l2
  dsimp only
  by_cases e : i = n
  · subst e
    rw [if_pos (show nI i ≤ nI i from Int32.le_refl _)]
    exact Or.inr ⟨N, rfl, h1, h2⟩
  · have c0 : ¬ nI n ≤ nI i := by
      rw [e_le, e_nIt (by omega), e_nIt (by omega)]
      omega
    have in10 : mm_in (nI i) 10 = true := e_inb (by rw [e_nIt (by omega)]; omega) (by rw [e_nIt (by omega)]; omega)
    have inner : ∃ N', mm_loop (X12_laysAhead_l16 (nI n) (nI i)) mm_fuel (0, mm_U N 27 i 0) = some N' ∧ (∀ k, k < i → N' 27 k = N 27 k) ∧ bSet (fP M1 i) (N' 27 i) ∧ ∀ b, b ≠ 27 → N' b = K2 b := by
      refine e_loopF (step := X12_laysAhead_l16 (nI n) (nI i)) (I := fun (z : Int32 × mm_M) => ∃ j : Nat, j ≤ i ∧ z.1 = nI j ∧ (∀ k, k < i → z.2 27 k = N 27 k) ∧ bSet (fun l => fP M1 i l ∧ l < j) (z.2 27 i) ∧ ∀ b, b ≠ 27 → z.2 b = K2 b) (Q := fun (N' : mm_M) => (∀ k, k < i → N' 27 k = N 27 k) ∧ bSet (fP M1 i) (N' 27 i) ∧ ∀ b, b ≠ 27 → N' b = K2 b) (fun z => 20 - Int32.toNatClampNeg z.1) ?_ _ ⟨0, by omega, rfl, fun k hk => ?_, ?_, fun b b1 => ?_⟩ (by omega)
      · rintro ⟨y, K⟩ ⟨j, hji, hy, g2, g3, g4⟩
        dsimp only at hy g2 g3 g4
        subst hy
        unfold X12_laysAhead_l16
        dsimp only
        by_cases ej : j = i
        · subst ej
          rw [if_pos (show nI j ≤ nI j from Int32.le_refl _)]
          exact Or.inr ⟨K, rfl, g2, bSet_iff g3 (fun l _ => ⟨fun z => z.1, fun z => ⟨z, z.1⟩⟩), g4⟩
        · have c1 : ¬ nI i ≤ nI j := by
            rw [e_le, e_nIt (by omega), e_nIt (by omega)]
            omega
          have hbi := hb i (by omega)
          have hbj := hb j (by omega)
          have o1 : X12_octet (nI j) K = some (nI (tB M1 j)) := t_octet ht (by rw [g4 7 (by decide), hK7]) (by omega)
          have o2 : X12_octet (nI i) K = some (nI (tB M1 i)) := t_octet ht (by rw [g4 7 (by decide), hK7]) (by omega)
          have hvK : rl_val M1 K := by
            unfold rl_val
            rw [g4 0 (by decide), g4 5 (by decide), g4 6 (by decide)]
            exact hK
          obtain ⟨b, s1, s2, s3⟩ := v_swap hvK hi hbj hbi
          have hlt : 20 - Int32.toNatClampNeg (nI j + 1) < 20 - Int32.toNatClampNeg (nI j) := by
            rw [nI_1, e_nIc (by omega), e_nIc (by omega)]
            omega
          have put : fP M1 i j → ∃ s', X12_laysAhead_j51l16 (nI n) (nI i) (nI j) K = some (.inl s') ∧ (∃ j : Nat, j ≤ i ∧ s'.1 = nI j ∧ (∀ k, k < i → s'.2 27 k = N 27 k) ∧ bSet (fun l => fP M1 i l ∧ l < j) (s'.2 27 i) ∧ ∀ b, b ≠ 27 → s'.2 b = K2 b) ∧ 20 - Int32.toNatClampNeg s'.1 < 20 - Int32.toNatClampNeg (nI j) := by
            intro hp
            unfold X12_laysAhead_j51l16
            rw [if_pos in10, if_pos in10, e_nIc (show i < 2147483648 by omega)]
            refine ⟨_, rfl, ⟨j + 1, by omega, nI_1 j, fun k hk => ?_, ?_, fun b b1 => ?_⟩, hlt⟩
            · show mm_U K 27 i _ 27 k = _
              rw [e_U, if_neg (by omega)]
              exact g2 k hk
            · show bSet _ (mm_U K 27 i _ 27 i)
              rw [e_U, if_pos ⟨rfl, rfl⟩]
              refine bSet_iff (bSet_set g3 (show j < 32 by omega)) (fun l _ => ⟨fun z => ?_, fun z => ?_⟩)
              · rcases z with z | z
                · exact ⟨z.1, by omega⟩
                · rw [z]
                  exact ⟨hp, by omega⟩
              · by_cases w : l = j
                · exact Or.inr w
                · exact Or.inl ⟨z.1, by omega⟩
            · show mm_U K 27 i _ b = _
              rw [mm_U_ne b b1]
              exact g4 b b1
          rw [if_neg c1, o1, Option.bind_some, o2, Option.bind_some]
          by_cases eq : tB M1 j = tB M1 i
          · rw [if_pos (by rw [eq])]
            exact Or.inl (put ⟨by omega, Or.inl eq⟩)
          · rw [if_neg (fun z => eq ((v_nIe (by omega) (by omega)).mp z)), Option.bind_some, Option.bind_some, s2, Option.bind_some]
            by_cases hb1 : b = true
            · rw [if_pos hb1]
              refine Or.inl ⟨_, rfl, ⟨j + 1, by omega, nI_1 j, g2, bSet_iff g3 (fun l _ => ⟨fun z => ⟨z.1, by omega⟩, fun z => ⟨z.1, ?_⟩⟩), g4⟩, hlt⟩
              rcases Nat.lt_or_ge l j with w | w
              · exact w
              · exfalso
                have : l = j := by omega
                subst this
                rcases z.1.2 with y | y
                · exact eq y
                · exact y (s3.mp hb1)
            · rw [if_neg hb1]
              exact Or.inl (put ⟨by omega, Or.inr (fun z => hb1 (s3.mpr z))⟩)
      · show mm_U N 27 i 0 27 k = _
        rw [e_U, if_neg (by omega)]
      · show bSet _ (mm_U N 27 i 0 27 i)
        rw [e_U, if_pos ⟨rfl, rfl⟩]
        exact bSet_iff bSet_0 (fun l _ => ⟨fun z => z.elim, fun z => by omega⟩)
      · show mm_U N 27 i 0 b = _
        rw [mm_U_ne b b1]
        exact h2 b b1
    obtain ⟨N', i1, i3, i4, i5⟩ := inner
    rw [if_neg c0, if_pos in10, e_nIc (show i < 2147483648 by omega), i1, Option.bind_some]
    refine Or.inl ⟨_, rfl, ⟨i + 1, by omega, nI_1 i, fun k hk => ?_, i5⟩, ?_⟩
    · show bSet _ (N' 27 k)
      by_cases w : k = i
      · subst w
        exact i4
      · rw [i3 k (by omega)]
        exact h1 k (by omega)
    · show 20 - Int32.toNatClampNeg (nI i + 1) < 20 - i
      rw [nI_1, e_nIc (by omega)]
      omega
