/-- the reference's rounds -/
theorem w_ref {M1 M2 : mm_M} (hv : rl_val M1 M2) {p : Nat → Nat} {x2 : Int32} (hp : ∀ q, q < 8 → (if x2 = 0 then (1 : Int32) else M2 4 q) = nI (p q) ∧ p q ≤ 99) {t : Nat} (ht : t < 10) : ∃ N d, X12_laysFar (nI t) x2 M2 = some N ∧ wM M2 N 29 d ∧ wGr (vB M1) p (vN M1) t 1000000 d := by
  have hn := v_n hv
  have hB : ∀ q s, q < 8 → s < 10 → vB M1 q s < 10 := fun q s hq hs => (v_B hv hq hs).2
  obtain ⟨y, a1, a2', a3, a4⟩ := e_fillG (step := X12_laysFar_l2 (nI t) x2) 29 10 (by omega) (fun i => nI (w0 t 1000000 i)) (by
    intro i hi N
    unfold X12_laysFar_l2
    dsimp only
    have in10 : mm_in (nI i) 10 = true := e_inb (by rw [e_nIt (by omega)]; omega) (by rw [e_nIt (by omega)]; omega)
    rw [if_neg (fun h => by have := (e_10 (by omega)).mp h; omega), if_pos in10, if_pos in10, e_nIc (show i < 2147483648 by omega)]
    unfold w0
    by_cases e : i = t
    · rw [if_pos (by rw [e]), if_pos e]
      rfl
    · rw [if_neg (fun h => e ((v_nIe (by omega) (by omega)).mp h)), if_neg e]
      rfl) (by
    intro N
    unfold X12_laysFar_l2
    dsimp only
    rw [if_pos ((e_10 (by omega)).mpr (by omega))]) M2
  have hb : ∀ (N : mm_M) c, wM M2 N 29 c → ∀ q s : Nat, q < 8 → s < 10 → X12_behind (nI q) (nI s) N = some (nI (vB M1 q s)) := by
    intro N c h q s hq hs
    rw [← v_beh2 hv hq hs]
    unfold X12_behind
    rw [h.2 6 (by decide)]
  have inner : ∀ s b N c, s < 10 → wM M2 N 29 c → (∀ i, i < 10 → c i ≤ 1000000) → ∃ b' N', mm_loop (X12_laysFar_l55 x2 (nI s)) mm_fuel (b, 0, N) = some (b', N') ∧ wM M2 N' 29 (wQ (vB M1) p c s 8) ∧ (b' = true ↔ b = true ∨ ¬ wQ (vB M1) p c s 8 = c) := by
    intro s b N c hs hN hF
    refine w_inner (F := 1000000) ?_ ?_ hN hF b
    · intro q b N c hq hN hF
      unfold X12_laysFar_l55 X12_laysFar_j90l55
      dsimp only
      have c8 : ¬ (8 : Int32) ≤ nI q := fun h => by have := (e_8 (by omega)).mp h; omega
      have in8 : mm_in (nI q) 8 = true := e_inb (by rw [e_nIt (by omega)]; omega) (by rw [e_nIt (by omega)]; omega)
      have in10 : mm_in (nI s) 10 = true := e_inb (by rw [e_nIt (by omega)]; omega) (by rw [e_nIt (by omega)]; omega)
      have hBs := hB q s hq hs
      have inB : mm_in (nI (vB M1 q s)) 10 = true := e_inb (by rw [e_nIt (by omega)]; omega) (by rw [e_nIt (by omega)]; omega)
      have l1 := hF _ hBs
      have l2 := hF _ hs
      have l3 := (hp q hq).2
      have hpq := (hp q hq).1
      simp only [if_neg c8, hb N c hN q s hq hs, Option.bind_some, if_pos inB, if_pos in8, if_pos in10, e_nIc (show q < 2147483648 by omega), e_nIc (show s < 2147483648 by omega), e_nIc (show vB M1 q s < 2147483648 by omega), hN.1 s hs, hN.1 _ hBs, hN.2 4 (by decide)]
      have fin : (if nI (c (vB M1 q s) + p q) < nI (c s) then some (Sum.inl (true, nI q + 1, mm_U N 29 s (nI (c (vB M1 q s) + p q)))) else some (Sum.inl (b, nI q + 1, N)) : Option ((Bool × Int32 × mm_M) ⊕ (Bool × mm_M))) = if c (vB M1 q s) + p q < c s then some (.inl (true, nI q + 1, mm_U N 29 s (nI (c (vB M1 q s) + p q)))) else some (.inl (b, nI q + 1, N)) := by
        by_cases e : c (vB M1 q s) + p q < c s
        · rw [if_pos e, if_pos ((w_ltI (by omega) (by omega)).1.mpr e)]
        · rw [if_neg e, if_neg (fun h => e ((w_ltI (by omega) (by omega)).1.mp h))]
      by_cases e0 : x2 = 0
      · rw [if_pos e0] at hpq
        have e1 : nI (c (vB M1 q s)) + 1 = nI (c (vB M1 q s) + p q) := by rw [← nI_add, ← hpq]
        simp only [if_pos e0, e1]
        exact fin
      · rw [if_neg e0] at hpq
        simp only [if_neg e0, hpq, nI_add]
        exact fin
    · intro b N
      unfold X12_laysFar_l55
      dsimp only
      rw [if_pos ((e_8 (by omega)).mpr (by omega))]
  have round : ∀ N c, wM M2 N 29 c → (∀ i, i < 10 → c i ≤ 1000000) → ∃ b' N', mm_loop (X12_laysFar_l43 x2) mm_fuel (false, 0, N) = some (b', N') ∧ wM M2 N' 29 (wS (vB M1) p c (vN M1)) ∧ (b' = true ↔ ¬ wS (vB M1) p c (vN M1) = c) := by
    intro N c hN hF
    refine w_round hn.2.1 (F := 1000000) ?_ ?_ hN hF
    · intro s b N c hs hN hF
      obtain ⟨b', N', h1, h2, h3⟩ := inner s b N c (by omega) hN hF
      refine ⟨b', N', ?_, h2, h3⟩
      unfold X12_laysFar_l43
      dsimp only
      rw [if_neg (by rw [hN.2 0 (by decide)]; exact fun h => by have := (v_head hv (by omega : s ≤ 10)).2.mp h; omega), h1, Option.bind_some]
    · intro b N c hN
      unfold X12_laysFar_l43
      dsimp only
      rw [if_pos (by rw [hN.2 0 (by decide)]; exact (v_head hv (by omega : vN M1 ≤ 10)).2.mpr (Nat.le_refl _))]
  have main := e_loopF (step := X12_laysFar_l34 x2) (I := fun (z : Bool × mm_M) => ∃ (c : Nat → Nat), wM M2 z.2 29 c ∧ wUp (vB M1) p (vN M1) t 1000000 c ∧ (z.1 = false → wFix (vB M1) p (vN M1) c)) (Q := fun (r : mm_M) => ∃ c, wM M2 r 29 c ∧ wGr (vB M1) p (vN M1) t 1000000 c) (fun z => 2 * wSum (fun i => Int32.toNatClampNeg (z.2 29 i)) 10 + (if z.1 = true then 1 else 0)) ?_ (true, y) ⟨w0 t 1000000, ⟨a2', a4⟩, w0_Up, by simp⟩ ?_
  · obtain ⟨N, m1, c, m2, m3⟩ := main
    refine ⟨N, c, ?_, m2, m3⟩
    unfold X12_laysFar
    rw [a1, Option.bind_some]
    exact m1
  · rintro ⟨b, N⟩ ⟨c, g1, g2, g4⟩
    dsimp only at g1 g4
    unfold X12_laysFar_l34
    dsimp only
    have hsum : ∀ (N : mm_M) c, wM M2 N 29 c → (∀ i, i < 10 → c i ≤ 1000000) → wSum (fun i => Int32.toNatClampNeg (N 29 i)) 10 = wSum c 10 := by
      intro N c h hF
      have e : ∀ k, k ≤ 10 → wSum (fun i => Int32.toNatClampNeg (N 29 i)) k = wSum c k := by
        intro k
        induction k with
        | zero => intro _; rfl
        | succ k ih =>
          intro hk
          show wSum (fun i => Int32.toNatClampNeg (N 29 i)) k + Int32.toNatClampNeg (N 29 k) = wSum c k + c k
          have := hF k (by omega)
          rw [ih (by omega), h.1 k (by omega), e_nIc (by omega)]
      exact e 10 (Nat.le_refl _)
    cases b
    · simp only [Bool.false_eq_true, if_false]
      exact Or.inr ⟨_, rfl, c, g1, wUp_Gr g2 (g4 rfl)⟩
    · obtain ⟨b', N', r1, r2, r3⟩ := round N c g1 g2.2.1
      have hUp := wUp_S hn.2.1 hB g2
      simp only [if_true, r1, Option.bind_some]
      refine Or.inl ⟨_, rfl, ⟨_, r2, hUp, fun h => ?_⟩, ?_⟩
      · dsimp only at h
        rw [h] at r3
        have : wS (vB M1) p c (vN M1) = c := by
          rcases Classical.em (wS (vB M1) p c (vN M1) = c) with z | z
          · exact z
          · exact absurd (r3.mpr z) (by decide)
        rw [this]
        exact wS_Fix this
      · rw [hsum N' _ r2 hUp.2.1, hsum N c g1 g2.2.1]
        cases b'
        · have hle := wSum_le (c := wS (vB M1) p c (vN M1)) (d := c) 10 (fun i _ => wS_le i (vN M1) 0 (by omega))
          simp only [Bool.false_eq_true, if_false]
          omega
        · have hne := r3.mp rfl
          have := wS_lt (B := vB M1) (p := p) (c := c) hn.2.1 (fun h => hne (wFix_S h))
          simp only [if_true]
          omega
  · have hle : ∀ k, k ≤ 10 → wSum (fun i => Int32.toNatClampNeg (y 29 i)) k ≤ 1000000 * k := by
      intro k
      induction k with
      | zero => intro _; exact Nat.le_refl _
      | succ k ih =>
        intro hk
        have h1 := ih (by omega)
        show wSum (fun i => Int32.toNatClampNeg (y 29 i)) k + Int32.toNatClampNeg (y 29 k) ≤ _
        have h2 : w0 t 1000000 k ≤ 1000000 := by
          unfold w0
          split <;> omega
        rw [a2' k (by omega), e_nIc (by omega)]
        omega
    have := hle 10 (Nat.le_refl _)
    simp only [if_true]
    omega
/-- both sides' rounds together -/
theorem w_both {M1 M2 : mm_M} (hv : rl_val M1 M2) {p : Nat → Nat} {a2 : Nat} {x2 : Int32} (ha : a2 ≠ 33) (hp1 : ∀ q, q < 8 → M1 a2 q = nI (p q) ∧ p q ≤ 99) (hp : ∀ q, q < 8 → (if x2 = 0 then (1 : Int32) else M2 4 q) = nI (p q)) {t : Nat} (ht : t < 10) : ∃ N1 N2 d1 d2, X10_fillCosts a2 (nI t) M1 = some N1 ∧ X12_laysFar (nI t) x2 M2 = some N2 ∧ wM M1 N1 33 d1 ∧ wM M2 N2 29 d2 ∧ wR d1 d2 ∧ wGr (vB M1) p (vN M1) t 99999 d1 ∧ wGr (vB M1) p (vN M1) t 1000000 d2 := by
  have hn := v_n hv
  have hB : ∀ q s, q < 8 → s < 10 → vB M1 q s < 10 := fun q s hq hs => (v_B hv hq hs).2
  obtain ⟨N1, d1, h1, h2, h3⟩ := w_class hv ha hp1 ht
  obtain ⟨N2, d2, k1, k2, k3⟩ := w_ref hv (p := p) (x2 := x2) (fun q hq => ⟨hp q hq, (hp1 q hq).2⟩) ht
  obtain ⟨e1, e2, m1, m2, m3⟩ := w_dist (B := vB M1) (p := p) (n := vN M1) hn.2.1 ht hB (fun q hq => (hp1 q hq).2)
  refine ⟨N1, N2, d1, d2, h1, k1, h2, k2, ?_, h3, k3⟩
  have q1 : ∀ i, i < 10 → e1 i = d1 i := fun i hi => wGr_eq m1 h3 hi
  have q2 : ∀ i, i < 10 → e2 i = d2 i := fun i hi => wGr_eq m2 k3 hi
  have q3 : nC (fun j => decide (d1 j < 99999)) 10 = nC (fun j => decide (e1 j < 99999)) 10 := by
    apply Nat.le_antisymm
    · refine nC_mono 10 (fun i hi h => ?_)
      rw [q1 i hi]
      exact h
    · refine nC_mono 10 (fun i hi h => ?_)
      rw [← q1 i hi]
      exact h
  intro i hi
  rw [q3, ← q1 i hi, ← q2 i hi]
  exact m3 i hi
theorem w_keep {M1 M2 N1 N2 : mm_M} {d1 d2 : Nat → Nat} (h : rl_core M1 M2) (h1 : wM M1 N1 33 d1) (h2 : wM M2 N2 29 d2) : rl_core N1 N2 ∧ rl_lf M1 N1 M2 N2 := by
  have g1 := h1.2
  have g2 := h2.2
  refine ⟨rl_core_congr h ⟨by rw [g1 0 (by decide)], by rw [g1 1 (by decide)], g1 2 (by decide), g1 3 (by decide), g1 4 (by decide), g1 5 (by decide), by rw [g1 7 (by decide)], g1 8 (by decide), g1 9 (by decide)⟩ ⟨by rw [g2 0 (by decide)], by rw [g2 0 (by decide)], by rw [g2 0 (by decide)], g2 1 (by decide), g2 3 (by decide), g2 4 (by decide), g2 5 (by decide), g2 6 (by decide), g2 7 (by decide)⟩, ⟨by rw [g1 13 (by decide)], by rw [g1 13 (by decide)], g1 14 (by decide), g1 15 (by decide), g1 16 (by decide), g1 17 (by decide), by rw [g1 18 (by decide), g1 32 (by decide)]⟩, ⟨by rw [g2 0 (by decide)], g2 14 (by decide), g2 15 (by decide), g2 16 (by decide), g2 17 (by decide), g2 18 (by decide)⟩⟩
def rl_okP (P : mm_M → mm_M → Prop) (c m : mm_M → Option (Int32 × mm_M)) : Prop := ∀ M1 M2, rl_core M1 M2 → P M1 M2 → ∃ r M1' M2', c M1 = some (r, M1') ∧ m M2 = some (r, M2') ∧ rl_core M1' M2' ∧ rl_lf M1 M1' M2 M2'
def rl_ones (M1 _M2 : mm_M) : Prop := ∀ k, k < 8 → M1 32 k = 1
theorem op_15 (x y : Int32) : rl_ok (cl_15 x y) (md_15 x y) := by
  intro M1 M2 h
  have hv := h.2.2.2.1
  unfold cl_15 md_15 X11_cheapest X12_cheapest
  rw [← rl_has hv x, ← rl_has hv y]
  by_cases c1 : X8_has 7 x M1 = true
  · by_cases c2 : X8_has 7 y M1 = true
    · obtain ⟨s, hs, hs10, rfl⟩ := v_s hv c1
      obtain ⟨t, ht, ht10, rfl⟩ := v_s hv c2
      have hpr := h.2.2.1
      obtain ⟨N1, N2, d1, d2, e1, e2, g1, g2, g3, g4, g5⟩ := w_both hv (p := fun q => Int32.toNatClampNeg (M1 3 q)) (a2 := 3) (x2 := 1) (by decide) (fun q hq => by
        have := (hpr q hq).2
        have h2 := this.2
        exact ⟨e_nI this.1, by have := e_cl this.1; omega⟩) (fun q hq => by
        rw [if_neg (by decide), ← (hpr q hq).1]
        exact e_nI (hpr q hq).2.1) ht10
      obtain ⟨hc, hl⟩ := w_keep h g1 g2
      have in10 : mm_in (nI s) 10 = true := e_inb (by rw [e_nIt (by omega)]; omega) (by rw [e_nIt (by omega)]; omega)
      unfold X10_cost
      simp only [if_pos c1, if_pos c2, e1, e2, Option.bind_some, w_costFrom g1 hs10, if_pos in10, e_nIc (show s < 2147483648 by omega), g2.1 s hs10]
      rcases wR_small g3 hs10 with ⟨q1, q2, q3⟩ | ⟨q1, q2⟩
      · have a1 : ¬ nI (d1 s) = 99999 := by
          show ¬ nI (d1 s) = nI 99999
          rw [nI_eq (by omega) (by omega)]
          omega
        have a2 : nI (d2 s) < 1000000 := (w_ltI (y := 1000000) (by omega) (by omega)).1.mpr (by omega)
        rw [if_neg a1, if_pos a2, q2]
        exact ⟨_, N1, N2, rfl, rfl, hc, hl⟩
      · have a1 : nI (d1 s) = 99999 := by rw [q1]; rfl
        have a2 : ¬ nI (d2 s) < 1000000 := fun z => by have := (w_ltI (y := 1000000) (by omega) (by omega)).1.mp z; omega
        rw [if_pos a1, if_neg a2]
        exact ⟨_, N1, N2, rfl, rfl, hc, hl⟩
    · simp only [if_pos c1, if_neg c2]
      exact ⟨-1, M1, M2, rfl, rfl, h, rl_lf_rfl⟩
  · simp only [if_neg c1]
    exact ⟨-1, M1, M2, rfl, rfl, h, rl_lf_rfl⟩
theorem op_14 (x y : Int32) : rl_okP rl_ones (cl_14 x y) (md_14 x y) := by
  intro M1 M2 h h1
  have hv := h.2.2.2.1
  unfold cl_14 md_14 X11_back X12_back
  rw [← rl_isq x, ← rl_has hv y]
  by_cases c1 : X11_isQuestion x = true
  · by_cases c2 : X8_has 7 y M1 = true
    · obtain ⟨q, hq, rfl⟩ := v_q c1
      obtain ⟨t, ht, ht10, rfl⟩ := v_s hv c2
      obtain ⟨N1, N2, d1, d2, e1, e2, g1, g2, g3, g4, g5⟩ := w_both hv (p := fun q => 1) (a2 := 32) (x2 := 0) (by decide) (fun q hq => ⟨h1 q hq, by omega⟩) (fun q hq => rfl) ht10
      obtain ⟨hc, hl⟩ := w_keep h g1 g2
      have hB := v_B hv hq ht10
      have inB : mm_in (nI (vB M1 q t)) 10 = true := e_inb (by rw [e_nIt (by omega)]; omega) (by rw [e_nIt (by omega)]; omega)
      have hb2 : X12_behind (nI q) (nI t) N2 = some (nI (vB M1 q t)) := by
        rw [← v_beh2 hv hq ht10]
        unfold X12_behind
        rw [g2.2 6 (by decide)]
      unfold X10_steps X10_cost
      simp only [if_pos c1, if_pos c2, e1, e2, Option.bind_some, v_beh hv hq ht10, w_costFrom g1 hB.2, hb2, if_pos inB, e_nIc (show vB M1 q t < 2147483648 by omega), g2.1 _ hB.2]
      rcases wR_small g3 hB.2 with ⟨q1, q2, q3⟩ | ⟨q1, q2⟩
      · have a1 : ¬ nI (d1 (vB M1 q t)) = 99999 := by
          show ¬ nI _ = nI 99999
          rw [nI_eq (by omega) (by omega)]
          omega
        have a2 : nI (d2 (vB M1 q t)) < 1000000 := (w_ltI (y := 1000000) (by omega) (by omega)).1.mpr (by omega)
        rw [if_neg a1, if_pos a2, q2]
        exact ⟨_, N1, N2, rfl, rfl, hc, hl⟩
      · have a1 : nI (d1 (vB M1 q t)) = 99999 := by rw [q1]; rfl
        have a2 : ¬ nI (d2 (vB M1 q t)) < 1000000 := fun z => by have := (w_ltI (y := 1000000) (by omega) (by omega)).1.mp z; omega
        rw [if_pos a1, if_neg a2]
        exact ⟨_, N1, N2, rfl, rfl, hc, hl⟩
    · simp only [if_pos c1, if_neg c2]
      exact ⟨-1, M1, M2, rfl, rfl, h, rl_lf_rfl⟩
  · simp only [if_neg c1]
    exact ⟨-1, M1, M2, rfl, rfl, h, rl_lf_rfl⟩
theorem e_least {P : Nat → Prop} : ∀ q, P q → ∃ j, j ≤ q ∧ P j ∧ ∀ k, k < j → ¬ P k := by
  intro q
  induction q using Nat.strongRecOn with
  | ind q ih =>
    intro h
    rcases Classical.em (∃ k, k < q ∧ P k) with c | c
    · obtain ⟨k, hk, hp⟩ := c
      obtain ⟨j, hj, h1, h2⟩ := ih k hk hp
      exact ⟨j, by omega, h1, h2⟩
    · exact ⟨q, Nat.le_refl _, h, fun k hk hp => c ⟨k, hk, hp⟩⟩
theorem op_13 (x y z : Int32) : rl_okP rl_ones (cl_13 x y z) (md_13 x y z) := by
  intro M1 M2 h h1
  have hv := h.2.2.2.1
  unfold cl_13 md_13 X11_leads X12_leads
  rw [← rl_has hv x, ← rl_has hv y, ← rl_01 z]
  by_cases c1 : X8_has 7 x M1 = true
  · by_cases c2 : X8_has 7 y M1 = true
    · by_cases c3 : X11_isZeroOrOne z = true
      · obtain ⟨s, hs, hs10, rfl⟩ := v_s hv c1
        obtain ⟨t, ht, ht10, rfl⟩ := v_s hv c2
        obtain ⟨N1, N2, d1, d2, e1, e2, g1, g2, g3, g4, g5⟩ := w_both hv (p := fun q => 1) (a2 := 32) (x2 := 0) (by decide) (fun q hq => ⟨h1 q hq, by omega⟩) (fun q hq => rfl) ht10
        obtain ⟨hc, hl⟩ := w_keep h g1 g2
        have in10 : mm_in (nI s) 10 = true := e_inb (by rw [e_nIt (by omega)]; omega) (by rw [e_nIt (by omega)]; omega)
        unfold X10_steps X10_cost
        simp only [if_pos c1, if_pos c2, if_pos c3, e1, e2, Option.bind_some, w_costFrom g1 hs10, if_pos in10, e_nIc (show s < 2147483648 by omega), g2.1 s hs10]
        rcases wR_small g3 hs10 with ⟨q1, q2, q3⟩ | ⟨q1, q2⟩
        · have a1 : ¬ nI (d1 s) = 99999 := by
            show ¬ nI (d1 s) = nI 99999
            rw [nI_eq (by omega) (by omega)]
            omega
          have a2 : nI (d2 s) < 1000000 := (w_ltI (y := 1000000) (by omega) (by omega)).1.mpr (by omega)
          have a3 : ¬ nI (d1 s) < 0 := nI_pos (by omega)
          simp only [if_neg a1, if_pos a2, Option.bind_some, if_neg a3]
          by_cases cz : z = 0
          · simp only [if_pos cz, q2]
            exact ⟨_, N1, N2, rfl, rfl, hc, hl⟩
          · simp only [if_neg cz]
            by_cases ce : s = t
            · subst ce
              have a4 : nI (d1 s) = 0 := by rw [g4.1.1]; rfl
              simp only [if_pos a4, if_true]
              exact ⟨_, N1, N2, rfl, rfl, hc, hl⟩
            · have hd0 : 0 < d1 s := by
                rcases Nat.eq_zero_or_pos (d1 s) with z0 | z0
                · exfalso
                  -- a state that isn't t is one away at least
                  have sol : wSol (vB M1) (fun _ => 1) (vN M1) t 99999 (wU d1 s 1) := by
                    refine ⟨?_, fun i hi => ?_, fun s' q hs' hq => ?_⟩
                    · unfold wU
                      rw [if_neg (fun e => ce e.symm)]
                      exact g4.1.1
                    · unfold wU
                      have := g4.1.2.1 i hi
                      split <;> omega
                    · have := g4.1.2.2 s' q hs' hq
                      unfold wU
                      dsimp only at this ⊢
                      split
                      · omega
                      · split
                        · rename_i e3
                          rw [e3, z0] at this
                          omega
                        · exact this
                  have h5 := g4.2.2.2 _ sol s hs10
                  unfold wU at h5
                  rw [if_pos rfl] at h5
                  omega
                · exact z0
              have a4 : ¬ nI (d1 s) = 0 := by
                show ¬ nI _ = nI 0
                rw [nI_eq (by omega) (by omega)]
                omega
              have a5 : ¬ nI s = nI t := by
                rw [v_nIe (by omega) (by omega)]
                exact ce
              simp only [if_neg a4, if_neg a5]
              have hn10 : vN M1 ≤ 10 := (v_n hv).2.1
              obtain ⟨q0, hq0, hq1⟩ := w_att hn10 g4 hs hd0 (by omega)
              obtain ⟨q1', hq1', hq2, hq3⟩ := e_least (P := fun q => d1 (vB M1 q s) + 1 = d1 s) q0 hq1.symm
              have hq18 : q1' < 8 := by omega
              have k1 : X10_firstStep (nI s) N1 = some (nI q1') := by
                unfold X10_firstStep
                have step : ∀ q, q < 8 → X10_firstStep_l2 (nI s) N1 (nI q) = if d1 (vB M1 q s) + 1 = d1 s then some (.inr (nI q)) else some (.inl (nI q + 1)) := by
                  intro q hq
                  have hB := v_B hv hq hs10
                  have hb1 : X8_behind (nI q) (nI s) N1 = nI (vB M1 q s) := by
                    rw [v_behI hq hs10, g1.2 9 (by decide)]
                    exact hB.1
                  have hR := wR_small g3 hB.2
                  unfold X10_firstStep_l2
                  rw [if_neg (fun h => by have := (e_8 (by omega)).mp h; omega), hb1, w_costFrom g1 hB.2, w_costFrom g1 hs10, nI_1 (d1 (vB M1 q s))]
                  by_cases e : d1 (vB M1 q s) + 1 = d1 s
                  · rw [if_pos e, if_pos (by rw [e])]
                  · rw [if_neg e, if_neg (fun h => e ((nI_eq (by omega) (by omega)).mp h))]
                refine e_trace0 (fun k => nI k) q1' (by omega) _ ?_ ?_
                · intro k hk
                  rw [step k (by omega), if_neg (hq3 k hk), nI_1]
                · rw [step q1' hq18, if_pos hq2]
              have k2 : mm_loop (X12_leads_l70 (nI s) N2) mm_fuel 0 = some (nI q1', N2) := by
                have step : ∀ q, q < 8 → X12_leads_l70 (nI s) N2 (nI q) = if d1 (vB M1 q s) + 1 = d1 s then some (.inr (nI q, N2)) else some (.inl (nI q + 1)) := by
                  intro q hq
                  have hB := v_B hv hq hs10
                  have hb2 : X12_behind (nI q) (nI s) N2 = some (nI (vB M1 q s)) := by
                    rw [← v_beh2 hv hq hs10]
                    unfold X12_behind
                    rw [g2.2 6 (by decide)]
                  have inB : mm_in (nI (vB M1 q s)) 10 = true := e_inb (by rw [e_nIt (by omega)]; omega) (by rw [e_nIt (by omega)]; omega)
                  have hR := wR_small g3 hB.2
                  have e1 : nI (d2 s) - 1 = nI (d2 s - 1) := by
                    have k1 : (1 : Int32).toInt = 1 := rfl
                    rw [e_eq, e_sub (by rw [e_nIt (by omega), k1]; omega) (by rw [e_nIt (by omega), k1]; omega), e_nIt (by omega), e_nIt (by omega), k1]
                    omega
                  unfold X12_leads_l70
                  rw [hb2, Option.bind_some, if_pos inB, if_pos in10, e_nIc (show vB M1 q s < 2147483648 by omega), e_nIc (show s < 2147483648 by omega), g2.1 _ hB.2, g2.1 s hs10, e1]
                  by_cases e : d1 (vB M1 q s) + 1 = d1 s
                  · rw [if_pos e, if_pos (by rw [nI_eq (by omega) (by omega)]; omega)]
                  · rw [if_neg e, if_neg (fun h => by rw [nI_eq (by omega) (by omega)] at h; omega)]
                refine e_trace0 (fun k => nI k) q1' (by omega) _ ?_ ?_
                · intro k hk
                  rw [step k (by omega), if_neg (hq3 k hk), nI_1]
                · rw [step q1' hq18, if_pos hq2]
              simp only [k1, k2, Option.bind_some]
              exact ⟨_, N1, N2, rfl, rfl, hc, hl⟩
        · have a1 : nI (d1 s) = 99999 := by rw [q1]; rfl
          have a2 : ¬ nI (d2 s) < 1000000 := fun z => by have := (w_ltI (y := 1000000) (by omega) (by omega)).1.mp z; omega
          have a3 : (-2 : Int32) < 0 := by decide
          simp only [if_pos a1, if_neg a2, Option.bind_some, if_pos a3]
          exact ⟨_, N1, N2, rfl, rfl, hc, hl⟩
      · simp only [if_pos c1, if_pos c2, if_neg c3]
        exact ⟨-1, M1, M2, rfl, rfl, h, rl_lf_rfl⟩
    · simp only [if_pos c1, if_neg c2]
      exact ⟨-1, M1, M2, rfl, rfl, h, rl_lf_rfl⟩
  · simp only [if_neg c1]
    exact ⟨-1, M1, M2, rfl, rfl, h, rl_lf_rfl⟩
