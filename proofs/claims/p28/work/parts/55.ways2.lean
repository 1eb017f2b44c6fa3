/-- a row a of the memory that holds c; all else is as in M0 -/
def wM (M0 N : mm_M) (a : Nat) (c : Nat → Nat) : Prop := (∀ i, i < 10 → N a i = nI (c i)) ∧ ∀ b, b ≠ a → N b = M0 b
theorem wM_U {M0 N : mm_M} {a s v : Nat} {c : Nat → Nat} (h : wM M0 N a c) : wM M0 (mm_U N a s (nI v)) a (wU c s v) := by
  refine ⟨fun i hi => ?_, fun b hb => ?_⟩
  · rw [e_U]
    unfold wU
    by_cases e : i = s
    · rw [if_pos ⟨rfl, e⟩, if_pos e]
    · rw [if_neg (fun h => e h.2), if_neg e]
      exact h.1 i hi
  · rw [mm_U_ne b hb]
    exact h.2 b hb
theorem w_inner {B : Nat → Nat → Nat} {p : Nat → Nat} {M0 : mm_M} {a F s : Nat} {step : Bool × Int32 × mm_M → Option ((Bool × Int32 × mm_M) ⊕ (Bool × mm_M))}
    (hs : ∀ q b N c, q < 8 → wM M0 N a c → (∀ i, i < 10 → c i ≤ F) → step (b, nI q, N) = if c (B q s) + p q < c s then some (.inl (true, nI q + 1, mm_U N a s (nI (c (B q s) + p q)))) else some (.inl (b, nI q + 1, N)))
    (he : ∀ b N, step (b, nI 8, N) = some (.inr (b, N))) {N : mm_M} {c : Nat → Nat} (hN : wM M0 N a c) (hF : ∀ i, i < 10 → c i ≤ F) (b : Bool) :
    ∃ b' N', mm_loop step mm_fuel (b, 0, N) = some (b', N') ∧ wM M0 N' a (wQ B p c s 8) ∧ (b' = true ↔ b = true ∨ ¬ wQ B p c s 8 = c) := by
  have := e_loopF (step := step) (I := fun (z : Bool × Int32 × mm_M) => ∃ q : Nat, q ≤ 8 ∧ z.2.1 = nI q ∧ wM M0 z.2.2 a (wQ B p c s q) ∧ (z.1 = true ↔ b = true ∨ ¬ wQ B p c s q = c)) (Q := fun (r : Bool × mm_M) => wM M0 r.2 a (wQ B p c s 8) ∧ (r.1 = true ↔ b = true ∨ ¬ wQ B p c s 8 = c)) (fun z => 20 - Int32.toNatClampNeg z.2.1) ?_ (b, 0, N) ⟨0, by omega, rfl, hN, by show b = true ↔ b = true ∨ ¬ c = c; simp⟩ (by omega)
  · obtain ⟨⟨b', N'⟩, h1, h2, h3⟩ := this
    exact ⟨b', N', h1, h2, h3⟩
  · rintro ⟨b1, x, N1⟩ ⟨q, hq, hx, h1, h2⟩
    dsimp only at hx h1 h2
    subst hx
    by_cases e : q = 8
    · subst e
      exact Or.inr ⟨_, he b1 N1, h1, h2⟩
    · have hq8 : q < 8 := by omega
      have hle : ∀ i, wQ B p c s q i ≤ c i := fun i => wQ_le i q 0 (by omega)
      have h3 := hs q b1 N1 _ hq8 h1 (fun i hi => Nat.le_trans (hle i) (hF i hi))
      left
      have hlt : 20 - Int32.toNatClampNeg (nI q + 1) < 20 - Int32.toNatClampNeg (nI q) := by
        rw [nI_1, e_nIc (by omega), e_nIc (by omega)]
        omega
      by_cases f : wQ B p c s q (B q s) + p q < wQ B p c s q s
      · rw [if_pos f] at h3
        refine ⟨_, h3, ⟨q + 1, by omega, nI_1 q, ?_, ?_⟩, hlt⟩
        · show wM M0 _ a (wRel B p (wQ B p c s q) s q)
          unfold wRel
          rw [if_pos f]
          exact wM_U h1
        · show true = true ↔ b = true ∨ ¬ wRel B p (wQ B p c s q) s q = c
          refine ⟨fun _ => Or.inr ?_, fun _ => rfl⟩
          unfold wRel
          rw [if_pos f]
          intro h4
          have h5 : wU (wQ B p c s q) s (wQ B p c s q (B q s) + p q) s = c s := by rw [h4]
          unfold wU at h5
          rw [if_pos rfl] at h5
          have := hle s
          omega
      · rw [if_neg f] at h3
        refine ⟨_, h3, ⟨q + 1, by omega, nI_1 q, ?_, ?_⟩, hlt⟩
        · show wM M0 _ a (wRel B p (wQ B p c s q) s q)
          unfold wRel
          rw [if_neg f]
          exact h1
        · show b1 = true ↔ b = true ∨ ¬ wRel B p (wQ B p c s q) s q = c
          unfold wRel
          rw [if_neg f]
          exact h2
theorem w_round {B : Nat → Nat → Nat} {p : Nat → Nat} {M0 : mm_M} {a F n : Nat} (hn : n ≤ 10) {step : Bool × Int32 × mm_M → Option ((Bool × Int32 × mm_M) ⊕ (Bool × mm_M))}
    (hs : ∀ s b N c, s < n → wM M0 N a c → (∀ i, i < 10 → c i ≤ F) → ∃ b' N', step (b, nI s, N) = some (.inl (b', nI s + 1, N')) ∧ wM M0 N' a (wQ B p c s 8) ∧ (b' = true ↔ b = true ∨ ¬ wQ B p c s 8 = c))
    (he : ∀ b N c, wM M0 N a c → step (b, nI n, N) = some (.inr (b, N))) {N : mm_M} {c : Nat → Nat} (hN : wM M0 N a c) (hF : ∀ i, i < 10 → c i ≤ F) :
    ∃ b' N', mm_loop step mm_fuel (false, 0, N) = some (b', N') ∧ wM M0 N' a (wS B p c n) ∧ (b' = true ↔ ¬ wS B p c n = c) := by
  have := e_loopF (step := step) (I := fun (z : Bool × Int32 × mm_M) => ∃ s : Nat, s ≤ n ∧ z.2.1 = nI s ∧ wM M0 z.2.2 a (wS B p c s) ∧ (z.1 = true ↔ ¬ wS B p c s = c)) (Q := fun (r : Bool × mm_M) => wM M0 r.2 a (wS B p c n) ∧ (r.1 = true ↔ ¬ wS B p c n = c)) (fun z => 20 - Int32.toNatClampNeg z.2.1) ?_ (false, 0, N) ⟨0, by omega, rfl, hN, by show false = true ↔ ¬ c = c; simp⟩ (by omega)
  · obtain ⟨⟨b', N'⟩, h1, h2, h3⟩ := this
    exact ⟨b', N', h1, h2, h3⟩
  · rintro ⟨b1, x, N1⟩ ⟨s, hsn, hx, h1, h2⟩
    dsimp only at hx h1 h2
    subst hx
    by_cases e : s = n
    · subst e
      exact Or.inr ⟨_, he b1 N1 _ h1, h1, h2⟩
    · have hle : ∀ i, wS B p c s i ≤ c i := fun i => wS_le i s 0 (by omega)
      obtain ⟨b', N', h3, h4, h5⟩ := hs s b1 N1 _ (by omega) h1 (fun i hi => Nat.le_trans (hle i) (hF i hi))
      refine Or.inl ⟨_, h3, ⟨s + 1, by omega, nI_1 s, h4, ?_⟩, ?_⟩
      · show b' = true ↔ ¬ wQ B p (wS B p c s) s 8 = c
        rw [h5, h2]
        constructor
        · rintro (h6 | h6) h7
          · apply h6
            funext i
            have a1 := hle i
            have a2 : wQ B p (wS B p c s) s 8 i ≤ wS B p c s i := wQ_le i 8 0 (by omega)
            rw [h7] at a2
            omega
          · apply h6
            rw [h7]
            funext i
            have a1 := hle i
            have a2 : wQ B p (wS B p c s) s 8 i ≤ wS B p c s i := wQ_le i 8 0 (by omega)
            rw [h7] at a2
            omega
        · intro h6
          by_cases h7 : wS B p c s = c
          · right
            rw [h7]
            rw [h7] at h6
            exact h6
          · exact Or.inl h7
      · show 20 - Int32.toNatClampNeg (nI s + 1) < 20 - Int32.toNatClampNeg (nI s)
        rw [nI_1, e_nIc (by omega), e_nIc (by omega)]
        omega
theorem w_ltI {x y : Nat} (hx : x < 2000000000) (hy : y < 2000000000) : (nI x < nI y ↔ x < y) ∧ (nI y ≤ nI x ↔ ¬ x < y) := by
  rw [e_lt, e_le, e_nIt (by omega), e_nIt (by omega)]
  omega
theorem w_costFrom {M0 N : mm_M} {c : Nat → Nat} (h : wM M0 N 33 c) {s : Nat} (hs : s < 10) : X10_costFrom (nI s) N = nI (c s) := by
  unfold X10_costFrom
  rw [if_neg (nI_pos (by omega)), if_neg (fun h => by have := (e_10 (by omega)).mp h; omega), e_nIc (by omega)]
  exact h.1 s hs
/-- the class's rounds -/
theorem w_class {M1 M2 : mm_M} (hv : rl_val M1 M2) {p : Nat → Nat} {a2 : Nat} (ha : a2 ≠ 33) (hp : ∀ q, q < 8 → M1 a2 q = nI (p q) ∧ p q ≤ 99) {t : Nat} (ht : t < 10) : ∃ N d, X10_fillCosts a2 (nI t) M1 = some N ∧ wM M1 N 33 d ∧ wGr (vB M1) p (vN M1) t 99999 d := by
  have hn := v_n hv
  have hB : ∀ q s, q < 8 → s < 10 → vB M1 q s < 10 := fun q s hq hs => (v_B hv hq hs).2
  obtain ⟨y, a1, a2', a3, a4⟩ := e_fill 33 10 rfl (by omega) 99999 M1
  obtain ⟨d, -, hd, -, -⟩ := w_dist (B := vB M1) (p := p) (n := vN M1) hn.2.1 ht hB (fun q hq => (hp q hq).2)
  have hb : ∀ (N : mm_M) c, wM M1 N 33 c → ∀ q s : Nat, q < 8 → s < 10 → X8_behind (nI q) (nI s) N = nI (vB M1 q s) := by
    intro N c h q s hq hs
    rw [v_behI hq hs, h.2 9 (by decide)]
    exact (v_B hv hq hs).1
  have inner : ∀ (x5 : Int32) s b N c, s < 10 → wM M1 N 33 c → (∀ i, i < 10 → c i ≤ 99999) → ∃ b' N', mm_loop (X10_fillCosts_l70 a2 x5 (nI s)) mm_fuel (b, 0, N) = some (b', N') ∧ wM M1 N' 33 (wQ (vB M1) p c s 8) ∧ (b' = true ↔ b = true ∨ ¬ wQ (vB M1) p c s 8 = c) := by
    intro x5 s b N c hs hN hF
    refine w_inner (F := 99999) ?_ ?_ hN hF b
    · intro q b N c hq hN hF
      unfold X10_fillCosts_l70
      dsimp only
      have c8 : ¬ (8 : Int32) ≤ nI q := fun h => by have := (e_8 (by omega)).mp h; omega
      have in8 : mm_in (nI q) 8 = true := e_inb (by rw [e_nIt (by omega)]; omega) (by rw [e_nIt (by omega)]; omega)
      have in10 : mm_in (nI s) 10 = true := e_inb (by rw [e_nIt (by omega)]; omega) (by rw [e_nIt (by omega)]; omega)
      have hBs := hB q s hq hs
      have l1 := hF _ hBs
      have l2 := hF _ hs
      have l3 := (hp q hq).2
      simp only [if_neg c8, if_pos in8, if_pos in10, e_nIc (show q < 2147483648 by omega), e_nIc (show s < 2147483648 by omega), hb N c hN q s hq hs, w_costFrom hN hBs, hN.1 s hs, hN.2 a2 ha, (hp q hq).1, nI_add]
      by_cases e : c (vB M1 q s) + p q < c s
      · rw [if_pos e, if_neg (fun h => ((w_ltI (by omega) (by omega)).2.mp h) e)]
      · rw [if_neg e, if_pos ((w_ltI (by omega) (by omega)).2.mpr e)]
    · intro b N
      unfold X10_fillCosts_l70
      dsimp only
      rw [if_pos ((e_8 (by omega)).mpr (by omega))]
  have round : ∀ (x5 : Int32) N c, wM M1 N 33 c → (∀ i, i < 10 → c i ≤ 99999) → ∃ b' N', mm_loop (X10_fillCosts_l51 a2 x5) mm_fuel (false, 0, N) = some (b', N') ∧ wM M1 N' 33 (wS (vB M1) p c (vN M1)) ∧ (b' = true ↔ ¬ wS (vB M1) p c (vN M1) = c) := by
    intro x5 N c hN hF
    refine w_round hn.2.1 (F := 99999) ?_ ?_ hN hF
    · intro s b N c hs hN hF
      obtain ⟨b', N', h1, h2, h3⟩ := inner x5 s b N c (by omega) hN hF
      refine ⟨b', N', ?_, h2, h3⟩
      unfold X10_fillCosts_l51
      dsimp only
      rw [if_neg (by rw [hN.2 7 (by decide)]; exact fun h => by have := (v_head hv (by omega : s ≤ 10)).1.mp h; omega), if_neg (fun h => by have := (e_10 (by omega)).mp h; omega), h1, Option.bind_some]
    · intro b N c hN
      unfold X10_fillCosts_l51
      dsimp only
      rw [if_pos (by rw [hN.2 7 (by decide)]; exact (v_head hv (by omega : vN M1 ≤ 10)).1.mpr (Nat.le_refl _))]
  have h0 : wM M1 (mm_U y 33 t 0) 33 (w0 t 99999) := by
    refine ⟨fun i hi => ?_, fun b hb => ?_⟩
    · rw [e_U]
      unfold w0
      by_cases e : i = t
      · rw [if_pos ⟨rfl, e⟩, if_pos e]
        rfl
      · rw [if_neg (fun h => e h.2), if_neg e, a2' i hi]
        rfl
    · rw [mm_U_ne b hb]
      exact a4 b hb
  have main := e_loopF (step := X10_fillCosts_l33 a2) (I := fun (z : Bool × Int32 × mm_M) => ∃ (r : Nat) (c : Nat → Nat), r ≤ 10 ∧ z.2.1 = nI r ∧ wM M1 z.2.2 33 c ∧ wUp (vB M1) p (vN M1) t 99999 c ∧ min 10 (r + 1) ≤ nC (fun i => decide (c i = d i)) 10 ∧ (z.1 = false → wFix (vB M1) p (vN M1) c)) (Q := fun (r : mm_M) => ∃ c, wM M1 r 33 c ∧ wGr (vB M1) p (vN M1) t 99999 c) (fun z => 20 - Int32.toNatClampNeg z.2.1) ?_ (true, 0, mm_U y 33 t 0) ⟨0, w0 t 99999, by omega, rfl, h0, w0_Up, ?_, by simp⟩ (by omega)
  · obtain ⟨N, m1, c, m2, m3⟩ := main
    refine ⟨N, c, ?_, m2, m3⟩
    unfold X10_fillCosts
    rw [a1, Option.bind_some, if_neg (nI_pos (by omega)), if_pos (show nI t < 10 from (w_ltI (y := 10) (by omega) (by omega)).1.mpr ht), e_nIc (by omega)]
    exact m1
  · rintro ⟨b, x, N⟩ ⟨r, c, hr, hx, g1, g2, g3, g4⟩
    dsimp only at hx g1 g4
    subst hx
    unfold X10_fillCosts_l33
    dsimp only
    by_cases e : r = 10
    · subst e
      rw [if_pos ((e_10 (by omega)).mpr (by omega))]
      refine Or.inr ⟨_, rfl, c, g1, wUp_Gr g2 ?_⟩
      have hle := nC_le (f := fun i => decide (c i = d i)) 10
      have hall := nC_full (f := fun i => decide (c i = d i)) 10 (by omega)
      intro s q hs hq
      have e1 : c s = d s := of_decide_eq_true (hall s (by omega))
      have e2 : c (vB M1 q s) = d (vB M1 q s) := of_decide_eq_true (hall _ (hB q s hq (by omega)))
      rw [e1, e2]
      exact hd.1.2.2 s q hs hq
    · rw [if_neg (fun h => by have := (e_10 (by omega)).mp h; omega)]
      cases b
      · simp only [Bool.false_eq_true, if_false]
        exact Or.inr ⟨_, rfl, c, g1, wUp_Gr g2 (g4 rfl)⟩
      · obtain ⟨b', N', r1, r2, r3⟩ := round (nI r) N c g1 g2.2.1
        simp only [if_true, r1, Option.bind_some]
        refine Or.inl ⟨_, rfl, ⟨r + 1, _, by omega, nI_1 r, r2, wUp_S hn.2.1 hB g2, ?_, fun h => ?_⟩, ?_⟩
        · have := w_more hn.2.1 hB hd g2 (r + 1) (by omega)
          exact this
        · dsimp only at h
          rw [h] at r3
          have : wS (vB M1) p c (vN M1) = c := by
            rcases Classical.em (wS (vB M1) p c (vN M1) = c) with z | z
            · exact z
            · exact absurd (r3.mpr z) (by decide)
          rw [this]
          exact wS_Fix this
        · show 20 - Int32.toNatClampNeg (nI r + 1) < 20 - Int32.toNatClampNeg (nI r)
          rw [nI_1, e_nIc (by omega), e_nIc (by omega)]
          omega
  · have := nC_pos (f := fun i => decide (w0 t 99999 i = d i)) 10 ⟨t, ht, by
      rw [decide_eq_true_eq, hd.1.1]
      unfold w0
      rw [if_pos rfl]⟩
    show min 10 (0 + 1) ≤ _
    omega
