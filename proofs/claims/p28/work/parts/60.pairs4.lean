theorem rl_keep {M1 M2 N1 N2 : mm_M} {a1 a2 : Nat} (h : rl_core M1 M2) (h1 : 32 < a1) (h2 : 18 < a2) (g1 : ∀ b, b ≠ a1 → N1 b = M1 b) (g2 : ∀ b, b ≠ a2 → N2 b = M2 b) : rl_core N1 N2 ∧ rl_lf M1 N1 M2 N2 := by
  refine ⟨rl_core_congr h ⟨by rw [g1 0 (by omega)], by rw [g1 1 (by omega)], g1 2 (by omega), g1 3 (by omega), g1 4 (by omega), g1 5 (by omega), by rw [g1 7 (by omega)], g1 8 (by omega), g1 9 (by omega)⟩ ⟨by rw [g2 0 (by omega)], by rw [g2 0 (by omega)], by rw [g2 0 (by omega)], g2 1 (by omega), g2 3 (by omega), g2 4 (by omega), g2 5 (by omega), g2 6 (by omega), g2 7 (by omega)⟩, ⟨by rw [g1 13 (by omega)], by rw [g1 13 (by omega)], g1 14 (by omega), g1 15 (by omega), g1 16 (by omega), g1 17 (by omega), by rw [g1 18 (by omega), g1 32 (by omega)]⟩, ⟨by rw [g2 0 (by omega)], g2 14 (by omega), g2 15 (by omega), g2 16 (by omega), g2 17 (by omega), g2 18 (by omega)⟩⟩
theorem pE_at {M : mm_M} {d : Nat → Nat} {s t : Nat} (hn : vN M ≤ 10) (hs : s < vN M) (ht : t < vN M) : pE M d (10 * s + t) = if d (10 * s + t) < 1000000 then d (10 * s + t) else 0 := by
  have d1 : (10 * s + t) / 10 = s := by omega
  have d2 : (10 * s + t) % 10 = t := by omega
  unfold pE
  rw [d1, d2]
  by_cases g : d (10 * s + t) < 1000000
  · rw [if_pos ⟨⟨hs, ht⟩, g⟩, if_pos g]
  · rw [if_neg (fun z => g z.2), if_neg g]
theorem op_17 (x y z : Int32) : rl_ok (cl_17 x y z) (md_17 x y z) := by
  intro M1 M2 h
  have hv := h.2.2.2.1
  have hi := h.2.2.2.2.1
  have hn := (v_n hv).2.1
  unfold cl_17 md_17 X11_parts X12_parts
  rw [← rl_has hv x, ← rl_has hv y, ← rl_01 z]
  by_cases c1 : X8_has 7 x M1 = true
  · by_cases c2 : X8_has 7 y M1 = true
    · by_cases c3 : X11_isZeroOrOne z = true
      · obtain ⟨s, hs, hs10, rfl⟩ := v_s hv c1
        obtain ⟨t, ht, ht10, rfl⟩ := v_s hv c2
        obtain ⟨N2, d, e2, g2, gd⟩ := p_ref hv
        have hd : pGr M1 d := gd
        obtain ⟨N1, e1, g1⟩ := p_class hv hi hd
        obtain ⟨hc, hl⟩ := rl_keep (a1 := 34) (a2 := 30) h (by omega) (by omega) g1.2 g2.2
        have hpos := p_pos hd (c := 10 * s + t) (by omega)
        have hF := hd.1.2.1 (10 * s + t) (by omega)
        have in100 : mm_in (nI (10 * s + t)) 100 = true := e_inb (by rw [e_nIt (by omega)]; omega) (by rw [e_nIt (by omega)]; omega)
        simp only [if_pos c1, if_pos c2, if_pos c3, e1, e2, Option.bind_some, p_apart g1 hs10 ht10, (p_cell hs10 ht10).2, if_pos in100, e_nIc (show 10 * s + t < 2147483648 by omega), g2.1 (10 * s + t) (by omega), pE_at hn hs ht]
        by_cases f : d (10 * s + t) < 1000000
        · have a0 : ¬ nI (d (10 * s + t)) = 0 := fun w => by
            have := (nI_eq (b := 0) (by omega) (by omega)).mp w
            omega
          have a2 : nI (d (10 * s + t)) < 1000000 := (w_ltI (y := 1000000) (by omega) (by omega)).1.mpr f
          simp only [if_pos f, if_neg a0, if_pos a2]
          by_cases cz : z = 0
          · simp only [if_pos cz]
            exact ⟨_, N1, N2, rfl, rfl, hc, hl⟩
          · simp only [if_neg cz]
            have h9 := p_9 hv hi hd hs ht f
            obtain ⟨r, r1, r2⟩ := p_first hv hi hd g1 (r := d (10 * s + t)) hpos (by omega) hs ht (Nat.le_refl _) (fun a b ha hb => by
              rcases Nat.lt_or_ge 1 (d (10 * s + t)) with y | y
              · left
                have pp := p_pos hd (c := 10 * a + b) (by omega)
                rw [pE_at hn ha hb]
                by_cases w : d (10 * a + b) < 1000000
                · rw [if_pos w]
                · rw [if_neg w]
                  constructor <;> intro _ <;> omega
              · exact Or.inr (by omega)) (fun c hc => by
              have := hd.1.2.1 c (by omega)
              unfold pE
              split <;> omega)
            obtain ⟨q0, hq0, hq1⟩ := x_att (by omega) hd (s := 10 * s + t) (by omega) hpos f
            rcases r2 with ⟨r3, r4⟩ | ⟨j, hj, r3, r4, r5⟩
            · exact absurd hq1.symm (r4 q0 hq0)
            · have k2 : mm_loop (X12_parts_l65 (nI s) (nI t) (nI (d (10 * s + t))) N2) mm_fuel 0 = some (nI j, N2) := by
                have step : ∀ q, q < 8 → X12_parts_l65 (nI s) (nI t) (nI (d (10 * s + t))) N2 (nI q) = if d (pB M1 q (10 * s + t)) + 1 = d (10 * s + t) then some (.inr (nI q, N2)) else some (.inl (nI q + 1)) := by
                  intro q hq
                  have hB := hd.1.2.1 _ (p_B hv hq (show 10 * s + t < 101 by omega))
                  unfold X12_parts_l65
                  rw [p_then hv g2 hd.1.1 hq hs ht, Option.bind_some]
                  by_cases e : d (pB M1 q (10 * s + t)) + 1 = d (10 * s + t)
                  · rw [if_pos e, if_pos (by rw [e])]
                  · rw [if_neg e, if_neg (fun w => e ((nI_eq (by omega) (by omega)).mp w))]
                refine e_trace0 (fun k => nI k) j (by omega) _ ?_ ?_
                · intro k hk
                  rw [step k (by omega), if_neg (r5 k hk), nI_1]
                · rw [step j hj, if_pos (Decidable.not_not.mp r4)]
              simp only [r1, k2, Option.bind_some, r3]
              exact ⟨_, N1, N2, rfl, rfl, hc, hl⟩
        · have a2 : ¬ nI (d (10 * s + t)) < 1000000 := fun w => f ((w_ltI (y := 1000000) (by omega) (by omega)).1.mp w)
          simp only [if_neg f, if_neg a2]
          rw [if_pos (show nI 0 = 0 from rfl)]
          exact ⟨_, N1, N2, rfl, rfl, hc, hl⟩
      · simp only [if_pos c1, if_pos c2, if_neg c3]
        exact ⟨-1, M1, M2, rfl, rfl, h, rl_lf_rfl⟩
    · simp only [if_pos c1, if_neg c2]
      exact ⟨-1, M1, M2, rfl, rfl, h, rl_lf_rfl⟩
  · simp only [if_neg c1]
    exact ⟨-1, M1, M2, rfl, rfl, h, rl_lf_rfl⟩
/-- the states like one -/
theorem p_alike1 {M1 M2 N : mm_M} (hv : rl_val M1 M2) {d : Nat → Nat} (hd : pGr M1 d) (hN : xM M1 N 34 (pE M1 d)) {s : Nat} (hs : s < vN M1) : ∃ r, X10_alike (nI s) N = some r ∧ bSet (fun i => i < vN M1 ∧ ¬ d (10 * s + i) < 1000000) r := by
  have hn := (v_n hv).2.1
  unfold X10_alike
  refine e_for (step := X10_alike_l5 (nI s) N) (vN M1) (by omega) (I := fun k y => bSet (fun i => i < k ∧ ¬ d (10 * s + i) < 1000000) y) (Q := fun r => bSet (fun i => i < vN M1 ∧ ¬ d (10 * s + i) < 1000000) r) ?_ ?_ 0 (bSet_iff bSet_0 (fun i _ => ⟨fun h => h.elim, fun z => by omega⟩))
  · intro k y hk hy
    have hpos := p_pos hd (c := 10 * s + k) (by omega)
    have hF := hd.1.2.1 (10 * s + k) (by omega)
    have c0 : ¬ N 7 0 ≤ nI k := by rw [hN.2 7 (by decide)]; exact fun h => by have := (v_head hv (by omega : k ≤ 10)).1.mp h; omega
    unfold X10_alike_l5
    dsimp only
    rw [if_neg c0, p_apart hN (by omega) (by omega), pE_at hn hs hk]
    by_cases g : d (10 * s + k) < 1000000
    · rw [if_pos g, if_neg (fun w => by have := (nI_eq (b := 0) (by omega) (by omega)).mp w; omega)]
      refine ⟨_, rfl, bSet_iff hy (fun i _ => ⟨fun z => ⟨by omega, z.2⟩, fun z => ⟨?_, z.2⟩⟩)⟩
      rcases Nat.lt_or_ge i k with w | w
      · exact w
      · have : i = k := by omega
        subst this
        exact absurd g z.2
    · rw [if_neg g, if_pos (show nI 0 = 0 from rfl)]
      refine ⟨_, rfl, bSet_iff (bSet_set hy (show k < 32 by omega)) (fun i _ => ⟨fun z => ?_, fun z => ?_⟩)⟩
      · rcases z with z | z
        · exact ⟨by omega, z.2⟩
        · rw [z]
          exact ⟨by omega, g⟩
      · by_cases w : i = k
        · exact Or.inr w
        · exact Or.inl ⟨by omega, z.2⟩
  · intro y hy
    unfold X10_alike_l5
    dsimp only
    rw [if_pos (by rw [hN.2 7 (by decide)]; exact (v_head hv (by omega : vN M1 ≤ 10)).1.mpr (Nat.le_refl _))]
    exact ⟨y, rfl, hy⟩
theorem p_alike2 {M1 M2 N : mm_M} (hv : rl_val M1 M2) {d : Nat → Nat} (hd : pGr M1 d) (hN : xM M2 N 30 d) {s : Nat} (hs : s < vN M1) : ∃ r, X12_classOf (nI s) N = some r ∧ bSet (fun i => i < vN M1 ∧ ¬ d (10 * s + i) < 1000000) r := by
  have hn := (v_n hv).2.1
  unfold X12_classOf
  refine e_for (step := X12_classOf_l4 (nI s) N) (vN M1) (by omega) (I := fun k y => bSet (fun i => i < k ∧ ¬ d (10 * s + i) < 1000000) y) (Q := fun r => bSet (fun i => i < vN M1 ∧ ¬ d (10 * s + i) < 1000000) r) ?_ ?_ 0 (bSet_iff bSet_0 (fun i _ => ⟨fun h => h.elim, fun z => by omega⟩))
  · intro k y hk hy
    have hpos := p_pos hd (c := 10 * s + k) (by omega)
    have hF := hd.1.2.1 (10 * s + k) (by omega)
    have c0 : ¬ N 0 6 ≤ nI k := by rw [hN.2 0 (by decide)]; exact fun h => by have := (v_head hv (by omega : k ≤ 10)).2.mp h; omega
    have in100 : mm_in (nI (10 * s + k)) 100 = true := e_inb (by rw [e_nIt (by omega)]; omega) (by rw [e_nIt (by omega)]; omega)
    unfold X12_classOf_l4
    dsimp only
    rw [if_neg c0, (p_cell (show s < 10 by omega) (show k < 10 by omega)).2, if_pos in100, e_nIc (by omega), hN.1 _ (by omega)]
    by_cases g : d (10 * s + k) < 1000000
    · have a2 : nI (d (10 * s + k)) < 1000000 := (w_ltI (y := 1000000) (by omega) (by omega)).1.mpr g
      rw [if_pos a2]
      refine ⟨_, rfl, bSet_iff hy (fun i _ => ⟨fun z => ⟨by omega, z.2⟩, fun z => ⟨?_, z.2⟩⟩)⟩
      rcases Nat.lt_or_ge i k with w | w
      · exact w
      · have : i = k := by omega
        subst this
        exact absurd g z.2
    · have a2 : ¬ nI (d (10 * s + k)) < 1000000 := fun w => g ((w_ltI (y := 1000000) (by omega) (by omega)).1.mp w)
      rw [if_neg a2]
      refine ⟨_, rfl, bSet_iff (bSet_set hy (show k < 32 by omega)) (fun i _ => ⟨fun z => ?_, fun z => ?_⟩)⟩
      · rcases z with z | z
        · exact ⟨by omega, z.2⟩
        · rw [z]
          exact ⟨by omega, g⟩
      · by_cases w : i = k
        · exact Or.inr w
        · exact Or.inl ⟨by omega, z.2⟩
  · intro y hy
    unfold X12_classOf_l4
    dsimp only
    rw [if_pos (by rw [hN.2 0 (by decide)]; exact (v_head hv (by omega : vN M1 ≤ 10)).2.mpr (Nat.le_refl _))]
    exact ⟨y, rfl, hy⟩
def pLow (d : Nat → Nat) (s : Nat) : Bool := decide (∀ i, i < s → d (10 * s + i) < 1000000)
theorem p_count1 {M1 M2 N : mm_M} (hv : rl_val M1 M2) {d : Nat → Nat} (hd : pGr M1 d) (hN : xM M1 N 34 (pE M1 d)) : X10_countAlike N = some (nI (nC (pLow d) (vN M1))) := by
  have hn := (v_n hv).2.1
  unfold X10_countAlike
  refine e_trace0 (fun k => (nI (nC (pLow d) k), nI k)) (vN M1) (by omega) _ ?_ ?_
  · intro k hk
    obtain ⟨r, r1, r2⟩ := p_alike1 hv hd hN hk
    have c0 : ¬ N 7 0 ≤ nI k := by rw [hN.2 7 (by decide)]; exact fun h => by have := (v_head hv (by omega : k ≤ 10)).1.mp h; omega
    unfold X10_countAlike_l4
    dsimp only
    rw [if_neg c0, r1, Option.bind_some, nI_1 k]
    show _ = some (Sum.inl (nI (nC (pLow d) k + if pLow d k = true then 1 else 0), nI (k + 1)))
    have key : (r &&& (((1 : Int32) <<< (nI k &&& 31)) - 1)) = 0 ↔ pLow d k = true := by
      unfold pLow
      rw [decide_eq_true_eq]
      constructor
      · intro e i hik
        rcases Nat.lt_or_ge (d (10 * k + i)) 1000000 with w | w
        · exact w
        · exfalso
          have b1 : bt r i = true := (r2 i (by omega)).mpr ⟨by omega, by omega⟩
          have b2 : bt (r &&& (((1 : Int32) <<< (nI k &&& 31)) - 1)) i = true := by
            rw [b_and, b_every k (by omega) i (by omega), b1]
            simp [hik]
          rw [e, b_0] at b2
          cases b2
      · intro e
        apply b_ext
        intro i hi
        rw [b_and, b_every k (by omega) i hi, b_0]
        by_cases w : i < k
        · have : bt r i = false := by
            cases hb : bt r i
            · rfl
            · have := (r2 i hi).mp hb
              exact absurd (e i w) this.2
          rw [this]
          rfl
        · simp [w]
    by_cases g : pLow d k = true
    · rw [if_pos (key.mpr g), if_pos g, nI_1]
    · rw [if_neg (fun z => g (key.mp z)), if_neg g]
      rfl
  · unfold X10_countAlike_l4
    dsimp only
    rw [if_pos (by rw [hN.2 7 (by decide)]; exact (v_head hv (by omega : vN M1 ≤ 10)).1.mpr (Nat.le_refl _))]
theorem p_count2 {M1 M2 N : mm_M} (hv : rl_val M1 M2) {d : Nat → Nat} (hd : pGr M1 d) (hN : xM M2 N 30 d) : mm_loop (X12_classes_l43 N) mm_fuel (0, 0) = some (nI (nC (pLow d) (vN M1)), N) := by
  have hn := (v_n hv).2.1
  refine e_trace0 (fun k => (nI (nC (pLow d) k), nI k)) (vN M1) (by omega) _ ?_ ?_
  · intro k hk
    obtain ⟨r, r1, r2⟩ := p_alike2 hv hd hN hk
    have c0 : ¬ N 0 6 ≤ nI k := by rw [hN.2 0 (by decide)]; exact fun h => by have := (v_head hv (by omega : k ≤ 10)).2.mp h; omega
    have hdk : ¬ d (10 * k + k) < 1000000 := by
      rw [p_diag hv hd (by omega) (by omega)]
      omega
    obtain ⟨j, hj, j1, j2⟩ := e_least (P := fun i => bt r i = true) k ((r2 k (by omega)).mpr ⟨hk, hdk⟩)
    have low := (s_low (x := r) (j := j) (by omega) j1 (fun i hi => by
      cases hb : bt r i
      · rfl
      · exact absurd hb (j2 i hi))).2
    unfold X12_classes_l43
    dsimp only
    rw [if_neg c0, r1, Option.bind_some, low, Option.bind_some, nI_1 k]
    show _ = some (Sum.inl (nI (nC (pLow d) k + if pLow d k = true then 1 else 0), nI (k + 1)))
    have key : (nI j = nI k) ↔ pLow d k = true := by
      unfold pLow
      rw [decide_eq_true_eq, v_nIe (by omega) (by omega)]
      constructor
      · intro e i hik
        rcases Nat.lt_or_ge (d (10 * k + i)) 1000000 with w | w
        · exact w
        · exfalso
          exact j2 i (by omega) ((r2 i (by omega)).mpr ⟨by omega, by omega⟩)
      · intro e
        rcases Nat.lt_or_ge j k with w | w
        · exact absurd (e j w) ((r2 j (by omega)).mp j1).2
        · omega
    by_cases g : pLow d k = true
    · rw [if_pos (key.mpr g), if_pos g, nI_1]
    · rw [if_neg (fun z => g (key.mp z)), if_neg g]
      rfl
  · unfold X12_classes_l43
    dsimp only
    rw [if_pos (by rw [hN.2 0 (by decide)]; exact (v_head hv (by omega : vN M1 ≤ 10)).2.mpr (Nat.le_refl _))]
theorem op_16 (x : Int32) : rl_ok (cl_16 x) (md_16 x) := by
  intro M1 M2 h
  have hv := h.2.2.2.1
  have hi := h.2.2.2.2.1
  unfold cl_16 md_16 X11_classes X12_classes
  rw [← rl_has hv x]
  by_cases c0 : X8_isTold M1 = true
  · have c0' := (rl_told hv).mp c0
    obtain ⟨N2, d, e2, g2, gd⟩ := p_ref hv
    have hd : pGr M1 d := gd
    obtain ⟨N1, e1, g1⟩ := p_class hv hi hd
    obtain ⟨hc, hl⟩ := rl_keep (a1 := 34) (a2 := 30) h (by omega) (by omega) g1.2 g2.2
    rw [if_pos c0, if_neg c0']
    unfold X11_classes_j29 X12_classes_j23
    by_cases c1 : x = 100
    · simp only [if_pos c1, e1, e2, Option.bind_some, p_count1 hv hd g1, p_count2 hv hd g2]
      exact ⟨_, N1, N2, rfl, rfl, hc, hl⟩
    · simp only [if_neg c1]
      by_cases c2 : X8_has 7 x M1 = true
      · obtain ⟨s, hs, hs10, rfl⟩ := v_s hv c2
        obtain ⟨r, r1, r2⟩ := p_alike1 hv hd g1 hs
        obtain ⟨r', r1', r2'⟩ := p_alike2 hv hd g2 hs
        have : r = r' := bSet_eq r2 r2' (fun i _ => Iff.rfl)
        subst this
        simp only [if_pos c2, e1, e2, Option.bind_some, r1, r1']
        exact ⟨_, N1, N2, rfl, rfl, hc, hl⟩
      · simp only [if_neg c2]
        exact ⟨-1, M1, M2, rfl, rfl, h, rl_lf_rfl⟩
  · have c4 : M2 0 6 = 0 := by
      rcases Decidable.em (M2 0 6 = 0) with q | q
      · exact q
      · exact absurd ((rl_told hv).mpr q) c0
    simp only [if_neg c0, if_pos c4]
    exact ⟨-1, M1, M2, rfl, rfl, h, rl_lf_rfl⟩
