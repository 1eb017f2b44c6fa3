/-- the reference's two rows -/
def gM2 (M0 N : mm_M) (f : Nat → Nat) : Prop := (∀ i, i < 90 → N 35 i = nI (if f i % 2 = 1 then f i else 0)) ∧ (∀ i, i < 90 → N 36 i = nI (if f i % 2 = 0 then f i else 0)) ∧ ∀ b, b ≠ 35 → b ≠ 36 → N b = M0 b
theorem g_wins {M1 M2 N : mm_M} (hv : rl_val M1 M2) {f : Nat → Nat} (hN : gM2 M2 N f) (hf : ∀ k, f k < 100) {k r a : Nat} (hk : k < 90) (hr : 1 ≤ r) (hr2 : r ≤ 91) (p : r % 2 = 1) (hno : r ≠ 1 → ∀ q, q < 8 → q ≠ k % 9 → ¬ vA M1 q (k / 9) = nI a) : ∃ b, X12_wins (nI (k / 9)) (nI (k % 9)) (nI a) (nI r) N = some b ∧ (b = true ↔ gC M1 a r f k = true) := by
  have hs : k / 9 < 10 := by omega
  have hA : ∀ q, q < 8 → X12_answer (nI q) (nI (k / 9)) N = some (vA M1 q (k / 9)) := by
    intro q hq
    rw [← v_ans2 hv hq hs]
    unfold X12_answer
    rw [hN.2.2 5 (by decide) (by decide)]
  have hb : ∀ q, q < 8 → X12_behind (nI q) (nI (k / 9)) N = some (nI (vB M1 q (k / 9))) := by
    intro q hq
    rw [← v_beh2 hv hq hs]
    unfold X12_behind
    rw [hN.2.2 6 (by decide) (by decide)]
  have c8 : ∀ q, q < 8 → ¬ (8 : Int32) ≤ nI q := fun q hq h => by have := (e_8 (by omega)).mp h; omega
  have cl : ∀ q, q < 8 → (nI q = nI (k % 9) ↔ q = k % 9) := fun q hq => v_nIe (by omega) (by omega)
  have c1 : (nI r = 1) ↔ r = 1 := nI_eq (b := 1) (by omega) (by omega)
  unfold X12_wins
  have := e_ex (step := X12_wins_l3 (nI (k / 9)) (nI (k % 9)) (nI a) (nI r) N) (X := fun q => q ≠ k % 9 ∧ ((r = 1 ∧ vA M1 q (k / 9) = nI a) ∨ (r ≠ 1 ∧ f (9 * vB M1 q (k / 9) + q) = r - 1))) ?_ ?_ ?_
  · obtain ⟨b, b1, b2⟩ := this
    refine ⟨b, b1, ?_⟩
    rw [b2, gC_iff]
    exact ⟨fun z => Or.inl ⟨p, z⟩, fun z => by
      rcases z with z | z
      · exact z.2
      · omega⟩
  · intro q hq x
    have hfq := hf (9 * vB M1 q (k / 9) + q)
    have hB := (v_B hv hq hs).2
    have in90 : mm_in (nI (9 * vB M1 q (k / 9) + q)) 90 = true := e_inb (by rw [e_nIt (by omega)]; omega) (by rw [e_nIt (by omega)]; omega)
    unfold X12_wins_l3 X12_wins_j35l3 X12_at
    rw [if_neg (c8 q hq), if_neg (fun z => x.1 ((cl q hq).mp z)), hA q hq, Option.bind_some]
    rcases x.2 with y | y
    · simp only [if_pos y.2, if_pos (c1.mpr y.1), if_true]
    · have h0 := hno y.1 q hq x.1
      have hz : (if f (9 * vB M1 q (k / 9) + q) % 2 = 0 then f (9 * vB M1 q (k / 9) + q) else 0) = r - 1 := by
        rw [if_pos (by omega)]
        exact y.2
      simp only [if_neg (fun z => y.1 (c1.mp z)), if_neg h0, Bool.false_eq_true, if_false, hb q hq, Option.bind_some, g_cell.2, if_pos in90, e_nIc (show 9 * vB M1 q (k / 9) + q < 2147483648 by omega), hN.2.1 _ (show 9 * vB M1 q (k / 9) + q < 90 by omega), hz, g_sub1 hr (show r < 1000 by omega), if_true]
  · intro q hq x
    have hfq := hf (9 * vB M1 q (k / 9) + q)
    have hB := (v_B hv hq hs).2
    have in90 : mm_in (nI (9 * vB M1 q (k / 9) + q)) 90 = true := e_inb (by rw [e_nIt (by omega)]; omega) (by rw [e_nIt (by omega)]; omega)
    unfold X12_wins_l3 X12_wins_j35l3 X12_at
    rw [if_neg (c8 q hq)]
    by_cases hl : q = k % 9
    · rw [if_pos ((cl q hq).mpr hl)]
    · rw [if_neg (fun z => hl ((cl q hq).mp z)), hA q hq, Option.bind_some]
      by_cases r1 : r = 1
      · have h : ¬ vA M1 q (k / 9) = nI a := fun z => x ⟨hl, Or.inl ⟨r1, z⟩⟩
        simp only [if_neg h, if_pos (c1.mpr r1), Bool.false_eq_true, if_false]
      · have h0 := hno r1 q hq hl
        have h : ¬ nI (if f (9 * vB M1 q (k / 9) + q) % 2 = 0 then f (9 * vB M1 q (k / 9) + q) else 0) = nI (r - 1) := by
          intro z
          have z2 := (nI_eq (by split <;> omega) (by omega)).mp z
          split at z2
          · exact x ⟨hl, Or.inr ⟨r1, z2⟩⟩
          · omega
        simp only [if_neg (fun z => r1 (c1.mp z)), if_neg h0, Bool.false_eq_true, if_false, hb q hq, Option.bind_some, g_cell.2, if_pos in90, e_nIc (show 9 * vB M1 q (k / 9) + q < 2147483648 by omega), hN.2.1 _ (show 9 * vB M1 q (k / 9) + q < 90 by omega), g_sub1 hr (show r < 1000 by omega), if_neg h]
  · unfold X12_wins_l3
    rw [if_pos ((e_8 (by omega)).mpr (by omega))]
theorem g_loses {M1 M2 N : mm_M} (hv : rl_val M1 M2) {f : Nat → Nat} (hN : gM2 M2 N f) (hf : ∀ k, f k < 100) {k r a : Nat} (hk : k < 90) (p : r % 2 = 0) : ∃ b, X12_loses (nI (k / 9)) (nI (k % 9)) (nI a) N = some b ∧ (b = true ↔ gC M1 a r f k = true) := by
  have hs : k / 9 < 10 := by omega
  have hA : ∀ q, q < 8 → X12_answer (nI q) (nI (k / 9)) N = some (vA M1 q (k / 9)) := by
    intro q hq
    rw [← v_ans2 hv hq hs]
    unfold X12_answer
    rw [hN.2.2 5 (by decide) (by decide)]
  have hb : ∀ q, q < 8 → X12_behind (nI q) (nI (k / 9)) N = some (nI (vB M1 q (k / 9))) := by
    intro q hq
    rw [← v_beh2 hv hq hs]
    unfold X12_behind
    rw [hN.2.2 6 (by decide) (by decide)]
  have c8 : ∀ q, q < 8 → ¬ (8 : Int32) ≤ nI q := fun q hq h => by have := (e_8 (by omega)).mp h; omega
  have cl : ∀ q, q < 8 → (nI q = nI (k % 9) ↔ q = k % 9) := fun q hq => v_nIe (by omega) (by omega)
  have hz : ∀ x, nI (if f x % 2 = 1 then f x else 0) = 0 ↔ f x % 2 = 0 := by
    intro x
    have := hf x
    have e : nI (if f x % 2 = 1 then f x else 0) = 0 ↔ (if f x % 2 = 1 then f x else 0) = 0 := nI_eq (b := 0) (by split <;> omega) (by omega)
    rw [e]
    split <;> omega
  unfold X12_loses
  have := e_all (step := X12_loses_l3 (nI (k / 9)) (nI (k % 9)) (nI a) N) (X := fun q => q ≠ k % 9 → ¬ vA M1 q (k / 9) = nI a ∧ f (9 * vB M1 q (k / 9) + q) % 2 = 1) ?_ ?_ ?_
  · obtain ⟨b, b1, b2⟩ := this
    refine ⟨b, b1, ?_⟩
    rw [b2, gC_iff]
    exact ⟨fun z => Or.inr ⟨p, z⟩, fun z => by
      rcases z with z | z
      · omega
      · exact z.2⟩
  · intro q hq x
    have hl : ¬ q = k % 9 := fun e => x (fun h => absurd e h)
    have x : ¬ (¬ vA M1 q (k / 9) = nI a ∧ f (9 * vB M1 q (k / 9) + q) % 2 = 1) := fun z => x (fun _ => z)
    have hB := (v_B hv hq hs).2
    have in90 : mm_in (nI (9 * vB M1 q (k / 9) + q)) 90 = true := e_inb (by rw [e_nIt (by omega)]; omega) (by rw [e_nIt (by omega)]; omega)
    unfold X12_loses_l3 X12_at
    rw [if_neg (c8 q hq), if_neg (fun z => hl ((cl q hq).mp z)), hA q hq, Option.bind_some]
    by_cases h : vA M1 q (k / 9) = nI a
    · rw [if_pos h]
    · have hp : f (9 * vB M1 q (k / 9) + q) % 2 = 0 := by
        rcases Nat.mod_two_eq_zero_or_one (f (9 * vB M1 q (k / 9) + q)) with w | w
        · exact w
        · exact absurd ⟨h, w⟩ x
      rw [if_neg h, hb q hq, Option.bind_some, g_cell.2, if_pos in90, e_nIc (show 9 * vB M1 q (k / 9) + q < 2147483648 by omega), hN.1 _ (show 9 * vB M1 q (k / 9) + q < 90 by omega), if_pos ((hz _).mpr hp)]
  · intro q hq x
    have hB := (v_B hv hq hs).2
    have in90 : mm_in (nI (9 * vB M1 q (k / 9) + q)) 90 = true := e_inb (by rw [e_nIt (by omega)]; omega) (by rw [e_nIt (by omega)]; omega)
    unfold X12_loses_l3 X12_at
    rw [if_neg (c8 q hq)]
    by_cases hl : q = k % 9
    · rw [if_pos ((cl q hq).mpr hl)]
    · rw [if_neg (fun z => hl ((cl q hq).mp z)), hA q hq, Option.bind_some, if_neg (x hl).1, hb q hq, Option.bind_some, g_cell.2, if_pos in90, e_nIc (show 9 * vB M1 q (k / 9) + q < 2147483648 by omega), hN.1 _ (show 9 * vB M1 q (k / 9) + q < 90 by omega), if_neg (fun z => by have := (hz _).mp z; have := (x hl).2; omega)]
  · unfold X12_loses_l3
    rw [if_pos ((e_8 (by omega)).mpr (by omega))]
theorem gM_congr {M N : mm_M} {a : Nat} {f g : Nat → Nat} (h : gM M N a f) (e : ∀ c, c < 90 → f c = g c) : gM M N a g := ⟨fun i hi => by rw [h.1 i hi, e i hi], h.2⟩
theorem gM2_congr {M N : mm_M} {f g : Nat → Nat} (h : gM2 M N f) (e : ∀ c, c < 90 → f c = g c) : gM2 M N g := ⟨fun i hi => by rw [h.1 i hi, e i hi], fun i hi => by rw [h.2.1 i hi, e i hi], h.2.2⟩
/-- a round of the class -/
theorem g_round1 {M1 M2 : mm_M} (hv : rl_val M1 M2) {a r : Nat} (hr : r + 1 ≤ 90) (x2 : Int32) {N : mm_M} (hN : gM M1 N 35 (gG M1 a r)) : ∃ b N', mm_loop (X10_play_l32 x2 (nI a) (nI (r + 1))) mm_fuel (false, 0, N) = some (b, N') ∧ gM M1 N' 35 (gG M1 a (r + 1)) ∧ (b = true ↔ ∃ k, k < 90 ∧ gG M1 a (r + 1) k ≠ gG M1 a r k) := by
  have hn := (v_n hv).2.1
  have main := e_loopF (step := X10_play_l32 x2 (nI a) (nI (r + 1))) (I := fun (z : Bool × Int32 × mm_M) => ∃ i : Nat, i ≤ 90 ∧ z.2.1 = nI i ∧ gM M1 z.2.2 35 (gI M1 a r i) ∧ (z.1 = true ↔ ∃ k, k < i ∧ gG M1 a (r + 1) k ≠ gG M1 a r k)) (Q := fun (z : Bool × mm_M) => gM M1 z.2 35 (gG M1 a (r + 1)) ∧ (z.1 = true ↔ ∃ k, k < 90 ∧ gG M1 a (r + 1) k ≠ gG M1 a r k)) (fun z => 200 - Int32.toNatClampNeg z.2.1) ?_ (false, 0, N) ⟨0, by omega, rfl, gM_congr hN (fun c _ => by unfold gI; rw [if_neg (by omega)]), ⟨(fun z => by cases z), (fun ⟨c, z, _⟩ => by omega)⟩⟩ (by omega)
  · obtain ⟨⟨b, N'⟩, h1, h2, h3⟩ := main
    exact ⟨b, N', h1, h2, h3⟩
  · rintro ⟨b, x, N⟩ ⟨i, hi90, hx, hN, hb⟩
    dsimp only at hx hN hb
    subst hx
    by_cases ei : i = 90
    · subst ei
      refine Or.inr ⟨(b, N), ?_, gM_congr hN (fun c hc => by unfold gI; rw [if_pos hc]), hb⟩
      unfold X10_play_l32
      dsimp only
      rw [if_pos ((g_90 (by omega)).mpr (by omega))]
    · have hi1 : i < 90 := by omega
      left
      have hlt : 200 - Int32.toNatClampNeg (nI i + 1) < 200 - Int32.toNatClampNeg (nI i) := by
        rw [nI_1, e_nIc (by omega), e_nIc (by omega)]
        omega
      have in90 : mm_in (nI i) 90 = true := e_inb (by rw [e_nIt (by omega)]; omega) (by rw [e_nIt (by omega)]; omega)
      have same : gG M1 a (r + 1) i = gG M1 a r i → X10_play_l32 x2 (nI a) (nI (r + 1)) (b, nI i, N) = some (.inl (b, nI i + 1, N)) → ∃ s', X10_play_l32 x2 (nI a) (nI (r + 1)) (b, nI i, N) = some (.inl s') ∧ (∃ i : Nat, i ≤ 90 ∧ s'.2.1 = nI i ∧ gM M1 s'.2.2 35 (gI M1 a r i) ∧ (s'.1 = true ↔ ∃ k, k < i ∧ gG M1 a (r + 1) k ≠ gG M1 a r k)) ∧ 200 - Int32.toNatClampNeg s'.2.1 < 200 - Int32.toNatClampNeg (nI i) := by
        intro hno e
        refine ⟨_, e, ⟨i + 1, by omega, nI_1 i, gM_congr hN (fun c hc => ?_), ?_⟩, hlt⟩
        · rw [gI_i]
          split
          · rename_i w
            rw [w, hno]
            unfold gI
            rw [if_neg (by omega)]
          · rfl
        · show b = true ↔ _
          rw [hb]
          constructor
          · rintro ⟨k, hk, z⟩
            exact ⟨k, by omega, z⟩
          · rintro ⟨k, hk, z⟩
            rcases Nat.lt_or_ge k i with w | w
            · exact ⟨k, w, z⟩
            · have : k = i := by omega
              rw [this] at z
              exact absurd hno z
      have h70 : N 7 0 = M1 7 0 := by rw [hN.2 7 (by decide)]
      have off : X10_play_j76l32 x2 (nI a) b (nI (r + 1)) (nI i) (nI (i / 9)) (nI (i % 9)) N = some (.inl (b, nI i + 1, N)) := by
        unfold X10_play_j76l32 X10_play_j77l32
        rw [if_neg Bool.false_ne_true]
      have hst : X10_play_l32 x2 (nI a) (nI (r + 1)) (b, nI i, N) = if N 7 0 ≤ nI (i / 9) then some (.inl (b, nI i + 1, N)) else if N 35 i = 0 then X10_play_j77l32 x2 (nI a) b (nI (r + 1)) (nI i) (nI (i / 9)) (nI (i % 9)) true N else some (.inl (b, nI i + 1, N)) := by
        unfold X10_play_l32
        dsimp only
        rw [if_neg (fun h => by have := (g_90 (by omega)).mp h; omega), (g_div i hi1).1, (g_div i hi1).2, if_pos in90, e_nIc (by omega), off]
      by_cases c1 : vN M1 ≤ i / 9
      · apply same
        · rw [gG_s, if_neg (by omega)]
        · rw [hst, if_pos (by rw [h70]; exact (v_head hv (by omega : i / 9 ≤ 10)).1.mpr c1)]
      · rw [if_neg (by rw [h70]; exact fun z => c1 ((v_head hv (by omega : i / 9 ≤ 10)).1.mp z)), hN.1 i hi1] at hst
        have hgi : gI M1 a r i i = gG M1 a r i := by
          unfold gI
          rw [if_neg (by omega)]
        have hle := gG_le (M := M1) (a := a) (k := i) r
        have z0 : nI (gG M1 a r i) = 0 ↔ gG M1 a r i = 0 := nI_eq (b := 0) (by omega) (by omega)
        rw [hgi] at hst
        by_cases c2 : gG M1 a r i = 0
        · rw [if_pos (z0.mpr c2)] at hst
          obtain ⟨y, y1, y2⟩ := g_ends hv hN (fun k => by have := gI_le (M := M1) (a := a) (r := r) (i := i) (k := k); omega) (r := r + 1) (a := a) hi1 (by omega) hr
          rw [gI_C] at y2
          unfold X10_play_j77l32 at hst
          rw [if_pos rfl, y1, Option.bind_some, if_pos in90, e_nIc (by omega)] at hst
          by_cases c3 : y = true
          · rw [if_pos c3] at hst
            have hnew : gG M1 a (r + 1) i = r + 1 := by rw [gG_s, if_pos ⟨by omega, c2, y2.mp c3⟩]
            refine ⟨_, hst, ⟨i + 1, by omega, nI_1 i, ⟨fun k hk => ?_, fun c hc => ?_⟩, ⟨fun _ => ⟨i, by omega, by omega⟩, fun _ => rfl⟩⟩, hlt⟩
            · show mm_U N 35 i (nI (r + 1)) 35 k = _
              rw [e_U, gI_i]
              by_cases w : k = i
              · rw [if_pos ⟨rfl, w⟩, if_pos w, hnew]
              · rw [if_neg (fun z => w z.2), if_neg w]
                exact hN.1 k hk
            · show mm_U N 35 i (nI (r + 1)) c = _
              rw [mm_U_ne c hc]
              exact hN.2 c hc
          · rw [if_neg c3] at hst
            apply same
            · rw [gG_s, if_neg (fun z => c3 (y2.mpr z.2.2))]
            · exact hst
        · rw [if_neg (fun z => c2 (z0.mp z))] at hst
          apply same
          · exact gG_ne c2
          · exact hst
/-- a round of the reference -/
theorem g_round2 {M1 M2 : mm_M} (hv : rl_val M1 M2) {a r : Nat} (hr : r + 1 ≤ 91) {N : mm_M} (hN : gM2 M2 N (gG M1 a r)) : ∃ N', mm_loop (X12_laysGame_l38 (nI a) (nI (r + 1))) mm_fuel (0, N) = some N' ∧ gM2 M2 N' (gG M1 a (r + 1)) := by
  have hn := (v_n hv).2.1
  have h9 : ∀ N f, gM2 M2 N f → (9 : Int32) * N 0 6 = nI (9 * vN M1) := by
    intro N f hN
    rw [hN.2.2 0 (by decide) (by decide), ← hv.1, (v_n hv).1]
    exact pk_mul 9 (vN M1)
  refine e_loopF (step := X12_laysGame_l38 (nI a) (nI (r + 1))) (I := fun (z : Int32 × mm_M) => ∃ i : Nat, i ≤ 9 * vN M1 ∧ z.1 = nI i ∧ gM2 M2 z.2 (gI M1 a r i)) (Q := fun (N' : mm_M) => gM2 M2 N' (gG M1 a (r + 1))) (fun z => 200 - Int32.toNatClampNeg z.1) ?_ (0, N) ⟨0, by omega, rfl, gM2_congr hN (fun c _ => by unfold gI; rw [if_neg (by omega)])⟩ (by omega)
  rintro ⟨x, N⟩ ⟨i, hi9, hx, hN⟩
  dsimp only at hx hN
  subst hx
  have hend : ((9 : Int32) * N 0 6 ≤ nI i) ↔ 9 * vN M1 ≤ i := by
    rw [h9 N _ hN, e_le, e_nIt (by omega), e_nIt (by omega)]
    omega
  by_cases ei : i = 9 * vN M1
  · refine Or.inr ⟨N, ?_, gM2_congr hN (fun c hc => ?_)⟩
    · unfold X12_laysGame_l38
      dsimp only
      rw [if_pos (hend.mpr (by omega))]
    · unfold gI
      split
      · rfl
      · rw [gG_out (by omega), gG_out (by omega)]
  · have hi1 : i < 90 := by omega
    left
    have hlt : 200 - Int32.toNatClampNeg (nI i + 1) < 200 - Int32.toNatClampNeg (nI i) := by
      rw [nI_1, e_nIc (by omega), e_nIc (by omega)]
      omega
    have in90 : mm_in (nI i) 90 = true := e_inb (by rw [e_nIt (by omega)]; omega) (by rw [e_nIt (by omega)]; omega)
    have hgi : gI M1 a r i i = gG M1 a r i := by
      unfold gI
      rw [if_neg (by omega)]
    have hle := gG_le (M := M1) (a := a) (k := i) r
    have hle2 : ∀ k, gI M1 a r i k < 100 := fun k => by
      have := gI_le (M := M1) (a := a) (r := r) (i := i) (k := k)
      omega
    have same : gG M1 a (r + 1) i = gG M1 a r i → X12_laysGame_l38 (nI a) (nI (r + 1)) (nI i, N) = some (.inl (nI i + 1, N)) → ∃ s', X12_laysGame_l38 (nI a) (nI (r + 1)) (nI i, N) = some (.inl s') ∧ (∃ i : Nat, i ≤ 9 * vN M1 ∧ s'.1 = nI i ∧ gM2 M2 s'.2 (gI M1 a r i)) ∧ 200 - Int32.toNatClampNeg s'.1 < 200 - Int32.toNatClampNeg (nI i) := by
      intro hno e
      refine ⟨_, e, ⟨i + 1, by omega, nI_1 i, gM2_congr hN (fun c hc => ?_)⟩, hlt⟩
      rw [gI_i]
      split
      · rename_i w
        rw [w, hno, hgi]
      · rfl
    have z1 : nI (if gG M1 a r i % 2 = 1 then gG M1 a r i else 0) = 0 ↔ (if gG M1 a r i % 2 = 1 then gG M1 a r i else 0) = 0 := nI_eq (b := 0) (by split <;> omega) (by omega)
    have z2 : nI (if gG M1 a r i % 2 = 0 then gG M1 a r i else 0) = 0 ↔ (if gG M1 a r i % 2 = 0 then gG M1 a r i else 0) = 0 := nI_eq (b := 0) (by split <;> omega) (by omega)
    have hst : X12_laysGame_l38 (nI a) (nI (r + 1)) (nI i, N) = if N 35 i = 0 then if N 36 i = 0 then if nI ((r + 1) % 2) = 1 then (X12_wins (nI (i / 9)) (nI (i % 9)) (nI a) (nI (r + 1)) N).bind fun y14 => if y14 = true then X12_laysGame_j101l38 (nI a) (nI (r + 1)) (nI i) (mm_U N 35 i (nI (r + 1))) else X12_laysGame_j101l38 (nI a) (nI (r + 1)) (nI i) N else X12_laysGame_j101l38 (nI a) (nI (r + 1)) (nI i) N else some (.inl (nI i + 1, N)) else some (.inl (nI i + 1, N)) := by
      unfold X12_laysGame_l38
      dsimp only
      simp only [if_neg (fun h => by have := hend.mp h; omega : ¬ (9 : Int32) * N 0 6 ≤ nI i), if_pos in90, e_nIc (show i < 2147483648 by omega), g_par (r + 1) (show r + 1 < 100 by omega), (g_div i hi1).1, (g_div i hi1).2]
    rw [hN.1 i hi1, hN.2.1 i hi1, hgi] at hst
    by_cases c2 : gG M1 a r i = 0
    · rw [if_pos (z1.mpr (by split <;> omega)), if_pos (z2.mpr (by split <;> omega))] at hst
      rcases Nat.mod_two_eq_zero_or_one (r + 1) with p | p
      · rw [if_neg (by rw [p]; decide)] at hst
        obtain ⟨y, y1, y2⟩ := g_loses hv hN hle2 (r := r + 1) (a := a) hi1 p
        rw [gI_C] at y2
        unfold X12_laysGame_j101l38 at hst
        rw [g_par (r + 1) (by omega), if_pos (by rw [p]; rfl), (g_div i hi1).1, (g_div i hi1).2, y1, Option.bind_some, if_pos in90, e_nIc (by omega)] at hst
        by_cases c3 : y = true
        · rw [if_pos c3] at hst
          have hnew : gG M1 a (r + 1) i = r + 1 := by rw [gG_s, if_pos ⟨by omega, c2, y2.mp c3⟩]
          refine ⟨_, hst, ⟨i + 1, by omega, nI_1 i, ⟨fun k hk => ?_, fun k hk => ?_, fun c hc hc2 => ?_⟩⟩, hlt⟩
          · show mm_U N 36 i (nI (r + 1)) 35 k = _
            rw [mm_U_ne 35 (by decide), hN.1 k hk, gI_i]
            by_cases w : k = i
            · rw [if_pos w, hnew, w, hgi, c2, if_neg (by omega), if_neg (by omega)]
            · rw [if_neg w]
          · show mm_U N 36 i (nI (r + 1)) 36 k = _
            rw [e_U, gI_i]
            by_cases w : k = i
            · rw [if_pos ⟨rfl, w⟩, if_pos w, hnew, if_pos p]
            · rw [if_neg (fun z => w z.2), if_neg w]
              exact hN.2.1 k hk
          · show mm_U N 36 i (nI (r + 1)) c = _
            rw [mm_U_ne c hc2]
            exact hN.2.2 c hc hc2
        · rw [if_neg c3] at hst
          apply same
          · rw [gG_s, if_neg (fun z => c3 (y2.mpr z.2.2))]
          · exact hst
      · rw [if_pos (by rw [p]; rfl)] at hst
        have nop : ∀ N', X12_laysGame_j101l38 (nI a) (nI (r + 1)) (nI i) N' = some (.inl (nI i + 1, N')) := by
          intro N'
          unfold X12_laysGame_j101l38
          rw [g_par (r + 1) (by omega), if_neg (by rw [p]; decide)]
        obtain ⟨y, y1, y2⟩ := g_wins hv hN hle2 (r := r + 1) (a := a) hi1 (by omega) (by omega) p (fun hr1 q hq hl hA => by
          obtain ⟨j, rfl⟩ : ∃ j, r = j + 1 := ⟨r - 1, by omega⟩
          exact gG_had (by omega) hq hl hA j c2)
        rw [gI_C] at y2
        rw [y1, Option.bind_some, nop, nop] at hst
        by_cases c3 : y = true
        · rw [if_pos c3] at hst
          have hnew : gG M1 a (r + 1) i = r + 1 := by rw [gG_s, if_pos ⟨by omega, c2, y2.mp c3⟩]
          refine ⟨_, hst, ⟨i + 1, by omega, nI_1 i, ⟨fun k hk => ?_, fun k hk => ?_, fun c hc hc2 => ?_⟩⟩, hlt⟩
          · show mm_U N 35 i (nI (r + 1)) 35 k = _
            rw [e_U, gI_i]
            by_cases w : k = i
            · rw [if_pos ⟨rfl, w⟩, if_pos w, hnew, if_pos p]
            · rw [if_neg (fun z => w z.2), if_neg w]
              exact hN.1 k hk
          · show mm_U N 35 i (nI (r + 1)) 36 k = _
            rw [mm_U_ne 36 (by decide), hN.2.1 k hk, gI_i]
            by_cases w : k = i
            · rw [if_pos w, hnew, w, hgi, c2, if_pos (by omega), if_neg (by omega)]
            · rw [if_neg w]
          · show mm_U N 35 i (nI (r + 1)) c = _
            rw [mm_U_ne c hc]
            exact hN.2.2 c hc hc2
        · rw [if_neg c3] at hst
          apply same
          · rw [gG_s, if_neg (fun z => c3 (y2.mpr z.2.2))]
          · exact hst
    · apply same
      · exact gG_ne c2
      · rw [hst]
        by_cases w : gG M1 a r i % 2 = 1
        · rw [if_neg (fun z => by have := z1.mp z; rw [if_pos w] at this; exact c2 this)]
        · rw [if_pos (z1.mpr (by rw [if_neg w])), if_neg (fun z => by have := z2.mp z; rw [if_pos (by omega)] at this; exact c2 this)]
