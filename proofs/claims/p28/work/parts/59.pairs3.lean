theorem p_apart {M1 N : mm_M} {f : Nat → Nat} (hN : xM M1 N 34 f) {a b : Nat} (ha : a < 10) (hb : b < 10) : X10_apartBy (nI a) (nI b) N = nI (f (10 * a + b)) := by
  unfold X10_apartBy
  rw [(p_cell ha hb).1, if_neg (nI_pos (by omega)), if_neg (fun h => by have := (p_100 (by omega)).mp h; omega), e_nIc (by omega)]
  exact hN.1 _ (by omega)
theorem p_first {M1 M2 N : mm_M} (hv : rl_val M1 M2) (hi : rl_in M1) {d f : Nat → Nat} (h : pGr M1 d) (hN : xM M1 N 34 f) {r s t : Nat} (hr : 1 ≤ r) (hr2 : r ≤ 20) (hs : s < vN M1) (ht : t < vN M1) (hd : r ≤ d (10 * s + t)) (hf : ∀ a b, a < vN M1 → b < vN M1 → (f (10 * a + b) = r - 1 ↔ d (10 * a + b) = r - 1) ∨ r = 1) (fb : ∀ c, c < 100 → f c < 2000000) : ∃ y, X10_firstApart (nI s) (nI t) (nI r) N = some y ∧ e_first (fun q => ¬ d (pB M1 q (10 * s + t)) + 1 = r) 8 y := by
  have hn := (v_n hv).2.1
  have hA : ∀ q s, q < 8 → s < 10 → X8_answer (nI q) (nI s) N = vA M1 q s := by
    intro q s hq hs
    rw [v_ans hq hs]
    unfold vA
    rw [hN.2 8 (by decide)]
  have hb : ∀ q s, q < 8 → s < 10 → X8_behind (nI q) (nI s) N = nI (vB M1 q s) := by
    intro q s hq hs
    rw [v_behI hq hs, hN.2 9 (by decide)]
    exact (v_B hv hq hs).1
  have e1r : nI r - 1 = nI (r - 1) := by
    have k1 : (1 : Int32).toInt = 1 := rfl
    rw [e_eq, e_sub (by rw [e_nIt (by omega), k1]; omega) (by rw [e_nIt (by omega), k1]; omega), e_nIt (by omega), e_nIt (by omega), k1]
    omega
  have step : ∀ q, q < 8 → X10_firstApart_l3 (nI s) (nI t) (nI r) N (nI q) = if d (pB M1 q (10 * s + t)) + 1 = r then some (.inr (nI q)) else some (.inl (nI q + 1)) := by
    intro q hq
    have l1 := (v_B hv hq (show s < 10 by omega)).2
    have l2 := (v_B hv hq (show t < 10 by omega)).2
    have p1 := p_le hv h hq hs ht
    have pp := p_pos h (c := 10 * vB M1 q s + vB M1 q t) (by omega)
    have c1 : (nI r = 1) ↔ r = 1 := nI_eq (b := 1) (by omega) (by omega)
    unfold X10_firstApart_l3 X10_firstApart_j71l3
    rw [if_neg (fun h => by have := (e_8 (by omega)).mp h; omega), hA q s hq (by omega), hA q t hq (by omega), hb q s hq (by omega), hb q t hq (by omega), p_apart hN l1 l2, e1r, p_at hs ht hn]
    by_cases r1 : r = 1
    · rw [if_pos (c1.mpr r1)]
      by_cases e : vA M1 q s = vA M1 q t
      · rw [if_pos e, if_pos e, if_neg Bool.false_ne_true, if_neg (by omega)]
      · rw [if_neg e, if_neg e, h.1.1, if_pos (rfl : true = true), if_pos (by omega)]
    · rw [if_neg (fun z => r1 (c1.mp z))]
      by_cases e : vA M1 q s = vA M1 q t
      · have fb1 := fb (10 * vB M1 q s + vB M1 q t) (by omega)
        rcases hf _ _ (v_Bn hv hi hq hs) (v_Bn hv hi hq ht) with z | z
        · by_cases g : f (10 * vB M1 q s + vB M1 q t) = r - 1
          · rw [if_pos (by rw [g]), if_pos (rfl : true = true), if_pos e, if_pos (by have := z.mp g; omega)]
          · rw [if_neg (fun y => g ((nI_eq (by omega) (by omega)).mp y)), if_neg Bool.false_ne_true, if_pos e, if_neg (fun y => g (z.mpr (by omega)))]
        · exact absurd z r1
      · rw [if_neg e] at p1
        omega
  unfold X10_firstApart
  refine e_for1 8 (by omega) (I := fun i => ∀ j, j < i → ¬ d (pB M1 j (10 * s + t)) + 1 = r) (Q := fun y => e_first (fun q => ¬ d (pB M1 q (10 * s + t)) + 1 = r) 8 y) ?_ ?_ (fun j hj => by omega)
  · intro i hi' hI
    rw [step i hi']
    by_cases e : d (pB M1 i (10 * s + t)) + 1 = r
    · rw [if_pos e]
      exact Or.inr ⟨_, rfl, Or.inr ⟨i, hi', rfl, fun z => z e, hI⟩⟩
    · rw [if_neg e]
      refine Or.inl ⟨rfl, fun j hj => ?_⟩
      by_cases g : j = i
      · subst g
        exact e
      · exact hI j (by omega)
  · intro hI
    refine ⟨-1, ?_, Or.inl ⟨rfl, hI⟩⟩
    unfold X10_firstApart_l3
    rw [if_pos ((e_8 (by omega)).mpr (by omega))]
/-- the place of a pair, the lower state first -/
def pm (c : Nat) : Nat := if c / 10 < c % 10 then c else 10 * (c % 10) + c / 10
/-- the class's table in round r, ahead of pair i -/
def pF (M : mm_M) (d : Nat → Nat) (r i c : Nat) : Nat := if (c / 10 < vN M ∧ c % 10 < vN M) ∧ (d c < r ∨ (d c = r ∧ pm c < i)) then d c else 0
def pL (M : mm_M) (d : Nat → Nat) (r i : Nat) : Prop := ∃ c, c < 100 ∧ (c / 10 < vN M ∧ c % 10 < vN M) ∧ d c = r ∧ pm c < i
theorem xM_congr {M N : mm_M} {a : Nat} {f g : Nat → Nat} (h : xM M N a f) (e : ∀ c, c < 100 → f c = g c) : xM M N a g := ⟨fun i hi => by rw [h.1 i hi, e i hi], h.2⟩
theorem p_same {M : mm_M} {d : Nat → Nat} {r i : Nat} (hno : ∀ c, c < 100 → (c / 10 < vN M ∧ c % 10 < vN M) → d c = r → pm c ≠ i) : (∀ c, c < 100 → pF M d r i c = pF M d r (i + 1) c) ∧ (pL M d r (i + 1) ↔ pL M d r i) := by
  constructor
  · intro c hc
    unfold pF
    by_cases ok : c / 10 < vN M ∧ c % 10 < vN M
    · by_cases e : d c = r
      · have := hno c hc ok e
        by_cases g : pm c < i
        · rw [if_pos ⟨ok, Or.inr ⟨e, g⟩⟩, if_pos ⟨ok, Or.inr ⟨e, by omega⟩⟩]
        · rw [if_neg (fun z => by rcases z.2 with z | z <;> omega), if_neg (fun z => by rcases z.2 with z | z <;> omega)]
      · by_cases g : d c < r
        · rw [if_pos ⟨ok, Or.inl g⟩, if_pos ⟨ok, Or.inl g⟩]
        · rw [if_neg (fun z => by rcases z.2 with z | z <;> omega), if_neg (fun z => by rcases z.2 with z | z <;> omega)]
    · rw [if_neg (fun z => ok z.1), if_neg (fun z => ok z.1)]
  · constructor
    · rintro ⟨c, hc, ok, e, g⟩
      have := hno c hc ok e
      exact ⟨c, hc, ok, e, by omega⟩
    · rintro ⟨c, hc, ok, e, g⟩
      exact ⟨c, hc, ok, e, by omega⟩
theorem p_div2 : ∀ c, c < 100 → nI c - nI (c / 10) * 10 = nI (c % 10) := by decide +kernel
theorem p_round {M1 M2 : mm_M} (hv : rl_val M1 M2) (hi : rl_in M1) {d : Nat → Nat} (h : pGr M1 d) {r : Nat} (hr : 1 ≤ r) (hr9 : r ≤ 9) {N : mm_M} (hN : xM M1 N 34 (pF M1 d r 0)) : ∃ b N', mm_loop (X10_tellApart_l27 (nI r)) mm_fuel (false, 0, N) = some (b, N') ∧ xM M1 N' 34 (pF M1 d r 100) ∧ (b = true ↔ pL M1 d r 100) := by
  have hn := (v_n hv).2.1
  have main := e_loopF (step := X10_tellApart_l27 (nI r)) (I := fun (z : Bool × Int32 × mm_M) => ∃ i : Nat, i ≤ 100 ∧ z.2.1 = nI i ∧ xM M1 z.2.2 34 (pF M1 d r i) ∧ (z.1 = true ↔ pL M1 d r i)) (Q := fun (z : Bool × mm_M) => xM M1 z.2 34 (pF M1 d r 100) ∧ (z.1 = true ↔ pL M1 d r 100)) (fun z => 200 - Int32.toNatClampNeg z.2.1) ?_ (false, 0, N) ⟨0, by omega, rfl, hN, ⟨(fun z => by cases z), (fun ⟨c, _, _, _, z⟩ => by omega)⟩⟩ (by omega)
  · obtain ⟨⟨b, N'⟩, h1, h2, h3⟩ := main
    exact ⟨b, N', h1, h2, h3⟩
  · rintro ⟨b, x, N⟩ ⟨i, hi100, hx, hN, hb⟩
    dsimp only at hx hN hb
    subst hx
    by_cases ei : i = 100
    · subst ei
      refine Or.inr ⟨(b, N), ?_, hN, hb⟩
      unfold X10_tellApart_l27
      dsimp only
      rw [if_pos ((p_100 (by omega)).mpr (by omega))]
    · have hi1 : i < 100 := by omega
      left
      have hlt : 200 - Int32.toNatClampNeg (nI i + 1) < 200 - Int32.toNatClampNeg (nI i) := by
        rw [nI_1, e_nIc (by omega), e_nIc (by omega)]
        omega
      have es : 10 * (i / 10) + i % 10 = i := by omega
      have in100 : mm_in (nI i) 100 = true := e_inb (by rw [e_nIt (by omega)]; omega) (by rw [e_nIt (by omega)]; omega)
      have same : (∀ c, c < 100 → (c / 10 < vN M1 ∧ c % 10 < vN M1) → d c = r → pm c ≠ i) → X10_tellApart_l27 (nI r) (b, nI i, N) = some (.inl (b, nI i + 1, N)) → ∃ s', X10_tellApart_l27 (nI r) (b, nI i, N) = some (.inl s') ∧ (∃ i : Nat, i ≤ 100 ∧ s'.2.1 = nI i ∧ xM M1 s'.2.2 34 (pF M1 d r i) ∧ (s'.1 = true ↔ pL M1 d r i)) ∧ 200 - Int32.toNatClampNeg s'.2.1 < 200 - Int32.toNatClampNeg (nI i) := by
        intro hno e
        obtain ⟨s1, s2⟩ := p_same hno
        exact ⟨_, e, ⟨i + 1, by omega, nI_1 i, xM_congr hN s1, by rw [s2]; exact hb⟩, hlt⟩
      have n100 : ¬ (100 : Int32) ≤ nI i := fun h => by have := (p_100 (by omega : i ≤ 1000)).mp h; omega
      have off : X10_tellApart_j78l27 b (nI r) (nI i) (nI (i / 10)) (nI (i % 10)) N = some (.inl (b, nI i + 1, N)) := by
        unfold X10_tellApart_j78l27 X10_tellApart_j79l27
        rw [if_neg Bool.false_ne_true]
      have hst : X10_tellApart_l27 (nI r) (b, nI i, N) = if nI (i % 10) ≤ nI (i / 10) then some (.inl (b, nI i + 1, N)) else if N 7 0 ≤ nI (i % 10) then some (.inl (b, nI i + 1, N)) else if N 34 i = 0 then X10_tellApart_j79l27 b (nI r) (nI i) (nI (i / 10)) (nI (i % 10)) true N else some (.inl (b, nI i + 1, N)) := by
        unfold X10_tellApart_l27
        dsimp only
        rw [if_neg n100, (p_div i hi1).1, p_div2 i hi1, if_pos in100, e_nIc (by omega), off]
      by_cases c1 : i % 10 ≤ i / 10
      · apply same
        · intro c hc ok e hp
          unfold pm at hp
          by_cases g : c / 10 < c % 10
          · rw [if_pos g] at hp
            omega
          · rw [if_neg g] at hp
            have q0 : c / 10 < 10 := by omega
            have q1 : i / 10 = c % 10 := by omega
            have q2 : i % 10 = c / 10 := by omega
            have := p_diag hv h hc (by omega)
            omega
        · rw [hst, if_pos ((w_ltI (x := i / 10) (y := i % 10) (by omega) (by omega)).2.mpr (by omega))]
      · have c1' : ¬ nI (i % 10) ≤ nI (i / 10) := fun z => by have := (w_ltI (x := i / 10) (y := i % 10) (by omega) (by omega)).2.mp z; omega
        have h70 : N 7 0 = M1 7 0 := by rw [hN.2 7 (by decide)]
        rw [if_neg c1'] at hst
        by_cases c2 : vN M1 ≤ i % 10
        · apply same
          · intro c hc ok e hp
            unfold pm at hp
            by_cases g : c / 10 < c % 10
            · rw [if_pos g] at hp
              omega
            · rw [if_neg g] at hp
              omega
          · rw [hst, if_pos (by rw [h70]; exact (v_head hv (by omega : i % 10 ≤ 10)).1.mpr c2)]
        · rw [if_neg (by rw [h70]; exact fun z => c2 ((v_head hv (by omega : i % 10 ≤ 10)).1.mp z)), hN.1 i hi1] at hst
          have hs : i / 10 < vN M1 := by omega
          have ht : i % 10 < vN M1 := by omega
          have hpos := p_pos h hi1
          have hF := h.1.2.1 i (by omega)
          have pmi : pm i = i := by
            unfold pm
            rw [if_pos (by omega)]
          have pmc : ∀ c, c < 100 → pm c = i → c = i ∨ c = 10 * (i % 10) + i / 10 := by
            intro c hc hp
            unfold pm at hp
            by_cases g : c / 10 < c % 10
            · rw [if_pos g] at hp
              exact Or.inl hp
            · rw [if_neg g] at hp
              exact Or.inr (by omega)
          have dsym : d (10 * (i % 10) + i / 10) = d i := by
            have := p_sym2 hv h (s := i % 10) (t := i / 10) (by omega) (by omega)
            rw [es] at this
            exact this
          have dc : ∀ c, c < 100 → pm c = i → d c = d i := by
            intro c hc hp
            rcases pmc c hc hp with z | z
            · rw [z]
            · rw [z, dsym]
          by_cases c3 : d i < r
          · apply same
            · intro c hc ok e hp
              have := dc c hc hp
              omega
            · rw [hst, if_neg]
              unfold pF
              rw [if_pos ⟨⟨hs, ht⟩, Or.inl c3⟩]
              intro z
              have := (nI_eq (b := 0) (by omega) (by omega)).mp z
              omega
          · have z0 : pF M1 d r i i = 0 := by
              unfold pF
              rw [if_neg]
              rintro ⟨-, z | z⟩
              · exact c3 z
              · omega
            rw [z0, if_pos (show nI 0 = 0 from rfl)] at hst
            have hfirst := p_first hv hi h hN hr (by omega) hs ht (by rw [es]; omega) (fun a b ha hb => by
              rcases Nat.lt_or_ge 1 r with y | y
              · left
                have pp := p_pos h (c := 10 * a + b) (by omega)
                have d1 : (10 * a + b) / 10 = a := by omega
                have d2 : (10 * a + b) % 10 = b := by omega
                unfold pF
                rw [d1, d2]
                by_cases g : d (10 * a + b) < r
                · rw [if_pos ⟨⟨ha, hb⟩, Or.inl g⟩]
                · constructor
                  · intro z
                    split at z <;> omega
                  · intro z
                    omega
              · exact Or.inr (by omega)) (fun c hc => by
              have := h.1.2.1 c (by omega)
              unfold pF
              split <;> omega)
            rw [es] at hfirst
            obtain ⟨y, y1, y2⟩ := hfirst
            unfold X10_tellApart_j79l27 at hst
            rw [if_pos rfl, y1, Option.bind_some] at hst
            by_cases c4 : d i = r
            · have hy : ¬ y = -1 := by
                rcases y2 with ⟨z1, z2⟩ | ⟨j, hj, z1, z2, z3⟩
                · exfalso
                  obtain ⟨q, hq, e⟩ := x_att (by omega) h hi1 hpos (by omega)
                  exact z2 q hq (by omega)
                · rw [z1]
                  exact k_ne (by omega)
              have in2 : mm_in (nI (10 * (i % 10) + i / 10)) 100 = true := e_inb (by rw [e_nIt (by omega)]; omega) (by rw [e_nIt (by omega)]; omega)
              rw [if_neg hy, if_pos in100, (p_cell (show i % 10 < 10 by omega) (show i / 10 < 10 by omega)).1, if_pos in2, e_nIc (by omega), e_nIc (by omega)] at hst
              refine ⟨_, hst, ⟨i + 1, by omega, nI_1 i, xM_congr (xM_U (xM_U hN)) (fun c hc => ?_), ⟨fun _ => ⟨i, hi1, ⟨hs, ht⟩, c4, by omega⟩, fun _ => rfl⟩⟩, hlt⟩
              unfold wU
              by_cases g1 : c = 10 * (i % 10) + i / 10
              · rw [if_pos g1]
                have q0 : i / 10 < 10 := by omega
                have q1 : c / 10 = i % 10 := by omega
                have q2 : c % 10 = i / 10 := by omega
                have hpm : pm c = i := by
                  unfold pm
                  rw [if_neg (by omega)]
                  omega
                have := dc c hc hpm
                unfold pF
                rw [if_pos ⟨by omega, Or.inr ⟨by omega, by omega⟩⟩]
                omega
              · rw [if_neg g1]
                by_cases g2 : c = i
                · rw [if_pos g2, g2]
                  unfold pF
                  rw [if_pos ⟨⟨hs, ht⟩, Or.inr ⟨c4, by omega⟩⟩]
                  exact c4.symm
                · rw [if_neg g2]
                  have hpm : pm c ≠ i := fun z => by rcases pmc c hc z with z | z <;> contradiction
                  unfold pF
                  by_cases g3 : (c / 10 < vN M1 ∧ c % 10 < vN M1) ∧ (d c < r ∨ (d c = r ∧ pm c < i))
                  · rw [if_pos g3, if_pos ⟨g3.1, by rcases g3.2 with z | z; exact Or.inl z; exact Or.inr ⟨z.1, by omega⟩⟩]
                  · rw [if_neg g3, if_neg]
                    rintro ⟨z1, z2 | z2⟩
                    · exact g3 ⟨z1, Or.inl z2⟩
                    · exact g3 ⟨z1, Or.inr ⟨z2.1, by omega⟩⟩
            · have hy : y = -1 := by
                rcases y2 with ⟨z1, z2⟩ | ⟨j, hj, z1, z2, z3⟩
                · exact z1
                · exfalso
                  apply z2
                  intro e
                  have : d i ≤ d (pB M1 j i) + 1 := h.1.2.2 i j hi1 hj
                  omega
              rw [if_pos hy] at hst
              apply same
              · intro c hc ok e hp
                have := dc c hc hp
                omega
              · exact hst
/-- what the class's table comes to -/
def pE (M : mm_M) (d : Nat → Nat) (c : Nat) : Nat := if (c / 10 < vN M ∧ c % 10 < vN M) ∧ d c < 1000000 then d c else 0
theorem p_class {M1 M2 : mm_M} (hv : rl_val M1 M2) (hi : rl_in M1) {d : Nat → Nat} (h : pGr M1 d) : ∃ N, X10_tellApart M1 = some N ∧ xM M1 N 34 (pE M1 d) := by
  have hn := (v_n hv).2.1
  obtain ⟨y, a1, a2', a3, a4⟩ := e_fill 34 100 rfl (by omega) 0 M1
  have h0 : xM M1 y 34 (pF M1 d 1 0) := by
    refine ⟨fun i hi => ?_, a4⟩
    have := p_pos h hi
    rw [a2' i hi]
    unfold pF
    rw [if_neg (fun z => by rcases z.2 with z | z <;> omega)]
    rfl
  have main := e_loopF (step := X10_tellApart_l12) (I := fun (z : Bool × Int32 × mm_M) => ∃ r : Nat, 1 ≤ r ∧ r ≤ 10 ∧ z.2.1 = nI r ∧ xM M1 z.2.2 34 (pF M1 d r 0) ∧ (z.1 = false → ∀ s t, s < vN M1 → t < vN M1 → d (10 * s + t) < 1000000 → d (10 * s + t) < r)) (Q := fun (N : mm_M) => xM M1 N 34 (pE M1 d)) (fun z => 20 - Int32.toNatClampNeg z.2.1) ?_ (true, 1, y) ⟨1, by omega, by omega, rfl, h0, fun z => by cases z⟩ (by omega)
  · obtain ⟨N, m1, m2⟩ := main
    refine ⟨N, ?_, m2⟩
    unfold X10_tellApart
    rw [a1, Option.bind_some]
    exact m1
  · rintro ⟨b, x, N⟩ ⟨r, hr1, hr10, hx, hN, hb⟩
    dsimp only at hx hN hb
    subst hx
    have fin : (∀ s t, s < vN M1 → t < vN M1 → d (10 * s + t) < 1000000 → d (10 * s + t) < r) → xM M1 N 34 (pE M1 d) := by
      intro hall
      refine xM_congr hN (fun c hc => ?_)
      have es : 10 * (c / 10) + c % 10 = c := by omega
      unfold pF pE
      by_cases ok : c / 10 < vN M1 ∧ c % 10 < vN M1
      · by_cases g : d c < 1000000
        · have := hall _ _ ok.1 ok.2 (by rw [es]; exact g)
          rw [es] at this
          rw [if_pos ⟨ok, Or.inl this⟩, if_pos ⟨ok, g⟩]
        · rw [if_neg (fun z => by rcases z.2 with z | z <;> omega), if_neg (fun z => g z.2)]
      · rw [if_neg (fun z => ok z.1), if_neg (fun z => ok z.1)]
    unfold X10_tellApart_l12
    dsimp only
    by_cases e : r = 10
    · subst e
      rw [if_pos ((e_10 (by omega)).mpr (by omega))]
      refine Or.inr ⟨_, rfl, fin (fun s t hs ht g => ?_)⟩
      have := p_9 hv hi h hs ht g
      omega
    · rw [if_neg (fun h => by have := (e_10 (by omega)).mp h; omega)]
      cases b
      · simp only [Bool.false_eq_true, if_false]
        exact Or.inr ⟨_, rfl, fin (hb rfl)⟩
      · obtain ⟨b', N', r1, r2, r3⟩ := p_round hv hi h hr1 (by omega) hN
        simp only [if_true, r1, Option.bind_some]
        refine Or.inl ⟨_, rfl, ⟨r + 1, by omega, by omega, nI_1 r, xM_congr r2 (fun c hc => ?_), fun z => ?_⟩, ?_⟩
        · have hpm : pm c < 100 := by
            unfold pm
            split <;> omega
          unfold pF
          by_cases ok : c / 10 < vN M1 ∧ c % 10 < vN M1
          · by_cases g : d c < r + 1
            · rw [if_pos ⟨ok, by omega⟩, if_pos ⟨ok, Or.inl g⟩]
            · rw [if_neg (fun z => by rcases z.2 with z | z <;> omega), if_neg (fun z => by rcases z.2 with z | z <;> omega)]
          · rw [if_neg (fun z => ok z.1), if_neg (fun z => ok z.1)]
        · dsimp only at z
          rw [z] at r3
          intro s t hs ht g
          have he : ∀ s t, s < vN M1 → t < vN M1 → ¬ d (10 * s + t) = r := by
            intro s t hs ht e
            have d1 : (10 * s + t) / 10 = s := by omega
            have d2 : (10 * s + t) % 10 = t := by omega
            have : pL M1 d r 100 := ⟨10 * s + t, by omega, by rw [d1, d2]; exact ⟨hs, ht⟩, e, by unfold pm; split <;> omega⟩
            exact absurd (r3.mpr this) (by decide)
          rcases Nat.lt_or_ge (d (10 * s + t)) (r + 1) with y | y
          · exact y
          · exfalso
            exact p_empty hv hi h hr1 he (d (10 * s + t) - r) s t hs ht (by omega) (by omega)
        · show 20 - Int32.toNatClampNeg (nI r + 1) < 20 - Int32.toNatClampNeg (nI r)
          rw [nI_1, e_nIc (by omega), e_nIc (by omega)]
          omega
