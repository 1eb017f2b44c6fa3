def xSol (B : Nat → Nat → Nat) (p : Nat → Nat) (n t F : Nat) (g : Nat → Nat) : Prop := g t = 0 ∧ (∀ i, i < 101 → g i ≤ F) ∧ wFix B p n g
/-- above all bounds -/
def xUp (B : Nat → Nat → Nat) (p : Nat → Nat) (n t F : Nat) (c : Nat → Nat) : Prop := c t = 0 ∧ (∀ i, i < 101 → c i ≤ F) ∧ ∀ g, xSol B p n t F g → ∀ i, i < 101 → g i ≤ c i
theorem xUp_Rel {B : Nat → Nat → Nat} {p c : Nat → Nat} {n t F s q : Nat} (hn : n ≤ 101) (hB : ∀ q s, q < 8 → s < 101 → B q s < 101) (hs : s < n) (hq : q < 8) (h : xUp B p n t F c) : xUp B p n t F (wRel B p c s q) := by
  obtain ⟨h1, h2, h3⟩ := h
  refine ⟨?_, fun i hi => Nat.le_trans (wRel_le i) (h2 i hi), fun g hg i hi => ?_⟩
  · have := wRel_le (B := B) (p := p) (c := c) (s := s) (q := q) t
    omega
  · unfold wRel
    split
    · unfold wU
      split
      · rename_i e
        subst e
        have a1 := h3 g hg (B q i) (hB q i hq hi)
        have a2 := hg.2.2 i q hs hq
        omega
      · exact h3 g hg i hi
    · exact h3 g hg i hi
theorem xUp_S {B : Nat → Nat → Nat} {p c : Nat → Nat} {n t F : Nat} (hn : n ≤ 101) (hB : ∀ q s, q < 8 → s < 101 → B q s < 101) (h : xUp B p n t F c) : xUp B p n t F (wS B p c n) := wS_ind (P := xUp B p n t F) (fun c s q hs hq hc => xUp_Rel hn hB hs hq hc) h n (Nat.le_refl _)
theorem xS_lt {B : Nat → Nat → Nat} {p c : Nat → Nat} {n : Nat} (hn : n ≤ 101) (h : ¬ wFix B p n c) : wSum (wS B p c n) 101 < wSum c 101 := by
  refine wSum_lt 101 (fun i _ => wS_le i n 0 (by omega)) ?_
  rcases Classical.em (∃ s, s < 101 ∧ wS B p c n s < c s) with e | e
  · exact e
  · exfalso
    apply h
    intro s q hs hq
    have h1 := wS_at (B := B) (p := p) (c := c) hs hq
    have h2 : ¬ wS B p c n s < c s := fun h => e ⟨s, by omega, h⟩
    omega
/-- the greatest bound -/
def xGr (B : Nat → Nat → Nat) (p : Nat → Nat) (n t F : Nat) (d : Nat → Nat) : Prop := xSol B p n t F d ∧ xUp B p n t F d
theorem xGr_eq {B : Nat → Nat → Nat} {p : Nat → Nat} {n t F : Nat} {c d : Nat → Nat} (hc : xGr B p n t F c) (hd : xGr B p n t F d) {i : Nat} (hi : i < 101) : c i = d i := Nat.le_antisymm (hd.2.2.2 c hc.1 i hi) (hc.2.2.2 d hd.1 i hi)
theorem xUp_Gr {B : Nat → Nat → Nat} {p : Nat → Nat} {n t F : Nat} {c : Nat → Nat} (hc : xUp B p n t F c) (hf : wFix B p n c) : xGr B p n t F c := ⟨⟨hc.1, hc.2.1, hf⟩, hc⟩
theorem x0_Up {B : Nat → Nat → Nat} {p : Nat → Nat} {n t F : Nat} : xUp B p n t F (w0 t F) := by
  refine ⟨by unfold w0; rw [if_pos rfl], fun i _ => ?_, fun g hg i hi => ?_⟩
  · unfold w0
    split <;> omega
  · unfold w0
    split
    · rename_i e
      rw [e, hg.1]
      exact Nat.le_refl _
    · exact hg.2.1 i hi
/-- what is neither 0 nor far is reached by a question -/
theorem x_att {B : Nat → Nat → Nat} {p : Nat → Nat} {n t F : Nat} {d : Nat → Nat} (hn : n ≤ 101) (hd : xGr B p n t F d) {s : Nat} (hs : s < n) (h0 : 0 < d s) (hF : d s < F) : ∃ q, q < 8 ∧ d s = d (B q s) + p q := by
  rcases Classical.em (∃ q, q < 8 ∧ d s = d (B q s) + p q) with e | e
  · exact e
  · exfalso
    have sol : xSol B p n t F (wU d s (d s + 1)) := by
      have hts : ¬ t = s := by
        intro e
        have := hd.1.1
        rw [e] at this
        omega
      refine ⟨?_, fun j hj => ?_, fun s' q hs' hq => ?_⟩
      · unfold wU
        rw [if_neg hts]
        exact hd.1.1
      · unfold wU
        have := hd.1.2.1 j hj
        split <;> omega
      · have h1 := hd.1.2.2 s' q hs' hq
        unfold wU
        by_cases e1 : s' = s
        · subst e1
          have h2 : ¬ d s' = d (B q s') + p q := fun h => e ⟨q, hq, h⟩
          rw [if_pos rfl]
          split
          · rename_i e3
            rw [e3] at h1 h2
            omega
          · omega
        · rw [if_neg e1]
          split
          · rename_i e3
            rw [e3] at h1
            omega
          · omega
    have h5 := hd.2.2.2 _ sol s (by omega)
    unfold wU at h5
    rw [if_pos rfl] at h5
    omega
/-- a row a of the memory that holds c; all else is as in M0 -/
def xM (M0 N : mm_M) (a : Nat) (c : Nat → Nat) : Prop := (∀ i, i < 100 → N a i = nI (c i)) ∧ ∀ b, b ≠ a → N b = M0 b
theorem xM_U {M0 N : mm_M} {a s v : Nat} {c : Nat → Nat} (h : xM M0 N a c) : xM M0 (mm_U N a s (nI v)) a (wU c s v) := by
  refine ⟨fun i hi => ?_, fun b hb => ?_⟩
  · rw [e_U]
    unfold wU
    by_cases e : i = s
    · rw [if_pos ⟨rfl, e⟩, if_pos e]
    · rw [if_neg (fun h => e h.2), if_neg e]
      exact h.1 i hi
  · rw [mm_U_ne b hb]
    exact h.2 b hb
theorem x_inner {B : Nat → Nat → Nat} {p : Nat → Nat} {M0 : mm_M} {a F s : Nat} {step : Bool × Int32 × mm_M → Option ((Bool × Int32 × mm_M) ⊕ (Bool × mm_M))}
    (hs : ∀ q b N c, q < 8 → xM M0 N a c → (∀ i, i < 101 → c i ≤ F) → c 100 = 0 → step (b, nI q, N) = if c (B q s) + p q < c s then some (.inl (true, nI q + 1, mm_U N a s (nI (c (B q s) + p q)))) else some (.inl (b, nI q + 1, N)))
    (he : ∀ b N, step (b, nI 8, N) = some (.inr (b, N))) {N : mm_M} {c : Nat → Nat} (hN : xM M0 N a c) (hF : ∀ i, i < 101 → c i ≤ F) (h0 : c 100 = 0) (b : Bool) :
    ∃ b' N', mm_loop step mm_fuel (b, 0, N) = some (b', N') ∧ xM M0 N' a (wQ B p c s 8) ∧ (b' = true ↔ b = true ∨ ¬ wQ B p c s 8 = c) := by
  have := e_loopF (step := step) (I := fun (z : Bool × Int32 × mm_M) => ∃ q : Nat, q ≤ 8 ∧ z.2.1 = nI q ∧ xM M0 z.2.2 a (wQ B p c s q) ∧ (z.1 = true ↔ b = true ∨ ¬ wQ B p c s q = c)) (Q := fun (r : Bool × mm_M) => xM M0 r.2 a (wQ B p c s 8) ∧ (r.1 = true ↔ b = true ∨ ¬ wQ B p c s 8 = c)) (fun z => 20 - Int32.toNatClampNeg z.2.1) ?_ (b, 0, N) ⟨0, by omega, rfl, hN, by show b = true ↔ b = true ∨ ¬ c = c; simp⟩ (by omega)
  · obtain ⟨⟨b', N'⟩, h1, h2, h3⟩ := this
    exact ⟨b', N', h1, h2, h3⟩
  · rintro ⟨b1, x, N1⟩ ⟨q, hq, hx, h1, h2⟩
    dsimp only at hx h1 h2
    subst hx
    by_cases e : q = 8
    · subst e
      exact Or.inr ⟨_, he b1 N1, h1, h2⟩
    · have hq8 : q < 8 := by omega
      have hle : ∀ i, wQ B p c s q i ≤ c i := fun i => wQ_le i q 0 (by omega)
      have h3 := hs q b1 N1 _ hq8 h1 (fun i hi => Nat.le_trans (hle i) (hF i hi)) (by have := hle 100; omega)
      left
      have hlt : 20 - Int32.toNatClampNeg (nI q + 1) < 20 - Int32.toNatClampNeg (nI q) := by
        rw [nI_1, e_nIc (by omega), e_nIc (by omega)]
        omega
      by_cases f : wQ B p c s q (B q s) + p q < wQ B p c s q s
      · rw [if_pos f] at h3
        refine ⟨_, h3, ⟨q + 1, by omega, nI_1 q, ?_, ?_⟩, hlt⟩
        · show xM M0 _ a (wRel B p (wQ B p c s q) s q)
          unfold wRel
          rw [if_pos f]
          exact xM_U h1
        · show true = true ↔ b = true ∨ ¬ wRel B p (wQ B p c s q) s q = c
          refine ⟨fun _ => Or.inr ?_, fun _ => rfl⟩
          unfold wRel
          rw [if_pos f]
          intro h4
          have h5 : wU (wQ B p c s q) s (wQ B p c s q (B q s) + p q) s = c s := by rw [h4]
          unfold wU at h5
          rw [if_pos rfl] at h5
          have := hle s
          omega
      · rw [if_neg f] at h3
        refine ⟨_, h3, ⟨q + 1, by omega, nI_1 q, ?_, ?_⟩, hlt⟩
        · show xM M0 _ a (wRel B p (wQ B p c s q) s q)
          unfold wRel
          rw [if_neg f]
          exact h1
        · show b1 = true ↔ b = true ∨ ¬ wRel B p (wQ B p c s q) s q = c
          unfold wRel
          rw [if_neg f]
          exact h2
theorem x_round {B : Nat → Nat → Nat} {p : Nat → Nat} {M0 : mm_M} {a F n : Nat} (hn : n ≤ 101) {step : Bool × Int32 × mm_M → Option ((Bool × Int32 × mm_M) ⊕ (Bool × mm_M))}
    (hs : ∀ s b N c, s < n → xM M0 N a c → (∀ i, i < 101 → c i ≤ F) → c 100 = 0 → ∃ b' N', step (b, nI s, N) = some (.inl (b', nI s + 1, N')) ∧ xM M0 N' a (wQ B p c s 8) ∧ (b' = true ↔ b = true ∨ ¬ wQ B p c s 8 = c))
    (he : ∀ b N c, xM M0 N a c → step (b, nI n, N) = some (.inr (b, N))) {N : mm_M} {c : Nat → Nat} (hN : xM M0 N a c) (hF : ∀ i, i < 101 → c i ≤ F) (h0 : c 100 = 0) :
    ∃ b' N', mm_loop step mm_fuel (false, 0, N) = some (b', N') ∧ xM M0 N' a (wS B p c n) ∧ (b' = true ↔ ¬ wS B p c n = c) := by
  have := e_loopF (step := step) (I := fun (z : Bool × Int32 × mm_M) => ∃ s : Nat, s ≤ n ∧ z.2.1 = nI s ∧ xM M0 z.2.2 a (wS B p c s) ∧ (z.1 = true ↔ ¬ wS B p c s = c)) (Q := fun (r : Bool × mm_M) => xM M0 r.2 a (wS B p c n) ∧ (r.1 = true ↔ ¬ wS B p c n = c)) (fun z => 200 - Int32.toNatClampNeg z.2.1) ?_ (false, 0, N) ⟨0, by omega, rfl, hN, by show false = true ↔ ¬ c = c; simp⟩ (by omega)
  · obtain ⟨⟨b', N'⟩, h1, h2, h3⟩ := this
    exact ⟨b', N', h1, h2, h3⟩
  · rintro ⟨b1, x, N1⟩ ⟨s, hsn, hx, h1, h2⟩
    dsimp only at hx h1 h2
    subst hx
    by_cases e : s = n
    · subst e
      exact Or.inr ⟨_, he b1 N1 _ h1, h1, h2⟩
    · have hle : ∀ i, wS B p c s i ≤ c i := fun i => wS_le i s 0 (by omega)
      obtain ⟨b', N', h3, h4, h5⟩ := hs s b1 N1 _ (by omega) h1 (fun i hi => Nat.le_trans (hle i) (hF i hi)) (by have := hle 100; omega)
      refine Or.inl ⟨_, h3, ⟨s + 1, by omega, nI_1 s, h4, ?_⟩, ?_⟩
      · show b' = true ↔ ¬ wQ B p (wS B p c s) s 8 = c
        rw [h5, h2]
        constructor
        · rintro (h6 | h6) h7
          · apply h6
            funext i
            have a1 := hle i
            have a2 : wQ B p (wS B p c s) s 8 i ≤ wS B p c s i := wQ_le i 8 0 (by omega)
            rw [h7] at a2
            omega
          · apply h6
            rw [h7]
            funext i
            have a1 := hle i
            have a2 : wQ B p (wS B p c s) s 8 i ≤ wS B p c s i := wQ_le i 8 0 (by omega)
            rw [h7] at a2
            omega
        · intro h6
          by_cases h7 : wS B p c s = c
          · right
            rw [h7]
            rw [h7] at h6
            exact h6
          · exact Or.inl h7
      · show 200 - Int32.toNatClampNeg (nI s + 1) < 200 - Int32.toNatClampNeg (nI s)
        rw [nI_1, e_nIc (by omega), e_nIc (by omega)]
        omega
/-- the pairs of states as places, 100: told apart -/
def pOk (M : mm_M) (c : Nat) : Prop := c / 10 < vN M ∧ c % 10 < vN M
def pB (M : mm_M) (q c : Nat) : Nat := if c / 10 < vN M ∧ c % 10 < vN M then (if vA M q (c / 10) = vA M q (c % 10) then 10 * vB M q (c / 10) + vB M q (c % 10) else 100) else c
theorem p_B {M1 M2 : mm_M} (hv : rl_val M1 M2) {q c : Nat} (hq : q < 8) (hc : c < 101) : pB M1 q c < 101 := by
  have hn := (v_n hv).2.1
  unfold pB
  split
  · rename_i h
    have h1 := (v_B hv hq (show c / 10 < 10 by omega)).2
    have h2 := (v_B hv hq (show c % 10 < 10 by omega)).2
    split <;> omega
  · exact hc
theorem p_div : ∀ c, c < 100 → nI c / 10 = nI (c / 10) ∧ nI c - nI c / 10 * 10 = nI (c % 10) := by decide +kernel
theorem p_cell {s t : Nat} (hs : s < 10) (ht : t < 10) : nI s * 10 + nI t = nI (10 * s + t) ∧ (10 : Int32) * nI s + nI t = nI (10 * s + t) := by
  have e1 : nI s * nI 10 = nI (s * 10) := pk_mul s 10
  have e2 : nI 10 * nI s = nI (10 * s) := pk_mul 10 s
  have k : (10 : Int32) = nI 10 := rfl
  rw [k, e1, e2, nI_add, nI_add, Nat.mul_comm s 10]
  exact ⟨rfl, rfl⟩
theorem p_100 {i : Nat} (hi : i ≤ 1000) : ((100 : Int32) ≤ nI i ↔ 100 ≤ i) := by
  show (nI 100 ≤ nI i ↔ _)
  rw [e_le, e_nIt (by omega), e_nIt (by omega)]
  omega
/-- the reference's step -/
theorem p_then {M1 M2 N : mm_M} (hv : rl_val M1 M2) {c : Nat → Nat} (hN : xM M2 N 30 c) (h0 : c 100 = 0) {q s t : Nat} (hq : q < 8) (hs : s < vN M1) (ht : t < vN M1) : X12_partsThen (nI s) (nI t) (nI q) N = some (nI (c (pB M1 q (10 * s + t)) + 1)) := by
  have hn := (v_n hv).2.1
  have a1 : X12_answer (nI q) (nI s) N = some (vA M1 q s) := by
    rw [← v_ans2 hv hq (by omega)]
    unfold X12_answer
    rw [hN.2 5 (by decide)]
  have a2 : X12_answer (nI q) (nI t) N = some (vA M1 q t) := by
    rw [← v_ans2 hv hq (by omega)]
    unfold X12_answer
    rw [hN.2 5 (by decide)]
  have b1 : X12_behind (nI q) (nI s) N = some (nI (vB M1 q s)) := by
    rw [← v_beh2 hv hq (by omega)]
    unfold X12_behind
    rw [hN.2 6 (by decide)]
  have b2 : X12_behind (nI q) (nI t) N = some (nI (vB M1 q t)) := by
    rw [← v_beh2 hv hq (by omega)]
    unfold X12_behind
    rw [hN.2 6 (by decide)]
  have l1 := (v_B hv hq (show s < 10 by omega)).2
  have l2 := (v_B hv hq (show t < 10 by omega)).2
  have d1 : (10 * s + t) / 10 = s := by omega
  have d2 : (10 * s + t) % 10 = t := by omega
  unfold X12_partsThen pB
  rw [d1, d2, if_pos ⟨hs, ht⟩, a1, Option.bind_some, a2, Option.bind_some]
  by_cases e : vA M1 q s = vA M1 q t
  · have hin : mm_in (nI (10 * vB M1 q s + vB M1 q t)) 100 = true := e_inb (by rw [e_nIt (by omega)]; omega) (by rw [e_nIt (by omega)]; omega)
    rw [if_pos e, if_pos e, b1, Option.bind_some, b2, Option.bind_some, (p_cell l1 l2).2, if_pos hin, e_nIc (by omega), hN.1 _ (by omega), nI_1]
  · rw [if_neg e, if_neg e, h0]
    rfl
theorem p_quiet {B : Nat → Nat → Nat} {p c : Nat → Nat} {s : Nat} (h : ∀ q, q < 8 → B q s = s) : wQ B p c s 8 = c := by
  refine wQ_ind (P := fun d => d = c) ?_ rfl 8 (Nat.le_refl _)
  rintro d q hq rfl
  unfold wRel
  rw [h q hq, if_neg (by omega)]
/-- the reference's table of pairs -/
theorem p_ref {M1 M2 : mm_M} (hv : rl_val M1 M2) : ∃ N d, X12_laysParts M2 = some N ∧ xM M2 N 30 d ∧ xGr (pB M1) (fun _ => 1) 100 100 1000000 d := by
  have hn := v_n hv
  have hB : ∀ q s, q < 8 → s < 101 → pB M1 q s < 101 := fun q s hq hs => p_B hv hq hs
  obtain ⟨y, a1, a2', a3, a4⟩ := e_fillG (step := X12_laysParts_l2) 30 100 (by omega) (fun i => nI (w0 100 1000000 i)) (by
    intro i hi N
    unfold X12_laysParts_l2
    dsimp only
    have in100 : mm_in (nI i) 100 = true := e_inb (by rw [e_nIt (by omega)]; omega) (by rw [e_nIt (by omega)]; omega)
    rw [if_neg (fun h => by have := (p_100 (by omega)).mp h; omega), if_pos in100, e_nIc (show i < 2147483648 by omega)]
    unfold w0
    rw [if_neg (by omega)]
    rfl) (by
    intro N
    unfold X12_laysParts_l2
    dsimp only
    rw [if_pos ((p_100 (by omega)).mpr (by omega))]) M2
  have inner : ∀ s b N c, s < 100 → xM M2 N 30 c → (∀ i, i < 101 → c i ≤ 1000000) → c 100 = 0 → ∃ b' N', mm_loop (X12_laysParts_l53 (nI s) (nI (s / 10)) (nI (s % 10))) mm_fuel (b, 0, N) = some (b', N') ∧ xM M2 N' 30 (wQ (pB M1) (fun _ => 1) c s 8) ∧ (b' = true ↔ b = true ∨ ¬ wQ (pB M1) (fun _ => 1) c s 8 = c) := by
    intro s b N c hs hN hF h0
    by_cases ok : s / 10 < vN M1 ∧ s % 10 < vN M1
    · refine x_inner (F := 1000000) ?_ ?_ hN hF h0 b
      · intro q b N c hq hN hF h0
        have c8 : ¬ (8 : Int32) ≤ nI q := fun h => by have := (e_8 (by omega)).mp h; omega
        have in100 : mm_in (nI s) 100 = true := e_inb (by rw [e_nIt (by omega)]; omega) (by rw [e_nIt (by omega)]; omega)
        have n1 : ¬ N 0 6 ≤ nI (s / 10) := by
          rw [hN.2 0 (by decide)]
          exact fun h => by have := (v_head hv (by omega : s / 10 ≤ 10)).2.mp h; omega
        have n2 : ¬ N 0 6 ≤ nI (s % 10) := by
          rw [hN.2 0 (by decide)]
          exact fun h => by have := (v_head hv (by omega : s % 10 ≤ 10)).2.mp h; omega
        have hBs := hB q s hq (by omega)
        have l1 := hF _ hBs
        have l2 := hF s (by omega)
        have es : 10 * (s / 10) + s % 10 = s := by omega
        have th := p_then hv hN h0 hq ok.1 ok.2
        rw [es] at th
        unfold X12_laysParts_l53
        dsimp only
        simp only [if_neg c8, if_neg n1, if_neg n2, th, Option.bind_some, if_pos in100, e_nIc (show s < 2147483648 by omega), hN.1 s hs]
        by_cases e : c (pB M1 q s) + 1 < c s
        · rw [if_pos e, if_pos ((w_ltI (by omega) (by omega)).1.mpr e)]
        · rw [if_neg e, if_neg (fun h => e ((w_ltI (by omega) (by omega)).1.mp h))]
      · intro b N
        unfold X12_laysParts_l53
        dsimp only
        rw [if_pos ((e_8 (by omega)).mpr (by omega))]
    · have hq : wQ (pB M1) (fun _ => 1) c s 8 = c := by
        refine p_quiet (fun q hq => ?_)
        unfold pB
        rw [if_neg ok]
      rw [hq]
      refine ⟨b, N, ?_, hN, by simp⟩
      refine e_trace0 (fun _ => (b, 0, N)) 0 (by omega) _ (fun i hi => by omega) ?_
      unfold X12_laysParts_l53
      dsimp only
      have h06 : N 0 6 = M2 0 6 := by rw [hN.2 0 (by decide)]
      rw [if_neg (by decide)]
      by_cases o1 : s / 10 < vN M1
      · rw [if_neg (by rw [h06]; exact fun h => by have := (v_head hv (by omega : s / 10 ≤ 10)).2.mp h; omega), if_pos (by rw [h06]; exact (v_head hv (by omega : s % 10 ≤ 10)).2.mpr (by omega))]
      · rw [if_pos (by rw [h06]; exact (v_head hv (by omega : s / 10 ≤ 10)).2.mpr (by omega))]
  have round : ∀ N c, xM M2 N 30 c → (∀ i, i < 101 → c i ≤ 1000000) → c 100 = 0 → ∃ b' N', mm_loop X12_laysParts_l33 mm_fuel (false, 0, N) = some (b', N') ∧ xM M2 N' 30 (wS (pB M1) (fun _ => 1) c 100) ∧ (b' = true ↔ ¬ wS (pB M1) (fun _ => 1) c 100 = c) := by
    intro N c hN hF h0
    refine x_round (by omega) (F := 1000000) ?_ ?_ hN hF h0
    · intro s b N c hs hN hF h0
      obtain ⟨b', N', h1, h2, h3⟩ := inner s b N c (by omega) hN hF h0
      refine ⟨b', N', ?_, h2, h3⟩
      unfold X12_laysParts_l33
      dsimp only
      rw [if_neg (fun h => by have := (p_100 (by omega)).mp h; omega), (p_div s (by omega)).1, ← (p_div s (by omega)).1, (p_div s (by omega)).2, (p_div s (by omega)).1, h1, Option.bind_some]
    · intro b N c hN
      unfold X12_laysParts_l33
      dsimp only
      rw [if_pos ((p_100 (by omega)).mpr (by omega))]
  have main := e_loopF (step := X12_laysParts_l25) (I := fun (z : Bool × mm_M) => ∃ (c : Nat → Nat), xM M2 z.2 30 c ∧ xUp (pB M1) (fun _ => 1) 100 100 1000000 c ∧ (z.1 = false → wFix (pB M1) (fun _ => 1) 100 c)) (Q := fun (r : mm_M) => ∃ c, xM M2 r 30 c ∧ xGr (pB M1) (fun _ => 1) 100 100 1000000 c) (fun z => 2 * wSum (fun i => Int32.toNatClampNeg (z.2 30 i)) 100 + (if z.1 = true then 1 else 0)) ?_ (true, y) ⟨w0 100 1000000, ⟨a2', a4⟩, x0_Up, by simp⟩ ?_
  · obtain ⟨N, m1, c, m2, m3⟩ := main
    refine ⟨N, c, ?_, m2, m3⟩
    unfold X12_laysParts
    rw [a1, Option.bind_some]
    exact m1
  · rintro ⟨b, N⟩ ⟨c, g1, g2, g4⟩
    dsimp only at g1 g4
    unfold X12_laysParts_l25
    dsimp only
    have hsum : ∀ (N : mm_M) c, xM M2 N 30 c → (∀ i, i < 101 → c i ≤ 1000000) → c 100 = 0 → wSum (fun i => Int32.toNatClampNeg (N 30 i)) 100 = wSum c 101 := by
      intro N c h hF h0
      have e : ∀ k, k ≤ 100 → wSum (fun i => Int32.toNatClampNeg (N 30 i)) k = wSum c k := by
        intro k
        induction k with
        | zero => intro _; rfl
        | succ k ih =>
          intro hk
          show wSum (fun i => Int32.toNatClampNeg (N 30 i)) k + Int32.toNatClampNeg (N 30 k) = wSum c k + c k
          have := hF k (by omega)
          rw [ih (by omega), h.1 k (by omega), e_nIc (by omega)]
      rw [e 100 (Nat.le_refl _)]
      show _ = wSum c 100 + c 100
      omega
    cases b
    · simp only [Bool.false_eq_true, if_false]
      exact Or.inr ⟨_, rfl, c, g1, xUp_Gr g2 (g4 rfl)⟩
    · obtain ⟨b', N', r1, r2, r3⟩ := round N c g1 g2.2.1 g2.1
      have hUp := xUp_S (by omega) hB g2
      simp only [if_true, r1, Option.bind_some]
      refine Or.inl ⟨_, rfl, ⟨_, r2, hUp, fun h => ?_⟩, ?_⟩
      · dsimp only at h
        rw [h] at r3
        have : wS (pB M1) (fun _ => 1) c 100 = c := by
          rcases Classical.em (wS (pB M1) (fun _ => 1) c 100 = c) with z | z
          · exact z
          · exact absurd (r3.mpr z) (by decide)
        rw [this]
        exact wS_Fix this
      · rw [hsum N' _ r2 hUp.2.1 hUp.1, hsum N c g1 g2.2.1 g2.1]
        cases b'
        · have hle := wSum_le (c := wS (pB M1) (fun _ => 1) c 100) (d := c) 101 (fun i _ => wS_le i 100 0 (by omega))
          simp only [Bool.false_eq_true, if_false]
          omega
        · have hne := r3.mp rfl
          have := xS_lt (B := pB M1) (p := fun _ => 1) (c := c) (n := 100) (by omega) (fun h => hne (wFix_S h))
          simp only [if_true]
          omega
  · have hle : ∀ k, k ≤ 100 → wSum (fun i => Int32.toNatClampNeg (y 30 i)) k ≤ 1000000 * k := by
      intro k
      induction k with
      | zero => intro _; exact Nat.le_refl _
      | succ k ih =>
        intro hk
        have h1 := ih (by omega)
        show wSum (fun i => Int32.toNatClampNeg (y 30 i)) k + Int32.toNatClampNeg (y 30 k) ≤ _
        have h2 : w0 100 1000000 k ≤ 1000000 := by
          unfold w0
          split <;> omega
        rw [a2' k (by omega), e_nIc (by omega)]
        omega
    have := hle 100 (Nat.le_refl _)
    simp only [if_true]
    omega
