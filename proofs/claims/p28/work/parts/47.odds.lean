/-- a loop that counts from a to n with no more state; where it ends -/
theorem e_forab {ρ : Type} {step : Int32 → Option (Int32 ⊕ ρ)} (a n : Nat) (han : a ≤ n) (hn : n < 1000000) (I : Nat → Prop) (Q : ρ → Prop) (hs : ∀ i, a ≤ i → i < n → I i → (step (nI i) = some (.inl (nI i + 1)) ∧ I (i + 1)) ∨ ∃ r, step (nI i) = some (.inr r) ∧ Q r) (he : I n → ∃ r, step (nI n) = some (.inr r) ∧ Q r) (h0 : I a) : ∃ r, mm_loop step mm_fuel (nI a) = some r ∧ Q r := by
  refine e_loopF (I := fun (s : Int32) => ∃ i : Nat, a ≤ i ∧ i ≤ n ∧ s = nI i ∧ I i) (Q := Q) (fun s => n - Int32.toNatClampNeg s) ?_ (nI a) ⟨a, by omega, han, rfl, h0⟩ (by omega)
  rintro x ⟨i, hai, hi, rfl, h⟩
  by_cases c : i = n
  · subst c
    exact Or.inr (he h)
  · rcases hs i hai (by omega) h with ⟨e, h'⟩ | h'
    · refine Or.inl ⟨_, e, ⟨i + 1, by omega, by omega, nI_1 i, h'⟩, ?_⟩
      rw [nI_1, e_nIc (by omega), e_nIc (by omega)]
      omega
    · exact Or.inr h'
theorem od_below {M1 M2 : mm_M} (ht : rl_tape M1 M2) {a n c : Nat} (han : a ≤ n) (hn : n ≤ tN M1) (hc : c < 1000) : ∃ b, X7_isBelow (nI a) (nI n) (nI c) M1 = some b ∧ (b = true ↔ ∀ i, a ≤ i → i < n → tB M1 i < c) := by
  have hT := t_n ht
  unfold X7_isBelow
  refine e_forab (step := X7_isBelow_l3 (nI n) (nI c) M1) a n han (by omega) (I := fun k => ∀ i, a ≤ i → i < k → tB M1 i < c) (Q := fun b => (b = true ↔ ∀ i, a ≤ i → i < n → tB M1 i < c)) ?_ ?_ (fun i h1 h2 => by omega)
  · intro k hak hkn hI
    have c0 : ¬ nI n ≤ nI k := by
      rw [e_le, e_nIt (by omega), e_nIt (by omega)]
      omega
    have hb := (t_b ht (show k < tN M1 by omega)).2
    unfold X7_isBelow_l3
    rw [if_neg c0, t_byte ht (by omega), Option.bind_some]
    by_cases d : tB M1 k < c
    · rw [if_pos ((nI_ltI (by omega) (by omega)).mpr d)]
      refine Or.inl ⟨rfl, fun i h1 h2 => ?_⟩
      by_cases ci : i = k
      · subst ci
        exact d
      · exact hI i h1 (by omega)
    · rw [if_neg (fun h => d ((nI_ltI (by omega) (by omega)).mp h))]
      refine Or.inr ⟨false, rfl, ?_⟩
      simp only [Bool.false_eq_true, false_iff]
      intro h
      exact d (h k hak hkn)
  · intro hI
    unfold X7_isBelow_l3
    rw [if_pos (Int32.le_refl _)]
    exact ⟨true, rfl, by simp only [true_iff]; exact hI⟩
/-- where a row of questions on the tape leads -/
def odAt (M : mm_M) (s : Nat) : Nat → Nat
  | 0 => s
  | i + 1 => vB M (tB M i) (odAt M s i)
theorem od_lt {M1 M2 : mm_M} (hv : rl_val M1 M2) {n : Nat} (hq : ∀ i, i < n → tB M1 i < 8) {s : Nat} (hs : s < 10) : ∀ i, i ≤ n → odAt M1 s i < 10 := by
  intro i
  induction i with
  | zero => intro _; exact hs
  | succ i ih => intro h; exact (v_B hv (hq i (by omega)) (ih (by omega))).2
def odAns (M : mm_M) (s : Nat) : Nat → Int32
  | 0 => 0
  | i + 1 => vA M (tB M i) (odAt M s i)
theorem od_in1 {M1 M2 : mm_M} (hv : rl_val M1 M2) (ht : rl_tape M1 M2) {n : Nat} (hn : n ≤ tN M1) (hq : ∀ i, i < n → tB M1 i < 8) {s : Nat} (hs : s < 10) (x4 x5 x6 x7 x8 x9 : Int32) : mm_loop (X5_share_l38 (nI n) x4 x5 x6 x7 x8 x9 M1) mm_fuel (nI s, 0, 0) = some (odAns M1 s n) := by
  have hT := t_n ht
  refine e_trace0 (fun i => (nI (odAt M1 s i), odAns M1 s i, nI i)) n (by omega) _ ?_ ?_
  · intro i hi
    have hat := od_lt hv hq hs i (by omega)
    have c0 : ¬ nI n ≤ nI i := by
      rw [e_le, e_nIt (by omega), e_nIt (by omega)]
      omega
    unfold X5_share_l38
    dsimp only
    rw [if_neg c0, t_byte ht (by omega), Option.bind_some, v_ans (hq i hi) hat, v_beh hv (hq i hi) hat, nI_1]
    rfl
  · unfold X5_share_l38
    dsimp only
    rw [if_pos (Int32.le_refl _)]
theorem od_in2 {M1 M2 N : mm_M} (hv : rl_val M1 N) (ht : rl_tape M1 M2) (hN : N 7 = M2 7) {n : Nat} (h1 : 1 ≤ n) (hn : n ≤ tN M1) (hq : ∀ i, i < n → tB M1 i < 8) {s : Nat} (hs : s < 10) : X12_lastFrom (nI s) (nI n) N = some (odAns M1 s n) := by
  have hT := t_n ht
  obtain ⟨m, rfl⟩ : ∃ m, n = m + 1 := ⟨n - 1, by omega⟩
  unfold X12_lastFrom
  have e1 : nI (m + 1) - 1 = nI m := nI_pred m
  have e : mm_loop (X12_lastFrom_l5 (nI (m + 1)) N) mm_fuel (nI s, 0) = some (nI (odAt M1 s m)) := by
    refine e_trace0 (fun i => (nI (odAt M1 s i), nI i)) m (by omega) _ ?_ ?_
    · intro i hi
      have hat := od_lt hv hq hs i (by omega)
      have c0 : ¬ nI m ≤ nI i := by
        rw [e_le, e_nIt (by omega), e_nIt (by omega)]
        omega
      unfold X12_lastFrom_l5
      dsimp only
      rw [e1, if_neg c0, t_octet ht hN (by omega), Option.bind_some, v_beh2 hv (hq i (by omega)) hat, Option.bind_some, nI_1]
      rfl
    · unfold X12_lastFrom_l5
      dsimp only
      rw [e1, if_pos (Int32.le_refl _)]
  have hat := od_lt hv hq hs m (by omega)
  rw [e, Option.bind_some, e1, t_octet ht hN (by omega), Option.bind_some, v_ans2 hv (hq m (by omega)) hat]
  rfl
/-- the weights added up: of those with the answer, of all -/
def odSum (M : mm_M) (n : Nat) (w : Int32) : Nat → Nat
  | 0 => 0
  | s + 1 => odSum M n w s + if odAns M s n = w then tB M (n + s) else 0
def odAll (M : mm_M) (n : Nat) : Nat → Nat
  | 0 => 0
  | s + 1 => odAll M n s + tB M (n + s)
theorem od_le {M : mm_M} {n : Nat} {w : Int32} {k : Nat} (hw : ∀ s, s < k → tB M (n + s) < 26) : ∀ s, s ≤ k → odSum M n w s ≤ odAll M n s ∧ odAll M n s ≤ 25 * s := by
  intro s
  induction s with
  | zero => intro _; exact ⟨Nat.le_refl _, Nat.le_refl _⟩
  | succ s ih =>
    intro h
    have h1 := ih (by omega)
    have h2 := hw s (by omega)
    show odSum M n w s + (if _ then _ else _) ≤ odAll M n s + tB M (n + s) ∧ odAll M n s + tB M (n + s) ≤ 25 * (s + 1)
    split <;> omega
theorem od_gcd1 {a b : Nat} (hb : b ≤ 250) (ha : a ≤ 250) : X5_commonDivisor (nI a) (nI b) = some (nI (Nat.gcd a b)) := by
  unfold X5_commonDivisor
  have := e_loopF (step := X5_commonDivisor_l7) (I := fun (s : Int32 × Int32 × Int32) => ∃ g l t : Nat, g ≤ 250 ∧ l + t ≤ 250 ∧ s = (nI g, nI l, nI t) ∧ Nat.gcd l g = Nat.gcd a b) (Q := fun r => r = nI (Nat.gcd a b)) (fun s => Int32.toNatClampNeg s.2.1) ?_ (nI b, nI a, 0) ⟨b, a, 0, hb, by omega, rfl, rfl⟩ (by show Int32.toNatClampNeg (nI a) < _; rw [e_nIc (by omega)]; omega)
  · obtain ⟨r, e, rfl⟩ := this
    exact e
  · rintro s ⟨g, l, t, hg, hl, rfl, hgcd⟩
    unfold X5_commonDivisor_l7
    dsimp only
    have q1 : (250 : Int32) ≤ nI t ↔ 250 ≤ t := by
      rw [e_le, e_nIt (by omega)]
      show (250 : Int) ≤ t ↔ _
      omega
    have q2 : nI l ≤ 0 ↔ l = 0 := by
      rw [e_le, e_nIt (by omega)]
      show (l : Int) ≤ 0 ↔ _
      omega
    by_cases c : l = 0
    · subst c
      rw [if_pos (q2.mpr rfl), ite_self]
      rw [Nat.gcd_zero_left] at hgcd
      exact Or.inr ⟨_, rfl, by rw [hgcd]⟩
    · have hz : ¬ nI l = 0 := nI_ne0 (by omega) (by omega)
      rw [if_neg (fun h => by have := q1.mp h; omega), if_neg (fun h => c (q2.mp h)), if_pos hz, pk_rem (by omega) (by omega) (by omega)]
      have hm := Nat.mod_lt g (show 0 < l by omega)
      refine Or.inl ⟨_, rfl, ⟨l, g % l, t + 1, by omega, by omega, by rw [nI_1], ?_⟩, ?_⟩
      · rw [← hgcd, Nat.gcd_rec l g]
      · show Int32.toNatClampNeg (nI (g % l)) < Int32.toNatClampNeg (nI l)
        rw [e_nIc (by omega), e_nIc (by omega)]
        exact hm
theorem od_gcd2 {a b : Nat} (hb : b ≤ 250) (ha : a ≤ 250) : X12_gcd (nI b) (nI a) = some (nI (Nat.gcd a b)) := by
  unfold X12_gcd
  have := e_loopF (step := X12_gcd_l4) (I := fun (s : Int32 × Int32) => ∃ g l : Nat, g ≤ 250 ∧ l ≤ 250 ∧ s = (nI g, nI l) ∧ Nat.gcd l g = Nat.gcd a b) (Q := fun r => r = nI (Nat.gcd a b)) (fun s => Int32.toNatClampNeg s.2) ?_ (nI b, nI a) ⟨b, a, hb, by omega, rfl, rfl⟩ (by show Int32.toNatClampNeg (nI a) < _; rw [e_nIc (by omega)]; omega)
  · obtain ⟨r, e, rfl⟩ := this
    exact e
  · rintro s ⟨g, l, hg, hl, rfl, hgcd⟩
    unfold X12_gcd_l4
    dsimp only
    by_cases c : l = 0
    · subst c
      rw [if_pos nI_0]
      rw [Nat.gcd_zero_left] at hgcd
      exact Or.inr ⟨_, rfl, by rw [hgcd]⟩
    · have hz : ¬ nI l = 0 := nI_ne0 (by omega) (by omega)
      rw [if_neg hz, pk_rem (by omega) (by omega) (by omega)]
      have hm := Nat.mod_lt g (show 0 < l by omega)
      refine Or.inl ⟨_, rfl, ⟨l, g % l, by omega, by omega, rfl, ?_⟩, ?_⟩
      · rw [← hgcd, Nat.gcd_rec l g]
      · show Int32.toNatClampNeg (nI (g % l)) < Int32.toNatClampNeg (nI l)
        rw [e_nIc (by omega), e_nIc (by omega)]
        exact hm
theorem od_sum1 {M1 M2 : mm_M} (hv : rl_val M1 M2) (ht : rl_tape M1 M2) {n : Nat} (hn : n + vN M1 ≤ tN M1) (hq : ∀ i, i < n → tB M1 i < 8) (hw : ∀ s, s < vN M1 → tB M1 (n + s) < 26) (w x5 : Int32) : mm_loop (X5_share_l9 (nI n) w x5 M1) mm_fuel (0, 0, 0) = some (nI (odSum M1 n w (vN M1)), nI (odAll M1 n (vN M1))) := by
  have hT := t_n ht
  have hN := v_n hv
  refine e_trace0 (fun s => (nI (odSum M1 n w s), nI (odAll M1 n s), nI s)) (vN M1) (by omega) _ ?_ ?_
  · intro s hs
    have hs10 : s < 10 := by omega
    have hle := od_le (w := w) hw s (by omega)
    have hb := hw s hs
    unfold X5_share_l9
    dsimp only
    rw [if_neg (fun h => by have := (v_head hv (by omega : s ≤ 10)).1.mp h; omega), nI_add, t_byte ht (by omega), Option.bind_some, od_in1 hv ht (by omega) hq hs10, Option.bind_some]
    show _ = some (Sum.inl (nI (odSum M1 n w s + if odAns M1 s n = w then tB M1 (n + s) else 0), nI (odAll M1 n s + tB M1 (n + s)), nI (s + 1)))
    by_cases c : odAns M1 s n = w
    · rw [if_pos c, if_pos c, nI_add, nI_add, nI_1]
    · rw [if_neg c, if_neg c, nI_add, nI_1]
      show some (Sum.inl (nI (odSum M1 n w s) + nI 0, _, _)) = _
      rw [nI_add]
  · unfold X5_share_l9
    dsimp only
    rw [if_pos ((v_head hv (by omega)).1.mpr (Nat.le_refl _))]
theorem od_q2 {M1 M2 N : mm_M} (ht : rl_tape M1 M2) (hN : N 7 = M2 7) {n : Nat} (hn : n ≤ tN M1) (x2 x3 : Int32) : ∃ r, mm_loop (X12_odds_l59 (nI n) x2 x3 N) mm_fuel 0 = some r ∧ ((r = .inr () ∧ ∀ i, i < n → tB M1 i < 8) ∨ (r = .inl (-3, N) ∧ ¬ ∀ i, i < n → tB M1 i < 8)) := by
  have hT := t_n ht
  refine e_for1 (step := X12_odds_l59 (nI n) x2 x3 N) n (by omega) (I := fun k => ∀ i, i < k → tB M1 i < 8) (Q := fun r => ((r = .inr () ∧ ∀ i, i < n → tB M1 i < 8) ∨ (r = .inl (-3, N) ∧ ¬ ∀ i, i < n → tB M1 i < 8))) ?_ ?_ (fun i h => by omega)
  · intro k hk hI
    have c0 : ¬ nI n ≤ nI k := by
      rw [e_le, e_nIt (by omega), e_nIt (by omega)]
      omega
    have hb := (t_b ht (show k < tN M1 by omega)).2
    unfold X12_odds_l59
    rw [if_neg c0, t_octet ht hN (by omega), Option.bind_some]
    have q : nI (tB M1 k) < 8 ↔ tB M1 k < 8 := by
      rw [e_lt, e_nIt (by omega)]
      show _ < (8 : Int) ↔ _
      omega
    by_cases d : tB M1 k < 8
    · rw [if_pos (q.mpr d)]
      refine Or.inl ⟨rfl, fun i h2 => ?_⟩
      by_cases ci : i = k
      · subst ci
        exact d
      · exact hI i (by omega)
    · rw [if_neg (fun h => d (q.mp h))]
      exact Or.inr ⟨_, rfl, Or.inr ⟨rfl, fun h => d (h k hk)⟩⟩
  · intro hI
    unfold X12_odds_l59
    rw [if_pos (Int32.le_refl _)]
    exact ⟨_, rfl, Or.inl ⟨rfl, hI⟩⟩
theorem od_sum2 {M1 M2 N : mm_M} (hv : rl_val M1 N) (ht : rl_tape M1 M2) (hN : N 7 = M2 7) {n : Nat} (h1 : 1 ≤ n) (hn : n + vN M1 ≤ tN M1) (hq : ∀ i, i < n → tB M1 i < 8) (w x3 : Int32) : ∃ r, mm_loop (X12_odds_l94 (nI n) w x3 N) mm_fuel (0, 0, 0) = some r ∧ ((r = .inr (nI (odAll M1 n (vN M1)), nI (odSum M1 n w (vN M1))) ∧ ∀ s, s < vN M1 → tB M1 (n + s) < 26) ∨ (r = .inl (-3, N) ∧ ¬ ∀ s, s < vN M1 → tB M1 (n + s) < 26)) := by
  have hT := t_n ht
  have hVN := v_n hv
  have := e_loopF (step := X12_odds_l94 (nI n) w x3 N) (I := fun (s : Int32 × Int32 × Int32) => ∃ k : Nat, k ≤ vN M1 ∧ s = (nI (odAll M1 n k), nI (odSum M1 n w k), nI k) ∧ ∀ i, i < k → tB M1 (n + i) < 26) (Q := fun r => ((r = .inr (nI (odAll M1 n (vN M1)), nI (odSum M1 n w (vN M1))) ∧ ∀ s, s < vN M1 → tB M1 (n + s) < 26) ∨ (r = .inl (-3, N) ∧ ¬ ∀ s, s < vN M1 → tB M1 (n + s) < 26))) (fun s => 20 - Int32.toNatClampNeg s.2.2) ?_ (0, 0, 0) ⟨0, by omega, rfl, fun i h => by omega⟩ (by omega)
  · exact this
  · rintro s ⟨k, hk, rfl, hI⟩
    unfold X12_odds_l94
    dsimp only
    by_cases c : vN M1 ≤ k
    · have : k = vN M1 := by omega
      subst this
      rw [if_pos ((v_head hv (by omega)).2.mpr c)]
      exact Or.inr ⟨_, rfl, Or.inl ⟨rfl, hI⟩⟩
    · have hk10 : k < 10 := by omega
      have hb := (t_b ht (show n + k < tN M1 by omega)).2
      rw [if_neg (fun h => c ((v_head hv (by omega : k ≤ 10)).2.mp h)), nI_add, t_octet ht hN (by omega), Option.bind_some, Option.bind_some, od_in2 hv ht hN h1 (by omega) hq hk10, Option.bind_some, Option.bind_some]
      have q : nI (tB M1 (n + k)) ≤ 25 ↔ tB M1 (n + k) < 26 := by
        rw [e_le, e_nIt (by omega)]
        show _ ≤ (25 : Int) ↔ _
        omega
      by_cases d : tB M1 (n + k) < 26
      · have hI' : ∀ i, i < k + 1 → tB M1 (n + i) < 26 := by
          intro i hi
          by_cases ci : i = k
          · subst ci
            exact d
          · exact hI i (by omega)
        have hle := od_le (w := w) hI k (Nat.le_refl _)
        have hlt : 20 - Int32.toNatClampNeg (nI k + 1) < 20 - Int32.toNatClampNeg (nI k) := by
          rw [nI_1, e_nIc (by omega), e_nIc (by omega)]
          omega
        rw [if_pos (q.mpr d)]
        by_cases e : odAns M1 k n = w
        · rw [if_pos e]
          refine Or.inl ⟨_, rfl, ⟨k + 1, by omega, ?_, hI'⟩, hlt⟩
          show _ = (nI (odAll M1 n k + tB M1 (n + k)), nI (odSum M1 n w k + if odAns M1 k n = w then tB M1 (n + k) else 0), nI (k + 1))
          rw [if_pos e, nI_add, nI_add, nI_1]
        · rw [if_neg e]
          refine Or.inl ⟨_, rfl, ⟨k + 1, by omega, ?_, hI'⟩, hlt⟩
          show _ = (nI (odAll M1 n k + tB M1 (n + k)), nI (odSum M1 n w k + if odAns M1 k n = w then tB M1 (n + k) else 0), nI (k + 1))
          rw [if_neg e, nI_add, nI_1]
          rfl
      · rw [if_neg (fun h => d (q.mp h))]
        exact Or.inr ⟨_, rfl, Or.inr ⟨rfl, fun h => d (h k (by omega))⟩⟩
theorem op_22 (x y z : Int32) : rl_ok (cl_22 x y z) (md_22 x y z) := by
  intro M1 M2 h
  have hv := h.2.2.2.1
  have ht := h.2.2.2.2.2
  have hT := t_n ht
  have hVN := v_n hv
  have k0 : (0 : Int32).toInt = 0 := rfl
  have k1 : (1 : Int32).toInt = 1 := rfl
  have k9 : (9 : Int32).toInt = 9 := rfl
  have k20 : (20 : Int32).toInt = 20 := rfl
  unfold cl_22 md_22 X11_odds X12_odds
  have no : ∀ (A : Option (Int32 × mm_M)) (B : Option (Int32 × mm_M)), A = some (-1, M1) → B = some (-1, M2) → ∃ r M1' M2', (A.map fun y => (y.1, y.2)) = some (r, M1') ∧ (B.map fun y => (y.1, y.2)) = some (r, M2') ∧ rl_core M1' M2' ∧ rl_lf M1 M1' M2 M2' := by
    intro A B e1 e2
    rw [e1, e2]
    exact ⟨-1, M1, M2, rfl, rfl, h, rl_lf_rfl⟩
  have j32 : X11_odds_j32 x y z M1 = some (-1, M1) := by
    unfold X11_odds_j32 X11_odds_j33
    rw [if_neg (show ¬ (false = true) by decide)]
  rw [j32, ← rl_01 z]
  by_cases cx : X12_in x 1 20 = true
  · have hx := rl_inI.mp cx
    rw [k1, k20] at hx
    have cx1 : ¬ x < 1 := by rw [e_lt, k1]; omega
    have cx2 : ¬ (20 : Int32) < x := by rw [e_lt, k20]; omega
    rw [if_neg cx1, if_neg cx2]
    by_cases cy : X12_in y 0 9 = true
    · have hy := rl_inI.mp cy
      rw [k0, k9] at hy
      have cy1 : ¬ y < 0 := by rw [e_lt, k0]; omega
      have cy2 : ¬ (9 : Int32) < y := by rw [e_lt, k9]; omega
      rw [if_neg cy1, if_neg cy2]
      by_cases cz : X11_isZeroOrOne z = true
      · rw [if_pos cz]
        unfold X11_odds_j33
        rw [if_pos rfl]
        by_cases c4 : X8_isTold M1 = true
        · have c5 := (rl_told hv).mp c4
          rw [if_pos c4]
          simp only [if_neg c5, if_pos cx, if_pos cy, if_pos cz]
          have hxn := e_nI (show 0 ≤ x.toInt by omega)
          have hxc := e_cl (show 0 ≤ x.toInt by omega)
          generalize Int32.toNatClampNeg x = n at hxn hxc
          subst hxn
          have hn : 1 ≤ n ∧ n ≤ 20 := by omega
          rw [← hv.1, hVN.1, nI_add, hT.1, hT.2.2.2]
          by_cases c3 : n + vN M1 ≤ tN M1
          · have d3 : nI (n + vN M1) ≤ nI (tN M1) := (nI_leI (by omega) (by omega)).mpr c3
            rw [if_pos d3, if_pos d3]
            obtain ⟨b1, e1, h1⟩ := od_below ht (a := 0) (n := n) (c := 8) (by omega) (by omega) (by omega)
            obtain ⟨b2, e2, h2⟩ := od_below ht (a := n) (n := n + vN M1) (c := 26) (by omega) (by omega) (by omega)
            have e1' : X7_isBelow 0 (nI n) 8 M1 = some b1 := e1
            have e2' : X7_isBelow (nI n) (nI (n + vN M1)) 26 M1 = some b2 := e2
            obtain ⟨r, e3, h3⟩ := od_q2 (N := mm_U M2 0 8 0) ht rfl (show n ≤ tN M1 by omega) y z
            have j111 : X11_odds_j111 (nI n) y z M1 = some (-3, mm_U M1 1 1 0) := by
              unfold X11_odds_j111 X11_odds_j112
              rw [if_neg (show ¬ (false = true) by decide)]
              rfl
            rw [e1', Option.bind_some, e3, Option.bind_some, e2', Option.bind_some, j111]
            rcases h3 with ⟨rfl, hq⟩ | ⟨rfl, hq⟩
            · rw [if_pos (h1.mpr (fun i _ => hq i))]
              have hvN : rl_val M1 (mm_U M2 0 8 0) := hv
              obtain ⟨r', e4, h4⟩ := od_sum2 (N := mm_U M2 0 8 0) hvN ht rfl hn.1 c3 hq y z
              dsimp only
              rw [e4, Option.bind_some]
              rcases h4 with ⟨rfl, hw⟩ | ⟨rfl, hw⟩
              · have hb2 : b2 = true := h2.mpr (fun i h5 h6 => by
                  have := hw (i - n) (by omega)
                  rw [show n + (i - n) = i by omega] at this
                  exact this)
                rw [if_pos hb2]
                unfold X11_odds_j112 X5_share X11_odds_j142
                have hle := od_le (w := y) hw (vN M1) (Nat.le_refl _)
                rw [if_pos rfl, od_sum1 hv ht c3 hq hw, Option.bind_some]
                dsimp only
                rw [od_gcd1 (by omega) (by omega), Option.bind_some]
                generalize odSum M1 n y (vN M1) = p at hle
                generalize odAll M1 n (vN M1) = a at hle
                by_cases ca : a = 0
                · subst ca
                  rw [if_pos (show nI 0 ≤ 0 by decide), if_pos nI_0]
                  exact ⟨-2, _, _, rfl, rfl, rl_core_clear h, rl_lf_clear⟩
                · have ga : ¬ nI a = 0 := nI_ne0 (by omega) (by omega)
                  have gb : ¬ nI a ≤ 0 := nI_nle (by omega) (by omega)
                  have hg : 0 < Nat.gcd p a := Nat.gcd_pos_of_pos_right p (by omega)
                  have hg2 : Nat.gcd p a ≤ a := Nat.gcd_le_right p (by omega)
                  have gc : ¬ nI (Nat.gcd p a) = 0 := nI_ne0 (by omega) (by omega)
                  have gd : (0 : Int32) < nI (Nat.gcd p a) := by
                    rw [e_lt, k0, e_nIt (by omega)]
                    omega
                  rw [if_neg gb, if_pos gd, if_neg ga, od_gcd2 (by omega) (by omega), Option.bind_some, Option.bind_some]
                  by_cases cz0 : z = 0
                  · simp only [if_pos cz0, if_pos gc]
                    exact ⟨_, _, _, rfl, rfl, rl_core_clear h, rl_lf_clear⟩
                  · simp only [if_neg cz0, if_pos gc]
                    exact ⟨_, _, _, rfl, rfl, rl_core_clear h, rl_lf_clear⟩
              · have hb2 : ¬ b2 = true := fun hb => hw (fun s hs => h2.mp hb (n + s) (by omega) (by omega))
                rw [if_neg hb2]
                exact ⟨-3, _, _, rfl, rfl, rl_core_clear h, rl_lf_clear⟩
            · rw [if_neg (fun hb => hq (fun i hi => h1.mp hb i (by omega) hi))]
              exact ⟨-3, _, _, rfl, rfl, rl_core_clear h, rl_lf_clear⟩
          · have d3 : ¬ nI (n + vN M1) ≤ nI (tN M1) := fun q => c3 ((nI_leI (by omega) (by omega)).mp q)
            rw [if_neg d3, if_neg d3]
            exact no _ _ rfl rfl
        · have c5 : M2 0 6 = 0 := by
            rcases Decidable.em (M2 0 6 = 0) with q | q
            · exact q
            · exact absurd ((rl_told hv).mpr q) c4
          rw [if_neg c4]
          exact no _ _ rfl (by rw [if_pos c5])
      · rw [if_neg cz]
        exact no _ _ rfl (by simp only [if_pos cx, if_pos cy, if_neg cz, ite_self])
    · refine no _ _ ?_ (by simp only [if_pos cx, if_neg cy, ite_self])
      by_cases cy1 : y < 0
      · rw [if_pos cy1]
      · by_cases cy2 : (9 : Int32) < y
        · rw [if_neg cy1, if_pos cy2]
        · exact absurd (rl_inI.mpr (by rw [e_lt] at cy1 cy2; omega)) cy
  · refine no _ _ ?_ (by simp only [if_neg cx, ite_self])
    by_cases cx1 : x < 1
    · rw [if_pos cx1]
    · by_cases cx2 : (20 : Int32) < x
      · rw [if_neg cx1, if_pos cx2]
      · exact absurd (rl_inI.mpr (by rw [e_lt] at cx1 cx2; omega)) cx
