-- the game of two inspectors
noncomputable def gC (M : mm_M) (a r : Nat) (g : Nat → Nat) (k : Nat) : Bool := @decide ((r % 2 = 1 ∧ ∃ q, q < 8 ∧ q ≠ k % 9 ∧ ((r = 1 ∧ vA M q (k / 9) = nI a) ∨ (r ≠ 1 ∧ g (9 * vB M q (k / 9) + q) = r - 1))) ∨ (r % 2 = 0 ∧ ∀ q, q < 8 → q ≠ k % 9 → ¬ vA M q (k / 9) = nI a ∧ g (9 * vB M q (k / 9) + q) % 2 = 1)) (Classical.propDecidable _)
theorem gC_iff {M : mm_M} {a r : Nat} {g : Nat → Nat} {k : Nat} : gC M a r g k = true ↔ ((r % 2 = 1 ∧ ∃ q, q < 8 ∧ q ≠ k % 9 ∧ ((r = 1 ∧ vA M q (k / 9) = nI a) ∨ (r ≠ 1 ∧ g (9 * vB M q (k / 9) + q) = r - 1))) ∨ (r % 2 = 0 ∧ ∀ q, q < 8 → q ≠ k % 9 → ¬ vA M q (k / 9) = nI a ∧ g (9 * vB M q (k / 9) + q) % 2 = 1)) := by
  unfold gC
  exact ⟨fun h => @of_decide_eq_true _ (Classical.propDecidable _) h, fun h => @decide_eq_true _ (Classical.propDecidable _) h⟩
noncomputable def gG (M : mm_M) (a : Nat) : Nat → Nat → Nat
  | 0 => fun _ => 0
  | r + 1 => fun k => if k < 9 * vN M ∧ gG M a r k = 0 ∧ gC M a (r + 1) (gG M a r) k = true then r + 1 else gG M a r k
theorem gG_s {M : mm_M} {a r k : Nat} : gG M a (r + 1) k = if k < 9 * vN M ∧ gG M a r k = 0 ∧ gC M a (r + 1) (gG M a r) k = true then r + 1 else gG M a r k := rfl
theorem gG_le {M : mm_M} {a k : Nat} : ∀ r, gG M a r k ≤ r := by
  intro r
  induction r with
  | zero => exact Nat.le_refl _
  | succ r ih =>
    rw [gG_s]
    split <;> omega
theorem gG_ne {M : mm_M} {a k r : Nat} (h : gG M a r k ≠ 0) : gG M a (r + 1) k = gG M a r k := by
  rw [gG_s, if_neg (fun z => h z.2.1)]
theorem gG_out {M : mm_M} {a k : Nat} (h : 9 * vN M ≤ k) : ∀ r, gG M a r k = 0 := by
  intro r
  induction r with
  | zero => rfl
  | succ r ih => rw [gG_s, if_neg (by omega), ih]
theorem gG_had {M : mm_M} {a k q : Nat} (hk : k < 9 * vN M) (hq : q < 8) (hl : q ≠ k % 9) (h : vA M q (k / 9) = nI a) : ∀ r, gG M a (r + 1) k ≠ 0 := by
  intro r
  induction r with
  | zero =>
    rw [gG_s, if_pos ⟨hk, rfl, gC_iff.mpr (Or.inl ⟨rfl, q, hq, hl, Or.inl ⟨rfl, h⟩⟩)⟩]
    omega
  | succ r ih =>
    rw [gG_ne ih]
    exact ih
/-- a quiet round: all later ones are -/
theorem gG_quiet {M : mm_M} {a r : Nat} (h : gG M a (r + 1) = gG M a r) : gG M a (r + 2) = gG M a (r + 1) := by
  funext k
  rw [gG_s]
  split
  · rename_i z
    exfalso
    obtain ⟨z1, z2, z3⟩ := z
    have z0 : gG M a r k = 0 := by rw [← h]; exact z2
    rcases gC_iff.mp z3 with ⟨p, q, hq, hl, y | y⟩ | ⟨p, y⟩
    · omega
    · have h1 := y.2
      rw [h] at h1
      have := gG_le (M := M) (a := a) (k := 9 * vB M q (k / 9) + q) r
      omega
    · rcases Nat.eq_zero_or_pos r with e | e
      · subst e
        have hq : ∃ q, q < 8 ∧ q ≠ k % 9 := by
          by_cases w : 0 = k % 9
          · exact ⟨1, by omega, by omega⟩
          · exact ⟨0, by omega, w⟩
        obtain ⟨q, hq1, hq2⟩ := hq
        have := (y q hq1 hq2).2
        rw [h] at this
        exact absurd this (by show ¬ 0 % 2 = 1; omega)
      · obtain ⟨j, rfl⟩ : ∃ j, r = j + 1 := ⟨r - 1, by omega⟩
        have zj : gG M a j k = 0 := by
          rcases Nat.eq_zero_or_pos (gG M a j k) with w | w
          · exact w
          · have := gG_ne (M := M) (a := a) (k := k) (r := j) (by omega)
            omega
        have hc : gC M a (j + 1) (gG M a j) k = true := by
          refine gC_iff.mpr (Or.inr ⟨by omega, fun q hq hl => ⟨(y q hq hl).1, ?_⟩⟩)
          have y2 := (y q hq hl).2
          rw [h, gG_s] at y2
          split at y2
          · omega
          · exact y2
        rw [gG_s, if_pos ⟨z1, zj, hc⟩] at z0
        omega
  · rfl
theorem gG_quiet2 {M : mm_M} {a r : Nat} (h : gG M a (r + 1) = gG M a r) : ∀ j, gG M a (r + j) = gG M a r ∧ gG M a (r + j + 1) = gG M a (r + j) := by
  intro j
  induction j with
  | zero => exact ⟨rfl, h⟩
  | succ j ih => exact ⟨by rw [← ih.1, ← ih.2]; rfl, gG_quiet ih.2⟩
theorem gG_many {M : mm_M} {a : Nat} : ∀ r, (∀ j, j < r → ¬ gG M a (j + 1) = gG M a j) → vN M ≤ 10 → r ≤ nC (fun k => decide (gG M a r k ≠ 0)) 90 := by
  intro r
  induction r with
  | zero => intro _ _; omega
  | succ r ih =>
    intro h hn
    have h1 := ih (fun j hj => h j (by omega)) hn
    have h2 : nC (fun k => decide (gG M a r k ≠ 0)) 90 < nC (fun k => decide (gG M a (r + 1) k ≠ 0)) 90 := by
      refine nC_lt 90 (fun i _ hi => ?_) ?_
      · rw [decide_eq_true_eq] at hi ⊢
        rw [gG_ne hi]
        exact hi
      · have hr := h r (by omega)
        rcases Classical.em (∃ s, s < 90 ∧ ¬ decide (gG M a r s ≠ 0) = true ∧ decide (gG M a (r + 1) s ≠ 0) = true) with e | e
        · exact e
        · exfalso
          apply hr
          funext k
          rw [gG_s]
          split
          · rename_i z
            exfalso
            apply e
            refine ⟨k, by omega, by rw [decide_eq_true_eq]; simp [z.2.1], ?_⟩
            rw [decide_eq_true_eq, gG_s, if_pos z]
            omega
          · rfl
    omega
/-- a round that is quiet, or the 90th: the end of the game -/
theorem gG_end {M : mm_M} {a r : Nat} (hn : vN M ≤ 10) (h : r ≤ 90) (hq : r = 90 ∨ (gG M a (r + 1) = gG M a r) ∨ ∃ j, j < r ∧ gG M a (j + 1) = gG M a j) : gG M a 91 = gG M a r := by
  have quiet : ∀ j, j ≤ r → gG M a (j + 1) = gG M a j → gG M a 91 = gG M a r := by
    intro j hj e
    have h1 := (gG_quiet2 e (91 - j)).1
    have h2 := (gG_quiet2 e (r - j)).1
    rw [show j + (91 - j) = 91 by omega] at h1
    rw [show j + (r - j) = r by omega] at h2
    rw [h1, h2]
  rcases hq with e | e | ⟨j, hj, e⟩
  · subst e
    rcases Classical.em (∃ j, j < 90 ∧ gG M a (j + 1) = gG M a j) with w | w
    · obtain ⟨j, hj, e⟩ := w
      exact quiet j (by omega) e
    · have h1 := gG_many (M := M) (a := a) 90 (fun j hj e => w ⟨j, hj, e⟩) hn
      have h2 := nC_le (f := fun k => decide (gG M a 90 k ≠ 0)) 90
      have h3 := nC_full (f := fun k => decide (gG M a 90 k ≠ 0)) 90 (by omega)
      funext k
      rcases Nat.lt_or_ge k 90 with y | y
      · have := h3 k y
        rw [decide_eq_true_eq] at this
        exact gG_ne this
      · rw [gG_out (by omega), gG_out (by omega)]
  · exact quiet r (Nat.le_refl _) e
  · exact quiet j (by omega) e
/-- in the midst of a round -/
noncomputable def gI (M : mm_M) (a r i k : Nat) : Nat := if k < i then gG M a (r + 1) k else gG M a r k
/-- a change in the midst of a round doesn't matter in it -/
theorem gI_C {M : mm_M} {a r i k : Nat} : gC M a (r + 1) (gI M a r i) k = gC M a (r + 1) (gG M a r) k := by
  have key : ∀ x, ((r + 1) % 2 = 1 → r + 1 ≠ 1 → (gI M a r i x = r + 1 - 1 ↔ gG M a r x = r + 1 - 1)) ∧ ((r + 1) % 2 = 0 → (gI M a r i x % 2 = 1 ↔ gG M a r x % 2 = 1)) := by
    intro x
    unfold gI
    split
    · rw [gG_s]
      split
      · rename_i z
        constructor
        · intro h1 h2
          constructor <;> intro h3 <;> omega
        · intro h1
          constructor <;> intro h3 <;> omega
      · exact ⟨fun _ _ => Iff.rfl, fun _ => Iff.rfl⟩
    · exact ⟨fun _ _ => Iff.rfl, fun _ => Iff.rfl⟩
  rw [Bool.eq_iff_iff, gC_iff, gC_iff]
  constructor
  · rintro (⟨p, q, hq, hl, y | y⟩ | ⟨p, y⟩)
    · exact Or.inl ⟨p, q, hq, hl, Or.inl y⟩
    · exact Or.inl ⟨p, q, hq, hl, Or.inr ⟨y.1, ((key _).1 p y.1).mp y.2⟩⟩
    · exact Or.inr ⟨p, fun q hq hl => ⟨(y q hq hl).1, ((key _).2 p).mp (y q hq hl).2⟩⟩
  · rintro (⟨p, q, hq, hl, y | y⟩ | ⟨p, y⟩)
    · exact Or.inl ⟨p, q, hq, hl, Or.inl y⟩
    · exact Or.inl ⟨p, q, hq, hl, Or.inr ⟨y.1, ((key _).1 p y.1).mpr y.2⟩⟩
    · exact Or.inr ⟨p, fun q hq hl => ⟨(y q hq hl).1, ((key _).2 p).mpr (y q hq hl).2⟩⟩
theorem gI_le {M : mm_M} {a r i k : Nat} : gI M a r i k ≤ r + 1 := by
  unfold gI
  split
  · exact gG_le _
  · have := gG_le (M := M) (a := a) (k := k) r
    omega
theorem gI_i {M : mm_M} {a r i k : Nat} : gI M a r (i + 1) k = if k = i then gG M a (r + 1) i else gI M a r i k := by
  unfold gI
  by_cases e : k = i
  · subst e
    rw [if_pos (by omega), if_pos rfl]
  · rw [if_neg e]
    by_cases f : k < i
    · rw [if_pos f, if_pos (by omega)]
    · rw [if_neg f, if_neg (by omega)]
theorem e_ex {step : Int32 → Option (Int32 ⊕ Bool)} {X : Nat → Prop} (h1 : ∀ q, q < 8 → X q → step (nI q) = some (.inr true)) (h2 : ∀ q, q < 8 → ¬ X q → step (nI q) = some (.inl (nI q + 1))) (h3 : step (nI 8) = some (.inr false)) : ∃ b, mm_loop step mm_fuel 0 = some b ∧ (b = true ↔ ∃ q, q < 8 ∧ X q) := by
  refine e_for1 8 (by omega) (I := fun i => ∀ j, j < i → ¬ X j) (Q := fun b => (b = true ↔ ∃ q, q < 8 ∧ X q)) ?_ ?_ (fun j hj => by omega)
  · intro i hi hI
    rcases Classical.em (X i) with x | x
    · exact Or.inr ⟨true, h1 i hi x, ⟨fun _ => ⟨i, hi, x⟩, fun _ => rfl⟩⟩
    · refine Or.inl ⟨h2 i hi x, fun j hj => ?_⟩
      by_cases e : j = i
      · subst e
        exact x
      · exact hI j (by omega)
  · intro hI
    exact ⟨false, h3, ⟨(fun z => by cases z), (fun ⟨q, hq, z⟩ => absurd z (hI q hq))⟩⟩
theorem e_all {step : Int32 → Option (Int32 ⊕ Bool)} {X : Nat → Prop} (h1 : ∀ q, q < 8 → ¬ X q → step (nI q) = some (.inr false)) (h2 : ∀ q, q < 8 → X q → step (nI q) = some (.inl (nI q + 1))) (h3 : step (nI 8) = some (.inr true)) : ∃ b, mm_loop step mm_fuel 0 = some b ∧ (b = true ↔ ∀ q, q < 8 → X q) := by
  refine e_for1 8 (by omega) (I := fun i => ∀ j, j < i → X j) (Q := fun b => (b = true ↔ ∀ q, q < 8 → X q)) ?_ ?_ (fun j hj => by omega)
  · intro i hi hI
    rcases Classical.em (X i) with x | x
    · refine Or.inl ⟨h2 i hi x, fun j hj => ?_⟩
      by_cases e : j = i
      · subst e
        exact x
      · exact hI j (by omega)
    · exact Or.inr ⟨false, h1 i hi x, ⟨(fun z => by cases z), (fun z => absurd (z i hi) x)⟩⟩
  · intro hI
    exact ⟨true, h3, ⟨fun _ => hI, fun _ => rfl⟩⟩
theorem g_par : ∀ x, x < 100 → nI x - nI x / 2 * 2 = nI (x % 2) := by decide +kernel
theorem g_div : ∀ c, c < 90 → nI c / 9 = nI (c / 9) ∧ nI c - nI (c / 9) * 9 = nI (c % 9) := by decide +kernel
theorem g_cell {s l : Nat} : nI s * 9 + nI l = nI (9 * s + l) ∧ (9 : Int32) * nI s + nI l = nI (9 * s + l) := by
  have e1 : nI s * nI 9 = nI (s * 9) := pk_mul s 9
  have e2 : nI 9 * nI s = nI (9 * s) := pk_mul 9 s
  have k : (9 : Int32) = nI 9 := rfl
  rw [k, e1, e2, nI_add, nI_add, Nat.mul_comm s 9]
  exact ⟨rfl, rfl⟩
theorem g_90 {i : Nat} (hi : i ≤ 1000) : ((90 : Int32) ≤ nI i ↔ 90 ≤ i) := by
  show (nI 90 ≤ nI i ↔ _)
  rw [e_le, e_nIt (by omega), e_nIt (by omega)]
  omega
def gM (M0 N : mm_M) (a : Nat) (f : Nat → Nat) : Prop := (∀ i, i < 90 → N a i = nI (f i)) ∧ ∀ b, b ≠ a → N b = M0 b
theorem g_endingAt {M1 N : mm_M} {f : Nat → Nat} (hN : gM M1 N 35 f) {s l : Nat} (hs : s < 10) (hl : l < 9) : X10_endingAt (nI s) (nI l) N = nI (f (9 * s + l)) := by
  unfold X10_endingAt
  rw [g_cell.1, if_neg (nI_pos (by omega)), if_neg (fun h => by have := (g_90 (by omega)).mp h; omega), e_nIc (by omega)]
  exact hN.1 _ (by omega)
theorem g_sub1 {r : Nat} (hr : 1 ≤ r) (h : r < 1000) : nI r - 1 = nI (r - 1) := by
  have k1 : (1 : Int32).toInt = 1 := rfl
  rw [e_eq, e_sub (by rw [e_nIt (by omega), k1]; omega) (by rw [e_nIt (by omega), k1]; omega), e_nIt (by omega), e_nIt (by omega), k1]
  omega
theorem g_ends {M1 M2 N : mm_M} (hv : rl_val M1 M2) {f : Nat → Nat} (hN : gM M1 N 35 f) (hf : ∀ k, f k < 100) {k r a : Nat} (hk : k < 90) (hr : 1 ≤ r) (hr2 : r ≤ 90) : ∃ b, X10_endsIn (nI (k / 9)) (nI (k % 9)) (nI a) (nI r) N = some b ∧ (b = true ↔ gC M1 a r f k = true) := by
  have hs : k / 9 < 10 := by omega
  have hA : ∀ q, q < 8 → X8_answer (nI q) (nI (k / 9)) N = vA M1 q (k / 9) := by
    intro q hq
    rw [v_ans hq hs]
    unfold vA
    rw [hN.2 8 (by decide)]
  have hb : ∀ q, q < 8 → X10_endingAt (X8_behind (nI q) (nI (k / 9)) N) (nI q) N = nI (f (9 * vB M1 q (k / 9) + q)) := by
    intro q hq
    rw [v_behI hq hs, hN.2 9 (by decide), (v_B hv hq hs).1]
    exact g_endingAt hN (v_B hv hq hs).2 (by omega)
  have c8 : ∀ q, q < 8 → ¬ (8 : Int32) ≤ nI q := fun q hq h => by have := (e_8 (by omega)).mp h; omega
  have cl : ∀ q, q < 8 → (nI q = nI (k % 9) ↔ q = k % 9) := fun q hq => v_nIe (by omega) (by omega)
  have c1 : (nI r = 1) ↔ r = 1 := nI_eq (b := 1) (by omega) (by omega)
  unfold X10_endsIn X10_endsIn_j13
  rw [g_par r (by omega)]
  rcases Nat.mod_two_eq_zero_or_one r with p | p
  · rw [if_neg (by rw [p]; decide)]
    have := e_all (step := X10_endsIn_l18 (nI (k / 9)) (nI (k % 9)) (nI a) (nI r) false N) (X := fun q => q ≠ k % 9 → ¬ vA M1 q (k / 9) = nI a ∧ f (9 * vB M1 q (k / 9) + q) % 2 = 1) ?_ ?_ ?_
    · obtain ⟨b, b1, b2⟩ := this
      refine ⟨b, b1, ?_⟩
      rw [b2, gC_iff]
      exact ⟨fun z => Or.inr ⟨p, z⟩, fun z => by
        rcases z with z | z
        · omega
        · exact z.2⟩
    · intro q hq x
      have hl : ¬ q = k % 9 := fun e => x (fun h => absurd e h)
      have x : ¬ (¬ vA M1 q (k / 9) = nI a ∧ f (9 * vB M1 q (k / 9) + q) % 2 = 1) := fun z => x (fun _ => z)
      unfold X10_endsIn_l18 X10_endsIn_j48l18 X10_endsIn_j95l18
      rw [if_neg (c8 q hq), if_neg (fun z => hl ((cl q hq).mp z)), hA q hq, hb q hq, g_par _ (hf _)]
      by_cases h : vA M1 q (k / 9) = nI a
      · rw [if_pos h]
        simp
      · rw [if_neg h]
        have hp : f (9 * vB M1 q (k / 9) + q) % 2 = 0 := by
          rcases Nat.mod_two_eq_zero_or_one (f (9 * vB M1 q (k / 9) + q)) with w | w
          · exact w
          · exact absurd ⟨h, w⟩ x
        rw [hp]
        simp only [Bool.false_eq_true, if_false]
        rw [if_pos (show nI 0 = 0 from rfl)]
    · intro q hq x
      unfold X10_endsIn_l18 X10_endsIn_j48l18 X10_endsIn_j95l18
      rw [if_neg (c8 q hq)]
      by_cases hl : q = k % 9
      · rw [if_pos ((cl q hq).mpr hl)]
      · rw [if_neg (fun z => hl ((cl q hq).mp z)), hA q hq, hb q hq, g_par _ (hf _), if_neg (x hl).1, (x hl).2]
        simp only [Bool.false_eq_true, if_false]
        rw [if_neg (show ¬ nI 1 = 0 by decide)]
    · unfold X10_endsIn_l18
      rw [if_pos ((e_8 (by omega)).mpr (by omega))]
      simp
  · rw [if_pos (by rw [p]; decide)]
    have := e_ex (step := X10_endsIn_l18 (nI (k / 9)) (nI (k % 9)) (nI a) (nI r) true N) (X := fun q => q ≠ k % 9 ∧ ((r = 1 ∧ vA M1 q (k / 9) = nI a) ∨ (r ≠ 1 ∧ f (9 * vB M1 q (k / 9) + q) = r - 1))) ?_ ?_ ?_
    · obtain ⟨b, b1, b2⟩ := this
      refine ⟨b, b1, ?_⟩
      rw [b2, gC_iff]
      exact ⟨fun z => Or.inl ⟨p, z⟩, fun z => by
        rcases z with z | z
        · exact z.2
        · omega⟩
    · intro q hq x
      have hfq := hf (9 * vB M1 q (k / 9) + q)
      unfold X10_endsIn_l18 X10_endsIn_j48l18 X10_endsIn_j95l18
      rw [if_neg (c8 q hq), if_neg (fun z => x.1 ((cl q hq).mp z)), hA q hq, hb q hq, g_sub1 hr (by omega)]
      rcases x.2 with y | y
      · simp only [if_pos y.2, if_pos (c1.mpr y.1), if_true]
      · simp only [if_neg (fun z => y.1 (c1.mp z)), y.2, if_true]
        split <;> rfl
    · intro q hq x
      have hfq := hf (9 * vB M1 q (k / 9) + q)
      unfold X10_endsIn_l18 X10_endsIn_j48l18 X10_endsIn_j95l18
      rw [if_neg (c8 q hq)]
      by_cases hl : q = k % 9
      · rw [if_pos ((cl q hq).mpr hl)]
      · rw [if_neg (fun z => hl ((cl q hq).mp z)), hA q hq, hb q hq, g_sub1 hr (by omega)]
        by_cases r1 : r = 1
        · have h : ¬ vA M1 q (k / 9) = nI a := fun z => x ⟨hl, Or.inl ⟨r1, z⟩⟩
          simp only [if_neg h, if_pos (c1.mpr r1), if_true, Bool.false_eq_true, if_false]
        · have h : ¬ nI (f (9 * vB M1 q (k / 9) + q)) = nI (r - 1) := fun z => x ⟨hl, Or.inr ⟨r1, (nI_eq (by omega) (by omega)).mp z⟩⟩
          simp only [if_neg (fun z => r1 (c1.mp z)), if_neg h, if_true]
          split <;> rfl
    · unfold X10_endsIn_l18
      rw [if_pos ((e_8 (by omega)).mpr (by omega))]
      simp
