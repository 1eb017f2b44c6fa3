-- sets of states as bits
theorem b_one {k : Nat} (hk : k < 32) {i : Nat} (hi : i < 32) : bt ((1 : Int32) <<< (nI k &&& 31)) i = decide (i = k) := by
  rw [b_shl k hk 1 hi]
  have h1 : ∀ j, j < 32 → bt 1 j = decide (j = 0) := by decide +kernel
  rw [h1 (i - k) (by omega), Bool.eq_iff_iff]
  simp
  omega
theorem b_has (x : Int32) {k : Nat} (hk : k < 32) : ((x >>> (nI k &&& 31)) &&& 1) = if bt x k = true then 1 else 0 := by
  apply b_ext
  intro i hi
  have h1 : ∀ j, j < 32 → bt 1 j = decide (j = 0) := by decide +kernel
  rw [b_and, b_sshr k hk x hi, h1 i hi]
  by_cases c : i = 0
  · subst c
    rw [Nat.add_zero, if_pos hk]
    cases hb : bt x k
    · rw [if_neg (by decide)]
      rfl
    · rw [if_pos rfl]
      rfl
  · simp only [c, decide_false, Bool.and_false]
    cases hb : bt x k
    · rw [if_neg (by decide), b_0]
    · rw [if_pos rfl, h1 i hi]
      simp [c]
theorem b_every : ∀ n, n < 11 → ∀ i, i < 32 → bt (((1 : Int32) <<< (nI n &&& 31)) - 1) i = decide (i < n) := by decide +kernel
theorem b_clr (x : Int32) {k i : Nat} (hk : k < 32) (hi : i < 32) : bt (x &&& (((1 : Int32) <<< (nI k &&& 31)) ^^^ (-1))) i = (bt x i && !decide (i = k)) := by
  rw [b_and, b_xor, b_one hk hi, b_m1 i hi]
  cases decide (i = k) <;> simp
theorem b_set (x : Int32) {k i : Nat} (hk : k < 32) (hi : i < 32) : bt (x ||| ((1 : Int32) <<< (nI k &&& 31))) i = (bt x i || decide (i = k)) := by
  rw [b_or, b_one hk hi]
/-- the set of the i below 32 of which P holds -/
def bSet (P : Nat → Prop) (x : Int32) : Prop := ∀ i, i < 32 → (bt x i = true ↔ P i)
theorem bSet_eq {P Q : Nat → Prop} {x y : Int32} (hx : bSet P x) (hy : bSet Q y) (h : ∀ i, i < 32 → (P i ↔ Q i)) : x = y := by
  apply b_ext
  intro i hi
  rw [Bool.eq_iff_iff, hx i hi, hy i hi, h i hi]
theorem bSet_every {M1 M2 : mm_M} (hv : rl_val M1 M2) : bSet (fun i => i < vN M1) (X8_everyState 7 M1) := by
  intro i hi
  have hn := v_n hv
  unfold X8_everyState
  rw [hn.1, b_every (vN M1) (by omega) i hi]
  simp
theorem bSet_0 : bSet (fun _ => False) 0 := by
  intro i hi
  rw [b_0]
  simp
theorem bSet_clr {P : Nat → Prop} {x : Int32} (hx : bSet P x) {k : Nat} (hk : k < 32) : bSet (fun i => P i ∧ i ≠ k) (x &&& (((1 : Int32) <<< (nI k &&& 31)) ^^^ (-1))) := by
  intro i hi
  show _ ↔ P i ∧ i ≠ k
  rw [b_clr x hk hi, ← hx i hi]
  simp
theorem bSet_set {P : Nat → Prop} {x : Int32} (hx : bSet P x) {k : Nat} (hk : k < 32) : bSet (fun i => P i ∨ i = k) (x ||| ((1 : Int32) <<< (nI k &&& 31))) := by
  intro i hi
  show _ ↔ P i ∨ i = k
  rw [b_set x hk hi, ← hx i hi]
  simp
theorem bSet_iff {P Q : Nat → Prop} {x : Int32} (hx : bSet P x) (h : ∀ i, i < 32 → (P i ↔ Q i)) : bSet Q x := fun i hi => (hx i hi).trans (h i hi)
/-- a for loop from 0 to n: states (acc, i) -/
theorem e_for {α ρ : Type} {step : α × Int32 → Option ((α × Int32) ⊕ ρ)} (n : Nat) (hn : n < 1000000) (I : Nat → α → Prop) (Q : ρ → Prop) (hs : ∀ i a, i < n → I i a → ∃ a', step (a, nI i) = some (.inl (a', nI i + 1)) ∧ I (i + 1) a') (he : ∀ a, I n a → ∃ r, step (a, nI n) = some (.inr r) ∧ Q r) (a : α) (h0 : I 0 a) : ∃ r, mm_loop step mm_fuel (a, 0) = some r ∧ Q r := by
  refine e_loopF (I := fun (s : α × Int32) => ∃ i : Nat, i ≤ n ∧ s.2 = nI i ∧ I i s.1) (Q := Q) (fun s => n - Int32.toNatClampNeg s.2) ?_ (a, 0) ⟨0, by omega, rfl, h0⟩ (by omega)
  rintro ⟨b, x⟩ ⟨i, hi, hx, h⟩
  dsimp only at hx h
  subst hx
  by_cases c : i = n
  · subst c
    obtain ⟨r, e, hq⟩ := he b h
    exact Or.inr ⟨r, e, hq⟩
  · obtain ⟨a', e, h'⟩ := hs i b (by omega) h
    refine Or.inl ⟨_, e, ⟨i + 1, by omega, nI_1 i, h'⟩, ?_⟩
    show n - Int32.toNatClampNeg (nI i + 1) < n - Int32.toNatClampNeg (nI i)
    rw [nI_1, e_nIc (by omega), e_nIc (by omega)]
    omega
theorem e_8 {i : Nat} (hi : i ≤ 1000) : ((8 : Int32) ≤ nI i ↔ 8 ≤ i) := by
  rw [e_le, e_nIt (by omega)]
  show (8 : Int) ≤ i ↔ _
  omega
theorem e_10 {i : Nat} (hi : i ≤ 1000) : ((10 : Int32) ≤ nI i ↔ 10 ≤ i) := by
  rw [e_le, e_nIt (by omega)]
  show (10 : Int) ≤ i ↔ _
  omega
theorem al_loose1 {M1 M2 : mm_M} (hv : rl_val M1 M2) : ∃ r, X8_loose M1 = some r ∧ bSet (fun i => i < vN M1 ∧ ∀ q, q < 8 → ∀ s, s < vN M1 → vB M1 q s ≠ s → i ≠ vB M1 q s) r := by
  have hn := v_n hv
  unfold X8_loose
  refine e_for (step := X8_loose_l7 M1) 8 (by decide) (I := fun q x => bSet (fun i => i < vN M1 ∧ ∀ q', q' < q → ∀ s, s < vN M1 → vB M1 q' s ≠ s → i ≠ vB M1 q' s) x) (Q := fun r => bSet (fun i => i < vN M1 ∧ ∀ q, q < 8 → ∀ s, s < vN M1 → vB M1 q s ≠ s → i ≠ vB M1 q s) r) ?_ ?_ _ (bSet_iff (bSet_every hv) (fun i _ => ⟨fun h => ⟨h, fun q' h => by omega⟩, fun h => h.1⟩))
  · intro q x hq hx
    unfold X8_loose_l7
    rw [if_neg (fun h => by have := (e_8 (by omega)).mp h; omega)]
    obtain ⟨r, e, hr⟩ := e_for (step := X8_loose_l15 (nI q) M1) (vN M1) (by omega) (I := fun s y => bSet (fun i => (i < vN M1 ∧ ∀ q', q' < q → ∀ s, s < vN M1 → vB M1 q' s ≠ s → i ≠ vB M1 q' s) ∧ ∀ s', s' < s → vB M1 q s' ≠ s' → i ≠ vB M1 q s') y) (Q := fun r => bSet (fun i => (i < vN M1 ∧ ∀ q', q' < q → ∀ s, s < vN M1 → vB M1 q' s ≠ s → i ≠ vB M1 q' s) ∧ ∀ s', s' < vN M1 → vB M1 q s' ≠ s' → i ≠ vB M1 q s') r) (by
      intro s y hs hy
      have hs10 : s < 10 := by omega
      unfold X8_loose_l15
      rw [if_neg (fun h => by have := (v_head hv (by omega : s ≤ 10)).1.mp h; omega), v_beh hv hq hs10]
      by_cases c : vB M1 q s = s
      · rw [if_pos (by rw [c])]
        refine ⟨y, rfl, bSet_iff hy (fun i _ => ⟨fun h => ⟨h.1, fun s' hs' => ?_⟩, fun h => ⟨h.1, fun s' hs' => h.2 s' (by omega)⟩⟩)⟩
        by_cases cs : s' = s
        · subst cs
          intro h2
          exact absurd c h2
        · exact h.2 s' (by omega)
      · have hb := (v_B hv hq hs10).2
        rw [if_neg (fun h => c ((v_nIe (by omega) (by omega)).mp h))]
        refine ⟨_, rfl, bSet_iff (bSet_clr hy (by omega)) (fun i _ => ⟨fun h => ⟨h.1.1, fun s' hs' => ?_⟩, fun h => ⟨⟨h.1, fun s' hs' => h.2 s' (by omega)⟩, h.2 s (by omega) c⟩⟩)⟩
        by_cases cs : s' = s
        · subst cs
          intro _
          exact h.2
        · exact h.1.2 s' (by omega)) (by
      intro y hy
      unfold X8_loose_l15
      rw [if_pos ((v_head hv (by omega)).1.mpr (Nat.le_refl _))]
      exact ⟨y, rfl, hy⟩) x (bSet_iff hx (fun i _ => ⟨fun h => ⟨h, fun s' h => by omega⟩, fun h => h.1⟩))
    rw [e]
    refine ⟨r, rfl, bSet_iff hr (fun i _ => ⟨fun h => ⟨h.1.1, fun q' hq' => ?_⟩, fun h => ⟨⟨h.1, fun q' hq' => h.2 q' (by omega)⟩, h.2 q (by omega)⟩⟩)⟩
    by_cases cq : q' = q
    · subst cq
      exact h.2
    · exact h.1.2 q' (by omega)
  · intro x hx
    unfold X8_loose_l7
    rw [if_pos ((e_8 (by omega)).mpr (by omega))]
    exact ⟨x, rfl, hx⟩
theorem al_ends1 {M1 M2 : mm_M} (hv : rl_val M1 M2) : ∃ r, X8_ends M1 = some r ∧ bSet (fun i => i < vN M1 ∧ ∀ q, q < 8 → vB M1 q i = i) r := by
  have hn := v_n hv
  unfold X8_ends
  refine e_for (step := X8_ends_l7 M1) 8 (by decide) (I := fun q x => bSet (fun i => i < vN M1 ∧ ∀ q', q' < q → vB M1 q' i = i) x) (Q := fun r => bSet (fun i => i < vN M1 ∧ ∀ q, q < 8 → vB M1 q i = i) r) ?_ ?_ _ (bSet_iff (bSet_every hv) (fun i _ => ⟨fun h => ⟨h, fun q' h => by omega⟩, fun h => h.1⟩))
  · intro q x hq hx
    unfold X8_ends_l7
    rw [if_neg (fun h => by have := (e_8 (by omega)).mp h; omega)]
    obtain ⟨r, e, hr⟩ := e_for (step := X8_ends_l15 (nI q) M1) (vN M1) (by omega) (I := fun s y => bSet (fun i => (i < vN M1 ∧ ∀ q', q' < q → vB M1 q' i = i) ∧ (i < s → vB M1 q i = i)) y) (Q := fun r => bSet (fun i => (i < vN M1 ∧ ∀ q', q' < q → vB M1 q' i = i) ∧ (i < vN M1 → vB M1 q i = i)) r) (by
      intro s y hs hy
      have hs10 : s < 10 := by omega
      unfold X8_ends_l15
      rw [if_neg (fun h => by have := (v_head hv (by omega : s ≤ 10)).1.mp h; omega), v_beh hv hq hs10]
      by_cases c : vB M1 q s = s
      · rw [if_pos (by rw [c])]
        refine ⟨y, rfl, bSet_iff hy (fun i _ => ⟨fun h => ⟨h.1, fun hi => ?_⟩, fun h => ⟨h.1, fun hi => h.2 (by omega)⟩⟩)⟩
        by_cases cs : i = s
        · subst cs
          exact c
        · exact h.2 (by omega)
      · have hb := (v_B hv hq hs10).2
        rw [if_neg (fun h => c ((v_nIe (by omega) (by omega)).mp h))]
        refine ⟨_, rfl, bSet_iff (bSet_clr hy (show s < 32 by omega)) (fun i _ => ⟨fun h => ⟨h.1.1, fun hi => h.1.2 (by have := h.2; omega)⟩, fun h => ⟨⟨h.1, fun hi => h.2 (by omega)⟩, fun cs => ?_⟩⟩)⟩
        subst cs
        exact c (h.2 (by omega))) (by
      intro y hy
      unfold X8_ends_l15
      rw [if_pos ((v_head hv (by omega)).1.mpr (Nat.le_refl _))]
      exact ⟨y, rfl, hy⟩) x (bSet_iff hx (fun i _ => ⟨fun h => ⟨h, fun h => by omega⟩, fun h => h.1⟩))
    rw [e]
    refine ⟨r, rfl, bSet_iff hr (fun i _ => ⟨fun h => ⟨h.1.1, fun q' hq' => ?_⟩, fun h => ⟨⟨h.1, fun q' hq' => h.2 q' (by omega)⟩, fun _ => h.2 q (by omega)⟩⟩)⟩
    by_cases cq : q' = q
    · subst cq
      exact h.2 h.1.1
    · exact h.1.2 q' (by omega)
  · intro x hx
    unfold X8_ends_l7
    rw [if_pos ((e_8 (by omega)).mpr (by omega))]
    exact ⟨x, rfl, hx⟩
/-- a loop over one counter alone -/
theorem e_for1 {ρ : Type} {step : Int32 → Option (Int32 ⊕ ρ)} (n : Nat) (hn : n < 1000000) (I : Nat → Prop) (Q : ρ → Prop) (hs : ∀ i, i < n → I i → (step (nI i) = some (.inl (nI i + 1)) ∧ I (i + 1)) ∨ ∃ r, step (nI i) = some (.inr r) ∧ Q r) (he : I n → ∃ r, step (nI n) = some (.inr r) ∧ Q r) (h0 : I 0) : ∃ r, mm_loop step mm_fuel 0 = some r ∧ Q r := by
  refine e_loopF (I := fun (s : Int32) => ∃ i : Nat, i ≤ n ∧ s = nI i ∧ I i) (Q := Q) (fun s => n - Int32.toNatClampNeg s) ?_ 0 ⟨0, by omega, rfl, h0⟩ (by omega)
  rintro x ⟨i, hi, rfl, h⟩
  by_cases c : i = n
  · subst c
    exact Or.inr (he h)
  · rcases hs i (by omega) h with ⟨e, h'⟩ | h'
    · refine Or.inl ⟨_, e, ⟨i + 1, by omega, nI_1 i, h'⟩, ?_⟩
      rw [nI_1, e_nIc (by omega), e_nIc (by omega)]
      omega
    · exact Or.inr h'
theorem al_loose2 {M1 M2 : mm_M} (hv : rl_val M1 M2) {t : Nat} (ht : t < vN M1) : ∃ b, X12_isLoose (nI t) M2 = some b ∧ (b = true ↔ ∀ s, s < vN M1 → ∀ q, q < 8 → s ≠ t → vB M1 q s ≠ t) := by
  have hn := v_n hv
  unfold X12_isLoose
  refine e_for1 (step := X12_isLoose_l2 (nI t) M2) (vN M1) (by omega) (I := fun s => ∀ s', s' < s → ∀ q, q < 8 → s' ≠ t → vB M1 q s' ≠ t) (Q := fun b => (b = true ↔ ∀ s, s < vN M1 → ∀ q, q < 8 → s ≠ t → vB M1 q s ≠ t)) ?_ ?_ (fun s' h => by omega)
  · intro s hs h
    have hs10 : s < 10 := by omega
    unfold X12_isLoose_l2
    rw [if_neg (fun h => by have := (v_head hv (by omega : s ≤ 10)).2.mp h; omega)]
    obtain ⟨r, e, hr⟩ := e_for1 (step := X12_isLoose_l12 (nI t) (nI s) M2) 8 (by omega) (I := fun q => ∀ q', q' < q → s ≠ t → vB M1 q' s ≠ t) (Q := fun (r : Bool ⊕ Unit) => (r = .inl false ∧ ∃ q, q < 8 ∧ s ≠ t ∧ vB M1 q s = t) ∨ (r = .inr () ∧ ∀ q', q' < 8 → s ≠ t → vB M1 q' s ≠ t)) (by
      intro q hq hI
      unfold X12_isLoose_l12
      rw [if_neg (fun h => by have := (e_8 (by omega)).mp h; omega)]
      by_cases c : s = t
      · rw [if_pos (by rw [c])]
        exact Or.inl ⟨rfl, fun q' _ hne => absurd c hne⟩
      · rw [if_neg (fun h => c ((v_nIe (by omega) (by omega)).mp h)), v_beh2 hv hq hs10, Option.bind_some]
        have hb := (v_B hv hq hs10).2
        by_cases d : vB M1 q s = t
        · rw [if_pos (by rw [d])]
          exact Or.inr ⟨_, rfl, Or.inl ⟨rfl, q, hq, c, d⟩⟩
        · rw [if_neg (fun h => d ((v_nIe (by omega) (by omega)).mp h))]
          refine Or.inl ⟨rfl, fun q' hq' hne => ?_⟩
          by_cases cq : q' = q
          · subst cq
            exact d
          · exact hI q' (by omega) hne) (by
      intro hI
      unfold X12_isLoose_l12
      rw [if_pos ((e_8 (by omega)).mpr (by omega))]
      exact ⟨_, rfl, Or.inr ⟨rfl, hI⟩⟩) (fun q' h => by omega)
    rw [e, Option.bind_some]
    rcases hr with ⟨rfl, q, hq, hne, hb⟩ | ⟨rfl, hall⟩
    · refine Or.inr ⟨false, rfl, ?_⟩
      simp only [Bool.false_eq_true, false_iff]
      intro h2
      exact h2 s hs q hq hne hb
    · refine Or.inl ⟨rfl, fun s' hs' q hq hne => ?_⟩
      by_cases cs : s' = s
      · subst cs
        exact hall q hq hne
      · exact h s' (by omega) q hq hne
  · intro h
    unfold X12_isLoose_l2
    rw [if_pos ((v_head hv (by omega)).2.mpr (Nat.le_refl _))]
    exact ⟨true, rfl, by simp only [true_iff]; exact h⟩
theorem al_ends2 {M1 M2 : mm_M} (hv : rl_val M1 M2) {t : Nat} (ht : t < vN M1) : ∃ b, X12_isEnd (nI t) M2 = some b ∧ (b = true ↔ ∀ q, q < 8 → vB M1 q t = t) := by
  have hn := v_n hv
  unfold X12_isEnd
  refine e_for1 (step := X12_isEnd_l2 (nI t) M2) 8 (by omega) (I := fun q => ∀ q', q' < q → vB M1 q' t = t) (Q := fun b => (b = true ↔ ∀ q, q < 8 → vB M1 q t = t)) ?_ ?_ (fun s' h => by omega)
  · intro q hq h
    have ht10 : t < 10 := by omega
    unfold X12_isEnd_l2
    rw [if_neg (fun h => by have := (e_8 (by omega)).mp h; omega), v_beh2 hv hq ht10, Option.bind_some]
    have hb := (v_B hv hq ht10).2
    by_cases d : vB M1 q t = t
    · rw [if_pos (by rw [d])]
      refine Or.inl ⟨rfl, fun q' hq' => ?_⟩
      by_cases cq : q' = q
      · subst cq
        exact d
      · exact h q' (by omega)
    · rw [if_neg (fun h => d ((v_nIe (by omega) (by omega)).mp h))]
      refine Or.inr ⟨false, rfl, ?_⟩
      simp only [Bool.false_eq_true, false_iff]
      intro h2
      exact d (h2 q hq)
  · intro h
    unfold X12_isEnd_l2
    rw [if_pos ((e_8 (by omega)).mpr (by omega))]
    exact ⟨true, rfl, by simp only [true_iff]; exact h⟩
theorem al_model {M1 M2 : mm_M} (hv : rl_val M1 M2) (x : Int32) : ∃ r, mm_loop (X12_alone_l22 x M2) mm_fuel (0, 0) = some r ∧ bSet (fun i => i < vN M1 ∧ if x = 0 then (∀ s, s < vN M1 → ∀ q, q < 8 → s ≠ i → vB M1 q s ≠ i) else ∀ q, q < 8 → vB M1 q i = i) r := by
  have hn := v_n hv
  refine e_for (step := X12_alone_l22 x M2) (vN M1) (by omega) (I := fun t y => bSet (fun i => i < t ∧ if x = 0 then (∀ s, s < vN M1 → ∀ q, q < 8 → s ≠ i → vB M1 q s ≠ i) else ∀ q, q < 8 → vB M1 q i = i) y) (Q := fun r => bSet (fun i => i < vN M1 ∧ if x = 0 then (∀ s, s < vN M1 → ∀ q, q < 8 → s ≠ i → vB M1 q s ≠ i) else ∀ q, q < 8 → vB M1 q i = i) r) ?_ ?_ 0 (bSet_iff bSet_0 (fun i _ => ⟨fun h => h.elim, fun h => by omega⟩))
  · intro t y ht hy
    unfold X12_alone_l22
    rw [if_neg (fun h => by have := (v_head hv (by omega : t ≤ 10)).2.mp h; omega)]
    have fin : ∀ (b : Bool) (P : Nat → Prop), bSet (fun i => i < t ∧ P i) y → (b = true ↔ P t) → ∃ a', (if b = true then some (Sum.inl (y ||| ((1 : Int32) <<< (nI t &&& 31)), nI t + 1)) else some (Sum.inl (y, nI t + 1)) : Option ((Int32 × Int32) ⊕ Int32)) = some (.inl (a', nI t + 1)) ∧ bSet (fun i => i < t + 1 ∧ P i) a' := by
      intro b P hy hb
      cases b
      · refine ⟨y, rfl, bSet_iff hy (fun i _ => ⟨fun h => ⟨by omega, h.2⟩, fun h => ⟨?_, h.2⟩⟩)⟩
        have : i ≠ t := by
          intro c
          subst c
          exact absurd (hb.mpr h.2) (by decide)
        omega
      · refine ⟨_, rfl, bSet_iff (bSet_set hy (show t < 32 by omega)) (fun i _ => ⟨fun h => ?_, fun h => ?_⟩)⟩
        · rcases h with h | h
          · exact ⟨by omega, h.2⟩
          · subst h
            exact ⟨by omega, hb.mp rfl⟩
        · by_cases c : i = t
          · exact Or.inr c
          · exact Or.inl ⟨by omega, h.2⟩
    by_cases c : x = 0
    · simp only [if_pos c] at hy ⊢
      obtain ⟨b, e, hb⟩ := al_loose2 hv ht
      rw [e, Option.bind_some]
      exact fin b _ hy hb
    · simp only [if_neg c] at hy ⊢
      obtain ⟨b, e, hb⟩ := al_ends2 hv ht
      rw [e, Option.bind_some]
      exact fin b _ hy hb
  · intro y hy
    unfold X12_alone_l22
    rw [if_pos ((v_head hv (by omega)).2.mpr (Nat.le_refl _))]
    exact ⟨y, rfl, hy⟩
theorem op_25 (x : Int32) : rl_ok (cl_25 x) (md_25 x) := by
  intro M1 M2 h
  have hv := h.2.2.2.1
  unfold cl_25 md_25 X11_alone X12_alone
  rw [← rl_01 x]
  by_cases c1 : X11_isZeroOrOne x = true
  · by_cases c2 : X8_isTold M1 = true
    · obtain ⟨r, e, hr⟩ := al_model hv x
      simp only [if_pos c1, if_pos c2, if_neg ((rl_told hv).mp c2), e]
      by_cases c3 : x = 0
      · obtain ⟨r', e', hr'⟩ := al_loose1 hv
        simp only [if_pos c3, e', Option.bind_some]
        simp only [if_pos c3] at hr
        have : r = r' := bSet_eq hr hr' (fun i _ => ⟨fun h => ⟨h.1, fun q hq s hs hne he => h.2 s hs q hq (fun c => hne (by rw [← he, c])) he.symm⟩, fun h => ⟨h.1, fun s hs q hq hne he => h.2 q hq s hs (by rw [he]; exact fun c => hne c.symm) he.symm⟩⟩)
        subst this
        exact ⟨r, M1, M2, rfl, rfl, h, rl_lf_rfl⟩
      · obtain ⟨r', e', hr'⟩ := al_ends1 hv
        simp only [if_neg c3, e', Option.bind_some]
        simp only [if_neg c3] at hr
        have : r = r' := bSet_eq hr hr' (fun i _ => Iff.rfl)
        subst this
        exact ⟨r, M1, M2, rfl, rfl, h, rl_lf_rfl⟩
    · have c4 : M2 0 6 = 0 := by
        rcases Decidable.em (M2 0 6 = 0) with q | q
        · exact q
        · exact absurd ((rl_told hv).mpr q) c2
      simp only [if_pos c1, if_neg c2, if_pos c4]
      exact ⟨-1, M1, M2, rfl, rfl, h, rl_lf_rfl⟩
  · simp only [if_neg c1, ite_self]
    exact ⟨-1, M1, M2, rfl, rfl, h, rl_lf_rfl⟩
