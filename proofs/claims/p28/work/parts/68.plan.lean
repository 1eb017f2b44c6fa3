-- plans: the pure side
/-- of the states below k in the set m: what is behind the question q where the answer is a -/
def yG (M : mm_M) (m q a : Nat) : Nat → Nat
  | 0 => 0
  | k + 1 => if m.testBit k = true ∧ vA M q k = nI a then zI (yG M m q a k) (vB M q k) else yG M m q a k
def yP (M : mm_M) (m q a : Nat) : Nat := yG M m q a (vN M)
theorem yG_s {M : mm_M} {m q a k : Nat} : yG M m q a (k + 1) = if m.testBit k = true ∧ vA M q k = nI a then zI (yG M m q a k) (vB M q k) else yG M m q a k := rfl
theorem yG_b {M : mm_M} {m q a i : Nat} : ∀ k, (yG M m q a k).testBit i = true ↔ ∃ s, s < k ∧ m.testBit s = true ∧ vA M q s = nI a ∧ vB M q s = i := by
  intro k
  induction k with
  | zero =>
    constructor
    · intro h
      rw [yG, Nat.zero_testBit] at h
      cases h
    · rintro ⟨s, h, -⟩
      omega
  | succ k ih =>
    rw [yG_s]
    by_cases c : m.testBit k = true ∧ vA M q k = nI a
    · rw [if_pos c, z_bI, Bool.or_eq_true, decide_eq_true_eq, ih]
      constructor
      · rintro (⟨s, h1, h2⟩ | h)
        · exact ⟨s, by omega, h2⟩
        · exact ⟨k, by omega, c.1, c.2, h.symm⟩
      · rintro ⟨s, h1, h2, h3, h4⟩
        by_cases e : s = k
        · subst e
          exact Or.inr h4.symm
        · exact Or.inl ⟨s, by omega, h2, h3, h4⟩
    · rw [if_neg c, ih]
      constructor
      · rintro ⟨s, h1, h2⟩
        exact ⟨s, by omega, h2⟩
      · rintro ⟨s, h1, h2, h3, h4⟩
        by_cases e : s = k
        · subst e
          exact absurd ⟨h2, h3⟩ c
        · exact ⟨s, by omega, h2, h3, h4⟩
theorem yG_lt {M1 M2 : mm_M} (hv : rl_val M1 M2) {m q a : Nat} (hq : q < 8) : ∀ k, k ≤ 10 → yG M1 m q a k < 1024 := by
  intro k
  induction k with
  | zero => intro _; exact (by decide : 0 < 1024)
  | succ k ih =>
    intro hk
    rw [yG_s]
    have h1 := ih (by omega)
    split
    · exact (z_ar _ h1 _ (v_B hv hq (show k < 10 by omega)).2).1
    · exact h1
theorem y_pow {M1 M2 : mm_M} (hv : rl_val M1 M2) : 2 ^ vN M1 ≤ 1024 := Nat.pow_le_pow_right (n := 2) (by omega) (v_n hv).2.1
theorem yP_lt {M1 M2 : mm_M} (hv : rl_val M1 M2) (hi : rl_in M1) {m q a : Nat} (hq : q < 8) : yP M1 m q a < 2 ^ vN M1 := by
  refine Nat.lt_pow_two_of_testBit _ (fun i hin => ?_)
  cases h : (yP M1 m q a).testBit i
  · rfl
  · obtain ⟨s, h1, -, -, h2⟩ := (yG_b _).mp h
    have := v_Bn hv hi hq h1
    omega
/-- a set of states from which a plan of r questions makes sure -/
def yW (M : mm_M) : Nat → Nat → Prop
  | 0 => fun m => sCnt m 10 < 2
  | r + 1 => fun m => yW M r m ∨ ∃ q, q < 8 ∧ ∀ a, a < 10 → ¬ yP M m q a = 0 → yW M r (yP M m q a)
theorem yW_up {M : mm_M} {m : Nat} : ∀ d r, yW M r m → yW M (r + d) m := by
  intro d
  induction d with
  | zero => intro r h; exact h
  | succ d ih => intro r h; exact Or.inl (ih r h)
theorem yW_mono {M : mm_M} {m r s : Nat} (h : yW M r m) (hrs : r ≤ s) : yW M s m := by
  have := yW_up (s - r) r h
  rw [show r + (s - r) = s by omega] at this
  exact this
def yT (M : mm_M) (q : Nat) : Prop := ∃ s, s < vN M ∧ (¬ vB M q s = s ∨ ¬ vA M q s = vA M q 0)
theorem y_0 : sCnt 0 10 < 2 := by decide
set_option maxRecDepth 100000 in
theorem y_cnt : ∀ m, m < 1024 → ¬ m = 0 → ¬ sCnt m 10 = 0 := by decide +kernel
theorem y_tell {M1 M2 : mm_M} (hv : rl_val M1 M2) {m q r : Nat} (hm : m < 2 ^ vN M1) (hq : q < 8) (hno : ¬ yW M1 r m) (hg : ∀ a, a < 10 → ¬ yP M1 m q a = 0 → yW M1 r (yP M1 m q a)) : yT M1 q := by
  rcases Classical.em (yT M1 q) with h | h
  · exact h
  · exfalso
    have hs : ∀ s, s < vN M1 → vB M1 q s = s ∧ vA M1 q s = vA M1 q 0 := by
      intro s hs
      refine ⟨?_, ?_⟩
      · rcases Classical.em (vB M1 q s = s) with e | e
        · exact e
        · exact absurd ⟨s, hs, Or.inl e⟩ h
      · rcases Classical.em (vA M1 q s = vA M1 q 0) with e | e
        · exact e
        · exact absurd ⟨s, hs, Or.inr e⟩ h
    obtain ⟨a, ha, ea⟩ := nx_ans hv hq (show 0 < 10 by omega)
    have e : yP M1 m q a = m := by
      apply Nat.eq_of_testBit_eq
      intro i
      rw [Bool.eq_iff_iff]
      show (yG M1 m q a (vN M1)).testBit i = true ↔ _
      rw [yG_b]
      constructor
      · rintro ⟨s, h1, h2, h3, h4⟩
        rw [(hs s h1).1] at h4
        rw [← h4]
        exact h2
      · intro hb
        have hi : i < vN M1 := by
          rcases Nat.lt_or_ge i (vN M1) with w | w
          · exact w
          · rw [Nat.testBit_lt_two_pow (Nat.lt_of_lt_of_le hm (Nat.pow_le_pow_right (n := 2) (by omega) w))] at hb
            cases hb
        exact ⟨i, hi, hb, by rw [(hs i hi).2, ea], (hs i hi).1⟩
    by_cases z : m = 0
    · subst z
      exact hno (yW_mono (show yW M1 0 0 from y_0) (Nat.zero_le _))
    · have := hg a ha (by rw [e]; exact z)
      rw [e] at this
      exact hno this
/-- the reference's worst -/
def yM (M : mm_M) (c : Nat → Nat) (m q : Nat) : Nat := mxA (fun a => if yP M m q a = 0 then 0 else c (yP M m q a)) 10
theorem yM_le {M : mm_M} {c : Nat → Nat} {m q a : Nat} (ha : a < 10) (h : ¬ yP M m q a = 0) : c (yP M m q a) ≤ yM M c m q := by
  have := mxA_le (f := fun a => if yP M m q a = 0 then 0 else c (yP M m q a)) 10 a ha
  try dsimp only at this
  rw [if_neg h] at this
  exact this
theorem yM_ub {M : mm_M} {c : Nat → Nat} {m q b : Nat} (h : ∀ a, a < 10 → ¬ yP M m q a = 0 → c (yP M m q a) ≤ b) : yM M c m q ≤ b := by
  refine mxA_ub 10 (fun a ha => ?_)
  try dsimp only
  by_cases z : yP M m q a = 0
  · rw [if_pos z]
    exact Nat.zero_le _
  · rw [if_neg z]
    exact h a ha z
def yInv (M : mm_M) (c : Nat → Nat) : Prop := ∀ m, m < 1024 → c m ≤ 1000000 ∧ (c m < 1000000 → yW M (c m) m) ∧ (sCnt m 10 < 2 → c m = 0)
def yFix (M : mm_M) (c : Nat → Nat) : Prop := ∀ m, m < 2 ^ vN M → 2 ≤ sCnt m 10 → ∀ q, q < 8 → c m ≤ yM M c m q + 1
def yV (M : mm_M) (c : Nat → Nat) : Prop := yInv M c ∧ yFix M c
theorem yV_iff {M1 M2 : mm_M} (hv : rl_val M1 M2) (hi : rl_in M1) {c : Nat → Nat} (h : yV M1 c) : ∀ r m, m < 2 ^ vN M1 → r < 1000000 → (yW M1 r m ↔ c m ≤ r) := by
  have hp := y_pow hv
  intro r
  induction r with
  | zero =>
    intro m hm hr
    constructor
    · intro w
      have := (h.1 m (by omega)).2.2 w
      omega
    · intro w
      have := (h.1 m (by omega)).2.1 (by omega)
      rw [show c m = 0 by omega] at this
      exact this
  | succ r ih =>
    intro m hm hr
    constructor
    · rintro (w | ⟨q, hq, w⟩)
      · have := (ih m hm (by omega)).mp w
        omega
      · rcases Nat.lt_or_ge (sCnt m 10) 2 with z | z
        · have := (h.1 m (by omega)).2.2 z
          omega
        · have h1 := h.2 m hm z q hq
          have h2 : yM M1 c m q ≤ r := yM_ub (fun a ha hz => (ih _ (yP_lt hv hi hq) (by omega)).mp (w a ha hz))
          omega
    · intro w
      exact yW_mono ((h.1 m (by omega)).2.1 (by omega)) w
theorem y_some {M1 M2 : mm_M} (hv : rl_val M1 M2) {m q : Nat} (hm : m < 2 ^ vN M1) (h0 : ¬ m = 0) (hq : q < 8) : ∃ a, a < 10 ∧ ¬ yP M1 m q a = 0 := by
  have : ∃ s, m.testBit s = true := by
    rcases Classical.em (∃ s, m.testBit s = true) with w | w
    · exact w
    · exfalso
      apply h0
      apply Nat.eq_of_testBit_eq
      intro i
      rw [Nat.zero_testBit]
      cases hb : m.testBit i
      · rfl
      · exact absurd ⟨i, hb⟩ w
  obtain ⟨s, hs⟩ := this
  have hsn : s < vN M1 := by
    rcases Nat.lt_or_ge s (vN M1) with w | w
    · exact w
    · rw [Nat.testBit_lt_two_pow (Nat.lt_of_lt_of_le hm (Nat.pow_le_pow_right (n := 2) (by omega) w))] at hs
      cases hs
  have h10 := (v_n hv).2.1
  obtain ⟨a, ha, ea⟩ := nx_ans hv hq (show s < 10 by omega)
  refine ⟨a, ha, fun z => ?_⟩
  have : (yP M1 m q a).testBit (vB M1 q s) = true := (yG_b _).mpr ⟨s, hsn, hs, ea, rfl⟩
  rw [z, Nat.zero_testBit] at this
  cases this
theorem yV_att {M1 M2 : mm_M} (hv : rl_val M1 M2) (hi : rl_in M1) {c : Nat → Nat} (h : yV M1 c) {m k : Nat} (hm : m < 2 ^ vN M1) (e : c m = k + 1) (hk : k + 1 < 1000000) : ∃ q, q < 8 ∧ yT M1 q ∧ (∀ a, a < 10 → ¬ yP M1 m q a = 0 → c (yP M1 m q a) ≤ k) ∧ ∃ a, a < 10 ∧ ¬ yP M1 m q a = 0 ∧ c (yP M1 m q a) = k := by
  have hp := y_pow hv
  have w := (yV_iff hv hi h (k + 1) m hm hk).mpr (by omega)
  have no : ¬ yW M1 k m := fun z => by
    have := (yV_iff hv hi h k m hm (by omega)).mp z
    omega
  have h2 : 2 ≤ sCnt m 10 := by
    rcases Nat.lt_or_ge (sCnt m 10) 2 with z | z
    · have := (h.1 m (by omega)).2.2 z
      omega
    · exact z
  rcases w with w | ⟨q, hq, w⟩
  · exact absurd w no
  · have ub : ∀ a, a < 10 → ¬ yP M1 m q a = 0 → c (yP M1 m q a) ≤ k := fun a ha hz => (yV_iff hv hi h k _ (yP_lt hv hi hq) (by omega)).mp (w a ha hz)
    refine ⟨q, hq, y_tell hv hm hq no w, ub, ?_⟩
    rcases Classical.em (∃ a, a < 10 ∧ ¬ yP M1 m q a = 0 ∧ c (yP M1 m q a) = k) with z | z
    · exact z
    · exfalso
      have h0 : ¬ m = 0 := fun y => by
        subst y
        have := y_0
        omega
      have lt : ∀ a, a < 10 → ¬ yP M1 m q a = 0 → c (yP M1 m q a) < k := by
        intro a ha hz
        have := ub a ha hz
        rcases Nat.lt_or_ge (c (yP M1 m q a)) k with y | y
        · exact y
        · exact absurd ⟨a, ha, hz, by omega⟩ z
      obtain ⟨a, ha, hz⟩ := y_some hv hm h0 hq
      have := lt a ha hz
      have h3 : yM M1 c m q ≤ k - 1 := yM_ub (fun a ha hz => by have := lt a ha hz; omega)
      have := h.2 m hm h2 q hq
      omega
theorem yV_many {M1 M2 : mm_M} (hv : rl_val M1 M2) (hi : rl_in M1) {c : Nat → Nat} (h : yV M1 c) : ∀ k, k < 1000000 → ∀ m, m < 2 ^ vN M1 → c m = k → k + 1 ≤ nC (fun m => decide (c m ≤ k)) 1024 := by
  have hp := y_pow hv
  intro k
  induction k with
  | zero =>
    intro _ m hm e
    exact nC_pos 1024 ⟨m, by omega, by rw [decide_eq_true_eq]; omega⟩
  | succ k ih =>
    intro hk m hm e
    obtain ⟨q, hq, -, -, a, ha, hz, hc⟩ := yV_att hv hi h hm e hk
    have h1 := ih (by omega) _ (yP_lt hv hi hq) hc
    have h2 : nC (fun m => decide (c m ≤ k)) 1024 < nC (fun m => decide (c m ≤ k + 1)) 1024 := by
      refine nC_lt 1024 (fun i _ w => ?_) ⟨m, by omega, ?_, ?_⟩
      · rw [decide_eq_true_eq] at w ⊢
        omega
      · rw [decide_eq_true_eq]
        omega
      · rw [decide_eq_true_eq]
        omega
    omega
theorem yV_1023 {M1 M2 : mm_M} (hv : rl_val M1 M2) (hi : rl_in M1) {c : Nat → Nat} (h : yV M1 c) {m : Nat} (hm : m < 2 ^ vN M1) (hf : c m < 1000000) : c m ≤ 1023 := by
  have h1 := yV_many hv hi h (c m) hf m hm rfl
  have h2 := nC_le (f := fun x => decide (c x ≤ c m)) 1024
  omega
theorem yV_chain {M1 M2 : mm_M} (hv : rl_val M1 M2) (hi : rl_in M1) {c : Nat → Nat} (h : yV M1 c) {S : Nat → Prop} (hS : ∀ m, S m → m < 2 ^ vN M1) (hcl : ∀ m, S m → 2 ≤ sCnt m 10 → ∀ q, q < 8 → yT M1 q → ∀ a, a < 10 → ¬ yP M1 m q a = 0 → S (yP M1 m q a)) {r : Nat} (hr : ∀ m, S m → ¬ c m = r) : ∀ k, r ≤ k → k < 1000000 → ∀ m, S m → ¬ c m = k := by
  have hp := y_pow hv
  intro k
  induction k with
  | zero =>
    intro h0 _ m hm
    rw [show (0 : Nat) = r by omega]
    exact hr m hm
  | succ k ih =>
    intro h1 h2 m hm e
    by_cases z : r = k + 1
    · subst z
      exact hr m hm e
    · obtain ⟨q, hq, ht, -, a, ha, hz, hc⟩ := yV_att hv hi h (hS m hm) e h2
      have h3 : 2 ≤ sCnt m 10 := by
        rcases Nat.lt_or_ge (sCnt m 10) 2 with y | y
        · have := (h.1 m (by have := hS m hm; omega)).2.2 y
          omega
        · exact y
      exact ih (by omega) (by omega) _ (hcl m hm h3 q hq ht a ha hz) hc
