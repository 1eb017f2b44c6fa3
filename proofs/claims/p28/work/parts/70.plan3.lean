-- plans: the class, what may come
theorem y_split {M1 M2 N : mm_M} (hv : rl_val M1 M2) (h7 : N 7 = M1 7) (h8 : N 8 = M1 8) (h9 : N 9 = M1 9) {m q : Nat} (hm : m < 1024) (hq : q < 8) : ∃ N', X5_split (nI m) (nI q) N = some N' ∧ (∀ a, a < 10 → N' 40 a = nI (yP M1 m q a)) ∧ ∀ b, b ≠ 40 → N' b = N b := by
  have hn := v_n hv
  obtain ⟨y, f1, f2, f3, f4⟩ := e_fill 40 10 rfl (by omega) 0 N
  have key : ∃ N', mm_loop (X5_split_l11 (nI m) (nI q)) mm_fuel (0, y) = some N' ∧ (∀ a, a < 10 → N' 40 a = nI (yP M1 m q a)) ∧ ∀ b, b ≠ 40 → N' b = N b := by
    refine e_loopF (step := X5_split_l11 (nI m) (nI q)) (I := fun (z : Int32 × mm_M) => ∃ k : Nat, k ≤ vN M1 ∧ z.1 = nI k ∧ (∀ a, a < 10 → z.2 40 a = nI (yG M1 m q a k)) ∧ ∀ b, b ≠ 40 → z.2 b = N b) (Q := fun (N' : mm_M) => (∀ a, a < 10 → N' 40 a = nI (yP M1 m q a)) ∧ ∀ b, b ≠ 40 → N' b = N b) (fun z => 20 - Int32.toNatClampNeg z.1) ?_ (0, y) ⟨0, by omega, rfl, f2, f4⟩ (by omega)
    rintro ⟨x, K⟩ ⟨k, hk, hx, g1, g2⟩
    try dsimp only at hx g1 g2
    subst hx
    have hK7 : K 7 0 = M1 7 0 := by rw [g2 7 (by decide), h7]
    unfold X5_split_l11
    try dsimp only
    simp only [hK7]
    by_cases e : k = vN M1
    · rw [if_pos ((v_head hv (show k ≤ 10 by omega)).1.mpr (by omega))]
      rw [e] at g1
      exact Or.inr ⟨K, rfl, g1, g2⟩
    · have k10 : k < 10 := by omega
      obtain ⟨a, ha, ea⟩ := nx_ans hv hq k10
      have hA : X8_answer (nI q) (nI k) K = nI a := by
        rw [v_ans hq k10]
        unfold vA
        rw [g2 8 (by decide), h8]
        exact ea
      have hB : X8_behind (nI q) (nI k) K = nI (vB M1 q k) := by
        rw [v_behI hq k10, g2 9 (by decide), h9]
        exact (v_B hv hq k10).1
      have hlt : 20 - Int32.toNatClampNeg (nI k + 1) < 20 - Int32.toNatClampNeg (nI k) := by
        rw [nI_1, e_nIc (by omega), e_nIc (by omega)]
        omega
      rw [if_neg (fun z => by have := (v_head hv (show k ≤ 10 by omega)).1.mp z; omega)]
      simp only [hA, hB]
      cases hb : m.testBit k
      · rw [if_pos ((f_bit hm k10).mpr hb)]
        refine Or.inl ⟨_, rfl, ⟨k + 1, by omega, nI_1 k, fun a ha => ?_, g2⟩, hlt⟩
        rw [yG_s, if_neg (fun z => by rw [hb] at z; cases z.1)]
        exact g1 a ha
      · have an10 : mm_in (nI a) 10 = true := e_inb (by rw [e_nIt (by omega)]; omega) (by rw [e_nIt (by omega)]; omega)
        rw [if_neg (fun z => by rw [(f_bit hm k10).mp z] at hb; cases hb), if_neg (nI_pos (by omega)), if_neg (fun z => by have := (nI_ltI (a := 9) (by omega) (by omega)).mp z; omega), if_pos an10, if_pos an10, e_nIc (show a < 2147483648 by omega), g1 a ha, z_I (yG_lt hv hq k (by omega)) (v_B hv hq k10).2]
        refine Or.inl ⟨_, rfl, ⟨k + 1, by omega, nI_1 k, fun a' ha' => ?_, fun b hb => (mm_U_ne b hb).trans (g2 b hb)⟩, hlt⟩
        show mm_U K 40 a _ 40 a' = _
        rw [e_U, yG_s]
        by_cases w : a' = a
        · subst w
          rw [if_pos ⟨rfl, rfl⟩, if_pos ⟨hb, ea⟩]
        · rw [if_neg (fun z => w z.2), if_neg (fun z => w ((v_nIe (by omega) (by omega)).mp (by rw [← z.2, ea])))]
          exact g1 a' ha'
  obtain ⟨N', h1, h2, h3⟩ := key
  refine ⟨N', ?_, h2, h3⟩
  unfold X5_split
  rw [f1, Option.bind_some, h1]
/-- the line of sets that may come: k of them -/
def yE (M1 N : mm_M) (T : Int32) (k : Nat) : Prop :=
  (k ≤ 1024 ∧ k = kSeen (N 38) 1024 ∧ N 36 6 = nI k ∧ N 36 7 = T) ∧
  (∀ j, j < k → ∃ m, m < 2 ^ vN M1 ∧ N 37 j = nI m ∧ ¬ N 38 m = -1) ∧
  (∀ m, m < 1024 → N 38 m = -1 ∨ (N 38 m = nI (if sCnt m 10 = 1 then 0 else 1024) ∧ ¬ m = 0 ∧ m < 2 ^ vN M1 ∧ ∃ j, j < k ∧ N 37 j = nI m)) ∧
  ∀ b, b ≠ 36 → b ≠ 37 → b ≠ 38 → b ≠ 39 → b ≠ 40 → N b = M1 b
def yX (N N' : mm_M) (k k' : Nat) : Prop := k ≤ k' ∧ (∀ m, m < 1024 → ¬ N 38 m = -1 → N' 38 m = N 38 m) ∧ ∀ j, j < k → N' 37 j = N 37 j
theorem yX_rfl {N : mm_M} {k : Nat} : yX N N k k := ⟨Nat.le_refl _, fun _ _ _ => rfl, fun _ _ => rfl⟩
theorem yX_trans {A B C : mm_M} {a b c : Nat} (h1 : yX A B a b) (h2 : yX B C b c) : yX A C a c := by
  refine ⟨Nat.le_trans h1.1 h2.1, fun m hm hs => ?_, fun j hj => ?_⟩
  · have e := h1.2.1 m hm hs
    rw [h2.2.1 m hm (by rw [e]; exact hs), e]
  · rw [h2.2.2 j (by have := h1.1; omega), h1.2.2 j hj]
theorem yX_seen {A B : mm_M} {a b m : Nat} (h : yX A B a b) (hm : m < 1024) (hs : ¬ A 38 m = -1) : ¬ B 38 m = -1 := by
  rw [h.2.1 m hm hs]
  exact hs
theorem y_enter {M1 M2 N : mm_M} (hv : rl_val M1 M2) {T : Int32} {k g : Nat} (h : yE M1 N T k) (hg : g < 2 ^ vN M1) (h0 : ¬ g = 0) : ∃ N' k', X5_enterOpen (nI g) N = some N' ∧ yE M1 N' T k' ∧ yX N N' k k' ∧ ¬ N' 38 g = -1 ∧ N' 40 = N 40 := by
  have hp := y_pow hv
  have hg' : g < 1024 := by omega
  obtain ⟨⟨e1, e2, e3, e4⟩, e5, e6, e7⟩ := id h
  have en : ∀ v : Nat, v = (if sCnt g 10 = 1 then 0 else 1024) → ∃ N' k', X5_enter (nI g) (nI v) (-1) N = some N' ∧ yE M1 N' T k' ∧ yX N N' k k' ∧ ¬ N' 38 g = -1 ∧ N' 40 = N 40 := by
    intro v ev
    have hv2 : v < 100000 := by
      rw [ev]
      split <;> omega
    unfold X5_enter
    rw [if_neg (nI_pos (by omega)), if_neg (fun z => by have := (nI_leI (a := 1024) (by omega) (by omega)).mp z; omega), e_nIc (by omega)]
    by_cases un : N 38 g = -1
    · have hk : k < 1024 := by
        have := kSeen_lt un 1024 hg'
        omega
      rw [if_pos un]
      unfold X5_enter_j26
      rw [if_pos rfl, e3, if_neg (nI_pos (by omega)), if_neg (fun z => by have := (nI_leI (a := 1024) (by omega) (by omega)).mp z; omega), if_pos (f_in hg'), if_pos (f_in hg'), e_nIc (show k < 2147483648 by omega), e_nIc (show g < 2147483648 by omega), nI_1]
      refine ⟨_, k + 1, rfl, ⟨⟨by omega, ?_, ?_, ?_⟩, ?_, ?_, ?_⟩, ⟨by omega, ?_, ?_⟩, ?_, ?_⟩
      · show k + 1 = kSeen (upd (N 38) g (nI v)) 1024
        rw [kSeen_upd un (k_ne hv2), if_pos hg', ← e2]
      · rw [e_U, if_pos ⟨rfl, rfl⟩]
      · rw [e_U, if_neg (by omega), mm_U_ne 36 (by decide), mm_U_ne 36 (by decide), mm_U_ne 36 (by decide)]
        exact e4
      · intro j hj
        rw [mm_U_ne 37 (by decide), mm_U_ne 38 (by decide), mm_U_ne 38 (by decide), mm_U_ne 38 (by decide)]
        by_cases w : j = k
        · refine ⟨g, hg, ?_, ?_⟩
          · rw [e_U, if_pos ⟨rfl, w⟩]
          · rw [e_U, if_pos ⟨rfl, rfl⟩]
            exact k_ne hv2
        · obtain ⟨m, m1, m2, m3⟩ := e5 j (by omega)
          refine ⟨m, m1, ?_, ?_⟩
          · rw [e_U, if_neg (fun z => w z.2), mm_U_ne 37 (by decide), mm_U_ne 37 (by decide)]
            exact m2
          · rw [e_U]
            split
            · exact k_ne hv2
            · exact m3
      · intro m hm
        rw [mm_U_ne 38 (by decide), mm_U_ne 38 (by decide), mm_U_ne 38 (by decide), mm_U_ne 37 (by decide), e_U]
        by_cases w : m = g
        · subst w
          rw [if_pos ⟨rfl, rfl⟩]
          refine Or.inr ⟨by rw [ev], h0, hg, k, by omega, ?_⟩
          rw [e_U, if_pos ⟨rfl, rfl⟩]
        · rw [if_neg (fun z => w z.2)]
          rcases e6 m hm with z | ⟨z1, z2, z3, j, z4, z5⟩
          · exact Or.inl z
          · refine Or.inr ⟨z1, z2, z3, j, by omega, ?_⟩
            rw [e_U, if_neg (by omega), mm_U_ne 37 (by decide), mm_U_ne 37 (by decide)]
            exact z5
      · intro b b1 b2 b3 b4 b5
        rw [mm_U_ne b b1, mm_U_ne b b2, mm_U_ne b b4, mm_U_ne b b3]
        exact e7 b b1 b2 b3 b4 b5
      · intro m hm hs
        rw [mm_U_ne 38 (by decide), mm_U_ne 38 (by decide), mm_U_ne 38 (by decide), e_U, if_neg]
        rintro ⟨-, w⟩
        subst w
        exact hs un
      · intro j hj
        rw [mm_U_ne 37 (by decide), e_U, if_neg (by omega), mm_U_ne 37 (by decide), mm_U_ne 37 (by decide)]
      · rw [mm_U_ne 38 (by decide), mm_U_ne 38 (by decide), mm_U_ne 38 (by decide), e_U, if_pos ⟨rfl, rfl⟩]
        exact k_ne hv2
      · rw [mm_U_ne 40 (by decide), mm_U_ne 40 (by decide), mm_U_ne 40 (by decide), mm_U_ne 40 (by decide)]
    · rw [if_neg un]
      unfold X5_enter_j25 X5_enter_j26
      rw [if_neg (by decide)]
      exact ⟨N, k, rfl, h, yX_rfl, un, rfl⟩
  unfold X5_enterOpen
  rw [s_count g hg']
  have hs10 := sCnt_le (m := g) 10
  by_cases c : sCnt g 10 = 1
  · rw [if_pos (by rw [c]; rfl)]
    obtain ⟨N', k', q1, q2⟩ := en 0 (by rw [if_pos c])
    have q1' : X5_enter (nI g) 0 (-1) N = some N' := q1
    rw [q1', Option.bind_some]
    exact ⟨N', k', rfl, q2⟩
  · rw [if_neg (fun z => by exact c ((nI_eq (b := 1) (by omega) (by omega)).mp z))]
    obtain ⟨N', k', q1, q2⟩ := en 1024 (by rw [if_neg c])
    have q1' : X5_enter (nI g) 1024 (-1) N = some N' := q1
    rw [q1', Option.bind_some]
    exact ⟨N', k', rfl, q2⟩
theorem y_groups {M1 M2 N : mm_M} (hv : rl_val M1 M2) (hi : rl_in M1) {T : Int32} {k m q : Nat} (h : yE M1 N T k) (hm : m < 1024) (hq : q < 8) : ∃ N' k', X5_enterGroups (nI m) (nI q) N = some N' ∧ yE M1 N' T k' ∧ yX N N' k k' ∧ ∀ a, a < 10 → ¬ yP M1 m q a = 0 → ¬ N' 38 (yP M1 m q a) = -1 := by
  have hp := y_pow hv
  obtain ⟨-, -, -, e7⟩ := id h
  obtain ⟨K, s1, s2, s3⟩ := y_split hv (e7 7 (by decide) (by decide) (by decide) (by decide) (by decide)) (e7 8 (by decide) (by decide) (by decide) (by decide) (by decide)) (e7 9 (by decide) (by decide) (by decide) (by decide) (by decide)) hm hq
  have hK : yE M1 K T k := by
    obtain ⟨a1, a2, a3, a4⟩ := h
    unfold yE
    rw [s3 36 (by decide), s3 37 (by decide), s3 38 (by decide)]
    exact ⟨a1, a2, a3, fun b b1 b2 b3 b4 b5 => by rw [s3 b b5]; exact a4 b b1 b2 b3 b4 b5⟩
  have hX : yX N K k k := ⟨Nat.le_refl _, fun _ _ _ => by rw [s3 38 (by decide)], fun _ _ => by rw [s3 37 (by decide)]⟩
  have lt : ∀ a, yP M1 m q a < 1024 := fun a => by have := yP_lt (m := m) (a := a) hv hi hq; omega
  have key : ∃ N', mm_loop X5_enterGroups_l10 mm_fuel (0, K) = some N' ∧ ∃ k', yE M1 N' T k' ∧ yX N N' k k' ∧ ∀ a, a < 10 → ¬ yP M1 m q a = 0 → ¬ N' 38 (yP M1 m q a) = -1 := by
    refine e_loopF (step := X5_enterGroups_l10) (I := fun (z : Int32 × mm_M) => ∃ i k' : Nat, i ≤ 10 ∧ z.1 = nI i ∧ yE M1 z.2 T k' ∧ yX N z.2 k k' ∧ z.2 40 = K 40 ∧ ∀ a, a < i → ¬ yP M1 m q a = 0 → ¬ z.2 38 (yP M1 m q a) = -1) (Q := fun (N' : mm_M) => ∃ k', yE M1 N' T k' ∧ yX N N' k k' ∧ ∀ a, a < 10 → ¬ yP M1 m q a = 0 → ¬ N' 38 (yP M1 m q a) = -1) (fun z => 20 - Int32.toNatClampNeg z.1) ?_ (0, K) ⟨0, k, by omega, rfl, hK, hX, rfl, fun a ha => by omega⟩ (by omega)
    rintro ⟨x, L⟩ ⟨i, k', hi10, hx, g1, g2, g3, g4⟩
    try dsimp only at hx g1 g2 g3 g4
    subst hx
    unfold X5_enterGroups_l10
    try dsimp only
    by_cases e : i = 10
    · subst e
      rw [if_pos (show (9 : Int32) < nI 10 from (nI_ltI (a := 9) (by omega) (by omega)).mpr (by omega))]
      exact Or.inr ⟨L, rfl, k', g1, g2, g4⟩
    · have in10 : mm_in (nI i) 10 = true := e_inb (by rw [e_nIt (by omega)]; omega) (by rw [e_nIt (by omega)]; omega)
      have hlt : 20 - Int32.toNatClampNeg (nI i + 1) < 20 - Int32.toNatClampNeg (nI i) := by
        rw [nI_1, e_nIc (by omega), e_nIc (by omega)]
        omega
      rw [if_neg (fun z => by have := (nI_ltI (a := 9) (by omega) (by omega)).mp z; omega), if_pos in10, if_pos in10]
      simp only [e_nIc (show i < 2147483648 by omega), g3, s2 i (show i < 10 by omega)]
      rw [e_nIc (show i < 2147483648 by omega)] at hlt
      have hl := lt i
      by_cases z : yP M1 m q i = 0
      · rw [if_pos (by rw [z]; rfl)]
        refine Or.inl ⟨_, rfl, ⟨i + 1, k', by omega, nI_1 i, g1, g2, g3, fun a ha hz => ?_⟩, hlt⟩
        by_cases w : a = i
        · subst w
          exact absurd z hz
        · exact g4 a (by omega) hz
      · rw [if_neg (fun y => by exact z ((nI_eq (b := 0) (by omega) (by omega)).mp y))]
        obtain ⟨N', k2, n1, n2, n3, n4, n5⟩ := y_enter hv g1 (yP_lt (m := m) (a := i) hv hi hq) z
        rw [n1, Option.bind_some]
        refine Or.inl ⟨_, rfl, ⟨i + 1, k2, by omega, nI_1 i, n2, yX_trans g2 n3, by dsimp only; rw [n5, g3], fun a ha hz => ?_⟩, hlt⟩
        by_cases w : a = i
        · subst w
          exact n4
        · exact yX_seen n3 (lt a) (g4 a (by omega) hz)
  obtain ⟨N', h1, k', h2, h3, h4⟩ := key
  refine ⟨N', k', ?_, h2, h3, h4⟩
  unfold X5_enterGroups
  rw [s1, Option.bind_some, h1]
/-- all that may come of a set stands in the line -/
def yC (M1 N : mm_M) (m : Nat) : Prop := 2 ≤ sCnt m 10 → ∀ q, q < 8 → yT M1 q → ∀ a, a < 10 → ¬ yP M1 m q a = 0 → ¬ N 38 (yP M1 m q a) = -1
theorem y_exq {M1 M2 N : mm_M} (hv : rl_val M1 M2) (hi : rl_in M1) {T : Int32} (hT : bSet (fun q => q < 8 ∧ yT M1 q) T) {k m : Nat} (h : yE M1 N T k) (hm : m < 1024) (hs : ¬ N 38 m = -1) (x3 : Int32) : ∃ N' k', mm_loop (X5_explore_l50 x3 (nI m)) mm_fuel (0, N) = some N' ∧ yE M1 N' T k' ∧ yX N N' k k' ∧ yC M1 N' m := by
  have hp := y_pow hv
  have lt : ∀ q a, q < 8 → yP M1 m q a < 1024 := fun q a hq => by have := yP_lt (m := m) (a := a) hv hi hq; omega
  have key : ∃ N', mm_loop (X5_explore_l50 x3 (nI m)) mm_fuel (0, N) = some N' ∧ ∃ k', yE M1 N' T k' ∧ yX N N' k k' ∧ yC M1 N' m := by
    refine e_loopF (step := X5_explore_l50 x3 (nI m)) (I := fun (z : Int32 × mm_M) => ∃ i k' : Nat, i ≤ 8 ∧ z.1 = nI i ∧ yE M1 z.2 T k' ∧ yX N z.2 k k' ∧ ∀ q, q < i → yT M1 q → ∀ a, a < 10 → ¬ yP M1 m q a = 0 → ¬ z.2 38 (yP M1 m q a) = -1) (Q := fun (N' : mm_M) => ∃ k', yE M1 N' T k' ∧ yX N N' k k' ∧ yC M1 N' m) (fun z => 20 - Int32.toNatClampNeg z.1) ?_ (0, N) ⟨0, k, by omega, rfl, h, yX_rfl, fun q hq => by omega⟩ (by omega)
    rintro ⟨x, L⟩ ⟨i, k', hi8, hx, g1, g2, g3⟩
    try dsimp only at hx g1 g2 g3
    subst hx
    unfold X5_explore_l50
    try dsimp only
    by_cases e : i = 8
    · subst e
      rw [if_pos ((e_8 (by omega)).mpr (Nat.le_refl _))]
      exact Or.inr ⟨L, rfl, k', g1, g2, fun _ => g3⟩
    · have hlt : 20 - Int32.toNatClampNeg (nI i + 1) < 20 - Int32.toNatClampNeg (nI i) := by
        rw [nI_1, e_nIc (by omega), e_nIc (by omega)]
        omega
      rw [if_neg (fun z => by have := (e_8 (by omega)).mp z; omega), if_pos (f_in hm), e_nIc (show m < 2147483648 by omega)]
      have hsL := yX_seen g2 hm hs
      have hval : L 38 m = nI (if sCnt m 10 = 1 then 0 else 1024) := by
        rcases g1.2.2.1 m hm with z | z
        · exact absurd z hsL
        · exact z.1
      by_cases c : sCnt m 10 = 1
      · rw [if_pos (by rw [hval, if_pos c]; rfl)]
        exact Or.inr ⟨L, rfl, k', g1, g2, fun z => by omega⟩
      · rw [if_neg (by rw [hval, if_neg c]; decide)]
        simp only [g1.1.2.2.2]
        have hb := (nx_has T (show i < 32 by omega)).2
        have ht : bt T i = true ↔ yT M1 i := (hT i (by omega)).trans ⟨fun z => z.2, fun z => ⟨by omega, z⟩⟩
        rcases Classical.em (yT M1 i) with t | t
        · rw [if_neg (fun z => (hb.mp z) (ht.mpr t))]
          obtain ⟨N', k2, n1, n2, n3, n4⟩ := y_groups hv hi g1 hm (show i < 8 by omega)
          rw [n1, Option.bind_some]
          refine Or.inl ⟨_, rfl, ⟨i + 1, k2, by omega, nI_1 i, n2, yX_trans g2 n3, fun q hq tq a ha hz => ?_⟩, hlt⟩
          by_cases w : q = i
          · subst w
            exact n4 a ha hz
          · exact yX_seen n3 (lt q a (by omega)) (g3 q (by omega) tq a ha hz)
        · rw [if_pos (hb.mpr (fun z => t (ht.mp z)))]
          refine Or.inl ⟨_, rfl, ⟨i + 1, k', by omega, nI_1 i, g1, g2, fun q hq tq => ?_⟩, hlt⟩
          by_cases w : q = i
          · subst w
            exact absurd tq t
          · exact g3 q (by omega) tq
  obtain ⟨N', h1, k', h2, h3, h4⟩ := key
  exact ⟨N', k', h1, h2, h3, h4⟩
theorem y_explore {M1 M2 : mm_M} (hv : rl_val M1 M2) (hi : rl_in M1) {T : Int32} (hT : bSet (fun q => q < 8 ∧ yT M1 q) T) {m0 : Nat} (hm : m0 < 2 ^ vN M1) (h0 : ¬ m0 = 0) : ∃ N k, X5_explore (nI m0) (mm_U M1 36 7 T) = some N ∧ yE M1 N T k ∧ ¬ N 38 m0 = -1 ∧ ∀ m, m < 1024 → ¬ N 38 m = -1 → yC M1 N m := by
  have hp := y_pow hv
  obtain ⟨y, f1, f2, f3, f4⟩ := e_fill 38 1024 rfl (by omega) (-1) (mm_U M1 36 7 T)
  have hE : yE M1 (mm_U y 36 6 0) T 0 := by
    refine ⟨⟨by omega, ?_, ?_, ?_⟩, fun j hj => by omega, fun m hm => Or.inl ?_, fun b b1 b2 b3 b4 b5 => ?_⟩
    · rw [mm_U_ne 38 (by decide)]
      exact (kSeen_0 1024 f2).symm
    · rw [e_U, if_pos ⟨rfl, rfl⟩]
      rfl
    · rw [e_U, if_neg (by omega), f4 36 (by decide), e_U, if_pos ⟨rfl, rfl⟩]
    · rw [mm_U_ne 38 (by decide)]
      exact f2 m hm
    · rw [mm_U_ne b b1, f4 b b3, mm_U_ne b b1]
  obtain ⟨K, k1, n1, n2, n3, n4, n5⟩ := y_enter hv hE hm h0
  have key : ∃ N, mm_loop X5_explore_l20 mm_fuel (0, K) = some N ∧ ∃ k, yE M1 N T k ∧ ¬ N 38 m0 = -1 ∧ ∀ m, m < 1024 → ¬ N 38 m = -1 → yC M1 N m := by
    refine e_loopF (step := X5_explore_l20) (I := fun (z : Int32 × mm_M) => ∃ i k : Nat, i ≤ k ∧ z.1 = nI i ∧ yE M1 z.2 T k ∧ ¬ z.2 38 m0 = -1 ∧ ∀ j, j < i → ∀ m, m < 1024 → z.2 37 j = nI m → yC M1 z.2 m) (Q := fun (N : mm_M) => ∃ k, yE M1 N T k ∧ ¬ N 38 m0 = -1 ∧ ∀ m, m < 1024 → ¬ N 38 m = -1 → yC M1 N m) (fun z => 2000 - Int32.toNatClampNeg z.1) ?_ (0, K) ⟨0, k1, by omega, rfl, n2, n4, fun j hj => by omega⟩ (by omega)
    rintro ⟨x, L⟩ ⟨i, k, hik, hx, g1, g2, g3⟩
    try dsimp only at hx g1 g2 g3
    subst hx
    obtain ⟨⟨e1, e2, e3, e4⟩, e5, e6, e7⟩ := id g1
    unfold X5_explore_l20
    try dsimp only
    simp only [e3]
    by_cases e : i = k
    · subst e
      rw [if_pos (show nI i ≤ nI i from Int32.le_refl _)]
      refine Or.inr ⟨L, rfl, i, g1, g2, fun m hm hs => ?_⟩
      rcases e6 m hm with z | ⟨-, -, -, j, j1, j2⟩
      · exact absurd z hs
      · exact g3 j j1 m hm j2
    · obtain ⟨m, m1, m2, m3⟩ := e5 i (by omega)
      have hm' : m < 1024 := by omega
      rw [if_neg (fun z => by have := (nI_leI (by omega) (by omega)).mp z; omega), if_neg (fun z => by have := (nI_leI (a := 1024) (by omega) (by omega)).mp z; omega), if_pos (f_in (show i < 1024 by omega)), e_nIc (show i < 2147483648 by omega), m2, k_mask hm']
      obtain ⟨N', k2, q1, q2, q3, q4⟩ := y_exq hv hi hT g1 hm' m3 (nI i)
      rw [q1, Option.bind_some]
      refine Or.inl ⟨_, rfl, ⟨i + 1, k2, by have := q3.1; omega, nI_1 i, q2, yX_seen q3 (by omega) g2, fun j hj x hx ex => ?_⟩, ?_⟩
      · dsimp only at ex ⊢
        by_cases w : j = i
        · subst w
          rw [q3.2.2 j (by omega), m2] at ex
          rw [← (nI_eq (by omega) (by omega)).mp ex]
          exact q4
        · rw [q3.2.2 j (by omega)] at ex
          intro c2 q hq tq a ha hz
          have hl := yP_lt (m := x) (a := a) hv hi hq
          exact yX_seen q3 (by omega) (g3 j (by omega) x hx ex c2 q hq tq a ha hz)
      · show 2000 - Int32.toNatClampNeg (nI i + 1) < 2000 - i
        rw [nI_1, e_nIc (by omega)]
        omega
  obtain ⟨N, h1, k, h2, h3, h4⟩ := key
  refine ⟨N, k, ?_, h2, h3, h4⟩
  unfold X5_explore
  rw [f1, Option.bind_some, n1, Option.bind_some, h1]
theorem y_telling {M1 M2 : mm_M} (hv : rl_val M1 M2) : ∃ T, X8_telling M1 = some T ∧ bSet (fun q => q < 8 ∧ yT M1 q) T := by
  have hn := v_n hv
  unfold X8_telling
  refine e_for (step := X8_telling_l4 M1) 8 (by omega) (I := fun i x => bSet (fun q => q < i ∧ yT M1 q) x) (Q := fun T => bSet (fun q => q < 8 ∧ yT M1 q) T) ?_ ?_ 0 (bSet_iff bSet_0 (fun l _ => ⟨fun z => z.elim, fun z => by omega⟩))
  · intro i x hi hx
    have inner : ∃ y, mm_loop (X8_telling_l12 (nI i) M1) mm_fuel (x, 0) = some y ∧ bSet (fun q => q < i + 1 ∧ yT M1 q) y := by
      refine e_for (step := X8_telling_l12 (nI i) M1) (vN M1) (by omega) (I := fun k x => bSet (fun q => (q < i ∧ yT M1 q) ∨ (q = i ∧ ∃ s, s < k ∧ (¬ vB M1 i s = s ∨ ¬ vA M1 i s = vA M1 i 0))) x) (Q := fun y => bSet (fun q => q < i + 1 ∧ yT M1 q) y) ?_ ?_ x (bSet_iff hx (fun l _ => ⟨fun z => Or.inl z, fun z => z.elim id (fun z => by obtain ⟨-, s, h, -⟩ := z; omega)⟩))
      · intro k w hk hw
        have k10 : k < 10 := by omega
        unfold X8_telling_l12
        try dsimp only
        rw [if_neg (fun z => by have := (v_head hv (show k ≤ 10 by omega)).1.mp z; omega), v_beh hv hi k10, v_ans hi k10]
        have h0 : X8_answer (nI i) 0 M1 = vA M1 i 0 := v_ans (s := 0) hi (by omega)
        rw [h0]
        have set : (¬ vB M1 i k = k ∨ ¬ vA M1 i k = vA M1 i 0) → bSet (fun q => (q < i ∧ yT M1 q) ∨ (q = i ∧ ∃ s, s < k + 1 ∧ (¬ vB M1 i s = s ∨ ¬ vA M1 i s = vA M1 i 0))) (w ||| ((1 : Int32) <<< (nI i &&& 31))) := by
          intro hc
          refine bSet_iff (bSet_set hw (show i < 32 by omega)) (fun l _ => ⟨?_, ?_⟩)
          · rintro ((z | ⟨z1, s, z2, z3⟩) | z)
            · exact Or.inl z
            · exact Or.inr ⟨z1, s, by omega, z3⟩
            · exact Or.inr ⟨z, k, by omega, hc⟩
          · rintro (z | ⟨z1, -⟩)
            · exact Or.inl (Or.inl z)
            · exact Or.inr z1
        by_cases c1 : vB M1 i k = k
        · rw [if_pos (by rw [c1])]
          by_cases c2 : vA M1 i k = vA M1 i 0
          · rw [if_pos c2]
            refine ⟨w, rfl, bSet_iff hw (fun l _ => ⟨?_, ?_⟩)⟩
            · rintro (z | ⟨z1, s, z2, z3⟩)
              · exact Or.inl z
              · exact Or.inr ⟨z1, s, by omega, z3⟩
            · rintro (z | ⟨z1, s, z2, z3⟩)
              · exact Or.inl z
              · refine Or.inr ⟨z1, s, ?_, z3⟩
                by_cases e : s = k
                · subst e
                  exact absurd z3 (fun y => y.elim (fun y => y c1) (fun y => y c2))
                · omega
          · rw [if_neg c2]
            exact ⟨_, rfl, set (Or.inr c2)⟩
        · have hb := (v_B hv hi k10).2
          rw [if_neg (fun z => c1 ((v_nIe (by omega) (by omega)).mp z))]
          exact ⟨_, rfl, set (Or.inl c1)⟩
      · intro w hw
        refine ⟨w, ?_, bSet_iff hw (fun l _ => ⟨?_, ?_⟩)⟩
        · unfold X8_telling_l12
          try dsimp only
          rw [if_pos ((v_head hv hn.2.1).1.mpr (Nat.le_refl _))]
        · rintro (z | ⟨z1, z2⟩)
          · exact ⟨by omega, z.2⟩
          · subst z1
            exact ⟨by omega, z2⟩
        · rintro ⟨z1, z2⟩
          by_cases e : l = i
          · subst e
            exact Or.inr ⟨rfl, z2⟩
          · exact Or.inl ⟨by omega, z2⟩
    obtain ⟨y, y1, y2⟩ := inner
    refine ⟨y, ?_, y2⟩
    unfold X8_telling_l4
    try dsimp only
    rw [if_neg (fun z => by have := (e_8 (by omega)).mp z; omega), y1, Option.bind_some]
  · intro x hx
    refine ⟨x, ?_, hx⟩
    unfold X8_telling_l4
    try dsimp only
    rw [if_pos ((e_8 (by omega)).mpr (Nat.le_refl _))]
