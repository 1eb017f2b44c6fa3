-- plans: the reference
theorem y_left {M1 M2 : mm_M} (hv : rl_val M1 M2) {m q a : Nat} (hm : m < 1024) (hq : q < 8) : X12_leftBy (nI m) (nI q) (nI a) M2 = some (nI (yP M1 m q a)) := by
  have hn := v_n hv
  have key : ∃ r, mm_loop (X12_leftBy_l6 (nI m) (nI q) (nI a) M2) mm_fuel (0, 0) = some r ∧ r = nI (yP M1 m q a) := by
    refine e_for (step := X12_leftBy_l6 (nI m) (nI q) (nI a) M2) (vN M1) (by omega) (I := fun k x => x = nI (yG M1 m q a k)) (Q := fun r => r = nI (yP M1 m q a)) ?_ ?_ 0 rfl
    · rintro k x hk rfl
      refine ⟨nI (yG M1 m q a (k + 1)), ?_, rfl⟩
      unfold X12_leftBy_l6
      try dsimp only
      rw [if_neg (fun z => by have := (v_head hv (show k ≤ 10 by omega)).2.mp z; omega), v_ans2 hv hq (show k < 10 by omega), Option.bind_some, v_beh2 hv hq (show k < 10 by omega), Option.bind_some, z_I (yG_lt hv hq k (by omega)) (v_B hv hq (show k < 10 by omega)).2, yG_s]
      by_cases b : m.testBit k = true
      · rw [if_pos ((f_has hm (by omega)).mpr b)]
        by_cases d : vA M1 q k = nI a
        · rw [if_pos d, if_pos ⟨b, d⟩]
        · rw [if_neg d, if_neg (fun z => d z.2)]
      · rw [if_neg (fun z => b ((f_has hm (by omega)).mp z)), if_neg (fun z => b z.1)]
    · rintro x rfl
      refine ⟨_, ?_, rfl⟩
      unfold X12_leftBy_l6
      try dsimp only
      rw [if_pos ((v_head hv hn.2.1).2.mpr (Nat.le_refl _))]
      rfl
  obtain ⟨r, h1, h2⟩ := key
  unfold X12_leftBy
  rw [h1, h2]
theorem y_max {x y : Nat} (hx : x < 2000000000) (hy : y < 2000000000) : X12_max (nI x) (nI y) = nI (max x y) := by
  unfold X12_max
  by_cases c : x ≤ y
  · rw [if_pos ((nI_leI (by omega) (by omega)).mpr c), Nat.max_eq_right c]
  · rw [if_neg (fun z => c ((nI_leI (by omega) (by omega)).mp z)), Nat.max_eq_left (by omega)]
def yR (M0 N : mm_M) (c : Nat → Nat) : Prop := (∀ i, i < 1024 → N 34 i = nI (c i)) ∧ ∀ b, b ≠ 34 → N b = M0 b
theorem yR_val {M1 M2 N : mm_M} {c : Nat → Nat} (hv : rl_val M1 M2) (h : yR M2 N c) : rl_val M1 N := by
  unfold rl_val
  rw [h.2 0 (by decide), h.2 5 (by decide), h.2 6 (by decide)]
  exact hv
theorem y_worst {M1 M2 N : mm_M} (hv : rl_val M1 M2) (hi : rl_in M1) {c : Nat → Nat} (hN : yR M2 N c) (hc : ∀ i, i < 1024 → c i ≤ 1000000) {m q : Nat} (hm : m < 1024) (hq : q < 8) : X12_worstBy (nI m) (nI q) N = some (nI (yM M1 c m q + 1)) ∧ yM M1 c m q ≤ 1000000 := by
  have hp := y_pow hv
  have hvN := yR_val hv hN
  have lt : ∀ a, yP M1 m q a < 1024 := fun a => by have := yP_lt (m := m) (a := a) hv hi hq; omega
  have ub : ∀ k, mxA (fun a => if yP M1 m q a = 0 then 0 else c (yP M1 m q a)) k ≤ 1000000 := fun k => mxA_ub k (fun a _ => by
    try dsimp only
    split
    · omega
    · exact hc _ (lt a))
  have key : ∃ r, mm_loop (X12_worstBy_l5 (nI m) (nI q) N) mm_fuel (0, 0) = some r ∧ r = nI (yM M1 c m q + 1) := by
    refine e_for (step := X12_worstBy_l5 (nI m) (nI q) N) 10 (by omega) (I := fun k x => x = nI (mxA (fun a => if yP M1 m q a = 0 then 0 else c (yP M1 m q a)) k)) (Q := fun r => r = nI (yM M1 c m q + 1)) ?_ ?_ 0 rfl
    · rintro k x hk rfl
      refine ⟨nI (mxA (fun a => if yP M1 m q a = 0 then 0 else c (yP M1 m q a)) (k + 1)), ?_, rfl⟩
      unfold X12_worstBy_l5
      try dsimp only
      rw [if_neg (fun z => by have := (e_10 (by omega)).mp z; omega), y_left hvN hm hq, Option.bind_some]
      by_cases z : yP M1 m q k = 0
      · rw [if_pos (by rw [z]; rfl)]
        have : mxA (fun a => if yP M1 m q a = 0 then 0 else c (yP M1 m q a)) (k + 1) = mxA (fun a => if yP M1 m q a = 0 then 0 else c (yP M1 m q a)) k := by
          show max _ (if yP M1 m q k = 0 then 0 else c (yP M1 m q k)) = _
          rw [if_pos z, Nat.max_eq_left (Nat.zero_le _)]
        rw [this]
      · have := lt k
        rw [if_neg (fun y => by exact z ((nI_eq (b := 0) (by omega) (by omega)).mp y)), if_pos (f_in (lt k)), e_nIc (by omega), hN.1 _ (lt k), y_max (by have := ub k; omega) (by have := hc _ (lt k); omega)]
        have e : mxA (fun a => if yP M1 m q a = 0 then 0 else c (yP M1 m q a)) (k + 1) = max (mxA (fun a => if yP M1 m q a = 0 then 0 else c (yP M1 m q a)) k) (c (yP M1 m q k)) := by
          show max _ (if yP M1 m q k = 0 then 0 else c (yP M1 m q k)) = _
          rw [if_neg z]
        rw [e]
    · rintro x rfl
      refine ⟨_, ?_, rfl⟩
      unfold X12_worstBy_l5
      try dsimp only
      rw [if_pos ((e_10 (by omega)).mpr (Nat.le_refl _)), nI_1]
      rfl
  obtain ⟨r, h1, h2⟩ := key
  refine ⟨?_, ub 10⟩
  unfold X12_worstBy
  rw [h1, h2]
theorem yR_U {M0 N : mm_M} {s v : Nat} {c : Nat → Nat} (h : yR M0 N c) : yR M0 (mm_U N 34 s (nI v)) (wU c s v) := by
  refine ⟨fun i hi => ?_, fun b hb => by rw [mm_U_ne b hb]; exact h.2 b hb⟩
  rw [e_U]
  unfold wU
  by_cases w : i = s
  · rw [if_pos ⟨rfl, w⟩, if_pos w]
  · rw [if_neg (fun z => w z.2), if_neg w]
    exact h.1 i hi
theorem yW_in {M : mm_M} {m q r : Nat} (hq : q < 8) (h : ∀ a, a < 10 → ¬ yP M m q a = 0 → yW M r (yP M m q a)) : yW M (r + 1) m := Or.inr ⟨q, hq, h⟩
theorem y_relax {M1 M2 : mm_M} (hv : rl_val M1 M2) (hi : rl_in M1) {c : Nat → Nat} (h : yInv M1 c) {m q w : Nat} (hm : m < 1024) (hq : q < 8) (h2 : 2 ≤ sCnt m 10) (hw : ∀ a, a < 10 → ¬ yP M1 m q a = 0 → c (yP M1 m q a) ≤ w) (lt : w + 1 < c m) : yInv M1 (wU c m (w + 1)) ∧ wSum (wU c m (w + 1)) 1024 < wSum c 1024 := by
  have hp := y_pow hv
  have hcm := (h m hm).1
  refine ⟨fun x hx => ?_, wSum_lt 1024 (fun i _ => ?_) ⟨m, hm, ?_⟩⟩
  · unfold wU
    by_cases e : x = m
    · subst e
      rw [if_pos rfl]
      refine ⟨by omega, fun hlt => yW_in hq (fun a ha hz => ?_), fun y => by omega⟩
      have h3 := hw a ha hz
      have hl := Nat.lt_of_lt_of_le (yP_lt (m := x) (a := a) hv hi hq) hp
      have h4 := h (yP M1 x q a) hl
      generalize yP M1 x q a = g at h3 h4
      exact yW_mono (h4.2.1 (by omega)) h3
    · rw [if_neg e]
      exact h x hx
  · unfold wU
    split
    · rename_i e
      subst e
      omega
    · exact Nat.le_refl _
  · unfold wU
    rw [if_pos rfl]
    omega
def yStep (M1 M0 : mm_M) (c0 : Nat → Nat) (b0 : Bool) (P : (Nat → Nat) → Prop) (b : Bool) (N : mm_M) : Prop := ∃ c, yR M0 N c ∧ yInv M1 c ∧ ((b = b0 ∧ c = c0 ∧ P c) ∨ (b = true ∧ wSum c 1024 < wSum c0 1024))
theorem y_in {M1 M2 : mm_M} (hv : rl_val M1 M2) (hi : rl_in M1) {m : Nat} (hm : m < 1024) {b0 : Bool} {N : mm_M} {c0 : Nat → Nat} (hN : yR M2 N c0) (hI : yInv M1 c0) : ∃ b N', mm_loop (X12_laysPlans_l58 (nI m)) mm_fuel (b0, 0, N) = some (b, N') ∧ yStep M1 M2 c0 b0 (fun c => 2 ≤ sCnt m 10 → ∀ q, q < 8 → c m ≤ yM M1 c m q + 1) b N' := by
  have key : ∃ r, mm_loop (X12_laysPlans_l58 (nI m)) mm_fuel (b0, 0, N) = some r ∧ yStep M1 M2 c0 b0 (fun c => 2 ≤ sCnt m 10 → ∀ q, q < 8 → c m ≤ yM M1 c m q + 1) r.1 r.2 := by
    refine e_loopF (step := X12_laysPlans_l58 (nI m)) (I := fun (s : Bool × Int32 × mm_M) => ∃ i : Nat, i ≤ 8 ∧ s.2.1 = nI i ∧ yStep M1 M2 c0 b0 (fun c => ∀ q, q < i → c m ≤ yM M1 c m q + 1) s.1 s.2.2) (Q := fun (r : Bool × mm_M) => yStep M1 M2 c0 b0 (fun c => 2 ≤ sCnt m 10 → ∀ q, q < 8 → c m ≤ yM M1 c m q + 1) r.1 r.2) (fun s => 20 - Int32.toNatClampNeg s.2.1) ?_ (b0, 0, N) ⟨0, by omega, rfl, c0, hN, hI, Or.inl ⟨rfl, rfl, fun q hq => by omega⟩⟩ (by omega)
    rintro ⟨b, x, K⟩ ⟨i, hi8, hx, c, g1, g2, g3⟩
    try dsimp only at hx g1 g2 g3
    subst hx
    unfold X12_laysPlans_l58
    try dsimp only
    by_cases e : i = 8
    · subst e
      rw [if_pos ((e_8 (by omega)).mpr (Nat.le_refl _))]
      refine Or.inr ⟨_, rfl, c, g1, g2, ?_⟩
      rcases g3 with ⟨a1, a2, a3⟩ | a
      · exact Or.inl ⟨a1, a2, fun _ => a3⟩
      · exact Or.inr a
    · have hb := s_bits hm
      have hlt : 20 - Int32.toNatClampNeg (nI i + 1) < 20 - Int32.toNatClampNeg (nI i) := by
        rw [nI_1, e_nIc (by omega), e_nIc (by omega)]
        omega
      have hs10 := sCnt_le (m := m) 10
      rw [if_neg (fun z => by have := (e_8 (by omega)).mp z; omega), hb, Option.bind_some]
      by_cases c2 : 2 ≤ sCnt m 10
      · have hcm := (g2 m hm).1
        obtain ⟨w1, w2⟩ := y_worst hv hi g1 (fun i hi => (g2 i hi).1) hm (show i < 8 by omega)
        rw [if_neg (fun z => by have := (nI_leI (b := 1) (by omega) (by omega)).mp z; omega), w1, Option.bind_some, if_pos (f_in hm), Option.bind_some, if_pos (f_in hm), e_nIc (show m < 2147483648 by omega)]
        have hk := g1.1 m hm
        have hle : ∀ a, a < 10 → ¬ yP M1 m i a = 0 → c (yP M1 m i a) ≤ yM M1 c m i := fun a ha hz => yM_le ha hz
        generalize hwe : yM M1 c m i = w at w1 w2 hle ⊢
        by_cases lt : w + 1 < c m
        · rw [if_pos (show nI (w + 1) < K 34 m by rw [hk]; exact (nI_ltI (by omega) (by omega)).mpr lt)]
          obtain ⟨r1, r2⟩ := y_relax hv hi g2 hm (show i < 8 by omega) c2 hle lt
          refine Or.inl ⟨_, rfl, ⟨i + 1, by omega, nI_1 i, wU c m (w + 1), yR_U g1, r1, Or.inr ⟨rfl, ?_⟩⟩, hlt⟩
          rcases g3 with ⟨a1, a2, a3⟩ | ⟨a1, a2⟩
          · rw [a2] at r2 ⊢
            exact r2
          · omega
        · rw [if_neg (show ¬ nI (w + 1) < K 34 m by rw [hk]; exact fun z => lt ((nI_ltI (by omega) (by omega)).mp z))]
          refine Or.inl ⟨_, rfl, ⟨i + 1, by omega, nI_1 i, c, g1, g2, ?_⟩, hlt⟩
          rcases g3 with ⟨a1, a2, a3⟩ | a
          · refine Or.inl ⟨a1, a2, fun q hq => ?_⟩
            by_cases y : q = i
            · rw [y, hwe]
              omega
            · exact a3 q (by omega)
          · exact Or.inr a
      · rw [if_pos (show nI (sCnt m 10) ≤ 1 from (nI_leI (b := 1) (by omega) (by omega)).mpr (by omega))]
        refine Or.inr ⟨_, rfl, c, g1, g2, ?_⟩
        rcases g3 with ⟨a1, a2, a3⟩ | a
        · exact Or.inl ⟨a1, a2, fun z => absurd z c2⟩
        · exact Or.inr a
  obtain ⟨⟨b, N'⟩, h1, h2⟩ := key
  exact ⟨b, N', h1, h2⟩
theorem y_sweep {M1 M2 : mm_M} (hv : rl_val M1 M2) (hi : rl_in M1) {N : mm_M} {c0 : Nat → Nat} (hN : yR M2 N c0) (hI : yInv M1 c0) : ∃ b N', mm_loop X12_laysPlans_l46 mm_fuel (false, 1, N) = some (b, N') ∧ yStep M1 M2 c0 false (yFix M1) b N' := by
  have hp := y_pow hv
  have key : ∃ r, mm_loop X12_laysPlans_l46 mm_fuel (false, 1, N) = some r ∧ yStep M1 M2 c0 false (yFix M1) r.1 r.2 := by
    refine e_loopF (step := X12_laysPlans_l46) (I := fun (s : Bool × Int32 × mm_M) => ∃ m : Nat, 1 ≤ m ∧ m ≤ 2 ^ vN M1 ∧ s.2.1 = nI m ∧ yStep M1 M2 c0 false (fun c => ∀ x, x < m → 2 ≤ sCnt x 10 → ∀ q, q < 8 → c x ≤ yM M1 c x q + 1) s.1 s.2.2) (Q := fun (r : Bool × mm_M) => yStep M1 M2 c0 false (yFix M1) r.1 r.2) (fun s => 2000 - Int32.toNatClampNeg s.2.1) ?_ (false, 1, N) ⟨1, by omega, Nat.one_le_two_pow, rfl, c0, hN, hI, Or.inl ⟨rfl, rfl, fun x hx h2 => ?_⟩⟩ (by omega)
    · rintro ⟨b, x, K⟩ ⟨m, hm1, hm2, hx, c, g1, g2, g3⟩
      try dsimp only at hx g1 g2 g3
      subst hx
      have h06 : K 0 6 = nI (vN M1) := by
        rw [g1.2 0 (by decide), ← hv.1]
        exact (v_n hv).1
      have hend : ((1 : Int32) <<< ((K 0 6) &&& 31)) ≤ nI m ↔ 2 ^ vN M1 ≤ m := by
        rw [h06, e_le, (nx_pow (vN M1) (by have := (v_n hv).2.1; omega)).1, e_nIt (by omega)]
        rw [show ((2 : Int) ^ vN M1) = ((2 ^ vN M1 : Nat) : Int) by simp]
        omega
      unfold X12_laysPlans_l46
      try dsimp only
      by_cases e : m = 2 ^ vN M1
      · rw [if_pos (hend.mpr (by omega))]
        refine Or.inr ⟨_, rfl, c, g1, g2, ?_⟩
        rcases g3 with ⟨a1, a2, a3⟩ | a
        · refine Or.inl ⟨a1, a2, ?_⟩
          rw [e] at a3
          exact a3
        · exact Or.inr a
      · rw [if_neg (fun z => by have := hend.mp z; omega)]
        obtain ⟨b', N', i1, c', i2, i3, i4⟩ := y_in (b0 := b) hv hi (show m < 1024 by omega) g1 g2
        rw [i1, Option.bind_some]
        refine Or.inl ⟨_, rfl, ⟨m + 1, by omega, by omega, nI_1 m, c', i2, i3, ?_⟩, ?_⟩
        · rcases i4 with ⟨a1, a2, a3⟩ | ⟨a1, a2⟩
          · subst a2
            rcases g3 with ⟨u1, u2, u3⟩ | ⟨u1, u2⟩
            · refine Or.inl ⟨by rw [← u1, ← a1], u2, fun x hx h2 q hq => ?_⟩
              by_cases w : x = m
              · subst w
                exact a3 h2 q hq
              · exact u3 x (by omega) h2 q hq
            · exact Or.inr ⟨by rw [← u1, ← a1], u2⟩
          · refine Or.inr ⟨a1, ?_⟩
            rcases g3 with ⟨u1, u2, u3⟩ | ⟨u1, u2⟩
            · rw [← u2]
              exact a2
            · omega
        · show 2000 - Int32.toNatClampNeg (nI m + 1) < 2000 - Int32.toNatClampNeg (nI m)
          rw [nI_1, e_nIc (by omega), e_nIc (by omega)]
          omega
    · rw [show x = 0 by omega] at h2
      have := y_0
      omega
  obtain ⟨⟨b, N'⟩, h1, h2⟩ := key
  exact ⟨b, N', h1, h2⟩
theorem wSum_ub {c : Nat → Nat} {F : Nat} : ∀ k, (∀ i, i < k → c i ≤ F) → wSum c k ≤ k * F := by
  intro k
  induction k with
  | zero => intro _; exact Nat.zero_le _
  | succ k ih =>
    intro h
    have h1 := ih (fun i hi => h i (by omega))
    have h2 := h k (by omega)
    show wSum c k + c k ≤ (k + 1) * F
    rw [Nat.succ_mul]
    omega
theorem y_ref {M1 M2 : mm_M} (hv : rl_val M1 M2) (hi : rl_in M1) : ∃ N c, X12_laysPlans M2 = some N ∧ yR M2 N c ∧ yV M1 c := by
  have fill : ∃ N, mm_loop X12_laysPlans_l2 mm_fuel (0, M2) = some N ∧ yR M2 N (fun i => if sCnt i 10 < 2 then 0 else 1000000) := by
    obtain ⟨N, f1, f2, f3, f4⟩ := e_fillG (step := X12_laysPlans_l2) 34 1024 (by omega) (fun i => nI (if sCnt i 10 < 2 then 0 else 1000000)) (fun i hi N => by
      have hs := sCnt_le (m := i) 10
      unfold X12_laysPlans_l2
      try dsimp only
      rw [if_neg (fun z => by have := (nI_leI (a := 1024) (by omega) (by omega)).mp z; omega), s_bits hi, Option.bind_some, if_pos (f_in hi), if_pos (f_in hi), e_nIc (by omega)]
      by_cases c : sCnt i 10 < 2
      · rw [if_neg (fun z => by have := (nI_leI (a := 2) (by omega) (by omega)).mp z; omega), if_pos c]
        rfl
      · rw [if_pos (show (2 : Int32) ≤ nI (sCnt i 10) from (nI_leI (a := 2) (by omega) (by omega)).mpr (by omega)), if_neg c]
        rfl) (fun N => by
      unfold X12_laysPlans_l2
      try dsimp only
      rw [if_pos (show (1024 : Int32) ≤ nI 1024 from Int32.le_refl _)]) M2
    exact ⟨N, f1, f2, f4⟩
  obtain ⟨N0, f1, f2⟩ := fill
  have i0 : yInv M1 (fun i => if sCnt i 10 < 2 then 0 else 1000000) := by
    intro m hm
    try dsimp only
    by_cases c : sCnt m 10 < 2
    · rw [if_pos c]
      exact ⟨by omega, fun _ => c, fun _ => rfl⟩
    · rw [if_neg c]
      exact ⟨Nat.le_refl _, fun z => by omega, fun z => absurd z c⟩
  have loop : ∃ N, mm_loop X12_laysPlans_l38 mm_fuel (true, N0) = some N ∧ ∃ c, yR M2 N c ∧ yV M1 c := by
    refine e_loop (step := X12_laysPlans_l38) (I := fun (s : Bool × mm_M) => ∃ c, yR M2 s.2 c ∧ yInv M1 c ∧ (s.1 = false → yFix M1 c) ∧ True) (Q := fun (N : mm_M) => ∃ c, yR M2 N c ∧ yV M1 c) (fun (s : Bool × mm_M) => wSum (fun i => Int32.toNatClampNeg (s.2 34 i)) 1024 + (if s.1 = true then 1 else 0)) ?_ mm_fuel (true, N0) ⟨_, f2, i0, (fun z => by cases z), trivial⟩ ?_
    · rintro ⟨b, K⟩ ⟨c, g1, g2, g3, -⟩
      try dsimp only at g1 g2 g3
      have sum : ∀ (K : mm_M) (c : Nat → Nat), yR M2 K c → yInv M1 c → wSum (fun i => Int32.toNatClampNeg (K 34 i)) 1024 = wSum c 1024 := by
        intro K c h1 h2
        have e : ∀ i, i < 1024 → Int32.toNatClampNeg (K 34 i) = c i := fun i hi => by
          have := (h2 i hi).1
          rw [h1.1 i hi, e_nIc (by omega)]
        exact Nat.le_antisymm (wSum_le 1024 (fun i hi => by have := e i hi; omega)) (wSum_le 1024 (fun i hi => by have := e i hi; omega))
      unfold X12_laysPlans_l38
      try dsimp only
      cases b
      · rw [if_neg (by decide)]
        exact Or.inr ⟨K, rfl, c, g1, g2, g3 rfl⟩
      · rw [if_pos rfl]
        obtain ⟨b', N', i1, c', i2, i3, i4⟩ := y_sweep hv hi g1 g2
        rw [i1, Option.bind_some]
        refine Or.inl ⟨_, rfl, ⟨c', i2, i3, fun z => ?_, trivial⟩, ?_⟩
        · rcases i4 with ⟨a1, a2, a3⟩ | ⟨a1, a2⟩
          · exact a3
          · try dsimp only at z
            rw [a1] at z
            cases z
        · try dsimp only
          rw [sum K c g1 g2, sum N' c' i2 i3]
          rcases i4 with ⟨a1, a2, a3⟩ | ⟨a1, a2⟩
          · subst a1 a2
            rw [if_neg (by decide), if_pos rfl]
            omega
          · rw [a1, if_pos rfl]
            omega
    · rw [mm_fuel_eq]
      try dsimp only
      rw [if_pos rfl]
      have := wSum_ub (c := fun i => Int32.toNatClampNeg (N0 34 i)) (F := 1000000) 1024 (fun i hi => by
        have := (i0 i hi).1
        try dsimp only
        rw [f2.1 i hi, e_nIc (by omega)]
        exact this)
      omega
  obtain ⟨N, l1, c, l2, l3⟩ := loop
  refine ⟨N, c, ?_, l2, l3⟩
  unfold X12_laysPlans
  rw [f1, Option.bind_some, l1]
