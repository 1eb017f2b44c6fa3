/-- a row of the reference filled, a cell at a time -/
theorem e_fillG {step : Int32 × mm_M → Option ((Int32 × mm_M) ⊕ mm_M)} (a n : Nat) (hn2 : n ≤ 100000) (f : Nat → Int32) (hs : ∀ i, i < n → ∀ N, step (nI i, N) = some (.inl (nI i + 1, mm_U N a i (f i)))) (he : ∀ N, step (nI n, N) = some (.inr N)) (M : mm_M) : ∃ M', mm_loop step mm_fuel (0, M) = some M' ∧ (∀ i, i < n → M' a i = f i) ∧ (∀ i, n ≤ i → M' a i = M a i) ∧ ∀ c, c ≠ a → M' c = M c := by
  refine e_loopF (I := fun (s : Int32 × mm_M) => ∃ i : Nat, i ≤ n ∧ s.1 = nI i ∧ (∀ k, k < i → s.2 a k = f k) ∧ (∀ k, i ≤ k → s.2 a k = M a k) ∧ ∀ c, c ≠ a → s.2 c = M c) (Q := fun (M' : mm_M) => (∀ i, i < n → M' a i = f i) ∧ (∀ i, n ≤ i → M' a i = M a i) ∧ ∀ c, c ≠ a → M' c = M c) (fun (s : Int32 × mm_M) => n - Int32.toNatClampNeg s.1) ?_ (0, M) ⟨0, by omega, rfl, fun k h => by omega, fun k _ => rfl, fun c _ => rfl⟩ (by show n - Int32.toNatClampNeg 0 < _; omega)
  rintro ⟨x, N⟩ ⟨i, hi, rfl, h1, h2, h3⟩
  dsimp only at h1 h2 h3
  by_cases c : i = n
  · subst c
    exact Or.inr ⟨N, he N, h1, h2, h3⟩
  · refine Or.inl ⟨_, hs i (by omega) N, ⟨i + 1, by omega, nI_1 i, fun k hk => ?_, fun k hk => ?_, fun c hc => ?_⟩, ?_⟩
    · show mm_U N a i (f i) a k = f k
      rw [e_U]
      by_cases ck : k = i
      · simp [ck]
      · simp only [ck, and_false, if_false]
        exact h1 k (by omega)
    · show mm_U N a i (f i) a k = M a k
      rw [e_U]
      have ck : k ≠ i := by omega
      simp only [ck, and_false, if_false]
      exact h2 k (by omega)
    · show mm_U N a i (f i) c = M c
      rw [mm_U_ne c hc]
      exact h3 c hc
    · show n - Int32.toNatClampNeg (nI i + 1) < n - Int32.toNatClampNeg (nI i)
      rw [nI_1, e_nIc (by omega), e_nIc (by omega)]
      omega
theorem k_fill2 (M : mm_M) : ∃ M', mm_loop X12_laysKnown_l2 mm_fuel (0, M) = some M' ∧ (∀ i, i < 1024 → M' 32 i = -1) ∧ (∀ i, 1024 ≤ i → M' 32 i = M 32 i) ∧ ∀ c, c ≠ 32 → M' c = M c := by
  refine e_fillG 32 1024 (by omega) (fun _ => -1) ?_ ?_ M
  · intro i hi N
    have c0 : ¬ (1024 : Int32) ≤ nI i := by
      rw [e_le, e_nIt (by omega)]
      show ¬ (1024 : Int) ≤ _
      omega
    unfold X12_laysKnown_l2
    dsimp only
    rw [if_neg c0, if_pos (e_inb (by rw [e_nIt (by omega)]; omega) (by rw [e_nIt (by omega)]; omega)), e_nIc (by omega)]
  · intro N
    unfold X12_laysKnown_l2
    dsimp only
    rw [if_pos (show (1024 : Int32) ≤ nI 1024 from Int32.le_refl _)]
theorem k_every : ∀ n, n < 11 → ((1 : Int32) <<< (nI n &&& 31)) - 1 = nI (2 ^ n - 1) := by decide +kernel
theorem k_everyC : ∀ n, n < 11 → sCnt (2 ^ n - 1) 10 = n := by decide +kernel
theorem k_everyL : ∀ n, n < 11 → 2 ^ n - 1 < 1024 := by decide +kernel
theorem kSeen_0 {f : Nat → Int32} : ∀ k, (∀ i, i < k → f i = -1) → kSeen f k = 0 := by
  intro k
  induction k with
  | zero => intro _; rfl
  | succ k ih =>
    intro h
    show kSeen f k + (if f k = -1 then 0 else 1) = 0
    rw [ih (fun i hi => h i (by omega)), h k (by omega)]
    rfl
theorem sCnt_one {t : Nat} : ∀ k, sCnt t k = 1 → ∃ j, j < k ∧ t.testBit j = true ∧ ∀ i, i < j → t.testBit i = false := by
  intro k
  induction k with
  | zero => intro h; exact absurd (show (0 : Nat) = 1 from h) (by decide)
  | succ k ih =>
    intro h
    have h : sCnt t k + (if t.testBit k = true then 1 else 0) = 1 := h
    by_cases c : sCnt t k = 1
    · obtain ⟨j, a, b, d⟩ := ih c
      exact ⟨j, by omega, b, d⟩
    · have hk : t.testBit k = true := by
        by_cases d : t.testBit k = true
        · exact d
        · rw [if_neg d] at h
          omega
      rw [if_pos hk] at h
      have h0 : sCnt t k = 0 := by omega
      refine ⟨k, by omega, hk, ?_⟩
      have : ∀ m, m ≤ k → sCnt t m = 0 → ∀ i, i < m → t.testBit i = false := by
        intro m
        induction m with
        | zero => intro _ _ i h; omega
        | succ m ihm =>
          intro hm hz i hi
          have hz : sCnt t m + (if t.testBit m = true then 1 else 0) = 0 := hz
          by_cases e : t.testBit m = true
          · rw [if_pos e] at hz; omega
          · by_cases ci : i = m
            · subst ci
              cases hb : t.testBit i
              · rfl
              · exact absurd hb e
            · exact ihm (by omega) (by omega) i (by omega)
      exact this k (Nat.le_refl _) h0
theorem k_start {M1 M2 : mm_M} (hv : rl_val M1 M2) (h2 : 2 ≤ vN M1) : ∃ N1 N2 m, (∃ y, J7_fill_53178 38 (-1) M1 = some y ∧ X5_enter (X8_everyState 7 (mm_U y 36 6 0)) 0 (-1) (mm_U y 36 6 0) = some N1) ∧ (∃ y, mm_loop X12_laysKnown_l2 mm_fuel (0, M2) = some y ∧ y 0 6 = nI (vN M1) ∧ N2 = mm_U (mm_U y 31 0 (nI (2 ^ vN M1 - 1))) 32 (2 ^ vN M1 - 1) 0) ∧ m = 1 ∧ kRel M1 M2 N1 N2 m := by
  have hn := v_n hv
  have e2 := hv.1
  obtain ⟨y1, a1, a2, a3, a4⟩ := e_fill 38 1024 rfl (by omega) (-1) M1
  obtain ⟨y2, b1, b2, b3, b4⟩ := k_fill2 M2
  have hE : X8_everyState 7 (mm_U y1 36 6 0) = nI (2 ^ vN M1 - 1) := by
    unfold X8_everyState
    rw [mm_U_ne 7 (by decide), a4 7 (by decide), hn.1, k_every _ (by omega)]
  have hl := k_everyL (vN M1) (by omega)
  have hT : ∀ T, T = 2 ^ vN M1 - 1 → ∃ N1 N2 m, (∃ y, J7_fill_53178 38 (-1) M1 = some y ∧ X5_enter (nI T) 0 (-1) (mm_U y1 36 6 0) = some N1) ∧ N2 = mm_U (mm_U y2 31 0 (nI T)) 32 T 0 ∧ m = 1 ∧ kRel M1 M2 N1 N2 m := by
    intro T hT
    have hT1 : T < 1024 := by omega
    have cu0 : ¬ nI T < 0 := nI_pos (by omega)
    have cu1 : ¬ (1024 : Int32) ≤ nI T := by
      rw [e_le, e_nIt (by omega)]
      show ¬ (1024 : Int) ≤ _
      omega
    have cu : Int32.toNatClampNeg (nI T) = T := e_nIc (by omega)
    have in3 : mm_in (nI T) 1024 = true := e_inb (by rw [e_nIt (by omega)]; omega) (by rw [e_nIt (by omega)]; omega)
    have hw : mm_U y1 36 6 0 38 T = -1 := by rw [mm_U_ne 38 (by decide)]; exact a2 T hT1
    refine ⟨mm_U (mm_U (mm_U (mm_U (mm_U y1 36 6 0) 38 T 0) 39 T (-1)) 37 0 (nI T)) 36 6 1, _, _, ⟨y1, a1, ?_⟩, rfl, rfl, ⟨by omega, by omega, ?_, rfl⟩, ?_, ?_, ?_, ?_, ?_⟩
    · unfold X5_enter X5_enter_j26
      have z : mm_U y1 36 6 0 36 6 = 0 := by rw [e_U]; rfl
      simp only [if_neg cu0, if_neg cu1, cu, hw, if_true, z, if_pos in3]
      rfl
    · show 1 = kSeen (upd (y1 38) T 0) 1024
      rw [kSeen_upd (a2 T hT1) (by decide), if_pos hT1, kSeen_0 1024 a2]
    · intro i hi
      show upd (y1 38) T 0 i = upd (y2 32) T 0 i ∧ (upd (y1 38) T 0 i = -1 ∨ ∃ w : Nat, w < 1024 ∧ upd (y1 38) T 0 i = nI w)
      unfold upd
      by_cases c : i = T
      · rw [if_pos c, if_pos c]
        exact ⟨rfl, Or.inr ⟨0, by omega, rfl⟩⟩
      · rw [if_neg c, if_neg c, a2 i hi, b2 i hi]
        exact ⟨rfl, Or.inl rfl⟩
    · intro i hi w hw0 hw1
      show upd (y1 38) T 0 i = nI w → _
      intro h
      exfalso
      unfold upd at h
      by_cases c : i = T
      · rw [if_pos c, e_eq, e_nIt (by omega)] at h
        have h : (0 : Int) = w := h
        omega
      · rw [if_neg c, a2 i hi] at h
        exact k_ne hw1 h.symm
    · intro k hk
      have : k = 0 := by omega
      subst this
      refine ⟨T, 0, hT1, by omega, ⟨⟨fun _ => rfl, fun _ => rfl⟩, fun _ => ?_⟩, rfl, ?_, ?_⟩
      · rw [hT, k_everyC _ (by omega)]
        omega
      · rfl
      · show upd (y1 38) T 0 T = nI 0
        unfold upd
        rw [if_pos rfl]
        rfl
    · intro c c1 c2 c3 c4
      rw [mm_U_ne c c1, mm_U_ne c c2, mm_U_ne c c4, mm_U_ne c c3, mm_U_ne c c1]
      exact a4 c c3
    · intro c c1 c2 c3
      rw [mm_U_ne c c2, mm_U_ne c c1]
      exact b4 c c2
  obtain ⟨N1, N2, m, ⟨-, -, x2⟩, x3, x4, x5⟩ := hT _ rfl
  refine ⟨N1, N2, m, ⟨y1, a1, ?_⟩, ⟨y2, b1, ?_, x3⟩, x4, x5⟩
  · rw [hE]
    exact x2
  · rw [b4 0 (by decide), ← e2]
    exact hn.1
theorem k_lf {M1 M2 N1 N2 : mm_M} {m : Nat} (h : kRel M1 M2 N1 N2 m) : rl_same1 N1 M1 ∧ rl_same2 N2 M2 ∧ rl_lf M1 N1 M2 N2 := by
  obtain ⟨-, -, -, -, hd, he⟩ := h
  have f0 := he 0 (by decide) (by decide) (by decide)
  have g := fun c (h1 : c ≠ 36) (h2 : c ≠ 37) (h3 : c ≠ 38) (h4 : c ≠ 39) => hd c h1 h2 h3 h4
  refine ⟨⟨by rw [g 0 (by decide) (by decide) (by decide) (by decide)], by rw [g 1 (by decide) (by decide) (by decide) (by decide)], g 2 (by decide) (by decide) (by decide) (by decide), g 3 (by decide) (by decide) (by decide) (by decide), g 4 (by decide) (by decide) (by decide) (by decide), g 5 (by decide) (by decide) (by decide) (by decide), by rw [g 7 (by decide) (by decide) (by decide) (by decide)], g 8 (by decide) (by decide) (by decide) (by decide), g 9 (by decide) (by decide) (by decide) (by decide)⟩, ⟨by rw [f0], by rw [f0], by rw [f0], he 1 (by decide) (by decide) (by decide), he 3 (by decide) (by decide) (by decide), he 4 (by decide) (by decide) (by decide), he 5 (by decide) (by decide) (by decide), he 6 (by decide) (by decide) (by decide), he 7 (by decide) (by decide) (by decide)⟩, ⟨⟨by rw [g 13 (by decide) (by decide) (by decide) (by decide)], by rw [g 13 (by decide) (by decide) (by decide) (by decide)], g 14 (by decide) (by decide) (by decide) (by decide), g 15 (by decide) (by decide) (by decide) (by decide), g 16 (by decide) (by decide) (by decide) (by decide), g 17 (by decide) (by decide) (by decide) (by decide), by rw [g 18 (by decide) (by decide) (by decide) (by decide), g 32 (by decide) (by decide) (by decide) (by decide)]⟩, ⟨by rw [f0], he 14 (by decide) (by decide) (by decide), he 15 (by decide) (by decide) (by decide), he 16 (by decide) (by decide) (by decide), he 17 (by decide) (by decide) (by decide), he 18 (by decide) (by decide) (by decide)⟩⟩⟩
theorem v_2 {M1 M2 : mm_M} (hv : rl_val M1 M2) (h : X8_isTold M1 = true) : 2 ≤ vN M1 := by
  have h1 := (rl_told hv).mp h
  rw [← hv.1, e_eq] at h1
  have h1 : ¬ (M1 7 0).toInt = 0 := h1
  have hn := v_n hv
  rcases hv.2.1 with q | q
  · exact absurd q h1
  · have := q.1
    omega
theorem op_18 (x : Int32) : rl_ok (cl_18 x) (md_18 x) := by
  intro M1 M2 h
  have hv := h.2.2.2.1
  unfold cl_18 md_18 X11_known X12_known
  by_cases c2 : X8_isTold M1 = true
  · have c3 := (rl_told hv).mp c2
    by_cases c : X12_in x 0 2 = true
    · have hx := rl_inI.mp c
      have c1 : ¬ x < 0 := (rl_lt.mpr hx).1
      have c4 : ¬ 2 < x := by
        have := (rl_lt.mpr hx).2
        rw [e_le] at this
        rw [e_lt]
        omega
      obtain ⟨N1, N2, m, ⟨y1, s1, s2⟩, ⟨y2, s3, s4, s5⟩, rfl, hR⟩ := k_start hv (v_2 hv c2)
      obtain ⟨r, r', l1, l2, hE⟩ := k_outer hv hR x
      have hn := v_n hv
      have hT := k_everyL (vN M1) (by omega)
      have key : X12_laysKnown M2 = some r' := by
        unfold X12_laysKnown
        rw [s3, Option.bind_some]
        rw [s4, k_every _ (by omega), if_pos (e_inb (by rw [e_nIt (by omega)]; omega) (by rw [e_nIt (by omega)]; omega)), e_nIc (by omega), ← s5]
        exact l2
      unfold X5_meet
      simp only [if_neg c1, if_neg c4, if_pos c2, if_neg c3, if_pos c, key, s1, s2, l1, Option.bind_some]
      obtain ⟨u, N2'⟩ := r'
      rcases hE with ⟨N1', m, rfl, rfl, hR'⟩ | ⟨N1', t, w, m, rfl, rfl, t1, t2, t3, t4, t5, hR'⟩
      · obtain ⟨z1, z2, z3⟩ := k_lf hR'
        exact ⟨-2, N1', N2', rfl, rfl, rl_core_congr h z1 z2, z3⟩
      · obtain ⟨z1, z2, z3⟩ := k_lf hR'
        have in3 : mm_in (nI t) 1024 = true := e_inb (by rw [e_nIt (by omega)]; omega) (by rw [e_nIt (by omega)]; omega)
        have cu : Int32.toNatClampNeg (nI t) = t := e_nIc (by omega)
        have d1 : ¬ nI t = -1 := k_ne (by omega)
        dsimp only at hR' ⊢
        simp only [if_neg d1, if_pos in3, cu]
        by_cases e0 : x = 0
        · simp only [if_pos e0]
          refine ⟨_, N1', N2', rfl, ?_, rl_core_congr h z1 z2, z3⟩
          rw [(hR'.2.1 t t1).1]
          rfl
        · by_cases e1 : x = 1
          · obtain ⟨j, j1, j2, j3⟩ := sCnt_one 10 t2
            obtain ⟨g1, g2⟩ := s_low (x := nI t) j1 (by rw [s_bt t1]; exact j2) (fun i hi => by rw [s_bt t1]; exact j3 i hi)
            simp only [if_neg e0, if_pos e1, g1, g2, Option.bind_some]
            exact ⟨_, N1', N2', rfl, rfl, rl_core_congr h z1 z2, z3⟩
          · simp only [if_neg e0, if_neg e1]
            refine ⟨_, N1', N2', rfl, ?_, rl_core_congr h z1 z2, z3⟩
            rw [hR'.2.2.1 t t1 w t3 t4 t5]
            rfl
    · refine ⟨-1, M1, M2, ?_, by simp only [if_neg c3, if_neg c]; rfl, h, rl_lf_rfl⟩
      by_cases c1 : x < 0
      · simp only [if_pos c1]; rfl
      · have c4 : 2 < x := by
          rcases Decidable.em (2 < x) with q | q
          · exact q
          · exact absurd (rl_inI.mpr (rl_lt.mp ⟨c1, by rw [e_lt] at q; rw [e_le]; omega⟩)) c
        simp only [if_neg c1, if_pos c4]; rfl
  · have c3 : M2 0 6 = 0 := by
      rcases Decidable.em (M2 0 6 = 0) with q | q
      · exact q
      · exact absurd ((rl_told hv).mpr q) c2
    exact ⟨-1, M1, M2, by simp only [if_neg c2, ite_self]; rfl, by simp only [if_pos c3]; rfl, h, rl_lf_rfl⟩
