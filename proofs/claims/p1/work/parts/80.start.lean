/-! A NEW OBJECT: what both sides hold at the start -/
theorem s0_core : rl_core (cm_14 (fun _ _ => 0)) (cm_15 (fun _ _ => 0)) := by
  refine ⟨⟨e_lt8 rfl rfl rfl rfl rfl rfl rfl rfl, ⟨by decide, by decide⟩, ⟨by decide, by decide⟩, ⟨by decide, by decide⟩, ⟨by decide, by decide⟩, ⟨by decide, by decide⟩, ⟨by decide, by decide⟩, ⟨by decide, by decide⟩, ⟨by decide, by decide⟩⟩, ⟨rfl, fun h => absurd rfl h⟩, ?_, ⟨rfl, Or.inl rfl, fun i _ => ⟨rfl, rfl, ⟨by show (0 : Int) ≤ (0 : Int32).toInt; decide, by show (0 : Int32).toInt ≤ 9; decide⟩, ⟨by show (0 : Int) ≤ (0 : Int32).toInt; decide, by show (0 : Int32).toInt ≤ 9; decide⟩⟩⟩, ⟨Or.inr rfl, fun q s _ h => ?_⟩, ⟨rfl, ⟨by decide, by decide⟩, fun i h => ?_⟩⟩
  · refine e_lt8 ?_ ?_ ?_ ?_ ?_ ?_ ?_ ?_ <;> exact ⟨rfl, by decide, by decide⟩
  · exfalso
    have h : (s : Int) < (0 : Int32).toInt := h
    have : (0 : Int32).toInt = 0 := rfl
    omega
  · exfalso
    have h : (i : Int) < (0 : Int32).toInt := h
    have : (0 : Int32).toInt = 0 := rfl
    omega
def s0_R (M1 M2 : mm_M) : Prop := rl_core M1 M2 ∧ M1 7 0 = 0 ∧ M1 1 1 = 0 ∧ M1 13 0 = M2 0 17 ∧ rl_ones M1 M2
theorem s0_start : s0_R (cm_14 (fun _ _ => 0)) (cm_15 (fun _ _ => 0)) := ⟨s0_core, rfl, rfl, rfl, e_lt8 rfl rfl rfl rfl rfl rfl rfl rfl⟩
theorem s0_off {x n : Int32} {M : mm_M} (h : M 1 1 = 0) : X11_isOnTape x n M = false := by
  unfold X11_isOnTape
  by_cases c1 : x < 1
  · rw [if_pos c1]
  · rw [if_neg c1]
    by_cases c2 : n < x
    · rw [if_pos c2]
    · rw [if_neg c2, if_pos]
      rw [h]
      rw [e_lt] at c1 ⊢
      have e0 : (0 : Int32).toInt = 0 := rfl
      have e1 : (1 : Int32).toInt = 1 := rfl
      omega
theorem s0_offm {x n : Int32} {M : mm_M} (h : M 0 8 = 0) (c : X12_in x 1 n = true) : ¬ x ≤ M 0 8 := by
  have h1 := rl_inI.mp c
  rw [h, e_le]
  have e0 : (0 : Int32).toInt = 0 := rfl
  have e1 : (1 : Int32).toInt = 1 := rfl
  omega
/-- days without a valley: only draws -/
theorem s0_goes (a2 : Nat) (ha : a2 = 4 ∨ a2 = 6) (x : Int32) (hx : x.toInt ≤ 100) (M : mm_M) (h7 : M 7 0 = 0) : ∃ M', X1_goThrough a2 x M = some M' ∧ M' 29 1 = 0 ∧ M' 29 2 = 0 ∧ ∀ k, k < 6 → M' a2 k = M a2 k := by
  have e0 : (0 : Int32).toInt = 0 := rfl
  have e1 : (1 : Int32).toInt = 1 := rfl
  have n7 : ¬ (7 = a2) := by omega
  have n29 : ¬ (29 = a2) := by omega
  unfold X1_goThrough
  refine e_loopF (I := fun s : Int32 × mm_M => s.2 7 0 = 0 ∧ s.2 29 1 = 0 ∧ s.2 29 2 = 0 ∧ (∀ k, k < 6 → s.2 a2 k = M a2 k) ∧ 0 ≤ s.1.toInt ∧ s.1.toInt ≤ 100) (Q := fun (M' : mm_M) => M' 29 1 = 0 ∧ M' 29 2 = 0 ∧ ∀ k, k < 6 → M' a2 k = M a2 k) (fun (s : Int32 × mm_M) => (100 - s.1.toInt).toNat) ?_ (0, mm_U (mm_U M 29 1 0) 29 2 0) ⟨?_, ?_, ?_, fun k hk => ?_, (by show (0 : Int) ≤ (0 : Int32).toInt; decide), (by show (0 : Int32).toInt ≤ 100; decide)⟩ (by show ((100 : Int) - (0 : Int32).toInt).toNat < 4000000000; decide)
  · rintro ⟨i, N⟩ ⟨i1, i2, i3, i4, i5, i6⟩
    dsimp only at i1 i2 i3 i4 i5 i6
    by_cases c1 : x ≤ i
    · exact Or.inr ⟨N, by unfold X1_goThrough_l13; rw [if_pos c1], i2, i3, i4⟩
    by_cases c2 : 9999 ≤ N a2 6
    · exact Or.inr ⟨N, by unfold X1_goThrough_l13; rw [if_neg c1, if_pos c2], i2, i3, i4⟩
    have ei : (i + 1).toInt = i.toInt + 1 := by rw [e_add (by rw [e1]; omega) (by rw [e1]; omega), e1]
    have ci : i.toInt < x.toInt := by rw [e_le] at c1; omega
    have ht : ¬ X8_isTold (X6_draw a2 N).2 = true := by
      have e7 : (X6_draw a2 N).2 7 0 = 0 := by
        unfold X6_draw
        dsimp only
        rw [e_U, if_neg (fun h => n7 h.1)]
        exact i1
      unfold X8_isTold
      rw [e7]
      decide
    have hq : ¬ X11_isQuestion (-1) = true := by decide
    left
    refine ⟨(i + 1, mm_U (X6_draw a2 N).2 a2 6 ((X6_draw a2 N).2 a2 6 + 1)), ?_, ⟨?_, ?_, ?_, fun k hk => ?_, ?_, ?_⟩, ?_⟩
    · unfold X1_goThrough_l13 mm_let X1_goThrough_j57l13
      simp only [if_neg c1, if_neg c2, if_neg ht, if_neg hq]
    · show mm_U _ a2 6 _ 7 0 = 0
      rw [e_U, if_neg (fun h => n7 h.1)]
      unfold X6_draw
      dsimp only
      rw [e_U, if_neg (fun h => n7 h.1)]
      exact i1
    · show mm_U _ a2 6 _ 29 1 = 0
      rw [e_U, if_neg (fun h => n29 h.1)]
      unfold X6_draw
      dsimp only
      rw [e_U, if_neg (fun h => n29 h.1)]
      exact i2
    · show mm_U _ a2 6 _ 29 2 = 0
      rw [e_U, if_neg (fun h => n29 h.1)]
      unfold X6_draw
      dsimp only
      rw [e_U, if_neg (fun h => n29 h.1)]
      exact i3
    · show mm_U _ a2 6 _ a2 k = M a2 k
      rw [e_U, if_neg (fun h => by omega)]
      unfold X6_draw
      dsimp only
      rw [e_U, if_neg (fun h => by omega)]
      exact i4 k hk
    · show 0 ≤ (i + 1).toInt
      omega
    · show (i + 1).toInt ≤ 100
      omega
    · show (100 - (i + 1).toInt).toNat < (100 - i.toInt).toNat
      omega
  · show mm_U (mm_U M 29 1 0) 29 2 0 7 0 = 0
    exact h7
  · rfl
  · rfl
  · show mm_U (mm_U M 29 1 0) 29 2 0 a2 k = M a2 k
    rw [mm_U_ne a2 (by omega), mm_U_ne a2 (by omega)]
theorem s0_goesm (x : Int32) (hx : x.toInt ≤ 100) (M : mm_M) (h6 : M 0 6 = 0) : ∃ M', X12_daysGo x M = some M' ∧ M' 0 48 = 0 ∧ M' 0 45 = 0 ∧ ∀ k, k < 6 → M' 1 k = M 1 k := by
  have e0 : (0 : Int32).toInt = 0 := rfl
  have e1 : (1 : Int32).toInt = 1 := rfl
  unfold X12_daysGo
  refine e_loopF (I := fun s : Int32 × mm_M => s.2 0 6 = 0 ∧ s.2 0 48 = 0 ∧ s.2 0 45 = 0 ∧ (∀ k, k < 6 → s.2 1 k = M 1 k) ∧ 0 ≤ s.1.toInt ∧ s.1.toInt ≤ 100) (Q := fun (M' : mm_M) => M' 0 48 = 0 ∧ M' 0 45 = 0 ∧ ∀ k, k < 6 → M' 1 k = M 1 k) (fun (s : Int32 × mm_M) => (100 - s.1.toInt).toNat) ?_ (0, mm_U (mm_U M 0 48 0) 0 45 0) ⟨?_, ?_, ?_, fun k hk => ?_, (by show (0 : Int) ≤ (0 : Int32).toInt; decide), (by show (0 : Int32).toInt ≤ 100; decide)⟩ (by show ((100 : Int) - (0 : Int32).toInt).toNat < 4000000000; decide)
  · rintro ⟨i, N⟩ ⟨i1, i2, i3, i4, i5, i6⟩
    dsimp only at i1 i2 i3 i4 i5 i6
    by_cases c1 : x ≤ i
    · exact Or.inr ⟨N, by unfold X12_daysGo_l12; rw [if_pos c1], i2, i3, i4⟩
    by_cases c2 : 9999 ≤ N 1 6
    · exact Or.inr ⟨N, by unfold X12_daysGo_l12; rw [if_neg c1, if_pos c2], i2, i3, i4⟩
    have ei : (i + 1).toInt = i.toInt + 1 := by rw [e_add (by rw [e1]; omega) (by rw [e1]; omega), e1]
    have ci : i.toInt < x.toInt := by rw [e_le] at c1; omega
    left
    refine ⟨(i + 1, mm_U (mm_U N 1 7 ((((25173 : Int32) * (N 1 7)) + 13849) - (((25173 : Int32) * (N 1 7)) + 13849) / 65536 * 65536)) 1 6 (N 1 6 + 1)), ?_, ⟨i1, i2, i3, fun k hk => ?_, ?_, ?_⟩, ?_⟩
    · unfold X12_daysGo_l12 X12_dayGoes X12_dayGoes_j53 X12_dayGoes_j127
      simp only [if_neg c1, if_neg c2, if_pos i1, if_true, Option.bind_some]
      rfl
    · show mm_U (mm_U N 1 7 _) 1 6 _ 1 k = M 1 k
      rw [e_U, if_neg (fun h => by omega), e_U, if_neg (fun h => by omega)]
      exact i4 k hk
    · show 0 ≤ (i + 1).toInt
      omega
    · show (i + 1).toInt ≤ 100
      omega
    · show (100 - (i + 1).toInt).toNat < (100 - i.toInt).toNat
      omega
  · exact h6
  · rfl
  · rfl
  · rfl
theorem s0_8 (x : Int32) (M1 M2 : mm_M) (h : s0_R M1 M2) : ∃ r M1' M2', cl_8 x M1 = some (r, M1') ∧ md_8 x M2 = some (r, M2') ∧ True := by
  obtain ⟨hc, h7, h1, hl, ho⟩ := h
  have h6 : M2 0 6 = 0 := by rw [← hc.2.2.2.1.1]; exact h7
  unfold cl_8 md_8 X11_days X12_days
  by_cases c : X12_in x 1 100 = true
  · have hx := rl_inI.mp c
    have c1 : ¬ x < 1 := (rl_lt.mpr hx).1
    have c2 : x ≤ 100 := (rl_lt.mpr hx).2
    obtain ⟨N1, a1, a2, -, -⟩ := s0_goes 4 (Or.inl rfl) x hx.2 M1 h7
    obtain ⟨N2, b1, b2, -, -⟩ := s0_goesm x hx.2 M2 h6
    refine ⟨0, N1, N2, ?_, ?_, trivial⟩
    · simp only [if_neg c1, if_pos c2, a1, Option.bind_some, Option.map_some, a2]
    · simp only [if_pos c, b1, Option.bind_some, Option.map_some, b2]
  · refine ⟨-1, M1, M2, ?_, ?_, trivial⟩
    · by_cases c1 : x < 1
      · simp only [if_pos c1]; rfl
      · have c2 : ¬ x ≤ 100 := fun c2 => c (rl_inI.mpr (rl_lt.mp ⟨c1, c2⟩))
        simp only [if_neg c1, if_neg c2]; rfl
    · simp only [if_neg c]; rfl
theorem s0_9 (x y : Int32) (M1 M2 : mm_M) (h : s0_R M1 M2) : ∃ r M1' M2', cl_9 x y M1 = some (r, M1') ∧ md_9 x y M2 = some (r, M2') ∧ True := by
  obtain ⟨hc, h7, h1, hl, ho⟩ := h
  have h6 : M2 0 6 = 0 := by rw [← hc.2.2.2.1.1]; exact h7
  have hn := hc.1.1
  unfold cl_9 md_9 X11_tried X12_tried
  by_cases c : X12_in x 1 100 = true
  · have hx := rl_inI.mp c
    have c1 : ¬ x < 1 := (rl_lt.mpr hx).1
    have c2 : ¬ 100 < x := by rw [e_lt]; have := hx.2; omega
    by_cases d : X12_in y 0 5 = true
    · have hy := rl_inI.mp d
      have d1 : ¬ y < 0 := (rl_lt.mpr hy).1
      have d2 : y ≤ 5 := (rl_lt.mpr hy).2
      obtain ⟨N1, a1, a2, a3, a4⟩ := s0_goes 6 (Or.inr rfl) x hx.2 (X6_copyFrom 6 4 M1) h7
      obtain ⟨C2, q1, q2, q3, q4⟩ := e_copies 1 2 (by decide) M2
      obtain ⟨N2, b1, b2, b3, b4⟩ := s0_goesm x hx.2 C2 (by rw [q4 0 (by decide)]; exact h6)
      obtain ⟨C3, p1, -, -, -⟩ := e_copies 2 1 (by decide) N2
      have k : ∀ k, k < 6 → N1 6 k = N2 1 k := by
        intro k hk
        rw [a4 k hk, b4 k hk, q4 1 (by decide), ← hn k (by omega)]
        match k, hk with
        | 0, _ => rfl
        | 1, _ => rfl
        | 2, _ => rfl
        | 3, _ => rfl
        | 4, _ => rfl
        | 5, _ => rfl
        | k + 6, h => omega
      simp only [if_pos c, if_neg c1, if_neg c2, if_pos d, if_neg d1, if_pos d2, mm_let, a1, q1, b1, Option.bind_some]
      unfold X12_tried_j125
      simp only [p1, Option.bind_some]
      by_cases y0 : y = 0
      · exact ⟨0, N1, C3, by simp only [if_pos y0, Option.map_some, a2], by simp only [if_pos y0, Option.map_some, b2], trivial⟩
      by_cases y1 : y = 1
      · exact ⟨0, N1, C3, by simp only [if_neg y0, if_pos y1, Option.map_some, a3], by simp only [if_neg y0, if_pos y1, Option.map_some, b3], trivial⟩
      by_cases y2 : y = 2
      · exact ⟨N1 6 3, N1, C3, by simp only [if_neg y0, if_neg y1, if_pos y2, Option.map_some], by simp only [if_neg y0, if_neg y1, if_pos y2, Option.map_some, k 3 (by decide)], trivial⟩
      by_cases y3 : y = 3
      · exact ⟨N1 6 0, N1, C3, by simp only [if_neg y0, if_neg y1, if_neg y2, if_pos y3, Option.map_some], by simp only [if_neg y0, if_neg y1, if_neg y2, if_pos y3, Option.map_some, k 0 (by decide)], trivial⟩
      by_cases y4 : y = 4
      · exact ⟨N1 6 1, N1, C3, by simp only [if_neg y0, if_neg y1, if_neg y2, if_neg y3, if_pos y4, Option.map_some], by simp only [if_neg y0, if_neg y1, if_neg y2, if_neg y3, if_pos y4, Option.map_some, k 1 (by decide)], trivial⟩
      · exact ⟨N1 6 2, N1, C3, by simp only [if_neg y0, if_neg y1, if_neg y2, if_neg y3, if_neg y4, Option.map_some], by simp only [if_neg y0, if_neg y1, if_neg y2, if_neg y3, if_neg y4, Option.map_some, k 2 (by decide)], trivial⟩
    · refine ⟨-1, M1, M2, ?_, ?_, trivial⟩
      · by_cases d1 : y < 0
        · simp only [if_neg c1, if_neg c2, if_pos d1]; rfl
        · have d2 : ¬ y ≤ 5 := fun d2 => d (rl_inI.mpr (rl_lt.mp ⟨d1, d2⟩))
          simp only [if_neg c1, if_neg c2, if_neg d1, if_neg d2]; rfl
      · simp only [if_pos c, if_neg d]; rfl
  · refine ⟨-1, M1, M2, ?_, ?_, trivial⟩
    · by_cases c1 : x < 1
      · simp only [if_pos c1]; rfl
      · have c2 : 100 < x := by
          rw [e_lt]
          apply Classical.byContradiction
          intro z
          exact c (rl_inI.mpr (rl_lt.mp ⟨c1, e_le.mpr (by omega)⟩))
        simp only [if_neg c1, if_pos c2]; rfl
    · simp only [if_neg c]; rfl
theorem s0_Rel : ll_Rel s0_R (fun _ _ => True) := by
  have up : ∀ {c m : mm_M → Option (Int32 × mm_M)}, rl_ok c m → ∀ M1 M2, s0_R M1 M2 → ∃ r M1' M2', c M1 = some (r, M1') ∧ m M2 = some (r, M2') ∧ True := by
    intro c m h M1 M2 hR
    obtain ⟨r, M1', M2', a, b, -, -⟩ := h M1 M2 hR.1
    exact ⟨r, M1', M2', a, b, trivial⟩
  have upP : ∀ {c m : mm_M → Option (Int32 × mm_M)}, rl_okP rl_ones c m → ∀ M1 M2, s0_R M1 M2 → ∃ r M1' M2', c M1 = some (r, M1') ∧ m M2 = some (r, M2') ∧ True := by
    intro c m h M1 M2 hR
    obtain ⟨r, M1', M2', a, b, -, -⟩ := h M1 M2 hR.1 hR.2.2.2.2
    exact ⟨r, M1', M2', a, b, trivial⟩
  have v0 : ∀ M1 M2, s0_R M1 M2 → M2 0 6 = 0 := fun M1 M2 h => by rw [← h.1.2.2.2.1.1]; exact h.2.1
  have t0 : ∀ M1 M2, s0_R M1 M2 → M2 0 8 = 0 := fun M1 M2 h => by rw [← h.1.2.2.2.2.2.1]; exact h.2.2.1
  refine ⟨fun x => up (op_0 x), fun x y => up (op_1 x y), fun x => up (op_2 x), fun a b c d e => up (op_3 a b c d e), ?_, ?_, ?_, ?_, fun x => s0_8 x, fun x y => s0_9 x y, fun x y z => up (op_10 x y z), fun x y => up (op_11 x y), fun x y => up (op_12 x y), fun x y z => upP (op_13 x y z), fun x y => upP (op_14 x y), fun x y => up (op_15 x y), fun x => up (op_16 x), fun x y z => up (op_17 x y z), fun x => up (op_18 x), fun x y => up (op_19 x y), fun x y => up (op_20 x y), fun x y => up (op_21 x y), fun x y z => up (op_22 x y z), fun x y z => up (op_23 x y z), fun x y z => up (op_24 x y z), fun x => up (op_25 x), fun x => up (op_26 x), up op_27, up op_28, fun x y => up (op_29 x y), fun x M1 M2 h => ?_⟩
  · intro x M1 M2 h
    refine ⟨-1, M1, M2, ?_, ?_, trivial⟩
    · unfold cl_4 X11_law
      simp only [s0_off h.2.2.1]
      rfl
    · unfold md_4 X12_law
      by_cases c : X12_in x 1 240 = true
      · simp only [if_pos c, if_neg (s0_offm (t0 _ _ h) c)]; rfl
      · simp only [if_neg c]; rfl
  · intro x M1 M2 h
    refine ⟨-1, M1, M2, ?_, ?_, trivial⟩
    · unfold cl_5 X11_valley
      simp only [s0_off h.2.2.1]
      rfl
    · unfold md_5 X12_valley
      by_cases c : X12_in x 1 220 = true
      · simp only [if_pos c, if_neg (s0_offm (t0 _ _ h) c)]; rfl
      · simp only [if_neg c]; rfl
  · intro x M1 M2 h
    refine ⟨-1, M1, M2, ?_, ?_, trivial⟩
    · unfold cl_6 X11_census
      simp only [s0_off h.2.2.1]
      rfl
    · unfold md_6 X12_census
      simp only [if_pos (v0 _ _ h)]
      rfl
  · intro x y M1 M2 h
    refine ⟨-1, M1, M2, ?_, ?_, trivial⟩
    · have e : ∀ b, X11_look_j27 x y b M1 = some (-1, M1) := by
        intro b
        unfold X11_look_j27
        simp only [s0_off h.2.2.1]
        cases b <;> rfl
      unfold cl_7 X11_look X11_look_j10 X11_look_j22 X11_look_j26
      simp only [e, ite_self]
      rfl
    · unfold md_7 X12_look
      simp only [if_pos (v0 _ _ h)]
      rfl
  · obtain ⟨r, M1', M2', a, b, -, -⟩ := op_30 x M1 M2 h.1 h.2.2.2.1
    exact ⟨r, M1', M2', a, b, trivial⟩
