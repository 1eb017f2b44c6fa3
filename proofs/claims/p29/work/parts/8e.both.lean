/-! BOTH SIDES: each alone, and what is kept and the day alike -/
def RK (M1 M2 : mm_M) : Prop := I1 M1 ∧ I2 M2 ∧ M1 0 5 = M2 0 60 ∧ M1 4 6 = M2 1 6 ∧ (¬ M1 0 5 = 0 → M1 5 6 = M2 3 6)
theorem rk_ab {o1 o2 : Option (Int32 × mm_M)} {M1 M2 : mm_M} (h : RK M1 M2) (h1 : ok o1 (fun r => J1 M1 r.2)) (h2 : ok o2 (fun r => J2 M2 r.2)) : ∃ r r' M1' M2', o1 = some (r, M1') ∧ o2 = some (r', M2') ∧ RK M1' M2' := by
  obtain ⟨⟨r, N1⟩, a, b, k1, k2, k3⟩ := h1
  obtain ⟨⟨r', N2⟩, c, d, l1, l2, l3⟩ := h2
  obtain ⟨-, -, q1, q2, q3⟩ := h
  dsimp only at k1 k2 k3 l1 l2 l3
  refine ⟨r, r', N1, N2, a, c, b, d, ?_, ?_, fun z => ?_⟩
  · rw [k1, l1]; exact q1
  · rw [k2, l2]; exact q2
  · rw [k3, l3]; exact q3 (by rw [← k1]; exact z)
theorem rk_8 (x : Int32) (M1 M2 : mm_M) (h : RK M1 M2) : ∃ r r' M1' M2', cl_8 x M1 = some (r, M1') ∧ md_8 x M2 = some (r', M2') ∧ RK M1' M2' := by
  obtain ⟨⟨r, N1⟩, a, b, k1, k3, k2⟩ := c_8 x h.1
  obtain ⟨⟨r', N2⟩, c, d, l1, l3, l2⟩ := m_8 x h.2.1
  obtain ⟨-, -, q1, q2, q3⟩ := h
  dsimp only at k1 k2 k3 l1 l2 l3
  refine ⟨r, r', N1, N2, a, c, b, d, ?_, ?_, fun z => ?_⟩
  · rw [k1, l1]; exact q1
  · apply Int32.toInt_inj.mp
    rw [k2, l2, q2]
  · rw [k3, l3]; exact q3 (by rw [← k1]; exact z)
theorem rk_27 (M1 M2 : mm_M) (h : RK M1 M2) : ∃ r M1' M2', cl_27 M1 = some (r, M1') ∧ md_27 M2 = some (r, M2') ∧ RK M1' M2' := by
  obtain ⟨⟨r, N1⟩, a, b⟩ := c_of0 op_27 h.1
  obtain ⟨⟨r', N2⟩, c, d⟩ := m_of0 op_27 h.2.1
  dsimp only at b d
  obtain ⟨-, -, q1, q2, q3⟩ := h
  obtain ⟨N, e, n1, n2, n3⟩ := e_copies 1 3 (by decide) (mm_U M2 0 60 1)
  have e16 : N 1 6 = M2 1 6 := by rw [n3 1 (by decide)]; rfl
  have e1 : cl_27 M1 = some (M1 4 6, mm_U (X6_copyFrom 5 4 M1) 0 5 1) := rfl
  have e2 : md_27 M2 = some (M1 4 6, N) := by
    unfold md_27 X12_keep
    rw [e]
    show some (N 1 6, N) = _
    rw [e16, q2]
  rw [e1] at a
  rw [e2] at c
  rw [← (Prod.mk.inj (Option.some.inj a)).2] at b
  rw [← (Prod.mk.inj (Option.some.inj c)).2] at d
  refine ⟨_, _, _, e1, e2, b, d, ?_, ?_, fun _ => ?_⟩
  · show (1 : Int32) = N 0 60
    rw [n3 0 (by decide)]
    rfl
  · show M1 4 6 = N 1 6
    rw [e16]
    exact q2
  · show M1 4 6 = N 3 6
    rw [n1 6 (by decide)]
    exact q2
theorem rk_28 (M1 M2 : mm_M) (h : RK M1 M2) : ∃ r M1' M2', cl_28 M1 = some (r, M1') ∧ md_28 M2 = some (r, M2') ∧ RK M1' M2' := by
  obtain ⟨⟨r, N1⟩, a, b⟩ := c_of0 op_28 h.1
  obtain ⟨⟨r', N2⟩, c, d⟩ := m_of0 op_28 h.2.1
  dsimp only at b d
  obtain ⟨i1, i2, q1, q2, q3⟩ := h
  by_cases z : M1 0 5 = 0
  · have z2 : M2 0 60 = 0 := by rw [← q1]; exact z
    refine ⟨0, M1, M2, ?_, ?_, i1, i2, q1, q2, q3⟩
    · unfold cl_28 X11_undo
      simp only [if_pos z]
      rfl
    · unfold md_28 X12_undo
      simp only [if_pos z2]
      rfl
  · have z2 : ¬ M2 0 60 = 0 := by rw [← q1]; exact z
    have q := q3 z
    obtain ⟨N, e, n1, n2, n3⟩ := e_copies 3 1 (by decide) M2
    have e1 : ∃ K, cl_28 M1 = some (1, K) ∧ K 0 5 = M1 0 5 ∧ K 4 6 = M1 5 6 ∧ K 5 6 = M1 5 6 := by
      unfold cl_28 X11_undo
      by_cases c3 : X8_has 7 ((X6_copyFrom 4 5 M1) 4 0) (X6_copyFrom 4 5 M1) = true
      · exact ⟨X6_copyFrom 4 5 M1, by simp only [if_neg z, mm_let, if_pos c3]; rfl, rfl, rfl, rfl⟩
      · exact ⟨mm_U (X6_copyFrom 4 5 M1) 4 0 0, by simp only [if_neg z, mm_let, if_neg c3]; rfl, rfl, rfl, rfl⟩
    have e2 : ∃ K, md_28 M2 = some (1, K) ∧ K 0 60 = M2 0 60 ∧ K 1 6 = M2 3 6 ∧ K 3 6 = M2 3 6 := by
      unfold md_28 X12_undo
      by_cases c4 : X12_isState (N 1 0) N = true
      · exact ⟨N, by simp only [if_neg z2, e, Option.bind_some, if_pos c4]; rfl, by rw [n3 0 (by decide)], n1 6 (by decide), by rw [n3 3 (by decide)]⟩
      · exact ⟨mm_U N 1 0 0, by simp only [if_neg z2, e, Option.bind_some, if_neg c4]; rfl, by show N 0 60 = _; rw [n3 0 (by decide)], n1 6 (by decide), by show N 3 6 = _; rw [n3 3 (by decide)]⟩
    obtain ⟨K1, e1, f1, f2, f3⟩ := e1
    obtain ⟨K2, e2, g1, g2, g3⟩ := e2
    rw [e1] at a
    rw [e2] at c
    rw [← (Prod.mk.inj (Option.some.inj a)).2] at b
    rw [← (Prod.mk.inj (Option.some.inj c)).2] at d
    exact ⟨1, K1, K2, e1, e2, b, d, by rw [f1, g1]; exact q1, by rw [f2, g2]; exact q, fun _ => by rw [f3, g3]; exact q⟩
theorem st_core : rl_core (cm_14 (fun _ _ => 0)) (cm_15 (fun _ _ => 0)) := by
  refine ⟨⟨e_lt8 rfl rfl rfl rfl rfl rfl rfl rfl, ⟨by decide, by decide⟩, ⟨by decide, by decide⟩, ⟨by decide, by decide⟩, ⟨by decide, by decide⟩, ⟨by decide, by decide⟩, ⟨by decide, by decide⟩, ⟨by decide, by decide⟩, ⟨by decide, by decide⟩⟩, ⟨rfl, fun h => absurd rfl h⟩, ?_, ⟨rfl, Or.inl rfl, fun i _ => ⟨rfl, rfl, ⟨by show (0 : Int) ≤ (0 : Int32).toInt; decide, by show (0 : Int32).toInt ≤ 9; decide⟩, ⟨by show (0 : Int) ≤ (0 : Int32).toInt; decide, by show (0 : Int32).toInt ≤ 9; decide⟩⟩⟩, ⟨Or.inr rfl, fun q s _ h => ?_⟩, ⟨rfl, ⟨by decide, by decide⟩, fun i h => ?_⟩⟩
  · refine e_lt8 ?_ ?_ ?_ ?_ ?_ ?_ ?_ ?_ <;> exact ⟨rfl, by decide, by decide⟩
  · exfalso
    have h : (s : Int) < (0 : Int32).toInt := h
    have : (0 : Int32).toInt = 0 := rfl
    omega
  · exfalso
    have h : (i : Int) < (0 : Int32).toInt := h
    have : (0 : Int32).toInt = 0 := rfl
    omega
theorem rk_start : RK (cm_14 (fun _ _ => 0)) (cm_15 (fun _ _ => 0)) := by
  refine ⟨⟨V1_core st_core, e_lt8 rfl rfl rfl rfl rfl rfl rfl rfl, fun i hi => ?_⟩, ⟨V2_core st_core, 0, by omega, rfl, fun j hj => by omega⟩, rfl, rfl, fun _ => rfl⟩
  exfalso
  have hi : (i : Int) < (0 : Int32).toInt := hi
  have : (0 : Int32).toInt = 0 := rfl
  omega
