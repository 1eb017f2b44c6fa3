/-! BOTH SIDES, EACH ALONE -/
def RR (M1 M2 : mm_M) : Prop := I1 M1 ∧ I2 M2
theorem rr_ab {o1 o2 : Option (Int32 × mm_M)} (h1 : ok o1 (fun r => I1 r.2)) (h2 : ok o2 (fun r => I2 r.2)) : ∃ r r' M1' M2', o1 = some (r, M1') ∧ o2 = some (r', M2') ∧ RR M1' M2' := by
  obtain ⟨⟨r, N1⟩, a, b⟩ := h1
  obtain ⟨⟨r', N2⟩, c, d⟩ := h2
  exact ⟨r, r', N1, N2, a, c, b, d⟩
theorem rr_same {o1 o2 : Option (Int32 × mm_M)} (h1 : ok o1 (fun r => I1 r.2)) (h2 : ok o2 (fun r => I2 r.2)) (e : o1.map (fun r => r.1) = o2.map (fun r => r.1)) : ∃ r M1' M2', o1 = some (r, M1') ∧ o2 = some (r, M2') ∧ RR M1' M2' := by
  obtain ⟨⟨r, N1⟩, a, b⟩ := h1
  obtain ⟨⟨r', N2⟩, c, d⟩ := h2
  rw [a, c] at e
  have e : some r = some r' := e
  cases e
  exact ⟨r, N1, N2, a, c, b, d⟩
theorem eq_1 (x y : Int32) (M1 M2 : mm_M) : (cl_1 x y M1).map (fun r => r.1) = (md_1 x y M2).map (fun r => r.1) := by
  unfold cl_1 md_1 X11_price X12_price
  rw [← rl_isq x]
  by_cases c : X11_isQuestion x = true
  · have hx := rl_isqI.mp c
    have hin : mm_in x 8 = true := e_inb hx.1 hx.2
    by_cases c3 : X12_in y 0 99 = true
    · have hy := rl_inI.mp c3
      have c1 : ¬ y < 0 := (rl_lt.mpr hy).1
      have c2 : y ≤ 99 := (rl_lt.mpr hy).2
      simp only [if_pos c, if_neg c1, if_pos c2, if_pos hin, if_pos c3]
      rfl
    · by_cases c1 : y < 0
      · simp only [if_pos c, if_pos c1, if_neg c3]
        rfl
      · have c2 : ¬ y ≤ 99 := fun c2 => c3 (rl_inI.mpr (rl_lt.mp ⟨c1, c2⟩))
        simp only [if_pos c, if_neg c1, if_neg c2, if_neg c3]
        rfl
  · simp only [if_neg c]
    rfl
theorem eq_2 (x : Int32) (M1 M2 : mm_M) : (cl_2 x M1).map (fun r => r.1) = (md_2 x M2).map (fun r => r.1) := by
  unfold cl_2 md_2 X11_purse X12_purse
  by_cases c3 : X12_in x 0 9999 = true
  · have hy := rl_inI.mp c3
    have c1 : ¬ x < 0 := (rl_lt.mpr hy).1
    have c2 : x ≤ 9999 := (rl_lt.mpr hy).2
    simp only [if_neg c1, if_pos c2, if_pos c3]
    rfl
  · by_cases c1 : x < 0
    · simp only [if_pos c1, if_neg c3]
      rfl
    · have c2 : ¬ x ≤ 9999 := fun c2 => c3 (rl_inI.mpr (rl_lt.mp ⟨c1, c2⟩))
      simp only [if_neg c1, if_neg c2, if_neg c3]
      rfl
theorem eq_26 (x : Int32) (M1 M2 : mm_M) : (cl_26 x M1).map (fun r => r.1) = (md_26 x M2).map (fun r => r.1) := by
  unfold cl_26 md_26 X11_seed X12_seed
  by_cases c3 : X12_in x 0 65535 = true
  · have hy := rl_inI.mp c3
    have c1 : ¬ x < 0 := (rl_lt.mpr hy).1
    have c2 : x ≤ 65535 := (rl_lt.mpr hy).2
    simp only [if_neg c1, if_pos c2, if_pos c3]
    rfl
  · by_cases c1 : x < 0
    · simp only [if_pos c1, if_neg c3]
      rfl
    · have c2 : ¬ x ≤ 65535 := fun c2 => c3 (rl_inI.mpr (rl_lt.mp ⟨c1, c2⟩))
      simp only [if_neg c1, if_neg c2, if_neg c3]
      rfl
theorem st_core : rl_core (cm_14 (fun _ _ => 0)) (cm_15 (fun _ _ => 0)) := by
  refine ⟨⟨e_lt8 rfl rfl rfl rfl rfl rfl rfl rfl, ⟨by decide, by decide⟩, ⟨by decide, by decide⟩, ⟨by decide, by decide⟩, ⟨by decide, by decide⟩, ⟨by decide, by decide⟩, ⟨by decide, by decide⟩, ⟨by decide, by decide⟩, ⟨by decide, by decide⟩⟩, ⟨rfl, fun h => absurd rfl h⟩, ?_, ⟨rfl, Or.inl rfl, fun i _ => ⟨rfl, rfl, ⟨by show (0 : Int) ≤ (0 : Int32).toInt; decide, by show (0 : Int32).toInt ≤ 9; decide⟩, ⟨by show (0 : Int) ≤ (0 : Int32).toInt; decide, by show (0 : Int32).toInt ≤ 9; decide⟩⟩⟩, ⟨Or.inr rfl, fun q s _ h => ?_⟩, ⟨rfl, ⟨by decide, by decide⟩, fun i h => ?_⟩⟩
  · refine e_lt8 ?_ ?_ ?_ ?_ ?_ ?_ ?_ ?_ <;> exact ⟨rfl, by decide, by decide⟩
  · exfalso
    have h : (s : Int) < (0 : Int32).toInt := h
    have : (0 : Int32).toInt = 0 := rfl
    omega
  · exfalso
    have h : (i : Int) < (0 : Int32).toInt := h
    have : (0 : Int32).toInt = 0 := rfl
    omega
theorem rr_start : RR (cm_14 (fun _ _ => 0)) (cm_15 (fun _ _ => 0)) := by
  refine ⟨⟨V1_core st_core, e_lt8 rfl rfl rfl rfl rfl rfl rfl rfl, fun i hi => ?_⟩, V2_core st_core, 0, by omega, rfl, fun j hj => by omega⟩
  exfalso
  have hi : (i : Int) < (0 : Int32).toInt := hi
  have : (0 : Int32).toInt = 0 := rfl
  omega
