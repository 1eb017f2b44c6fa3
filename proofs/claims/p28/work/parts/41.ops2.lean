theorem v_swap2 {M1 M2 : mm_M} (hv : rl_val M1 M2) (hi : rl_in M1) {q r : Nat} (hq : q < 8) (hr : r < 8) : ∃ b, X12_mayChange (nI q) (nI r) M2 = some b ∧ (b = true ↔ vSwap M1 q r) := by
  unfold X12_mayChange
  have hn := v_n hv
  refine e_loopF (I := fun (x : Int32) => ∃ s : Nat, s ≤ vN M1 ∧ x = nI s ∧ ∀ t, t < s → vB M1 r (vB M1 q t) = vB M1 q (vB M1 r t) ∧ vA M1 r (vB M1 q t) = vA M1 r t ∧ vA M1 q (vB M1 r t) = vA M1 q t) (Q := fun (b : Bool) => (b = true ↔ vSwap M1 q r)) (fun x => 20 - Int32.toNatClampNeg x) ?_ 0 ⟨0, by omega, rfl, fun t h => by omega⟩ (by omega)
  rintro x ⟨s, hs, rfl, hall⟩
  unfold X12_mayChange_l2
  by_cases cs : vN M1 ≤ s
  · have : s = vN M1 := by omega
    subst this
    rw [if_pos ((v_head hv (by omega)).2.mpr cs)]
    exact Or.inr ⟨true, rfl, by simp only [vSwap, true_iff]; exact Or.inr hall⟩
  · rw [if_neg (fun h => cs ((v_head hv (by omega)).2.mp h))]
    by_cases c : q = r
    · rw [if_pos (by rw [c])]
      exact Or.inr ⟨true, rfl, by simp [vSwap, c]⟩
    · rw [if_neg (by rw [v_nIe (by omega) (by omega)]; exact c)]
      have hs10 : s < 10 := by omega
      have b1 := (v_B hv hq hs10).2
      have b2 := (v_B hv hr hs10).2
      have b3 := (v_B hv hr b1).2
      have b4 := (v_B hv hq b2).2
      simp only [v_beh2 hv hq hs10, v_beh2 hv hr hs10, Option.bind_some, v_ans2 hv hq hs10, v_ans2 hv hq b2, v_ans2 hv hr hs10, v_ans2 hv hr b1, v_beh2 hv hr b1, v_beh2 hv hq b2, v_nIe (show vB M1 r (vB M1 q s) < 1000 by omega) (show vB M1 q (vB M1 r s) < 1000 by omega)]
      have no : ∀ P : Prop, ¬ (vB M1 r (vB M1 q s) = vB M1 q (vB M1 r s) ∧ vA M1 r (vB M1 q s) = vA M1 r s ∧ vA M1 q (vB M1 r s) = vA M1 q s) → (false = true ↔ vSwap M1 q r) := by
        intro _ hno
        simp only [vSwap, Bool.false_eq_true, false_iff]
        rintro (h | h)
        · exact c h
        · exact hno (h s (by omega))
      by_cases d3 : vA M1 q s = vA M1 q (vB M1 r s)
      · rw [if_pos d3]
        by_cases d2 : vA M1 r s = vA M1 r (vB M1 q s)
        · rw [if_pos d2]
          by_cases d1 : vB M1 r (vB M1 q s) = vB M1 q (vB M1 r s)
          · rw [if_pos d1]
            refine Or.inl ⟨nI s + 1, rfl, ⟨s + 1, by omega, nI_1 s, fun t ht => ?_⟩, ?_⟩
            · by_cases ct : t = s
              · subst ct
                exact ⟨d1, d2.symm, d3.symm⟩
              · exact hall t (by omega)
            · rw [nI_1, e_nIc (by omega), e_nIc (by omega)]
              omega
          · rw [if_neg d1]
            exact Or.inr ⟨false, rfl, no True (fun h => d1 h.1)⟩
        · rw [if_neg d2]
          exact Or.inr ⟨false, rfl, no True (fun h => d2 h.2.1.symm)⟩
      · rw [if_neg d3]
        exact Or.inr ⟨false, rfl, no True (fun h => d3 h.2.2.symm)⟩
theorem v_swap {M1 M2 : mm_M} (hv : rl_val M1 M2) (hi : rl_in M1) {q r : Nat} (hq : q < 8) (hr : r < 8) : ∃ b, X8_maySwap (nI q) (nI r) M1 = some b ∧ X12_mayChange (nI q) (nI r) M2 = some b ∧ (b = true ↔ vSwap M1 q r) := by
  obtain ⟨b, h1, h2⟩ := v_swap1 hv hi hq hr
  obtain ⟨b', h3, h4⟩ := v_swap2 hv hi hq hr
  have : b = b' := by rw [Bool.eq_iff_iff, h2, h4]
  subst this
  exact ⟨b, h1, h3, h2⟩
theorem op_11 (x y : Int32) : rl_ok (cl_11 x y) (md_11 x y) := by
  intro M1 M2 h
  have hv := h.2.2.2.1
  unfold cl_11 md_11 X11_changePlaces X12_changePlaces
  rw [← rl_isq x, ← rl_isq y]
  by_cases c1 : X11_isQuestion x = true
  · by_cases c2 : X11_isQuestion y = true
    · by_cases c3 : X8_isTold M1 = true
      · obtain ⟨q, hq, rfl⟩ := v_q c1
        obtain ⟨r, hr, rfl⟩ := v_q c2
        obtain ⟨b, h1, h2, -⟩ := v_swap hv h.2.2.2.2.1 hq hr
        simp only [if_pos c1, if_pos c2, if_pos c3, if_neg ((rl_told hv).mp c3), h1, h2, Option.bind_some]
        cases b
        · exact ⟨0, M1, M2, rfl, rfl, h, rl_lf_rfl⟩
        · exact ⟨1, M1, M2, rfl, rfl, h, rl_lf_rfl⟩
      · have c4 : M2 0 6 = 0 := by
          rcases Decidable.em (M2 0 6 = 0) with q | q
          · exact q
          · exact absurd ((rl_told hv).mpr q) c3
        simp only [if_pos c1, if_pos c2, if_neg c3, if_pos c4]
        exact ⟨-1, M1, M2, rfl, rfl, h, rl_lf_rfl⟩
    · simp only [if_pos c1, if_neg c2, ite_self]
      exact ⟨-1, M1, M2, rfl, rfl, h, rl_lf_rfl⟩
  · simp only [if_neg c1, ite_self]
    exact ⟨-1, M1, M2, rfl, rfl, h, rl_lf_rfl⟩
