/-- a byte of an int, by the class and by the reference -/
theorem f_byte (x : Int32) (k : Nat) (hk : k < 4) : ((Int32.toUInt32 x >>> (Int32.toUInt32 (nI (8 * k)) &&& Int32.toUInt32 31)).toInt32 &&& 255) = (Int8.toInt32 (Int32.toInt8 (Int8.toInt32 (Int32.toInt8 (x >>> (((8 : Int32) * nI k) &&& 31)))))) &&& 255 := by
  have e8 : (8 : Int32) * nI k = nI (8 * k) := pk_mul 8 k
  rw [e8, bp_b, bp_b]
  apply b_ext
  intro i hi
  rw [b_and, b_and, b_255, b_ushr (8 * k) (by omega), b_sshr (8 * k) (by omega) x hi]
  by_cases c : i < 8
  · rw [if_pos (by omega)]
  · simp [c]
theorem f_rng (x : Int32) : rl_r (x &&& 255) 0 255 := by
  obtain ⟨j, hj, e⟩ := pk_andE x (m := 255) 8 rfl
  rw [e]
  exact ⟨by rw [e_nIt (by omega)]; omega, by rw [e_nIt (by omega)]; omega⟩
/-- a byte more on both tapes -/
theorem f_put {M1 M2 : mm_M} (h : rl_core M1 M2) (hn : tN M1 < 260) {v w : Int32} (hvw : v = w &&& 255) : rl_core (mm_U (mm_U M1 2 (tN M1) v) 1 1 (nI (tN M1 + 1))) (mm_U (mm_U M2 7 (tN M1) w) 0 8 (nI (tN M1 + 1))) ∧ tN (mm_U (mm_U M1 2 (tN M1) v) 1 1 (nI (tN M1 + 1))) = tN M1 + 1 := by
  obtain ⟨hnow, hk, hp, hv, hin, ht⟩ := h
  have h1 := t_n ht
  refine ⟨⟨hnow, hk, hp, hv, hin, rfl, show rl_r (nI (tN M1 + 1)) 0 260 from ⟨by rw [e_nIt (by omega)]; omega, by rw [e_nIt (by omega)]; omega⟩, fun i hi => ?_⟩, e_nIc (by omega)⟩
  have hi : (i : Int) < (nI (tN M1 + 1)).toInt := hi
  rw [e_nIt (by omega)] at hi
  show upd (M1 2) (tN M1) v i = upd (M2 7) (tN M1) w i &&& 255 ∧ rl_r (upd (M1 2) (tN M1) v i) 0 255
  unfold upd
  by_cases c : i = tN M1
  · rw [if_pos c, if_pos c]
    exact ⟨hvw, by rw [hvw]; exact f_rng w⟩
  · rw [if_neg c, if_neg c]
    exact ht.2.2 i (by omega)
theorem f_four {M1 M2 : mm_M} (h : rl_core M1 M2) (hn : tN M1 + 4 ≤ 260) (x : Int32) : ∃ M1' M2', X7_append x M1 = some M1' ∧ X12_types x M2 = some M2' ∧ rl_core M1' M2' ∧ tN M1' = tN M1 + 4 ∧ rl_lf M1 M1' M2 M2' := by
  unfold X7_append X12_types
  refine e_loop2F (I := fun (s s' : Int32 × mm_M) => ∃ i : Nat, i ≤ 4 ∧ (s.1 = nI (8 * (4 - i)) - 8 ∧ s'.1 = nI (4 - i) - 1) ∧ rl_core s.2 s'.2 ∧ tN s.2 = tN M1 + i ∧ rl_lf M1 s.2 M2 s'.2) (Q := fun (N1 N2 : mm_M) => rl_core N1 N2 ∧ tN N1 = tN M1 + 4 ∧ rl_lf M1 N1 M2 N2) (fun s s' => Int32.toNatClampNeg (s'.1 + 1)) ?_ (24, M1) (3, M2) ⟨0, by omega, ⟨show (24 : Int32) = nI (8 * 4) - 8 by decide, show (3 : Int32) = nI 4 - 1 by decide⟩, h, rfl, rl_lf_rfl⟩ (show Int32.toNatClampNeg ((3 : Int32) + 1) < 4000000000 by decide)
  rintro ⟨a, N1⟩ ⟨b, N2⟩ ⟨i, hi, ⟨ha, hb⟩, hc, ht, hf⟩
  dsimp only at ha hb hc ht hf
  unfold X7_append_l3 X12_types_l2
  by_cases c : i = 4
  · subst c
    have a0 : a < 0 := by rw [ha]; decide
    have b0 : b < 0 := by rw [hb]; decide
    dsimp only
    rw [if_pos a0, if_pos b0]
    exact Or.inr ⟨N1, N2, rfl, rfl, hc, ht, hf⟩
  · obtain ⟨k, hk, rfl⟩ : ∃ k, k < 4 ∧ i = 3 - k := ⟨3 - i, by omega, by omega⟩
    have ea : a = nI (8 * k) := by
      rw [ha, show 8 * (4 - (3 - k)) = 8 * k + 8 by omega, ← nI_add]
      show nI (8 * k) + nI 8 - nI 8 = _
      rw [Int32.add_sub_cancel]
    have eb : b = nI k := by
      rw [hb, show 4 - (3 - k) = k + 1 by omega]
      exact nI_pred k
    subst ea eb
    have hN := t_n hc.2.2.2.2.2
    have a0 : ¬ nI (8 * k) < 0 := nI_pos (by omega)
    have b0 : ¬ nI k < 0 := nI_pos (by omega)
    have s1 : N1 1 1 = nI (tN N1) := hN.1
    have s2 : N2 0 8 = nI (tN N1) := hN.2.2.2
    have g1 : ¬ (260 : Int32) ≤ nI (tN N1) := by
      rw [e_le, e_nIt (by omega)]
      show ¬ (260 : Int) ≤ _
      omega
    have g2 : mm_in (nI (tN N1)) 260 = true := e_inb (by rw [e_nIt (by omega)]; omega) (by rw [e_nIt (by omega)]; omega)
    dsimp only
    simp only [if_neg a0, if_neg b0, s1, s2, if_neg g1, if_pos g2, e_nIc (show tN N1 < 2147483648 by omega), nI_1]
    obtain ⟨p1, p2⟩ := f_put hc (by omega) (f_byte x k hk)
    refine Or.inl ⟨_, _, rfl, rfl, ⟨4 - k, by omega, ⟨?_, ?_⟩, p1, by rw [p2, ht]; omega, ?_⟩, ?_⟩
    · show nI (8 * k) + (-8) = nI (8 * (4 - (4 - k))) - 8
      rw [show 8 * (4 - (4 - k)) = 8 * k by omega]
      exact (Int32.sub_eq_add_neg _ _).symm
    · show nI k + (-1) = nI (4 - (4 - k)) - 1
      rw [show 4 - (4 - k) = k by omega]
      exact (Int32.sub_eq_add_neg _ _).symm
    · exact hf
    · show Int32.toNatClampNeg (nI k + (-1) + 1) < Int32.toNatClampNeg (nI (k + 1))
      rw [e_nIc (show k + 1 < 2147483648 by omega)]
      have : nI k + (-1) + 1 = nI k := by
        rw [Int32.add_assoc]
        have z : (-1 : Int32) + 1 = 0 := by decide
        rw [z, Int32.add_zero]
      rw [this, e_nIc (by omega)]
      omega
theorem rl_lf_trans {A1 B1 C1 A2 B2 C2 : mm_M} (h1 : rl_lf A1 B1 A2 B2) (h2 : rl_lf B1 C1 B2 C2) : rl_lf A1 C1 A2 C2 := by
  obtain ⟨⟨a1, a2, a3, a4, a5, a6, a7⟩, b1, b2, b3, b4, b5, b6⟩ := h1
  obtain ⟨⟨c1, c2, c3, c4, c5, c6, c7⟩, d1, d2, d3, d4, d5, d6⟩ := h2
  exact ⟨⟨c1.trans a1, c2.trans a2, c3.trans a3, c4.trans a4, c5.trans a5, c6.trans a6, c7.trans a7⟩, d1.trans b1, d2.trans b2, d3.trans b3, d4.trans b4, d5.trans b5, d6.trans b6⟩
theorem op_3 (a b c d e : Int32) : rl_ok (cl_3 a b c d e) (md_3 a b c d e) := by
  intro M1 M2 h
  have ht := h.2.2.2.2.2
  have hn := t_n ht
  unfold cl_3 md_3 X11_feed X12_feed
  rw [← ht.1]
  have k20 : (20 : Int32).toInt = 20 := rfl
  have k260 : (260 : Int32).toInt = 260 := rfl
  by_cases q : M1 1 1 + 20 ≤ 260
  · have hq : tN M1 + 20 ≤ 260 := by
      rw [e_le, k260, e_add (by rw [k20]; omega) (by rw [k20]; omega), k20, hn.2.2.1] at q
      omega
    rw [if_pos q, if_pos q]
    obtain ⟨P1, Q1, x1, y1, z1, n1, f1⟩ := f_four h (by omega) a
    obtain ⟨P2, Q2, x2, y2, z2, n2, f2⟩ := f_four z1 (by omega) b
    obtain ⟨P3, Q3, x3, y3, z3, n3, f3⟩ := f_four z2 (by omega) c
    obtain ⟨P4, Q4, x4, y4, z4, n4, f4⟩ := f_four z3 (by omega) d
    obtain ⟨P5, Q5, x5, y5, z5, n5, f5⟩ := f_four z4 (by omega) e
    rw [x1, y1, Option.bind_some, Option.bind_some, x2, y2, Option.bind_some, Option.bind_some, x3, y3, Option.bind_some, Option.bind_some, x4, y4, Option.bind_some, Option.bind_some, x5, y5, Option.bind_some, Option.bind_some]
    refine ⟨P5 1 1, P5, Q5, rfl, ?_, z5, rl_lf_trans f1 (rl_lf_trans f2 (rl_lf_trans f3 (rl_lf_trans f4 f5)))⟩
    rw [z5.2.2.2.2.2.1]
    rfl
  · rw [if_neg q, if_neg q]
    exact ⟨-1, M1, M2, rfl, rfl, h, rl_lf_rfl⟩
