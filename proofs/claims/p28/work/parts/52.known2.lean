theorem k_mask {t : Nat} (ht : t < 1024) : nI t &&& 1023 = nI t := by
  rw [pk_andN (by omega) 10 rfl]
  congr 1
  omega
/-- the whole search: the set at which it ends in both -/
def kEnd (M1 M2 : mm_M) (r : (Int32 × mm_M) ⊕ (Int32 × mm_M)) (r' : Int32 × mm_M) : Prop :=
  (∃ N1 m, r = .inl (-2, N1) ∧ r'.1 = -1 ∧ kRel M1 M2 N1 r'.2 m) ∨ ∃ N1 t w m, r = .inr (nI t, N1) ∧ r'.1 = nI t ∧ t < 1024 ∧ sCnt t 10 = 1 ∧ 0 < w ∧ w < 100000 ∧ N1 38 t = nI w ∧ kRel M1 M2 N1 r'.2 m
theorem k_outer {M1 M2 : mm_M} (hv : rl_val M1 M2) {N1 N2 : mm_M} {m : Nat} (h : kRel M1 M2 N1 N2 m) (x2 : Int32) : ∃ r r', mm_loop (X5_meet_l25 x2) mm_fuel (0, N1) = some r ∧ mm_loop X12_laysKnown_l52 mm_fuel (nI m, 0, N2) = some r' ∧ kEnd M1 M2 r r' := by
  refine e_loop2F (step := X5_meet_l25 x2) (step' := X12_laysKnown_l52) (I := fun (s : Int32 × mm_M) (s' : Int32 × Int32 × mm_M) => ∃ k m' : Nat, k ≤ m' ∧ s.1 = nI k ∧ s'.2.1 = nI k ∧ s'.1 = nI m' ∧ kRel M1 M2 s.2 s'.2.2 m') (Q := kEnd M1 M2) (fun s _ => 2000 - Int32.toNatClampNeg s.1) ?_ (0, N1) (nI m, 0, N2) ⟨0, m, by omega, rfl, rfl, rfl, h⟩ (by omega)
  rintro ⟨y, G⟩ ⟨z, y', G'⟩ ⟨k, m', hk, hy, hy', hz, hR⟩
  dsimp only at hy hy' hz hR
  subst hy hy' hz
  obtain ⟨⟨r1, r2, r3, r4⟩, ra, rb, rc, rd, re⟩ := id hR
  have q1 : nI m' ≤ nI k ↔ m' ≤ k := nI_leI (by omega) (by omega)
  unfold X5_meet_l25 X12_laysKnown_l52
  dsimp only
  by_cases c : m' ≤ k
  · simp only [r4, if_pos (q1.mpr c)]
    exact Or.inr ⟨_, _, rfl, rfl, Or.inl ⟨G, m', rfl, rfl, hR⟩⟩
  · obtain ⟨t, w, t1, t2, ⟨t3, t4⟩, t5, t6, t7⟩ := rc k (by omega)
    have c2 : ¬ nI m' ≤ nI k := fun h => c (q1.mp h)
    have c3 : ¬ (1024 : Int32) ≤ nI k := by
      rw [e_le, e_nIt (by omega)]
      show ¬ (1024 : Int) ≤ _
      omega
    have in2 : mm_in (nI k) 1024 = true := e_inb (by rw [e_nIt (by omega)]; omega) (by rw [e_nIt (by omega)]; omega)
    have ck : Int32.toNatClampNeg (nI k) = k := e_nIc (by omega)
    have hc10 := sCnt_le (m := t) 10
    simp only [r4, if_neg c2, if_neg c3, if_pos in2, ck, t5, t6, k_mask t1, s_count t t1, s_bits t1, Option.bind_some]
    have q2 : nI (sCnt t 10) = 1 ↔ sCnt t 10 = 1 := nI_eq (b := 1) (by omega) (by omega)
    by_cases d : sCnt t 10 = 1
    · simp only [if_pos (q2.mpr d)]
      refine Or.inr ⟨_, _, rfl, rfl, Or.inr ⟨G, t, w, m', rfl, rfl, t1, d, ?_, by omega, t7, hR⟩⟩
      rcases Nat.eq_zero_or_pos w with h0 | h0
      · exact absurd d (t4 (t3.mp h0))
      · exact h0
    · obtain ⟨P1, P2, p, a1, a2, a3, a4⟩ := k_inner hv hR (show k < m' by omega) t1 t2 t3 t5 t6 t7 x2
      simp only [if_neg (fun h => d (q2.mp h)), a1, a2, Option.bind_some]
      refine Or.inl ⟨_, _, rfl, rfl, ⟨k + 1, p, by omega, nI_1 k, nI_1 k, rfl, a4⟩, ?_⟩
      show 2000 - Int32.toNatClampNeg (nI k + 1) < 2000 - k
      rw [nI_1, e_nIc (by omega)]
      omega
