/-- the law's own cells stay -/
def rl_lf (M1 M1' M2 M2' : mm_M) : Prop := (M1' 13 0 = M1 13 0 ∧ M1' 13 4 = M1 13 4 ∧ M1' 14 = M1 14 ∧ M1' 15 = M1 15 ∧ M1' 16 = M1 16 ∧ M1' 17 = M1 17 ∧ (M1' 18, M1' 32) = (M1 18, M1 32)) ∧ (M2' 0 17 = M2 0 17 ∧ M2' 14 = M2 14 ∧ M2' 15 = M2 15 ∧ M2' 16 = M2 16 ∧ M2' 17 = M2 17 ∧ M2' 18 = M2 18)
theorem rl_lf_rfl {M1 M2 : mm_M} : rl_lf M1 M1 M2 M2 := ⟨⟨rfl, rfl, rfl, rfl, rfl, rfl, rfl⟩, ⟨rfl, rfl, rfl, rfl, rfl, rfl⟩⟩
/-- a call that answers alike, keeps the relation and the law -/
def rl_ok (c m : mm_M → Option (Int32 × mm_M)) : Prop := ∀ M1 M2, rl_core M1 M2 → ∃ r M1' M2', c M1 = some (r, M1') ∧ m M2 = some (r, M2') ∧ rl_core M1' M2' ∧ rl_lf M1 M1' M2 M2'
theorem op_0 (x : Int32) : rl_ok (cl_0 x) (md_0 x) := by
  intro M1 M2 h
  unfold cl_0 md_0 X11_state X12_state
  rw [← rl_has h.2.2.2.1 x]
  by_cases c : X8_has 7 x M1 = true
  · have hx := rl_hasI.mp c
    have h10 : (M1 7 0).toInt ≤ 10 := by
      rcases h.2.2.2.1.2.1 with q | q
      · omega
      · exact q.2
    refine ⟨1, mm_U M1 4 0 x, mm_U M2 1 0 x, by simp only [if_pos c]; rfl, by simp only [if_pos c]; rfl, ?_, rl_lf_rfl⟩
    exact rl_core_now h (rl_now_set h.1 0 x ⟨⟨hx.1, by show x.toInt ≤ 9; omega⟩, h.1.2.2⟩) (Or.inl hx.2) (fun a ha => mm_U_ne a ha) (fun a ha => mm_U_ne a ha)
  · exact ⟨0, M1, M2, by simp only [if_neg c]; rfl, by simp only [if_neg c]; rfl, h, rl_lf_rfl⟩
theorem op_2 (x : Int32) : rl_ok (cl_2 x) (md_2 x) := by
  intro M1 M2 h
  unfold cl_2 md_2 X11_purse X12_purse
  by_cases c : X12_in x 0 9999 = true
  · have hx := rl_inI.mp c
    have c1 : ¬ x < 0 := (rl_lt.mpr hx).1
    have c2 : x ≤ 9999 := (rl_lt.mpr hx).2
    refine ⟨1, mm_U M1 4 3 x, mm_U M2 1 3 x, by simp only [if_neg c1, if_pos c2]; rfl, by simp only [if_pos c]; rfl, ?_, rl_lf_rfl⟩
    obtain ⟨s0, s1, s2, s3, s4⟩ := h.1.2
    exact rl_core_now h (rl_now_set h.1 3 x ⟨s0, s1, s2, hx, s4⟩) h.2.2.2.2.1.1 (fun a ha => mm_U_ne a ha) (fun a ha => mm_U_ne a ha)
  · refine ⟨0, M1, M2, ?_, by simp only [if_neg c]; rfl, h, rl_lf_rfl⟩
    by_cases c1 : x < 0
    · simp only [if_pos c1]; rfl
    · have c2 : ¬ x ≤ 9999 := fun c2 => c (rl_inI.mpr (rl_lt.mp ⟨c1, c2⟩))
      simp only [if_neg c1, if_neg c2]; rfl
theorem op_26 (x : Int32) : rl_ok (cl_26 x) (md_26 x) := by
  intro M1 M2 h
  unfold cl_26 md_26 X11_seed X12_seed
  by_cases c : X12_in x 0 65535 = true
  · have hx := rl_inI.mp c
    have c1 : ¬ x < 0 := (rl_lt.mpr hx).1
    have c2 : x ≤ 65535 := (rl_lt.mpr hx).2
    refine ⟨1, mm_U M1 4 7 x, mm_U M2 1 7 x, by simp only [if_neg c1, if_pos c2]; rfl, by simp only [if_pos c]; rfl, ?_, rl_lf_rfl⟩
    obtain ⟨s0, s1, s2, s3, s4, s5, s6, s7⟩ := h.1.2
    exact rl_core_now h (rl_now_set h.1 7 x ⟨s0, s1, s2, s3, s4, s5, s6, hx⟩) h.2.2.2.2.1.1 (fun a ha => mm_U_ne a ha) (fun a ha => mm_U_ne a ha)
  · refine ⟨0, M1, M2, ?_, by simp only [if_neg c]; rfl, h, rl_lf_rfl⟩
    by_cases c1 : x < 0
    · simp only [if_pos c1]; rfl
    · have c2 : ¬ x ≤ 65535 := fun c2 => c (rl_inI.mpr (rl_lt.mp ⟨c1, c2⟩))
      simp only [if_neg c1, if_neg c2]; rfl
theorem op_30 (x : Int32) (M1 M2 : mm_M) (h : rl_core M1 M2) (hl : M1 13 0 = M2 0 17) : ∃ r M1' M2', cl_30 x M1 = some (r, M1') ∧ md_30 x M2 = some (r, M2') ∧ rl_core M1' M2' ∧ rl_lf M1 M1' M2 M2' := by
  refine ⟨_, M1, M2, rfl, ?_, h, rl_lf_rfl⟩
  unfold md_30 X12_count X11_count
  have hn := h.1.1
  rw [hn 6 (by decide), h.2.2.2.1.1, hn 0 (by decide), hn 1 (by decide), hn 2 (by decide), hn 3 (by decide), hn 4 (by decide), hn 5 (by decide), hl, h.2.2.2.2.2.1, hn 7 (by decide)]
theorem op_1 (x y : Int32) : rl_ok (cl_1 x y) (md_1 x y) := by
  intro M1 M2 h
  unfold cl_1 md_1 X11_price X12_price
  rw [← rl_isq x]
  by_cases c : X11_isQuestion x = true
  · have hx := rl_isqI.mp c
    have hin : mm_in x 8 = true := e_inb hx.1 hx.2
    by_cases c3 : X12_in y 0 99 = true
    · have hy := rl_inI.mp c3
      have c1 : ¬ y < 0 := (rl_lt.mpr hy).1
      have c2 : y ≤ 99 := (rl_lt.mpr hy).2
      refine ⟨1, mm_U M1 3 (Int32.toNatClampNeg x) y, mm_U M2 4 (Int32.toNatClampNeg x) y, by simp only [if_pos c, if_neg c1, if_pos c2, if_pos hin]; rfl, by simp only [if_pos c, if_pos c3, if_pos hin]; rfl, ?_, rl_lf_rfl⟩
      refine ⟨h.1, h.2.1, fun k hk => ?_, h.2.2.2⟩
      have h2 := h.2.2.1 k hk
      rw [e_U, e_U]
      by_cases ck : k = Int32.toNatClampNeg x
      · simp only [ck, and_self, if_true]
        exact ⟨trivial, hy⟩
      · simp only [ck, and_false, if_false]
        exact h2
    · refine ⟨0, M1, M2, ?_, by simp only [if_pos c, if_neg c3]; rfl, h, rl_lf_rfl⟩
      by_cases c1 : y < 0
      · simp only [if_pos c, if_pos c1]; rfl
      · have c2 : ¬ y ≤ 99 := fun c2 => c3 (rl_inI.mpr (rl_lt.mp ⟨c1, c2⟩))
        simp only [if_pos c, if_neg c1, if_neg c2]; rfl
  · exact ⟨0, M1, M2, by simp only [if_neg c]; rfl, by simp only [if_neg c]; rfl, h, rl_lf_rfl⟩
/-- the reference's copies: eight cells -/
theorem e_copies (a b : Nat) (hab : a ≠ b) (M : mm_M) : ∃ M', X12_copies a b M = some M' ∧ (∀ k, k < 8 → M' b k = M a k) ∧ (∀ k, 8 ≤ k → M' b k = M b k) ∧ ∀ c, c ≠ b → M' c = M c := by
  unfold X12_copies
  refine e_loopF (I := fun (s : Int32 × mm_M) => ∃ i : Nat, i ≤ 8 ∧ s.1 = nI i ∧ (∀ k, k < i → s.2 b k = M a k) ∧ (∀ k, i ≤ k → s.2 b k = M b k) ∧ ∀ c, c ≠ b → s.2 c = M c) (Q := fun (M' : mm_M) => (∀ k, k < 8 → M' b k = M a k) ∧ (∀ k, 8 ≤ k → M' b k = M b k) ∧ ∀ c, c ≠ b → M' c = M c) (fun (s : Int32 × mm_M) => 8 - Int32.toNatClampNeg s.1) ?_ (0, M) ⟨0, by omega, rfl, fun k h => by omega, fun k _ => rfl, fun c _ => rfl⟩ (by omega)
  rintro ⟨x, N⟩ ⟨i, hi, rfl, h1, h2, h3⟩
  dsimp only at h1 h2 h3
  by_cases c : i = 8
  · subst c
    exact Or.inr ⟨N, rfl, h1, h2, h3⟩
  · left
    have c8 : ¬ (8 : Int32) ≤ nI i := by
      rw [e_le, e_nIt (by omega)]
      show ¬ (8 : Int) ≤ i
      omega
    have hin : mm_in (nI i) 8 = true := e_inb (by rw [e_nIt (by omega)]; omega) (by rw [e_nIt (by omega)]; omega)
    refine ⟨(nI i + 1, mm_U N b i (N a i)), ?_, ⟨i + 1, by omega, nI_1 i, fun k hk => ?_, fun k hk => ?_, fun c hc => ?_⟩, ?_⟩
    · unfold X12_copies_l2
      simp only [if_neg c8, if_pos hin, e_nIc (show i < 2147483648 by omega)]
    · show mm_U N b i (N a i) b k = M a k
      rw [e_U]
      by_cases ck : k = i
      · subst ck
        simp only [and_self, if_true]
        rw [h3 a hab]
      · simp only [ck, and_false, if_false]
        exact h1 k (by omega)
    · show mm_U N b i (N a i) b k = M b k
      rw [e_U]
      have ck : k ≠ i := by omega
      simp only [ck, and_false, if_false]
      exact h2 k (by omega)
    · show mm_U N b i (N a i) c = M c
      rw [mm_U_ne c hc]
      exact h3 c hc
    · show 8 - Int32.toNatClampNeg (nI i + 1) < 8 - Int32.toNatClampNeg (nI i)
      rw [nI_1, e_nIc (by omega), e_nIc (by omega)]
      omega
theorem e_lt8 {P : Nat → Prop} (h0 : P 0) (h1 : P 1) (h2 : P 2) (h3 : P 3) (h4 : P 4) (h5 : P 5) (h6 : P 6) (h7 : P 7) : ∀ k, k < 8 → P k := by
  intro k hk
  match k, hk with
  | 0, _ => exact h0
  | 1, _ => exact h1
  | 2, _ => exact h2
  | 3, _ => exact h3
  | 4, _ => exact h4
  | 5, _ => exact h5
  | 6, _ => exact h6
  | 7, _ => exact h7
  | k + 8, h => omega
theorem op_27 : rl_ok cl_27 md_27 := by
  intro M1 M2 h
  obtain ⟨N, e, n1, n2, n3⟩ := e_copies 1 3 (by decide) (mm_U M2 0 60 1)
  refine ⟨M1 4 6, mm_U (X6_copyFrom 5 4 M1) 0 5 1, N, rfl, ?_, ?_, ⟨⟨rfl, rfl, rfl, rfl, rfl, rfl, rfl⟩, ?_⟩⟩
  · unfold md_27 X12_keep
    rw [e]
    show some (N 1 6, N) = some (M1 4 6, N)
    rw [n3 1 (by decide)]
    show some (M2 1 6, N) = _
    rw [h.1.1 6 (by decide)]
  · obtain ⟨hn, hk, hp, hv, hin, ht⟩ := h
    have b0 := n3 0 (by decide); have b1 := n3 1 (by decide); have b4 := n3 4 (by decide); have b5 := n3 5 (by decide); have b6 := n3 6 (by decide); have b7 := n3 7 (by decide)
    refine ⟨?_, ⟨?_, fun _ => ⟨?_, hn.2⟩⟩, ?_, ?_, hin, ?_⟩
    · unfold rl_now at *
      rw [b1]
      exact hn
    · rw [b0]
      rfl
    · refine e_lt8 ?_ ?_ ?_ ?_ ?_ ?_ ?_ ?_
      all_goals rw [n1 _ (by decide)]
      · exact hn.1 0 (by decide)
      · exact hn.1 1 (by decide)
      · exact hn.1 2 (by decide)
      · exact hn.1 3 (by decide)
      · exact hn.1 4 (by decide)
      · exact hn.1 5 (by decide)
      · exact hn.1 6 (by decide)
      · exact hn.1 7 (by decide)
    · unfold rl_price at *
      rw [b4]
      exact hp
    · unfold rl_val at *
      rw [b0, b5, b6]
      exact hv
    · unfold rl_tape at *
      rw [b0, b7]
      exact ht
  · rw [n3 0 (by decide), n3 14 (by decide), n3 15 (by decide), n3 16 (by decide), n3 17 (by decide), n3 18 (by decide)]
    exact ⟨rfl, rfl, rfl, rfl, rfl, rfl⟩
theorem op_28 : rl_ok cl_28 md_28 := by
  intro M1 M2 h
  obtain ⟨hn, hk, hp, hv, hin, ht⟩ := id h
  unfold cl_28 md_28 X11_undo X12_undo
  by_cases c : M1 0 5 = 0
  · have c2 : M2 0 60 = 0 := by rw [← hk.1]; exact c
    exact ⟨0, M1, M2, by simp only [if_pos c]; rfl, by simp only [if_pos c2]; rfl, h, rl_lf_rfl⟩
  · have c2 : ¬ M2 0 60 = 0 := by rw [← hk.1]; exact c
    obtain ⟨k1, k2⟩ := hk.2 c
    obtain ⟨N, e, n1, n2, n3⟩ := e_copies 3 1 (by decide) M2
    have hN : ∀ k, k < 8 → (X6_copyFrom 4 5 M1) 4 k = N 1 k := by
      refine e_lt8 ?_ ?_ ?_ ?_ ?_ ?_ ?_ ?_
      all_goals rw [n1 _ (by decide)]
      · exact k1 0 (by decide)
      · exact k1 1 (by decide)
      · exact k1 2 (by decide)
      · exact k1 3 (by decide)
      · exact k1 4 (by decide)
      · exact k1 5 (by decide)
      · exact k1 6 (by decide)
      · exact k1 7 (by decide)
    have hvN : rl_val (X6_copyFrom 4 5 M1) N := by
      unfold rl_val at *
      rw [n3 0 (by decide), n3 5 (by decide), n3 6 (by decide)]
      exact hv
    have hnow : rl_now (X6_copyFrom 4 5 M1) N := ⟨hN, k2⟩
    have fr : ∀ a, a ≠ 4 → X6_copyFrom 4 5 M1 a = M1 a := by
      intro a ha
      unfold X6_copyFrom
      simp only [mm_U_ne a ha]
    have hs0 : N 1 0 = (X6_copyFrom 4 5 M1) 4 0 := (hN 0 (by decide)).symm
    have lf : rl_lf M1 (X6_copyFrom 4 5 M1) M2 N := ⟨⟨rfl, rfl, rfl, rfl, rfl, rfl, rfl⟩, by rw [n3 0 (by decide), n3 14 (by decide), n3 15 (by decide), n3 16 (by decide), n3 17 (by decide), n3 18 (by decide)]; exact ⟨rfl, rfl, rfl, rfl, rfl, rfl⟩⟩
    by_cases c3 : X8_has 7 ((X6_copyFrom 4 5 M1) 4 0) (X6_copyFrom 4 5 M1) = true
    · have c4 : X12_isState (N 1 0) N = true := by rw [hs0, ← rl_has hvN]; exact c3
      refine ⟨1, X6_copyFrom 4 5 M1, N, ?_, ?_, rl_core_now h hnow (Or.inl (rl_hasI.mp c3).2) fr n3, lf⟩
      · simp only [if_neg c, mm_let, if_pos c3]; rfl
      · simp only [if_neg c2, e, Option.bind_some, if_pos c4]; rfl
    · have c4 : ¬ X12_isState (N 1 0) N = true := by rw [hs0, ← rl_has hvN]; exact c3
      refine ⟨1, mm_U (X6_copyFrom 4 5 M1) 4 0 0, mm_U N 1 0 0, ?_, ?_, rl_core_now h (rl_now_set hnow 0 0 ⟨show rl_r 0 0 9 from ⟨by decide, by decide⟩, k2.2⟩) (Or.inr rfl) (fun a ha => by rw [mm_U_ne a ha]; exact fr a ha) (fun a ha => by rw [mm_U_ne a ha]; exact n3 a ha), lf⟩
      · simp only [if_neg c, mm_let, if_neg c3]; rfl
      · simp only [if_neg c2, e, Option.bind_some, if_neg c4]; rfl
