/-! THE CLASS ALONE: every call ends and keeps I1 -/
def V1 (M : mm_M) : Prop := rl_st M 4 ∧ (¬ M 0 5 = 0 → rl_st M 5) ∧ (∀ k, k < 8 → rl_r (M 3 k) 0 99) ∧ (((M 7 0).toInt = 0 ∨ rl_r (M 7 0) 2 10) ∧ ∀ i, i < 80 → rl_r (M 8 i) 0 9 ∧ rl_r (M 9 i) 0 9) ∧ rl_in M ∧ (rl_r (M 1 1) 0 260 ∧ ∀ i : Nat, (i : Int) < (M 1 1).toInt → rl_r (M 2 i) 0 255)
def I1 (M : mm_M) : Prop := V1 M ∧ (∀ k, k < 8 → M 32 k = 1) ∧ lI M
theorem V1_core {M1 M2 : mm_M} (h : rl_core M1 M2) : V1 M1 := by
  obtain ⟨hn, hk, hp, hv, hin, ht⟩ := h
  exact ⟨hn.2, fun c => (hk.2 c).2, fun k h => (hp k h).2, ⟨hv.2.1, fun i h => (hv.2.2 i h).2.2⟩, hin, ht.2.1, fun i h => (ht.2.2 i h).2⟩
/-- the reference's memory beside a memory of the class -/
def mate1 (M : mm_M) : mm_M := fun a k => match a with
  | 0 => if k = 6 then M 7 0 else if k = 8 then M 1 1 else if k = 60 then M 0 5 else if k = 17 then M 13 0 else 0
  | 1 => M 4 k
  | 3 => M 5 k
  | 4 => M 3 k
  | 5 => M 8 k
  | 6 => M 9 k
  | 7 => M 2 k
  | _ => 0
theorem e_low8 {v : Int32} (h : rl_r v 0 255) : v &&& 255 = v := by
  obtain ⟨h0, h1⟩ := h
  have k : ∀ j : Nat, j < 256 → nI j &&& 255 = nI j := by decide +kernel
  rw [e_nI h0]
  exact k _ (by have := e_cl h0; omega)
theorem core_V1 {M : mm_M} (h : V1 M) : rl_core M (mate1 M) := by
  obtain ⟨hn, hk, hp, hv, hin, ht⟩ := h
  exact ⟨⟨fun k _ => rfl, hn⟩, ⟨rfl, fun c => ⟨fun k _ => rfl, hk c⟩⟩, fun k h => ⟨rfl, hp k h⟩, ⟨rfl, hv.1, fun i h => ⟨rfl, rfl, hv.2 i h⟩⟩, hin, ⟨rfl, ht.1, fun i h => ⟨(e_low8 (ht.2 i h)).symm, ht.2 i h⟩⟩⟩
theorem lf_I1 {M1 M1' M2 M2' : mm_M} (h : I1 M1) (hc : rl_core M1' M2') (hl : rl_lf M1 M1' M2 M2') : I1 M1' := by
  obtain ⟨⟨-, l4, -, -, -, -, l7⟩, -⟩ := hl
  obtain ⟨l18, l32⟩ := Prod.mk.inj l7
  refine ⟨V1_core hc, ?_, ?_⟩
  · rw [l32]; exact h.2.1
  · unfold lI
    rw [l4, l18]
    exact h.2.2
theorem c_of {c m : mm_M → Option (Int32 × mm_M)} (h : rl_ok c m) {M : mm_M} (hM : I1 M) : ok (c M) (fun r => I1 r.2) := by
  obtain ⟨r, M1', M2', a, b, hc, hl⟩ := h M (mate1 M) (core_V1 hM.1)
  exact ⟨_, a, lf_I1 hM hc hl⟩
theorem c_ofP {c m : mm_M → Option (Int32 × mm_M)} (h : rl_okP rl_ones c m) {M : mm_M} (hM : I1 M) : ok (c M) (fun r => I1 r.2) := by
  obtain ⟨r, M1', M2', a, b, hc, hl⟩ := h M (mate1 M) (core_V1 hM.1) hM.2.1
  exact ⟨_, a, lf_I1 hM hc hl⟩
/-- cells that I1 does not speak of -/
theorem I1_fr {M M' : mm_M} (h : I1 M) (h0 : M' 0 5 = M 0 5) (h1 : M' 1 1 = M 1 1 ∨ M' 1 1 = 0) (h2 : M' 2 = M 2) (h3 : M' 3 = M 3) (h4 : M' 4 = M 4) (h5 : M' 5 = M 5) (h7 : M' 7 = M 7) (h8 : M' 8 = M 8) (h9 : M' 9 = M 9) (h32 : M' 32 = M 32) (hl : lI M') : I1 M' := by
  obtain ⟨⟨a, b, c, d, e, f, g⟩, o, -⟩ := h
  refine ⟨⟨?_, ?_, ?_, ?_, ?_, ?_, ?_⟩, ?_, hl⟩
  · unfold rl_st; rw [h4]; exact a
  · unfold rl_st; rw [h0, h5]; exact b
  · rw [h3]; exact c
  · rw [h7, h8, h9]; exact d
  · unfold rl_in; rw [h4, h7, h9]; exact e
  · rcases h1 with h | h
    · rw [h]; exact f
    · rw [h]; exact ⟨by decide, by decide⟩
  · intro i hi
    rcases h1 with h | h
    · rw [h] at hi; rw [h2]; exact g i hi
    · exfalso
      rw [h] at hi
      have : (0 : Int32).toInt = 0 := rfl
      omega
  · rw [h32]; exact o
theorem I1_val {M : mm_M} (h : I1 M) : valI M := ⟨h.1.2.2.2.1.1, h.1.2.2.2.1.2, h.1.2.2.2.2.1.2⟩
theorem c_4 (x : Int32) {M : mm_M} (h : I1 M) : ok (cl_4 x M) (fun r => I1 r.2) := by
  unfold cl_4 X11_law
  refine ok_m (fun y => I1 (if y.2.2 = true then fun a => y.2.1 (mm_tl a) else y.2.1)) ?_ (fun r hr => hr)
  refine ok_i (fun _ => ?_) (fun _ => ok_s h)
  refine ok_b (fun N => fr [1] M N) (op_in (I := fr [1] M) (fun _ _ _ h => fr_U h (by decide)) fr_rfl) (fun N hN => ok_b _ (wI_read (M := N)) (fun r hr => ok_l ?_))
  have hf : fr [1, 20, 21, 22, 23, 24, 25] M (X7_clear r.2) := fun b hb => by
    unfold X7_clear
    simp only [List.mem_cons, not_or] at hb
    rw [mm_U_ne b hb.1, hr.1 b (by simp [hb])]
    exact hN b (by simp [hb.1])
  have h11 : (X7_clear r.2) 1 1 = 0 := mm_U_same
  have hd : dI (X7_clear r.2) := hr.2
  generalize X7_clear r.2 = B at hf h11 hd
  have e : ∀ b, b ∉ [1, 20, 21, 22, 23, 24, 25] → B b = M b := hf
  refine ok_i (fun _ => ok_s ?_) (fun _ => ok_s ?_)
  · refine I1_fr h ?_ (Or.inr h11) ?_ ?_ ?_ ?_ ?_ ?_ ?_ ?_ ?_
    · show B 0 5 = M 0 5
      rw [e 0 (by decide)]
    · exact e 2 (by decide)
    · exact e 3 (by decide)
    · exact e 4 (by decide)
    · exact e 5 (by decide)
    · exact e 7 (by decide)
    · exact e 8 (by decide)
    · exact e 9 (by decide)
    · exact e 32 (by decide)
    · exact hd.2.2
  · refine I1_fr h ?_ (Or.inr h11) ?_ ?_ ?_ ?_ ?_ ?_ ?_ ?_ ?_
    · show B 0 5 = M 0 5
      rw [e 0 (by decide)]
    · exact e 2 (by decide)
    · exact e 3 (by decide)
    · exact e 4 (by decide)
    · exact e 5 (by decide)
    · exact e 7 (by decide)
    · exact e 8 (by decide)
    · exact e 9 (by decide)
    · exact e 32 (by decide)
    · show lI B
      unfold lI
      rw [e 13 (by decide), e 18 (by decide)]
      exact h.2.2
theorem c_5 (x : Int32) {M : mm_M} (h : I1 M) : ok (cl_5 x M) (fun r => I1 r.2) := by
  unfold cl_5 X11_valley
  refine ok_m (fun y => I1 (if y.2.2 = true then fun a => y.2.1 (mm_tv a) else y.2.1)) ?_ (fun r hr => hr)
  refine ok_i (fun _ => ?_) (fun _ => ok_s h)
  refine ok_b (fun N => fr [1] M N ∧ N 1 2 = 0) ?_ (fun N hN => ok_b _ (vr_fault (M0 := N) hN.2) (fun r hr => ok_l ?_))
  · unfold X7_open
    refine ok_b (fun _ => True) ?_ (fun y _ => ok_s ⟨fr_U (fr_U (fr_U (fr_U fr_rfl (by decide)) (by decide)) (by decide)) (by decide), rfl⟩)
    unfold X7_byteAt
    refine ok_i (fun _ => ok_s trivial) (fun _ => ok_i (fun _ => ok_s trivial) (fun _ => ok_i (fun _ => ok_s trivial) (fun c => absurd (by decide) c)))
  obtain ⟨hw, hn⟩ := hr
  have hf : fr [1, 10, 11, 12] M (X7_clear r.2) := fun b hb => by
    unfold X7_clear
    simp only [List.mem_cons, not_or] at hb
    rw [mm_U_ne b hb.1, hw.1 b (by simp [hb])]
    exact hN.1 b (by simp [hb.1])
  have h11 : (X7_clear r.2) 1 1 = 0 := mm_U_same
  have hn2 : (X7_clear r.2) 1 5 = 0 → vNx (X7_clear r.2) := hn
  have hv : vI (X7_clear r.2) := hw.2
  generalize X7_clear r.2 = B at hf h11 hn2 hv
  have e : ∀ b, b ∉ [1, 10, 11, 12] → B b = M b := hf
  refine ok_i (fun c => ok_s ?_) (fun _ => ok_s ?_)
  · have hnx := hn2 c
    obtain ⟨⟨a, b, cc, d, ee, f, g⟩, o, l⟩ := h
    refine ⟨⟨?_, ?_, ?_, ?_, ?_, ?_, ?_⟩, ?_, ?_⟩
    · show rl_st (mm_U (mm_U (mm_U B 4 0 0) 4 1 0) 4 2 8) 4
      have g4 : ∀ j : Nat, (mm_U (mm_U (mm_U B 4 0 0) 4 1 0) 4 2 8) 4 j = if j = 2 then 8 else if j = 1 then 0 else if j = 0 then 0 else M 4 j := by
        intro j
        simp only [e_U, true_and, e 4 (by decide)]
      unfold rl_st
      simp only [g4]
      obtain ⟨s0, s1, s2, s3, s4, s5, s6, s7⟩ := a
      exact ⟨show rl_r 0 0 9 from ⟨by decide, by decide⟩, show rl_r 0 0 9 from ⟨by decide, by decide⟩, show rl_r 8 0 8 from ⟨by decide, by decide⟩, s3, s4, s5, s6, s7⟩
    · show ¬ B 0 5 = 0 → rl_st B 5
      unfold rl_st
      rw [e 0 (by decide), e 5 (by decide)]
      exact b
    · show ∀ k, k < 8 → rl_r (B 3 k) 0 99
      rw [e 3 (by decide)]
      exact cc
    · show ((B 10 0).toInt = 0 ∨ rl_r (B 10 0) 2 10) ∧ ∀ i, i < 80 → rl_r (B 11 i) 0 9 ∧ rl_r (B 12 i) 0 9
      exact ⟨Or.inr hnx.1, hv⟩
    · show ((0 : Int32).toInt < (B 10 0).toInt ∨ (0 : Int32).toInt = 0) ∧ ∀ q s : Nat, q < 8 → (s : Int) < (B 10 0).toInt → (B 12 (10 * q + s)).toInt < (B 10 0).toInt
      exact ⟨Or.inr rfl, hnx.2⟩
    · show rl_r (B 1 1) 0 260
      rw [h11]
      exact ⟨by decide, by decide⟩
    · intro i hi
      exfalso
      have hi : (i : Int) < (B 1 1).toInt := hi
      rw [h11] at hi
      have : (0 : Int32).toInt = 0 := rfl
      omega
    · show ∀ k, k < 8 → B 32 k = 1
      rw [e 32 (by decide)]
      exact o
    · show lI B
      unfold lI
      rw [e 13 (by decide), e 18 (by decide)]
      exact l
  · refine I1_fr h ?_ (Or.inr h11) ?_ ?_ ?_ ?_ ?_ ?_ ?_ ?_ ?_
    · show B 0 5 = M 0 5
      rw [e 0 (by decide)]
    · exact e 2 (by decide)
    · exact e 3 (by decide)
    · exact e 4 (by decide)
    · exact e 5 (by decide)
    · exact e 7 (by decide)
    · exact e 8 (by decide)
    · exact e 9 (by decide)
    · exact e 32 (by decide)
    · show lI B
      unfold lI
      rw [e 13 (by decide), e 18 (by decide)]
      exact h.2.2
theorem c_6 (x : Int32) {M : mm_M} (h : I1 M) : ok (cl_6 x M) (fun r => I1 r.2) := by
  have k40 : (40 : Int32).toInt = 40 := rfl
  unfold cl_6 X11_census
  refine ok_m (fun y => I1 y.2) ?_ (fun r hr => hr)
  refine ok_i (fun _ => ok_i (fun ct => ok_b _ (rr_in (M := M) (x := x)) (fun r hr => ?_)) (fun _ => ok_s h)) (fun _ => ok_s h)
  have h7 : ¬ (M 7 0).toInt = 0 := by
    intro z
    unfold X8_isTold at ct
    rw [if_pos (by rw [e_le]; have : (0 : Int32).toInt = 0 := rfl; omega)] at ct
    cases ct
  obtain ⟨⟨hf, hR⟩, h11⟩ := hr
  have e : ∀ b, b ∉ [1, 27, 28] → r.2 b = M b := hf
  have hI : I1 r.2 := by
    refine I1_fr h ?_ (Or.inr h11) (e 2 (by decide)) (e 3 (by decide)) (e 4 (by decide)) (e 5 (by decide)) (e 7 (by decide)) (e 8 (by decide)) (e 9 (by decide)) (e 32 (by decide)) ?_
    · rw [e 0 (by decide)]
    · unfold lI
      rw [e 13 (by decide), e 18 (by decide)]
      exact h.2.2
  have h72 : ¬ (r.2 7 0).toInt = 0 := by rw [e 7 (by decide)]; exact h7
  refine ok_i (fun _ => ?_) (fun _ => ok_s hI)
  refine ok_lp (fun s : Int32 × mm_M => I1 s.2 ∧ rI s.2 ∧ ¬ (s.2 7 0).toInt = 0 ∧ 0 ≤ s.1.toInt ∧ s.1.toInt ≤ 40) (fun s => (40 - s.1.toInt).toNat) _ ⟨hI, hR, h72, by show 0 ≤ (0 : Int32).toInt; decide, by show (0 : Int32).toInt ≤ 40; decide⟩ (by show ((40 : Int) - (0 : Int32).toInt).toNat < 4000000000; decide) ?_
  rintro ⟨i, N⟩ ⟨hN, hr, h7N, hi0, hi1⟩
  dsimp only at hN hr h7N hi0 hi1
  unfold X11_census_l36
  refine ok_i (fun _ => ok_s hN) (fun c => ok_l (ok_s ?_))
  dsimp only at c ⊢
  rw [e_le] at c
  have := hr.1.2
  have ei : (i + 1).toInt = i.toInt + 1 := e_inc hi0 hi1 (by omega)
  obtain ⟨q0, q1⟩ := rt_in hr hi0 (by omega)
  obtain ⟨a1, a2, a3, a4⟩ := ask_in 4 (Or.inl rfl) (I1_val hN) ⟨hN.1.1, hN.1.2.2.2.2.1.1⟩ h7N q0 (show (X4_at i N).toInt < 8 by omega)
  generalize X6_ask 4 (X4_at i N) N = K at a1 a2
  have ek : ∀ b, b ∉ [4] → K b = N b := a1
  refine ⟨⟨?_, ?_, ?_, by first | omega | (dsimp only; omega), by first | omega | (dsimp only; omega)⟩, by first | omega | (dsimp only; omega)⟩
  · show I1 K
    obtain ⟨⟨a, b, cc, d, ee, f, g⟩, o, l⟩ := hN
    refine ⟨⟨a2.1, ?_, ?_, ?_, ⟨?_, ?_⟩, ?_, ?_⟩, ?_, ?_⟩
    · unfold rl_st
      rw [ek 0 (by decide), ek 5 (by decide)]
      exact b
    · rw [ek 3 (by decide)]; exact cc
    · rw [ek 7 (by decide), ek 8 (by decide), ek 9 (by decide)]; exact d
    · exact a2.2
    · rw [ek 7 (by decide), ek 9 (by decide)]; exact ee.2
    · rw [ek 1 (by decide)]; exact f
    · rw [ek 1 (by decide), ek 2 (by decide)]; exact g
    · rw [ek 32 (by decide)]; exact o
    · unfold lI
      rw [ek 13 (by decide), ek 18 (by decide)]
      exact l
  · show rI K
    unfold rI
    rw [ek 27 (by decide), ek 28 (by decide)]
    exact hr
  · show ¬ (K 7 0).toInt = 0
    rw [ek 7 (by decide)]; exact h7N
theorem c_7 (x y : Int32) {M : mm_M} (h : I1 M) : ok (cl_7 x y M) (fun r => I1 r.2) := by
  have k0 : (0 : Int32).toInt = 0 := rfl
  have k40 : (40 : Int32).toInt = 40 := rfl
  have k100 : (100 : Int32).toInt = 100 := rfl
  have k1 : (1 : Int32).toInt = 1 := rfl
  unfold cl_7
  refine ok_m (fun y => I1 y.2) ?_ (fun r hr => hr)
  have j27 : ∀ b : Bool, ok (X11_look_j27 x y b M) (fun r => I1 r.2) := by
    intro b
    unfold X11_look_j27
    refine ok_i (fun _ => ok_i (fun _ => ok_i (fun ct => ok_b _ (rr_in (M := M) (x := x)) (fun r hr => ?_)) (fun _ => ok_s h)) (fun _ => ok_s h)) (fun _ => ok_s h)
    obtain ⟨⟨hf, hR⟩, h11⟩ := hr
    have e : ∀ b, b ∉ [1, 27, 28] → r.2 b = M b := hf
    have hI : I1 r.2 := by
      refine I1_fr h ?_ (Or.inr h11) (e 2 (by decide)) (e 3 (by decide)) (e 4 (by decide)) (e 5 (by decide)) (e 7 (by decide)) (e 8 (by decide)) (e 9 (by decide)) (e 32 (by decide)) ?_
      · rw [e 0 (by decide)]
      · unfold lI
        rw [e 13 (by decide), e 18 (by decide)]
        exact h.2.2
    have along : ok (X11_lookAlong y r.2) (fun _ => True) := by
      have j37 : ∀ n x2 x3 x4 x5 : Int32, ok (X11_lookAlong_j37 y x2 x3 x4 x5 n r.2) (fun _ => True) := by
        intro n x2 x3 x4 x5
        unfold X11_lookAlong_j37
        refine ok_b (fun _ => True) ?_ (fun r _ => ok_i (fun _ => ok_s trivial) (fun _ => ok_i (fun _ => ok_s trivial) (fun _ => ok_i (fun _ => ok_s trivial) (fun _ => ok_i (fun _ => ok_s trivial) (fun _ => ok_s trivial)))))
        refine ok_lp (fun s : Int32 × Int32 × Int32 × Int32 × Int32 => 0 ≤ s.2.2.2.2.toInt) (fun s => (2147483647 - s.2.2.2.2.toInt).toNat) _ (by show 0 ≤ (0 : Int32).toInt; decide) (by show ((2147483647 : Int) - (0 : Int32).toInt).toNat < 4000000000; decide) ?_
        rintro ⟨s1, s2, s3, s4, i⟩ hi0
        dsimp only at hi0
        unfold X11_lookAlong_l42
        refine ok_i (fun _ => ok_s trivial) (fun c => ok_s ?_)
        dsimp only at c ⊢
        rw [e_le] at c
        have := e_rng n
        have ei : (i + 1).toInt = i.toInt + 1 := e_inc (b := 2147483646) hi0 (by omega) (by omega)
        exact ⟨by first | omega | (dsimp only; omega), by first | omega | (dsimp only; omega)⟩
      unfold X11_lookAlong
      exact ok_i (fun _ => j37 _ _ _ _ _) (fun _ => j37 _ _ _ _ _)
    exact ok_i (fun _ => ok_i (fun _ => ok_b _ along (fun _ _ => ok_s hI)) (fun _ => ok_i (fun _ => ok_b _ along (fun _ _ => ok_s hI)) (fun _ => ok_s hI))) (fun _ => ok_s hI)
  unfold X11_look X11_look_j10 X11_look_j22 X11_look_j26
  exact ok_i (fun _ => ok_i (fun _ => j27 _) (fun _ => ok_i (fun _ => j27 _) (fun _ => j27 _))) (fun _ => ok_i (fun _ => j27 _) (fun _ => ok_i (fun _ => j27 _) (fun _ => ok_i (fun _ => j27 _) (fun _ => j27 _))))
theorem c_8 (x : Int32) {M : mm_M} (h : I1 M) : ok (cl_8 x M) (fun r => I1 r.2) := by
  have k100 : (100 : Int32).toInt = 100 := rfl
  unfold cl_8 X11_days
  refine ok_m (fun y => I1 y.2) ?_ (fun r hr => hr)
  refine ok_i (fun _ => ok_s h) (fun _ => ok_i (fun c => ok_b _ (go_in (M0 := M) 4 (Or.inl rfl) (I1_val h) ⟨h.1.1, h.1.2.2.2.2.1.1⟩ h.2.2 h.1.2.2.1 (x := x) (by rw [e_le] at c; omega)) (fun N hN => ok_s ?_)) (fun _ => ok_s h))
  obtain ⟨⟨hf, hs, hk⟩, -⟩ := hN
  have e : ∀ b, b ∉ [4, 13, 19, 29, 30] → N b = M b := hf
  obtain ⟨⟨a, b, cc, d, ee, f, g⟩, o, l⟩ := h
  show I1 N
  refine ⟨⟨hs.1, ?_, ?_, ?_, ⟨?_, ?_⟩, ?_, ?_⟩, ?_, ?_⟩
  · unfold rl_st
    rw [e 0 (by decide), e 5 (by decide)]
    exact b
  · rw [e 3 (by decide)]; exact cc
  · rw [e 7 (by decide), e 8 (by decide), e 9 (by decide)]; exact d
  · exact hs.2
  · rw [e 7 (by decide), e 9 (by decide)]; exact ee.2
  · rw [e 1 (by decide)]; exact f
  · rw [e 1 (by decide), e 2 (by decide)]; exact g
  · rw [e 32 (by decide)]; exact o
  · unfold lI
    rw [hk 4 (by decide) (by decide), e 18 (by decide)]
    exact l
theorem c_9 (x y : Int32) {M : mm_M} (h : I1 M) : ok (cl_9 x y M) (fun r => I1 r.2) := by
  have k100 : (100 : Int32).toInt = 100 := rfl
  unfold cl_9 X11_tried
  refine ok_m (fun y => I1 y.2) ?_ (fun r hr => hr)
  refine ok_i (fun _ => ok_s h) (fun _ => ok_i (fun _ => ok_s h) (fun c => ok_i (fun _ => ok_s h) (fun _ => ok_i (fun _ => ok_l ?_) (fun _ => ok_s h))))
  have hc : ∀ b, b ≠ 6 → X6_copyFrom 6 4 M b = M b := by
    intro b hb
    unfold X6_copyFrom
    simp only [mm_U_ne b hb]
  have h6 : ∀ k, k < 8 → X6_copyFrom 6 4 M 6 k = M 4 k := e_lt8 rfl rfl rfl rfl rfl rfl rfl rfl
  generalize X6_copyFrom 6 4 M = C at hc h6
  have hv : valI C := by
    unfold valI
    rw [hc 7 (by decide), hc 8 (by decide), hc 9 (by decide)]
    exact I1_val h
  have hs : sJ C 6 := by
    unfold sJ rl_st
    rw [h6 0 (by decide), h6 1 (by decide), h6 2 (by decide), h6 3 (by decide), h6 4 (by decide), h6 5 (by decide), h6 6 (by decide), h6 7 (by decide), hc 7 (by decide)]
    exact ⟨h.1.1, h.1.2.2.2.2.1.1⟩
  have hl : lI C := by
    unfold lI
    rw [hc 13 (by decide), hc 18 (by decide)]
    exact h.2.2
  have hp : ∀ k, k < 8 → rl_r (C 3 k) 0 99 := by
    rw [hc 3 (by decide)]
    exact h.1.2.2.1
  refine ok_b _ (go_in (M0 := C) 6 (Or.inr rfl) hv hs hl hp (x := x) (by rw [e_lt] at c; omega)) (fun N hN => ?_)
  obtain ⟨⟨hf, -, hk⟩, -⟩ := hN
  have e : ∀ b, b ∉ [6, 13, 19, 29, 30] → N b = M b := fun b hb => (hf b hb).trans (hc b (by intro z; subst z; simp at hb))
  have hI : I1 N := by
    refine I1_fr h ?_ (Or.inl ?_) (e 2 (by decide)) (e 3 (by decide)) (e 4 (by decide)) (e 5 (by decide)) (e 7 (by decide)) (e 8 (by decide)) (e 9 (by decide)) (e 32 (by decide)) ?_
    · rw [e 0 (by decide)]
    · rw [e 1 (by decide)]
    · unfold lI
      rw [hk 4 (by decide) (by decide), e 18 (by decide), hc 13 (by decide)]
      exact h.2.2
  exact ok_i (fun _ => ok_s hI) (fun _ => ok_i (fun _ => ok_s hI) (fun _ => ok_i (fun _ => ok_s hI) (fun _ => ok_i (fun _ => ok_s hI) (fun _ => ok_i (fun _ => ok_s hI) (fun _ => ok_s hI)))))
