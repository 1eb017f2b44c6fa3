/-! THE CLASS READS A VALLEY -/
/-- the draft: answers and states behind are digits; where a state of it leads is one of its states -/
def vI (M : mm_M) : Prop := ∀ i, i < 80 → rl_r (M 11 i) 0 9 ∧ rl_r (M 12 i) 0 9
def vNx (M : mm_M) : Prop := rl_r (M 10 0) 2 10 ∧ ∀ q s : Nat, q < 8 → (s : Int) < (M 10 0).toInt → (M 12 (10 * q + s)).toInt < (M 10 0).toInt
def vW (M0 M : mm_M) : Prop := fr [1, 10, 11, 12] M0 M ∧ vI M
def vX (M0 M : mm_M) : Prop := vW M0 M ∧ vNx M
theorem vW_1 {M0 : mm_M} : in1 (vW M0) := fun _ _ _ h => ⟨fr_U h.1 (by decide), h.2⟩
theorem vX_1 {M0 : mm_M} : in1 (vX M0) := fun _ _ _ h => ⟨vW_1 _ _ _ h.1, h.2⟩
theorem vst {M0 M : mm_M} (h : vX M0 M) : vX M0 (X7_step M) := st_in vX_1 h
theorem vfl {M0 M : mm_M} {x y : Int32} (h : vX M0 M) : vX M0 (X7_fail x y M).2 := fl_in vX_1 h
theorem vtk {M0 M : mm_M} {x : Int32} (h : vX M0 M) : vX M0 (X7_take x M).2 := tk_in vX_1 h
/-- cleared: where a state stays -/
def vC (M : mm_M) : Prop := ∀ q s : Nat, q < 8 → s < 10 → (M 12 (10 * q + s)).toInt = s
theorem vC_1 : in1 vC := fun _ _ _ h => h
theorem e_mod10 {i : Nat} (h : i < 80) : (nI i - nI i / 10 * 10).toInt = ((i % 10 : Nat) : Int) := by
  have k : ∀ j : Nat, j < 80 → (nI j - nI j / 10 * 10).toInt = ((j % 10 : Nat) : Int) := by decide +kernel
  exact k i h
theorem cl_in (M0 : mm_M) : ok (X8_clear M0) (fun M => vW M0 M ∧ vC M ∧ M 1 = M0 1) := by
  have k80 : (80 : Int32).toInt = 80 := rfl
  unfold X8_clear
  refine ok_lp (fun s : Int32 × mm_M => ∃ i : Nat, i ≤ 80 ∧ s.1 = nI i ∧ fr [10, 11, 12] M0 s.2 ∧ ∀ j, j < i → s.2 11 j = 0 ∧ s.2 12 j = nI j - nI j / 10 * 10) (fun s => 80 - Int32.toNatClampNeg s.1) _ ⟨0, by omega, nI_0.symm, fr_U fr_rfl (by decide), fun j hj => by omega⟩ (by omega) ?_
  rintro ⟨x, N⟩ ⟨i, hi, hx, hf, hj⟩
  dsimp only at hx hf hj
  subst hx
  unfold X8_clear_l7
  refine ok_i (fun c => ok_s ?_) (fun c => ?_)
  · dsimp only at c
    rw [e_le, e_nIt (by omega)] at c
    have hi80 : i = 80 := by omega
    subst hi80
    refine ⟨⟨fun b hb => hf b (fun z => hb (List.mem_cons_of_mem _ z)), fun j h => ?_⟩, fun q s hq hs => ?_, hf 1 (by decide)⟩
    · obtain ⟨a, b⟩ := hj j h
      have := e_mod10 h
      refine ⟨by dsimp only; rw [a]; exact ⟨by decide, by decide⟩, ?_⟩
      dsimp only
      rw [b]
      unfold rl_r
      omega
    · have h8 : 10 * q + s < 80 := by omega
      dsimp only
      rw [(hj _ h8).2, e_mod10 h8]
      omega
  · dsimp only at c
    rw [e_le, e_nIt (by omega)] at c
    have hin : mm_in (nI i) 80 = true := e_inb (by rw [e_nIt (by omega)]; omega) (by rw [e_nIt (by omega)]; omega)
    refine ok_i (fun _ => ok_i (fun _ => ok_s ?_) (fun z => absurd hin z)) (fun z => absurd hin z)
    dsimp only
    refine ⟨⟨i + 1, by omega, nI_1 i, fr_U (fr_U hf (by decide)) (by decide), fun j h => ?_⟩, ?_⟩
    · dsimp only
      rw [e_nIc (by omega), mm_U_ne 11 (by decide), e_U, e_U]
      by_cases cj : j = i
      · subst cj
        rw [if_pos ⟨rfl, rfl⟩, if_pos ⟨rfl, rfl⟩]
        exact ⟨rfl, rfl⟩
      · rw [if_neg (fun z => cj z.2), if_neg (fun z => cj z.2), mm_U_ne 12 (by decide)]
        exact hj j (by omega)
    · show 80 - Int32.toNatClampNeg (nI i + 1) < 80 - Int32.toNatClampNeg (nI i)
      rw [nI_1, e_nIc (by omega), e_nIc (by omega)]
      omega
theorem rs_in {M0 M : mm_M} (h : vW M0 M ∧ vC M) (h2 : M 1 2 = 0) : vW M0 (X9_readStates M).2 ∧ ((X9_readStates M).1 = true → vNx (X9_readStates M).2) ∧ ((X9_readStates M).1 = false → ¬ (X9_readStates M).2 1 5 = 0) := by
  have k2 : (2 : Int32).toInt = 2 := rfl
  have k10 : (10 : Int32).toInt = 10 := rfl
  have hb : in1 (fun M => vW M0 M ∧ vC M) := fun _ _ _ h => ⟨vW_1 _ _ _ h.1, vC_1 _ _ _ h.2⟩
  have st2 : ∀ N : mm_M, (X7_step N) 1 2 = N 1 2 + 1 := by
    intro N
    unfold X7_step
    repeat' split
    all_goals rfl
  have hf : ∀ (a b : Int32) (N : mm_M), (vW M0 N ∧ vC N) → ¬ (((-1000) : Int32) * a) - b = 0 → vW M0 (X7_fail a b N).2 ∧ ((X7_fail a b N).1 = true → vNx (X7_fail a b N).2) ∧ ((X7_fail a b N).1 = false → ¬ (X7_fail a b N).2 1 5 = 0) := fun a b N hN hz => ⟨vW_1 _ _ _ hN.1, (fun z => by cases z), fun _ => hz⟩
  have j53 : ∀ (z : Int32) (N : mm_M), (vW M0 N ∧ vC N) → (N 1 2 = 1 ∨ N 1 2 = 2) → vW M0 (X9_readStates_j53 z N).2 ∧ ((X9_readStates_j53 z N).1 = true → vNx (X9_readStates_j53 z N).2) ∧ ((X9_readStates_j53 z N).1 = false → ¬ (X9_readStates_j53 z N).2 1 5 = 0) := by
    intro z N hN hp
    unfold X9_readStates_j53 X9_readStates_j81 mm_let
    dsimp only
    split
    · exact hf _ _ _ hN (by rcases hp with h | h <;> rw [h] <;> decide)
    · split
      · exact hf _ _ _ hN (by decide)
      · rename_i c1 c2
        split
        · rename_i c3
          rw [e_lt] at c2
          rw [e_le] at c3
          refine ⟨⟨fr_U hN.1.1 (by decide), hN.1.2⟩, fun _ => ⟨?_, fun q s hq hs => ?_⟩, fun z => by cases z⟩
          · show rl_r z 2 10
            unfold rl_r
            omega
          · have hs : (s : Int) < z.toInt := hs
            show (N 12 (10 * q + s)).toInt < z.toInt
            rw [hN.2 q s hq (by omega)]
            exact hs
        · exact hf _ _ _ hN (by decide)
  have hs1 : vW M0 (X7_step M) ∧ vC (X7_step M) := st_in hb h
  have hs2 : vW M0 (X7_step (X7_step M)) ∧ vC (X7_step (X7_step M)) := st_in hb hs1
  unfold X9_readStates mm_let
  dsimp only
  by_cases c1 : X7_isDigit M = true
  · rw [if_pos c1]
    by_cases c2 : X7_isDigit (X7_step M) = true
    · rw [if_pos c2]
      exact j53 _ _ hs2 (Or.inr (by rw [st2, st2, h2]; rfl))
    · rw [if_neg c2]
      exact j53 _ _ hs1 (Or.inl (by rw [st2, h2]; rfl))
  · rw [if_neg c1]
    exact hf _ _ _ h (by rw [h2]; decide)
theorem rq_in {I : mm_M → Prop} (hI : in1 I) {M : mm_M} (h : I M) : I (X9_readsState M).2 := by
  unfold X9_readsState mm_let
  dsimp only
  split
  · split
    · exact h
    · split
      · exact fl_in hI h
      · exact fl_in hI h
  · exact fl_in hI h
theorem vrq {M0 M : mm_M} (h : vX M0 M) : vX M0 (X9_readsState M).2 := rq_in vX_1 h
/-- a state that stands there -/
theorem rq_has {M : mm_M} (h : (X9_readsState M).1 = true) : (X9_readsState M).2 = M ∧ 0 ≤ ((M 1 4) - 48).toInt ∧ ((M 1 4) - 48).toInt < (M 10 0).toInt := by
  have f0 : ∀ a b : Int32, ¬ (X7_fail a b M).1 = true := fun a b z => by cases z
  unfold X9_readsState mm_let at h ⊢
  dsimp only at h ⊢
  by_cases c1 : X7_isDigit M = true
  · rw [if_pos c1] at h ⊢
    by_cases c2 : X8_has 10 (M 1 4 - 48) M = true
    · rw [if_pos c2]
      refine ⟨rfl, ?_⟩
      unfold X8_has at c2
      by_cases d1 : M 1 4 - 48 < 0
      · rw [if_pos d1] at c2; cases c2
      · rw [if_neg d1] at c2
        by_cases d2 : M 10 0 ≤ M 1 4 - 48
        · rw [if_pos d2] at c2; cases c2
        · rw [e_lt] at d1
          rw [e_le] at d2
          have k0 : (0 : Int32).toInt = 0 := rfl
          omega
    · rw [if_neg c2, if_neg (f0 _ _)] at h
      cases h
  · rw [if_neg c1] at h
    exact absurd h (f0 _ _)
theorem te_in {M0 M : mm_M} (h : vX M0 M) {q s x a : Int32} (hq0 : 0 ≤ q.toInt) (hq : q.toInt < 8) (hs0 : 0 ≤ s.toInt) (hs : s.toInt < 10) (hx0 : 0 ≤ x.toInt) (hx9 : x.toInt ≤ 9) (hx : s.toInt < (M 10 0).toInt → x.toInt < (M 10 0).toInt) (ha0 : 0 ≤ a.toInt) (ha : a.toInt ≤ 9) : vX M0 (X8_tell q s x a M) ∧ (X8_tell q s x a M) 10 = M 10 := by
  have k10 : (10 : Int32).toInt = 10 := rfl
  have k80 : (80 : Int32).toInt = 80 := rfl
  have k0 : (0 : Int32).toInt = 0 := rfl
  have e1 : (q * 10).toInt = q.toInt * 10 := by rw [e_mul (by rw [k10]; omega) (by rw [k10]; omega), k10]
  have e2 : (q * 10 + s).toInt = q.toInt * 10 + s.toInt := by rw [e_add (by omega) (by omega), e1]
  unfold X8_tell
  rw [if_neg (by rw [e_lt]; omega), if_neg (by rw [e_le]; omega)]
  obtain ⟨⟨hf, hv⟩, h2, h3⟩ := h
  have ec := e_cl (show 0 ≤ (q * 10 + s).toInt by omega)
  refine ⟨⟨⟨fr_U (fr_U hf (by decide)) (by decide), fun i hi => ?_⟩, h2, fun q' s' hq' hs' => ?_⟩, rfl⟩
  · rw [mm_U_ne 11 (by decide), e_U, e_U]
    by_cases c : i = Int32.toNatClampNeg (q * 10 + s)
    · rw [if_pos ⟨rfl, c⟩, if_pos ⟨rfl, c⟩]
      exact ⟨⟨ha0, ha⟩, ⟨hx0, hx9⟩⟩
    · rw [if_neg (fun z => c z.2), if_neg (fun z => c z.2), mm_U_ne 12 (by decide)]
      exact hv i hi
  · have hs' : (s' : Int) < (M 10 0).toInt := hs'
    show (mm_U (mm_U M 11 _ a) 12 _ x 12 (10 * q' + s')).toInt < (M 10 0).toInt
    rw [e_U]
    by_cases c : 10 * q' + s' = Int32.toNatClampNeg (q * 10 + s)
    · rw [if_pos ⟨rfl, c⟩]
      apply hx
      have := h2.2
      omega
    · rw [if_neg (fun z => c z.2), mm_U_ne 12 (by decide)]
      exact h3 q' s' hq' hs'
theorem ro_in {M0 M : mm_M} (h : vX M0 M) {q t : Int32} (hq0 : 0 ≤ q.toInt) (hq : q.toInt < 8) : ok (X9_readOutcome q t M) (fun r => vX M0 r.2) := by
  have k0 : (0 : Int32).toInt = 0 := rfl
  have k10 : (10 : Int32).toInt = 10 := rfl
  have k48 : (48 : Int32).toInt = 48 := rfl
  have j42 : ∀ (z : Bool) (N : mm_M), vX M0 N → (z = true ∨ (0 ≤ (N 1 4 - 48).toInt ∧ (N 1 4 - 48).toInt < (N 10 0).toInt)) → ok (X9_readOutcome_j42 q t z N) (fun r => vX M0 r.2) := by
    intro z N hN hz
    have hN2 : vX M0 (X7_take 61 (X7_step N)).2 ∧ (X7_take 61 (X7_step N)).2 10 = N 10 := by
      have hI : in1 (fun M => vX M0 M ∧ M 10 = N 10) := fun _ _ _ h => ⟨vX_1 _ _ _ h.1, h.2⟩
      exact tk_in hI (st_in hI ⟨hN, rfl⟩)
    unfold X9_readOutcome_j42
    refine ok_l (ok_l (ok_i (fun _ => ok_i (fun cd => ok_l ?_) (fun _ => ok_l (ok_s (vfl hN2.1)))) (fun _ => ok_s hN2.1)))
    have hd := dg_in cd
    generalize hB : (X7_take 61 (X7_step N)).2 = B at hN2 hd ⊢
    have ed : (B 1 4 - 48).toInt = (B 1 4).toInt - 48 := by rw [e_sub (by rw [k48]; omega) (by rw [k48]; omega), k48]
    have hs0 : vX M0 (X7_step B) ∧ (X7_step B) 10 = N 10 := by
      have hI : in1 (fun M => vX M0 M ∧ M 10 = N 10) := fun _ _ _ h => ⟨vX_1 _ _ _ h.1, h.2⟩
      exact st_in hI hN2
    refine ok_lp (fun s : Int32 × mm_M => (vX M0 s.2 ∧ s.2 10 = N 10) ∧ 0 ≤ s.1.toInt ∧ s.1.toInt ≤ 10) (fun s => (10 - s.1.toInt).toNat) _ ⟨hs0, by show 0 ≤ (0 : Int32).toInt; decide, by show (0 : Int32).toInt ≤ 10; decide⟩ (by show ((10 : Int) - (0 : Int32).toInt).toNat < 4000000000; decide) ?_
    rintro ⟨i, C⟩ ⟨⟨hC, hC10⟩, hi0, hi1⟩
    dsimp only at hC hC10 hi0 hi1
    have ei : (i + 1).toInt = i.toInt + 1 := e_inc hi0 hi1 (by omega)
    unfold X9_readOutcome_l99
    refine ok_i (fun _ => ok_s hC) (fun c1 => ?_)
    dsimp only at c1
    rw [e_le] at c1
    have fin : ∀ C' : mm_M, (vX M0 C' ∧ C' 10 = N 10) → sm (fun s' : Int32 × mm_M => ((vX M0 s'.2 ∧ s'.2 10 = N 10) ∧ 0 ≤ s'.1.toInt ∧ s'.1.toInt ≤ 10) ∧ (10 - s'.1.toInt).toNat < (10 - i.toInt).toNat) (fun r : Bool × mm_M => vX M0 r.2) (.inl (i + 1, C')) := fun C' h => ⟨⟨h, by show 0 ≤ (i + 1).toInt; omega, by show (i + 1).toInt ≤ 10; omega⟩, by show (10 - (i + 1).toInt).toNat < (10 - i.toInt).toNat; omega⟩
    refine ok_i (fun _ => ok_s (fin _ ⟨hC, hC10⟩)) (fun _ => ok_i (fun cz => ok_l (ok_s (fin _ ?_))) (fun cz => ok_l (ok_s (fin _ ?_))))
    · obtain ⟨a, b⟩ := te_in hC hq0 hq hi0 (by first | omega | (dsimp only; omega)) hi0 (by first | omega | (dsimp only; omega)) (fun h => h) (a := B 1 4 - 48) (by omega) (by omega)
      exact ⟨a, b.trans hC10⟩
    · rcases hz with hz | hz
      · exact absurd hz cz
      · have h10 := hN.2.1.2
        have hc : C 10 0 = N 10 0 := by rw [hC10]
        obtain ⟨a, b⟩ := te_in hC hq0 hq hi0 (by first | omega | (dsimp only; omega)) (x := N 1 4 - 48) (a := B 1 4 - 48) hz.1 (by omega) (fun _ => by rw [hc]; exact hz.2) (by omega) (by omega)
        exact ⟨a, b.trans hC10⟩
  have j25 : ∀ (z : Bool) (N : mm_M), vX M0 N → ok (X9_readOutcome_j25 q t z N) (fun r => vX M0 r.2) := by
    intro z N hN
    unfold X9_readOutcome_j25
    refine ok_i (fun cz => j42 z N hN (Or.inl cz)) (fun _ => ok_l (ok_i (fun c => ?_) (fun _ => ok_s (vrq hN))))
    obtain ⟨a, b, c⟩ := rq_has c
    rw [a]
    exact j42 z N hN (Or.inr ⟨b, c⟩)
  unfold X9_readOutcome
  refine ok_l (ok_i (fun _ => ok_i (fun _ => j25 _ _ (vtk h)) (fun _ => j25 _ _ (vtk h))) (fun _ => ok_s (vtk h)))
theorem rln_in {M0 M : mm_M} (h : vX M0 M) {q : Int32} (hq0 : 0 ≤ q.toInt) (hq : q.toInt < 8) : ok (X9_readLine q M) (fun r => vX M0 r.2) := by
  have k11 : (11 : Int32).toInt = 11 := rfl
  unfold X9_readLine
  refine ok_lp (fun s : Int32 × Bool × Int32 × mm_M => vX M0 s.2.2.2 ∧ 0 ≤ s.2.2.1.toInt ∧ s.2.2.1.toInt ≤ 12) (fun s => (12 - s.2.2.1.toInt).toNat) _ ⟨h, by show 0 ≤ (0 : Int32).toInt; decide, by show (0 : Int32).toInt ≤ 12; decide⟩ (by show ((12 : Int) - (0 : Int32).toInt).toNat < 4000000000; decide) ?_
  rintro ⟨u, st, i, N⟩ ⟨hN, hi0, hi1⟩
  dsimp only at hN hi0 hi1
  have ei : (i + 1).toInt = i.toInt + 1 := e_inc hi0 hi1 (by omega)
  unfold X9_readLine_l11
  refine ok_i (fun _ => ok_l (ok_s (vfl hN))) (fun c1 => ?_)
  dsimp only at c1
  rw [e_lt] at c1
  have j67 : ∀ (x6 : Bool) (z : Int32) (B : mm_M), vX M0 B → ok (X9_readLine_j67l11 q u st i x6 z B) (sm (fun s' : Int32 × Bool × Int32 × mm_M => (vX M0 s'.2.2.2 ∧ 0 ≤ s'.2.2.1.toInt ∧ s'.2.2.1.toInt ≤ 12) ∧ (12 - s'.2.2.1.toInt).toNat < (12 - i.toInt).toNat) (fun r : Bool × mm_M => vX M0 r.2)) := by
    intro x6 z B hB
    have hf : ok (X9_readLine_j83l11 B) (sm (fun s' : Int32 × Bool × Int32 × mm_M => (vX M0 s'.2.2.2 ∧ 0 ≤ s'.2.2.1.toInt ∧ s'.2.2.1.toInt ≤ 12) ∧ (12 - s'.2.2.1.toInt).toNat < (12 - i.toInt).toNat) (fun r : Bool × mm_M => vX M0 r.2)) := by
      unfold X9_readLine_j83l11
      exact ok_l (ok_s (vfl hB))
    unfold X9_readLine_j67l11
    refine ok_i (fun _ => hf) (fun _ => ok_i (fun _ => ok_l (ok_b (fun r => vX M0 r.2) (ro_in (vst hB) hq0 hq) (fun r (hr : vX M0 r.2) => ok_i (fun _ => ok_i (fun _ => ok_l (ok_s ?_)) (fun _ => ok_s hr)) (fun _ => ok_s hr)))) (fun _ => hf))
    exact ⟨⟨vst hr, by show 0 ≤ (i + 1).toInt; omega, by show (i + 1).toInt ≤ 12; omega⟩, by show (12 - (i + 1).toInt).toNat < (12 - i.toInt).toNat; omega⟩
  have j32 : ∀ (z : Bool), ok (X9_readLine_j32l11 q u st i z N) (sm (fun s' : Int32 × Bool × Int32 × mm_M => (vX M0 s'.2.2.2 ∧ 0 ≤ s'.2.2.1.toInt ∧ s'.2.2.1.toInt ≤ 12) ∧ (12 - s'.2.2.1.toInt).toNat < (12 - i.toInt).toNat) (fun r : Bool × mm_M => vX M0 r.2)) := by
    intro z
    have j49 : ∀ (B : mm_M), vX M0 B → ok (X9_readLine_j49l11 q u st i z B) (sm (fun s' : Int32 × Bool × Int32 × mm_M => (vX M0 s'.2.2.2 ∧ 0 ≤ s'.2.2.1.toInt ∧ s'.2.2.1.toInt ≤ 12) ∧ (12 - s'.2.2.1.toInt).toNat < (12 - i.toInt).toNat) (fun r : Bool × mm_M => vX M0 r.2)) := by
      intro B hB
      unfold X9_readLine_j49l11
      exact ok_i (fun _ => j67 _ _ _ hB) (fun _ => j67 _ _ _ hB)
    unfold X9_readLine_j32l11
    exact ok_i (fun _ => j49 _ hN) (fun _ => ok_l (ok_i (fun _ => j49 _ (vrq hN)) (fun _ => ok_s (vrq hN))))
  exact ok_i (fun _ => j32 _) (fun _ => j32 _)
theorem vr_fault {M0 : mm_M} (h02 : M0 1 2 = 0) : ok (X9_read M0) (fun r => vW M0 r.2 ∧ (r.2 1 5 = 0 → vNx r.2)) := by
  have k8 : (8 : Int32).toInt = 8 := rfl
  unfold X9_read
  refine ok_b _ (cl_in M0) (fun M hM => ok_l ?_)
  obtain ⟨g1, g2, g3⟩ := rs_in ⟨hM.1, hM.2.1⟩ (by rw [hM.2.2]; exact h02)
  refine ok_i (fun c => ?_) (fun c => ok_s ⟨g1, fun z => absurd z (g3 (by simpa using c))⟩)
  have hX : vX M0 (X9_readStates M).2 := ⟨g1, g2 c⟩
  refine ok_lp (fun s : Int32 × Int32 × mm_M => vX M0 s.2.2 ∧ 0 ≤ s.2.1.toInt ∧ s.2.1.toInt ≤ 9) (fun s => (9 - s.2.1.toInt).toNat) _ ⟨hX, by show 0 ≤ (0 : Int32).toInt; decide, by show (0 : Int32).toInt ≤ 9; decide⟩ (by show ((9 : Int) - (0 : Int32).toInt).toNat < 4000000000; decide) ?_
  rintro ⟨t, i, N⟩ ⟨hN, hi0, hi1⟩
  dsimp only at hN hi0 hi1
  have ei : (i + 1).toInt = i.toInt + 1 := e_inc hi0 hi1 (by omega)
  have fin : ∀ (b : Bool) (B : mm_M), vX M0 B → sm (fun s' : Int32 × Int32 × mm_M => (vX M0 s'.2.2 ∧ 0 ≤ s'.2.1.toInt ∧ s'.2.1.toInt ≤ 9) ∧ (9 - s'.2.1.toInt).toNat < (9 - i.toInt).toNat) (fun r : Bool × mm_M => vW M0 r.2 ∧ (r.2 1 5 = 0 → vNx r.2)) (.inr (b, B)) := fun b B h => ⟨h.1, fun _ => h.2⟩
  unfold X9_read_l18
  refine ok_i (fun _ => ok_s (fin _ _ hN)) (fun c1 => ok_i (fun _ => ok_s (fin _ _ hN)) (fun _ => ok_l (ok_i (fun _ => ok_i (fun cq => ok_i (fun _ => ok_l (ok_l (ok_i (fun _ => ok_b (fun r => vX M0 r.2) (rln_in (vtk (vst (vtk hN))) ?_ ?_) (fun r (hr : vX M0 r.2) => ok_i (fun _ => ok_s ?_) (fun _ => ok_s (fin _ _ hr)))) (fun _ => ok_s (fin _ _ (vtk (vst (vtk hN)))))))) (fun _ => ok_l (ok_s (fin _ _ (vfl (vtk hN)))))) (fun _ => ok_l (ok_s (fin _ _ (vfl (vtk hN)))))) (fun _ => ok_s (fin _ _ (vtk hN))))))
  · exact (rl_isqI.mp cq).1
  · exact (rl_isqI.mp cq).2
  · dsimp only at c1
    rw [e_lt] at c1
    exact ⟨⟨hr, by show 0 ≤ (i + 1).toInt; omega, by show (i + 1).toInt ≤ 9; omega⟩, by show (9 - (i + 1).toInt).toNat < (9 - i.toInt).toNat; omega⟩
