/-! THE REFERENCE ALONE: every call ends and keeps I2 -/
def V2 (M : mm_M) : Prop := rl_st M 1 ∧ (¬ M 0 60 = 0 → rl_st M 3) ∧ (∀ k, k < 8 → rl_r (M 4 k) 0 99) ∧ (((M 0 6).toInt = 0 ∨ rl_r (M 0 6) 2 10) ∧ ∀ i, i < 80 → rl_r (M 5 i) 0 9 ∧ rl_r (M 6 i) 0 9) ∧ (((M 1 0).toInt < (M 0 6).toInt ∨ (M 1 0).toInt = 0) ∧ ∀ q s : Nat, q < 8 → (s : Int) < (M 0 6).toInt → (M 6 (10 * q + s)).toInt < (M 0 6).toInt) ∧ rl_r (M 0 8) 0 260
def I2 (M : mm_M) : Prop := V2 M ∧ LC M
theorem V2_core {M1 M2 : mm_M} (h : rl_core M1 M2) : V2 M2 := by
  obtain ⟨hn, hk, hp, hv, hin, ht⟩ := h
  refine ⟨?_, fun c => ?_, fun k h => ?_, ⟨?_, fun i h => ?_⟩, ⟨?_, fun q s hq hs => ?_⟩, ?_⟩
  · unfold rl_st
    rw [← hn.1 0 (by decide), ← hn.1 1 (by decide), ← hn.1 2 (by decide), ← hn.1 3 (by decide), ← hn.1 4 (by decide), ← hn.1 5 (by decide), ← hn.1 6 (by decide), ← hn.1 7 (by decide)]
    exact hn.2
  · have hk2 := hk.2 (by rw [hk.1]; exact c)
    unfold rl_st
    rw [← hk2.1 0 (by decide), ← hk2.1 1 (by decide), ← hk2.1 2 (by decide), ← hk2.1 3 (by decide), ← hk2.1 4 (by decide), ← hk2.1 5 (by decide), ← hk2.1 6 (by decide), ← hk2.1 7 (by decide)]
    exact hk2.2
  · rw [← (hp k h).1]
    exact (hp k h).2
  · rw [← hv.1]
    exact hv.2.1
  · obtain ⟨a, b, c⟩ := hv.2.2 i h
    rw [← a, ← b]
    exact c
  · rw [← hn.1 0 (by decide), ← hv.1]
    exact hin.1
  · rw [← hv.1] at hs ⊢
    have := hin.2 q s hq hs
    have h10 : (M1 7 0).toInt ≤ 10 := by
      rcases hv.2.1 with h | h
      · omega
      · exact h.2
    rw [← (hv.2.2 (10 * q + s) (by omega)).2.1]
    exact this
  · rw [← ht.1]
    exact ht.2.1
/-- the class's memory beside a memory of the reference -/
def mate2 (M : mm_M) : mm_M := fun a k => match a with
  | 0 => if k = 5 then M 0 60 else 0
  | 1 => if k = 1 then M 0 8 else 0
  | 2 => M 7 k &&& 255
  | 3 => M 4 k
  | 4 => M 1 k
  | 5 => M 3 k
  | 7 => if k = 0 then M 0 6 else 0
  | 8 => M 5 k
  | 9 => M 6 k
  | 13 => if k = 0 then M 0 17 else 0
  | 32 => 1
  | _ => 0
theorem e_byte (v : Int32) : rl_r (v &&& 255) 0 255 := by
  obtain ⟨j, hj, e⟩ := pk_andE v (m := 255) 8 (by decide)
  rw [e]
  unfold rl_r
  rw [nI_toInt (by omega)]
  omega
theorem core_V2 {M : mm_M} (h : V2 M) : rl_core (mate2 M) M := by
  obtain ⟨hn, hk, hp, hv, hin, ht⟩ := h
  exact ⟨⟨fun k _ => rfl, hn⟩, ⟨rfl, fun c => ⟨fun k _ => rfl, hk c⟩⟩, fun k h => ⟨rfl, hp k h⟩, ⟨rfl, hv.1, fun i h => ⟨rfl, rfl, hv.2 i h⟩⟩, hin, ⟨rfl, ht, fun i _ => ⟨rfl, e_byte _⟩⟩⟩
theorem lf_I2 {M1 M1' M2 M2' : mm_M} (h : I2 M2) (hc : rl_core M1' M2') (hl : rl_lf M1 M1' M2 M2') : I2 M2' := by
  obtain ⟨-, l0, l14, -, l16, l17, l18⟩ := hl
  exact ⟨V2_core hc, LC_fr h.2 l0 l14 l16 l17 l18⟩
theorem m_of {c m : mm_M → Option (Int32 × mm_M)} (h : rl_ok c m) {M : mm_M} (hM : I2 M) : ok (m M) (fun r => I2 r.2) := by
  obtain ⟨r, M1', M2', a, b, hc, hl⟩ := h (mate2 M) M (core_V2 hM.1)
  exact ⟨_, b, lf_I2 hM hc hl⟩
theorem m_ofP {c m : mm_M → Option (Int32 × mm_M)} (h : rl_okP rl_ones c m) {M : mm_M} (hM : I2 M) : ok (m M) (fun r => I2 r.2) := by
  obtain ⟨r, M1', M2', a, b, hc, hl⟩ := h (mate2 M) M (core_V2 hM.1) (fun _ _ => rfl)
  exact ⟨_, b, lf_I2 hM hc hl⟩
/-- cells that I2 does not speak of -/
theorem I2_fr {M M' : mm_M} (h : I2 M) (h1 : ∀ k, k < 8 → M' 1 k = M 1 k) (h3 : M' 3 = M 3) (h4 : M' 4 = M 4) (h5 : M' 5 = M 5) (h6 : M' 6 = M 6) (h06 : M' 0 6 = M 0 6) (h60 : M' 0 60 = M 0 60) (h8 : M' 0 8 = M 0 8 ∨ M' 0 8 = 0) (hL : LC M') : I2 M' := by
  obtain ⟨⟨a, b, c, d, e, f⟩, -⟩ := h
  refine ⟨⟨?_, ?_, ?_, ?_, ?_, ?_⟩, hL⟩
  · unfold rl_st
    rw [h1 0 (by decide), h1 1 (by decide), h1 2 (by decide), h1 3 (by decide), h1 4 (by decide), h1 5 (by decide), h1 6 (by decide), h1 7 (by decide)]
    exact a
  · unfold rl_st; rw [h60, h3]; exact b
  · rw [h4]; exact c
  · rw [h06, h5, h6]; exact d
  · rw [h1 0 (by decide), h06, h6]; exact e
  · rcases h8 with h | h
    · rw [h]; exact f
    · rw [h]; exact ⟨by decide, by decide⟩
theorem I2_v {M : mm_M} (h : I2 M) : vJ M := ⟨h.1.2.2.2.1.1, h.1.2.2.2.1.2, h.1.2.2.2.2.1.2⟩
theorem I2_t {M : mm_M} (h : I2 M) : tJ M := ⟨h.1.1, h.1.2.2.2.2.1.1⟩
theorem I2_d {M N : mm_M} (h : I2 M) (hd : dJ M N) : I2 N := by
  have hL := dJ_L hd h.2
  obtain ⟨hf, h0, ht⟩ := hd
  obtain ⟨⟨a, b, c, d, e, f⟩, -⟩ := h
  refine ⟨⟨ht.1, ?_, ?_, ?_, ⟨ht.2, ?_⟩, ?_⟩, hL⟩
  · unfold rl_st; rw [h0 60 (by decide) (by decide), hf 3 (by decide)]; exact b
  · rw [hf 4 (by decide)]; exact c
  · rw [h0 6 (by decide) (by decide), hf 5 (by decide), hf 6 (by decide)]; exact d
  · rw [h0 6 (by decide) (by decide), hf 6 (by decide)]; exact e.2
  · rw [h0 8 (by decide) (by decide)]; exact f
theorem m_4 (x : Int32) {M : mm_M} (h : I2 M) : ok (md_4 x M) (fun r => I2 r.2) := by
  unfold md_4 X12_law
  refine ok_m (fun y => I2 y.2) ?_ (fun r hr => hr)
  refine ok_i (fun c => ok_i (fun _ => ?_) (fun _ => ok_s h)) (fun _ => ok_s h)
  obtain ⟨n, rfl, n1, n2⟩ := xin (lo := 1) (hi := 240) c (by decide) (by decide)
  refine ok_l (ok_w (lw_m n2 h.2) (fun r hr => ?_))
  obtain ⟨a1, a2, a3, a4⟩ := hr
  exact I2_fr h (fun k _ => by rw [a1 1 (by decide)]) (a1 3 (by decide)) (a1 4 (by decide)) (a1 5 (by decide)) (a1 6 (by decide)) (a2 6 (by decide)) (a2 60 (by decide)) (Or.inr a3) a4
theorem vc_m {P : mm_M} : ok (mm_loop X12_valley_l114 mm_fuel (0, P)) (fun N => fr [5, 6] P N ∧ ∀ j, j < 80 → N 5 j = P 21 j ∧ N 6 j = P 22 j) := by
  refine ok_lp (fun s : Int32 × mm_M => ∃ i, s.1 = nI i ∧ i ≤ 80 ∧ fr [5, 6] P s.2 ∧ ∀ j, j < i → s.2 5 j = P 21 j ∧ s.2 6 j = P 22 j) (fun s => 80 - Int32.toNatClampNeg s.1) _ ⟨0, nI_0.symm, by omega, fr_rfl, fun j h => by omega⟩ (by omega) ?_
  rintro ⟨si, N⟩ ⟨i, hi, h1, h2, h3⟩
  dsimp only at hi h2 h3
  subst hi
  unfold X12_valley_l114
  dsimp only
  by_cases c : i = 80
  · subst c
    rw [if_pos (by decide)]
    exact ok_s ⟨h2, h3⟩
  · have c80 : ¬ (80 : Int32) ≤ nI i := by
      rw [e_le, e_nIt (by omega)]
      show ¬ (80 : Int) ≤ i
      omega
    have hin : mm_in (nI i) 80 = true := e_inb (by rw [e_nIt (by omega)]; omega) (by rw [e_nIt (by omega)]; omega)
    rw [if_neg c80, if_pos hin, if_pos hin, if_pos hin, if_pos hin]
    refine ok_s ⟨⟨i + 1, nI_1 i, by omega, fr_U (fr_U h2 (by decide)) (by decide), fun j hj => ?_⟩, ?_⟩
    · dsimp only
      rw [e_nIc (show i < 2147483648 by omega), mm_U_ne 5 (by decide), e_U, e_U, mm_U_ne 6 (by decide)]
      by_cases cj : j = i
      · subst cj
        rw [if_pos ⟨rfl, rfl⟩, if_pos ⟨rfl, rfl⟩, h2 21 (by decide), h2 22 (by decide)]
        exact ⟨rfl, rfl⟩
      · rw [if_neg (fun z => cj z.2), if_neg (fun z => cj z.2)]
        exact h3 j (by omega)
    · dsimp only
      rw [nI_1, e_nIc (by omega), e_nIc (by omega)]
      omega
theorem m_5 (x : Int32) {M : mm_M} (h : I2 M) : ok (md_5 x M) (fun r => I2 r.2) := by
  unfold md_5 X12_valley
  refine ok_m (fun y => I2 y.2) ?_ (fun r hr => hr)
  refine ok_i (fun c => ok_i (fun _ => ?_) (fun _ => ok_s h)) (fun _ => ok_s h)
  obtain ⟨n, rfl, n1, n2⟩ := xin (lo := 1) (hi := 220) c (by decide) (by decide)
  refine ok_l ?_
  have hB : fr [0] M (X12_beginsText (nI n) M) ∧ ∀ k, (k < 9 ∨ 16 < k) → (X12_beginsText (nI n) M) 0 k = M 0 k := by
    refine ⟨fr_U (fr_U (fr_U (fr_U fr_rfl (by decide)) (by decide)) (by decide)) (by decide), fun k hk => ?_⟩
    unfold X12_beginsText
    rw [e_U, if_neg (fun z => by have := z.2; omega), e_U, if_neg (fun z => by have := z.2; omega), e_U, if_neg (fun z => by have := z.2; omega), e_U, if_neg (fun z => by have := z.2; omega)]
  refine ok_b _ (vz_m (bt_m (M := M) (x := nI n) rfl (by omega))) (fun y8 h8 => ok_b _ (sm_m h8) (fun y11 h11 => ?_))
  obtain ⟨p11, g11, s11⟩ := h11
  refine ok_b _ (vl_m g11 s11) (fun y16 h16 => ?_)
  obtain ⟨p16, g16, s16⟩ := h16
  generalize X12_beginsText (nI n) M = B at hB g16
  obtain ⟨-, gf, g0, gd⟩ := g16
  have e : ∀ b, b ∉ [0, 21, 22] → y16.2 b = M b := fun b hb => (gf b hb).trans (hB.1 b (by simp at hb ⊢; exact hb.1))
  have e0 : ∀ k, (k < 9 ∨ (16 < k ∧ (k < 33 ∨ 36 < k))) → y16.2 0 k = M 0 k := fun k hk => (g0 k hk).trans (hB.2 k (by omega))
  have hL : LC y16.2 := LC_fr h.2 (e0 17 (by decide)) (e 14 (by decide)) (e 16 (by decide)) (e 17 (by decide)) (e 18 (by decide))
  unfold X12_valley_j90
  refine ok_i (fun cb => ?_) (fun _ => ok_s ?_)
  · obtain ⟨hn1, hn2⟩ := s16 cb
    refine ok_b _ vc_m (fun y24 h24 => ok_s ?_)
    obtain ⟨f24, d24⟩ := h24
    have e24 : ∀ b, b ∉ [0, 5, 6, 21, 22] → y24 b = M b := by
      intro b hb
      simp only [List.mem_cons, not_or] at hb
      rw [f24 b (by simp [hb]), mm_U_ne b hb.1, mm_U_ne b hb.1]
      exact e b (by simp [hb])
    have z6 : y24 0 6 = y16.2 0 33 := by rw [f24 0 (by decide)]; rfl
    have z8 : y24 0 8 = 0 := by rw [f24 0 (by decide)]; rfl
    have zk : ∀ k, k ≠ 6 → k ≠ 8 → y24 0 k = y16.2 0 k := by
      intro k a b
      rw [f24 0 (by decide), e_U, if_neg (fun z => a z.2), e_U, if_neg (fun z => b z.2)]
    have d5 : ∀ j, j < 80 → y24 5 j = y16.2 21 j := fun j hj => (d24 j hj).1
    have d6 : ∀ j, j < 80 → y24 6 j = y16.2 22 j := fun j hj => (d24 j hj).2
    obtain ⟨⟨a, b, cc, d, ee, f⟩, -⟩ := h
    refine ⟨⟨?_, ?_, ?_, ⟨?_, ?_⟩, ⟨?_, ?_⟩, ?_⟩, ?_⟩
    · show rl_st (mm_U (mm_U (mm_U y24 1 0 0) 1 1 0) 1 2 8) 1
      have g1 : ∀ j : Nat, (mm_U (mm_U (mm_U y24 1 0 0) 1 1 0) 1 2 8) 1 j = if j = 2 then 8 else if j = 1 then 0 else if j = 0 then 0 else M 1 j := by
        intro j
        simp only [e_U, true_and, e24 1 (by decide)]
      unfold rl_st
      simp only [g1]
      obtain ⟨s0, s1, s2, s3, s4, s5, s6, s7⟩ := a
      exact ⟨show rl_r 0 0 9 from ⟨by decide, by decide⟩, show rl_r 0 0 9 from ⟨by decide, by decide⟩, show rl_r 8 0 8 from ⟨by decide, by decide⟩, s3, s4, s5, s6, s7⟩
    · show ¬ y24 0 60 = 0 → rl_st y24 3
      unfold rl_st
      rw [zk 60 (by decide) (by decide), e0 60 (by decide), e24 3 (by decide)]
      exact b
    · show ∀ k, k < 8 → rl_r (y24 4 k) 0 99
      rw [e24 4 (by decide)]
      exact cc
    · show (y24 0 6).toInt = 0 ∨ rl_r (y24 0 6) 2 10
      rw [z6]
      exact Or.inr hn1
    · show ∀ i, i < 80 → rl_r (y24 5 i) 0 9 ∧ rl_r (y24 6 i) 0 9
      intro i hi
      rw [d5 i hi, d6 i hi]
      exact gd i hi
    · exact Or.inr rfl
    · show ∀ q s : Nat, q < 8 → (s : Int) < (y24 0 6).toInt → (y24 6 (10 * q + s)).toInt < (y24 0 6).toInt
      intro q s hq hs
      rw [z6] at hs ⊢
      have := hn1.2
      rw [d6 _ (by omega)]
      exact hn2 q s hq hs
    · show rl_r (y24 0 8) 0 260
      rw [z8]
      exact ⟨by decide, by decide⟩
    · refine LC_fr hL (zk 17 (by decide) (by decide)) ?_ ?_ ?_ ?_
      · show y24 14 = y16.2 14
        rw [e24 14 (by decide), e 14 (by decide)]
      · show y24 16 = y16.2 16
        rw [e24 16 (by decide), e 16 (by decide)]
      · show y24 17 = y16.2 17
        rw [e24 17 (by decide), e 17 (by decide)]
      · show y24 18 = y16.2 18
        rw [e24 18 (by decide), e 18 (by decide)]
  · exact I2_fr h (fun k _ => by show y16.2 1 k = M 1 k; rw [e 1 (by decide)]) (e 3 (by decide)) (e 4 (by decide)) (e 5 (by decide)) (e 6 (by decide)) (e0 6 (by decide)) (e0 60 (by decide)) (Or.inr rfl) (LC_fr hL rfl rfl rfl rfl rfl)
theorem nz6 {v : Int32} (h : ¬ v = 0) : ¬ v.toInt = 0 := fun z => h (Int32.toInt_inj.mp z)
/-- a census that was read -/
def cJ (M0 M : mm_M) : Prop := I2 M ∧ (∀ k, k < 8 → M 1 k = M0 1 k) ∧ ¬ (M 0 6).toInt = 0 ∧ ∃ m : Nat, M 0 41 = nI m ∧ m ≤ 40 ∧ ∀ j, j < m → rl_r (M 23 j) 0 7
theorem rc_m {M : mm_M} {n : Nat} (hn : n ≤ 60) (h : I2 M) (h6 : ¬ M 0 6 = 0) : ok (X12_readsCensus (nI n) M) (fun r => cJ M r.2) := by
  refine ok_w (qx_m (by omega)) (fun r hr => ?_)
  obtain ⟨N, p, m, rr, ⟨-, q2, q3, ⟨q4, q5⟩, -, q6, -⟩, e⟩ := hr
  rw [e]
  have hL : LC N := LC_fr h.2 (q3 17 (by decide)) (q2 14 (by decide)) (q2 16 (by decide)) (q2 17 (by decide)) (q2 18 (by decide))
  refine ⟨I2_fr h (fun k _ => by show N 1 k = M 1 k; rw [q2 1 (by decide)]) (q2 3 (by decide)) (q2 4 (by decide)) (q2 5 (by decide)) (q2 6 (by decide)) (q3 6 (by decide)) (q3 60 (by decide)) (Or.inr rfl) (LC_fr hL rfl rfl rfl rfl rfl), fun k _ => by show N 1 k = M 1 k; rw [q2 1 (by decide)], ?_, m, q4, q5, q6⟩
  show ¬ (N 0 6).toInt = 0
  rw [q3 6 (by decide)]
  exact nz6 h6
theorem m_6 (x : Int32) {M : mm_M} (h : I2 M) : ok (md_6 x M) (fun r => I2 r.2) := by
  unfold md_6 X12_census
  refine ok_m (fun y => I2 y.2) ?_ (fun r hr => hr)
  refine ok_i (fun _ => ok_s h) (fun h6 => ok_i (fun c => ok_i (fun _ => ?_) (fun _ => ok_s h)) (fun _ => ok_s h))
  obtain ⟨n, rfl, n1, n2⟩ := xin (lo := 1) (hi := 60) c (by decide) (by decide)
  refine ok_b _ (rc_m n2 h h6) (fun y5 h5 => ?_)
  obtain ⟨i5, -, z5, m, m1, m2, m3⟩ := h5
  refine ok_i (fun _ => ?_) (fun _ => ok_s i5)
  refine ok_lp (fun s : Int32 × mm_M => ∃ i : Nat, s.1 = nI i ∧ i ≤ m ∧ I2 s.2 ∧ ¬ (s.2 0 6).toInt = 0 ∧ s.2 0 41 = nI m ∧ ∀ j, j < m → rl_r (s.2 23 j) 0 7) (fun s => 40 - Int32.toNatClampNeg s.1) _ ⟨0, nI_0.symm, by omega, i5, z5, m1, m3⟩ (by omega) ?_
  rintro ⟨si, N⟩ ⟨i, hi, h1, hI, hz, h41, h23⟩
  dsimp only at hi hI hz h41 h23
  subst hi
  unfold X12_census_l42
  dsimp only
  simp only [h41]
  refine ok_i (fun _ => ok_s hI) (fun cc => ?_)
  rw [e_le, e_nIt (by omega), e_nIt (by omega)] at cc
  have hin : mm_in (nI i) 40 = true := e_inb (by rw [e_nIt (by omega)]; omega) (by rw [e_nIt (by omega)]; omega)
  rw [if_pos hin]
  have q := h23 i (by omega)
  have ec : Int32.toNatClampNeg (nI i) = i := e_nIc (by omega)
  refine ok_b _ (as_m (q := N 23 (Int32.toNatClampNeg (nI i))) (I2_v hI) (I2_t hI) hz (by rw [ec]; exact q.1) (by rw [ec]; have := q.2; omega)) (fun K hK => ok_s ?_)
  obtain ⟨a1, a2, a3, -, -⟩ := hK
  refine ⟨⟨i + 1, nI_1 i, by omega, I2_d hI ⟨fr_w a1 (by decide), fun k a _ => a2 k a, a3⟩, ?_, ?_, ?_⟩, ?_⟩
  · show ¬ (K 0 6).toInt = 0
    rw [a2 6 (by decide)]
    exact hz
  · show K 0 41 = nI m
    rw [a2 41 (by decide)]
    exact h41
  · show ∀ j, j < m → rl_r (K 23 j) 0 7
    rw [a1 23 (by decide)]
    exact h23
  · dsimp only
    rw [nI_1, e_nIc (by omega), e_nIc (by omega)]
    omega
theorem lk_m {M0 M : mm_M} {x : Int32} (h : cJ M0 M) : ok (X12_looks x M) (fun N => I2 N ∧ (∀ k, k < 8 → N 2 k = M 1 k) ∧ N 0 6 = M 0 6) := by
  obtain ⟨i5, -, z5, m, m1, m2, m3⟩ := h
  obtain ⟨Y, eY, y1, y2, y3⟩ := e_copies 1 2 (by decide) M
  unfold X12_looks
  rw [eY]
  show ok (mm_loop (X12_looks_l30 x) mm_fuel (0, (mm_U (mm_U Y 0 45 0) 0 47 ((1 : Int32) <<< ((Y 1 0) &&& 31))))) _
  have hY : I2 Y := I2_fr i5 (fun k _ => by rw [y3 1 (by decide)]) (y3 3 (by decide)) (y3 4 (by decide)) (y3 5 (by decide)) (y3 6 (by decide)) (by rw [y3 0 (by decide)]) (by rw [y3 0 (by decide)]) (Or.inl (by rw [y3 0 (by decide)])) (LC_fr i5.2 (by rw [y3 0 (by decide)]) (y3 14 (by decide)) (y3 16 (by decide)) (y3 17 (by decide)) (y3 18 (by decide)))
  have u : ∀ (N : mm_M) (k : Nat) (v : Int32), (k = 45 ∨ k = 46 ∨ k = 47) → (I2 N ∧ ¬ (N 0 6).toInt = 0 ∧ N 0 41 = nI m ∧ (∀ j, j < m → rl_r (N 23 j) 0 7) ∧ (∀ k, k < 8 → N 2 k = M 1 k) ∧ N 0 6 = M 0 6) → (I2 (mm_U N 0 k v) ∧ ¬ ((mm_U N 0 k v) 0 6).toInt = 0 ∧ (mm_U N 0 k v) 0 41 = nI m ∧ (∀ j, j < m → rl_r ((mm_U N 0 k v) 23 j) 0 7) ∧ (∀ j, j < 8 → (mm_U N 0 k v) 2 j = M 1 j) ∧ (mm_U N 0 k v) 0 6 = M 0 6) := by
    rintro N k v hk ⟨a, b, c, d, e, e6⟩
    have g : ∀ j, j ≠ 45 → j ≠ 46 → j ≠ 47 → (mm_U N 0 k v) 0 j = N 0 j := fun j p q r => by rw [e_U, if_neg (fun z => by have := z.2; omega)]
    refine ⟨I2_fr a (fun _ _ => rfl) rfl rfl rfl rfl (g 6 (by decide) (by decide) (by decide)) (g 60 (by decide) (by decide) (by decide)) (Or.inl (g 8 (by decide) (by decide) (by decide))) (LC_fr a.2 (g 17 (by decide) (by decide) (by decide)) rfl rfl rfl rfl), ?_, ?_, d, e, (g 6 (by decide) (by decide) (by decide)).trans e6⟩
    · rw [g 6 (by decide) (by decide) (by decide)]
      exact b
    · rw [g 41 (by decide) (by decide) (by decide)]
      exact c
  have h0 := u _ 47 ((1 : Int32) <<< ((Y 1 0) &&& 31)) (by omega) (u Y 45 0 (by omega) ⟨hY, by rw [y3 0 (by decide)]; exact z5, by rw [y3 0 (by decide)]; exact m1, by rw [y3 23 (by decide)]; exact m3, y1, by rw [y3 0 (by decide)]⟩)
  refine ok_lp (fun s : Int32 × mm_M => ∃ i : Nat, s.1 = nI i ∧ i ≤ m ∧ I2 s.2 ∧ ¬ (s.2 0 6).toInt = 0 ∧ s.2 0 41 = nI m ∧ (∀ j, j < m → rl_r (s.2 23 j) 0 7) ∧ (∀ k, k < 8 → s.2 2 k = M 1 k) ∧ s.2 0 6 = M 0 6) (fun s => 40 - Int32.toNatClampNeg s.1) _ ⟨0, nI_0.symm, by omega, h0⟩ (by omega) ?_
  rintro ⟨si, N⟩ ⟨i, hi, h1, hI, hz, h41, h23, h2, hs6⟩
  dsimp only at hi hI hz h41 h23 h2 hs6
  subst hi
  unfold X12_looks_l30
  dsimp only
  simp only [h41]
  refine ok_i (fun _ => ok_s ⟨hI, h2, hs6⟩) (fun cc => ?_)
  rw [e_le, e_nIt (by omega), e_nIt (by omega)] at cc
  have hin : mm_in (nI i) 40 = true := e_inb (by rw [e_nIt (by omega)]; omega) (by rw [e_nIt (by omega)]; omega)
  rw [if_pos hin]
  have q := h23 i (by omega)
  have ec : Int32.toNatClampNeg (nI i) = i := e_nIc (by omega)
  refine ok_b _ (as_m (q := N 23 (Int32.toNatClampNeg (nI i))) (I2_v hI) (I2_t hI) hz (by rw [ec]; exact q.1) (by rw [ec]; have := q.2; omega)) (fun K hK => ?_)
  obtain ⟨a1, a2, a3, -, -⟩ := hK
  have hKK : I2 K ∧ ¬ (K 0 6).toInt = 0 ∧ K 0 41 = nI m ∧ (∀ j, j < m → rl_r (K 23 j) 0 7) ∧ (∀ k, k < 8 → K 2 k = M 1 k) ∧ K 0 6 = M 0 6 := by
    refine ⟨I2_d hI ⟨fr_w a1 (by decide), fun k a _ => a2 k a, a3⟩, ?_, ?_, ?_, ?_, (a2 6 (by decide)).trans hs6⟩
    · rw [a2 6 (by decide)]
      exact hz
    · rw [a2 41 (by decide)]
      exact h41
    · rw [a1 23 (by decide)]
      exact h23
    · rw [a1 2 (by decide)]
      exact h2
  have hm : 40 - Int32.toNatClampNeg (nI i + 1) < 40 - Int32.toNatClampNeg (nI i) := by
    rw [nI_1, e_nIc (by omega), e_nIc (by omega)]
    omega
  refine ok_i (fun _ => ok_s ⟨⟨i + 1, nI_1 i, by omega, u _ 46 _ (by omega) (u _ 47 _ (by omega) hKK)⟩, hm⟩) (fun _ => ok_s ⟨⟨i + 1, nI_1 i, by omega, u _ 47 _ (by omega) hKK⟩, hm⟩)
/-- a standing that is put back -/
theorem cb_m {M N : mm_M} (h : I2 M) (hN : I2 N) (h2 : ∀ k, k < 8 → N 2 k = M 1 k) (h6 : N 0 6 = M 0 6) : ok (X12_copies 2 1 N) I2 := by
  obtain ⟨Y, eY, y1, y2, y3⟩ := e_copies 2 1 (by decide) N
  refine ⟨Y, eY, ?_⟩
  have hL : LC Y := LC_fr hN.2 (by rw [y3 0 (by decide)]) (y3 14 (by decide)) (y3 16 (by decide)) (y3 17 (by decide)) (y3 18 (by decide))
  have e1 : ∀ k, k < 8 → Y 1 k = M 1 k := fun k hk => (y1 k hk).trans (h2 k hk)
  obtain ⟨⟨a, b, c, d, e, f⟩, -⟩ := hN
  refine ⟨⟨?_, ?_, ?_, ?_, ⟨?_, ?_⟩, ?_⟩, hL⟩
  · unfold rl_st
    rw [e1 0 (by decide), e1 1 (by decide), e1 2 (by decide), e1 3 (by decide), e1 4 (by decide), e1 5 (by decide), e1 6 (by decide), e1 7 (by decide)]
    exact h.1.1
  · unfold rl_st; rw [y3 0 (by decide), y3 3 (by decide)]; exact b
  · rw [y3 4 (by decide)]; exact c
  · rw [y3 0 (by decide), y3 5 (by decide), y3 6 (by decide)]; exact d
  · rw [y3 0 (by decide), e1 0 (by decide), h6]; exact h.1.2.2.2.2.1.1
  · rw [y3 0 (by decide), y3 6 (by decide)]; exact e.2
  · rw [y3 0 (by decide)]; exact f
theorem m_7 (x y : Int32) {M : mm_M} (h : I2 M) : ok (md_7 x y M) (fun r => I2 r.2) := by
  unfold md_7 X12_look
  refine ok_m (fun y => I2 y.2) ?_ (fun r hr => hr)
  refine ok_i (fun _ => ok_s h) (fun h6 => ok_i (fun c => ?_) (fun _ => ok_s h))
  obtain ⟨n, rfl, n1, n2⟩ := xin (lo := 1) (hi := 60) c (by decide) (by decide)
  have j : ok (X12_look_j38 (nI n) y M) (fun r => I2 r.2) := by
    unfold X12_look_j38
    refine ok_i (fun _ => ok_b _ (rc_m n2 h h6) (fun y6 c6 => ?_)) (fun _ => ok_s h)
    refine ok_i (fun _ => ok_b _ (lk_m c6) (fun y9 h9 => ok_b _ (cb_m c6.1 h9.1 h9.2.1 h9.2.2) (fun y11 h11 => ?_))) (fun _ => ok_s c6.1)
    exact ok_i (fun _ => ok_s h11) (fun _ => ok_i (fun _ => ok_s h11) (fun _ => ok_i (fun _ => ok_s h11) (fun _ => ok_i (fun _ => ok_s h11) (fun _ => ok_i (fun _ => ok_s h11) (fun _ => ok_i (fun _ => ok_s h11) (fun _ => ok_s h11))))))
  exact ok_i (fun _ => j) (fun _ => ok_i (fun _ => j) (fun _ => ok_s h))
theorem m_8 (x : Int32) {M : mm_M} (h : I2 M) : ok (md_8 x M) (fun r => I2 r.2) := by
  unfold md_8 X12_days
  refine ok_m (fun y => I2 y.2) ?_ (fun r hr => hr)
  refine ok_i (fun c => ?_) (fun _ => ok_s h)
  exact ok_b _ (go_m (I2_v h) (I2_t h) h.2 h.1.2.2.1 (rl_inI.mp c).2) (fun N hN => ok_s (I2_d h hN.1))
theorem m_9 (x y : Int32) {M : mm_M} (h : I2 M) : ok (md_9 x y M) (fun r => I2 r.2) := by
  unfold md_9 X12_tried
  refine ok_m (fun y => I2 y.2) ?_ (fun r hr => hr)
  refine ok_i (fun c => ok_i (fun _ => ?_) (fun _ => ok_s h)) (fun _ => ok_s h)
  obtain ⟨Y, eY, y1, y2, y3⟩ := e_copies 1 2 (by decide) M
  rw [eY]
  have hY : I2 Y := I2_fr h (fun k _ => by rw [y3 1 (by decide)]) (y3 3 (by decide)) (y3 4 (by decide)) (y3 5 (by decide)) (y3 6 (by decide)) (by rw [y3 0 (by decide)]) (by rw [y3 0 (by decide)]) (Or.inl (by rw [y3 0 (by decide)])) (LC_fr h.2 (by rw [y3 0 (by decide)]) (y3 14 (by decide)) (y3 16 (by decide)) (y3 17 (by decide)) (y3 18 (by decide)))
  show ok ((X12_daysGo x Y).bind _) _
  refine ok_b _ (go_m (I2_v hY) (I2_t hY) hY.2 hY.1.2.2.1 (rl_inI.mp c).2) (fun N hN => ?_)
  have j : ∀ v : Int32, ok (X12_tried_j125 v N) (fun r => I2 r.2) := by
    intro v
    unfold X12_tried_j125
    exact ok_b _ (cb_m h (I2_d hY hN.1) (fun k hk => by rw [hN.1.1 2 (by decide)]; exact y1 k hk) (by rw [hN.1.2.1 6 (by decide) (by decide), y3 0 (by decide)])) (fun r hr => ok_s hr)
  exact ok_i (fun _ => j _) (fun _ => ok_i (fun _ => j _) (fun _ => ok_i (fun _ => j _) (fun _ => ok_i (fun _ => j _) (fun _ => ok_i (fun _ => j _) (fun _ => j _)))))
