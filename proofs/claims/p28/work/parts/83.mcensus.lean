/-! THE REFERENCE READS A CENSUS -/
def qC (M0 M : mm_M) (n p m r : Nat) : Prop := tI M n p ∧ fr [0, 23, 24, 25, 26] M0 M ∧ (∀ k, k < 9 ∨ (16 < k ∧ (k < 41 ∨ 44 < k)) → M 0 k = M0 0 k) ∧ (M 0 41 = nI m ∧ m ≤ 40) ∧ (M 0 42 = nI r ∧ r ≤ 2) ∧ (∀ j, j < m → rl_r (M 23 j) 0 7) ∧ (∀ j, j < r → (∃ a : Nat, M 25 j = nI a ∧ a ≤ m) ∧ rl_r (M 26 j) 1 9) ∧ rl_r (M 0 44) 1 9
theorem qC_u {M0 M : mm_M} {n p m r k : Nat} {v : Int32} (h : qC M0 M n p m r) (hk : k = 11 ∨ k = 43) : qC M0 (mm_U M 0 k v) n p m r := by
  obtain ⟨ht, hf, hc, ⟨h1, h2⟩, ⟨h3, h4⟩, h5, h6, h7⟩ := h
  have e : ∀ j, j ≠ k → mm_U M 0 k v 0 j = M 0 j := fun j hj => by rw [e_U, if_neg (fun z => hj z.2)]
  refine ⟨tI_u ht (by omega), fr_U hf (by decide), fun j hj => ?_, ⟨?_, h2⟩, ⟨?_, h4⟩, h5, h6, ?_⟩
  · rw [e j (by omega)]; exact hc j hj
  · rw [e 41 (by omega)]; exact h1
  · rw [e 42 (by omega)]; exact h3
  · rw [e 44 (by omega)]; exact h7
theorem qC_44 {M0 M : mm_M} {n p m r : Nat} {v : Int32} (h : qC M0 M n p m r) (hv : rl_r v 1 9) : qC M0 (mm_U M 0 44 v) n p m r := by
  obtain ⟨ht, hf, hc, ⟨h1, h2⟩, ⟨h3, h4⟩, h5, h6, h7⟩ := h
  have e : ∀ j, j ≠ 44 → mm_U M 0 44 v 0 j = M 0 j := fun j hj => by rw [e_U, if_neg (fun z => hj z.2)]
  refine ⟨tI_u ht (by omega), fr_U hf (by decide), fun j hj => ?_, ⟨?_, h2⟩, ⟨?_, h4⟩, h5, h6, ?_⟩
  · rw [e j (by omega)]; exact hc j hj
  · rw [e 41 (by omega)]; exact h1
  · rw [e 42 (by omega)]; exact h3
  · rw [mm_U_same]; exact hv
theorem qC_n {M0 M : mm_M} {n p m r : Nat} {v : Int32} (hv : v = M 0 9 + 1) (h : qC M0 M n p m r) (c : p < n) : qC M0 (mm_U M 0 9 v) n (p + 1) m r := by
  subst hv
  obtain ⟨ht, hf, hc, ⟨h1, h2⟩, ⟨h3, h4⟩, h5, h6, h7⟩ := h
  have e : ∀ j, j ≠ 9 → mm_U M 0 9 (M 0 9 + 1) 0 j = M 0 j := fun j hj => by rw [e_U, if_neg (fun z => hj z.2)]
  refine ⟨tI_n ht c, fr_U hf (by decide), fun j hj => ?_, ⟨?_, h2⟩, ⟨?_, h4⟩, h5, h6, ?_⟩
  · rw [e j (by omega)]; exact hc j hj
  · rw [e 41 (by omega)]; exact h1
  · rw [e 42 (by omega)]; exact h3
  · rw [e 44 (by omega)]; exact h7
theorem mm_U_comm {M : mm_M} {a k k' : Nat} {v v' : Int32} (h : k ≠ k') : mm_U (mm_U M a k v) a k' v' = mm_U (mm_U M a k' v') a k v := by
  funext b j
  rw [e_U, e_U, e_U, e_U]
  by_cases c1 : b = a ∧ j = k'
  · rw [if_pos c1, if_neg (fun z => h (z.2.symm.trans c1.2)), if_pos c1]
  · rw [if_neg c1, if_neg c1]
theorem qt_m {M0 M : mm_M} {n p m r : Nat} (h : qC M0 (mm_U M 0 44 1) n p m r) : ok (X12_readsTimes M) (fun N => ∃ p', p ≤ p' ∧ qC M0 N n p' m r) := by
  have k48 : (48 : Int32).toInt = 48 := rfl
  have k50 : (50 : Int32).toInt = 50 := rfl
  have k57 : (57 : Int32).toInt = 57 := rfl
  have hA : qC M0 (mm_U (mm_U M 0 43 (M 0 9)) 0 44 1) n p m r := by
    rw [mm_U_comm (by decide)]
    exact qC_u h (by omega)
  have e9 : (mm_U (mm_U M 0 43 (M 0 9)) 0 44 1) 0 9 = M 0 9 := by rw [e_U, if_neg (fun z => by have := z.2; omega), e_U, if_neg (fun z => by have := z.2; omega)]
  unfold X12_readsTimes
  generalize mm_U (mm_U M 0 43 (M 0 9)) 0 44 1 = A at hA e9
  obtain ⟨e5, f5⟩ := he_m hA.1
  simp only [e5, Option.bind_some]
  refine ok_i (fun c => ok_s ?_) (fun _ => ok_s ⟨p, Nat.le_refl _, hA⟩)
  have hc := rl_inI.mp c
  have hlt : p < n := he_lt hA.1 (fun z => by rw [z] at hc; exact absurd hc.1 (by decide))
  have ed : (hv A - 48).toInt = (hv A).toInt - 48 := by rw [e_sub (by rw [k48]; omega) (by rw [k48]; omega), k48]
  have hB := qC_44 (v := hv A - 48) hA ⟨by omega, by omega⟩
  have e9b : (mm_U A 0 44 (hv A - 48)) 0 9 = A 0 9 := by rw [e_U, if_neg (fun z => by have := z.2; omega)]
  exact ⟨p + 1, by omega, qC_n (by rw [e9b, e9]) hB hlt⟩
theorem qr_m {M0 M : mm_M} {n p m r a t : Nat} {x3 : Int32} (h : qC M0 M n p m r) (ha : a ≤ m) (ht1 : 1 ≤ t) (ht9 : t ≤ 9) (har : ∀ j b, j < r → M 25 j = nI b → b ≤ m → True) : ok (X12_repeats (nI a) (nI t) x3 M) (fun res => ∃ m', qC M0 res.2 n p m' r ∧ m ≤ m') := by
  have k40 : (40 : Int32).toInt = 40 := rfl
  obtain ⟨ht, hf, hc, ⟨h1, h2⟩, ⟨h3, h4⟩, h5, h6, h7⟩ := id h
  have es : M 0 41 - nI a = nI (m - a) := by
    rw [h1, e_eq, e_sub (by rw [e_nIt (by omega), e_nIt (by omega)]; omega) (by rw [e_nIt (by omega), e_nIt (by omega)]; omega), e_nIt (by omega), e_nIt (by omega), e_nIt (by omega)]
    omega
  have hmt : (m - a) * t ≤ 40 * 9 := Nat.mul_le_mul (by omega) ht9
  have em : nI (m - a) * nI t = nI ((m - a) * t) := by
    have hc2 : (((m - a) * t : Nat) : Int) = ((m - a : Nat) : Int) * (t : Int) := Int.natCast_mul _ _
    rw [e_eq, e_mul (by rw [e_nIt (by omega), e_nIt (by omega)]; omega) (by rw [e_nIt (by omega), e_nIt (by omega)]; omega), e_nIt (by omega), e_nIt (by omega), e_nIt (by omega)]
    omega
  have hge : m - a ≤ (m - a) * t := Nat.le_mul_of_pos_right _ ht1
  unfold X12_repeats
  rw [es, em, nI_add]
  generalize hT : (m - a) * t = T at *
  refine ok_i (fun c => ?_) (fun _ => ok_l (ok_s ⟨m, qC_u h (by omega), Nat.le_refl _⟩))
  rw [e_le, e_nIt (by omega), k40] at c
  refine ok_b (fun N => fr [23] M N ∧ ∀ j, j < a + T → rl_r (N 23 j) 0 7) ?_ (fun N hN => ok_s ⟨a + T, ?_, by omega⟩)
  · refine ok_lp (fun s : Int32 × mm_M => ∃ i : Nat, s.1 = nI i ∧ m - a ≤ i ∧ i ≤ T ∧ fr [23] M s.2 ∧ ∀ j, j < a + i → rl_r (s.2 23 j) 0 7) (fun s => 400 - Int32.toNatClampNeg s.1) _ ⟨m - a, rfl, Nat.le_refl _, by omega, fr_rfl, fun j hj => h5 j (by omega)⟩ (by omega) ?_
    rintro ⟨x, N⟩ ⟨i, hx, hi0, hi1, hfN, hjN⟩
    dsimp only at hx hfN hjN
    subst hx
    unfold X12_repeats_l31
    rw [em]
    refine ok_i (fun c2 => ok_s ⟨hfN, fun j hj => hjN j ?_⟩) (fun c2 => ?_)
    · dsimp only at c2
      rw [e_le, e_nIt (by omega), e_nIt (by omega)] at c2
      omega
    · dsimp only at c2 ⊢
      rw [e_le, e_nIt (by omega), e_nIt (by omega)] at c2
      have e1 : nI a + nI i - nI (m - a) = nI (a + i - (m - a)) := by
        rw [nI_add, e_eq, e_sub (by rw [e_nIt (by omega), e_nIt (by omega)]; omega) (by rw [e_nIt (by omega), e_nIt (by omega)]; omega), e_nIt (by omega), e_nIt (by omega), e_nIt (by omega)]
        omega
      rw [e1, nI_add]
      have in1' : mm_in (nI (a + i - (m - a))) 40 = true := e_inb (by rw [e_nIt (by omega)]; omega) (by rw [e_nIt (by omega)]; omega)
      have in2' : mm_in (nI (a + i)) 40 = true := e_inb (by rw [e_nIt (by omega)]; omega) (by rw [e_nIt (by omega)]; omega)
      refine ok_i (fun _ => ok_i (fun _ => ok_s ?_) (fun z => absurd in2' z)) (fun z => absurd in1' z)
      rw [e_nIc (show a + i < 2147483648 by omega), e_nIc (show a + i - (m - a) < 2147483648 by omega)]
      refine ⟨⟨i + 1, nI_1 i, by omega, by omega, fr_U hfN (by decide), fun j hj => ?_⟩, ?_⟩
      · dsimp only
        rw [e_U]
        by_cases cj : j = a + i
        · rw [if_pos ⟨rfl, cj⟩]
          by_cases cm : m - a = 0
          · exfalso
            rw [cm] at hT
            omega
          · exact hjN _ (by omega)
        · rw [if_neg (fun z => cj z.2)]
          exact hjN j (by omega)
      · show 400 - Int32.toNatClampNeg (nI i + 1) < 400 - Int32.toNatClampNeg (nI i)
        rw [nI_1, e_nIc (by omega), e_nIc (by omega)]
        omega
  · obtain ⟨hfN, hjN⟩ := hN
    have e0 : N 0 = M 0 := hfN 0 (by decide)
    have ee : ∀ j, j ≠ 41 → mm_U N 0 41 (nI (a + T)) 0 j = M 0 j := fun j hj => by rw [e_U, if_neg (fun z => hj z.2), e0]
    dsimp only
    refine ⟨?_, fun b hb => ?_, fun j hj => ?_, ⟨mm_U_same, by omega⟩, ⟨?_, h4⟩, fun j hj => ?_, fun j hj => ?_, ?_⟩
    · refine ⟨?_, ?_, ht.2.2⟩
      · rw [ee 9 (by omega)]; exact ht.1
      · rw [ee 10 (by omega)]; exact ht.2.1
    · simp only [List.mem_cons, not_or] at hb
      rw [mm_U_ne b hb.1, hfN b (by simp [hb])]
      exact hf b (by simp [hb])
    · rw [ee j (by omega)]; exact hc j hj
    · rw [ee 42 (by omega)]; exact h3
    · rw [mm_U_ne 23 (by decide)]; exact hjN j hj
    · rw [mm_U_ne 25 (by decide), mm_U_ne 26 (by decide), hfN 25 (by decide), hfN 26 (by decide)]
      obtain ⟨⟨b, hb1, hb2⟩, hb3⟩ := h6 j hj
      exact ⟨⟨b, hb1, by omega⟩, hb3⟩
    · rw [ee 44 (by omega)]; exact h7
theorem t19 {v : Int32} (h : rl_r v 1 9) : ∃ t : Nat, v = nI t ∧ 1 ≤ t ∧ t ≤ 9 := by
  obtain ⟨h0, h1⟩ := h
  have h2 : 0 ≤ v.toInt := by omega
  exact ⟨Int32.toNatClampNeg v, e_nI h2, by have := e_cl h2; omega, by have := e_cl h2; omega⟩
/-- the rounds that are opened -/
theorem qo_m {M0 M : mm_M} {n p m r : Nat} (h : qC M0 M n p m r) : ok (mm_loop X12_readsAsked_l4 mm_fuel M) (sm (fun x : Bool × mm_M => x.1 = false ∧ ∃ p' r', p ≤ p' ∧ qC M0 x.2 n p' m r') (fun N : mm_M => ∃ p' r', p ≤ p' ∧ qC M0 N n p' m r')) := by
  refine ok_lp (fun s : mm_M => ∃ p' r', p ≤ p' ∧ qC M0 s n p' m r') (fun s => 241 - Int32.toNatClampNeg (s 0 9)) _ ⟨p, r, Nat.le_refl _, h⟩ (by omega) ?_
  rintro N ⟨p1, r1, hp1, hN⟩
  obtain ⟨e5, f5⟩ := he_m hN.1
  unfold X12_readsAsked_l4
  simp only [e5, Option.bind_some]
  refine ok_i (fun c40 => ok_i (fun _ => ok_l (ok_s ⟨rfl, p1, r1, hp1, qC_u hN (by omega)⟩)) (fun c2 => ?_)) (fun _ => ok_s ⟨p1, r1, hp1, hN⟩)
  have hlt : p1 < n := he_lt hN.1 (by rw [c40]; decide)
  obtain ⟨ht, hf, hc, ⟨h1, h2⟩, ⟨h3, h4⟩, h5, h6, h7⟩ := id hN
  have hr2 : r1 < 2 := by
    rcases Nat.lt_or_ge r1 2 with z | z
    · exact z
    · exfalso
      apply c2
      have : r1 = 2 := by omega
      rw [h3, this]
      rfl
  have hin : mm_in (N 0 42) 2 = true := by rw [h3]; exact e_inb (by rw [e_nIt (by omega)]; omega) (by rw [e_nIt (by omega)]; omega)
  refine ok_i (fun _ => ok_i (fun _ => ok_i (fun _ => ?_) (fun z => absurd hin z)) (fun z => absurd hin z)) (fun z => absurd hin z)
  rw [h3, e_nIc (by omega), nI_1]
  have hA : qC M0 (mm_U (mm_U (mm_U (mm_U (mm_U N 24 r1 (N 0 43)) 25 r1 (N 0 41)) 26 r1 (N 0 44)) 0 42 (nI (r1 + 1))) 0 9 (N 0 9 + 1)) n (p1 + 1) m (r1 + 1) := by
    have g0 : ∀ j, mm_U (mm_U (mm_U (mm_U (mm_U N 24 r1 (N 0 43)) 25 r1 (N 0 41)) 26 r1 (N 0 44)) 0 42 (nI (r1 + 1))) 0 9 (N 0 9 + 1) 0 j = if j = 9 then N 0 9 + 1 else if j = 42 then nI (r1 + 1) else N 0 j := by
      intro j
      simp only [e_U, true_and]
      have : ¬ (0 = 26) := by decide
      have : ¬ (0 = 25) := by decide
      have : ¬ (0 = 24) := by decide
      simp
    refine ⟨⟨?_, ?_, by omega, ht.2.2.2⟩, ?_, fun j hj => ?_, ⟨?_, h2⟩, ⟨?_, by omega⟩, h5, fun j hj => ?_, ?_⟩
    · rw [g0, if_pos rfl, ht.1]; exact nI_1 p1
    · rw [g0]; exact ht.2.1
    · exact fr_U (fr_U (fr_U (fr_U (fr_U hf (by decide)) (by decide)) (by decide)) (by decide)) (by decide)
    · rw [g0, if_neg (by omega), if_neg (by omega)]; exact hc j hj
    · rw [g0]; exact h1
    · rw [g0]; rfl
    · rw [mm_U_ne 25 (by decide), mm_U_ne 25 (by decide), mm_U_ne 25 (by decide), mm_U_ne 26 (by decide), mm_U_ne 26 (by decide)]
      by_cases cj : j = r1
      · subst cj
        rw [mm_U_same, mm_U_same, h1]
        exact ⟨⟨m, rfl, Nat.le_refl _⟩, h7⟩
      · have b1 : mm_U (mm_U N 24 r1 (N 0 43)) 25 r1 (N 0 41) 25 j = N 25 j := by rw [e_U, if_neg (fun z => cj z.2), mm_U_ne 25 (by decide)]
        have b2 : mm_U (mm_U (mm_U N 24 r1 (N 0 43)) 25 r1 (N 0 41)) 26 r1 (N 0 44) 26 j = N 26 j := by rw [e_U, if_neg (fun z => cj z.2), mm_U_ne 26 (by decide), mm_U_ne 26 (by decide)]
        rw [b1, b2]
        exact h6 j (by omega)
    · rw [g0]; exact h7
  refine ok_b _ (qt_m (qC_44 hA ⟨by decide, by decide⟩)) (fun B hB => ok_s ?_)
  obtain ⟨p2, hp2, hB⟩ := hB
  refine ⟨⟨p2, r1 + 1, by omega, hB⟩, ?_⟩
  have a1 := hB.1.1
  have a2 := hN.1.1
  have a3 := hB.1.2.2
  rw [a1, a2, e_nIc (by omega), e_nIc (by omega)]
  omega
/-- the rounds that are closed -/
theorem qd_m {M0 M : mm_M} {n p m r : Nat} (h : qC M0 M n p m r) : ok (mm_loop X12_readsAsked_l196 mm_fuel M) (fun x => ∃ p' m' r', p ≤ p' ∧ qC M0 x.2 n p' m' r') := by
  refine ok_lp (fun s : mm_M => ∃ p' m' r', p ≤ p' ∧ qC M0 s n p' m' r') (fun s => 241 - Int32.toNatClampNeg (s 0 9)) _ ⟨p, m, r, Nat.le_refl _, h⟩ (by omega) ?_
  rintro N ⟨p1, m1, r1, hp1, hN⟩
  obtain ⟨e5, f5⟩ := he_m hN.1
  have k0 : (0 : Int32).toInt = 0 := rfl
  unfold X12_readsAsked_l196
  simp only [e5, Option.bind_some]
  refine ok_i (fun c41 => ok_i (fun _ => ok_s ⟨p1, m1, r1, hp1, hN⟩) (fun c0 => ?_)) (fun _ => ok_s ⟨p1, m1, r1, hp1, hN⟩)
  have hlt : p1 < n := he_lt hN.1 (by rw [c41]; decide)
  obtain ⟨ht, hf, hc, ⟨h1, h2⟩, ⟨h3, h4⟩, h5, h6, h7⟩ := id hN
  rw [e_le, h3, e_nIt (by omega)] at c0
  have hr : 1 ≤ r1 := by omega
  have es : N 0 42 - 1 = nI (r1 - 1) := by
    have k1 : (1 : Int32).toInt = 1 := rfl
    rw [h3, e_eq, e_sub (by rw [e_nIt (by omega), k1]; omega) (by rw [e_nIt (by omega), k1]; omega), e_nIt (by omega), e_nIt (by omega), k1]
    omega
  rw [es, e_nIc (by omega)]
  have hin : mm_in (nI (r1 - 1)) 2 = true := e_inb (by rw [e_nIt (by omega)]; omega) (by rw [e_nIt (by omega)]; omega)
  refine ok_i (fun _ => ok_i (fun _ => ok_i (fun _ => ?_) (fun z => absurd hin z)) (fun z => absurd hin z)) (fun z => absurd hin z)
  obtain ⟨⟨a, ha1, ha2⟩, hb⟩ := h6 (r1 - 1) (by omega)
  obtain ⟨t, ht1, ht2, ht3⟩ := t19 hb
  rw [ha1, ht1]
  have hA : qC M0 (mm_U (mm_U N 0 9 (N 0 9 + 1)) 0 42 (nI (r1 - 1))) n (p1 + 1) m1 (r1 - 1) := by
    have hB := qC_n rfl hN hlt
    obtain ⟨ht, hf, hc, ⟨h1, h2⟩, ⟨h3, h4⟩, h5, h6, h7⟩ := hB
    have e : ∀ j, j ≠ 42 → mm_U (mm_U N 0 9 (N 0 9 + 1)) 0 42 (nI (r1 - 1)) 0 j = (mm_U N 0 9 (N 0 9 + 1)) 0 j := fun j hj => by rw [e_U, if_neg (fun z => hj z.2)]
    refine ⟨tI_u ht (by omega), fr_U hf (by decide), fun j hj => ?_, ⟨?_, h2⟩, ⟨mm_U_same, by omega⟩, h5, fun j hj => h6 j (by omega), ?_⟩
    · rw [e j (by omega)]; exact hc j hj
    · rw [e 41 (by omega)]; exact h1
    · rw [e 44 (by omega)]; exact h7
  refine ok_b _ (qr_m hA ha2 ht2 ht3 (fun _ _ _ _ _ => trivial)) (fun x hx => ?_)
  obtain ⟨m2, hx, hm2⟩ := hx
  refine ok_i (fun _ => ok_s ⟨⟨p1 + 1, m2, r1 - 1, by omega, hx⟩, ?_⟩) (fun _ => ok_s ⟨p1 + 1, m2, r1 - 1, by omega, hx⟩)
  have a1 := hx.1.1
  have a2 := hN.1.1
  have a3 := hx.1.2.2
  rw [a1, a2, e_nIc (by omega), e_nIc (by omega)]
  omega
theorem qa_m {M0 M : mm_M} {n p m r : Nat} (h : qC M0 (mm_U M 0 44 1) n p m r) : ok (X12_readsAsked M) (fun x => ∃ p' m' r', p ≤ p' ∧ qC M0 x.2 n p' m' r' ∧ (x.1 = true → p < p')) := by
  have k40 : (40 : Int32).toInt = 40 := rfl
  have k97 : (97 : Int32).toInt = 97 := rfl
  unfold X12_readsAsked
  refine ok_b _ (qt_m h) (fun A hA => ?_)
  obtain ⟨p1, hp1, hA⟩ := hA
  refine ok_b _ (qo_m hA) (fun x hx => ?_)
  cases x with
  | inl x =>
    obtain ⟨hf, p2, r2, hp2, hx⟩ := hx
    exact ok_s ⟨p2, m, r2, by omega, hx, fun z => by rw [hf] at z; cases z⟩
  | inr N =>
    obtain ⟨p2, r2, hp2, hN⟩ := hx
    obtain ⟨e5, f5⟩ := he_m hN.1
    dsimp only
    unfold X12_isLetter
    simp only [e5, Option.bind_some]
    refine ok_i (fun cl => ok_i (fun c40 => ?_) (fun _ => ok_l (ok_s ⟨p2, m, r2, by omega, qC_u hN (by omega), fun z => by cases z⟩))) (fun _ => ok_l (ok_s ⟨p2, m, r2, by omega, qC_u hN (by omega), fun z => by cases z⟩))
    obtain ⟨hq0, hq7⟩ := rl_inI.mp cl
    have hlt : p2 < n := he_lt hN.1 (fun z => by rw [z] at hq0; exact absurd hq0 (by decide))
    obtain ⟨ht, hf, hc, ⟨h1, h2⟩, ⟨h3, h4⟩, h5, h6, h7⟩ := id hN
    obtain ⟨t, ht1, ht2, ht3⟩ := t19 h7
    rw [h1, ht1, nI_add, e_le, e_nIt (by omega), k40] at c40
    rw [h1, e_nIc (by omega), nI_1]
    have hin : mm_in (nI m) 40 = true := e_inb (by rw [e_nIt (by omega)]; omega) (by rw [e_nIt (by omega)]; omega)
    refine ok_i (fun _ => ?_) (fun z => absurd hin z)
    have es : nI (m + 1) - 1 = nI m := by
      have k1 : (1 : Int32).toInt = 1 := rfl
      rw [e_eq, e_sub (by rw [e_nIt (by omega), k1]; omega) (by rw [e_nIt (by omega), k1]; omega), e_nIt (by omega), e_nIt (by omega), k1]
      omega
    rw [es, ht1]
    have hB : qC M0 (mm_U (mm_U (mm_U N 23 m (hv N - 97)) 0 9 (N 0 9 + 1)) 0 41 (nI (m + 1))) n (p2 + 1) (m + 1) r2 := by
      have g0 : ∀ j, mm_U (mm_U (mm_U N 23 m (hv N - 97)) 0 9 (N 0 9 + 1)) 0 41 (nI (m + 1)) 0 j = if j = 41 then nI (m + 1) else if j = 9 then N 0 9 + 1 else N 0 j := by
        intro j
        simp only [e_U, true_and]
        simp
      refine ⟨⟨?_, ?_, by omega, ht.2.2.2⟩, fr_U (fr_U (fr_U hf (by decide)) (by decide)) (by decide), fun j hj => ?_, ⟨?_, by omega⟩, ⟨?_, h4⟩, fun j hj => ?_, fun j hj => ?_, ?_⟩
      · rw [g0, if_neg (by decide), if_pos rfl, ht.1]; exact nI_1 p2
      · rw [g0]; exact ht.2.1
      · rw [g0, if_neg (by omega), if_neg (by omega)]; exact hc j hj
      · rw [g0]; rfl
      · rw [g0]; exact h3
      · rw [mm_U_ne 23 (by decide), mm_U_ne 23 (by decide), e_U]
        by_cases cj : j = m
        · rw [if_pos ⟨rfl, cj⟩]
          exact ⟨hq0, hq7⟩
        · rw [if_neg (fun z => cj z.2)]
          exact h5 j (by omega)
      · obtain ⟨⟨b, hb1, hb2⟩, hb3⟩ := h6 j hj
        exact ⟨⟨b, hb1, by omega⟩, hb3⟩
      · rw [g0]; exact h7
    refine ok_b _ (qr_m hB (show m ≤ m + 1 by omega) ht2 ht3 (fun _ _ _ _ _ => trivial)) (fun y hy => ?_)
    obtain ⟨m3, hy, hm3⟩ := hy
    refine ok_i (fun _ => ok_w (qd_m hy) (fun w hw => ?_)) (fun _ => ok_s ⟨p2 + 1, m3, r2, by omega, hy, fun z => by cases z⟩)
    obtain ⟨p4, m4, r4, hp4, hw⟩ := hw
    exact ⟨p4, m4, r4, by omega, hw, fun _ => by omega⟩
theorem qx_m {M0 : mm_M} {n : Nat} (hn : n ≤ 240) : ok (X12_readsCensus (nI n) M0) (fun x => ∃ N p m r, qC M0 N n p m r ∧ x.2 = mm_U N 0 8 0) := by
  have hA : qC M0 (mm_U (mm_U (mm_U (X12_beginsText (nI n) M0) 0 41 0) 0 42 0) 0 44 1) n 0 0 0 := by
    have g0 : ∀ j, mm_U (mm_U (mm_U (X12_beginsText (nI n) M0) 0 41 0) 0 42 0) 0 44 1 0 j = if j = 44 then 1 else if j = 42 then 0 else if j = 41 then 0 else (X12_beginsText (nI n) M0) 0 j := by
      intro j
      simp only [e_U, true_and]
    have hb := bt_m (M := M0) (x := nI n) rfl hn
    refine ⟨⟨?_, ?_, by omega, hn⟩, ?_, fun j hj => ?_, ⟨?_, by omega⟩, ⟨?_, by omega⟩, fun j hj => by omega, fun j hj => by omega, ?_⟩
    · rw [g0]; exact hb.1
    · rw [g0]; exact hb.2.1
    · unfold X12_beginsText
      exact fr_U (fr_U (fr_U (fr_U (fr_U (fr_U (fr_U fr_rfl (by decide)) (by decide)) (by decide)) (by decide)) (by decide)) (by decide)) (by decide)
    · rw [g0, if_neg (by omega), if_neg (by omega), if_neg (by omega)]
      unfold X12_beginsText
      simp only [e_U, true_and]
      rw [if_neg (by omega), if_neg (by omega), if_neg (by omega), if_neg (by omega)]
    · rw [g0]; exact nI_0.symm
    · rw [g0]; exact nI_0.symm
    · rw [g0, if_pos rfl]; exact ⟨by decide, by decide⟩
  unfold X12_readsCensus
  refine ok_l (ok_b _ (qa_m hA) (fun y hy => ?_))
  obtain ⟨p1, m1, r1, -, hy, -⟩ := hy
  refine ok_lp (fun s : Bool × mm_M => ∃ p m r, qC M0 s.2 n p m r) (fun s => (if s.1 = true then 1 else 0) + 2 * (241 - Int32.toNatClampNeg (s.2 0 9))) _ ⟨p1, m1, r1, hy⟩ (by split <;> omega) ?_
  rintro ⟨b, N⟩ ⟨p2, m2, r2, hN⟩
  dsimp only at hN
  have go : b = true → ok ((X12_readsAsked N).bind fun y8 => some (.inl (y8.1, y8.2))) (sm (fun s' : Bool × mm_M => (∃ p m r, qC M0 s'.2 n p m r) ∧ (if s'.1 = true then 1 else 0) + 2 * (241 - Int32.toNatClampNeg (s'.2 0 9)) < (if b = true then 1 else 0) + 2 * (241 - Int32.toNatClampNeg (N 0 9))) (fun x : Bool × mm_M => ∃ N p m r, qC M0 N n p m r ∧ x.2 = mm_U N 0 8 0)) := by
    intro hb
    refine ok_b _ (qa_m (qC_44 hN ⟨by decide, by decide⟩)) (fun z hz => ok_s ?_)
    obtain ⟨p3, m3, r3, hp3, hz, hlt⟩ := hz
    refine ⟨⟨p3, m3, r3, hz⟩, ?_⟩
    have a1 := hz.1.1
    have a2 := hN.1.1
    have a3 := hz.1.2.2
    dsimp only
    rw [a1, a2, e_nIc (by omega), e_nIc (by omega), if_pos hb]
    by_cases c : z.1 = true
    · rw [if_pos c]
      have := hlt c
      omega
    · rw [if_neg c]
      omega
  unfold X12_readsCensus_l20
  exact ok_i (fun cb => ok_i (fun _ => go cb) (fun _ => ok_i (fun _ => ok_s ⟨N, p2, m2, r2, hN, rfl⟩) (fun _ => go cb))) (fun _ => ok_s ⟨N, p2, m2, r2, hN, rfl⟩)
