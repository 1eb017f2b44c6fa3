/-! THE REFERENCE READS A VALLEY -/
def gV (M0 M : mm_M) (n p : Nat) : Prop := tI M n p ∧ fr [0, 21, 22] M0 M ∧ (∀ k, k < 9 ∨ (16 < k ∧ (k < 33 ∨ 36 < k)) → M 0 k = M0 0 k) ∧ ∀ i, i < 80 → rl_r (M 21 i) 0 9 ∧ rl_r (M 22 i) 0 9
def gN (M : mm_M) : Prop := rl_r (M 0 33) 2 10 ∧ ∀ q s : Nat, q < 8 → (s : Int) < (M 0 33).toInt → (M 22 (10 * q + s)).toInt < (M 0 33).toInt
def gX (M0 M : mm_M) (n p : Nat) : Prop := gV M0 M n p ∧ gN M
theorem gV_u {M0 M : mm_M} {n p k : Nat} {v : Int32} (h : gV M0 M n p) (hk : k = 11 ∨ k = 33 ∨ k = 34 ∨ k = 35 ∨ k = 36) : gV M0 (mm_U M 0 k v) n p := by
  obtain ⟨ht, hf, hc, hv⟩ := h
  refine ⟨tI_u ht (by omega), fr_U hf (by decide), fun j hj => ?_, hv⟩
  rw [e_U, if_neg (fun z => by have := z.2; omega)]
  exact hc j hj
theorem gV_n {M0 M : mm_M} {n p : Nat} (h : gV M0 M n p) (c : p < n) : gV M0 (mm_U M 0 9 (M 0 9 + 1)) n (p + 1) := by
  obtain ⟨ht, hf, hc, hv⟩ := h
  refine ⟨tI_n ht c, fr_U hf (by decide), fun j hj => ?_, hv⟩
  rw [e_U, if_neg (fun z => by have := z.2; omega)]
  exact hc j hj
theorem gX_u {M0 M : mm_M} {n p k : Nat} {v : Int32} (h : gX M0 M n p) (hk : k = 11 ∨ k = 34 ∨ k = 35 ∨ k = 36) : gX M0 (mm_U M 0 k v) n p := by
  refine ⟨gV_u h.1 (by omega), ?_⟩
  have e : mm_U M 0 k v 0 33 = M 0 33 := by rw [e_U, if_neg (fun z => by have := z.2; omega)]
  unfold gN
  rw [e, mm_U_ne 22 (by decide)]
  exact h.2
theorem gX_n {M0 M : mm_M} {n p : Nat} (h : gX M0 M n p) (c : p < n) : gX M0 (mm_U M 0 9 (M 0 9 + 1)) n (p + 1) := ⟨gV_n h.1 c, h.2⟩
/-- the table of a draft that no rule has told -/
def gCl (M : mm_M) : Prop := ∀ q s : Nat, q < 8 → s < 10 → (M 22 (10 * q + s)).toInt = s
theorem vz_m {M0 : mm_M} {n : Nat} (h : tI M0 n 0) : ok (mm_loop X12_valley_l33 mm_fuel (0, mm_U M0 0 34 0)) (fun M => gV M0 M n 0 ∧ gCl M) := by
  have k80 : (80 : Int32).toInt = 80 := rfl
  refine ok_lp (fun s : Int32 × mm_M => ∃ i : Nat, i ≤ 80 ∧ s.1 = nI i ∧ fr [21, 22] (mm_U M0 0 34 0) s.2 ∧ ∀ j, j < i → s.2 21 j = 0 ∧ s.2 22 j = nI j - nI j / 10 * 10) (fun s => 80 - Int32.toNatClampNeg s.1) _ ⟨0, by omega, nI_0.symm, fr_rfl, fun j hj => by omega⟩ (by omega) ?_
  rintro ⟨x, N⟩ ⟨i, hi, hx, hf, hj⟩
  dsimp only at hx hf hj
  subst hx
  unfold X12_valley_l33
  refine ok_i (fun c => ok_s ?_) (fun c => ?_)
  · dsimp only at c
    rw [e_le, e_nIt (by omega)] at c
    have hi80 : i = 80 := by omega
    subst hi80
    have e0 : N 0 = (mm_U M0 0 34 0) 0 := hf 0 (by decide)
    refine ⟨⟨?_, fun b hb => ?_, fun k hk => ?_, fun j h => ?_⟩, fun q s hq hs => ?_⟩
    · unfold tI
      dsimp only
      rw [e0]
      exact tI_u h (by omega)
    · dsimp only
      simp only [List.mem_cons, not_or] at hb
      rw [hf b (by simp [hb]), mm_U_ne b hb.1]
    · dsimp only
      rw [e0, e_U, if_neg (fun z => by have := z.2; omega)]
    · obtain ⟨a, b⟩ := hj j h
      have := e_mod10 h
      refine ⟨by dsimp only; rw [a]; exact ⟨by decide, by decide⟩, ?_⟩
      dsimp only
      rw [b]
      unfold rl_r
      omega
    · have h8 : 10 * q + s < 80 := by omega
      dsimp only
      rw [(hj _ h8).2, e_mod10 h8]
      omega
  · dsimp only at c
    rw [e_le, e_nIt (by omega)] at c
    have hin : mm_in (nI i) 80 = true := e_inb (by rw [e_nIt (by omega)]; omega) (by rw [e_nIt (by omega)]; omega)
    refine ok_i (fun _ => ok_i (fun _ => ok_s ?_) (fun z => absurd hin z)) (fun z => absurd hin z)
    dsimp only
    refine ⟨⟨i + 1, by omega, nI_1 i, fr_U (fr_U hf (by decide)) (by decide), fun j h => ?_⟩, ?_⟩
    · dsimp only
      rw [e_nIc (by omega), mm_U_ne 21 (by decide), e_U, e_U]
      by_cases cj : j = i
      · subst cj
        rw [if_pos ⟨rfl, rfl⟩, if_pos ⟨rfl, rfl⟩]
        exact ⟨rfl, rfl⟩
      · rw [if_neg (fun z => cj z.2), if_neg (fun z => cj z.2), mm_U_ne 22 (by decide)]
        exact hj j (by omega)
    · show 80 - Int32.toNatClampNeg (nI i + 1) < 80 - Int32.toNatClampNeg (nI i)
      rw [nI_1, e_nIc (by omega), e_nIc (by omega)]
      omega
theorem sm_m {M0 M : mm_M} {n : Nat} (h : gV M0 M n 0 ∧ gCl M) : ok (X12_readsStates M) (fun r => ∃ p, gV M0 r.2 n p ∧ (r.1 = true → gN r.2)) := by
  have k2 : (2 : Int32).toInt = 2 := rfl
  have k10 : (10 : Int32).toInt = 10 := rfl
  obtain ⟨b, e, hb⟩ := dg_m h.1.1
  unfold X12_readsStates
  simp only [e, Option.bind_some]
  refine ok_i (fun cb => ?_) (fun _ => ok_l (ok_s ⟨0, gV_u h.1 (Or.inl rfl), fun z => by cases z⟩))
  refine ok_b (sm (fun r : Bool × mm_M => (∃ p, gV M0 r.2 n p) ∧ r.1 = false) (fun N : mm_M => ∃ p, gV M0 N n p ∧ gCl N)) ?_ (fun r hr => ?_)
  · refine ok_lp (fun s : mm_M => ∃ p, gV M0 s n p ∧ gCl s) (fun s => 241 - Int32.toNatClampNeg (s 0 9)) _ ⟨0, gV_u h.1 (by omega), h.2⟩ (by omega) ?_
    rintro N ⟨p, hN, hC⟩
    obtain ⟨b2, e2, hb2⟩ := dg_m hN.1
    obtain ⟨e3, f3⟩ := he_m hN.1
    unfold X12_readsStates_l27
    simp only [e2, Option.bind_some]
    refine ok_i (fun c2 => ok_i (fun _ => ok_l (ok_s ⟨⟨p, gV_u hN (Or.inl rfl)⟩, rfl⟩)) (fun _ => ?_)) (fun _ => ok_s ⟨p, hN, hC⟩)
    simp only [e3, Option.bind_some]
    have hp := (hb2 c2).1
    have hg : gV M0 (mm_U (mm_U N 0 33 (10 * N 0 33 + hv N - 48)) 0 9 (N 0 9 + 1)) n (p + 1) := by
      have := gV_n (gV_u (k := 33) (v := 10 * N 0 33 + hv N - 48) hN (by omega)) hp
      have e9 : mm_U N 0 33 (10 * N 0 33 + hv N - 48) 0 9 = N 0 9 := by rw [e_U, if_neg (fun z => by have := z.2; omega)]
      rw [e9] at this
      exact this
    refine ok_s ⟨⟨p + 1, hg, hC⟩, ?_⟩
    have a1 := hg.1.1
    have a2 := hN.1.1
    have a3 := hN.1.2.2.2
    rw [a1, a2, e_nIc (by omega), e_nIc (by omega)]
    omega
  · cases r with
    | inl r => exact ok_s (by obtain ⟨⟨p, hp⟩, hf⟩ := hr; exact ⟨p, hp, fun z => by rw [hf] at z; cases z⟩)
    | inr N =>
      obtain ⟨p, hN, hC⟩ := hr
      refine ok_i (fun c => ok_s ⟨p, hN, fun _ => ?_⟩) (fun _ => ok_l (ok_i (fun z => by cases z) (fun _ => ok_s ⟨p, gV_u hN (Or.inl rfl), fun z => by cases z⟩)))
      have hc := rl_inI.mp c
      refine ⟨⟨by dsimp only; omega, by dsimp only; omega⟩, fun q s hq hs => ?_⟩
      dsimp only at hs ⊢
      rw [hC q s hq (by omega)]
      exact hs
/-- a rule's outcome is told -/
theorem ru_m {M0 M : mm_M} {n p : Nat} (h : gX M0 M n p) {q s x a : Int32} (hq0 : 0 ≤ q.toInt) (hq : q.toInt < 8) (hx : x = -1 ∨ (0 ≤ x.toInt ∧ x.toInt < (M 0 33).toInt)) (ha : rl_r a 0 9) : ok (X12_rules q s x a M) (fun N => gX M0 N n p) := by
  have k10 : (10 : Int32).toInt = 10 := rfl
  have h33 := h.2.1
  obtain ⟨h33a, h33b⟩ := h33
  unfold X12_rules
  refine ok_b (fun N => gX M0 N n p) ?_ (fun N hN => ok_i (fun _ => ok_s hN) (fun _ => ok_s (gX_u hN (by omega))))
  refine ok_lp (fun t : Int32 × mm_M => gX M0 t.2 n p ∧ t.2 0 33 = M 0 33 ∧ 0 ≤ t.1.toInt ∧ t.1.toInt ≤ 10) (fun t => (10 - t.1.toInt).toNat) _ ⟨h, rfl, by show 0 ≤ (0 : Int32).toInt; decide, by show (0 : Int32).toInt ≤ 10; decide⟩ (by show ((10 : Int) - (0 : Int32).toInt).toNat < 4000000000; decide) ?_
  rintro ⟨i, N⟩ ⟨hN, h3, hi0, hi1⟩
  dsimp only at hN h3 hi0 hi1
  have ei : (i + 1).toInt = i.toInt + 1 := e_inc hi0 hi1 (by omega)
  unfold X12_rules_l3
  refine ok_i (fun _ => ok_s hN) (fun c => ?_)
  dsimp only at c
  rw [e_le, h3] at c
  have fin : ∀ N' : mm_M, gX M0 N' n p → N' 0 33 = M 0 33 → sm (fun t' : Int32 × mm_M => (gX M0 t'.2 n p ∧ t'.2 0 33 = M 0 33 ∧ 0 ≤ t'.1.toInt ∧ t'.1.toInt ≤ 10) ∧ (10 - t'.1.toInt).toNat < (10 - i.toInt).toNat) (fun N => gX M0 N n p) (.inl (i + 1, N')) := fun N' h1 h2 => ⟨⟨h1, h2, by first | omega | (dsimp only; omega), by first | omega | (dsimp only; omega)⟩, by first | omega | (dsimp only; omega)⟩
  have e1 : ((10 : Int32) * q).toInt = 10 * q.toInt := by rw [e_mul (by rw [k10]; omega) (by rw [k10]; omega), k10]
  have e2 : ((10 : Int32) * q + i).toInt = 10 * q.toInt + i.toInt := by rw [e_add (by omega) (by omega), e1]
  have hin : mm_in ((10 : Int32) * q + i) 80 = true := e_inb (by omega) (by omega)
  have ec := e_cl (show 0 ≤ ((10 : Int32) * q + i).toInt by omega)
  have j63 : ∀ z : Int32, 0 ≤ z.toInt → z.toInt < (M 0 33).toInt → ok (X12_rules_j63l3 q s x a i ((10 : Int32) * q + i) z N) (sm (fun t' : Int32 × mm_M => (gX M0 t'.2 n p ∧ t'.2 0 33 = M 0 33 ∧ 0 ≤ t'.1.toInt ∧ t'.1.toInt ≤ 10) ∧ (10 - t'.1.toInt).toNat < (10 - i.toInt).toNat) (fun N => gX M0 N n p)) := by
    intro z hz0 hz
    unfold X12_rules_j63l3
    refine ok_i (fun _ => ok_i (fun _ => ok_s (fin _ ?_ h3)) (fun z => absurd hin z)) (fun z => absurd hin z)
    obtain ⟨⟨ht, hf, hc, hv⟩, hg1, hg2⟩ := hN
    refine ⟨⟨tI_u (tI_u ht (by omega)) (by omega), fr_U (fr_U hf (by decide)) (by decide), hc, fun j hj => ?_⟩, hg1, fun q' s' hq' hs' => ?_⟩
    · by_cases cj : j = Int32.toNatClampNeg ((10 : Int32) * q + i)
      · rw [cj, mm_U_same, mm_U_ne 22 (by decide), mm_U_same]
        exact ⟨ha, ⟨hz0, by omega⟩⟩
      · have a1 : mm_U (mm_U N 22 (Int32.toNatClampNeg ((10 : Int32) * q + i)) z) 21 (Int32.toNatClampNeg ((10 : Int32) * q + i)) a 21 j = N 21 j := by rw [e_U, if_neg (fun z => cj z.2), mm_U_ne 21 (by decide)]
        have a2 : mm_U (mm_U N 22 (Int32.toNatClampNeg ((10 : Int32) * q + i)) z) 21 (Int32.toNatClampNeg ((10 : Int32) * q + i)) a 22 j = N 22 j := by rw [mm_U_ne 22 (by decide), e_U, if_neg (fun z => cj z.2)]
        rw [a1, a2]
        exact hv j hj
    · have hs' : (s' : Int) < (N 0 33).toInt := hs'
      show (mm_U (mm_U N 22 _ z) 21 _ a 22 (10 * q' + s')).toInt < (N 0 33).toInt
      rw [mm_U_ne 22 (by decide), e_U]
      by_cases cj : 10 * q' + s' = Int32.toNatClampNeg ((10 : Int32) * q + i)
      · rw [if_pos ⟨rfl, cj⟩, h3]
        exact hz
      · rw [if_neg (fun z => cj z.2)]
        exact hg2 q' s' hq' hs'
  have j41 : ok (X12_rules_j41l3 q s x a i N) (sm (fun t' : Int32 × mm_M => (gX M0 t'.2 n p ∧ t'.2 0 33 = M 0 33 ∧ 0 ≤ t'.1.toInt ∧ t'.1.toInt ≤ 10) ∧ (10 - t'.1.toInt).toNat < (10 - i.toInt).toNat) (fun N => gX M0 N n p)) := by
    unfold X12_rules_j41l3
    refine ok_i (fun _ => j63 i hi0 (by omega)) (fun cx => ?_)
    rcases hx with hx | hx
    · exact absurd hx cx
    · exact j63 x hx.1 hx.2
  exact ok_i (fun _ => ok_i (fun _ => ok_s (fin _ hN h3)) (fun _ => j41)) (fun _ => ok_i (fun _ => j41) (fun _ => ok_s (fin _ hN h3)))
theorem sr_m {M0 M : mm_M} {n p : Nat} (h : gX M0 M n p) {q : Int32} (hq0 : 0 ≤ q.toInt) (hq : q.toInt < 8) : ok (X12_readsStateRule q M) (fun r => ∃ p', p ≤ p' ∧ gX M0 r.2 n p') := by
  have k48 : (48 : Int32).toInt = 48 := rfl
  have km : (-1 : Int32).toInt = -1 := rfl
  have wr : ∀ (N : mm_M) (p' : Nat) (a b : Int32), p ≤ p' → gX M0 N n p' → ok (mm_let (X12_wrongAt a b N) fun y => some (y.1, y.2)) (fun r => ∃ p', p ≤ p' ∧ gX M0 r.2 n p') := fun N p' a b hp hN => ⟨_, rfl, p', hp, gX_u hN (Or.inl rfl)⟩
  have j159 : ∀ (x2 x3 : Int32) (N : mm_M) (p1 : Nat), p ≤ p1 → gX M0 N n p1 → p1 < n → (x3 = -1 ∨ 0 ≤ x3.toInt) → ok (X12_readsStateRule_j159 q x2 x3 N) (fun r => ∃ p', p ≤ p' ∧ gX M0 r.2 n p') := by
    intro x2 x3 N p1 hp hN hlt hx
    unfold X12_readsStateRule_j159
    refine ok_i (fun c3 => ?_) (fun _ => wr N p1 _ _ hp hN)
    rw [e_lt] at c3
    have hN1 := gX_n hN hlt
    have e33 : (mm_U N 0 9 (N 0 9 + 1)) 0 33 = N 0 33 := by rw [e_U, if_neg (fun z => by have := z.2; omega)]
    generalize mm_U N 0 9 (N 0 9 + 1) = A at hN1 e33
    refine ok_b (fun r => (r.1 = true → r.2 = mm_U A 0 9 (A 0 9 + 1) ∧ p1 + 1 < n) ∧ (r.1 = false → ∃ v, r.2 = mm_U A 0 11 v)) (ta_m hN1.1.1 (by decide) (fun c => ⟨fun _ => ⟨rfl, c⟩, fun z => by cases z⟩) (fun v => ⟨(fun z => by cases z), fun _ => ⟨v, rfl⟩⟩)) (fun r hr => ?_)
    refine ok_i (fun c => ?_) (fun c => ?_)
    · obtain ⟨e, hlt2⟩ := hr.1 c
      have hB := gX_n hN1 hlt2
      have e33' : (mm_U A 0 9 (A 0 9 + 1)) 0 33 = A 0 33 := by rw [e_U, if_neg (fun z => by have := z.2; omega)]
      rw [e]
      generalize mm_U A 0 9 (A 0 9 + 1) = B at hB e33'
      obtain ⟨b, e4, hb⟩ := dg_m hB.1.1
      obtain ⟨e5, f5⟩ := he_m hB.1.1
      simp only [e4, Option.bind_some]
      refine ok_i (fun cb => ?_) (fun _ => wr B _ _ _ (by omega) hB)
      simp only [e5, Option.bind_some]
      obtain ⟨g1, g2, g3⟩ := hb cb
      have ed : (hv B - 48).toInt = (hv B).toInt - 48 := by rw [e_sub (by rw [k48]; omega) (by rw [k48]; omega), k48]
      refine ok_b (fun N => gX M0 N n (p1 + 1 + 1)) (ru_m hB hq0 hq ?_ ⟨by omega, by omega⟩) (fun C hC => ?_)
      · rcases hx with hx | hx
        · exact Or.inl hx
        · exact Or.inr ⟨hx, by rw [e33', e33]; exact c3⟩
      have hD := gX_n hC g1
      exact ok_i (fun _ => ok_s ⟨p1 + 1 + 1 + 1, by omega, gX_u hD (by omega)⟩) (fun _ => ok_s ⟨p1 + 1 + 1 + 1, by omega, gX_u hD (by omega)⟩)
    · obtain ⟨v, e⟩ := hr.2 (by simpa using c)
      rw [e]
      exact ok_s ⟨p1 + 1, by omega, gX_u hN1 (by omega)⟩
  have j136 : ∀ (x2 z : Int32) (N : mm_M) (p1 : Nat), p ≤ p1 → gX M0 N n p1 → ((z = -1 ∧ p1 < n) ∨ z = hv N - 48) → ok (X12_readsStateRule_j136 q x2 z N) (fun r => ∃ p', p ≤ p' ∧ gX M0 r.2 n p') := by
    intro x2 z N p1 hp hN hz
    obtain ⟨b, e4, hb⟩ := dg_m hN.1.1
    unfold X12_readsStateRule_j136
    refine ok_i (fun cz => j159 _ _ N p1 hp hN ?_ (Or.inl cz)) (fun cz => ?_)
    · rcases hz with hz | hz
      · exact hz.2
      · refine he_lt hN.1.1 (fun e => ?_)
        rw [e, cz] at hz
        exact absurd hz (by decide)
    · simp only [e4, Option.bind_some]
      refine ok_i (fun cb => j159 _ _ N p1 hp hN (hb cb).1 (Or.inr ?_)) (fun _ => wr N _ _ _ hp hN)
      obtain ⟨g1, g2, g3⟩ := hb cb
      rcases hz with hz | hz
      · exact absurd hz.1 cz
      · rw [hz, e_sub (by rw [k48]; omega) (by rw [k48]; omega), k48]
        omega
  have j95 : ∀ (x2 : Int32), p < n → ok (X12_readsStateRule_j95 q x2 M) (fun r => ∃ p', p ≤ p' ∧ gX M0 r.2 n p') := by
    intro x2 hlt
    have hN1 := gX_n h hlt
    unfold X12_readsStateRule_j95
    generalize mm_U M 0 9 (M 0 9 + 1) = A at hN1
    refine ok_b (fun r => (r.1 = true → r.2 = mm_U A 0 9 (A 0 9 + 1) ∧ p + 1 < n) ∧ (r.1 = false → ∃ v, r.2 = mm_U A 0 11 v)) (ta_m hN1.1.1 (by decide) (fun c => ⟨fun _ => ⟨rfl, c⟩, fun z => by cases z⟩) (fun v => ⟨(fun z => by cases z), fun _ => ⟨v, rfl⟩⟩)) (fun r hr => ?_)
    refine ok_i (fun c => ?_) (fun c => ?_)
    · obtain ⟨e, hlt2⟩ := hr.1 c
      have hB := gX_n hN1 hlt2
      rw [e]
      generalize mm_U A 0 9 (A 0 9 + 1) = B at hB
      obtain ⟨e5, f5⟩ := he_m hB.1.1
      simp only [e5, Option.bind_some]
      refine ok_i (fun c46 => j136 _ _ B _ (by omega) hB (Or.inl ⟨rfl, he_lt hB.1.1 (by rw [c46]; decide)⟩)) (fun _ => j136 _ _ B _ (by omega) hB (Or.inr rfl))
    · obtain ⟨v, e⟩ := hr.2 (by simpa using c)
      rw [e]
      exact ok_s ⟨p + 1, by omega, gX_u hN1 (by omega)⟩
  have j43 : ∀ (x2 : Int32), p < n → ok (X12_readsStateRule_j43 q x2 M) (fun r => ∃ p', p ≤ p' ∧ gX M0 r.2 n p') := by
    intro x2 hlt
    unfold X12_readsStateRule_j43 X12_readsStateRule_j84
    exact ok_i (fun _ => ok_i (fun _ => ok_i (fun _ => j95 _ hlt) (fun _ => ok_i (fun _ => wr M p _ _ (Nat.le_refl _) h) (fun _ => j95 _ hlt))) (fun _ => wr M p _ _ (Nat.le_refl _) h)) (fun _ => wr M p _ _ (Nat.le_refl _) h)
  have j20 : ∀ (z : Int32), ((z = -1 ∧ p < n) ∨ z = hv M - 48) → ok (X12_readsStateRule_j20 q z M) (fun r => ∃ p', p ≤ p' ∧ gX M0 r.2 n p') := by
    intro z hz
    obtain ⟨b, e4, hb⟩ := dg_m h.1.1
    unfold X12_readsStateRule_j20
    refine ok_i (fun cz => j43 _ ?_) (fun cz => ?_)
    · rcases hz with hz | hz
      · exact hz.2
      · refine he_lt h.1.1 (fun e => ?_)
        rw [e, cz] at hz
        exact absurd hz (by decide)
    · simp only [e4, Option.bind_some]
      exact ok_i (fun cb => j43 _ (hb cb).1) (fun _ => wr M p _ _ (Nat.le_refl _) h)
  obtain ⟨e5, f5⟩ := he_m h.1.1
  unfold X12_readsStateRule
  simp only [e5, Option.bind_some]
  exact ok_i (fun c => j20 _ (Or.inl ⟨rfl, he_lt h.1.1 (by rw [c]; decide)⟩)) (fun _ => j20 _ (Or.inr rfl))
theorem ln_m {M0 M : mm_M} {n p : Nat} (h : gX M0 M n p) : ok (X12_readsLine M) (fun r => ∃ p', gX M0 r.2 n p' ∧ p ≤ p' ∧ (r.1 = true → p < p')) := by
  have k97 : (97 : Int32).toInt = 97 := rfl
  unfold X12_readsLine
  refine ok_b (fun r => (r.1 = true → r.2 = mm_U M 0 9 (M 0 9 + 1) ∧ p < n) ∧ (r.1 = false → ∃ v, r.2 = mm_U M 0 11 v)) (ta_m h.1.1 (by decide) (fun c => ⟨fun _ => ⟨rfl, c⟩, fun z => by cases z⟩) (fun v => ⟨(fun z => by cases z), fun _ => ⟨v, rfl⟩⟩)) (fun r hr => ?_)
  refine ok_i (fun c => ?_) (fun c => ?_)
  · obtain ⟨e, hlt⟩ := hr.1 c
    have hA := gX_n h hlt
    rw [e]
    generalize mm_U M 0 9 (M 0 9 + 1) = A at hA
    obtain ⟨e5, f5⟩ := he_m hA.1.1
    unfold X12_isLetter
    simp only [e5, Option.bind_some]
    refine ok_i (fun cl => ?_) (fun _ => ok_l (ok_s ⟨p + 1, gX_u hA (by omega), by omega, fun z => by cases z⟩))
    have hq := rl_inI.mp cl
    have hq0 : 0 ≤ (hv A - 97).toInt := hq.1
    have hq7 : (hv A - 97).toInt < 8 := by have := hq.2; have : (7 : Int32).toInt = 7 := rfl; omega
    have hlt2 : p + 1 < n := he_lt hA.1.1 (fun z => by rw [z] at hq0; exact absurd hq0 (by decide))
    refine ok_i (fun _ => ok_l (ok_s ⟨p + 1, gX_u hA (by omega), by omega, fun z => by cases z⟩)) (fun _ => ?_)
    have hB : gX M0 (mm_U (mm_U A 0 34 ((A 0 34) ||| ((1 : Int32) <<< ((hv A - 97) &&& 31)))) 0 9 (A 0 9 + 1)) n (p + 1 + 1) := by
      have := gX_n (gX_u (k := 34) (v := (A 0 34) ||| ((1 : Int32) <<< ((hv A - 97) &&& 31))) hA (by omega)) hlt2
      have e9 : mm_U A 0 34 ((A 0 34) ||| ((1 : Int32) <<< ((hv A - 97) &&& 31))) 0 9 = A 0 9 := by rw [e_U, if_neg (fun z => by have := z.2; omega)]
      rw [e9] at this
      exact this
    generalize hv A - 97 = q at hq0 hq7 hB
    generalize mm_U (mm_U A 0 34 ((A 0 34) ||| ((1 : Int32) <<< (q &&& 31)))) 0 9 (A 0 9 + 1) = B at hB
    refine ok_b (fun r => (r.1 = true → r.2 = mm_U B 0 9 (B 0 9 + 1) ∧ p + 1 + 1 < n) ∧ (r.1 = false → ∃ v, r.2 = mm_U B 0 11 v)) (ta_m hB.1.1 (by decide) (fun c => ⟨fun _ => ⟨rfl, c⟩, fun z => by cases z⟩) (fun v => ⟨(fun z => by cases z), fun _ => ⟨v, rfl⟩⟩)) (fun r2 hr2 => ?_)
    refine ok_i (fun c2 => ?_) (fun c2 => ?_)
    · obtain ⟨e2, hlt3⟩ := hr2.1 c2
      have hC := gX_n hB hlt3
      rw [e2]
      generalize mm_U B 0 9 (B 0 9 + 1) = C at hC
      have hC2 := gX_u (k := 36) (v := 0) (gX_u (k := 35) (v := 0) hC (by omega)) (by omega)
      refine ok_b _ (sr_m hC2 hq0 hq7) (fun r3 hr3 => ?_)
      obtain ⟨p3, hp3, h3⟩ := hr3
      refine ok_lp (fun s : Bool × mm_M => ∃ p', gX M0 s.2 n p' ∧ p + 3 ≤ p') (fun s => (if s.1 = true then 1 else 0) + 2 * (241 - Int32.toNatClampNeg (s.2 0 9))) _ ⟨p3, h3, by omega⟩ (by split <;> omega) ?_
      rintro ⟨b, N⟩ ⟨p4, h4, hp4⟩
      dsimp only at h4
      unfold X12_readsLine_l107
      refine ok_i (fun cb => ?_) (fun _ => ok_s ⟨p4, h4, by omega, fun _ => by omega⟩)
      obtain ⟨e6, f6⟩ := he_m h4.1.1
      dsimp only
      simp only [e6, Option.bind_some]
      refine ok_i (fun c44 => ?_) (fun _ => ok_s ⟨p4, h4, by omega, fun _ => by omega⟩)
      have hlt4 := he_lt h4.1.1 (by rw [c44]; decide)
      refine ok_b _ (sr_m (gX_n h4 hlt4) hq0 hq7) (fun r5 hr5 => ok_s ?_)
      obtain ⟨p5, hp5, h5⟩ := hr5
      refine ⟨⟨p5, h5, by omega⟩, ?_⟩
      have a1 := h5.1.1.1
      have a2 := h4.1.1.1
      have a3 := h5.1.1.2.2
      dsimp only at cb ⊢
      rw [a1, a2, e_nIc (by omega), e_nIc (by omega), if_pos cb]
      split <;> omega
    · obtain ⟨v, e2⟩ := hr2.2 (by simpa using c2)
      rw [e2]
      exact ok_s ⟨p + 1 + 1, gX_u hB (by omega), by omega, fun z => by cases z⟩
  · obtain ⟨v, e⟩ := hr.2 (by simpa using c)
    rw [e]
    exact ok_s ⟨p, gX_u h (by omega), by omega, fun z => by cases z⟩
/-- the reading of a valley, up to its end: the draft, if it is good -/
theorem vl_m {M0 M : mm_M} {n p : Nat} {b : Bool} (h : gV M0 M n p) (hb : b = true → gN M) : ok (mm_loop X12_valley_l67 mm_fuel (b, M)) (fun r => ∃ p', gV M0 r.2 n p' ∧ (r.1 = true → gN r.2)) := by
  refine ok_lp (fun s : Bool × mm_M => ∃ p', gV M0 s.2 n p' ∧ (s.1 = true → gN s.2)) (fun s => (if s.1 = true then 1 else 0) + 2 * (241 - Int32.toNatClampNeg (s.2 0 9))) _ ⟨p, h, hb⟩ (by split <;> omega) ?_
  rintro ⟨b, N⟩ ⟨p4, h4, hb4⟩
  dsimp only at h4 hb4
  unfold X12_valley_l67
  refine ok_i (fun cb => ok_i (fun _ => ok_s ⟨p4, h4, hb4⟩) (fun _ => ok_b _ (ln_m ⟨h4, hb4 cb⟩) (fun r hr => ok_s ?_))) (fun _ => ok_s ⟨p4, h4, hb4⟩)
  obtain ⟨p5, h5, hp5, hlt⟩ := hr
  refine ⟨⟨p5, h5.1, fun _ => h5.2⟩, ?_⟩
  have a1 := h5.1.1.1
  have a2 := h4.1.1
  have a3 := h5.1.1.2.2
  dsimp only at cb ⊢
  rw [a1, a2, e_nIc (by omega), e_nIc (by omega), if_pos cb]
  by_cases c : r.1 = true
  · rw [if_pos c]
    have := hlt c
    omega
  · rw [if_neg c]
    omega
