/-! THE CLASS READS A LAW: it ends; what it writes of the draft -/
/-- the draft's details are numbers that a skip may take -/
def dI (M : mm_M) : Prop := 0 ≤ (M 20 4).toInt ∧ (M 20 4).toInt ≤ 256 ∧ ∀ i : Nat, (i : Int) < (M 20 4).toInt → -1 ≤ (M 25 i).toInt ∧ (M 25 i).toInt ≤ 1000000
def wI (M0 M : mm_M) : Prop := fr [1, 20, 21, 22, 23, 24, 25] M0 M ∧ dI M
theorem wI_1 {M0 : mm_M} : in1 (wI M0) := fun _ _ _ h => ⟨fr_U h.1 (by decide), h.2⟩
theorem wst {M0 M : mm_M} (h : wI M0 M) : wI M0 (X7_step M) := st_in wI_1 h
theorem wfl {M0 M : mm_M} {x y : Int32} (h : wI M0 M) : wI M0 (X7_fail x y M).2 := fl_in wI_1 h
theorem wtk {M0 M : mm_M} {x : Int32} (h : wI M0 M) : wI M0 (X7_take x M).2 := tk_in wI_1 h
theorem wI_add {M0 M : mm_M} {x y : Int32} (h : wI M0 M) (h1 : -1 ≤ y.toInt) (h2 : y.toInt ≤ 1000000) : wI M0 (X2_add x y M).2 ∧ -1 ≤ (X2_add x y M).1.toInt ∧ (X2_add x y M).1.toInt ≤ 256 := by
  obtain ⟨hf, d0, d1, d2⟩ := id h
  have k1 : (1 : Int32).toInt = 1 := rfl
  have k0 : (0 : Int32).toInt = 0 := rfl
  have k2 : (256 : Int32).toInt = 256 := rfl
  have es : (M 20 4 - 1).toInt = (M 20 4).toInt - 1 := by rw [e_sub (by rw [k1]; omega) (by rw [k1]; omega), k1]
  unfold X2_add
  by_cases c1 : M 20 4 < 0
  · rw [e_lt] at c1; omega
  · rw [if_neg c1]
    by_cases c2 : 256 ≤ M 20 4
    · rw [if_pos c2]
      exact ⟨h, by first | omega | (dsimp only; omega), by first | omega | (dsimp only; omega)⟩
    · rw [if_neg c2]
      rw [e_le] at c2
      have ea : (M 20 4 + 1).toInt = (M 20 4).toInt + 1 := e_inc d0 d1 (by omega)
      have eb : (M 20 4 + 1 - 1).toInt = (M 20 4).toInt := by rw [e_sub (by rw [k1]; omega) (by rw [k1]; omega), k1]; omega
      have ec := e_cl d0
      refine ⟨⟨fr_U (fr_U (fr_U hf (by decide)) (by decide)) (by decide), ?_, ?_, fun i hi => ?_⟩, ?_, ?_⟩
      · show 0 ≤ (M 20 4 + 1).toInt
        omega
      · show (M 20 4 + 1).toInt ≤ 256
        omega
      · have hi : (i : Int) < (M 20 4 + 1).toInt := hi
        dsimp only
        rw [mm_U_ne 25 (by decide), e_U]
        by_cases ci : i = Int32.toNatClampNeg (M 20 4)
        · rw [if_pos ⟨rfl, ci⟩]
          exact ⟨h1, h2⟩
        · rw [if_neg (fun z => ci z.2), mm_U_ne 25 (by decide)]
          exact d2 i (by omega)
      · dsimp only; omega
      · dsimp only; omega
theorem wad {M0 M : mm_M} (x : Int32) (h : wI M0 M) : wI M0 (X2_add x 0 M).2 := (wI_add (x := x) (y := 0) h (by decide) (by decide)).1
theorem wad1 {M0 M : mm_M} (x : Int32) (h : wI M0 M) : ok (mm_let (X2_add x 0 M) fun y => some (true, y.2)) (fun r => wI M0 r.2) := ⟨(true, (X2_add x 0 M).2), rfl, wad x h⟩
theorem wI_land {M0 M : mm_M} {x : Int32} (h : wI M0 M) : ok (X2_land x M) (wI M0) := by
  have k1 : (-1 : Int32).toInt = -1 := rfl
  have k0 : (0 : Int32).toInt = 0 := rfl
  unfold X2_land
  refine ok_lp (fun s : Int32 × Int32 × mm_M => wI M0 s.2.2) (fun s => s.2.1.toInt.toNat) _ h (by have := h.2.2.1; show (M 20 4).toInt.toNat < 4000000000; omega) ?_
  rintro ⟨a, b, N⟩ hN
  dsimp only at hN
  unfold X2_land_l7
  refine ok_i (fun _ => ok_s hN) (fun c1 => ok_i (fun _ => ok_s hN) (fun c2 => ok_i (fun _ => ok_s hN) (fun c3 => ok_s ?_)))
  dsimp only at c1 c2 c3 ⊢
  obtain ⟨hf, d0, d1, d2⟩ := hN
  rw [e_le] at c1
  have eb : (b + -1).toInt = b.toInt - 1 := by
    have := e_rng b
    rw [e_add (by rw [k1]; omega) (by rw [k1]; omega), k1]; omega
  refine ⟨⟨fr_U hf (by decide), d0, d1, fun i hi => ?_⟩, ?_⟩
  · show -1 ≤ (mm_U N 25 (Int32.toNatClampNeg a) (N 20 4) 25 i).toInt ∧ (mm_U N 25 (Int32.toNatClampNeg a) (N 20 4) 25 i).toInt ≤ 1000000
    rw [e_U]
    by_cases ci : i = Int32.toNatClampNeg a
    · rw [if_pos ⟨rfl, ci⟩]
      omega
    · rw [if_neg (fun z => ci z.2)]
      exact d2 i hi
  · show (b + -1).toInt.toNat < b.toInt.toNat
    omega
/-- the digits of a number -/
theorem wI_digits {M0 M : mm_M} {r0 : Int32 → Int32 → mm_M → Option (Bool × mm_M)} {r1 : Int32 → mm_M → Option (Bool × mm_M)} (h : wI M0 M) : ok (mm_loop (X3_readFactor_l118 r0 r1) mm_fuel (0, 0, M)) (fun y => wI M0 y.2 ∧ 0 ≤ y.1.toInt ∧ y.1.toInt ≤ 1000000) := by
  have k0 : (0 : Int32).toInt = 0 := rfl
  have k5 : (5 : Int32).toInt = 5 := rfl
  have k10 : (10 : Int32).toInt = 10 := rfl
  have k48 : (48 : Int32).toInt = 48 := rfl
  refine ok_lp (fun s : Int32 × Int32 × mm_M => wI M0 s.2.2 ∧ 0 ≤ s.1.toInt ∧ 0 ≤ s.2.1.toInt ∧ ((s.2.1.toInt = 0 ∧ s.1.toInt ≤ 0) ∨ (s.2.1.toInt = 1 ∧ s.1.toInt ≤ 9) ∨ (s.2.1.toInt = 2 ∧ s.1.toInt ≤ 99) ∨ (s.2.1.toInt = 3 ∧ s.1.toInt ≤ 999) ∨ (s.2.1.toInt = 4 ∧ s.1.toInt ≤ 9999) ∨ (s.2.1.toInt = 5 ∧ s.1.toInt ≤ 99999))) (fun s => (5 - s.2.1.toInt).toNat) _ ⟨h, by show 0 ≤ (0 : Int32).toInt; decide, by show 0 ≤ (0 : Int32).toInt; decide, Or.inl ⟨rfl, by show (0 : Int32).toInt ≤ 0; decide⟩⟩ (by show ((5 : Int) - (0 : Int32).toInt).toNat < 4000000000; decide) ?_
  rintro ⟨v, n, N⟩ ⟨hN, hv, hn, hc⟩
  dsimp only at hN hv hn hc
  unfold X3_readFactor_l118
  refine ok_i (fun _ => ok_s ⟨hN, hv, by first | omega | (dsimp only; omega)⟩) (fun c1 => ok_i (fun c2 => ok_l (ok_s ?_)) (fun _ => ok_s ⟨hN, hv, by first | omega | (dsimp only; omega)⟩))
  dsimp only at c1 c2 ⊢
  rw [e_le] at c1
  have hd := dg_in c2
  have en : (n + 1).toInt = n.toInt + 1 := e_inc (b := 5) hn (by omega) (by omega)
  have e1 : (v * 10).toInt = v.toInt * 10 := by rw [e_mul (by rw [k10]; omega) (by rw [k10]; omega), k10]
  have e2 : (v * 10 + N 1 4).toInt = v.toInt * 10 + (N 1 4).toInt := by rw [e_add (by omega) (by omega), e1]
  have e3 : (v * 10 + N 1 4 - 48).toInt = v.toInt * 10 + (N 1 4).toInt - 48 := by rw [e_sub (by rw [k48]; omega) (by rw [k48]; omega), k48, e2]
  refine ⟨⟨wst hN, ?_, ?_, ?_⟩, ?_⟩
  · show 0 ≤ (v * 10 + N 1 4 - 48).toInt
    omega
  · show 0 ≤ (n + 1).toInt
    omega
  · show ((n + 1).toInt = 0 ∧ (v * 10 + N 1 4 - 48).toInt ≤ 0) ∨ ((n + 1).toInt = 1 ∧ (v * 10 + N 1 4 - 48).toInt ≤ 9) ∨ ((n + 1).toInt = 2 ∧ (v * 10 + N 1 4 - 48).toInt ≤ 99) ∨ ((n + 1).toInt = 3 ∧ (v * 10 + N 1 4 - 48).toInt ≤ 999) ∨ ((n + 1).toInt = 4 ∧ (v * 10 + N 1 4 - 48).toInt ≤ 9999) ∨ ((n + 1).toInt = 5 ∧ (v * 10 + N 1 4 - 48).toInt ≤ 99999)
    omega
  · show (5 - (n + 1).toInt).toNat < (5 - n.toInt).toNat
    omega
theorem ix_le (x : Int32) : (mm_ix x).toInt ≤ 8 := by
  unfold mm_ix
  repeat' split
  all_goals decide
/-- numbers and factors, by the depth that is left -/
theorem wI_num (M0 : mm_M) : ∀ n : Nat, (∀ (x y : Int32) (M : mm_M), 0 ≤ x.toInt → x.toInt ≤ 6 → 3 * (7 - x.toInt) - (if y = 0 then 0 else 1) ≤ n → wI M0 M → ok (X3_readNumber n x y M) (fun r => wI M0 r.2)) ∧ (∀ (x : Int32) (M : mm_M), 0 ≤ x.toInt → x.toInt ≤ 6 → 3 * (7 - x.toInt) - 2 ≤ n → wI M0 M → ok (X3_readFactor n x M) (fun r => wI M0 r.2)) := by
  intro n
  have k0 : (0 : Int32).toInt = 0 := rfl
  have k1 : (1 : Int32).toInt = 1 := rfl
  have k6 : (6 : Int32).toInt = 6 := rfl
  have k240 : (240 : Int32).toInt = 240 := rfl
  induction n with
  | zero =>
    refine ⟨fun x y M h0 h6 hn => ?_, fun x M h0 h6 hn => ?_⟩
    · exfalso
      by_cases c : y = 0
      · rw [if_pos c] at hn; omega
      · rw [if_neg c] at hn; omega
    · exfalso
      omega
  | succ n ih =>
    obtain ⟨ih1, ih2⟩ := ih
    refine ⟨fun x y M h0 h6 hn hM => ?_, fun x M h0 h6 hn hM => ?_⟩
    · show ok (X3_readNumber_o (X3_readNumber n) (X3_readFactor n) x y M) _
      unfold X3_readNumber_o
      refine ok_lp (fun s : Int32 × Int32 × mm_M => wI M0 s.2.2 ∧ 0 ≤ s.2.1.toInt ∧ s.2.1.toInt ≤ 241) (fun s => (241 - s.2.1.toInt).toNat) _ ⟨hM, by show 0 ≤ (0 : Int32).toInt; decide, by show (0 : Int32).toInt ≤ 241; decide⟩ (by show ((241 : Int) - (0 : Int32).toInt).toNat < 4000000000; decide) ?_
      rintro ⟨a, b, N⟩ ⟨hN, hb0, hb1⟩
      dsimp only at hN hb0 hb1
      have fin : ∀ (N' : mm_M) (c : Int32), wI M0 N' → b.toInt ≤ 240 → sm (fun s' : Int32 × Int32 × mm_M => (wI M0 s'.2.2 ∧ 0 ≤ s'.2.1.toInt ∧ s'.2.1.toInt ≤ 241) ∧ (241 - s'.2.1.toInt).toNat < (241 - b.toInt).toNat) (fun r : Bool × mm_M => wI M0 r.2) (.inl (c, b + 1, X7_step N')) := by
        intro N' c hN' hb
        have eb : (b + 1).toInt = b.toInt + 1 := e_inc hb0 hb1 (by omega)
        exact ⟨⟨wst hN', by show 0 ≤ (b + 1).toInt; omega, by show (b + 1).toInt ≤ 241; omega⟩, by show (241 - (b + 1).toInt).toNat < (241 - b.toInt).toNat; omega⟩
      unfold X3_readNumber_l6
      refine ok_i (fun _ => ok_l (ok_s (wfl hN))) (fun c1 => ?_)
      dsimp only at c1
      rw [e_lt] at c1
      have hb : b.toInt ≤ 240 := by omega
      have j109 : ∀ (x7 z0 : Bool) (x4 : Int32) (N' : mm_M), wI M0 N' → ok (X3_readNumber_j109l6 (X3_readNumber n) (X3_readFactor n) x y x4 b x7 z0 N') (sm (fun s' : Int32 × Int32 × mm_M => (wI M0 s'.2.2 ∧ 0 ≤ s'.2.1.toInt ∧ s'.2.1.toInt ≤ 241) ∧ (241 - s'.2.1.toInt).toNat < (241 - b.toInt).toNat) (fun r : Bool × mm_M => wI M0 r.2)) := by
        intro x7 z0 x4 N' hN'
        unfold X3_readNumber_j109l6
        refine ok_i (fun _ => ok_i (fun _ => ok_l (ok_s (fin N' x4 hN' hb))) (fun _ => ok_s hN')) (fun _ => ok_i (fun _ => ok_l (ok_s (fin N' x4 hN' hb))) (fun _ => ok_s hN'))
      have j88 : ∀ (z0 : Bool) (x4 : Int32) (N' : mm_M), wI M0 N' → ok (X3_readNumber_j88l6 (X3_readNumber n) (X3_readFactor n) x y x4 b z0 N') (sm (fun s' : Int32 × Int32 × mm_M => (wI M0 s'.2.2 ∧ 0 ≤ s'.2.1.toInt ∧ s'.2.1.toInt ≤ 241) ∧ (241 - s'.2.1.toInt).toNat < (241 - b.toInt).toNat) (fun r : Bool × mm_M => wI M0 r.2)) := by
        intro z0 x4 N' hN'
        unfold X3_readNumber_j88l6 X3_readNumber_j104l6
        exact ok_i (fun _ => j109 _ _ _ _ hN') (fun _ => ok_i (fun _ => j109 _ _ _ _ hN') (fun _ => j109 _ _ _ _ hN'))
      have j56 : ∀ (N' : mm_M), wI M0 N' → ok (X3_readNumber_j56l6 (X3_readNumber n) (X3_readFactor n) x y b N') (sm (fun s' : Int32 × Int32 × mm_M => (wI M0 s'.2.2 ∧ 0 ≤ s'.2.1.toInt ∧ s'.2.1.toInt ≤ 241) ∧ (241 - s'.2.1.toInt).toNat < (241 - b.toInt).toNat) (fun r : Bool × mm_M => wI M0 r.2)) := by
        intro N' hN'
        unfold X3_readNumber_j56l6 X3_readNumber_j83l6
        exact ok_i (fun _ => j88 _ _ _ hN') (fun _ => ok_i (fun _ => j88 _ _ _ hN') (fun _ => ok_i (fun _ => j88 _ _ _ hN') (fun _ => j88 _ _ _ hN')))
      have j34 : ∀ (z0 : Bool) (N' : mm_M), wI M0 N' → ok (X3_readNumber_j34l6 (X3_readNumber n) (X3_readFactor n) x y a b z0 N') (sm (fun s' : Int32 × Int32 × mm_M => (wI M0 s'.2.2 ∧ 0 ≤ s'.2.1.toInt ∧ s'.2.1.toInt ≤ 241) ∧ (241 - s'.2.1.toInt).toNat < (241 - b.toInt).toNat) (fun r : Bool × mm_M => wI M0 r.2)) := by
        intro z0 N' hN'
        unfold X3_readNumber_j34l6
        refine ok_i (fun _ => ok_i (fun _ => j56 _ hN') (fun _ => ok_l (j56 _ (wad a hN')))) (fun _ => ok_s hN')
      refine ok_i (fun cy => ok_b (fun r => wI M0 r.2) (ih1 _ _ _ h0 h6 ?_ hN) (fun r hr => j34 _ _ hr)) (fun cy => ok_b (fun r => wI M0 r.2) (ih2 _ _ h0 h6 ?_ hN) (fun r hr => j34 _ _ hr))
      · rw [if_pos cy] at hn
        rw [if_neg (show ¬ (1 : Int32) = 0 by decide)]
        omega
      · rw [if_neg cy] at hn
        omega
    · show ok (X3_readFactor_o (X3_readNumber n) (X3_readFactor n) x M) _
      unfold X3_readFactor_o
      have j85 : ∀ (z : Int32), z.toInt ≤ 1000000 → ok (X3_readFactor_j85 (X3_readNumber n) (X3_readFactor n) z M) (fun r => wI M0 r.2) := by
        intro z hz
        unfold X3_readFactor_j85
        refine ok_i (fun c => ok_l (ok_l (ok_s (wI_add (x := 2) (y := z) (wst hM) ?_ hz).1))) (fun _ => ok_l (ok_s (wfl hM)))
        rw [e_le] at c
        omega
      refine ok_i (fun _ => ok_i (fun c6 => ok_l (ok_b (fun r => wI M0 r.2) (ih1 _ _ _ ?_ ?_ ?_ (wst hM)) (fun r hr => ok_i (fun _ => ok_l (ok_i (fun _ => ok_s (wtk hr)) (fun _ => ok_s (wtk hr)))) (fun _ => ok_s hr)))) (fun _ => ok_l (ok_s (wfl hM)))) (fun _ => ok_i (fun _ => ok_b _ (wI_digits hM) (fun r hr => ?_)) (fun _ => ok_i (fun _ => j85 _ (by decide)) (fun _ => j85 _ (by have := ix_le (M 1 4); omega))))
      · rw [e_inc h0 h6 (by omega)]; omega
      · rw [e_lt] at c6; rw [e_inc h0 h6 (by omega)]; omega
      · rw [e_lt] at c6; rw [e_inc h0 h6 (by omega), if_pos rfl]; omega
      · unfold X3_readFactor_j154
        have ha := (wI_add (x := 1) hr.1 (by omega) hr.2.2).1
        exact ok_l (ok_i (fun _ => ok_l (ok_i (fun _ => ok_s (wfl ha)) (fun _ => ok_s (wfl ha)))) (fun _ => ok_s ha))
theorem wnum {M0 : mm_M} {x : Int32} {M : mm_M} (h0 : 0 ≤ x.toInt) (h6 : x.toInt ≤ 6) (h : wI M0 M) : ok (X3_readNumber 60 x 0 M) (fun r => wI M0 r.2) := (wI_num M0 60).1 x 0 M h0 h6 (by rw [if_pos rfl]; omega) h
/-- conditions and tests -/
theorem wI_cond (M0 : mm_M) : ∀ n : Nat, (∀ (x y : Int32) (M : mm_M), 0 ≤ x.toInt → x.toInt ≤ 6 → 3 * (7 - x.toInt) - (if y = 0 then 0 else 1) ≤ n → wI M0 M → ok (X3_readCondition n x y M) (fun r => wI M0 r.2)) ∧ (∀ (x : Int32) (M : mm_M), 0 ≤ x.toInt → x.toInt ≤ 6 → 3 * (7 - x.toInt) - 2 ≤ n → wI M0 M → ok (X3_readTest n x M) (fun r => wI M0 r.2)) := by
  intro n
  have k0 : (0 : Int32).toInt = 0 := rfl
  have k1 : (1 : Int32).toInt = 1 := rfl
  have k6 : (6 : Int32).toInt = 6 := rfl
  have k240 : (240 : Int32).toInt = 240 := rfl
  have km : (-1 : Int32).toInt = -1 := rfl
  induction n with
  | zero =>
    refine ⟨fun x y M h0 h6 hn => ?_, fun x M h0 h6 hn => ?_⟩
    · exfalso
      by_cases c : y = 0
      · rw [if_pos c] at hn; omega
      · rw [if_neg c] at hn; omega
    · exfalso
      omega
  | succ n ih =>
    obtain ⟨ih1, ih2⟩ := ih
    refine ⟨fun x y M h0 h6 hn hM => ?_, fun x M h0 h6 hn hM => ?_⟩
    · show ok (X3_readCondition_o (X3_readCondition n) (X3_readTest n) x y M) _
      have j22 : ∀ (x4 z0 : Int32), ok (X3_readCondition_j22 (X3_readCondition n) (X3_readTest n) x y x4 z0 M) (fun r => wI M0 r.2) := by
        intro x4 z0
        unfold X3_readCondition_j22
        refine ok_lp (fun s : Int32 × Int32 × mm_M => wI M0 s.2.2 ∧ (0 ≤ s.2.1.toInt ∧ s.2.1.toInt ≤ 241) ∧ -1 ≤ s.1.toInt ∧ s.1.toInt ≤ 256) (fun s => (241 - s.2.1.toInt).toNat) _ ⟨hM, ⟨by show 0 ≤ (0 : Int32).toInt; decide, by show (0 : Int32).toInt ≤ 241; decide⟩, by show -1 ≤ (-1 : Int32).toInt; decide, by show (-1 : Int32).toInt ≤ 256; decide⟩ (by show ((241 : Int) - (0 : Int32).toInt).toNat < 4000000000; decide) ?_
        rintro ⟨a, b, N⟩ ⟨hN, ⟨hb0, hb1⟩, ha0, ha1⟩
        dsimp only at hN hb0 hb1 ha0 ha1
        unfold X3_readCondition_l30
        refine ok_i (fun _ => ok_l (ok_s (wfl hN))) (fun c1 => ?_)
        dsimp only at c1
        rw [e_lt] at c1
        have j58 : ∀ (z : Bool) (N' : mm_M), wI M0 N' → ok (X3_readCondition_j58l30 (X3_readCondition n) (X3_readTest n) x y x4 z0 a b z N') (sm (fun s' : Int32 × Int32 × mm_M => (wI M0 s'.2.2 ∧ (0 ≤ s'.2.1.toInt ∧ s'.2.1.toInt ≤ 241) ∧ -1 ≤ s'.1.toInt ∧ s'.1.toInt ≤ 256) ∧ (241 - s'.2.1.toInt).toNat < (241 - b.toInt).toNat) (fun r : Bool × mm_M => wI M0 r.2)) := by
          intro z N' hN'
          unfold X3_readCondition_j58l30
          refine ok_i (fun _ => ok_i (fun _ => ok_l (ok_l (ok_s ?_))) (fun _ => ok_b (wI M0) (wI_land hN') (fun r hr => ok_s hr))) (fun _ => ok_s hN')
          obtain ⟨g1, g2, g3⟩ := wI_add (x := z0) (y := a) (wst hN') ha0 (by omega)
          have eb : (b + 1).toInt = b.toInt + 1 := e_inc hb0 hb1 (by omega)
          exact ⟨⟨g1, ⟨by show 0 ≤ (b + 1).toInt; omega, by show (b + 1).toInt ≤ 241; omega⟩, g2, g3⟩, by show (241 - (b + 1).toInt).toNat < (241 - b.toInt).toNat; omega⟩
        refine ok_i (fun cy => ok_b (fun r => wI M0 r.2) (ih1 _ _ _ h0 h6 ?_ hN) (fun r hr => j58 _ _ hr)) (fun cy => ok_b (fun r => wI M0 r.2) (ih2 _ _ h0 h6 ?_ hN) (fun r hr => j58 _ _ hr))
        · rw [if_pos cy] at hn
          rw [if_neg (show ¬ (1 : Int32) = 0 by decide)]
          omega
        · rw [if_neg cy] at hn
          omega
      unfold X3_readCondition_o X3_readCondition_j11
      exact ok_i (fun _ => ok_i (fun _ => j22 _ _) (fun _ => j22 _ _)) (fun _ => ok_i (fun _ => j22 _ _) (fun _ => j22 _ _))
    · show ok (X3_readTest_o (X3_readCondition n) (X3_readTest n) x M) _
      have j17 : ∀ z : Int32, ok (X3_readTest_j17 (X3_readCondition n) (X3_readTest n) x z M) (fun r => wI M0 r.2) := by
        intro z
        unfold X3_readTest_j17
        refine ok_i (fun c6 => ok_l (ok_i (fun _ => ok_b (fun r => wI M0 r.2) (ih1 _ _ _ ?_ ?_ ?_ (wst hM)) (fun r hr => ok_i (fun _ => ok_l (ok_i (fun _ => ok_s (wtk hr)) (fun _ => ok_s (wtk hr)))) (fun _ => ok_s hr))) (fun _ => ok_b (fun r => wI M0 r.2) (ih2 _ _ ?_ ?_ ?_ (wst hM)) (fun r hr => ok_i (fun _ => wad1 3 hr) (fun _ => ok_s hr))))) (fun _ => ok_l (ok_s (wfl hM)))
        · rw [e_inc h0 h6 (by omega)]; omega
        · rw [e_lt] at c6; rw [e_inc h0 h6 (by omega)]; omega
        · rw [e_lt] at c6; rw [e_inc h0 h6 (by omega), if_pos rfl]; omega
        · rw [e_inc h0 h6 (by omega)]; omega
        · rw [e_lt] at c6; rw [e_inc h0 h6 (by omega)]; omega
        · rw [e_lt] at c6; rw [e_inc h0 h6 (by omega)]; omega
      have j141 : ∀ (z : Int32) (N : mm_M), wI M0 N → ok (X3_readTest_j141 (X3_readCondition n) (X3_readTest n) x z N) (fun r => wI M0 r.2) := by
        intro z N hN
        unfold X3_readTest_j141
        refine ok_l (ok_b (fun r => wI M0 r.2) (wnum h0 h6 (wst hN)) (fun r hr => ok_i (fun _ => wad1 z hr) (fun _ => ok_s hr)))
      unfold X3_readTest_o
      refine ok_i (fun _ => j17 _) (fun _ => ok_i (fun _ => j17 _) (fun _ => ok_b (fun r => wI M0 r.2) (wnum h0 h6 hM) (fun r hr => ok_i (fun _ => ok_i (fun _ => j141 _ _ hr) (fun _ => ok_i (fun _ => j141 _ _ hr) (fun _ => ok_i (fun _ => j141 _ _ hr) (fun _ => ok_l (ok_s (wfl hr)))))) (fun _ => ok_s hr))))
theorem wcond {M0 M : mm_M} (h : wI M0 M) : ok (X3_readCondition 60 1 0 M) (fun r => wI M0 r.2) := (wI_cond M0 60).1 1 0 M (by decide) (by decide) (by rw [if_pos rfl]; have : (1 : Int32).toInt = 1 := rfl; omega) h
theorem wI_rule {M0 M : mm_M} (hM : wI M0 M) : ok (X3_readRule M) (fun r => wI M0 r.2) := by
  have k0 : (0 : Int32).toInt = 0 := rfl
  have k1 : (1 : Int32).toInt = 1 := rfl
  have k16 : (16 : Int32).toInt = 16 := rfl
  have j84 : ∀ N : mm_M, wI M0 N → ok (X3_readRule_j84 N) (fun r => wI M0 r.2) := by
    intro N hN
    unfold X3_readRule_j84
    refine ok_b (wI M0) ?_ (fun N1 h1 => ok_l (ok_i (fun _ => ok_b (fun r => wI M0 r.2) (wcond (wtk h1)) (fun r hr => ok_i (fun _ => ok_l (ok_i (fun _ => wad1 0 (wtk hr)) (fun _ => ok_s (wtk hr)))) (fun _ => ok_s hr))) (fun _ => ok_s (wtk h1))))
    unfold X2_beginTest
    refine ok_i (fun _ => ok_s hN) (fun c1 => ok_i (fun _ => ok_s hN) (fun c2 => ok_i (fun _ => ok_s ⟨fr_U hN.1 (by decide), hN.2⟩) (fun c3 => ?_)))
    exfalso
    apply c3
    rw [e_le] at c1
    rw [e_lt] at c2
    have e1 : (N 20 0 - 1).toInt = (N 20 0).toInt - 1 := by rw [e_sub (by rw [k1]; omega) (by rw [k1]; omega), k1]
    exact e_inb (by omega) (by omega)
  have j33 : ∀ z : Int32, ok (X3_readRule_j33 z M) (fun r => wI M0 r.2) := by
    intro z
    unfold X3_readRule_j33
    have hb : wI M0 (X2_beginRule z (X7_step M)) := by
      have hs := wst hM
      unfold X2_beginRule
      split
      · exact hs
      · split
        · exact hs
        · exact ⟨fr_U (fr_U (fr_U (fr_U hs.1 (by decide)) (by decide)) (by decide)) (by decide), hs.2⟩
    refine ok_i (fun _ => ok_l (ok_s (wfl hM))) (fun _ => ok_l (ok_l (ok_i (fun _ => j84 _ hb) (fun _ => ok_b (fun r => wI M0 r.2) (wnum (by decide) (by decide) hb) (fun r hr => ok_i (fun _ => ok_l (j84 _ (wad 0 hr))) (fun _ => ok_s hr))))))
  unfold X3_readRule
  exact ok_i (fun _ => j33 _) (fun _ => ok_i (fun _ => j33 _) (fun _ => ok_i (fun _ => j33 _) (fun _ => ok_l (ok_s (wfl hM)))))
theorem wI_read {M : mm_M} : ok (X3_read M) (fun r => wI M r.2) := by
  have k16 : (16 : Int32).toInt = 16 := rfl
  have h0 : wI M (X2_clear M) := by
    unfold X2_clear
    refine ⟨fr_U (fr_U fr_rfl (by decide)) (by decide), ?_, ?_, fun i hi => ?_⟩
    · show 0 ≤ (0 : Int32).toInt; decide
    · show (0 : Int32).toInt ≤ 256; decide
    · exfalso
      have hi : (i : Int) < (0 : Int32).toInt := hi
      have : (0 : Int32).toInt = 0 := rfl
      omega
  unfold X3_read
  refine ok_l (ok_lp (fun s : Int32 × mm_M => wI M s.2 ∧ 0 ≤ s.1.toInt ∧ s.1.toInt ≤ 17) (fun s => (17 - s.1.toInt).toNat) _ ⟨h0, by show 0 ≤ (0 : Int32).toInt; decide, by show (0 : Int32).toInt ≤ 17; decide⟩ (by show ((17 : Int) - (0 : Int32).toInt).toNat < 4000000000; decide) ?_)
  rintro ⟨a, N⟩ ⟨hN, ha0, ha1⟩
  dsimp only at hN ha0 ha1
  unfold X3_read_l6
  refine ok_i (fun _ => ok_l (ok_s (wfl hN))) (fun c1 => ok_b (fun r => wI M r.2) (wI_rule hN) (fun r (hr : wI M r.2) => ok_i (fun _ => ok_i (fun _ => ok_s hr) (fun _ => ok_l (ok_i (fun _ => ok_s ?_) (fun _ => ok_s (wtk hr))))) (fun _ => ok_s hr)))
  dsimp only at c1
  rw [e_lt] at c1
  have ea : (a + 1).toInt = a.toInt + 1 := e_inc ha0 ha1 (by omega)
  exact ⟨⟨wtk hr, by show 0 ≤ (a + 1).toInt; omega, by show (a + 1).toInt ≤ 17; omega⟩, by show (17 - (a + 1).toInt).toNat < (17 - a.toInt).toNat; omega⟩
