/-! THE CLASS READS A CENSUS -/
theorem e_div {a b : Int32} (ha : 0 ≤ a.toInt) (hb : 0 < b.toInt) : (a / b).toInt = a.toInt / b.toInt := by
  rw [Int32.toInt_div, Int.tdiv_eq_ediv_of_nonneg ha]
  have h1 := Int.ediv_nonneg ha (Int.le_of_lt hb)
  have h2 := Int.ediv_le_self b.toInt ha
  have := e_rng a
  exact e_bmod (by omega) (by omega)
theorem e_mod {a b : Int32} (ha : 0 ≤ a.toInt) (hb : 0 < b.toInt) : (a - a / b * b).toInt = a.toInt % b.toInt := by
  have h0 := e_div ha hb
  have h1 := Int.ediv_nonneg ha (Int.le_of_lt hb)
  have h2 := Int.mul_ediv_add_emod a.toInt b.toInt
  have h3 := Int.emod_nonneg a.toInt (show b.toInt ≠ 0 by omega)
  have h4 := e_rng a
  have h5 : a.toInt / b.toInt * b.toInt = b.toInt * (a.toInt / b.toInt) := Int.mul_comm _ _
  have h6 : 0 ≤ b.toInt * (a.toInt / b.toInt) := Int.mul_nonneg (Int.le_of_lt hb) h1
  have e1 : (a / b * b).toInt = a.toInt / b.toInt * b.toInt := by
    rw [e_mul (by rw [h0, h5]; omega) (by rw [h0, h5]; omega), h0]
  rw [e_sub (by rw [e1, h5]; omega) (by rw [e1, h5]; omega), e1, h5]
  omega
def rI (M : mm_M) : Prop := (0 ≤ (M 27 1).toInt ∧ (M 27 1).toInt ≤ 40) ∧ ∀ i : Nat, (i : Int) < (M 27 1).toInt → rl_r (M 28 i) 0 7
def rW (M0 M : mm_M) : Prop := fr [1, 27, 28] M0 M ∧ rI M
theorem rW_1 {M0 : mm_M} : in1 (rW M0) := fun _ _ _ h => ⟨fr_U h.1 (by decide), h.2⟩
theorem rst {M0 M : mm_M} (h : rW M0 M) : rW M0 (X7_step M) := st_in rW_1 h
theorem rfl1 {M0 M : mm_M} {x y : Int32} (h : rW M0 M) : rW M0 (X7_fail x y M).2 := fl_in rW_1 h
theorem rtk {M0 M : mm_M} {x : Int32} (h : rW M0 M) : rW M0 (X7_take x M).2 := tk_in rW_1 h
theorem ra_in {M0 M : mm_M} {x : Int32} (h : rW M0 M) (hx : rl_r x 0 7) : rW M0 (X4_add x M) ∧ ((X4_add x M) 27 1).toInt = (if (M 27 1).toInt < 40 then (M 27 1).toInt + 1 else (M 27 1).toInt) := by
  obtain ⟨hf, ⟨h0, h1⟩, h2⟩ := id h
  have k0 : (0 : Int32).toInt = 0 := rfl
  have k40 : (40 : Int32).toInt = 40 := rfl
  unfold X4_add
  rw [if_neg (by rw [e_lt]; omega)]
  by_cases c : 40 ≤ M 27 1
  · rw [if_pos c]
    rw [e_le] at c
    rw [if_neg (by omega)]
    exact ⟨h, rfl⟩
  · rw [if_neg c]
    rw [e_le] at c
    rw [if_pos (by omega)]
    have ea : (M 27 1 + 1).toInt = (M 27 1).toInt + 1 := e_inc h0 h1 (by omega)
    refine ⟨⟨fr_U (fr_U hf (by decide)) (by decide), ⟨?_, ?_⟩, fun i hi => ?_⟩, ?_⟩
    · show 0 ≤ (M 27 1 + 1).toInt
      omega
    · show (M 27 1 + 1).toInt ≤ 40
      omega
    · have hi : (i : Int) < (M 27 1 + 1).toInt := hi
      have ec := e_cl h0
      show rl_r (mm_U (mm_U M 28 (Int32.toNatClampNeg (M 27 1)) x) 27 1 (M 27 1 + 1) 28 i) 0 7
      rw [mm_U_ne 28 (by decide), e_U]
      by_cases ci : i = Int32.toNatClampNeg (M 27 1)
      · rw [if_pos ⟨rfl, ci⟩]
        exact hx
      · rw [if_neg (fun z => ci z.2)]
        exact h2 i (by omega)
    · show (M 27 1 + 1).toInt = _
      exact ea
theorem rt_in {M : mm_M} {x : Int32} (h : rI M) (h0 : 0 ≤ x.toInt) (h1 : x.toInt < (M 27 1).toInt) : rl_r (X4_at x M) 0 7 := by
  have k0 : (0 : Int32).toInt = 0 := rfl
  have k40 : (40 : Int32).toInt = 40 := rfl
  have := h.1.2
  unfold X4_at
  rw [if_neg (by rw [e_lt]; omega), if_neg (by rw [e_le]; omega)]
  have ec := e_cl h0
  exact h.2 _ (by omega)
/-- a row that grew -/
def rG (M0 M : mm_M) (n : Int) : Bool × mm_M → Prop := fun r => rW M0 r.2 ∧ (r.1 = true → n < (r.2 27 1).toInt)
theorem rf_G {M0 M : mm_M} {n : Int} {x y : Int32} (h : rW M0 M) : rG M0 M n ((X7_fail x y M).1, (X7_fail x y M).2) := ⟨rfl1 h, fun z => by cases z⟩
theorem rj_in {M0 M : mm_M} (r0 r1 : Int32 → mm_M → Option (Bool × mm_M)) {x3 f t : Int32} (h : rW M0 M) (hf0 : 0 ≤ f.toInt) (hf : f.toInt < (M 27 1).toInt ∨ f.toInt = 40) (hf1 : f.toInt ≤ 40) (ht0 : 1 ≤ t.toInt) (ht : t.toInt ≤ 9) : ok (X0_readItem_j135 r0 r1 x3 f t M) (rG M0 M f.toInt) := by
  have k0 : (0 : Int32).toInt = 0 := rfl
  have k1 : (1 : Int32).toInt = 1 := rfl
  have k40 : (40 : Int32).toInt = 40 := rfl
  obtain ⟨hl0, hl1⟩ := h.2.1
  have ed : (M 27 1 - f).toInt = (M 27 1).toInt - f.toInt := by rw [e_sub (by omega) (by omega)]
  have eo : (if 1 < (M 27 1 - f) then (M 27 1 - f) else (1 : Int32)).toInt = (if (M 27 1).toInt - f.toInt ≤ 1 then 1 else (M 27 1).toInt - f.toInt) := by
    by_cases c : 1 < M 27 1 - f
    · rw [if_pos c]
      rw [e_lt] at c
      rw [if_neg (by omega), ed]
    · rw [if_neg c]
      rw [e_lt] at c
      rw [if_pos (by omega), k1]
  unfold X0_readItem_j135
  generalize hO : (if 1 < (M 27 1 - f) then (M 27 1 - f) else (1 : Int32)) = o at eo ⊢
  have ho : 1 ≤ o.toInt ∧ o.toInt ≤ 40 := by
    rw [eo]
    split <;> omega
  have hot : o.toInt * t.toInt ≤ 360 := by
    have : o.toInt * t.toInt ≤ 40 * 9 := Int.mul_le_mul ho.2 ht (by omega) (by omega)
    omega
  have hot0 : o.toInt ≤ o.toInt * t.toInt := by
    have : o.toInt * 1 ≤ o.toInt * t.toInt := Int.mul_le_mul_of_nonneg_left ht0 (by omega)
    omega
  have em : (o * t).toInt = o.toInt * t.toInt := by rw [e_mul (by omega) (by omega)]
  have es : (f + o * t).toInt = f.toInt + o.toInt * t.toInt := by rw [e_add (by omega) (by omega), em]
  refine ok_i (fun c => ?_) (fun _ => ok_l (ok_s (rf_G h)))
  rw [e_le, es] at c
  have hfl : f.toInt < (M 27 1).toInt := by omega
  have eol : f.toInt + o.toInt = (M 27 1).toInt := by
    rw [eo]
    split <;> omega
  generalize hT : o.toInt * t.toInt = T at *
  refine ok_lp (fun s : Int32 × mm_M => rW M0 s.2 ∧ (s.2 27 1).toInt = f.toInt + s.1.toInt ∧ o.toInt ≤ s.1.toInt ∧ s.1.toInt ≤ T) (fun s => (T - s.1.toInt).toNat) _ ⟨h, by first | omega | (dsimp only; omega), Int.le_refl _, by first | omega | (dsimp only; omega)⟩ (by first | omega | (dsimp only; omega)) ?_
  rintro ⟨i, N⟩ ⟨hN, hl, hi0, hi1⟩
  dsimp only at hN hl hi0 hi1
  unfold X0_readItem_l173
  refine ok_i (fun c1 => ok_s ⟨hN, fun _ => ?_⟩) (fun c1 => ok_i (fun c2 => ok_l (ok_s ?_)) (fun c2 => ?_))
  · dsimp only
    omega
  · dsimp only at c1 ⊢
    rw [e_le, em] at c1
    have emod := e_mod (a := i) (b := o) (by omega) (by omega)
    have g1 := Int.emod_nonneg i.toInt (show o.toInt ≠ 0 by omega)
    have g2 := Int.emod_lt_of_pos i.toInt (show 0 < o.toInt by omega)
    have ex : (f + (i - i / o * o)).toInt = f.toInt + i.toInt % o.toInt := by rw [e_add (by omega) (by omega), emod]
    have ei : (i + 1).toInt = i.toInt + 1 := e_inc (b := 400) (by omega) (by omega) (by omega)
    obtain ⟨a1, a2⟩ := ra_in hN (rt_in hN.2 (x := f + (i - i / o * o)) (by omega) (by omega))
    rw [if_pos (by omega)] at a2
    exact ⟨⟨a1, by first | omega | (dsimp only; omega), by first | omega | (dsimp only; omega), by first | omega | (dsimp only; omega)⟩, by first | omega | (dsimp only; omega)⟩
  · exfalso
    apply c2
    intro z
    rw [z] at ho
    omega
theorem ri_in (M0 : mm_M) : ∀ n : Nat, (∀ (x : Int32) (M : mm_M), 0 ≤ x.toInt → x.toInt ≤ 2 → 2 * (3 - x.toInt) ≤ n → rW M0 M → ok (X0_readQuestions n x M) (rG M0 M (M 27 1).toInt)) ∧ (∀ (x : Int32) (M : mm_M), 0 ≤ x.toInt → x.toInt ≤ 2 → 2 * (3 - x.toInt) - 1 ≤ n → rW M0 M → ok (X0_readItem n x M) (rG M0 M (M 27 1).toInt)) := by
  intro n
  have k0 : (0 : Int32).toInt = 0 := rfl
  have k1 : (1 : Int32).toInt = 1 := rfl
  have k2 : (2 : Int32).toInt = 2 := rfl
  have k48 : (48 : Int32).toInt = 48 := rfl
  have k50 : (50 : Int32).toInt = 50 := rfl
  have k57 : (57 : Int32).toInt = 57 := rfl
  have k60 : (60 : Int32).toInt = 60 := rfl
  have k97 : (97 : Int32).toInt = 97 := rfl
  induction n with
  | zero => exact ⟨fun x M h0 h2 hn => by exfalso; omega, fun x M h0 h2 hn => by exfalso; omega⟩
  | succ n ih =>
    obtain ⟨ih1, ih2⟩ := ih
    refine ⟨fun x M h0 h2 hn hM => ?_, fun x M h0 h2 hn hM => ?_⟩
    · show ok (X0_readQuestions_o (X0_readQuestions n) (X0_readItem n) x M) _
      unfold X0_readQuestions_o
      refine ok_lp (fun s : Int32 × mm_M => rW M0 s.2 ∧ (M 27 1).toInt ≤ (s.2 27 1).toInt ∧ 0 ≤ s.1.toInt ∧ s.1.toInt ≤ 61) (fun s => (61 - s.1.toInt).toNat) _ ⟨hM, Int.le_refl _, by show 0 ≤ (0 : Int32).toInt; decide, by show (0 : Int32).toInt ≤ 61; decide⟩ (by show ((61 : Int) - (0 : Int32).toInt).toNat < 4000000000; decide) ?_
      rintro ⟨i, N⟩ ⟨hN, hl, hi0, hi1⟩
      dsimp only at hN hl hi0 hi1
      unfold X0_readQuestions_l2
      refine ok_i (fun _ => ok_l (ok_s ⟨rfl1 hN, fun z => by cases z⟩)) (fun c1 => ok_b _ (ih2 x N h0 h2 (by omega) hN) (fun r hr => ok_i (fun cr => ?_) (fun _ => ok_s ⟨hr.1, fun z => by cases z⟩)))
      dsimp only at c1
      rw [e_lt] at c1
      have ei : (i + 1).toInt = i.toInt + 1 := e_inc hi0 hi1 (by omega)
      have hg := hr.2 cr
      have fin : sm (fun s' : Int32 × mm_M => (rW M0 s'.2 ∧ (M 27 1).toInt ≤ (s'.2 27 1).toInt ∧ 0 ≤ s'.1.toInt ∧ s'.1.toInt ≤ 61) ∧ (61 - s'.1.toInt).toNat < (61 - i.toInt).toNat) (rG M0 M (M 27 1).toInt) (.inl (i + 1, r.2)) := ⟨⟨hr.1, by first | omega | (dsimp only; omega), by first | omega | (dsimp only; omega), by first | omega | (dsimp only; omega)⟩, by first | omega | (dsimp only; omega)⟩
      have fin2 : sm (fun s' : Int32 × mm_M => (rW M0 s'.2 ∧ (M 27 1).toInt ≤ (s'.2 27 1).toInt ∧ 0 ≤ s'.1.toInt ∧ s'.1.toInt ≤ 61) ∧ (61 - s'.1.toInt).toNat < (61 - i.toInt).toNat) (rG M0 M (M 27 1).toInt) (.inr (true, r.2)) := ⟨hr.1, fun _ => by first | omega | (dsimp only; omega)⟩
      exact ok_i (fun _ => ok_s fin2) (fun _ => ok_i (fun _ => ok_s fin) (fun _ => ok_i (fun _ => ok_s fin2) (fun _ => ok_s fin)))
    · show ok (X0_readItem_o (X0_readQuestions n) (X0_readItem n) x M) _
      obtain ⟨hl0, hl1⟩ := hM.2.1
      have hI : in1 (fun N => rW M0 N ∧ N 27 = M 27) := fun _ _ _ h => ⟨rW_1 _ _ _ h.1, h.2⟩
      have j45 : ∀ (x3 t : Int32) (N : mm_M), (rW M0 N ∧ N 27 = M 27) → 1 ≤ t.toInt → t.toInt ≤ 9 → ok (X0_readItem_j45 (X0_readQuestions n) (X0_readItem n) x x3 (M 27 1) t N) (rG M0 M (M 27 1).toInt) := by
        intro x3 t N hN ht0 ht
        unfold X0_readItem_j45
        refine ok_i (fun cq => ok_l (ok_l ?_)) (fun _ => ok_i (fun _ => ok_i (fun c2 => ok_l (ok_b _ (ih1 (x + 1) (X7_step N) ?_ ?_ ?_ (rst hN.1)) (fun r hr => ok_i (fun cr => ok_l (ok_i (fun _ => ?_) (fun _ => ok_s ⟨rtk hr.1, fun z => by cases z⟩))) (fun _ => ok_s ⟨hr.1, fun z => by cases z⟩)))) (fun _ => ok_l (ok_s ⟨rfl1 hN.1, fun z => by cases z⟩))) (fun _ => ok_l (ok_s ⟨rfl1 hN.1, fun z => by cases z⟩)))
        · have hq := rl_isqI.mp cq
          have hs := st_in hI hN
          obtain ⟨a1, a2⟩ := ra_in (x := N 1 4 - 97) hs.1 ⟨hq.1, by omega⟩
          have e27 : (X7_step N) 27 1 = M 27 1 := by rw [hs.2]
          rw [e27] at a2
          refine ok_w (rj_in _ _ a1 hl0 ?_ hl1 ht0 ht) (fun r hr => hr)
          by_cases c40 : (M 27 1).toInt < 40
          · rw [if_pos c40] at a2
            left; omega
          · right; omega
        · rw [e_inc h0 h2 (by omega)]; omega
        · rw [e_lt] at c2; rw [e_inc h0 h2 (by omega)]; omega
        · rw [e_lt] at c2; rw [e_inc h0 h2 (by omega)]; omega
        · have hs := st_in hI hN
          have e27 : (X7_step N) 27 1 = M 27 1 := by rw [hs.2]
          have hg := hr.2 cr
          rw [e27] at hg
          have ht2 : rW M0 (X7_take 41 r.2).2 ∧ (X7_take 41 r.2).2 27 = r.2 27 := tk_in (I := fun N => rW M0 N ∧ N 27 = r.2 27) (fun _ _ _ h => ⟨rW_1 _ _ _ h.1, h.2⟩) ⟨hr.1, rfl⟩
          refine ok_w (rj_in _ _ ht2.1 hl0 (Or.inl (by rw [ht2.2]; exact hg)) hl1 ht0 ht) (fun r hr => hr)
      unfold X0_readItem_o
      refine ok_i (fun _ => j45 _ _ _ ⟨hM, rfl⟩ (by decide) (by decide)) (fun c1 => ok_i (fun _ => j45 _ _ _ ⟨hM, rfl⟩ (by decide) (by decide)) (fun c2 => ok_l (j45 _ _ _ (st_in hI ⟨hM, rfl⟩) ?_ ?_)))
      · rw [e_lt] at c1 c2
        rw [e_sub (by rw [k48]; omega) (by rw [k48]; omega), k48]; omega
      · rw [e_lt] at c1 c2
        rw [e_sub (by rw [k48]; omega) (by rw [k48]; omega), k48]; omega
theorem rr_in {M : mm_M} {x : Int32} : ok (X11_readRow x M) (fun r => rW M r.2 ∧ r.2 1 1 = 0) := by
  unfold X11_readRow
  refine ok_b (fun N => fr [1, 27, 28] M N) (op_in (I := fr [1, 27, 28] M) (fun _ _ _ h => fr_U h (by decide)) fr_rfl) (fun N hN => ?_)
  have h0 : rW M (mm_U N 27 1 0) := by
    refine ⟨fr_U hN (by decide), ⟨?_, ?_⟩, fun i hi => ?_⟩
    · show 0 ≤ (0 : Int32).toInt; decide
    · show (0 : Int32).toInt ≤ 40; decide
    · exfalso
      have hi : (i : Int) < (0 : Int32).toInt := hi
      have : (0 : Int32).toInt = 0 := rfl
      omega
  refine ok_b (fun r => rW M r.2) ?_ (fun r hr => ok_l (ok_s ⟨rW_1 _ _ _ hr, rfl⟩))
  unfold X0_read
  exact ok_b _ ((ri_in M 60).1 0 _ (by decide) (by decide) (by decide) h0) (fun r hr => ok_s hr.1)
