/-! THE CLASS GOES THROUGH DAYS -/
/-- the law in force: its details are numbers that a skip may take -/
def lI (M : mm_M) : Prop := ∀ i : Nat, (i : Int) < (M 13 4).toInt → -1 ≤ (M 18 i).toInt ∧ (M 18 i).toInt ≤ 1000000
/-- a reckoning changes the stack, its height and 'refused' alone -/
def kI (M0 M : mm_M) : Prop := fr [13, 19] M0 M ∧ (∀ k, k ≠ 8 → k ≠ 9 → M 13 k = M0 13 k) ∧ rl_r (M 13 8) 0 64
theorem kI_rfl8 {M0 M : mm_M} {v : Int32} (h : fr [13, 19] M0 M ∧ ∀ k, k ≠ 8 → k ≠ 9 → M 13 k = M0 13 k) (hv : rl_r v 0 64) : kI M0 (mm_U M 13 8 v) := by
  refine ⟨fr_U h.1 (by decide), fun k h8 h9 => ?_, ?_⟩
  · rw [e_U, if_neg (fun z => h8 z.2)]
    exact h.2 k h8 h9
  · rw [mm_U_same]
    exact hv
theorem po_in {M0 M : mm_M} (h : kI M0 M) : ok (X2_pop M) (fun r => kI M0 r.2) := by
  have k0 : (0 : Int32).toInt = 0 := rfl
  have k1 : (1 : Int32).toInt = 1 := rfl
  have k64 : (64 : Int32).toInt = 64 := rfl
  obtain ⟨hf, hk, h0, h1⟩ := id h
  have es : (M 13 8 - 1).toInt = (M 13 8).toInt - 1 := by rw [e_sub (by rw [k1]; omega) (by rw [k1]; omega), k1]
  unfold X2_pop
  refine ok_i (fun _ => ok_s h) (fun c => ok_i (fun _ => ok_i (fun _ => ok_s (kI_rfl8 ⟨hf, hk⟩ ?_)) (fun z => ?_)) (fun _ => ok_s h))
  · rw [e_le] at c
    unfold rl_r
    omega
  · exfalso
    rw [e_le] at c
    exact z (e_inb (by omega) (by omega))
theorem pu_in {M0 M : mm_M} {x : Int32} (h : kI M0 M) : kI M0 (X2_push x M) := by
  have k64 : (64 : Int32).toInt = 64 := rfl
  obtain ⟨hf, hk, h0, h1⟩ := id h
  unfold X2_push
  split
  · exact h
  · split
    · exact h
    · rename_i c1 c2
      rw [e_le] at c2
      refine kI_rfl8 ⟨fr_U hf (by decide), fun k h8 h9 => by rw [mm_U_ne 13 (by decide)]; exact hk k h8 h9⟩ ?_
      unfold rl_r
      rw [e_inc h0 h1 (by omega)]
      omega
theorem k9_in {M0 M : mm_M} {v : Int32} (h : kI M0 M) : kI M0 (mm_U M 13 9 v) := by
  obtain ⟨hf, hk, h0⟩ := h
  refine ⟨fr_U hf (by decide), fun k h8 h9 => ?_, ?_⟩
  · rw [e_U, if_neg (fun z => h9 z.2)]
    exact hk k h8 h9
  · rw [e_U, if_neg (fun z => by have := z.2; omega)]
    exact h0
theorem jo_in {M0 M : mm_M} {x y z : Int32} (h : kI M0 M) : kI M0 (X2_join x y z M).2 := by
  unfold X2_join
  repeat' split
  all_goals first | exact h | exact k9_in h
theorem re_in {M0 M : mm_M} {x : Int32} (h : fr [13, 19] M0 M ∧ ∀ k, k ≠ 8 → k ≠ 9 → M 13 k = M0 13 k) (hl : lI M0) : ok (X2_reckon x M) (fun r => kI M0 r.2) := by
  have k0 : (0 : Int32).toInt = 0 := rfl
  have k1 : (1 : Int32).toInt = 1 := rfl
  have k9 : (9 : Int32).toInt = 9 := rfl
  have k256 : (256 : Int32).toInt = 256 := rfl
  have h00 : kI M0 (mm_U (mm_U M 13 8 0) 13 9 0) := k9_in (kI_rfl8 h ⟨by decide, by decide⟩)
  have hst : 0 ≤ (if 0 < x then x else 0).toInt := by
    by_cases c : 0 < x
    · rw [if_pos c]
      rw [e_lt] at c
      omega
    · rw [if_neg c]
      decide
  unfold X2_reckon
  refine ok_lp (fun s : Int32 × mm_M => kI M0 s.2 ∧ 0 ≤ s.1.toInt ∧ (s.1.toInt < 256 ∨ 256 ≤ s.1.toInt)) (fun s => (2147483647 - s.1.toInt).toNat) _ ⟨h00, hst, by omega⟩ (by first | omega | (dsimp only; omega)) ?_
  rintro ⟨i, N⟩ ⟨hN, hi0, -⟩
  dsimp only at hN hi0
  unfold X2_reckon_l16
  refine ok_i (fun _ => ok_s hN) (fun c1 => ok_i (fun _ => ok_s hN) (fun c2 => ok_i (fun _ => ?_) (fun _ => ok_s hN)))
  dsimp only at c1 c2
  rw [e_le] at c1 c2
  have hi256 : i.toInt < 256 := by omega
  have hin : mm_in i 256 = true := e_inb hi0 (by omega)
  have ei : (i + 1).toInt = i.toInt + 1 := e_inc (b := 256) hi0 (by omega) (by omega)
  have fin : ∀ N' : mm_M, kI M0 N' → sm (fun s' : Int32 × mm_M => (kI M0 s'.2 ∧ 0 ≤ s'.1.toInt ∧ (s'.1.toInt < 256 ∨ 256 ≤ s'.1.toInt)) ∧ (2147483647 - s'.1.toInt).toNat < (2147483647 - i.toInt).toNat) (fun r : Int32 × mm_M => kI M0 r.2) (.inl (i + 1, N')) := fun N' hN' => ⟨⟨hN', by first | omega | (dsimp only; omega), by omega⟩, by first | omega | (dsimp only; omega)⟩
  have hd : -1 ≤ (N 18 (Int32.toNatClampNeg i)).toInt ∧ (N 18 (Int32.toNatClampNeg i)).toInt ≤ 1000000 := by
    have e18 : N 18 = M0 18 := hN.1 18 (by decide)
    have e13 : N 13 4 = M0 13 4 := hN.2.1 4 (by decide) (by decide)
    rw [e18]
    rw [e13] at c1
    have := e_cl hi0
    exact hl _ (by omega)
  have j162 : ∀ (v : Int32) (b : Bool) (N' : mm_M), kI M0 N' → ok (X2_reckon_j162l16 i (N 18 (Int32.toNatClampNeg i)) v b N') (sm (fun s' : Int32 × mm_M => (kI M0 s'.2 ∧ 0 ≤ s'.1.toInt ∧ (s'.1.toInt < 256 ∨ 256 ≤ s'.1.toInt)) ∧ (2147483647 - s'.1.toInt).toNat < (2147483647 - i.toInt).toNat) (fun r : Int32 × mm_M => kI M0 r.2)) := by
    intro v b N' hN'
    have j177 : ∀ b2 : Bool, ok (X2_reckon_j177l16 i (N 18 (Int32.toNatClampNeg i)) v b b2 N') (sm (fun s' : Int32 × mm_M => (kI M0 s'.2 ∧ 0 ≤ s'.1.toInt ∧ (s'.1.toInt < 256 ∨ 256 ≤ s'.1.toInt)) ∧ (2147483647 - s'.1.toInt).toNat < (2147483647 - i.toInt).toNat) (fun r : Int32 × mm_M => kI M0 r.2)) := by
      intro b2
      unfold X2_reckon_j177l16
      refine ok_i (fun _ => ok_l (ok_s ?_)) (fun _ => ok_s (fin _ hN'))
      generalize N 18 (Int32.toNatClampNeg i) = dd at hd
      have ed : (dd - 1).toInt = dd.toInt - 1 := by rw [e_sub (by rw [k1]; omega) (by rw [k1]; omega), k1]
      have em : i.toInt ≤ (if i < dd - 1 then dd - 1 else i).toInt ∧ (if i < dd - 1 then dd - 1 else i).toInt ≤ 1000000 := by
        by_cases c : i < dd - 1
        · rw [if_pos c]
          rw [e_lt] at c
          omega
        · rw [if_neg c]
          omega
      generalize (if i < dd - 1 then dd - 1 else i) = m at em
      have e2 : (m + 1).toInt = m.toInt + 1 := e_inc (b := 1000000) (by omega) (by omega) (by omega)
      exact ⟨⟨pu_in hN', by first | omega | (dsimp only; omega), by omega⟩, by first | omega | (dsimp only; omega)⟩
    unfold X2_reckon_j162l16
    exact ok_i (fun _ => ok_i (fun _ => j177 _) (fun _ => j177 _)) (fun z => absurd hin z)
  refine ok_i (fun _ => ok_i (fun _ => ?_) (fun z => absurd hin z)) (fun z => absurd hin z)
  refine ok_i (fun _ => ok_b _ (po_in hN) (fun r hr => ok_s hr)) (fun _ => ok_i (fun _ => ok_l (ok_s (fin _ (pu_in hN)))) (fun _ => ok_i (fun _ => ok_i (fun _ => ok_l (ok_s (fin _ (pu_in hN)))) (fun _ => ok_i (fun _ => ok_l (ok_s (fin _ (pu_in hN)))) (fun _ => ok_l (ok_s (fin _ (pu_in hN)))))) (fun _ => ok_i (fun _ => ok_b _ (po_in hN) (fun r hr => ok_l (ok_s (fin _ (pu_in hr))))) (fun _ => ok_i (fun _ => ok_b _ (po_in hN) (fun r hr => ok_i (fun _ => j162 _ _ _ hr) (fun _ => j162 _ _ _ hr))) (fun _ => ok_i (fun _ => ok_b _ (po_in hN) (fun r hr => ok_i (fun _ => j162 _ _ _ hr) (fun _ => j162 _ _ _ hr))) (fun _ => ok_b _ (po_in hN) (fun r hr => ok_i (fun _ => ok_b _ (po_in hr) (fun r2 hr2 => ok_l (ok_l (ok_s (fin _ (pu_in (jo_in hr2))))))) (fun z => absurd hin z))))))))
/-- what asking the law keeps -/
def qI (M0 M : mm_M) : Prop := fr [13, 19] M0 M ∧ ∀ k, k ≠ 8 → k ≠ 9 → M 13 k = M0 13 k
theorem qI_k {M0 M : mm_M} (h : kI M0 M) : qI M0 M := ⟨h.1, h.2.1⟩
theorem he_in {M0 M : mm_M} {x : Int32} (h : qI M0 M) (hl : lI M0) (h0 : 0 ≤ x.toInt) (h1 : x.toInt < 16) : ok (X2_isHeld x M) (fun r => qI M0 r.2) := by
  have k0 : (0 : Int32).toInt = 0 := rfl
  have k16 : (16 : Int32).toInt = 16 := rfl
  unfold X2_isHeld X2_isHeld_j15
  refine ok_i (fun c => by exfalso; rw [e_lt] at c; omega) (fun _ => ok_i (fun c => by exfalso; rw [e_le] at c; omega) (fun _ => ok_i (fun _ => ok_i (fun _ => ok_b _ (re_in h hl) (fun r hr => ok_i (fun _ => ok_s (qI_k hr)) (fun _ => ok_i (fun _ => ok_s (qI_k hr)) (fun _ => ok_s (qI_k hr))))) (fun z => absurd (e_inb h0 h1) z)) (fun z => absurd rfl z)))
theorem ha_in {M0 M : mm_M} {x : Int32} (h : qI M0 M) (hl : lI M0) : ok (X2_holdsAny x M) (fun r => qI M0 r.2) := by
  have k16 : (16 : Int32).toInt = 16 := rfl
  unfold X2_holdsAny
  refine ok_lp (fun s : Int32 × mm_M => qI M0 s.2 ∧ 0 ≤ s.1.toInt ∧ s.1.toInt ≤ 16) (fun s => (16 - s.1.toInt).toNat) _ ⟨h, by show 0 ≤ (0 : Int32).toInt; decide, by show (0 : Int32).toInt ≤ 16; decide⟩ (by show ((16 : Int) - (0 : Int32).toInt).toNat < 4000000000; decide) ?_
  rintro ⟨i, N⟩ ⟨hN, hi0, hi1⟩
  dsimp only at hN hi0 hi1
  have ei : (i + 1).toInt = i.toInt + 1 := e_inc hi0 hi1 (by omega)
  unfold X2_holdsAny_l2
  refine ok_i (fun _ => ok_s hN) (fun _ => ok_i (fun _ => ok_s hN) (fun c => ?_))
  dsimp only at c
  rw [e_le] at c
  refine ok_i (fun _ => ok_i (fun _ => ok_b _ (he_in hN hl hi0 (by first | omega | (dsimp only; omega))) (fun r hr => ok_i (fun _ => ok_s hr) (fun _ => ok_s ⟨⟨hr, by first | omega | (dsimp only; omega), by first | omega | (dsimp only; omega)⟩, by first | omega | (dsimp only; omega)⟩))) (fun _ => ok_s ⟨⟨hN, by first | omega | (dsimp only; omega), by first | omega | (dsimp only; omega)⟩, by first | omega | (dsimp only; omega)⟩)) (fun z => absurd (e_inb hi0 (by first | omega | (dsimp only; omega))) z)
theorem fn_in {M0 M : mm_M} {x y : Int32} (h : qI M0 M) (hl : lI M0) (hy : 0 ≤ y.toInt) : ok (X2_firstNumber x y M) (fun r => qI M0 r.2 ∧ 0 ≤ r.1.toInt ∧ r.1.toInt ≤ y.toInt) := by
  have k0 : (0 : Int32).toInt = 0 := rfl
  have k16 : (16 : Int32).toInt = 16 := rfl
  unfold X2_firstNumber
  refine ok_b (sm (fun r : Int32 × mm_M => qI M0 r.2 ∧ 0 ≤ r.1.toInt ∧ r.1.toInt ≤ y.toInt) (fun r : Int32 × mm_M => qI M0 r.2 ∧ 0 ≤ r.1.toInt ∧ r.1.toInt < 16)) ?_ ?_
  · refine ok_lp (fun s : Int32 × mm_M => qI M0 s.2 ∧ 0 ≤ s.1.toInt ∧ s.1.toInt ≤ 16) (fun s => (16 - s.1.toInt).toNat) _ ⟨h, by show 0 ≤ (0 : Int32).toInt; decide, by show (0 : Int32).toInt ≤ 16; decide⟩ (by show ((16 : Int) - (0 : Int32).toInt).toNat < 4000000000; decide) ?_
    rintro ⟨i, N⟩ ⟨hN, hi0, hi1⟩
    dsimp only at hN hi0 hi1
    have ei : (i + 1).toInt = i.toInt + 1 := e_inc hi0 hi1 (by omega)
    unfold X2_firstNumber_l3
    refine ok_i (fun _ => ok_s ⟨hN, by show 0 ≤ (0 : Int32).toInt; decide, by show (0 : Int32).toInt ≤ y.toInt; omega⟩) (fun _ => ok_i (fun _ => ok_s ⟨hN, by show 0 ≤ (0 : Int32).toInt; decide, by show (0 : Int32).toInt ≤ y.toInt; omega⟩) (fun c => ?_))
    dsimp only at c
    rw [e_le] at c
    refine ok_i (fun _ => ok_i (fun _ => ok_b _ (he_in hN hl hi0 (by first | omega | (dsimp only; omega))) (fun r hr => ok_i (fun _ => ok_s ⟨hr, hi0, by first | omega | (dsimp only; omega)⟩) (fun _ => ok_s ⟨⟨hr, by first | omega | (dsimp only; omega), by first | omega | (dsimp only; omega)⟩, by first | omega | (dsimp only; omega)⟩))) (fun _ => ok_s ⟨⟨hN, by first | omega | (dsimp only; omega), by first | omega | (dsimp only; omega)⟩, by first | omega | (dsimp only; omega)⟩)) (fun z => absurd (e_inb hi0 (by first | omega | (dsimp only; omega))) z)
  · intro r hr
    cases r with
    | inl r => exact ok_s hr
    | inr r =>
      obtain ⟨hq, h0, h1⟩ := hr
      refine ok_i (fun _ => ok_b _ (re_in hq hl) (fun r2 hr2 => ok_i (fun _ => ok_s ⟨qI_k hr2, ?_, ?_⟩) (fun _ => ok_s ⟨qI_k hr2, by show 0 ≤ (0 : Int32).toInt; decide, by show (0 : Int32).toInt ≤ y.toInt; omega⟩))) (fun z => absurd (e_inb h0 h1) z)
      · dsimp only
        generalize (if r2.1 < y then r2.1 else y) = m
        by_cases c : 0 < m
        · rw [if_pos c]
          rw [e_lt] at c
          omega
        · rw [if_neg c]
          decide
      · dsimp only
        have hm : (if r2.1 < y then r2.1 else y).toInt ≤ y.toInt := by
          by_cases c : r2.1 < y
          · rw [if_pos c]
            rw [e_lt] at c
            omega
          · rw [if_neg c]
            omega
        generalize (if r2.1 < y then r2.1 else y) = m at hm
        by_cases c : 0 < m
        · rw [if_pos c]
          exact hm
        · rw [if_neg c]
          omega
