/-! THE REFERENCE READS A LAW -/
def PI (M0 M : mm_M) (n f p c w u : Nat) (h : Nat → Nat) : Prop :=
  (tI M n p ∧ fr [0, 8, 9] M0 M ∧ (∀ k, k < 9 ∨ 15 < k → M 0 k = M0 0 k) ∧ ∀ k, k < f → M 8 k = M0 8 k) ∧ (M 0 14 = nI c ∧ M 0 15 = nI w ∧ w ≤ p ∧ c + ps gW (M 9) w ≤ u ∧ u ≤ 245 ∧ f ≤ c) ∧ h f = 0 ∧ cd (M 8) (M 9) h f c w
section LAWM
variable {M0 M : mm_M} {n f p c w u : Nat} {h : Nat → Nat}
theorem PI_u {k : Nat} {v : Int32} (H : PI M0 M n f p c w u h) (hk : k = 11 ∨ k = 12 ∨ k = 13) : PI M0 (mm_U M 0 k v) n f p c w u h := by
  obtain ⟨⟨h1, h2, h3, h4⟩, ⟨h5, h6, h7⟩, h8⟩ := H
  have e : ∀ j, j ≠ k → mm_U M 0 k v 0 j = M 0 j := fun j hj => by rw [e_U, if_neg (fun z => hj z.2)]
  refine ⟨⟨tI_u h1 (by omega), fr_U h2 (by decide), fun j hj => ?_, h4⟩, ⟨?_, ?_, h7⟩, h8⟩
  · rw [e j (by omega)]; exact h3 j hj
  · rw [e 14 (by omega)]; exact h5
  · rw [e 15 (by omega)]; exact h6
theorem PI_n {v : Int32} (hv : v = nI (p + 1)) (H : PI M0 M n f p c w u h) (hlt : p < n) : PI M0 (mm_U M 0 9 v) n f (p + 1) c w u h := by
  obtain ⟨⟨h1, h2, h3, h4⟩, ⟨h5, h6, h7, h7'⟩, h8⟩ := H
  have e : ∀ j, j ≠ 9 → mm_U M 0 9 v 0 j = M 0 j := fun j hj => by rw [e_U, if_neg (fun z => hj z.2)]
  refine ⟨⟨⟨?_, ?_, by omega, h1.2.2.2⟩, fr_U h2 (by decide), fun j hj => ?_, h4⟩, ⟨?_, ?_, by omega, h7'⟩, h8⟩
  · rw [mm_U_same]; exact hv
  · rw [e 10 (by omega)]; exact h1.2.1
  · rw [e j (by omega)]; exact h3 j hj
  · rw [e 14 (by omega)]; exact h5
  · rw [e 15 (by omega)]; exact h6
/-- something is put behind what waits, and the place goes on -/
theorem PI_push {kd : Nat} {x y : Int32} (hx : x = nI (1048576 * kd)) (hy : y = nI (p + 1)) (H : PI M0 M n f p c w u h) (hlt : p < n) (hk : kd ≤ 14) (h1 : kd ≠ 11) (h2 : kd ≠ 12) (hu : u < 245) : PI M0 (mm_U (mm_U (mm_U M 9 w x) 0 15 (nI (w + 1))) 0 9 y) n f (p + 1) c (w + 1) (u + gW kd) h ∧ (mm_U (mm_U (mm_U M 9 w x) 0 15 (nI (w + 1))) 0 9 y) 9 = upd (M 9) w (nI (1048576 * kd)) := by
  subst hx hy
  obtain ⟨⟨t1, t2, t3, t4⟩, ⟨h5, h6, h7, h8, h9, h10⟩, h11, h12⟩ := H
  have g0 : ∀ j, mm_U (mm_U (mm_U M 9 w (nI (1048576 * kd))) 0 15 (nI (w + 1))) 0 9 (nI (p + 1)) 0 j = if j = 9 then nI (p + 1) else if j = 15 then nI (w + 1) else M 0 j := by
    intro j
    simp only [e_U, true_and]
    simp
  have g9 : (mm_U (mm_U (mm_U M 9 w (nI (1048576 * kd))) 0 15 (nI (w + 1))) 0 9 (nI (p + 1))) 9 = upd (M 9) w (nI (1048576 * kd)) := by
    rw [mm_U_ne 9 (by decide), mm_U_ne 9 (by decide), mm_U_eq]
  have hg : gW kd ≤ 1 := by unfold gW; split <;> omega
  refine ⟨⟨⟨⟨?_, ?_, by omega, t1.2.2.2⟩, fr_U (fr_U (fr_U t2 (by decide)) (by decide)) (by decide), fun j hj => ?_, t4⟩, ⟨?_, ?_, by omega, ?_, by omega, h10⟩, h11, ?_⟩, g9⟩
  · rw [g0]; rfl
  · rw [g0]; exact t1.2.1
  · rw [g0, if_neg (by omega), if_neg (by omega)]; exact t3 j hj
  · rw [g0]; exact h5
  · rw [g0]; rfl
  · rw [g9]
    show c + (ps gW (upd (M 9) w (nI (1048576 * kd))) w + gW (kdN (upd (M 9) w (nI (1048576 * kd)) w))) ≤ u + gW kd
    rw [ps_upd w (Nat.le_refl _), upd_eq, show kdN (nI (1048576 * kd)) = kd from kdN_eq (d := 0) hk (by omega)]
    omega
  · rw [g9]
    exact cd_push h12 hk h1 h2
/-- a note -/
theorem PI_note {op v x : Nat} {y : Int32} (hy : y = nI (1048576 * op + v)) (H : PI M0 M n f p c w u h) (hv : v < 1048576) (ho : (op = 0 ∧ x = h c + 1) ∨ (op = 1 ∧ v < 9 ∧ x = h c + 1) ∨ (2 ≤ op ∧ op ≤ 9 ∧ 2 ≤ h c ∧ x + 1 = h c) ∨ (op = 10 ∧ 1 ≤ h c ∧ x = h c)) (hu : u < 245) : PI M0 (mm_U (mm_U M 8 c y) 0 14 (nI (c + 1))) n f p (c + 1) w (u + 1) (uh h (c + 1) x) ∧ (mm_U (mm_U M 8 c y) 0 14 (nI (c + 1))) 9 = M 9 := by
  subst hy
  obtain ⟨⟨t1, t2, t3, t4⟩, ⟨h5, h6, h7, h8, h9, h10⟩, h11, h12⟩ := H
  have g0 : ∀ j, mm_U (mm_U M 8 c (nI (1048576 * op + v))) 0 14 (nI (c + 1)) 0 j = if j = 14 then nI (c + 1) else M 0 j := by
    intro j
    simp only [e_U, true_and]
    simp
  have g8 : (mm_U (mm_U M 8 c (nI (1048576 * op + v))) 0 14 (nI (c + 1))) 8 = upd (M 8) c (nI (1048576 * op + v)) := by
    rw [mm_U_ne 8 (by decide), mm_U_eq]
  have g9 : (mm_U (mm_U M 8 c (nI (1048576 * op + v))) 0 14 (nI (c + 1))) 9 = M 9 := by
    rw [mm_U_ne 9 (by decide), mm_U_ne 9 (by decide)]
  refine ⟨⟨⟨⟨?_, ?_, t1.2.2⟩, fr_U (fr_U t2 (by decide)) (by decide), fun j hj => ?_, fun k hk => ?_⟩, ⟨?_, ?_, h7, ?_, by omega, by omega⟩, ?_, ?_⟩, g9⟩
  · rw [g0]; exact t1.1
  · rw [g0]; exact t1.2.1
  · rw [g0, if_neg (by omega)]; exact t3 j hj
  · rw [g8, upd_ne (by omega)]; exact t4 k hk
  · rw [g0]; rfl
  · rw [g0]; exact h6
  · rw [g9]; omega
  · rw [uh_le h10]; exact h11
  · rw [g8, g9]; exact cd_note h12 hv ho
theorem no_m {op v x : Nat} {a b : Int32} (ha : a = nI op) (hb : b = nI v) (H : PI M0 M n f p c w u h) (hv : v < 1048576) (ho : (op = 0 ∧ x = h c + 1) ∨ (op = 1 ∧ v < 9 ∧ x = h c + 1) ∨ (2 ≤ op ∧ op ≤ 9 ∧ 2 ≤ h c ∧ x + 1 = h c) ∨ (op = 10 ∧ 1 ≤ h c ∧ x = h c)) (hu : u < 245) : ok (X12_notes a b M) (fun N => PI M0 N n f p (c + 1) w (u + 1) (uh h (c + 1) x) ∧ N 9 = M 9 ∧ (∀ k, k ≠ 14 → N 0 k = M 0 k)) := by
  subst ha hb
  have h14 := H.2.1.1
  have hcu := H.2.1.2.2.2.1
  unfold X12_notes
  rw [h14]
  have hin : mm_in (nI c) 260 = true := e_inb (by rw [e_nIt (by omega)]; omega) (by rw [e_nIt (by omega)]; omega)
  refine ok_i (fun _ => ok_s ?_) (fun z => absurd hin z)
  rw [e_nIc (by omega), nI_1]
  obtain ⟨g1, g2⟩ := PI_note (y := (1048576 : Int32) * nI op + nI v) (by rw [show (1048576 : Int32) = nI 1048576 from rfl, nI_mul, nI_add]) H hv ho hu
  refine ⟨g1, g2, fun k hk => ?_⟩
  rw [e_U, if_neg (fun z => hk z.2), mm_U_ne 0 (by decide)]
/-- what waits on top -/
theorem wt_m (H : PI M0 M n f p c w u h) : (w = 0 ∧ X12_waitTop M = some (-1)) ∨ ∃ w' kd d, w = w' + 1 ∧ M 9 w' = nI (1048576 * kd + d) ∧ d < 1048576 ∧ kd ≤ 14 ∧ X12_waitTop M = some (nI kd) ∧ ((kd = 11 ∨ kd = 12) → f ≤ d ∧ d < c ∧ h d = 1 ∧ h (d + 1) = 0 ∧ ∃ op v : Nat, (op = 11 ∨ op = 12) ∧ M 8 d = nI (1048576 * op + v) ∧ v < 1048576) := by
  obtain ⟨⟨t1, t2, t3, t4⟩, ⟨h5, h6, h7, h8, h9, h10⟩, h11, h12⟩ := H
  have hn := t1.2.2
  unfold X12_waitTop
  rw [h6]
  by_cases c0 : w = 0
  · left
    subst c0
    exact ⟨rfl, by rw [if_pos (by rfl)]⟩
  · right
    obtain ⟨w', rfl⟩ : ∃ w', w = w' + 1 := ⟨w - 1, by omega⟩
    obtain ⟨kd, d, b1, b2, b3, b4⟩ := h12.2 w' (by omega)
    have es : nI (w' + 1) - 1 = nI w' := by
      have k1 : (1 : Int32).toInt = 1 := rfl
      rw [e_eq, e_sub (by rw [e_nIt (by omega), k1]; omega) (by rw [e_nIt (by omega), k1]; omega), e_nIt (by omega), e_nIt (by omega), k1]
      omega
    have hz : ¬ nI (w' + 1) = 0 := by
      intro z
      have := nI_inj (a := w' + 1) (b := 0) (by omega) (by omega) (z.trans nI_0.symm)
      omega
    refine ⟨w', kd, d, rfl, b1, b2, b3, ?_, b4⟩
    rw [if_neg hz, es, if_pos (e_inb (by rw [e_nIt (by omega)]; omega) (by rw [e_nIt (by omega)]; omega)), e_nIc (by omega), b1, nI_div b3 b2]
/-- the top goes -/
theorem PI_pop {w' kd d : Nat} {x : Int32} (hx : x = nI w') (H : PI M0 M n f p c (w' + 1) u h) (e : M 9 w' = nI (1048576 * kd + d)) (hd : d < 1048576) (hk : kd ≤ 14) (h1 : kd ≠ 11) (h2 : kd ≠ 12) : PI M0 (mm_U M 0 15 x) n f p c w' (u - gW kd) h := by
  subst hx
  obtain ⟨⟨t1, t2, t3, t4⟩, ⟨h5, h6, h7, h8, h9, h10⟩, h11, h12⟩ := H
  have g0 : ∀ j, j ≠ 15 → mm_U M 0 15 (nI w') 0 j = M 0 j := fun j hj => by rw [e_U, if_neg (fun z => hj z.2)]
  have hp : ps gW (M 9) (w' + 1) = ps gW (M 9) w' + gW kd := by
    show ps gW (M 9) w' + gW (kdN (M 9 w')) = _
    rw [e, kdN_eq hk hd]
  refine ⟨⟨⟨?_, ?_, t1.2.2⟩, fr_U t2 (by decide), fun j hj => ?_, t4⟩, ⟨?_, mm_U_same, by omega, ?_, by omega, h10⟩, h11, cd_pop h12 e hd hk h1 h2 (by omega)⟩
  · rw [g0 9 (by omega)]; exact t1.1
  · rw [g0 10 (by omega)]; exact t1.2.1
  · rw [g0 j (by omega)]; exact t3 j hj
  · rw [g0 14 (by omega)]; exact h5
  · rw [mm_U_ne 9 (by decide)]
    omega
/-- less credit is needed -/
theorem PI_le {u' : Nat} (H : PI M0 M n f p c w u h) (hu : u ≤ u') (h' : u' ≤ 245) : PI M0 M n f p c w u' h := by
  obtain ⟨t, ⟨h5, h6, h7, h8, h9, h10⟩, r⟩ := H
  exact ⟨t, ⟨h5, h6, h7, by omega, h', h10⟩, r⟩
theorem PI_w (H : PI M0 M n f p c w u h) : w ≤ 240 ∧ c ≤ 245 ∧ p ≤ 240 := by
  have a := H.2.1
  have b := H.1.1.2.2
  omega
/-- the top sign is noted and goes -/
theorem PI_sign {w' kd d : Nat} (H : PI M0 M n f p c (w' + 1) u h) (e : M 9 w' = nI (1048576 * kd + d)) (hd : d < 1048576) (hk : 2 ≤ kd ∧ kd ≤ 6) (h2 : 2 ≤ h c) (hu : u < 245) : ok ((X12_notes (nI kd) 0 M).bind fun y => some (mm_U y 0 15 ((y 0 15) - 1))) (fun N => PI M0 N n f p (c + 1) w' u (uh h (c + 1) (h c - 1)) ∧ N 9 = M 9 ∧ ∀ k, k ≠ 14 → k ≠ 15 → N 0 k = M 0 k) := by
  refine ok_b _ (no_m (op := kd) (v := 0) (x := h c - 1) rfl nI_0.symm H (by omega) (Or.inr (Or.inr (Or.inl ⟨hk.1, by omega, h2, by omega⟩))) hu) (fun N hN => ok_s ?_)
  obtain ⟨a1, a2, a3⟩ := hN
  have hw := (PI_w a1).1
  have es : N 0 15 - 1 = nI w' := by
    have k1 : (1 : Int32).toInt = 1 := rfl
    rw [a1.2.1.2.1, e_eq, e_sub (by rw [e_nIt (by omega), k1]; omega) (by rw [e_nIt (by omega), k1]; omega), e_nIt (by omega), e_nIt (by omega), k1]
    omega
  have b := PI_pop es a1 (by rw [a2]; exact e) hd (by omega) (by omega) (by omega)
  have hg : gW kd = 1 := by unfold gW; rw [if_pos (Or.inl hk)]
  rw [hg, Nat.add_sub_cancel] at b
  refine ⟨b, ?_, fun k h14 h15 => ?_⟩
  · rw [mm_U_ne 9 (by decide)]; exact a2
  · rw [e_U, if_neg (fun z => h15 z.2)]; exact a3 k h14
end LAWM
/-- the height of a sum: its signs that wait, what stands below, and what is had -/
def PS (M : mm_M) (c w t : Nat) (h : Nat → Nat) : Prop := h c = t + ps gS (M 9) w + 1
/-- signs are closed -/
theorem cs_m {M0 M : mm_M} {n f p c w u t : Nat} {h : Nat → Nat} (x : Int32) (H : PI M0 M n f p c w u h) (HS : PS M c w t h) (hu : u < 245) : ok (X12_closesSums x M) (fun N => ∃ c' w' h', PI M0 N n f p c' w' u h' ∧ PS N c' w' t h' ∧ N 9 = M 9 ∧ w' ≤ w ∧ (∀ j, w' ≤ j → j < w → 2 ≤ kdN (M 9 j) ∧ kdN (M 9 j) ≤ 6) ∧ (x = 1 → w' = 0 ∨ ¬ (2 ≤ kdN (M 9 (w' - 1)) ∧ kdN (M 9 (w' - 1)) ≤ 6)) ∧ ∀ k, k ≠ 14 → k ≠ 15 → N 0 k = M 0 k) := by
  have k4 : (4 : Int32).toInt = 4 := rfl
  have k6 : (6 : Int32).toInt = 6 := rfl
  have k2 : (2 : Int32).toInt = 2 := rfl
  have k3 : (3 : Int32).toInt = 3 := rfl
  unfold X12_closesSums
  refine ok_lp (fun N : mm_M => ∃ c' w' h', PI M0 N n f p c' w' u h' ∧ PS N c' w' t h' ∧ N 9 = M 9 ∧ w' ≤ w ∧ (∀ j, w' ≤ j → j < w → 2 ≤ kdN (M 9 j) ∧ kdN (M 9 j) ≤ 6) ∧ ∀ k, k ≠ 14 → k ≠ 15 → N 0 k = M 0 k) (fun N => Int32.toNatClampNeg (N 0 15)) _ ⟨c, w, h, H, HS, rfl, Nat.le_refl _, fun j h1 h2 => by omega, fun _ _ _ => rfl⟩ (by rw [H.2.1.2.1, e_nIc (by have := (PI_w H).1; omega)]; have := (PI_w H).1; omega) ?_
  rintro N ⟨c1, w1, h1, a1, a2, a3, a4, a5, a6⟩
  have hw1 := (PI_w a1).1
  have fin : (x = 1 → w1 = 0 ∨ ¬ (2 ≤ kdN (M 9 (w1 - 1)) ∧ kdN (M 9 (w1 - 1)) ≤ 6)) → sm (fun N' : mm_M => (∃ c' w' h', PI M0 N' n f p c' w' u h' ∧ PS N' c' w' t h' ∧ N' 9 = M 9 ∧ w' ≤ w ∧ (∀ j, w' ≤ j → j < w → 2 ≤ kdN (M 9 j) ∧ kdN (M 9 j) ≤ 6) ∧ ∀ k, k ≠ 14 → k ≠ 15 → N' 0 k = M 0 k) ∧ Int32.toNatClampNeg (N' 0 15) < Int32.toNatClampNeg (N 0 15)) (fun N' : mm_M => ∃ c' w' h', PI M0 N' n f p c' w' u h' ∧ PS N' c' w' t h' ∧ N' 9 = M 9 ∧ w' ≤ w ∧ (∀ j, w' ≤ j → j < w → 2 ≤ kdN (M 9 j) ∧ kdN (M 9 j) ≤ 6) ∧ (x = 1 → w' = 0 ∨ ¬ (2 ≤ kdN (M 9 (w' - 1)) ∧ kdN (M 9 (w' - 1)) ≤ 6)) ∧ ∀ k, k ≠ 14 → k ≠ 15 → N' 0 k = M 0 k) (.inr N) := fun hx => ⟨c1, w1, h1, a1, a2, a3, a4, a5, hx, a6⟩
  unfold X12_closesSums_l0
  rcases wt_m a1 with ⟨z0, e0⟩ | ⟨w2, kd, d, ew, b1, b2, b3, e0, -⟩
  · simp only [e0, Option.bind_some]
    rw [if_pos (by decide)]
    unfold X12_closesSums_j17l0
    simp only [e0, Option.bind_some]
    refine ok_i (fun _ => ok_s (fin (fun _ => Or.inl z0))) (fun _ => ?_)
    rw [if_neg (by decide), if_neg (by decide)]
    exact ok_s (fin (fun _ => Or.inl z0))
  · subst ew
    have ek : kdN (M 9 w2) = kd := by rw [← a3, b1, kdN_eq b3 b2]
    have hcl : 2 ≤ kd ∧ kd ≤ 6 → ok (X12_closesSums_j37l0 x N) (sm (fun N' : mm_M => (∃ c' w' h', PI M0 N' n f p c' w' u h' ∧ PS N' c' w' t h' ∧ N' 9 = M 9 ∧ w' ≤ w ∧ (∀ j, w' ≤ j → j < w → 2 ≤ kdN (M 9 j) ∧ kdN (M 9 j) ≤ 6) ∧ ∀ k, k ≠ 14 → k ≠ 15 → N' 0 k = M 0 k) ∧ Int32.toNatClampNeg (N' 0 15) < Int32.toNatClampNeg (N 0 15)) (fun N' : mm_M => ∃ c' w' h', PI M0 N' n f p c' w' u h' ∧ PS N' c' w' t h' ∧ N' 9 = M 9 ∧ w' ≤ w ∧ (∀ j, w' ≤ j → j < w → 2 ≤ kdN (M 9 j) ∧ kdN (M 9 j) ≤ 6) ∧ (x = 1 → w' = 0 ∨ ¬ (2 ≤ kdN (M 9 (w' - 1)) ∧ kdN (M 9 (w' - 1)) ≤ 6)) ∧ ∀ k, k ≠ 14 → k ≠ 15 → N' 0 k = M 0 k)) := by
      intro hk
      have hS : ps gS (N 9) (w2 + 1) = ps gS (N 9) w2 + 1 := by
        show ps gS (N 9) w2 + gS (kdN (N 9 w2)) = _
        rw [b1, kdN_eq b3 b2]
        unfold gS
        rw [if_pos hk]
      have a2' := a2
      unfold PS at a2'
      rw [hS] at a2'
      unfold X12_closesSums_j37l0
      simp only [e0, Option.bind_some]
      obtain ⟨B, eB, hB⟩ := PI_sign a1 b1 b2 hk (by omega) hu
      obtain ⟨y, ey, e2⟩ := Option.bind_eq_some_iff.mp eB
      have e2 := Option.some.inj e2
      rw [ey]
      show ok (some (Sum.inl (mm_U y 0 15 (y 0 15 - 1)))) _
      rw [e2]
      obtain ⟨g1, g2, g3⟩ := hB
      refine ok_s ⟨⟨c1 + 1, w2, _, g1, ?_, g2.trans a3, by omega, fun j hj1 hj2 => ?_, fun k hk1 hk2 => (g3 k hk1 hk2).trans (a6 k hk1 hk2)⟩, ?_⟩
      · unfold PS
        rw [uh_eq, g2]
        omega
      · by_cases cj : j = w2
        · rw [cj, ek]; exact hk
        · exact a5 j (by omega) hj2
      · rw [g1.2.1.2.1, a1.2.1.2.1, e_nIc (by omega), e_nIc (by omega)]
        omega
    have ekI : (nI kd).toInt = (kd : Int) := e_nIt (by omega)
    have h17 : ¬ (4 ≤ kd ∧ kd ≤ 6) → ok (X12_closesSums_j17l0 x N) (sm (fun N' : mm_M => (∃ c' w' h', PI M0 N' n f p c' w' u h' ∧ PS N' c' w' t h' ∧ N' 9 = M 9 ∧ w' ≤ w ∧ (∀ j, w' ≤ j → j < w → 2 ≤ kdN (M 9 j) ∧ kdN (M 9 j) ≤ 6) ∧ ∀ k, k ≠ 14 → k ≠ 15 → N' 0 k = M 0 k) ∧ Int32.toNatClampNeg (N' 0 15) < Int32.toNatClampNeg (N 0 15)) (fun N' : mm_M => ∃ c' w' h', PI M0 N' n f p c' w' u h' ∧ PS N' c' w' t h' ∧ N' 9 = M 9 ∧ w' ≤ w ∧ (∀ j, w' ≤ j → j < w → 2 ≤ kdN (M 9 j) ∧ kdN (M 9 j) ≤ 6) ∧ (x = 1 → w' = 0 ∨ ¬ (2 ≤ kdN (M 9 (w' - 1)) ∧ kdN (M 9 (w' - 1)) ≤ 6)) ∧ ∀ k, k ≠ 14 → k ≠ 15 → N' 0 k = M 0 k)) := by
      intro hk
      unfold X12_closesSums_j17l0
      simp only [e0, Option.bind_some]
      refine ok_i (fun cx => ok_s (fin (fun z => by rw [cx] at z; exact absurd z (by decide)))) (fun _ => ok_i (fun c2 => hcl ?_) (fun c2 => ok_i (fun c3 => hcl ?_) (fun c3 => ok_s (fin (fun _ => Or.inr ?_)))))
      · rw [e_eq, ekI, k2] at c2
        omega
      · rw [e_eq, ekI, k3] at c3
        omega
      · rw [e_eq, ekI, k2] at c2
        rw [e_eq, ekI, k3] at c3
        rw [Nat.add_sub_cancel, ek]
        omega
    simp only [e0, Option.bind_some]
    refine ok_i (fun c4 => h17 ?_) (fun c4 => ok_i (fun c6 => hcl ?_) (fun c6 => h17 ?_))
    · rw [e_lt, ekI, k4] at c4
      omega
    · rw [e_lt, ekI, k4] at c4
      rw [e_le, ekI, k6] at c6
      omega
    · rw [e_le, ekI, k6] at c6
      omega
