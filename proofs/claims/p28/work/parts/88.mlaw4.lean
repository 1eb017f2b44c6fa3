/-- conditions: what waits there -/
def CK (A : Nat → Int32) (w : Nat) : Prop := (∀ j, j < w → 10 ≤ kdN (A j) ∧ kdN (A j) ≤ 13) ∧ 1 ≤ w ∧ kdN (A 0) = 13
theorem CK_low {A : Nat → Int32} {w : Nat} (h : CK A w) : ∀ j, j < w → ¬ (2 ≤ kdN (A j) ∧ kdN (A j) ≤ 6) := fun j hj => by
  have := h.1 j hj
  omega
/-- tests are denied -/
theorem ep_m {M0 M : mm_M} {n f p c w u : Nat} {h : Nat → Nat} (H : PI M0 M n f p c w u h) (hh : h c = 1) (hu : u < 245) : ok (X12_endsPiece M) (fun N => ∃ c' w' h', PI M0 N n f p c' w' u h' ∧ h' c' = 1 ∧ w' ≤ w ∧ N 9 = M 9 ∧ (∀ j, w' ≤ j → j < w → kdN (M 9 j) = 10)) := by
  unfold X12_endsPiece
  refine ok_lp (fun N : mm_M => ∃ c' w' h', PI M0 N n f p c' w' u h' ∧ h' c' = 1 ∧ w' ≤ w ∧ N 9 = M 9 ∧ (∀ j, w' ≤ j → j < w → kdN (M 9 j) = 10)) (fun N => Int32.toNatClampNeg (N 0 15)) _ ⟨c, w, h, H, hh, Nat.le_refl _, rfl, fun j h1 h2 => by omega⟩ (by rw [H.2.1.2.1, e_nIc (by have := (PI_w H).1; omega)]; have := (PI_w H).1; omega) ?_
  rintro N ⟨c1, w1, h1, a1, a2, a3, a4, a5⟩
  have hw1 := (PI_w a1).1
  unfold X12_endsPiece_l0
  rcases wt_m a1 with ⟨z0, e0⟩ | ⟨w2, kd, d, ew, b1, b2, b3, e0, -⟩
  · simp only [e0, Option.bind_some]
    rw [if_neg (by decide)]
    exact ok_s ⟨c1, w1, h1, a1, a2, a3, a4, a5⟩
  · subst ew
    simp only [e0, Option.bind_some]
    refine ok_i (fun c10 => ?_) (fun _ => ok_s ⟨c1, _, h1, a1, a2, a3, a4, a5⟩)
    have hkd : kd = 10 := nI_inj (by omega) (by omega) c10
    have ek : kdN (M 9 w2) = 10 := by rw [← a4, b1, kdN_eq b3 b2, hkd]
    refine ok_b _ (no_m (op := 10) (v := 0) (x := h1 c1) rfl nI_0.symm a1 (by omega) (Or.inr (Or.inr (Or.inr ⟨rfl, by omega, rfl⟩))) hu) (fun B hB => ok_s ?_)
    obtain ⟨g1, g2, g3⟩ := hB
    have hw3 := (PI_w g1).1
    have es : B 0 15 - 1 = nI w2 := by
      have k1 : (1 : Int32).toInt = 1 := rfl
      rw [g1.2.1.2.1, e_eq, e_sub (by rw [e_nIt (by omega), k1]; omega) (by rw [e_nIt (by omega), k1]; omega), e_nIt (by omega), e_nIt (by omega), k1]
      omega
    have hC := PI_pop es g1 (by rw [g2]; exact b1) b2 b3 (by omega) (by omega)
    have hg : gW kd = 1 := by rw [hkd]; rfl
    rw [hg, Nat.add_sub_cancel] at hC
    have hD := PI_u (k := 13) (v := B 0 13 - 1) hC (by omega)
    have e9 : (mm_U (mm_U B 0 15 (B 0 15 - 1)) 0 13 (B 0 13 - 1)) 9 = M 9 := by
      rw [mm_U_ne 9 (by decide), mm_U_ne 9 (by decide), g2]; exact a4
    refine ⟨⟨c1 + 1, w2, _, hD, by rw [uh_eq]; exact a2, by omega, e9, fun j q1 q2 => ?_⟩, ?_⟩
    · by_cases cj : j = w2
      · rw [cj]; exact ek
      · exact a5 j (by omega) q2
    · rw [hD.2.1.2.1, a1.2.1.2.1, e_nIc (by omega), e_nIc (by omega)]
      omega
/-- a comparison -/
theorem co_m {M0 M : mm_M} {n f p c w u : Nat} {h : Nat → Nat} (H : PI M0 M n f p c w u h) (hh : h c = 0) (hlow : ∀ j, j < w → ¬ (2 ≤ kdN (M 9 j) ∧ kdN (M 9 j) ≤ 6)) (hu : u ≤ p) : ok (X12_readsCompared M) (QR M0 (fun N => ∃ p' c' w' u' h', PI M0 N n f p' c' w' u' h' ∧ h' c' = 1 ∧ p < p' ∧ u' ≤ p' ∧ w' ≤ w ∧ (∀ j, j < w → N 9 j = M 9 j) ∧ ∀ j, w' ≤ j → j < w → kdN (M 9 j) = 10)) := by
  unfold X12_readsCompared
  refine ok_b _ (su_m H hh hlow (by omega)) (fun r hr => ok_i (fun cr => ?_) (fun _ => ok_s ⟨(fun z => by cases z), hr.2⟩))
  obtain ⟨p1, c1, u1, h1, a1, a2, a3, a4, a5⟩ := hr.1 cr
  have hp1 := (PI_w a1).2.2
  obtain ⟨e2, -⟩ := he_m a1.1.1
  have j52 : ∀ op : Nat, 7 ≤ op → op ≤ 9 → p1 < n → ok (X12_readsCompared_j52 (nI op) r.2) (QR M0 (fun N => ∃ p' c' w' u' h', PI M0 N n f p' c' w' u' h' ∧ h' c' = 1 ∧ p < p' ∧ u' ≤ p' ∧ w' ≤ w ∧ (∀ j, j < w → N 9 j = M 9 j) ∧ ∀ j, w' ≤ j → j < w → kdN (M 9 j) = 10)) := by
    intro op ho1 ho2 hlt
    unfold X12_readsCompared_j52
    have hne : ¬ nI op = -1 := by
      intro z
      have := congrArg Int32.toInt z
      rw [e_nIt (by omega)] at this
      have km : (-1 : Int32).toInt = -1 := rfl
      omega
    rw [if_neg hne]
    have hB := PI_n (v := r.2 0 9 + 1) (by rw [a1.1.1.1]; exact nI_1 _) a1 hlt
    have e9 : (mm_U r.2 0 9 (r.2 0 9 + 1)) 9 = r.2 9 := by rw [mm_U_ne 9 (by decide)]
    generalize mm_U r.2 0 9 (r.2 0 9 + 1) = B at hB e9
    refine ok_b _ (su_m (t := 1) hB a2 (fun j hj => by rw [e9, a5 j hj]; exact hlow j hj) (by omega)) (fun x hx => ok_i (fun cx => ?_) (fun _ => ok_s ⟨(fun z => by cases z), hx.2⟩))
    obtain ⟨p2, c2, u2, h2, b1, b2, b3, b4, b5⟩ := hx.1 cx
    have hp2 := (PI_w b1).2.2
    refine ok_b _ (no_m (op := op) (v := 0) (x := 1) rfl nI_0.symm b1 (by omega) (Or.inr (Or.inr (Or.inl ⟨by omega, by omega, by omega, by omega⟩))) (by omega)) (fun D hD => ?_)
    obtain ⟨d1, d2, d3⟩ := hD
    refine ok_b _ (ep_m d1 uh_eq (by omega)) (fun E hE => ok_s ?_)
    obtain ⟨c4, w4, h4, f1, f2, f3, f4, f5⟩ := hE
    have eA : ∀ j, j < w → E 9 j = M 9 j := fun j hj => by
      rw [f4, d2, b5 j hj, e9]; exact a5 j hj
    refine QR_t ⟨p2, c4, w4, u2 + 1, h4, f1, f2, by omega, by omega, f3, eA, fun j q1 q2 => ?_⟩ (FI_P f1)
    have := f5 j q1 q2
    rw [d2, b5 j q2, e9, a5 j q2] at this
    exact this
  simp only [e2, Option.bind_some]
  refine ok_i (fun z => j52 7 (by omega) (by omega) (he_lt a1.1.1 (by rw [z]; decide))) (fun _ => ok_i (fun z => j52 8 (by omega) (by omega) (he_lt a1.1.1 (by rw [z]; decide))) (fun _ => ok_i (fun z => j52 9 (by omega) (by omega) (he_lt a1.1.1 (by rw [z]; decide))) (fun _ => ?_)))
  unfold X12_readsCompared_j52
  rw [if_pos rfl]
  exact QR_f _ _ (FI_P a1)
/-- skips land -/
theorem la_m {M0 M : mm_M} {n f p c w u : Nat} {h : Nat → Nat} (x : Int32) (H : PI M0 M n f p c w u h) (hh : h c = 1) : ok (X12_lands x M) (fun N => ∃ w', PI M0 N n f p c w' u h ∧ w' ≤ w ∧ N 9 = M 9 ∧ (∀ j, w' ≤ j → j < w → kdN (M 9 j) = 11 ∨ kdN (M 9 j) = 12) ∧ (¬ x = 0 → w' = 0 ∨ ¬ (kdN (M 9 (w' - 1)) = 11 ∨ kdN (M 9 (w' - 1)) = 12)) ∧ (∀ k, k ≠ 15 → N 0 k = M 0 k)) := by
  unfold X12_lands
  refine ok_lp (fun N : mm_M => ∃ w', PI M0 N n f p c w' u h ∧ w' ≤ w ∧ N 9 = M 9 ∧ (∀ j, w' ≤ j → j < w → kdN (M 9 j) = 11 ∨ kdN (M 9 j) = 12) ∧ (∀ k, k ≠ 15 → N 0 k = M 0 k)) (fun N => Int32.toNatClampNeg (N 0 15)) _ ⟨w, H, Nat.le_refl _, rfl, fun j h1 h2 => by omega, fun _ _ => rfl⟩ (by rw [H.2.1.2.1, e_nIc (by have := (PI_w H).1; omega)]; have := (PI_w H).1; omega) ?_
  rintro N ⟨w1, a1, a2, a3, a4, a5⟩
  have hw1 := (PI_w a1).1
  have hc1 := (PI_w a1).2.1
  unfold X12_lands_l0
  rcases wt_m a1 with ⟨z0, e0⟩ | ⟨w2, kd, d, ew, b1, b2, b3, e0, bb⟩
  · simp only [e0, Option.bind_some]
    rw [if_neg (by decide), if_neg (by decide : ¬ ((-1 : Int32) = 12))]
    exact ok_i (fun _ => ok_s ⟨w1, a1, a2, a3, a4, fun _ => Or.inl z0, a5⟩) (fun _ => ok_s ⟨w1, a1, a2, a3, a4, fun _ => Or.inl z0, a5⟩)
  · subst ew
    have ek : kdN (M 9 w2) = kd := by rw [← a3, b1, kdN_eq b3 b2]
    have land : (kd = 11 ∨ kd = 12) → ok (X12_lands_j22l0 x N) (sm (fun N' : mm_M => (∃ w', PI M0 N' n f p c w' u h ∧ w' ≤ w ∧ N' 9 = M 9 ∧ (∀ j, w' ≤ j → j < w → kdN (M 9 j) = 11 ∨ kdN (M 9 j) = 12) ∧ (∀ k, k ≠ 15 → N' 0 k = M 0 k)) ∧ Int32.toNatClampNeg (N' 0 15) < Int32.toNatClampNeg (N 0 15)) (fun N' : mm_M => ∃ w', PI M0 N' n f p c w' u h ∧ w' ≤ w ∧ N' 9 = M 9 ∧ (∀ j, w' ≤ j → j < w → kdN (M 9 j) = 11 ∨ kdN (M 9 j) = 12) ∧ (¬ x = 0 → w' = 0 ∨ ¬ (kdN (M 9 (w' - 1)) = 11 ∨ kdN (M 9 (w' - 1)) = 12)) ∧ (∀ k, k ≠ 15 → N' 0 k = M 0 k))) := by
      intro hk
      obtain ⟨d1, d2, d3, d4, op, v, o1, o2, o3⟩ := bb hk
      have es : N 0 15 - 1 = nI w2 := by
        have k1 : (1 : Int32).toInt = 1 := rfl
        rw [a1.2.1.2.1, e_eq, e_sub (by rw [e_nIt (by omega), k1]; omega) (by rw [e_nIt (by omega), k1]; omega), e_nIt (by omega), e_nIt (by omega), k1]
        omega
      unfold X12_lands_j22l0
      rw [es, e_nIc (show w2 < 2147483648 by omega), b1, nI_div b3 b2, nI_mod b3 b2, e_nIc (show d < 2147483648 by omega), o2, nI_div (by omega) o3, a1.2.1.1]
      have in1' : mm_in (nI w2) 260 = true := e_inb (by rw [e_nIt (by omega)]; omega) (by rw [e_nIt (by omega)]; omega)
      have in2' : mm_in (nI d) 260 = true := e_inb (by rw [e_nIt (by omega)]; omega) (by rw [e_nIt (by omega)]; omega)
      refine ok_i (fun _ => ok_i (fun _ => ok_i (fun _ => ?_) (fun z => absurd in2' z)) (fun z => absurd in2' z)) (fun z => absurd in1' z)
      have ev : (1048576 : Int32) * nI op + nI c = nI (1048576 * op + c) := by rw [show (1048576 : Int32) = nI 1048576 from rfl, nI_mul, nI_add]
      rw [ev]
      have g0 : ∀ j, mm_U (mm_U N 8 d (nI (1048576 * op + c))) 0 15 (nI w2) 0 j = if j = 15 then nI w2 else N 0 j := by
        intro j
        simp only [e_U, true_and]
        simp
      have g8 : (mm_U (mm_U N 8 d (nI (1048576 * op + c))) 0 15 (nI w2)) 8 = upd (N 8) d (nI (1048576 * op + c)) := by rw [mm_U_ne 8 (by decide), mm_U_eq]
      have g9 : (mm_U (mm_U N 8 d (nI (1048576 * op + c))) 0 15 (nI w2)) 9 = N 9 := by rw [mm_U_ne 9 (by decide), mm_U_ne 9 (by decide)]
      have hP : PI M0 (mm_U (mm_U N 8 d (nI (1048576 * op + c))) 0 15 (nI w2)) n f p c w2 u h := by
        obtain ⟨⟨t1, t2, t3, t4⟩, ⟨h5, h6, h7, h8, h9, h10⟩, h11, h12⟩ := a1
        have hps : ps gW (N 9) (w2 + 1) = ps gW (N 9) w2 + gW (kdN (N 9 w2)) := rfl
        refine ⟨⟨⟨?_, ?_, t1.2.2⟩, fr_U (fr_U t2 (by decide)) (by decide), fun j hj => ?_, fun k hk' => ?_⟩, ⟨?_, ?_, by omega, ?_, h9, h10⟩, h11, ?_⟩
        · rw [g0]; exact t1.1
        · rw [g0]; exact t1.2.1
        · rw [g0, if_neg (by omega)]; exact t3 j hj
        · rw [g8, upd_ne (by omega)]; exact t4 k hk'
        · rw [g0]; exact h5
        · rw [g0]; rfl
        · rw [g9]; omega
        · rw [g8, g9]
          exact cd_land h12 b1 hk (by omega) ⟨d1, d2, d3, d4⟩ o1 o2 o3 hh
      refine ok_s ⟨⟨w2, hP, by omega, g9.trans a3, fun j q1 q2 => ?_, fun k hk' => ?_⟩, ?_⟩
      · by_cases cj : j = w2
        · rw [cj, ek]; exact hk
        · exact a4 j (by omega) q2
      · rw [g0, if_neg hk']; exact a5 k hk'
      · rw [hP.2.1.2.1, a1.2.1.2.1, e_nIc (by omega), e_nIc (by omega)]
        omega
    simp only [e0, Option.bind_some]
    refine ok_i (fun c11 => land (Or.inl (nI_inj (by omega) (by omega) c11))) (fun c11 => ok_i (fun cx => ok_s ⟨_, a1, a2, a3, a4, fun z => absurd cx z, a5⟩) (fun _ => ok_i (fun c12 => land (Or.inr (nI_inj (by omega) (by omega) c12))) (fun c12 => ok_s ⟨_, a1, a2, a3, a4, fun _ => Or.inr ?_, a5⟩)))
    rw [Nat.add_sub_cancel, ek]
    rintro (z | z)
    · rw [z] at c11; exact c11 rfl
    · rw [z] at c12; exact c12 rfl
/-- a skip -/
theorem ju_m {M0 M : mm_M} {n f p c w u op : Nat} {h : Nat → Nat} {x : Int32} (hx : x = nI op) (H : PI M0 M n f p c w u h) (hh : h c = 1) (ho : op = 11 ∨ op = 12) (hlt : p < n) (hu : u < 245) : ok (X12_jumps x M) (fun N => PI M0 N n f (p + 1) (c + 1) (w + 1) (u + 1) (uh h (c + 1) 0) ∧ N 9 = upd (M 9) w (nI (1048576 * op + c))) := by
  subst hx
  have hw := (PI_w H).1
  have hc := (PI_w H).2.1
  unfold X12_jumps X12_notes
  rw [H.2.1.2.1, H.2.1.1]
  have in1' : mm_in (nI w) 260 = true := e_inb (by rw [e_nIt (by omega)]; omega) (by rw [e_nIt (by omega)]; omega)
  have in2' : mm_in (nI c) 260 = true := e_inb (by rw [e_nIt (by omega)]; omega) (by rw [e_nIt (by omega)]; omega)
  have e14 : mm_U (mm_U M 9 (Int32.toNatClampNeg (nI w)) ((1048576 : Int32) * nI op + nI c)) 0 15 (nI w + 1) 0 14 = nI c := by
    rw [e_U, if_neg (fun z => by have := z.2; omega), mm_U_ne 0 (by decide)]
    exact H.2.1.1
  rw [e14]
  refine ok_i (fun _ => ?_) (fun z => absurd in1' z)
  rw [if_pos in2', e_nIc (show w < 2147483648 by omega), e_nIc (show c < 2147483648 by omega), nI_1, nI_1]
  simp only [Option.bind_some]
  have e9' : mm_U (mm_U (mm_U (mm_U M 9 w ((1048576 : Int32) * nI op + nI c)) 0 15 (nI (w + 1))) 8 c ((1048576 : Int32) * nI op + 0)) 0 14 (nI (c + 1)) 0 9 = nI p := by
    rw [e_U, if_neg (fun z => by have := z.2; omega), mm_U_ne 0 (by decide), e_U, if_neg (fun z => by have := z.2; omega), mm_U_ne 0 (by decide)]
    exact H.1.1.1
  rw [e9', nI_1]
  have ev : (1048576 : Int32) * nI op + nI c = nI (1048576 * op + c) := by rw [show (1048576 : Int32) = nI 1048576 from rfl, nI_mul, nI_add]
  have ev0 : (1048576 : Int32) * nI op + 0 = nI (1048576 * op) := by rw [show (1048576 : Int32) = nI 1048576 from rfl, nI_mul, show (0 : Int32) = nI 0 from rfl, nI_add, Nat.add_zero]
  rw [ev, ev0]
  generalize hR : mm_U (mm_U (mm_U (mm_U (mm_U M 9 w (nI (1048576 * op + c))) 0 15 (nI (w + 1))) 8 c (nI (1048576 * op))) 0 14 (nI (c + 1))) 0 9 (nI (p + 1)) = R
  have g0 : ∀ j, R 0 j = if j = 9 then nI (p + 1) else if j = 14 then nI (c + 1) else if j = 15 then nI (w + 1) else M 0 j := by
    intro j
    rw [← hR]
    simp only [e_U, true_and]
    simp
  have g8 : R 8 = upd (M 8) c (nI (1048576 * op)) := by
    rw [← hR, mm_U_ne 8 (by decide), mm_U_ne 8 (by decide), mm_U_eq, mm_U_ne 8 (by decide), mm_U_ne 8 (by decide)]
  have g9 : R 9 = upd (M 9) w (nI (1048576 * op + c)) := by
    rw [← hR, mm_U_ne 9 (by decide), mm_U_ne 9 (by decide), mm_U_ne 9 (by decide), mm_U_ne 9 (by decide), mm_U_eq]
  have gf : fr [0, 8, 9] M R := by
    rw [← hR]
    exact fr_U (fr_U (fr_U (fr_U (fr_U fr_rfl (by decide)) (by decide)) (by decide)) (by decide)) (by decide)
  refine ok_s ⟨?_, g9⟩
  obtain ⟨⟨t1, t2, t3, t4⟩, ⟨h5, h6, h7, h8, h9, h10⟩, h11, h12⟩ := H
  have ekd : kdN (nI (1048576 * op + c)) = op := kdN_eq (by omega) (by omega)
  have hg : gW op = 0 := by
    unfold gW
    rw [if_neg (by omega)]
  refine ⟨⟨⟨?_, ?_, by omega, t1.2.2.2⟩, fun b hb => (gf b hb).trans (t2 b hb), fun j hj => ?_, fun k hk => ?_⟩, ⟨?_, ?_, by omega, ?_, by omega, by omega⟩, ?_, ?_⟩
  · rw [g0]; rfl
  · rw [g0]; exact t1.2.1
  · rw [g0, if_neg (by omega), if_neg (by omega), if_neg (by omega)]; exact t3 j hj
  · rw [g8, upd_ne (by omega)]; exact t4 k hk
  · rw [g0]; rfl
  · rw [g0]; rfl
  · rw [g9]
    show c + 1 + (ps gW (upd (M 9) w (nI (1048576 * op + c))) w + gW (kdN (upd (M 9) w (nI (1048576 * op + c)) w))) ≤ u + 1
    rw [ps_upd w (Nat.le_refl _), upd_eq, ekd, hg]
    omega
  · rw [uh_le h10]; exact h11
  · rw [g8, g9]
    exact cd_jump h12 h10 (by omega) ho hh
