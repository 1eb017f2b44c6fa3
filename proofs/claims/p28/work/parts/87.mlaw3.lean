theorem ho_m {M0 M : mm_M} {n f p c w u b : Nat} {h : Nat → Nat} (H : PI M0 M n f p c w u h) (hb : b ≤ w) : ∃ r, X12_hasOpenSum (nI b) M = some r ∧ (r = true → ∃ j, b ≤ j ∧ j < w ∧ kdN (M 9 j) = 14) ∧ (r = false → ∀ j, b ≤ j → j < w → kdN (M 9 j) ≠ 14) := by
  have hw := (PI_w H).1
  have k : ok (X12_hasOpenSum (nI b) M) (fun r => (r = true → ∃ j, b ≤ j ∧ j < w ∧ kdN (M 9 j) = 14) ∧ (r = false → ∀ j, b ≤ j → j < w → kdN (M 9 j) ≠ 14)) := by
    unfold X12_hasOpenSum
    refine ok_lp (fun s : Int32 => ∃ i, s = nI i ∧ b ≤ i ∧ i ≤ w ∧ ∀ j, b ≤ j → j < i → kdN (M 9 j) ≠ 14) (fun s => 241 - Int32.toNatClampNeg s) _ ⟨b, rfl, Nat.le_refl _, hb, fun j h1 h2 => by omega⟩ (by omega) ?_
    rintro s ⟨i, rfl, hi0, hi1, hj⟩
    unfold X12_hasOpenSum_l2
    rw [H.2.1.2.1]
    refine ok_i (fun c => ok_s ⟨(fun z => by cases z), fun _ j h1 h2 => hj j h1 ?_⟩) (fun c => ?_)
    · rw [e_le, e_nIt (by omega), e_nIt (by omega)] at c
      omega
    · rw [e_le, e_nIt (by omega), e_nIt (by omega)] at c
      have hin : mm_in (nI i) 260 = true := e_inb (by rw [e_nIt (by omega)]; omega) (by rw [e_nIt (by omega)]; omega)
      obtain ⟨kd, d, b1, b2, b3, -⟩ := H.2.2.2.2 i (by omega)
      have ek : kdN (M 9 i) = kd := by rw [b1, kdN_eq b3 b2]
      rw [e_nIc (by omega), b1, nI_div b3 b2]
      refine ok_i (fun _ => ok_i (fun c14 => ok_s ⟨fun _ => ⟨i, hi0, by omega, ?_⟩, fun z => by cases z⟩) (fun c14 => ok_s ⟨⟨i + 1, nI_1 i, by omega, by omega, fun j h1 h2 => ?_⟩, ?_⟩)) (fun z => absurd hin z)
      · rw [ek]
        exact nI_inj (by omega) (by omega) c14
      · by_cases cj : j = i
        · rw [cj, ek]
          intro z
          rw [z] at c14
          exact c14 rfl
        · exact hj j h1 (by omega)
      · rw [nI_1, e_nIc (by omega)]
        omega
  exact k
theorem sg_le (x : Int32) : X12_sumSign x = -1 ∨ ∃ k : Nat, X12_sumSign x = nI k ∧ 2 ≤ k ∧ k ≤ 6 := by
  unfold X12_sumSign
  repeat' split
  all_goals first | exact Or.inl rfl | exact Or.inr ⟨2, rfl, by omega, by omega⟩ | exact Or.inr ⟨3, rfl, by omega, by omega⟩ | exact Or.inr ⟨4, rfl, by omega, by omega⟩ | exact Or.inr ⟨5, rfl, by omega, by omega⟩ | exact Or.inr ⟨6, rfl, by omega, by omega⟩
/-- where a sum stands, behind a factor -/
def SJ (M0 M : mm_M) (n f p w u t : Nat) (N : mm_M) : Prop := ∃ p' c' w' u' h', PI M0 N n f p' c' w' u' h' ∧ PS N c' w' t h' ∧ p < p' ∧ u' + p ≤ u + p' ∧ w ≤ w' ∧ KS (N 9) w w' ∧ ∀ j, j < w → N 9 j = M 9 j
theorem ps0 {g : Nat → Nat} {A : Nat → Int32} : ∀ w, (∀ j, j < w → g (kdN (A j)) = 0) → ps g A w = 0 := by
  intro w
  induction w with
  | zero => intro _; rfl
  | succ w ih =>
    intro h
    show ps g A w + g (kdN (A w)) = 0
    rw [ih (fun j hj => h j (by omega)), h w (by omega)]
theorem gS0 {k : Nat} (h : ¬ (2 ≤ k ∧ k ≤ 6)) : gS k = 0 := if_neg h
/-- a sum -/
theorem su_m {M0 M : mm_M} {n f p c w u t : Nat} {h : Nat → Nat} (H : PI M0 M n f p c w u h) (hh : h c = t) (hlow : ∀ j, j < w → ¬ (2 ≤ kdN (M 9 j) ∧ kdN (M 9 j) ≤ 6)) (hu : u ≤ p + 1) : ok (X12_readsSum M) (QR M0 (fun N => ∃ p' c' u' h', PI M0 N n f p' c' w u' h' ∧ h' c' = t + 1 ∧ p < p' ∧ u' + p ≤ u + p' ∧ ∀ j, j < w → N 9 j = M 9 j)) := by
  have hw := (PI_w H).1
  have hp := (PI_w H).2.2
  have hz : ps gS (M 9) w = 0 := ps0 w (fun j hj => gS0 (hlow j hj))
  unfold X12_readsSum
  rw [H.2.1.2.1]
  refine ok_b _ (fa_m (t := t) (b := w) H (by rw [hz]; omega) (Nat.le_refl _) (fun j h1 h2 => by omega) hu) (fun r hr => ok_i (fun cr => ?_) (fun _ => ok_s ⟨(fun z => by cases z), hr.2⟩))
  have hJ : SJ M0 M n f p w u t r.2 := hr.1 cr
  refine ok_b (sm (fun x : Bool × mm_M => x.1 = false ∧ FI M0 x.2) (fun N : mm_M => SJ M0 M n f p w u t N)) ?_ (fun x hx => ?_)
  · refine ok_lp (fun N : mm_M => SJ M0 M n f p w u t N) (fun N => 241 - Int32.toNatClampNeg (N 0 9)) _ hJ (by omega) ?_
    rintro N ⟨p1, c1, w1, u1, h1, a1, a2, a3, a4, a5, a6, a7⟩
    have hp1 := (PI_w a1).2.2
    have hw1 := (PI_w a1).1
    obtain ⟨e2, -⟩ := he_m a1.1.1
    have hN : SJ M0 M n f p w u t N := ⟨p1, c1, w1, u1, h1, a1, a2, a3, a4, a5, a6, a7⟩
    have less : ∀ (N' : mm_M) (p2 c2 w2 u2 : Nat) (h2 : Nat → Nat), PI M0 N' n f p2 c2 w2 u2 h2 → p1 < p2 → 241 - Int32.toNatClampNeg (N' 0 9) < 241 - Int32.toNatClampNeg (N 0 9) := by
      intro N' p2 c2 w2 u2 h2 b1 b2
      have q3 := (PI_w b1).2.2
      rw [b1.1.1.1, a1.1.1.1, e_nIc (by omega), e_nIc (by omega)]
      omega
    unfold X12_readsSum_l14
    simp only [e2, Option.bind_some]
    refine ok_i (fun cs => ok_i (fun c93 => ?_) (fun _ => ok_s hN)) (fun cs => ?_)
    · have hlt := he_lt a1.1.1 (by rw [c93]; decide)
      obtain ⟨o, eo, o1, o2⟩ := ho_m a1 a5
      simp only [eo, Option.bind_some]
      refine ok_i (fun co => ?_) (fun _ => ok_s hN)
      obtain ⟨j0, j1, j2, j3⟩ := o1 co
      refine ok_b _ (cs_m 1 a1 a2 (by omega)) (fun B hB => ok_s ?_)
      obtain ⟨c3, w3, h3, b1, b2, b3, b4, b5, b6, b7⟩ := hB
      have hw3 : j0 < w3 := by
        rcases Nat.lt_or_ge j0 w3 with z | z
        · exact z
        · have := b5 j0 z j2
          omega
      obtain ⟨w4, rfl⟩ : ∃ w4, w3 = w4 + 1 := ⟨w3 - 1, by omega⟩
      have htop : kdN (N 9 w4) = 14 := by
        have q1 := b6 rfl
        rw [Nat.add_sub_cancel] at q1
        rcases a6 w4 (by omega) (by omega) with z | z
        · rcases q1 with q1 | q1
          · omega
          · exact absurd z q1
        · exact z
      obtain ⟨kd, d, d1, d2, d3, -⟩ := b1.2.2.2.2 w4 (by omega)
      have ekd : kd = 14 := by
        rw [b3] at d1
        rw [d1, kdN_eq d3 d2] at htop
        exact htop
      have hw5 := (PI_w b1).1
      have es : B 0 15 - 1 = nI w4 := by
        have k1 : (1 : Int32).toInt = 1 := rfl
        rw [b1.2.1.2.1, e_eq, e_sub (by rw [e_nIt (by omega), k1]; omega) (by rw [e_nIt (by omega), k1]; omega), e_nIt (by omega), e_nIt (by omega), k1]
        omega
      have hC := PI_pop es b1 d1 d2 d3 (by omega) (by omega)
      have hg : gW kd = 0 := by rw [ekd]; rfl
      rw [hg, Nat.sub_zero] at hC
      have e13 : B 0 13 - 1 = B 0 13 - 1 := rfl
      have hD := PI_u (k := 13) (v := B 0 13 - 1) hC (by omega)
      have hE := PI_n (v := B 0 9 + 1) (by rw [b1.1.1.1]; exact nI_1 _) hD hlt
      have e9 : (mm_U (mm_U (mm_U B 0 15 (B 0 15 - 1)) 0 13 (B 0 13 - 1)) 0 9 (B 0 9 + 1)) 9 = N 9 := by
        rw [mm_U_ne 9 (by decide), mm_U_ne 9 (by decide), mm_U_ne 9 (by decide)]; exact b3
      have hS : ps gS (N 9) (w4 + 1) = ps gS (N 9) w4 := by
        show ps gS (N 9) w4 + gS (kdN (N 9 w4)) = _
        rw [htop]
        rfl
      refine ⟨⟨p1 + 1, c3, w4, u1, h3, hE, ?_, by omega, by omega, by omega, ?_, fun j hj => ?_⟩, less _ _ _ _ _ _ hE (by omega)⟩
      · unfold PS at b2 ⊢
        rw [e9]
        rw [b3, hS] at b2
        exact b2
      · rw [e9]
        exact fun j q1 q2 => a6 j q1 (by omega)
      · rw [e9]; exact a7 j hj
    · rcases sg_le (hv N) with z | ⟨k, ek, k2, k6⟩
      · exact absurd z cs
      · have hlt : p1 < n := by
          refine he_lt a1.1.1 (fun z => ?_)
          rw [z] at cs
          exact cs rfl
        have j38 : ∀ z : Bool, ok (X12_readsSum_j38l14 (nI w) (nI k) z N) (sm (fun N' : mm_M => SJ M0 M n f p w u t N' ∧ 241 - Int32.toNatClampNeg (N' 0 9) < 241 - Int32.toNatClampNeg (N 0 9)) (sm (fun x : Bool × mm_M => x.1 = false ∧ FI M0 x.2) (fun N : mm_M => SJ M0 M n f p w u t N))) := by
          intro z
          unfold X12_readsSum_j38l14
          refine ok_b _ (cs_m (mm_b z) a1 a2 (by omega)) (fun B hB => ?_)
          obtain ⟨c3, w3, h3, b1, b2, b3, b4, b5, b6, b7⟩ := hB
          have hw3 := (PI_w b1).1
          have hww : w ≤ w3 := by
            rcases Nat.lt_or_ge w3 w with q | q
            · exfalso
              have q1 := b5 (w - 1) (by omega) (by omega)
              rw [a7 (w - 1) (by omega)] at q1
              exact hlow (w - 1) (by omega) q1
            · exact q
          rw [b1.2.1.2.1, b1.1.1.1]
          have hin : mm_in (nI w3) 260 = true := e_inb (by rw [e_nIt (by omega)]; omega) (by rw [e_nIt (by omega)]; omega)
          refine ok_i (fun _ => ?_) (fun z => absurd hin z)
          rw [e_nIc (by omega), nI_1, nI_1]
          obtain ⟨d1, d2⟩ := PI_push (kd := k) (x := (1048576 : Int32) * nI k) (y := nI (p1 + 1)) (by rw [show (1048576 : Int32) = nI 1048576 from rfl, nI_mul]) rfl b1 hlt (by omega) (by omega) (by omega) (by omega)
          generalize mm_U (mm_U (mm_U B 9 w3 ((1048576 : Int32) * nI k)) 0 15 (nI (w3 + 1))) 0 9 (nI (p1 + 1)) = D at d1 d2
          have hgw : gW k = 1 := by unfold gW; rw [if_pos (Or.inl ⟨k2, k6⟩)]
          have ek14 : kdN (nI (1048576 * k)) = k := kdN_eq (k := k) (d := 0) (by omega) (by omega)
          have hS : ps gS (D 9) (w3 + 1) = ps gS (N 9) w3 + 1 := by
            rw [d2]
            show ps gS (upd (B 9) w3 (nI (1048576 * k))) w3 + gS (kdN (upd (B 9) w3 (nI (1048576 * k)) w3)) = _
            rw [ps_upd w3 (Nat.le_refl _), upd_eq, ek14, b3]
            unfold gS
            rw [if_pos ⟨k2, k6⟩]
          unfold PS at b2
          rw [b3] at b2
          have hKD : KS (D 9) w (w3 + 1) := by
            intro j q1 q2
            rw [d2]
            by_cases cj : j = w3
            · left
              rw [cj, upd_eq, ek14]
              exact ⟨k2, k6⟩
            · rw [upd_ne cj, b3]
              exact a6 j q1 (by omega)
          have hlD : ∀ j, j < w → D 9 j = M 9 j := fun j hj => by
            rw [d2, upd_ne (by omega), b3]; exact a7 j hj
          rw [hgw] at d1
          refine ok_b _ (fa_m (t := t) (b := w) d1 (by rw [hS]; omega) (by omega) hKD (by omega)) (fun x hx => ok_i (fun cx => ok_s ?_) (fun _ => ok_s ⟨rfl, hx.2⟩))
          obtain ⟨p4, c4, w4, u4, h4, g1, g2, g3, g4, g5, g6, g7⟩ := hx.1 cx
          exact ⟨⟨p4, c4, w4, u4, h4, g1, g2, by omega, by omega, by omega, g6, fun j hj => (g7 j (by omega)).trans (hlD j hj)⟩, less _ _ _ _ _ _ g1 (by omega)⟩
        rw [ek]
        exact ok_i (fun _ => j38 false) (fun _ => j38 true)
  · cases x with
    | inl x =>
      obtain ⟨q1, q2⟩ := hx
      exact ok_s ⟨(fun z => by rw [q1] at z; cases z), q2⟩
    | inr N =>
      obtain ⟨p1, c1, w1, u1, h1, a1, a2, a3, a4, a5, a6, a7⟩ := hx
      have hp1 := (PI_w a1).2.2
      obtain ⟨o, eo, o1, o2⟩ := ho_m a1 a5
      dsimp only
      unfold X12_readsSum_j138
      simp only [eo, Option.bind_some]
      refine ok_i (fun _ => QR_f _ _ (FI_P a1)) (fun co => ?_)
      have o3 := o2 (by simpa using co)
      refine ok_b _ (cs_m 1 a1 a2 (by omega)) (fun B hB => ok_s ?_)
      obtain ⟨c3, w3, h3, b1, b2, b3, b4, b5, b6, b7⟩ := hB
      have hww : w3 = w := by
        rcases Nat.lt_trichotomy w3 w with q | q | q
        · exfalso
          have q1 := b5 (w - 1) (by omega) (by omega)
          rw [a7 (w - 1) (by omega)] at q1
          exact hlow (w - 1) (by omega) q1
        · exact q
        · exfalso
          rcases b6 rfl with q1 | q1
          · omega
          · rcases a6 (w3 - 1) (by omega) (by omega) with z | z
            · exact q1 z
            · exact o3 (w3 - 1) (by omega) (by omega) z
      subst hww
      have hz3 : ps gS (B 9) w3 = 0 := ps0 w3 (fun j hj => gS0 (by rw [b3, a7 j hj]; exact hlow j hj))
      unfold PS at b2
      refine QR_t ⟨p1, c3, u1, h3, b1, by omega, a3, a4, fun j hj => by rw [b3]; exact a7 j hj⟩ (FI_P b1)
