/-- what stays whatever comes -/
def FI (M0 M : mm_M) : Prop := fr [0, 8, 9] M0 M ∧ ∀ k, k < 9 ∨ 15 < k → M 0 k = M0 0 k
def QR (M0 : mm_M) (G : mm_M → Prop) : Bool × mm_M → Prop := fun r => (r.1 = true → G r.2) ∧ FI M0 r.2
theorem FI_P {M0 M : mm_M} {n f p c w u : Nat} {h : Nat → Nat} (H : PI M0 M n f p c w u h) : FI M0 M := ⟨H.1.2.1, H.1.2.2.1⟩
theorem FI_11 {M0 M : mm_M} {v : Int32} (H : FI M0 M) : FI M0 (mm_U M 0 11 v) := ⟨fr_U H.1 (by decide), fun k hk => by rw [e_U, if_neg (fun z => by have := z.2; omega)]; exact H.2 k hk⟩
theorem QR_f {M0 M : mm_M} {G : mm_M → Prop} (a b : Int32) (H : FI M0 M) : ok (mm_let (X12_wrongAt a b M) fun y => some (y.1, y.2)) (QR M0 G) := ⟨_, rfl, (fun z => by cases z), FI_11 H⟩
theorem QR_n {M0 M : mm_M} {G : mm_M → Prop} (H : FI M0 M) : QR M0 G (false, M) := ⟨(fun z => by cases z), H⟩
theorem QR_t {M0 M : mm_M} {G : mm_M → Prop} (hG : G M) (H : FI M0 M) : QR M0 G (true, M) := ⟨fun _ => hG, H⟩
def KS (A : Nat → Int32) (b w : Nat) : Prop := ∀ j, b ≤ j → j < w → (2 ≤ kdN (A j) ∧ kdN (A j) ≤ 6) ∨ kdN (A j) = 14
theorem pn_m {M0 M : mm_M} {n f p c w u kd : Nat} {h : Nat → Nat} {x : Int32} (hx : x = nI kd) (H : PI M0 M n f p c w u h) (hlt : p < n) (hk : kd = 10 ∨ kd = 13 ∨ kd = 14) (hu : u < 245) : ok (X12_opens x M) (QR M0 (fun N => PI M0 N n f (p + 1) c (w + 1) (u + gW kd) h ∧ N 9 = upd (M 9) w (nI (1048576 * kd)))) := by
  subst hx
  have hw := (PI_w H).1
  unfold X12_opens
  refine ok_i (fun _ => QR_f _ _ (FI_P H)) (fun _ => ?_)
  have h15 := H.2.1.2.1
  have h9 := H.1.1.1
  rw [h15, h9]
  have hin : mm_in (nI w) 260 = true := e_inb (by rw [e_nIt (by omega)]; omega) (by rw [e_nIt (by omega)]; omega)
  refine ok_i (fun _ => ok_s ?_) (fun z => absurd hin z)
  rw [e_nIc (by omega), nI_1, nI_1]
  have hA := PI_u (k := 13) (v := M 0 13 + 1) H (by omega)
  obtain ⟨a, b⟩ := PI_push (kd := kd) (x := (1048576 : Int32) * nI kd) (y := nI (p + 1)) (by rw [show (1048576 : Int32) = nI 1048576 from rfl, nI_mul]) rfl hA hlt (by omega) (by omega) (by omega) hu
  exact ⟨fun _ => ⟨a, b⟩, FI_P a⟩
/-- a number -/
theorem nu_m {M0 M : mm_M} {n f p c w u : Nat} {h : Nat → Nat} (H : PI M0 M n f p c w u h) : ok (X12_readsNumber M) (QR M0 (fun N => ∃ p' v, PI M0 N n f p' c w u h ∧ p ≤ p' ∧ N 0 12 = nI v ∧ v < 1048576 ∧ (X12_isDigit M = some true → p < p') ∧ N 9 = M 9)) := by
  have hp := (PI_w H).2.2
  have k48 : (48 : Int32).toInt = 48 := rfl
  have k10 : (10 : Int32).toInt = 10 := rfl
  unfold X12_readsNumber
  rw [H.1.1.1]
  refine ok_lp (fun N : mm_M => ∃ i v, PI M0 N n f (p + i) c w u h ∧ i ≤ 5 ∧ N 0 12 = nI v ∧ v < 10 ^ i ∧ (i = 0 → N = mm_U M 0 12 0) ∧ N 9 = M 9) (fun N => 241 - Int32.toNatClampNeg (N 0 9)) _ ⟨0, 0, PI_u H (by omega), by omega, nI_0.symm, by decide, fun _ => rfl, rfl⟩ (by omega) ?_
  rintro N ⟨i, v, a1, a2, a3, a4, a5, a6⟩
  obtain ⟨b, e1, hb⟩ := dg_m a1.1.1
  obtain ⟨e2, -⟩ := he_m a1.1.1
  have hpow : 10 ^ i ≤ 100000 := by
    have : 10 ^ i ≤ 10 ^ 5 := Nat.pow_le_pow_right (by omega) a2
    omega
  unfold X12_readsNumber_l10
  simp only [e1, Option.bind_some]
  refine ok_i (fun cb => ok_i (fun _ => ?_) (fun c5 => ?_)) (fun cb => ok_s ?_)
  · exact ⟨_, rfl, (fun z => by cases z), FI_11 (FI_P a1)⟩
  · simp only [e2, Option.bind_some]
    obtain ⟨g1, g2, g3⟩ := hb cb
    have hi5 : i < 5 := by
      rcases Nat.lt_or_ge i 5 with z | z
      · exact z
      · exfalso
        apply c5
        have : i = 5 := by omega
        rw [a1.1.1.1, this]
        exact (nI_add p 5).symm
    obtain ⟨d, hd⟩ : ∃ d : Nat, (hv N).toInt = 48 + d ∧ d ≤ 9 := ⟨((hv N).toInt - 48).toNat, by omega, by omega⟩
    have e3 : (10 : Int32) * nI v = nI (10 * v) := nI_mul 10 v
    have e4 : (10 : Int32) * nI v + hv N - 48 = nI (10 * v + d) := by
      rw [e3, e_eq, e_sub (by rw [e_add (by rw [e_nIt (by omega)]; omega) (by rw [e_nIt (by omega)]; omega), e_nIt (by omega), k48]; omega) (by rw [e_add (by rw [e_nIt (by omega)]; omega) (by rw [e_nIt (by omega)]; omega), e_nIt (by omega), k48]; omega), e_add (by rw [e_nIt (by omega)]; omega) (by rw [e_nIt (by omega)]; omega), e_nIt (by omega), e_nIt (by omega), k48]
      omega
    rw [a3, e4]
    have hB := PI_u (k := 12) (v := nI (10 * v + d)) a1 (by omega)
    have hC := PI_n (v := N 0 9 + 1) (by rw [a1.1.1.1]; exact nI_1 _) hB g1
    have hpw : 10 ^ (i + 1) = 10 ^ i * 10 := Nat.pow_succ 10 i
    refine ok_s ⟨⟨i + 1, 10 * v + d, hC, by omega, ?_, by rw [hpw]; omega, fun z => by omega, ?_⟩, ?_⟩
    · rw [e_U, if_neg (fun z => by have := z.2; omega), mm_U_same]
    · rw [mm_U_ne 9 (by decide), mm_U_ne 9 (by decide)]; exact a6
    · have q1 := hC.1.1.1
      have q2 := a1.1.1.1
      have q3 := (PI_w hC).2.2
      rw [q1, q2, e_nIc (by omega), e_nIc (by omega)]
      omega
  · refine ⟨fun _ => ⟨p + i, v, a1, by omega, a3, by omega, fun hd => ?_, a6⟩, FI_P a1⟩
    by_cases c0 : i = 0
    · exfalso
      have hN := a5 c0
      have e7 : X12_isDigit N = X12_isDigit M := by rw [hN]; rfl
      rw [e7, hd] at e1
      cases e1
      exact cb rfl
    · omega
theorem fa_le (x : Int32) : X12_factOf x = -1 ∨ ∃ v : Nat, X12_factOf x = nI v ∧ v < 9 := by
  unfold X12_factOf
  repeat' split
  all_goals first | exact Or.inl rfl | exact Or.inr ⟨0, rfl, by omega⟩ | exact Or.inr ⟨1, rfl, by omega⟩ | exact Or.inr ⟨2, rfl, by omega⟩ | exact Or.inr ⟨3, rfl, by omega⟩ | exact Or.inr ⟨4, rfl, by omega⟩ | exact Or.inr ⟨5, rfl, by omega⟩ | exact Or.inr ⟨6, rfl, by omega⟩ | exact Or.inr ⟨7, rfl, by omega⟩ | exact Or.inr ⟨8, rfl, by omega⟩
/-- a factor -/
theorem fa_m {M0 M : mm_M} {n f p c w u t b : Nat} {h : Nat → Nat} (H : PI M0 M n f p c w u h) (hh : h c = t + ps gS (M 9) w) (hb : b ≤ w) (hK : KS (M 9) b w) (hu : u ≤ p + 1) : ok (X12_readsFactor M) (QR M0 (fun N => ∃ p' c' w' u' h', PI M0 N n f p' c' w' u' h' ∧ PS N c' w' t h' ∧ p < p' ∧ u' + p ≤ u + p' ∧ w ≤ w' ∧ KS (N 9) b w' ∧ ∀ j, j < w → N 9 j = M 9 j)) := by
  have km : (-1 : Int32).toInt = -1 := rfl
  unfold X12_readsFactor
  refine ok_b (sm (fun r : Bool × mm_M => r.1 = false ∧ FI M0 r.2) (fun N : mm_M => ∃ p' w' u', PI M0 N n f p' c w' u' h ∧ h c = t + ps gS (N 9) w' ∧ p ≤ p' ∧ u' + p ≤ u + p' ∧ w ≤ w' ∧ KS (N 9) b w' ∧ ∀ j, j < w → N 9 j = M 9 j)) ?_ (fun r hr => ?_)
  · refine ok_lp (fun N : mm_M => ∃ p' w' u', PI M0 N n f p' c w' u' h ∧ h c = t + ps gS (N 9) w' ∧ p ≤ p' ∧ u' + p ≤ u + p' ∧ w ≤ w' ∧ KS (N 9) b w' ∧ ∀ j, j < w → N 9 j = M 9 j) (fun N => 241 - Int32.toNatClampNeg (N 0 9)) _ ⟨p, w, u, H, hh, Nat.le_refl _, Nat.le_refl _, Nat.le_refl _, hK, fun _ _ => rfl⟩ (by omega) ?_
    rintro N ⟨p1, w1, u1, a1, a2, a3, a4, a5, a6, a7⟩
    have hp1 := (PI_w a1).2.2
    obtain ⟨e2, -⟩ := he_m a1.1.1
    unfold X12_readsFactor_l0
    simp only [e2, Option.bind_some]
    refine ok_i (fun c91 => ?_) (fun _ => ok_s ⟨p1, w1, u1, a1, a2, a3, a4, a5, a6, a7⟩)
    have hlt := he_lt a1.1.1 (by rw [c91]; decide)
    refine ok_b _ (pn_m (kd := 14) rfl a1 hlt (by omega) (by omega)) (fun r hr => ok_i (fun cr => ok_s ?_) (fun _ => ok_s ⟨rfl, hr.2⟩))
    obtain ⟨g1, g2⟩ := hr.1 cr
    have hg : gW 14 = 0 := rfl
    have ek : kdN (nI (1048576 * 14)) = 14 := kdN_eq (k := 14) (d := 0) (by omega) (by omega)
    rw [hg] at g1
    refine ⟨⟨p1 + 1, w1 + 1, u1, g1, ?_, by omega, by omega, by omega, ?_, ?_⟩, ?_⟩
    · rw [g2]
      show h c = t + (ps gS (upd (N 9) w1 (nI (1048576 * 14))) w1 + gS (kdN (upd (N 9) w1 (nI (1048576 * 14)) w1)))
      rw [ps_upd w1 (Nat.le_refl _), upd_eq, ek]
      exact a2
    · rw [g2]
      intro j hj1 hj2
      by_cases cj : j = w1
      · right
        rw [cj, upd_eq]
        exact ek
      · rw [upd_ne cj]
        exact a6 j hj1 (by omega)
    · intro j hj
      rw [g2, upd_ne (by omega)]
      exact a7 j hj
    · have q1 := g1.1.1.1
      have q2 := a1.1.1.1
      have q3 := (PI_w g1).2.2
      rw [q1, q2, e_nIc (by omega), e_nIc (by omega)]
      omega
  · cases r with
    | inl r =>
      obtain ⟨h1, h2⟩ := hr
      exact ok_s ⟨(fun z => by rw [h1] at z; cases z), h2⟩
    | inr N =>
      obtain ⟨p1, w1, u1, a1, a2, a3, a4, a5, a6, a7⟩ := hr
      have hp1 := (PI_w a1).2.2
      obtain ⟨e2, -⟩ := he_m a1.1.1
      obtain ⟨bb, e1, hbb⟩ := dg_m a1.1.1
      dsimp only
      simp only [e1, Option.bind_some]
      refine ok_i (fun cb => ?_) (fun _ => ?_)
      · refine ok_b _ (nu_m a1) (fun r hr => ok_i (fun cr => ?_) (fun _ => ok_s ⟨(fun z => by cases z), hr.2⟩))
        obtain ⟨p2, v, g1, g2, g3, g4, g5, g6⟩ := hr.1 cr
        have hlt2 := g5 (by rw [e1, cb])
        refine ok_b _ (no_m (op := 0) (v := v) (x := h c + 1) rfl g3 g1 g4 (Or.inl ⟨rfl, rfl⟩) (by omega)) (fun B hB => ok_s (QR_t ?_ (FI_P hB.1)))
        obtain ⟨b1, b2, b3⟩ := hB
        refine ⟨p2, c + 1, w1, u1 + 1, _, b1, ?_, by omega, by omega, a5, ?_, fun j hj => by rw [b2, g6]; exact a7 j hj⟩
        · unfold PS
          rw [uh_eq, b2, g6]
          omega
        · rw [b2, g6]
          exact a6
      · simp only [e2, Option.bind_some]
        refine ok_i (fun _ => QR_f _ _ (FI_P a1)) (fun cf => ?_)
        rcases fa_le (hv N) with z | ⟨v, ev, hv9⟩
        · exact absurd z cf
        · have hlt : p1 < n := by
            refine he_lt a1.1.1 (fun z => ?_)
            rw [z] at cf
            exact cf rfl
          refine ok_b _ (no_m (op := 1) (v := v) (x := h c + 1) rfl ev a1 (by omega) (Or.inr (Or.inl ⟨rfl, hv9, rfl⟩)) (by omega)) (fun B hB => ok_s ?_)
          obtain ⟨b1, b2, b3⟩ := hB
          have hC := PI_n (v := B 0 9 + 1) (by rw [b1.1.1.1]; exact nI_1 _) b1 hlt
          have e9 : (mm_U B 0 9 (B 0 9 + 1)) 9 = N 9 := by rw [mm_U_ne 9 (by decide)]; exact b2
          refine QR_t ⟨p1 + 1, c + 1, w1, u1 + 1, _, hC, ?_, by omega, by omega, a5, ?_, fun j hj => ?_⟩ (FI_P hC)
          · unfold PS
            rw [uh_eq, e9]
            omega
          · rw [e9]
            exact a6
          · rw [e9]
            exact a7 j hj
