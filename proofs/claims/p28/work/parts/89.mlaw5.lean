/-- where a condition stands: ahead of a test (x = 0), behind one (x = 1) -/
def CJ (M0 N : mm_M) (n f p0 x : Nat) : Prop := ∃ p c w u h, PI M0 N n f p c w u h ∧ h c = x ∧ u ≤ p ∧ CK (N 9) w ∧ p0 ≤ p
/-- the end of a condition -/
def CE (M0 N : mm_M) (n f p0 : Nat) : Prop := ∃ p c u h, PI M0 N n f p c 0 u h ∧ u ≤ p ∧ p0 < p
theorem rd_m {M : mm_M} {n p c : Nat} (ht : tI M n p) (h14 : M 0 14 = nI c) (hc : c ≤ p) : ok (X12_readsCondition M) (QR M (fun N => CE M N n c p)) := by
  have hn := ht.2.2
  obtain ⟨e2, -⟩ := he_m ht
  have f0 : FI M M := ⟨fr_rfl, fun _ _ => rfl⟩
  unfold X12_readsCondition
  simp only [e2, Option.bind_some]
  refine ok_i (fun c40 => ?_) (fun _ => QR_f _ _ f0)
  have hlt := he_lt ht (by rw [c40]; decide)
  have hA : PI M (mm_U (mm_U M 0 13 0) 0 15 0) n c p c 0 p (fun _ => 0) := by
    have e : ∀ j, j ≠ 13 → j ≠ 15 → mm_U (mm_U M 0 13 0) 0 15 0 0 j = M 0 j := fun j h1 h2 => by rw [e_U, if_neg (fun z => h2 z.2), e_U, if_neg (fun z => h1 z.2)]
    refine ⟨⟨⟨?_, ?_, ht.2.2⟩, fr_U (fr_U fr_rfl (by decide)) (by decide), fun j hj => e j (by omega) (by omega), fun _ _ => rfl⟩, ⟨?_, ?_, by omega, ?_, by omega, Nat.le_refl _⟩, rfl, cd_nil⟩
    · rw [e 9 (by omega) (by omega)]; exact ht.1
    · rw [e 10 (by omega) (by omega)]; exact ht.2.1
    · rw [e 14 (by omega) (by omega)]; exact h14
    · rw [mm_U_same]; exact nI_0.symm
    · show c + 0 ≤ p
      omega
  refine ok_b _ (pn_m (kd := 13) rfl hA hlt (by omega) (by omega)) (fun r hr => ok_i (fun cr => ?_) (fun _ => ok_s ⟨(fun z => by cases z), hr.2⟩))
  obtain ⟨g1, g2⟩ := hr.1 cr
  have ek13 : kdN (nI (1048576 * 13)) = 13 := kdN_eq (k := 13) (d := 0) (by omega) (by omega)
  have ek10 : kdN (nI (1048576 * 10)) = 10 := kdN_eq (k := 10) (d := 0) (by omega) (by omega)
  have hJ : CJ M r.2 n c (p + 1) 0 := by
    refine ⟨p + 1, c, 1, p + gW 13, fun _ => 0, g1, rfl, by show p + 0 ≤ p + 1; omega, ?_, Nat.le_refl _⟩
    rw [g2]
    refine ⟨fun j hj => ?_, Nat.le_refl _, ?_⟩
    · have : j = 0 := by omega
      subst this
      rw [upd_eq, ek13]
      omega
    · rw [upd_eq]; exact ek13
  refine ok_lp (fun N : mm_M => CJ M N n c (p + 1) 0) (fun N => 241 - Int32.toNatClampNeg (N 0 9)) _ hJ (by omega) ?_
  rintro N ⟨p1, c1, w1, u1, h1, a1, a2, a3, a4, a5⟩
  have hp1 := (PI_w a1).2.2
  have hw1 := (PI_w a1).1
  obtain ⟨e3, -⟩ := he_m a1.1.1
  have less : ∀ (N' : mm_M) (p2 c2 w2 u2 : Nat) (h2 : Nat → Nat), PI M N' n c p2 c2 w2 u2 h2 → p1 < p2 → 241 - Int32.toNatClampNeg (N' 0 9) < 241 - Int32.toNatClampNeg (N 0 9) := by
    intro N' p2 c2 w2 u2 h2 b1 b2
    have q3 := (PI_w b1).2.2
    rw [b1.1.1.1, a1.1.1.1, e_nIc (by omega), e_nIc (by omega)]
    omega
  have opn : ∀ kd : Nat, (kd = 10 ∨ kd = 13) → p1 < n → ok (X12_readsCondition_j75l40 (nI kd) N) (sm (fun N' : mm_M => CJ M N' n c (p + 1) 0 ∧ 241 - Int32.toNatClampNeg (N' 0 9) < 241 - Int32.toNatClampNeg (N 0 9)) (QR M (fun N => CE M N n c p))) := by
    intro kd hk hlt1
    unfold X12_readsCondition_j75l40
    refine ok_b _ (pn_m (kd := kd) rfl a1 hlt1 (by omega) (by omega)) (fun x hx => ok_i (fun cx => ok_s ?_) (fun _ => ok_s ⟨(fun z => by cases z), hx.2⟩))
    obtain ⟨b1, b2⟩ := hx.1 cx
    have hg : gW kd ≤ 1 := by unfold gW; split <;> omega
    have ekd : kdN (nI (1048576 * kd)) = kd := kdN_eq (k := kd) (d := 0) (by omega) (by omega)
    refine ⟨⟨p1 + 1, c1, w1 + 1, u1 + gW kd, h1, b1, a2, by omega, ?_, by omega⟩, less _ _ _ _ _ _ b1 (by omega)⟩
    rw [b2]
    refine ⟨fun j hj => ?_, by omega, ?_⟩
    · by_cases cj : j = w1
      · rw [cj, upd_eq, ekd]; omega
      · rw [upd_ne cj]; exact a4.1 j (by omega)
    · rw [upd_ne (by have := a4.2.1; omega)]; exact a4.2.2
  have j58 : p1 < n → ok (X12_readsCondition_j58l40 N) (sm (fun N' : mm_M => CJ M N' n c (p + 1) 0 ∧ 241 - Int32.toNatClampNeg (N' 0 9) < 241 - Int32.toNatClampNeg (N 0 9)) (QR M (fun N => CE M N n c p))) := by
    intro hlt1
    unfold X12_readsCondition_j58l40
    simp only [e3, Option.bind_some]
    exact ok_i (fun _ => opn 10 (Or.inl rfl) hlt1) (fun _ => opn 13 (Or.inr rfl) hlt1)
  unfold X12_readsCondition_l40
  simp only [e3, Option.bind_some]
  refine ok_i (fun z => j58 (he_lt a1.1.1 (by rw [z]; decide))) (fun _ => ok_i (fun z => j58 (he_lt a1.1.1 (by rw [z]; decide))) (fun _ => ?_))
  refine ok_b _ (co_m a1 a2 (CK_low a4) a3) (fun x hx => ok_i (fun cx => ?_) (fun _ => ok_s ⟨(fun z => by cases z), hx.2⟩))
  obtain ⟨p2, c2, w2, u2, h2, b1, b2, b3, b4, b5, b6, b7⟩ := hx.1 cx
  have hK2 : CK (x.2 9) w2 := by
    have h1w : 1 ≤ w2 := by
      rcases Nat.eq_zero_or_pos w2 with z | z
      · exfalso
        have q1 := b7 0 (by omega) a4.2.1
        have q2 := a4.2.2
        omega
      · exact z
    refine ⟨fun j hj => ?_, h1w, ?_⟩
    · rw [b6 j (by omega)]; exact a4.1 j (by omega)
    · rw [b6 0 (by omega)]; exact a4.2.2
  refine ok_b (sm (fun y : Bool × mm_M => QR M (fun N => CE M N n c p) y) (fun N' : mm_M => CJ M N' n c (p1 + 1) 1)) ?_ (fun y hy => ?_)
  · refine ok_lp (fun N' : mm_M => CJ M N' n c (p1 + 1) 1) (fun N' => 241 - Int32.toNatClampNeg (N' 0 9)) _ ⟨p2, c2, w2, u2, h2, b1, b2, b4, hK2, by omega⟩ (by omega) ?_
    rintro B ⟨p3, c3, w3, u3, h3, d1, d2, d3, d4, d5⟩
    have hp3 := (PI_w d1).2.2
    obtain ⟨e4, -⟩ := he_m d1.1.1
    unfold X12_readsCondition_l92
    simp only [e4, Option.bind_some]
    refine ok_i (fun c41 => ?_) (fun _ => ok_s ⟨p3, c3, w3, u3, h3, d1, d2, d3, d4, d5⟩)
    have hlt3 := he_lt d1.1.1 (by rw [c41]; decide)
    refine ok_b _ (la_m 1 d1 d2) (fun D hD => ?_)
    obtain ⟨w4, f1, f2, f3, f4, f5, f6⟩ := hD
    have hw4 := (PI_w f1).1
    have h1w : 1 ≤ w4 := by
      rcases Nat.eq_zero_or_pos w4 with z | z
      · exfalso
        have q1 := f4 0 (by omega) (by have := d4.2.1; omega)
        have q2 := d4.2.2
        omega
      · exact z
    obtain ⟨w5, rfl⟩ : ∃ w5, w4 = w5 + 1 := ⟨w4 - 1, by omega⟩
    have htop : ¬ (kdN (B 9 w5) = 11 ∨ kdN (B 9 w5) = 12) := by
      rcases f5 (by decide) with z | z
      · omega
      · rw [Nat.add_sub_cancel] at z; exact z
    obtain ⟨kd, d, q1, q2, q3, -⟩ := f1.2.2.2.2 w5 (by omega)
    have ekd : kdN (B 9 w5) = kd := by rw [← f3, q1, kdN_eq q3 q2]
    rw [ekd] at htop
    have es : D 0 15 - 1 = nI w5 := by
      have k1 : (1 : Int32).toInt = 1 := rfl
      rw [f1.2.1.2.1, e_eq, e_sub (by rw [e_nIt (by omega), k1]; omega) (by rw [e_nIt (by omega), k1]; omega), e_nIt (by omega), e_nIt (by omega), k1]
      omega
    have hP1 := PI_pop es f1 q1 q2 q3 (by omega) (by omega)
    have hP2 := PI_u (k := 13) (v := D 0 13 - 1) hP1 (by omega)
    have hP3 := PI_n (v := D 0 9 + 1) (by rw [f1.1.1.1]; exact nI_1 _) hP2 hlt3
    have e9 : (mm_U (mm_U (mm_U D 0 15 (D 0 15 - 1)) 0 13 (D 0 13 - 1)) 0 9 (D 0 9 + 1)) 9 = B 9 := by
      rw [mm_U_ne 9 (by decide), mm_U_ne 9 (by decide), mm_U_ne 9 (by decide)]; exact f3
    rw [es] at hP3 e9 ⊢
    generalize mm_U (mm_U (mm_U D 0 15 (nI w5)) 0 13 (D 0 13 - 1)) 0 9 (D 0 9 + 1) = E at hP3 e9
    have hg : gW kd ≤ 1 := by unfold gW; split <;> omega
    refine ok_i (fun cz => ok_s ?_) (fun cz => ?_)
    · have hz : w5 = 0 := nI_inj (by omega) (by omega) (cz.trans nI_0.symm)
      subst hz
      exact QR_t (G := fun N => CE M N n c p) ⟨p3 + 1, c3, u3 - gW kd, h3, hP3, by omega, by omega⟩ (FI_P hP3)
    · have hz : w5 ≠ 0 := fun z => cz (by rw [z]; exact nI_0)
      refine ok_b _ (ep_m hP3 d2 (by omega)) (fun F hF => ok_s ?_)
      obtain ⟨c6, w6, h6, k1, k2, k3, k4, k5⟩ := hF
      have h1w6 : 1 ≤ w6 := by
        rcases Nat.eq_zero_or_pos w6 with z | z
        · exfalso
          have r1 := k5 0 (by omega) (by omega)
          rw [e9] at r1
          have r2 := d4.2.2
          omega
        · exact z
      refine ⟨⟨p3 + 1, c6, w6, u3 - gW kd, h6, k1, k2, by omega, ?_, by omega⟩, ?_⟩
      · rw [k4, e9]
        exact ⟨fun j hj => d4.1 j (by omega), h1w6, d4.2.2⟩
      · have r3 := (PI_w k1).2.2
        rw [k1.1.1.1, d1.1.1.1, e_nIc (by omega), e_nIc (by omega)]
        omega
  · cases y with
    | inl y => exact ok_s hy
    | inr B =>
      obtain ⟨p3, c3, w3, u3, h3, d1, d2, d3, d4, d5⟩ := hy
      have hp3 := (PI_w d1).2.2
      obtain ⟨e4, -⟩ := he_m d1.1.1
      dsimp only
      simp only [e4, Option.bind_some]
      have j195 : ∀ z : Bool, p3 < n → ok (X12_readsCondition_j195l40 z B) (sm (fun N' : mm_M => CJ M N' n c (p + 1) 0 ∧ 241 - Int32.toNatClampNeg (N' 0 9) < 241 - Int32.toNatClampNeg (N 0 9)) (QR M (fun N => CE M N n c p))) := by
        intro z hlt3
        unfold X12_readsCondition_j195l40
        refine ok_b _ (la_m (mm_b z) d1 d2) (fun D hD => ?_)
        obtain ⟨w4, f1, f2, f3, f4, f5, f6⟩ := hD
        have hw4 := (PI_w f1).1
        have h1w : 1 ≤ w4 := by
          rcases Nat.eq_zero_or_pos w4 with z | z
          · exfalso
            have q1 := f4 0 (by omega) (by have := d4.2.1; omega)
            have q2 := d4.2.2
            omega
          · exact z
        obtain ⟨e5, -⟩ := he_m f1.1.1
        simp only [e5, Option.bind_some]
        have fin : ∀ op : Nat, (op = 11 ∨ op = 12) → ok ((X12_jumps (nI op) D).bind fun y44 => some (Sum.inl y44)) (sm (fun N' : mm_M => CJ M N' n c (p + 1) 0 ∧ 241 - Int32.toNatClampNeg (N' 0 9) < 241 - Int32.toNatClampNeg (N 0 9)) (QR M (fun N => CE M N n c p))) := by
          intro op ho
          refine ok_b _ (ju_m rfl f1 d2 ho hlt3 (by omega)) (fun E hE => ok_s ?_)
          obtain ⟨k1, k2⟩ := hE
          have ekd : kdN (nI (1048576 * op + c3)) = op := kdN_eq (by omega) (by have := (PI_w f1).2.1; omega)
          refine ⟨⟨p3 + 1, c3 + 1, w4 + 1, u3 + 1, _, k1, uh_eq, by omega, ?_, by omega⟩, less _ _ _ _ _ _ k1 (by omega)⟩
          rw [k2]
          refine ⟨fun j hj => ?_, by omega, ?_⟩
          · by_cases cj : j = w4
            · rw [cj, upd_eq, ekd]; omega
            · rw [upd_ne cj, f3]; exact d4.1 j (by omega)
          · rw [upd_ne (by omega), f3]; exact d4.2.2
        exact ok_i (fun _ => fin 11 (Or.inl rfl)) (fun _ => fin 12 (Or.inr rfl))
      have j180 : p3 < n → ok (X12_readsCondition_j180l40 B) (sm (fun N' : mm_M => CJ M N' n c (p + 1) 0 ∧ 241 - Int32.toNatClampNeg (N' 0 9) < 241 - Int32.toNatClampNeg (N 0 9)) (QR M (fun N => CE M N n c p))) := by
        intro hlt3
        unfold X12_readsCondition_j180l40
        simp only [e4, Option.bind_some]
        exact ok_i (fun _ => j195 _ hlt3) (fun _ => j195 _ hlt3)
      refine ok_i (fun z => j180 (he_lt d1.1.1 (by rw [z]; decide))) (fun _ => ok_i (fun z => j180 (he_lt d1.1.1 (by rw [z]; decide))) (fun _ => ?_))
      exact ⟨_, rfl, (fun z => by cases z), FI_11 (FI_P d1)⟩
