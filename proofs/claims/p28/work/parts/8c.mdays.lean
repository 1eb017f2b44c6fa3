/-! THE REFERENCE GOES THROUGH DAYS -/
def vJ (M : mm_M) : Prop := ((M 0 6).toInt = 0 ∨ rl_r (M 0 6) 2 10) ∧ (∀ i, i < 80 → rl_r (M 5 i) 0 9 ∧ rl_r (M 6 i) 0 9) ∧ ∀ q s : Nat, q < 8 → (s : Int) < (M 0 6).toInt → (M 6 (10 * q + s)).toInt < (M 0 6).toInt
def tJ (M : mm_M) : Prop := rl_st M 1 ∧ ((M 1 0).toInt < (M 0 6).toInt ∨ (M 1 0).toInt = 0)
theorem tJ_fr {M N : mm_M} (h : tJ M) (h1 : N 1 = M 1) (h0 : N 0 6 = M 0 6) : tJ N := by
  unfold tJ rl_st
  rw [h1, h0]
  exact h
theorem tJ_u {M : mm_M} {k : Nat} {v : Int32} (h : tJ M) (hv : (k = 3 ∧ rl_r v 0 9999) ∨ (k = 6 ∧ rl_r v 0 9999) ∨ (k = 7 ∧ rl_r v 0 65535)) : tJ (mm_U M 1 k v) := by
  obtain ⟨⟨s0, s1, s2, s3, s4, s5, s6, s7⟩, hst⟩ := h
  rcases hv with ⟨rfl, h⟩ | ⟨rfl, h⟩ | ⟨rfl, h⟩
  · exact ⟨⟨s0, s1, s2, h, s4, s5, s6, s7⟩, hst⟩
  · exact ⟨⟨s0, s1, s2, s3, s4, s5, h, s7⟩, hst⟩
  · exact ⟨⟨s0, s1, s2, s3, s4, s5, s6, h⟩, hst⟩
theorem mn_m {a b : Int32} (ha : 0 ≤ a.toInt) (hb : 0 ≤ b.toInt) : rl_r (X12_min a b) 0 a.toInt := by
  unfold X12_min rl_r
  by_cases c : b ≤ a
  · rw [if_pos c]
    rw [e_le] at c
    omega
  · rw [if_neg c]
    omega
theorem as_m {M : mm_M} (hv : vJ M) (hs : tJ M) (h6 : ¬ (M 0 6).toInt = 0) {q : Int32} (hq0 : 0 ≤ q.toInt) (hq : q.toInt < 8) : ok (X12_asks q M) (fun N => fr [0, 1] M N ∧ (∀ k, k ≠ 45 → N 0 k = M 0 k) ∧ tJ N ∧ N 1 3 = M 1 3 ∧ N 1 6 = M 1 6) := by
  obtain ⟨⟨s0, s1, s2, s3, s4, s5, s6, s7⟩, hst⟩ := hs
  have k10 : (10 : Int32).toInt = 10 := rfl
  have k9999 : (9999 : Int32).toInt = 9999 := rfl
  have k99999 : (99999 : Int32).toInt = 99999 := rfl
  obtain ⟨s00, s01⟩ := s0
  have e1 : ((10 : Int32) * q).toInt = 10 * q.toInt := by rw [e_mul (by rw [k10]; omega) (by rw [k10]; omega), k10]
  have e2 : ((10 : Int32) * q + M 1 0).toInt = 10 * q.toInt + (M 1 0).toInt := by rw [e_add (by omega) (by omega), e1]
  have hin : mm_in ((10 : Int32) * q + M 1 0) 80 = true := e_inb (by omega) (by omega)
  have ec := e_cl (show 0 ≤ ((10 : Int32) * q + M 1 0).toInt by omega)
  have ecq := e_cl hq0
  have ecs := e_cl s00
  obtain ⟨hA, hB⟩ := hv.2.1 (Int32.toNatClampNeg ((10 : Int32) * q + M 1 0)) (by omega)
  have hB2 : (M 6 (Int32.toNatClampNeg ((10 : Int32) * q + M 1 0))).toInt < (M 0 6).toInt := by
    have hn : 2 ≤ (M 0 6).toInt := by
      rcases hv.1 with h | h
      · exact absurd h h6
      · exact h.1
    have := hv.2.2 (Int32.toNatClampNeg q) (Int32.toNatClampNeg (M 1 0)) (by omega) (by omega)
    have ex : Int32.toNatClampNeg ((10 : Int32) * q + M 1 0) = 10 * Int32.toNatClampNeg q + Int32.toNatClampNeg (M 1 0) := by omega
    rw [ex]
    exact this
  have eB : ∀ a b c d, (mm_U (mm_U (mm_U (mm_U M 1 4 a) 1 5 b) 1 1 c) 1 2 d) 6 = M 6 := fun _ _ _ _ => rfl
  unfold X12_asks X12_answer X12_behind
  simp only [if_pos hin, Option.bind_some, eB]
  generalize M 5 (Int32.toNatClampNeg ((10 : Int32) * q + M 1 0)) = A at hA
  generalize M 6 (Int32.toNatClampNeg ((10 : Int32) * q + M 1 0)) = B at hB hB2
  have e4 : (M 1 4 + 1).toInt = (M 1 4).toInt + 1 := e_inc s4.1 s4.2 (by omega)
  have e5 : (M 1 5 + A).toInt = (M 1 5).toInt + A.toInt := by
    have := s5.1; have := s5.2; have := hA.1; have := hA.2
    rw [e_add (by omega) (by omega)]
  have n4 : rl_r (X12_min 9999 (M 1 4 + 1)) 0 9999 := mn_m (by decide) (by have := s4.1; omega)
  have n5 : rl_r (X12_min 99999 (M 1 5 + A)) 0 99999 := mn_m (by decide) (by have := s5.1; have := hA.1; omega)
  generalize X12_min 9999 (M 1 4 + 1) = c4 at n4
  generalize X12_min 99999 (M 1 5 + A) = c5 at n5
  refine ok_s ⟨fr_U (fr_U (fr_U (fr_U (fr_U (fr_U fr_rfl (by decide)) (by decide)) (by decide)) (by decide)) (by decide)) (by decide), fun k hk => ?_, ⟨⟨hB, hA, ⟨hq0, ?_⟩, s3, n4, n5, s6, s7⟩, Or.inl hB2⟩, rfl, rfl⟩
  · rw [e_U, if_neg (fun z => hk z.2)]
    rfl
  · show q.toInt ≤ 8
    omega
theorem fe_m {M : mm_M} {q x y : Int32} (h : mm_in q 8 = true) : ok (X12_feels q x y M) (fun N => fr [20] M N) := by
  unfold X12_feels
  rw [if_pos h]
  exact ok_s (fr_U (fr_U (fr_U (fr_U (fr_U (fr_U (fr_U (fr_U (fr_U fr_rfl (by decide)) (by decide)) (by decide)) (by decide)) (by decide)) (by decide)) (by decide)) (by decide)) (by decide))
theorem fr_LC {M N : mm_M} (hL : LC M) (h : fr [1, 19, 20] M N) : LC N := LC_fr hL (by rw [h 0 (by decide)]) (h 14 (by decide)) (h 16 (by decide)) (h 17 (by decide)) (h 18 (by decide))
theorem fr_w {W V : List Nat} {M N : mm_M} (h : fr W M N) (hw : ∀ a, a ∈ W → a ∈ V) : fr V M N := fun a ha => h a (fun z => ha (hw a z))
theorem fr_t {W : List Nat} {M N K : mm_M} (h1 : fr W M N) (h2 : fr W N K) : fr W M K := fun a ha => (h2 a ha).trans (h1 a ha)
theorem lm_m {M : mm_M} (hL : LC M) (x : Int32) : ok (X12_likedMost x M) (fun r => fr [19, 20] M r.2 ∧ (r.1 = -1 ∨ (0 ≤ r.1.toInt ∧ r.1.toInt < 8 ∧ (M 4 (Int32.toNatClampNeg r.1)).toInt ≤ (M 1 3).toInt))) := by
  have k8 : (8 : Int32).toInt = 8 := rfl
  unfold X12_likedMost
  refine ok_lp (fun s : Int32 × Int32 × Int32 × mm_M => fr [19, 20] M s.2.2.2 ∧ (s.1 = -1 ∨ (0 ≤ s.1.toInt ∧ s.1.toInt < 8 ∧ (M 4 (Int32.toNatClampNeg s.1)).toInt ≤ (M 1 3).toInt)) ∧ 0 ≤ s.2.2.1.toInt ∧ s.2.2.1.toInt ≤ 8) (fun s => (8 - s.2.2.1.toInt).toNat) _ ⟨fr_rfl, Or.inl rfl, by show 0 ≤ (0 : Int32).toInt; decide, by show (0 : Int32).toInt ≤ 8; decide⟩ (by show ((8 : Int) - (0 : Int32).toInt).toNat < 4000000000; decide) ?_
  rintro ⟨b, w, q, N⟩ ⟨hN, hb, hq0, hq1⟩
  dsimp only at hN hb hq0 hq1
  have eq1 : (q + 1).toInt = q.toInt + 1 := e_inc hq0 hq1 (by omega)
  unfold X12_likedMost_l7
  refine ok_i (fun _ => ok_s ⟨hN, hb⟩) (fun c => ?_)
  dsimp only at c
  rw [e_le] at c
  have hin : mm_in q 8 = true := e_inb hq0 (by omega)
  refine ok_b _ (fe_m hin) (fun r hr => ?_)
  have fin : ∀ (b' w' : Int32) (N' : mm_M), fr [19, 20] M N' → (b' = -1 ∨ (0 ≤ b'.toInt ∧ b'.toInt < 8 ∧ (M 4 (Int32.toNatClampNeg b')).toInt ≤ (M 1 3).toInt)) → sm (fun s' : Int32 × Int32 × Int32 × mm_M => (fr [19, 20] M s'.2.2.2 ∧ (s'.1 = -1 ∨ (0 ≤ s'.1.toInt ∧ s'.1.toInt < 8 ∧ (M 4 (Int32.toNatClampNeg s'.1)).toInt ≤ (M 1 3).toInt)) ∧ 0 ≤ s'.2.2.1.toInt ∧ s'.2.2.1.toInt ≤ 8) ∧ (8 - s'.2.2.1.toInt).toNat < (8 - q.toInt).toNat) (fun r : Int32 × mm_M => fr [19, 20] M r.2 ∧ (r.1 = -1 ∨ (0 ≤ r.1.toInt ∧ r.1.toInt < 8 ∧ (M 4 (Int32.toNatClampNeg r.1)).toInt ≤ (M 1 3).toInt))) (.inl (b', w', q + 1, N')) := fun b' w' N' h1 h2 => ⟨⟨h1, h2, by first | omega | (dsimp only; omega), by first | omega | (dsimp only; omega)⟩, by first | omega | (dsimp only; omega)⟩
  have h1 : fr [19, 20] M r := fr_t hN (fr_w hr (by decide))
  refine ok_i (fun _ => ok_i (fun _ => ok_s (fin _ _ _ h1 hb)) (fun cp => ok_b _ (ha2_m (fr_LC hL (fr_w h1 (by decide))) _) (fun r2 hr2 => ?_))) (fun z => absurd hin z)
  have h2 : fr [19, 20] M r2.2 := fr_t h1 (fr_w hr2 (by decide))
  refine ok_i (fun _ => ok_s (fin _ _ _ h2 hb)) (fun _ => ok_b _ (bl_m (fr_LC hL (fr_w h2 (by decide))) _ _ (by decide)) (fun r3 hr3 => ?_))
  have h3 : fr [19, 20] M r3.2 := fr_t h2 (fr_w hr3.1 (by decide))
  refine ok_i (fun _ => ok_s (fin _ _ _ h3 (Or.inr ⟨hq0, (by show q.toInt < 8; omega), ?_⟩))) (fun _ => ok_s (fin _ _ _ h3 hb))
  dsimp only at cp ⊢
  rw [e_lt, h1 1 (by decide), h1 4 (by decide)] at cp
  omega
/-- what a day keeps -/
def dJ (M0 M : mm_M) : Prop := fr [0, 1, 19, 20] M0 M ∧ (∀ k, k ≠ 45 → k ≠ 48 → M 0 k = M0 0 k) ∧ tJ M
theorem dJ_t {A B C : mm_M} (h1 : dJ A B) (h2 : dJ B C) : dJ A C := ⟨fr_t h1.1 h2.1, fun k a b => (h2.2.1 k a b).trans (h1.2.1 k a b), h2.2.2⟩
theorem dJ_v {A B : mm_M} (h : dJ A B) (hv : vJ A) : vJ B := by
  unfold vJ
  rw [h.1 5 (by decide), h.1 6 (by decide), h.2.1 6 (by decide) (by decide)]
  exact hv
theorem dJ_L {A B : mm_M} (h : dJ A B) (hL : LC A) : LC B := LC_fr hL (h.2.1 17 (by decide) (by decide)) (h.1 14 (by decide)) (h.1 16 (by decide)) (h.1 17 (by decide)) (h.1 18 (by decide))
theorem dj_m {M : mm_M} (hv : vJ M) (hs : tJ M) (hL : LC M) (hp : ∀ k, k < 8 → rl_r (M 4 k) 0 99) (h9 : (M 1 6).toInt < 9999) {x z : Int32} (hz : z = -1 ∨ (¬ (M 0 6).toInt = 0 ∧ 0 ≤ z.toInt ∧ z.toInt < 8 ∧ (M 4 (Int32.toNatClampNeg z)).toInt ≤ (M 1 3).toInt)) : ok (X12_dayGoes_j53 x z M) (fun N => dJ M N ∧ (N 1 6).toInt = (M 1 6).toInt + 1) := by
  have k9999 : (9999 : Int32).toInt = 9999 := rfl
  have k99 : (99 : Int32).toInt = 99 := rfl
  have hd0 := hs.1.2.2.2.2.2.2.1.1
  have e6 : (M 1 6 + 1).toInt = (M 1 6).toInt + 1 := e_inc (b := 9999) hd0 (by omega) (by omega)
  have fin : ∀ N : mm_M, dJ M N → N 1 6 = M 1 6 → ok (X12_dayGoes_j127 N) (fun N => dJ M N ∧ (N 1 6).toInt = (M 1 6).toInt + 1) := by
    intro N hN h6
    unfold X12_dayGoes_j127
    rw [h6]
    refine ok_s ⟨⟨fr_U hN.1 (by decide), fun k a b => hN.2.1 k a b, tJ_u hN.2.2 (Or.inr (Or.inl ⟨rfl, ?_⟩))⟩, e6⟩
    unfold rl_r
    omega
  unfold X12_dayGoes_j53
  refine ok_i (fun _ => fin M ⟨fr_rfl, fun _ _ _ => rfl, hs⟩ rfl) (fun cz => ?_)
  rcases hz with rfl | ⟨h6, z0, z8, zp⟩
  · exact absurd rfl cz
  have hin : mm_in z 8 = true := e_inb z0 z8
  rw [if_pos hin]
  have ecz := e_cl z0
  obtain ⟨p0, p1⟩ := hp (Int32.toNatClampNeg z) (by omega)
  obtain ⟨q0, q1⟩ := hs.1.2.2.2.1
  have esub : (M 1 3 - M 4 (Int32.toNatClampNeg z)).toInt = (M 1 3).toInt - (M 4 (Int32.toNatClampNeg z)).toInt := by rw [e_sub (by omega) (by omega)]
  have hP : dJ M (mm_U M 1 3 (M 1 3 - M 4 (Int32.toNatClampNeg z))) := ⟨fr_U fr_rfl (by decide), fun _ _ _ => rfl, tJ_u hs (Or.inl ⟨rfl, by unfold rl_r; omega⟩)⟩
  have hP6 : (mm_U M 1 3 (M 1 3 - M 4 (Int32.toNatClampNeg z))) 1 6 = M 1 6 := rfl
  generalize mm_U M 1 3 (M 1 3 - M 4 (Int32.toNatClampNeg z)) = P at hP hP6
  refine ok_b _ (as_m (dJ_v hP hv) hP.2.2 (by rw [hP.2.1 6 (by decide) (by decide)]; exact h6) z0 z8) (fun y5 h5 => ?_)
  obtain ⟨a1, a2, a3, a4, a5⟩ := h5
  have hK : dJ M y5 := dJ_t hP ⟨fr_w a1 (by decide), fun k a _ => a2 k a, a3⟩
  have hQ : dJ M (mm_U y5 0 48 (y5 0 48 + 1)) := ⟨fr_U hK.1 (by decide), fun k a b => by rw [e_U, if_neg (fun z => b z.2)]; exact hK.2.1 k a b, tJ_fr hK.2.2 rfl rfl⟩
  have hQ6 : (mm_U y5 0 48 (y5 0 48 + 1)) 1 6 = M 1 6 := a5.trans hP6
  generalize mm_U y5 0 48 (y5 0 48 + 1) = Q at hQ hQ6
  refine ok_b _ (fe_m hin) (fun y7 h7 => ?_)
  have h7b : dJ M y7 := dJ_t hQ ⟨fr_w h7 (by decide), fun k _ _ => by rw [h7 0 (by decide)], tJ_fr hQ.2.2 (h7 1 (by decide)) (by rw [h7 0 (by decide)])⟩
  refine ok_b _ (bl_m (dJ_L h7b hL) _ _ (by decide)) (fun y9 h9b => ?_)
  obtain ⟨b1, b2, b3⟩ := h9b
  have hR : dJ M y9.2 := dJ_t h7b ⟨fr_w b1 (by decide), fun k _ _ => by rw [b1 0 (by decide)], tJ_fr h7b.2.2 (b1 1 (by decide)) (by rw [b1 0 (by decide)])⟩
  obtain ⟨r0, r1⟩ := h7b.2.2.1.2.2.2.1
  have eg : (y7 1 3 + y9.1).toInt = (y7 1 3).toInt + y9.1.toInt := by rw [e_add (by omega) (by omega)]
  have hg : rl_r (X12_min 9999 (y7 1 3 + y9.1)) 0 9999 := mn_m (by decide) (by omega)
  generalize X12_min 9999 (y7 1 3 + y9.1) = g at hg
  refine fin _ ⟨fr_U hR.1 (by decide), fun k a b => hR.2.1 k a b, tJ_u hR.2.2 (Or.inl ⟨rfl, hg⟩)⟩ ?_
  show y9.2 1 6 = M 1 6
  rw [b1 1 (by decide), h7 1 (by decide)]
  exact hQ6
theorem dg2_m {M : mm_M} (hv : vJ M) (hs : tJ M) (hL : LC M) (hp : ∀ k, k < 8 → rl_r (M 4 k) 0 99) (h9 : (M 1 6).toInt < 9999) : ok (X12_dayGoes M) (fun N => dJ M N ∧ (N 1 6).toInt = (M 1 6).toInt + 1) := by
  have kA : (25173 : Int32).toInt = 25173 := rfl
  have kB : (13849 : Int32).toInt = 13849 := rfl
  have kC : (65536 : Int32).toInt = 65536 := rfl
  obtain ⟨x0, x1⟩ := hs.1.2.2.2.2.2.2.2
  have em : ((25173 : Int32) * M 1 7).toInt = 25173 * (M 1 7).toInt := by rw [e_mul (by rw [kA]; omega) (by rw [kA]; omega), kA]
  have ea : ((25173 : Int32) * M 1 7 + 13849).toInt = 25173 * (M 1 7).toInt + 13849 := by rw [e_add (by rw [em, kB]; omega) (by rw [em, kB]; omega), em, kB]
  have hX : rl_r (((25173 : Int32) * M 1 7 + 13849) - ((25173 : Int32) * M 1 7 + 13849) / 65536 * 65536) 0 65535 := by
    unfold rl_r
    rw [e_mod (by omega) (by decide), kC]
    omega
  unfold X12_dayGoes
  generalize ((25173 : Int32) * M 1 7 + 13849) - ((25173 : Int32) * M 1 7 + 13849) / 65536 * 65536 = X at hX
  have hU : dJ M (mm_U M 1 7 X) := ⟨fr_U fr_rfl (by decide), fun _ _ _ => rfl, tJ_u hs (Or.inr (Or.inr ⟨rfl, hX⟩))⟩
  have hU6 : (mm_U M 1 7 X) 1 6 = M 1 6 := rfl
  have hU4 : (mm_U M 1 7 X) 4 = M 4 := rfl
  have hU0 : (mm_U M 1 7 X) 0 = M 0 := rfl
  generalize mm_U M 1 7 X = U at hU hU6 hU4 hU0
  refine ok_i (fun _ => ?_) (fun c => ok_b _ (lm_m (dJ_L hU hL) _) (fun r hr => ?_))
  · refine ok_w (dj_m (dJ_v hU hv) hU.2.2 (dJ_L hU hL) (by rw [hU4]; exact hp) (by rw [hU6]; exact h9) (Or.inl rfl)) (fun N hN => ⟨dJ_t hU hN.1, by rw [hN.2, hU6]⟩)
  · obtain ⟨a1, a2⟩ := hr
    have hR : dJ M r.2 := dJ_t hU ⟨fr_w a1 (by decide), fun k _ _ => by rw [a1 0 (by decide)], tJ_fr hU.2.2 (a1 1 (by decide)) (by rw [a1 0 (by decide)])⟩
    have hR6 : r.2 1 6 = M 1 6 := by rw [a1 1 (by decide)]; exact hU6
    refine ok_w (dj_m (dJ_v hR hv) hR.2.2 (dJ_L hR hL) (by rw [a1 4 (by decide), hU4]; exact hp) (by rw [hR6]; exact h9) ?_) (fun N hN => ⟨dJ_t hR hN.1, by rw [hN.2, hR6]⟩)
    rcases a2 with h | h
    · exact Or.inl h
    · refine Or.inr ⟨?_, h.1, h.2.1, ?_⟩
      · rw [a1 0 (by decide), hU0]
        intro z
        exact c (Int32.toInt_inj.mp z)
      · rw [a1 4 (by decide), a1 1 (by decide)]
        exact h.2.2
theorem go_m {M : mm_M} (hv : vJ M) (hs : tJ M) (hL : LC M) (hp : ∀ k, k < 8 → rl_r (M 4 k) 0 99) {x : Int32} (hx : x.toInt ≤ 100) : ok (X12_daysGo x M) (fun N => dJ M N ∧ (N 1 6).toInt = (if (M 1 6).toInt + x.toInt ≤ 9999 then (if 0 ≤ x.toInt then (M 1 6).toInt + x.toInt else (M 1 6).toInt) else 9999)) := by
  have k9999 : (9999 : Int32).toInt = 9999 := rfl
  obtain ⟨hd0, hd1⟩ := hs.1.2.2.2.2.2.2.1
  have h0 : dJ M (mm_U (mm_U M 0 48 0) 0 45 0) := ⟨fr_U (fr_U fr_rfl (by decide)) (by decide), fun k a b => by rw [e_U, if_neg (fun z => a z.2), e_U, if_neg (fun z => b z.2)], tJ_fr hs rfl rfl⟩
  unfold X12_daysGo
  refine ok_lp (fun s : Int32 × mm_M => dJ M s.2 ∧ 0 ≤ s.1.toInt ∧ (s.1.toInt ≤ 0 ∨ s.1.toInt ≤ x.toInt) ∧ (s.2 1 6).toInt = (M 1 6).toInt + s.1.toInt) (fun s => (100 - s.1.toInt).toNat) _ ⟨h0, by show 0 ≤ (0 : Int32).toInt; decide, Or.inl (by show (0 : Int32).toInt ≤ 0; decide), by show (M 1 6).toInt = (M 1 6).toInt + (0 : Int32).toInt; have : (0 : Int32).toInt = 0 := rfl; omega⟩ (by show ((100 : Int) - (0 : Int32).toInt).toNat < 4000000000; decide) ?_
  rintro ⟨i, N⟩ ⟨hN, hi0, hi1, hd⟩
  dsimp only at hN hi0 hi1 hd
  have hN6 := hN.2.2.1.2.2.2.2.2.2.1.2
  unfold X12_daysGo_l12
  refine ok_i (fun c => ok_s ⟨hN, ?_⟩) (fun c1 => ok_i (fun c => ok_s ⟨hN, ?_⟩) (fun c2 => ?_))
  · dsimp only at c ⊢
    rw [e_le] at c
    rw [hd]
    by_cases cx : 0 ≤ x.toInt
    · rw [if_pos (by omega), if_pos cx]; omega
    · rw [if_pos (by omega), if_neg cx]; omega
  · dsimp only at c c1 ⊢
    rw [e_le] at c
    rw [e_le] at c1
    rw [hd]
    by_cases cx : (M 1 6).toInt + x.toInt ≤ 9999
    · rw [if_pos cx, if_pos (by omega)]; omega
    · rw [if_neg cx]; omega
  dsimp only at c1 c2
  rw [e_le] at c1 c2
  have ei : (i + 1).toInt = i.toInt + 1 := e_inc (b := 101) hi0 (by omega) (by omega)
  refine ok_b _ (dg2_m (M := N) (dJ_v hN hv) hN.2.2 (dJ_L hN hL) (by rw [hN.1 4 (by decide)]; exact hp) (by omega)) (fun r hr => ok_s ⟨⟨dJ_t hN hr.1, by first | omega | (dsimp only; omega), by first | omega | (dsimp only; omega), ?_⟩, by first | omega | (dsimp only; omega)⟩)
  dsimp only
  rw [hr.2]
  omega
