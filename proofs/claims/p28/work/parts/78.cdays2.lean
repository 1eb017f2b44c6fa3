theorem e_low16 (v : Int32) : rl_r (v &&& 65535) 0 65535 := by
  obtain ⟨j, hj, e⟩ := pk_andE v (m := 65535) 16 (by decide)
  rw [e]
  unfold rl_r
  rw [nI_toInt (by omega)]
  omega
/-- a valley that is well told -/
def valI (M : mm_M) : Prop := ((M 7 0).toInt = 0 ∨ rl_r (M 7 0) 2 10) ∧ (∀ i, i < 80 → rl_r (M 8 i) 0 9 ∧ rl_r (M 9 i) 0 9) ∧ ∀ q s : Nat, q < 8 → (s : Int) < (M 7 0).toInt → (M 9 (10 * q + s)).toInt < (M 7 0).toInt
/-- a standing within its bounds, at a state that is there -/
def sJ (M : mm_M) (a : Nat) : Prop := rl_st M a ∧ ((M a 0).toInt < (M 7 0).toInt ∨ (M a 0).toInt = 0)
theorem an_in {M : mm_M} (hv : valI M) (q s : Int32) : rl_r (X8_answer q s M) 0 9 := by
  unfold X8_answer
  by_cases c1 : q * 10 + s < 0
  · rw [if_pos c1]; exact ⟨by decide, by decide⟩
  · rw [if_neg c1]
    by_cases c2 : 80 ≤ q * 10 + s
    · rw [if_pos c2]; exact ⟨by decide, by decide⟩
    · rw [if_neg c2]
      rw [e_lt] at c1
      rw [e_le] at c2
      have k0 : (0 : Int32).toInt = 0 := rfl
      have k80 : (80 : Int32).toInt = 80 := rfl
      have ec := e_cl (show 0 ≤ (q * 10 + s).toInt by omega)
      exact (hv.2.1 _ (by omega)).1
theorem be_in {M : mm_M} (hv : valI M) {q s : Int32} (hq0 : 0 ≤ q.toInt) (hq : q.toInt < 8) (hs0 : 0 ≤ s.toInt) (hs9 : s.toInt ≤ 9) (hs : s.toInt < (M 7 0).toInt ∨ s.toInt = 0) : rl_r (X8_behind q s M) 0 9 ∧ ((X8_behind q s M).toInt < (M 7 0).toInt ∨ (X8_behind q s M).toInt = 0 ∨ (M 7 0).toInt = 0) := by
  have k0 : (0 : Int32).toInt = 0 := rfl
  have k10 : (10 : Int32).toInt = 10 := rfl
  have k80 : (80 : Int32).toInt = 80 := rfl
  have e1 : (q * 10).toInt = q.toInt * 10 := by rw [e_mul (by rw [k10]; omega) (by rw [k10]; omega), k10]
  have e2 : (q * 10 + s).toInt = q.toInt * 10 + s.toInt := by rw [e_add (by omega) (by omega), e1]
  unfold X8_behind
  rw [if_neg (by rw [e_lt]; omega), if_neg (by rw [e_le]; omega)]
  have ec := e_cl (show 0 ≤ (q * 10 + s).toInt by omega)
  have ecq := e_cl hq0
  have ecs := e_cl hs0
  refine ⟨(hv.2.1 _ (by omega)).2, ?_⟩
  by_cases c : (M 7 0).toInt = 0
  · exact Or.inr (Or.inr c)
  · have hn : 2 ≤ (M 7 0).toInt := by
      rcases hv.1 with h | h
      · exact absurd h c
      · exact h.1
    left
    have := hv.2.2 (Int32.toNatClampNeg q) (Int32.toNatClampNeg s) (by omega) (by omega)
    have ex : Int32.toNatClampNeg (q * 10 + s) = 10 * Int32.toNatClampNeg q + Int32.toNatClampNeg s := by omega
    rw [ex]
    exact this
/-- a question is asked, where there is a valley -/
theorem ask_in {M : mm_M} (a : Nat) (ha : a = 4 ∨ a = 6) (hv : valI M) (hs : sJ M a) (h7 : ¬ (M 7 0).toInt = 0) {q : Int32} (hq0 : 0 ≤ q.toInt) (hq : q.toInt < 8) : fr [a] M (X6_ask a q M) ∧ sJ (X6_ask a q M) a ∧ (X6_ask a q M) a 3 = M a 3 ∧ (X6_ask a q M) a 6 = M a 6 := by
  obtain ⟨⟨s0, s1, s2, s3, s4, s5, s6, s7⟩, hst⟩ := hs
  have k1 : (1 : Int32).toInt = 1 := rfl
  have k9999 : (9999 : Int32).toInt = 9999 := rfl
  have k99999 : (99999 : Int32).toInt = 99999 := rfl
  have hA := an_in hv q (M a 0)
  have hB := be_in hv hq0 hq s0.1 s0.2 hst
  have eB : X8_behind q (M a 0) (mm_U (mm_U M a 1 (X8_answer q (M a 0) M)) a 2 q) = X8_behind q (M a 0) M := by
    unfold X8_behind
    rcases ha with rfl | rfl <;> rfl
  unfold X6_ask
  rw [eB]
  generalize X8_answer q (M a 0) M = A at hA
  generalize X8_behind q (M a 0) M = B at hB
  have e4 : (M a 4 + 1).toInt = (M a 4).toInt + 1 := e_inc s4.1 s4.2 (by omega)
  have e5 : (M a 5 + A).toInt = (M a 5).toInt + A.toInt := by
    have := s5.1; have := s5.2; have := hA.1; have := hA.2
    rw [e_add (by omega) (by omega)]
  have n4 : rl_r (if M a 4 + 1 < 9999 then M a 4 + 1 else 9999) 0 9999 := by
    by_cases c : M a 4 + 1 < 9999
    · rw [if_pos c]
      rw [e_lt] at c
      have := s4.1
      unfold rl_r
      omega
    · rw [if_neg c]
      exact ⟨by decide, by decide⟩
  have n5 : rl_r (if M a 5 + A < 99999 then M a 5 + A else 99999) 0 99999 := by
    by_cases c : M a 5 + A < 99999
    · rw [if_pos c]
      rw [e_lt] at c
      have := s5.1; have := hA.1
      unfold rl_r
      omega
    · rw [if_neg c]
      exact ⟨by decide, by decide⟩
  have hst' : B.toInt < (M 7 0).toInt ∨ B.toInt = 0 := by
    rcases hB.2 with h | h | h
    · exact Or.inl h
    · exact Or.inr h
    · exact absurd h h7
  generalize (if M a 4 + 1 < 9999 then M a 4 + 1 else 9999) = c4 at n4
  generalize (if M a 5 + A < 99999 then M a 5 + A else 99999) = c5 at n5
  have g : ∀ k : Nat, (mm_U (mm_U (mm_U (mm_U (mm_U M a 1 A) a 2 q) a 0 B) a 4 c4) a 5 c5) a k = if k = 5 then c5 else if k = 4 then c4 else if k = 0 then B else if k = 2 then q else if k = 1 then A else M a k := by
    intro k
    simp only [e_U, true_and]
  have h7 : (mm_U (mm_U (mm_U (mm_U (mm_U M a 1 A) a 2 q) a 0 B) a 4 c4) a 5 c5) 7 = M 7 := by
    have : 7 ≠ a := by omega
    rw [mm_U_ne 7 this, mm_U_ne 7 this, mm_U_ne 7 this, mm_U_ne 7 this, mm_U_ne 7 this]
  have hm : a ∈ [a] := List.mem_singleton.mpr rfl
  refine ⟨fr_U (fr_U (fr_U (fr_U (fr_U fr_rfl hm) hm) hm) hm) hm, ⟨⟨?_, ?_, ?_, ?_, ?_, ?_, ?_, ?_⟩, ?_⟩, ?_, ?_⟩
  · rw [g]; exact hB.1
  · rw [g]; exact hA
  · rw [g]; exact ⟨hq0, by show q.toInt ≤ 8; omega⟩
  · rw [g]; exact s3
  · rw [g]; exact n4
  · rw [g]; exact n5
  · rw [g]; exact s6
  · rw [g]; exact s7
  · rw [h7, g]; exact hst'
  · rw [g]; rfl
  · rw [g]; rfl
/-- what days keep, of a standing at a -/
def gJ (M0 M : mm_M) (a : Nat) : Prop := fr [a, 13, 19, 29, 30] M0 M ∧ sJ M a ∧ ∀ k, k ≠ 8 → k ≠ 9 → M 13 k = M0 13 k
theorem ml_in {M0 M : mm_M} (a : Nat) (ha : a = 4 ∨ a = 6) (h : gJ M0 M a) (hl : lI M0) {x : Int32} : ok (X1_mostLiked a x M) (fun r => gJ M0 r.2 a ∧ r.2 a = M a ∧ (r.1 = -1 ∨ (0 ≤ r.1.toInt ∧ r.1.toInt < 8 ∧ (M0 3 (Int32.toNatClampNeg r.1)).toInt ≤ (M a 3).toInt))) := by
  have k0 : (0 : Int32).toInt = 0 := rfl
  have k8 : (8 : Int32).toInt = 8 := rfl
  have d30 : 30 ≠ a := by omega
  have d7 : 7 ≠ a := by omega
  have d13 : 13 ≠ a := by omega
  have d19 : 19 ≠ a := by omega
  have d3 : 3 ≠ a := by omega
  have u30 : ∀ (N : mm_M) (k : Nat) (v : Int32), gJ M0 N a ∧ N a = M a → gJ M0 (mm_U N 30 k v) a ∧ (mm_U N 30 k v) a = M a := by
    rintro N k v ⟨⟨hf, hs, hk⟩, he⟩
    have ea : (mm_U N 30 k v) a = N a := mm_U_ne a (Ne.symm d30)
    refine ⟨⟨fr_U hf (by simp), ?_, fun j h8 h9 => by rw [mm_U_ne 13 (by decide)]; exact hk j h8 h9⟩, by rw [ea]; exact he⟩
    unfold sJ rl_st at hs ⊢
    rw [ea, mm_U_ne 7 (by decide)]
    exact hs
  have uq : ∀ (N N' : mm_M), gJ M0 N a ∧ N a = M a → qI N N' → gJ M0 N' a ∧ N' a = M a := by
    rintro N N' ⟨⟨hf, hs, hk⟩, he⟩ ⟨qf, qk⟩
    have ea : N' a = N a := qf a (by simp; omega)
    have e7 : N' 7 = N 7 := qf 7 (by decide)
    refine ⟨⟨fun b hb => ?_, ?_, fun j h8 h9 => (qk j h8 h9).trans (hk j h8 h9)⟩, ea.trans he⟩
    · simp only [List.mem_cons, not_or] at hb
      rw [qf b (by simp [hb.2.1, hb.2.2.1])]
      exact hf b (by simp [hb])
    · unfold sJ rl_st at hs ⊢
      rw [ea, e7]
      exact hs
  have ul : ∀ (N : mm_M), gJ M0 N a → lI N := by
    intro N hN i hi
    have e18 : N 18 = M0 18 := hN.1 18 (by simp; omega)
    have e4 : N 13 4 = M0 13 4 := hN.2.2 4 (by decide) (by decide)
    rw [e4] at hi
    rw [e18]
    exact hl i hi
  have hset : gJ M0 (X1_setLetters a x M) a ∧ (X1_setLetters a x M) a = M a := by
    unfold X1_setLetters
    exact u30 _ _ _ (u30 _ _ _ (u30 _ _ _ (u30 _ _ _ (u30 _ _ _ (u30 _ _ _ (u30 _ _ _ ⟨h, rfl⟩))))))
  unfold X1_mostLiked
  refine ok_l (ok_lp (fun s : Int32 × Int32 × Int32 × mm_M => (gJ M0 s.2.2.2 a ∧ s.2.2.2 a = M a) ∧ (s.1 = -1 ∨ (0 ≤ s.1.toInt ∧ s.1.toInt < 8 ∧ (M0 3 (Int32.toNatClampNeg s.1)).toInt ≤ (M a 3).toInt)) ∧ 0 ≤ s.2.2.1.toInt ∧ s.2.2.1.toInt ≤ 8) (fun s => (8 - s.2.2.1.toInt).toNat) _ ⟨hset, Or.inl rfl, by show 0 ≤ (0 : Int32).toInt; decide, by show (0 : Int32).toInt ≤ 8; decide⟩ (by show ((8 : Int) - (0 : Int32).toInt).toNat < 4000000000; decide) ?_)
  rintro ⟨b, w, q, N⟩ ⟨hN, hb, hq0, hq1⟩
  dsimp only at hN hb hq0 hq1
  have eq1 : (q + 1).toInt = q.toInt + 1 := e_inc hq0 hq1 (by omega)
  unfold X1_mostLiked_l15
  refine ok_i (fun _ => ok_s ⟨hN.1, hN.2, hb⟩) (fun c1 => ok_i (fun _ => ok_s ⟨hN.1, hN.2, hb⟩) (fun _ => ?_))
  dsimp only at c1
  rw [e_le] at c1
  have hin : mm_in q 8 = true := e_inb hq0 (by omega)
  have fin : ∀ (b' w' : Int32) (N' : mm_M), (gJ M0 N' a ∧ N' a = M a) → (b' = -1 ∨ (0 ≤ b'.toInt ∧ b'.toInt < 8 ∧ (M0 3 (Int32.toNatClampNeg b')).toInt ≤ (M a 3).toInt)) → sm (fun s' : Int32 × Int32 × Int32 × mm_M => ((gJ M0 s'.2.2.2 a ∧ s'.2.2.2 a = M a) ∧ (s'.1 = -1 ∨ (0 ≤ s'.1.toInt ∧ s'.1.toInt < 8 ∧ (M0 3 (Int32.toNatClampNeg s'.1)).toInt ≤ (M a 3).toInt)) ∧ 0 ≤ s'.2.2.1.toInt ∧ s'.2.2.1.toInt ≤ 8) ∧ (8 - s'.2.2.1.toInt).toNat < (8 - q.toInt).toNat) (fun r : Int32 × mm_M => gJ M0 r.2 a ∧ r.2 a = M a ∧ (r.1 = -1 ∨ (0 ≤ r.1.toInt ∧ r.1.toInt < 8 ∧ (M0 3 (Int32.toNatClampNeg r.1)).toInt ≤ (M a 3).toInt))) (.inl (b', w', q + 1, N')) := fun b' w' N' h1 h2 => ⟨⟨h1, h2, by first | omega | (dsimp only; omega), by first | omega | (dsimp only; omega)⟩, by first | omega | (dsimp only; omega)⟩
  have e3 : N 3 = M0 3 := hN.1.1 3 (by simp; omega)
  refine ok_i (fun _ => ok_i (fun _ => ok_s (fin _ _ _ hN hb)) (fun cp => ok_i (fun _ => ok_l ?_) (fun z => absurd hin z))) (fun z => absurd hin z)
  dsimp only at cp ⊢
  have hQ : gJ M0 (X1_setQuestion q (N 3 (Int32.toNatClampNeg q)) N) a ∧ (X1_setQuestion q (N 3 (Int32.toNatClampNeg q)) N) a = M a := by
    unfold X1_setQuestion
    exact u30 _ _ _ (u30 _ _ _ hN)
  refine ok_b _ (fn_in (M0 := X1_setQuestion q (N 3 (Int32.toNatClampNeg q)) N) ⟨fr_rfl, fun _ _ _ => rfl⟩ (ul _ hQ.1) (by decide)) (fun r hr => ?_)
  have h1 := uq _ _ hQ hr.1
  refine ok_i (fun _ => ok_s (fin _ _ _ h1 hb)) (fun _ => ok_b _ (ha_in (M0 := r.2) ⟨fr_rfl, fun _ _ _ => rfl⟩ (ul _ h1.1)) (fun r2 hr2 => ?_))
  have h2 := uq _ _ h1 hr2
  refine ok_i (fun _ => ok_s (fin _ _ _ h2 hb)) (fun _ => ok_s (fin _ _ _ h2 (Or.inr ⟨hq0, by omega, ?_⟩)))
  rw [e_lt, e3, hN.2] at cp
  omega
theorem go_in {M0 : mm_M} (a : Nat) (ha : a = 4 ∨ a = 6) (hv : valI M0) (hs : sJ M0 a) (hl : lI M0) (hp : ∀ k, k < 8 → rl_r (M0 3 k) 0 99) {x : Int32} (hx : x.toInt ≤ 100) : ok (X1_goThrough a x M0) (fun M => gJ M0 M a ∧ (M a 6).toInt = (if (M0 a 6).toInt + x.toInt ≤ 9999 then (if 0 ≤ x.toInt then (M0 a 6).toInt + x.toInt else (M0 a 6).toInt) else 9999)) := by
  have k0 : (0 : Int32).toInt = 0 := rfl
  have k9999 : (9999 : Int32).toInt = 9999 := rfl
  have d30 : 30 ≠ a := by omega
  have d29 : 29 ≠ a := by omega
  have d7 : 7 ≠ a := by omega
  have d13 : 13 ≠ a := by omega
  have d3 : 3 ≠ a := by omega
  have uo : ∀ (N : mm_M) (c k : Nat) (v : Int32), (c = 29 ∨ c = 30) → gJ M0 N a → gJ M0 (mm_U N c k v) a ∧ (mm_U N c k v) a = N a := by
    rintro N c k v hc ⟨hf, hs, hk⟩
    have ea : (mm_U N c k v) a = N a := mm_U_ne a (by omega)
    refine ⟨⟨fr_U hf (by rcases hc with rfl | rfl <;> simp), ?_, fun j h8 h9 => by rw [mm_U_ne 13 (by omega)]; exact hk j h8 h9⟩, ea⟩
    unfold sJ rl_st at hs ⊢
    rw [ea, mm_U_ne 7 (by omega)]
    exact hs
  have us : ∀ (N : mm_M) (k : Nat) (v : Int32), gJ M0 N a → ((k = 3 ∧ rl_r v 0 9999) ∨ (k = 6 ∧ rl_r v 0 9999) ∨ (k = 7 ∧ rl_r v 0 65535)) → gJ M0 (mm_U N a k v) a := by
    rintro N k v ⟨hf, ⟨⟨s0, s1, s2, s3, s4, s5, s6, s7⟩, hst⟩, hk⟩ hv
    have g : ∀ j : Nat, mm_U N a k v a j = if j = k then v else N a j := by
      intro j
      simp only [e_U, true_and]
    refine ⟨fr_U hf (by simp), ⟨⟨?_, ?_, ?_, ?_, ?_, ?_, ?_, ?_⟩, ?_⟩, fun j h8 h9 => by rw [mm_U_ne 13 d13]; exact hk j h8 h9⟩
    · rw [g, if_neg (by omega)]; exact s0
    · rw [g, if_neg (by omega)]; exact s1
    · rw [g, if_neg (by omega)]; exact s2
    · rw [g]
      by_cases c : 3 = k
      · rw [if_pos c]
        rcases hv with h | h | h
        · exact h.2
        · omega
        · omega
      · rw [if_neg c]; exact s3
    · rw [g, if_neg (by omega)]; exact s4
    · rw [g, if_neg (by omega)]; exact s5
    · rw [g]
      by_cases c : 6 = k
      · rw [if_pos c]
        rcases hv with h | h | h
        · omega
        · exact h.2
        · omega
      · rw [if_neg c]; exact s6
    · rw [g]
      by_cases c : 7 = k
      · rw [if_pos c]
        rcases hv with h | h | h
        · omega
        · omega
        · exact h.2
      · rw [if_neg c]; exact s7
    · rw [mm_U_ne 7 d7, g, if_neg (by omega)]; exact hst
  have uv : ∀ N : mm_M, gJ M0 N a → valI N ∧ lI N ∧ N 3 = M0 3 ∧ N 7 = M0 7 := by
    intro N hN
    have e3 : N 3 = M0 3 := hN.1 3 (by simp; omega)
    have e7 : N 7 = M0 7 := hN.1 7 (by simp; omega)
    have e8 : N 8 = M0 8 := hN.1 8 (by simp; omega)
    have e9 : N 9 = M0 9 := hN.1 9 (by simp; omega)
    have e18 : N 18 = M0 18 := hN.1 18 (by simp; omega)
    have e4 : N 13 4 = M0 13 4 := hN.2.2 4 (by decide) (by decide)
    refine ⟨?_, ?_, e3, e7⟩
    · unfold valI
      rw [e7, e8, e9]
      exact hv
    · unfold lI
      rw [e4, e18]
      exact hl
  have h00 : gJ M0 (mm_U (mm_U M0 29 1 0) 29 2 0) a ∧ (mm_U (mm_U M0 29 1 0) 29 2 0) a = M0 a := by
    have b0 : gJ M0 M0 a := ⟨fr_rfl, hs, fun _ _ _ => rfl⟩
    obtain ⟨b1, b2⟩ := uo M0 29 1 0 (Or.inl rfl) b0
    obtain ⟨b3, b4⟩ := uo _ 29 2 0 (Or.inl rfl) b1
    exact ⟨b3, b4.trans b2⟩
  have hday := hs.1.2.2.2.2.2.2.1
  have hday1 := hday.1
  have hday2 := hday.2
  unfold X1_goThrough
  refine ok_lp (fun s : Int32 × mm_M => gJ M0 s.2 a ∧ 0 ≤ s.1.toInt ∧ (s.1.toInt ≤ 0 ∨ s.1.toInt ≤ x.toInt) ∧ (s.2 a 6).toInt = (M0 a 6).toInt + s.1.toInt) (fun s => (100 - s.1.toInt).toNat) _ ⟨h00.1, by show 0 ≤ (0 : Int32).toInt; decide, Or.inl (by show (0 : Int32).toInt ≤ 0; decide), by dsimp only; rw [h00.2]; omega⟩ (by show ((100 : Int) - (0 : Int32).toInt).toNat < 4000000000; decide) ?_
  rintro ⟨i, N⟩ ⟨hN, hi0, hi1, hd⟩
  dsimp only at hN hi0 hi1 hd
  have hN6 := hN.2.1.1.2.2.2.2.2.2.1.2
  unfold X1_goThrough_l13
  refine ok_i (fun c => ok_s ⟨hN, ?_⟩) (fun c1 => ok_i (fun c => ok_s ⟨hN, ?_⟩) (fun c2 => ok_l ?_))
  · dsimp only at c ⊢
    rw [e_le] at c
    rw [hd]
    by_cases cx : 0 ≤ x.toInt
    · rw [if_pos (by omega), if_pos cx]; omega
    · rw [if_pos (by omega), if_neg cx]; omega
  · dsimp only at c c1 ⊢
    rw [e_le] at c
    rw [e_le] at c1
    rw [hd]
    by_cases cx : (M0 a 6).toInt + x.toInt ≤ 9999
    · rw [if_pos cx, if_pos (by omega)]; omega
    · rw [if_neg cx]; omega
  dsimp only at c1 c2 ⊢
  rw [e_le] at c1 c2
  have ei : (i + 1).toInt = i.toInt + 1 := e_inc (b := 101) hi0 (by omega) (by omega)
  have hD : gJ M0 (X6_draw a N).2 a ∧ ((X6_draw a N).2 a 6) = N a 6 := by
    unfold X6_draw
    refine ⟨us _ _ _ hN (Or.inr (Or.inr ⟨rfl, e_low16 _⟩)), ?_⟩
    dsimp only
    rw [e_U, if_neg (fun z => by have := z.2; omega)]
  have fin : ∀ N' : mm_M, gJ M0 N' a → N' a 6 = N a 6 → sm (fun s' : Int32 × mm_M => (gJ M0 s'.2 a ∧ 0 ≤ s'.1.toInt ∧ (s'.1.toInt ≤ 0 ∨ s'.1.toInt ≤ x.toInt) ∧ (s'.2 a 6).toInt = (M0 a 6).toInt + s'.1.toInt) ∧ (100 - s'.1.toInt).toNat < (100 - i.toInt).toNat) (fun M => gJ M0 M a ∧ (M a 6).toInt = (if (M0 a 6).toInt + x.toInt ≤ 9999 then (if 0 ≤ x.toInt then (M0 a 6).toInt + x.toInt else (M0 a 6).toInt) else 9999)) (.inl (i + 1, mm_U N' a 6 (N' a 6 + 1))) := by
    intro N' hN' e6
    have ed : (N a 6 + 1).toInt = (N a 6).toInt + 1 := e_inc (b := 9999) (by omega) (by omega) (by omega)
    rw [e6]
    refine ⟨⟨us _ _ _ hN' (Or.inr (Or.inl ⟨rfl, by unfold rl_r; omega⟩)), by first | omega | (dsimp only; omega), by first | omega | (dsimp only; omega), ?_⟩, by first | omega | (dsimp only; omega)⟩
    dsimp only
    rw [mm_U_same]
    omega
  have j57 : ∀ (z : Int32) (w : Int32) (N' : mm_M), gJ M0 N' a → N' a 6 = N a 6 → (z = -1 ∨ (¬ (M0 7 0).toInt = 0 ∧ 0 ≤ z.toInt ∧ z.toInt < 8 ∧ (M0 3 (Int32.toNatClampNeg z)).toInt ≤ (N' a 3).toInt)) → ok (X1_goThrough_j57l13 a x i w z N') (sm (fun s' : Int32 × mm_M => (gJ M0 s'.2 a ∧ 0 ≤ s'.1.toInt ∧ (s'.1.toInt ≤ 0 ∨ s'.1.toInt ≤ x.toInt) ∧ (s'.2 a 6).toInt = (M0 a 6).toInt + s'.1.toInt) ∧ (100 - s'.1.toInt).toNat < (100 - i.toInt).toNat) (fun M => gJ M0 M a ∧ (M a 6).toInt = (if (M0 a 6).toInt + x.toInt ≤ 9999 then (if 0 ≤ x.toInt then (M0 a 6).toInt + x.toInt else (M0 a 6).toInt) else 9999))) := by
    intro z w N' hN' e6 hz
    unfold X1_goThrough_j57l13
    refine ok_i (fun cq => ?_) (fun _ => ok_s (fin _ hN' e6))
    have hq := rl_isqI.mp cq
    have hin : mm_in z 8 = true := e_inb hq.1 hq.2
    obtain ⟨hv', hl', e3, e7⟩ := uv N' hN'
    have ecz := e_cl hq.1
    rcases hz with rfl | ⟨h7, hz0, hz8, hzp⟩
    · exact absurd cq (by decide)
    have hpz := hp (Int32.toNatClampNeg z) (by omega)
    obtain ⟨hp0, hp1⟩ := hpz
    obtain ⟨hs30, hs31⟩ := hN'.2.1.1.2.2.2.1
    have e3z : N' 3 (Int32.toNatClampNeg z) = M0 3 (Int32.toNatClampNeg z) := by rw [e3]
    have esub : (N' a 3 - N' 3 (Int32.toNatClampNeg z)).toInt = (N' a 3).toInt - (M0 3 (Int32.toNatClampNeg z)).toInt := by rw [e3z, e_sub (by omega) (by omega)]
    have hP : gJ M0 (mm_U N' a 3 (N' a 3 - N' 3 (Int32.toNatClampNeg z))) a := us _ _ _ hN' (Or.inl ⟨rfl, by unfold rl_r; omega⟩)
    have hP6 : (mm_U N' a 3 (N' a 3 - N' 3 (Int32.toNatClampNeg z))) a 6 = N a 6 := by rw [e_U, if_neg (fun z => by have := z.2; omega)]; exact e6
    refine ok_i (fun _ => ok_l ?_) (fun z => absurd hin z)
    generalize mm_U N' a 3 (N' a 3 - N' 3 (Int32.toNatClampNeg z)) = P at hP hP6 ⊢
    obtain ⟨hv2, hl2, e32, e72⟩ := uv P hP
    obtain ⟨a1, a2, a3, a4⟩ := ask_in a ha hv2 hP.2.1 (by rw [e72]; exact h7) hq.1 hq.2
    generalize X6_ask a z P = K at a1 a2 a3 a4 ⊢
    have hK : gJ M0 K a := by
      refine ⟨fun b hb => ?_, a2, fun j h8 h9 => ?_⟩
      · rw [a1 b (by simp at hb ⊢; exact hb.1)]
        exact hP.1 b hb
      · rw [a1 13 (by simp; exact d13)]
        exact hP.2.2 j h8 h9
    have hK6 : K a 6 = N a 6 := a4.trans hP6
    refine ok_l (ok_i (fun _ => ok_l ?_) (fun z => absurd hin z))
    obtain ⟨b1, b2⟩ := uo K 29 1 (K 29 1 + 1) (Or.inl rfl) hK
    obtain ⟨b3, b4⟩ := uo _ 29 2 (K 29 2 + K a 1) (Or.inl rfl) b1
    have hE : gJ M0 (X1_setLetters a w (mm_U (mm_U K 29 1 (K 29 1 + 1)) 29 2 (K 29 2 + K a 1))) a ∧ (X1_setLetters a w (mm_U (mm_U K 29 1 (K 29 1 + 1)) 29 2 (K 29 2 + K a 1))) a = K a := by
      generalize mm_U (mm_U K 29 1 (K 29 1 + 1)) 29 2 (K 29 2 + K a 1) = E at b3 b4 ⊢
      have u30 : ∀ (F : mm_M) (k : Nat) (v : Int32), gJ M0 F a ∧ F a = K a → gJ M0 (mm_U F 30 k v) a ∧ (mm_U F 30 k v) a = K a := fun F k v h => ⟨(uo F 30 k v (Or.inr rfl) h.1).1, ((uo F 30 k v (Or.inr rfl) h.1).2).trans h.2⟩
      unfold X1_setLetters
      exact u30 _ _ _ (u30 _ _ _ (u30 _ _ _ (u30 _ _ _ (u30 _ _ _ (u30 _ _ _ (u30 _ _ _ ⟨b3, b4.trans b2⟩))))))
    generalize X1_setLetters a w (mm_U (mm_U K 29 1 (K 29 1 + 1)) 29 2 (K 29 2 + K a 1)) = E at hE ⊢
    have hF : gJ M0 (X1_setQuestion z (E 3 (Int32.toNatClampNeg z)) E) a ∧ (X1_setQuestion z (E 3 (Int32.toNatClampNeg z)) E) a = K a := by
      unfold X1_setQuestion
      obtain ⟨c1, c2⟩ := uo E 30 0 z (Or.inr rfl) hE.1
      obtain ⟨c3, c4⟩ := uo _ 30 3 (E 3 (Int32.toNatClampNeg z)) (Or.inr rfl) c1
      exact ⟨c3, c4.trans (c2.trans hE.2)⟩
    generalize X1_setQuestion z (E 3 (Int32.toNatClampNeg z)) E = F at hF ⊢
    obtain ⟨hv3, hl3, e33, e73⟩ := uv F hF.1
    refine ok_b _ (fn_in (M0 := F) ⟨fr_rfl, fun _ _ _ => rfl⟩ hl3 (by decide)) (fun r hr => ok_s ?_)
    obtain ⟨⟨qf, qk⟩, hr0, hr1⟩ := hr
    have ea : r.2 a = F a := qf a (by simp; omega)
    have hR : gJ M0 r.2 a := by
      obtain ⟨hf, hs, hk⟩ := hF.1
      refine ⟨fun b hb => ?_, ?_, fun j h8 h9 => (qk j h8 h9).trans (hk j h8 h9)⟩
      · simp only [List.mem_cons, not_or] at hb
        rw [qf b (by simp [hb.2.1, hb.2.2.1])]
        exact hf b (by simp [hb])
      · unfold sJ rl_st at hs ⊢
        rw [ea, qf 7 (by decide)]
        exact hs
    have hR6 : r.2 a 6 = N a 6 := by rw [ea, hF.2]; exact hK6
    obtain ⟨hR30, hR31⟩ := hR.2.1.1.2.2.2.1
    have k99 : (99 : Int32).toInt = 99 := rfl
    have eg : (r.2 a 3 + r.1).toInt = (r.2 a 3).toInt + r.1.toInt := by rw [e_add (by omega) (by omega)]
    have hg : rl_r (if r.2 a 3 + r.1 < 9999 then r.2 a 3 + r.1 else 9999) 0 9999 := by
      by_cases c : r.2 a 3 + r.1 < 9999
      · rw [if_pos c]
        rw [e_lt] at c
        unfold rl_r
        omega
      · rw [if_neg c]
        exact ⟨by decide, by decide⟩
    generalize (if r.2 a 3 + r.1 < 9999 then r.2 a 3 + r.1 else 9999) = g at hg ⊢
    have hfin := fin (mm_U r.2 a 3 g) (us _ _ _ hR (Or.inl ⟨rfl, hg⟩)) (by rw [e_U, if_neg (fun z => by have := z.2; omega)]; exact hR6)
    have e66 : (mm_U r.2 a 3 g) a 6 = r.2 a 6 := by rw [e_U, if_neg (fun z => by have := z.2; omega)]
    rw [e66] at hfin
    exact hfin
  refine ok_i (fun ct => ok_b _ (ml_in a ha hD.1 hl) (fun r hr => j57 _ _ _ hr.1 (by rw [hr.2.1]; exact hD.2) ?_)) (fun _ => j57 _ _ _ hD.1 hD.2 (Or.inl rfl))
  rcases hr.2.2 with h | h
  · exact Or.inl h
  · refine Or.inr ⟨?_, h.1, h.2.1, by rw [hr.2.1]; exact h.2.2⟩
    intro z
    obtain ⟨-, -, -, e7⟩ := uv _ hD.1
    unfold X8_isTold at ct
    rw [e7, if_pos (by rw [e_le]; omega)] at ct
    cases ct
