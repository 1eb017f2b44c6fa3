/-- the rules that are said so far -/
def RS (M : mm_M) (m c : Nat) : Prop := ∀ j, j < m → ∃ a b t : Nat, M 11 j = nI a ∧ M 12 j = nI b ∧ M 13 j = nI t ∧ a ≤ b ∧ b ≤ t ∧ t ≤ c ∧ seg (M 8) a b ∧ seg (M 8) b t
def LF (M0 M : mm_M) : Prop := fr [0, 8, 9, 10, 11, 12, 13] M0 M ∧ ∀ k, k < 9 ∨ 16 < k → M 0 k = M0 0 k
def LL (M0 M : mm_M) (n p m c : Nat) : Prop := tI M n p ∧ LF M0 M ∧ M 0 14 = nI c ∧ (M 0 16 = nI m ∧ m ≤ 16) ∧ c ≤ p ∧ RS M m c
theorem LF_t {M0 A B : mm_M} (h1 : LF M0 A) (h2 : FI A B) : LF M0 B := by
  refine ⟨fun b hb => ?_, fun k hk => (h2.2 k (by omega)).trans (h1.2 k hk)⟩
  simp only [List.mem_cons, not_or] at hb
  rw [h2.1 b (by simp [hb])]
  exact h1.1 b (by simp [hb])
theorem LF_u {M0 A : mm_M} {a k : Nat} {v : Int32} (h : LF M0 A) (ha : (a = 0 ∧ 9 ≤ k ∧ k ≤ 16) ∨ (8 ≤ a ∧ a ≤ 13)) : LF M0 (mm_U A a k v) := by
  refine ⟨fr_U h.1 ?_, fun j hj => ?_⟩
  · rcases ha with ⟨rfl, -, -⟩ | ⟨h1, h2⟩
    · decide
    · have : a = 8 ∨ a = 9 ∨ a = 10 ∨ a = 11 ∨ a = 12 ∨ a = 13 := by omega
      rcases this with rfl | rfl | rfl | rfl | rfl | rfl <;> decide
  · rw [e_U, if_neg (fun z => by omega)]
    exact h.2 j hj
def QL (M0 : mm_M) (G : mm_M → Prop) : Bool × mm_M → Prop := fun r => (r.1 = true → G r.2) ∧ LF M0 r.2
theorem QL_f {M0 M : mm_M} {G : mm_M → Prop} (a b : Int32) (H : LF M0 M) : ok (mm_let (X12_wrongAt a b M) fun y => some (y.1, y.2)) (QL M0 G) := ⟨_, rfl, (fun z => by cases z), LF_u H (by omega)⟩
theorem QL_t {M0 M : mm_M} {G : mm_M → Prop} (hG : G M) (H : LF M0 M) : QL M0 G (true, M) := ⟨fun _ => hG, H⟩
theorem rj_m {M0 B : mm_M} {n p m c c' : Nat} (ht : tI B n p) (h14 : B 0 14 = nI c') (h16 : B 0 16 = nI m) (hm : m < 16) (hc : c' ≤ p) (h11 : B 11 m = nI c) (hcc : c ≤ c') (hs : seg (B 8) c c') (hR : RS B m c) (hF : LF M0 B) : ok (X12_readsRule_j110 B) (QL M0 (fun N => ∃ p' c'', LL M0 N n p' (m + 1) c'' ∧ p < p')) := by
  have hn := ht.2.2
  unfold X12_readsRule_j110
  rw [h16, h14]
  have hin : mm_in (nI m) 16 = true := e_inb (by rw [e_nIt (by omega)]; omega) (by rw [e_nIt (by omega)]; omega)
  refine ok_i (fun _ => ?_) (fun z => absurd hin z)
  rw [e_nIc (by omega)]
  have hF2 : LF M0 (mm_U B 12 m (nI c')) := LF_u hF (by omega)
  have ht2 : tI (mm_U B 12 m (nI c')) n p := tI_u ht (by omega)
  have e0 : (mm_U B 12 m (nI c')) 0 = B 0 := mm_U_ne 0 (by decide)
  have e8 : (mm_U B 12 m (nI c')) 8 = B 8 := mm_U_ne 8 (by decide)
  have e11 : (mm_U B 12 m (nI c')) 11 = B 11 := mm_U_ne 11 (by decide)
  have e12 : ∀ j, (mm_U B 12 m (nI c')) 12 j = if j = m then nI c' else B 12 j := fun j => by rw [e_U]; simp
  have e13 : (mm_U B 12 m (nI c')) 13 = B 13 := mm_U_ne 13 (by decide)
  generalize mm_U B 12 m (nI c') = D at hF2 ht2 e0 e8 e11 e12 e13
  refine ok_b _ (rd_m ht2 (by rw [e0]; exact h14) hc) (fun r hr => ok_i (fun cr => ?_) (fun _ => ok_s ⟨(fun z => by cases z), LF_t hF2 hr.2⟩))
  obtain ⟨p2, c2, u2, h2, a1, a2, a3⟩ := hr.1 cr
  have hFr := LF_t hF2 hr.2
  have hc2 : c2 ≤ u2 := by have := a1.2.1.2.2.2.1; omega
  have hp2 := (PI_w a1).2.2
  have hcc2 := a1.2.1.2.2.2.2.2
  have er16 : r.2 0 16 = nI m := by rw [hr.2.2 16 (by omega), e0]; exact h16
  have er14 : r.2 0 14 = nI c2 := a1.2.1.1
  rw [er16, er14]
  refine ok_i (fun _ => ok_s ?_) (fun z => absurd hin z)
  rw [e_nIc (by omega), nI_1]
  have hseg2 : seg (r.2 8) c' c2 := cd_seg a1.2.2.2 a1.2.2.1
  have er8 : ∀ k, k < c' → r.2 8 k = B 8 k := fun k hk => by rw [a1.1.2.2.2 k hk, e8]
  have er11 : r.2 11 = B 11 := by rw [hr.2.1 11 (by decide), e11]
  have er12 : ∀ j, r.2 12 j = if j = m then nI c' else B 12 j := fun j => by rw [hr.2.1 12 (by decide)]; exact e12 j
  have er13 : r.2 13 = B 13 := by rw [hr.2.1 13 (by decide), e13]
  have hX : LF M0 (mm_U (mm_U r.2 13 m (nI c2)) 0 16 (nI (m + 1))) := LF_u (LF_u hFr (by omega)) (by omega)
  have x0 : ∀ j, (mm_U (mm_U r.2 13 m (nI c2)) 0 16 (nI (m + 1))) 0 j = if j = 16 then nI (m + 1) else r.2 0 j := fun j => by
    simp only [e_U, true_and]
    simp
  have x13 : ∀ j, (mm_U (mm_U r.2 13 m (nI c2)) 0 16 (nI (m + 1))) 13 j = if j = m then nI c2 else B 13 j := fun j => by
    rw [mm_U_ne 13 (by decide), e_U, er13]
    simp
  have x8 : (mm_U (mm_U r.2 13 m (nI c2)) 0 16 (nI (m + 1))) 8 = r.2 8 := by rw [mm_U_ne 8 (by decide), mm_U_ne 8 (by decide)]
  have x11 : (mm_U (mm_U r.2 13 m (nI c2)) 0 16 (nI (m + 1))) 11 = B 11 := by rw [mm_U_ne 11 (by decide), mm_U_ne 11 (by decide)]; exact er11
  have x12 : ∀ j, (mm_U (mm_U r.2 13 m (nI c2)) 0 16 (nI (m + 1))) 12 j = if j = m then nI c' else B 12 j := fun j => by rw [mm_U_ne 12 (by decide), mm_U_ne 12 (by decide)]; exact er12 j
  generalize mm_U (mm_U r.2 13 m (nI c2)) 0 16 (nI (m + 1)) = X at hX x0 x13 x8 x11 x12
  refine QL_t (G := fun N => ∃ p' c'', LL M0 N n p' (m + 1) c'' ∧ p < p') ⟨p2, c2, ⟨⟨?_, ?_, a1.1.1.2.2⟩, hX, ?_, ⟨?_, by omega⟩, by omega, fun j hj => ?_⟩, a3⟩ hX
  · rw [x0, if_neg (by decide)]; exact a1.1.1.1
  · rw [x0, if_neg (by decide)]; exact a1.1.1.2.1
  · rw [x0, if_neg (by decide)]; exact er14
  · rw [x0, if_pos rfl]
  · by_cases cj : j = m
    · refine ⟨c, c', c2, by rw [cj, x11]; exact h11, by rw [x12, if_pos cj], by rw [x13, if_pos cj], hcc, hcc2, Nat.le_refl _, ?_, ?_⟩
      · rw [x8]; exact seg_cong hs (fun k hk => er8 k hk)
      · rw [x8]; exact hseg2
    · obtain ⟨a, b, t, q1, q2, q3, q4, q5, q6, q7, q8⟩ := hR j (by omega)
      refine ⟨a, b, t, by rw [x11]; exact q1, by rw [x12, if_neg cj]; exact q2, by rw [x13, if_neg cj]; exact q3, q4, q5, by omega, ?_, ?_⟩
      · rw [x8]; exact seg_cong q7 (fun k hk => er8 k (by omega))
      · rw [x8]; exact seg_cong q8 (fun k hk => er8 k (by omega))
theorem rr_m {M0 M : mm_M} {n p m c : Nat} (H : LL M0 M n p m c) : ok (X12_readsRule M) (QL M0 (fun N => ∃ p' m' c', LL M0 N n p' m' c' ∧ p < p')) := by
  obtain ⟨ht, hF, h14, ⟨h16, hm⟩, hc, hR⟩ := H
  have hn := ht.2.2
  obtain ⟨e2, -⟩ := he_m ht
  have j33 : ∀ x : Int32, p < n → ok (X12_readsRule_j33 x M) (QL M0 (fun N => ∃ p' m' c', LL M0 N n p' m' c' ∧ p < p')) := by
    intro x hlt
    unfold X12_readsRule_j33
    refine ok_i (fun _ => QL_f _ _ hF) (fun c16 => ?_)
    have hm16 : m < 16 := by
      rcases Nat.lt_or_ge m 16 with z | z
      · exact z
      · exfalso
        apply c16
        have : m = 16 := by omega
        rw [h16, this]
        rfl
    rw [h16, h14, ht.1]
    have hin : mm_in (nI m) 16 = true := e_inb (by rw [e_nIt (by omega)]; omega) (by rw [e_nIt (by omega)]; omega)
    refine ok_i (fun _ => ok_i (fun _ => ?_) (fun z => absurd hin z)) (fun z => absurd hin z)
    rw [e_nIc (by omega), nI_1]
    have hA : LF M0 (mm_U (mm_U (mm_U (mm_U (mm_U M 10 m x) 0 9 (nI (p + 1))) 11 m (nI c)) 0 13 0) 0 15 0) := LF_u (LF_u (LF_u (LF_u (LF_u hF (by omega)) (by omega)) (by omega)) (by omega)) (by omega)
    have x0 : ∀ j, (mm_U (mm_U (mm_U (mm_U (mm_U M 10 m x) 0 9 (nI (p + 1))) 11 m (nI c)) 0 13 0) 0 15 0) 0 j = if j = 15 then 0 else if j = 13 then 0 else if j = 9 then nI (p + 1) else M 0 j := fun j => by
      simp only [e_U, true_and]
      simp
    have x8 : (mm_U (mm_U (mm_U (mm_U (mm_U M 10 m x) 0 9 (nI (p + 1))) 11 m (nI c)) 0 13 0) 0 15 0) 8 = M 8 := by
      rw [mm_U_ne 8 (by decide), mm_U_ne 8 (by decide), mm_U_ne 8 (by decide), mm_U_ne 8 (by decide), mm_U_ne 8 (by decide)]
    have x11 : ∀ j, (mm_U (mm_U (mm_U (mm_U (mm_U M 10 m x) 0 9 (nI (p + 1))) 11 m (nI c)) 0 13 0) 0 15 0) 11 j = if j = m then nI c else M 11 j := fun j => by
      rw [mm_U_ne 11 (by decide), mm_U_ne 11 (by decide), e_U, mm_U_ne 11 (by decide), mm_U_ne 11 (by decide)]
      simp
    have x12 : (mm_U (mm_U (mm_U (mm_U (mm_U M 10 m x) 0 9 (nI (p + 1))) 11 m (nI c)) 0 13 0) 0 15 0) 12 = M 12 := by
      rw [mm_U_ne 12 (by decide), mm_U_ne 12 (by decide), mm_U_ne 12 (by decide), mm_U_ne 12 (by decide), mm_U_ne 12 (by decide)]
    have x13 : (mm_U (mm_U (mm_U (mm_U (mm_U M 10 m x) 0 9 (nI (p + 1))) 11 m (nI c)) 0 13 0) 0 15 0) 13 = M 13 := by
      rw [mm_U_ne 13 (by decide), mm_U_ne 13 (by decide), mm_U_ne 13 (by decide), mm_U_ne 13 (by decide), mm_U_ne 13 (by decide)]
    generalize mm_U (mm_U (mm_U (mm_U (mm_U M 10 m x) 0 9 (nI (p + 1))) 11 m (nI c)) 0 13 0) 0 15 0 = A at hA x0 x8 x11 x12 x13
    have htA : tI A n (p + 1) := ⟨by rw [x0]; rfl, by rw [x0]; exact ht.2.1, by omega, hn.2⟩
    have hRA : RS A m c := by
      intro j hj
      obtain ⟨a, b, t, q1, q2, q3, q4, q5, q6, q7, q8⟩ := hR j hj
      exact ⟨a, b, t, by rw [x11, if_neg (by omega)]; exact q1, by rw [x12]; exact q2, by rw [x13]; exact q3, q4, q5, q6, by rw [x8]; exact q7, by rw [x8]; exact q8⟩
    have fin : ∀ (B : mm_M) (p1 c1 : Nat), p < p1 → tI B n p1 → B 0 14 = nI c1 → B 0 16 = nI m → c1 ≤ p1 → B 11 m = nI c → c ≤ c1 → seg (B 8) c c1 → RS B m c → LF M0 B → ok (X12_readsRule_j110 B) (QL M0 (fun N => ∃ p' m' c', LL M0 N n p' m' c' ∧ p < p')) := by
      intro B p1 c1 q0 q1 q2 q3 q4 q5 q6 q7 q8 q9
      refine ok_w (rj_m q1 q2 q3 hm16 q4 q5 q6 q7 q8 q9) (fun r hr => ⟨fun z => ?_, hr.2⟩)
      obtain ⟨p2, c2, k1, k2⟩ := hr.1 z
      exact ⟨p2, m + 1, c2, k1, by omega⟩
    refine ok_i (fun _ => fin A (p + 1) c (by omega) htA (by rw [x0]; exact h14) (by rw [x0]; exact h16) (by omega) (by rw [x11, if_pos rfl]) (Nat.le_refl _) ⟨fun _ => 0, rfl, fun k k1 k2 => by omega⟩ hRA hA) (fun _ => ?_)
    have hP : PI A A n c (p + 1) c 0 (p + 1) (fun _ => 0) := by
      refine ⟨⟨htA, fr_rfl, fun _ _ => rfl, fun _ _ => rfl⟩, ⟨by rw [x0]; exact h14, by rw [x0]; exact nI_0.symm, by omega, ?_, by omega, Nat.le_refl _⟩, rfl, cd_nil⟩
      show c + 0 ≤ p + 1
      omega
    refine ok_b _ (su_m (t := 0) hP rfl (fun j hj => by omega) (by omega)) (fun r hr => ok_i (fun cr => ?_) (fun _ => ok_s ⟨(fun z => by cases z), LF_t hA hr.2⟩))
    obtain ⟨p1, c1, u1, h1, a1, a2, a3, a4, a5⟩ := hr.1 cr
    have hcu := a1.2.1.2.2.2.1
    have hcc := a1.2.1.2.2.2.2.2
    have e8 : ∀ k, k < c → r.2 8 k = A 8 k := a1.1.2.2.2
    refine fin r.2 p1 c1 (by omega) a1.1.1 a1.2.1.1 ?_ (by omega) ?_ hcc (cd_seg a1.2.2.2 a1.2.2.1) ?_ (LF_t hA hr.2)
    · rw [hr.2.2 16 (by omega), x0]; exact h16
    · rw [hr.2.1 11 (by decide), x11, if_pos rfl]
    · intro j hj
      obtain ⟨a, b, t, q1, q2, q3, q4, q5, q6, q7, q8⟩ := hRA j hj
      refine ⟨a, b, t, by rw [hr.2.1 11 (by decide)]; exact q1, by rw [hr.2.1 12 (by decide)]; exact q2, by rw [hr.2.1 13 (by decide)]; exact q3, q4, q5, q6, seg_cong q7 (fun k hk => e8 k (by omega)), seg_cong q8 (fun k hk => e8 k (by omega))⟩
  unfold X12_readsRule
  simp only [e2, Option.bind_some]
  exact ok_i (fun z => j33 _ (he_lt ht (by rw [z]; decide))) (fun _ => ok_i (fun z => j33 _ (he_lt ht (by rw [z]; decide))) (fun _ => ok_i (fun z => j33 _ (he_lt ht (by rw [z]; decide))) (fun _ => QL_f _ _ hF)))
/-- the law in force -/
def LC (M : mm_M) : Prop := ∃ m : Nat, m ≤ 16 ∧ M 0 17 = nI m ∧ ∀ j, j < m → ∃ a b t : Nat, M 16 j = nI a ∧ M 17 j = nI b ∧ M 18 j = nI t ∧ a ≤ b ∧ b ≤ t ∧ t ≤ 245 ∧ seg (M 14) a b ∧ seg (M 14) b t
theorem lw_m {M : mm_M} {n : Nat} (hn : n ≤ 240) (hL : LC M) : ok ((X12_readsRule (X12_beginsText (nI n) M)).bind fun y6 => (mm_loop (X12_law_l31) mm_fuel (y6.1, y6.2)).bind fun y15 => X12_law_j71 y15.1 y15.2) (fun r => fr [0, 8, 9, 10, 11, 12, 13, 14, 15, 16, 17, 18] M r.2 ∧ (∀ k, (k < 8 ∨ 17 < k) → r.2 0 k = M 0 k) ∧ r.2 0 8 = 0 ∧ LC r.2) := by
  have hb : LL M (X12_beginsText (nI n) M) n 0 0 0 := by
    refine ⟨bt_m rfl hn, ?_, ?_, ⟨?_, by omega⟩, Nat.le_refl _, fun j hj => by omega⟩
    · unfold X12_beginsText
      exact LF_u (LF_u (LF_u (LF_u ⟨fr_rfl, fun _ _ => rfl⟩ (by omega)) (by omega)) (by omega)) (by omega)
    · exact nI_0.symm
    · exact nI_0.symm
  refine ok_b _ (rr_m hb) (fun r hr => ?_)
  refine ok_b (QL M (fun N => ∃ p' m' c', LL M N n p' m' c')) ?_ (fun r2 hr2 => ?_)
  · refine ok_lp (fun s : Bool × mm_M => QL M (fun N => ∃ p' m' c', LL M N n p' m' c') s) (fun s => if s.1 = true then 1 + (241 - Int32.toNatClampNeg (s.2 0 9)) else 0) _ ⟨fun z => by obtain ⟨p, m, c, q, -⟩ := hr.1 z; exact ⟨p, m, c, q⟩, hr.2⟩ (by split <;> omega) ?_
    rintro ⟨b, N⟩ hN
    unfold X12_law_l31
    refine ok_i (fun cb => ok_i (fun _ => ok_s hN) (fun _ => ?_)) (fun _ => ok_s hN)
    obtain ⟨p1, m1, c1, a1⟩ := hN.1 cb
    dsimp only at a1 cb ⊢
    have hp1 := a1.1.2.2
    have less : ∀ (b' : Bool) (N' : mm_M), (b' = true → ∃ p2 : Nat, N' 0 9 = nI p2 ∧ p1 < p2 ∧ p2 ≤ 240) → (b' = false → ∃ p2 : Nat, N' 0 9 = nI p2 ∧ p1 ≤ p2 ∧ p2 ≤ 240) ∨ b' = true → True := fun _ _ _ _ => trivial
    refine ok_b (fun y : Bool × mm_M => (y.1 = true → y.2 = mm_U N 0 9 (N 0 9 + 1) ∧ p1 < n) ∧ (y.1 = false → ∃ v, y.2 = mm_U N 0 11 v)) (ta_m a1.1 (by decide) (fun c => ⟨fun _ => ⟨rfl, c⟩, fun z => by cases z⟩) (fun v => ⟨(fun z => by cases z), fun _ => ⟨v, rfl⟩⟩)) (fun y hy => ?_)
    refine ok_i (fun cy => ?_) (fun cy => ok_s ?_)
    · obtain ⟨e, hlt⟩ := hy.1 cy
      have hB : LL M (mm_U N 0 9 (N 0 9 + 1)) n (p1 + 1) m1 c1 := by
        obtain ⟨ht, hF, h14, ⟨h16, hm⟩, hc, hR⟩ := a1
        have x0 : ∀ j, j ≠ 9 → (mm_U N 0 9 (N 0 9 + 1)) 0 j = N 0 j := fun j hj => by rw [e_U, if_neg (fun z => hj z.2)]
        exact ⟨tI_n ht hlt, LF_u hF (by omega), by rw [x0 14 (by omega)]; exact h14, ⟨by rw [x0 16 (by omega)]; exact h16, hm⟩, by omega, hR⟩
      rw [e]
      refine ok_b _ (rr_m hB) (fun x hx => ok_i (fun cx => ok_s ?_) (fun cx => ok_s ?_))
      · obtain ⟨p2, m2, c2, k1, k2⟩ := hx.1 cx
        have hp2 := k1.1.2.2
        refine ⟨⟨fun _ => ⟨p2, m2, c2, k1⟩, hx.2⟩, ?_⟩
        dsimp only
        rw [if_pos rfl, if_pos cb, k1.1.1, a1.1.1, e_nIc (by omega), e_nIc (by omega)]
        omega
      · refine ⟨⟨(fun z => by cases z), hx.2⟩, ?_⟩
        dsimp only
        rw [if_neg (by decide), if_pos cb]
        omega
    · obtain ⟨v, e⟩ := hy.2 (by simpa using cy)
      rw [e]
      refine ⟨⟨(fun z => by cases z), LF_u a1.2.1 (by omega)⟩, ?_⟩
      dsimp only
      rw [if_neg (by decide), if_pos cb]
      omega
  · obtain ⟨g1, g2⟩ := hr2
    unfold X12_law_j71
    refine ok_i (fun cb => ?_) (fun _ => ok_s ?_)
    · obtain ⟨p1, m1, c1, ht, hF, h14, ⟨h16, hm⟩, hc, hR⟩ := g1 cb
      have hp1 := ht.2.2
      generalize r2.2 = N at g2 ht hF h14 h16 hR
      rw [h16]
      have x0 : ∀ j, (mm_U (mm_U N 0 8 0) 0 17 (nI m1)) 0 j = if j = 17 then nI m1 else if j = 8 then 0 else N 0 j := fun j => by
        simp only [e_U, true_and]
      refine ok_b (fun B : mm_M => fr [14] (mm_U (mm_U N 0 8 0) 0 17 (nI m1)) B ∧ ∀ k, k < c1 → B 14 k = N 8 k) ?_ (fun B hB => ?_)
      · refine ok_lp (fun s : Int32 × mm_M => ∃ i, s.1 = nI i ∧ i ≤ c1 ∧ fr [14] (mm_U (mm_U N 0 8 0) 0 17 (nI m1)) s.2 ∧ ∀ k, k < i → s.2 14 k = N 8 k) (fun s => 250 - Int32.toNatClampNeg s.1) _ ⟨0, nI_0.symm, by omega, fr_rfl, fun k hk => by omega⟩ (by omega) ?_
        rintro ⟨x, B⟩ ⟨i, hx, hi, b1, b2⟩
        dsimp only at hx b1 b2
        subst hx
        have y0 : B 0 14 = nI c1 := by rw [b1 0 (by decide), x0]; exact h14
        have y8 : B 8 = N 8 := by rw [b1 8 (by decide), mm_U_ne 8 (by decide), mm_U_ne 8 (by decide)]
        unfold X12_law_l95
        dsimp only
        simp only [y0]
        refine ok_i (fun c => ok_s ⟨b1, fun k hk => b2 k ?_⟩) (fun c => ?_)
        · rw [e_le, e_nIt (by omega), e_nIt (by omega)] at c
          omega
        · rw [e_le, e_nIt (by omega), e_nIt (by omega)] at c
          have hin : mm_in (nI i) 260 = true := e_inb (by rw [e_nIt (by omega)]; omega) (by rw [e_nIt (by omega)]; omega)
          refine ok_i (fun _ => ok_i (fun _ => ok_s ?_) (fun z => absurd hin z)) (fun z => absurd hin z)
          rw [e_nIc (by omega)]
          refine ⟨⟨i + 1, nI_1 i, by omega, fr_U b1 (by decide), fun k hk => ?_⟩, ?_⟩
          · dsimp only
            rw [e_U, y8]
            by_cases ck : k = i
            · rw [if_pos ⟨rfl, ck⟩, ck]
            · rw [if_neg (fun z => ck z.2)]; exact b2 k (by omega)
          · dsimp only
            rw [nI_1, e_nIc (by omega)]
            omega
      · obtain ⟨b1, b2⟩ := hB
        have z0 : ∀ j, B 0 j = if j = 17 then nI m1 else if j = 8 then 0 else N 0 j := fun j => by rw [b1 0 (by decide)]; exact x0 j
        have zz : ∀ a, a ∉ [0, 14] → B a = N a := fun a ha => by
          simp only [List.mem_cons, not_or] at ha
          rw [b1 a (by simp [ha]), mm_U_ne a ha.1, mm_U_ne a ha.1]
        refine ok_lp (fun s : Int32 × mm_M => ∃ i, s.1 = nI i ∧ i ≤ m1 ∧ fr [15, 16, 17, 18] B s.2 ∧ ∀ k, k < i → s.2 16 k = N 11 k ∧ s.2 17 k = N 12 k ∧ s.2 18 k = N 13 k) (fun s => 250 - Int32.toNatClampNeg s.1) _ ⟨0, nI_0.symm, by omega, fr_rfl, fun k hk => by omega⟩ (by omega) ?_
        rintro ⟨x, D⟩ ⟨i, hx, hi, d1, d2⟩
        dsimp only at hx d1 d2
        subst hx
        have y16 : D 0 16 = nI m1 := by rw [d1 0 (by decide), z0]; exact h16
        have y11 : D 11 = N 11 := by rw [d1 11 (by decide)]; exact zz 11 (by decide)
        have y12 : D 12 = N 12 := by rw [d1 12 (by decide)]; exact zz 12 (by decide)
        have y13 : D 13 = N 13 := by rw [d1 13 (by decide)]; exact zz 13 (by decide)
        unfold X12_law_l123
        dsimp only
        simp only [y16]
        refine ok_i (fun c => ok_s ?_) (fun c => ?_)
        · rw [e_le, e_nIt (by omega), e_nIt (by omega)] at c
          have him : i = m1 := by omega
          subst him
          refine ⟨fun a ha => ?_, fun k hk => ?_, ?_, i, hm, ?_, fun j hj => ?_⟩
          · dsimp only
            simp only [List.mem_cons, not_or] at ha
            rw [d1 a (by simp [ha]), zz a (by simp [ha])]
            exact hF.1 a (by simp [ha])
          · dsimp only
            rw [d1 0 (by decide), z0, if_neg (by omega), if_neg (by omega)]
            exact hF.2 k (by omega)
          · dsimp only
            rw [d1 0 (by decide), z0]
            rfl
          · dsimp only
            rw [d1 0 (by decide), z0]
            rfl
          · obtain ⟨a, b, t, q1, q2, q3, q4, q5, q6, q7, q8⟩ := hR j hj
            obtain ⟨k1, k2, k3⟩ := d2 j hj
            have e14 : ∀ k, k < c1 → D 14 k = N 8 k := fun k hk => by rw [d1 14 (by decide)]; exact b2 k hk
            dsimp only
            exact ⟨a, b, t, by rw [k1]; exact q1, by rw [k2]; exact q2, by rw [k3]; exact q3, q4, q5, by omega, seg_cong q7 (fun k hk => e14 k (by omega)), seg_cong q8 (fun k hk => e14 k (by omega))⟩
        · rw [e_le, e_nIt (by omega), e_nIt (by omega)] at c
          have hin : mm_in (nI i) 16 = true := e_inb (by rw [e_nIt (by omega)]; omega) (by rw [e_nIt (by omega)]; omega)
          refine ok_i (fun _ => ok_i (fun _ => ok_i (fun _ => ok_i (fun _ => ok_i (fun _ => ok_i (fun _ => ok_i (fun _ => ok_i (fun _ => ok_s ?_) (fun z => absurd hin z)) (fun z => absurd hin z)) (fun z => absurd hin z)) (fun z => absurd hin z)) (fun z => absurd hin z)) (fun z => absurd hin z)) (fun z => absurd hin z)) (fun z => absurd hin z)
          rw [e_nIc (by omega), y11, y12, y13]
          refine ⟨⟨i + 1, nI_1 i, by omega, fr_U (fr_U (fr_U (fr_U d1 (by decide)) (by decide)) (by decide)) (by decide), fun k hk => ?_⟩, ?_⟩
          · dsimp only
            have r16 : mm_U (mm_U (mm_U (mm_U D 15 i (D 10 i)) 16 i (N 11 i)) 17 i (N 12 i)) 18 i (N 13 i) 16 k = if k = i then N 11 i else D 16 k := by
              rw [mm_U_ne 16 (by decide), mm_U_ne 16 (by decide), e_U, mm_U_ne 16 (by decide)]; simp
            have r17 : mm_U (mm_U (mm_U (mm_U D 15 i (D 10 i)) 16 i (N 11 i)) 17 i (N 12 i)) 18 i (N 13 i) 17 k = if k = i then N 12 i else D 17 k := by
              rw [mm_U_ne 17 (by decide), e_U, mm_U_ne 17 (by decide), mm_U_ne 17 (by decide)]; simp
            have r18 : mm_U (mm_U (mm_U (mm_U D 15 i (D 10 i)) 16 i (N 11 i)) 17 i (N 12 i)) 18 i (N 13 i) 18 k = if k = i then N 13 i else D 18 k := by
              rw [e_U, mm_U_ne 18 (by decide), mm_U_ne 18 (by decide), mm_U_ne 18 (by decide)]; simp
            rw [r16, r17, r18]
            by_cases ck : k = i
            · rw [if_pos ck, if_pos ck, if_pos ck, ck]
              exact ⟨rfl, rfl, rfl⟩
            · rw [if_neg ck, if_neg ck, if_neg ck]
              exact d2 k (by omega)
          · dsimp only
            rw [nI_1, e_nIc (by omega)]
            omega
    · have e : ∀ j, j ≠ 8 → (mm_U r2.2 0 8 0) 0 j = r2.2 0 j := fun j hj => by rw [e_U, if_neg (fun z => hj z.2)]
      refine ⟨fun a ha => ?_, fun k hk => ?_, (by dsimp only; exact mm_U_same), ?_⟩
      · dsimp only
        simp only [List.mem_cons, not_or] at ha
        rw [mm_U_ne a ha.1]
        exact g2.1 a (by simp [ha])
      · dsimp only
        rw [e k (by omega)]
        exact g2.2 k (by omega)
      · obtain ⟨m, q1, q2, q3⟩ := hL
        dsimp only
        refine ⟨m, q1, ?_, fun j hj => ?_⟩
        · rw [e 17 (by omega), g2.2 17 (by omega)]; exact q2
        · rw [mm_U_ne 16 (by decide), mm_U_ne 17 (by decide), mm_U_ne 18 (by decide), mm_U_ne 14 (by decide), g2.1 16 (by decide), g2.1 17 (by decide), g2.1 18 (by decide), g2.1 14 (by decide)]
          exact q3 j hj
