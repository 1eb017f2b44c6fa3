/-! THE REFERENCE RECKONS -/
theorem rk_m {op : Nat} {a b : Int32} (h1 : 2 ≤ op) (h2 : op ≤ 9) (hb : (op = 5 ∨ op = 6) → ¬ b = 0) : ∃ r, X12_reckon (nI op) a b = some r := by
  unfold X12_reckon
  have : op = 2 ∨ op = 3 ∨ op = 4 ∨ op = 5 ∨ op = 6 ∨ op = 7 ∨ op = 8 ∨ op = 9 := by omega
  rcases this with rfl | rfl | rfl | rfl | rfl | rfl | rfl | rfl
  · exact ⟨_, rfl⟩
  · exact ⟨_, rfl⟩
  · exact ⟨_, rfl⟩
  · refine ⟨a / b, ?_⟩
    rw [if_neg (by decide), if_neg (by decide), if_neg (by decide), if_pos (by decide), if_pos (hb (Or.inl rfl))]
  · refine ⟨a - a / b * b, ?_⟩
    rw [if_neg (by decide), if_neg (by decide), if_neg (by decide), if_neg (by decide), if_pos (by decide), if_pos (hb (Or.inr rfl))]
  · rw [if_neg (by decide), if_neg (by decide), if_neg (by decide), if_neg (by decide), if_neg (by decide), if_pos (by decide)]
    split
    · exact ⟨_, rfl⟩
    · exact ⟨_, rfl⟩
  · rw [if_neg (by decide), if_neg (by decide), if_neg (by decide), if_neg (by decide), if_neg (by decide), if_neg (by decide), if_pos (by decide)]
    split
    · exact ⟨_, rfl⟩
    · exact ⟨_, rfl⟩
  · rw [if_neg (by decide), if_neg (by decide), if_neg (by decide), if_neg (by decide), if_neg (by decide), if_neg (by decide), if_neg (by decide)]
    split
    · exact ⟨_, rfl⟩
    · exact ⟨_, rfl⟩
theorem rt_m {M : mm_M} {a t : Nat} (hs : seg (M 14) a t) (hat : a ≤ t) (ht : t ≤ 245) : ok (X12_reckonsTo (nI a) (nI t) M) (fun r => fr [19] M r.2) := by
  obtain ⟨h, h0, hins⟩ := hs
  have eb : (260 : Int32) * (nI a / 260) = nI 0 := by
    have e1 : nI a / 260 = nI 0 := by
      have k260 : (260 : Int32).toInt = 260 := rfl
      rw [e_eq, e_div (by rw [e_nIt (by omega)]; omega) (by rw [k260]; omega), e_nIt (by omega), e_nIt (by omega), k260]
      omega
    rw [e1]
    rfl
  unfold X12_reckonsTo
  rw [eb]
  refine ok_lp (fun s : Int32 × Int32 × mm_M => ∃ k, s.2.1 = nI k ∧ s.1 = nI (h k) ∧ a ≤ k ∧ k ≤ t ∧ h k ≤ k - a ∧ fr [19] M s.2.2) (fun s => 250 - Int32.toNatClampNeg s.2.1) _ ⟨a, rfl, by rw [h0]; exact nI_0.symm, Nat.le_refl _, hat, by omega, fr_rfl⟩ (by omega) ?_
  rintro ⟨sn, sk, N⟩ ⟨k, hk, hn, k1, k2, k3, k4⟩
  dsimp only at hk hn k4
  subst hk hn
  have fin : ∀ (k' : Nat) (N' : mm_M), k < k' → k' ≤ t → h k' ≤ k' - a → fr [19] M N' → sm (fun s' : Int32 × Int32 × mm_M => (∃ k, s'.2.1 = nI k ∧ s'.1 = nI (h k) ∧ a ≤ k ∧ k ≤ t ∧ h k ≤ k - a ∧ fr [19] M s'.2.2) ∧ 250 - Int32.toNatClampNeg s'.2.1 < 250 - Int32.toNatClampNeg (nI k)) (fun r : Int32 × mm_M => fr [19] M r.2) (.inl (nI (h k'), nI k', N')) := fun k' N' q1 q2 q3 q4 => ⟨⟨k', rfl, rfl, by omega, q2, q3, q4⟩, by dsimp only; rw [e_nIc (by omega), e_nIc (by omega)]; omega⟩
  unfold X12_reckonsTo_l16
  dsimp only
  refine ok_i (fun _ => ok_s k4) (fun c => ?_)
  rw [e_le, e_nIt (by omega), e_nIt (by omega)] at c
  obtain ⟨op, v, c1, c2, c3, c4⟩ := hins k k1 (by omega)
  have eC : N 14 (Int32.toNatClampNeg (nI k)) = nI (1048576 * op + v) := by rw [e_nIc (by omega), k4 14 (by decide)]; exact c1
  have hin : mm_in (nI k) 260 = true := e_inb (by rw [e_nIt (by omega)]; omega) (by rw [e_nIt (by omega)]; omega)
  simp only [eC, nI_div (show op ≤ 14 by omega) c2, nI_mod (show op ≤ 14 by omega) c2]
  refine ok_i (fun _ => ok_i (fun _ => ?_) (fun z => absurd hin z)) (fun z => absurd hin z)
  rw [nI_1]
  have hinh : h k < 250 → mm_in (nI (h k)) 260 = true := fun q => e_inb (by rw [e_nIt (by omega)]; omega) (by rw [e_nIt (by omega)]; omega)
  have sub1 : 1 ≤ h k → nI (h k) - 1 = nI (h k - 1) := by
    intro q
    have q1 : (1 : Int32).toInt = 1 := rfl
    rw [e_eq, e_sub (by rw [e_nIt (by omega), q1]; omega) (by rw [e_nIt (by omega), q1]; omega), e_nIt (by omega), e_nIt (by omega), q1]
    omega
  have j203 : 2 ≤ op → op ≤ 9 → 2 ≤ h k → h (k + 1) + 1 = h k → ((op = 5 ∨ op = 6) → ¬ N 19 (h k - 1) = 0) → ok (X12_reckonsTo_j203l16 (nI t) (nI (h k - 1)) (nI 0) (nI (k + 1)) (nI op) N) (sm (fun s' : Int32 × Int32 × mm_M => (∃ k, s'.2.1 = nI k ∧ s'.1 = nI (h k) ∧ a ≤ k ∧ k ≤ t ∧ h k ≤ k - a ∧ fr [19] M s'.2.2) ∧ 250 - Int32.toNatClampNeg s'.2.1 < 250 - Int32.toNatClampNeg (nI k)) (fun r : Int32 × mm_M => fr [19] M r.2)) := by
    intro o1 o2 o3 o4 o5
    have s2 : nI (h k - 1) - 1 = nI (h k - 2) := by
      have q1 : (1 : Int32).toInt = 1 := rfl
      rw [e_eq, e_sub (by rw [e_nIt (by omega), q1]; omega) (by rw [e_nIt (by omega), q1]; omega), e_nIt (by omega), e_nIt (by omega), q1]
      omega
    have i1 : mm_in (nI (h k - 1)) 260 = true := e_inb (by rw [e_nIt (by omega)]; omega) (by rw [e_nIt (by omega)]; omega)
    have i2 : mm_in (nI (h k - 2)) 260 = true := e_inb (by rw [e_nIt (by omega)]; omega) (by rw [e_nIt (by omega)]; omega)
    unfold X12_reckonsTo_j203l16
    rw [s2, e_nIc (show h k - 2 < 2147483648 by omega), e_nIc (show h k - 1 < 2147483648 by omega)]
    obtain ⟨r, er⟩ := rk_m (op := op) (a := N 19 (h k - 2)) (b := N 19 (h k - 1)) o1 o2 o5
    refine ok_i (fun _ => ok_i (fun _ => ?_) (fun z => absurd i1 z)) (fun z => absurd i2 z)
    rw [er]
    simp only [Option.bind_some]
    refine ok_i (fun _ => ok_s ?_) (fun z => absurd i2 z)
    have e1 : h k - 1 = h (k + 1) := by omega
    rw [e1]
    exact fin (k + 1) _ (by omega) (by omega) (by omega) (fr_U k4 (by decide))
  rcases c4 with ⟨o, q⟩ | ⟨o, q0, q⟩ | ⟨o1, o2, q1, q2⟩ | ⟨o, q1, q2⟩ | ⟨o, q1, q2, q3, q4, q5⟩
  · subst o
    rw [if_pos (by decide)]
    unfold X12_reckonsTo_j63l16
    rw [if_pos (by decide), if_pos (hinh (by omega)), nI_1, ← q]
    exact ok_s (fin (k + 1) _ (by omega) (by omega) (by omega) (fr_U k4 (by decide)))
  · subst o
    rw [if_neg (by decide), if_pos (by decide)]
    unfold X12_reckonsTo_j63l16
    have i9 : mm_in (nI v) 9 = true := e_inb (by rw [e_nIt (by omega)]; omega) (by rw [e_nIt (by omega)]; omega)
    rw [if_neg (by decide), if_pos i9, if_pos (hinh (by omega)), nI_1, ← q]
    exact ok_s (fin (k + 1) _ (by omega) (by omega) (by omega) (fr_U k4 (by decide)))
  · have s1 := sub1 (by omega)
    have i1 : mm_in (nI (h k - 1)) 260 = true := e_inb (by rw [e_nIt (by omega)]; omega) (by rw [e_nIt (by omega)]; omega)
    have j192 : (op = 5 ∨ op = 6) → ok (X12_reckonsTo_j192l16 (nI t) (nI (h k) - 1) (nI 0) (nI (k + 1)) (nI op) N) (sm (fun s' : Int32 × Int32 × mm_M => (∃ k, s'.2.1 = nI k ∧ s'.1 = nI (h k) ∧ a ≤ k ∧ k ≤ t ∧ h k ≤ k - a ∧ fr [19] M s'.2.2) ∧ 250 - Int32.toNatClampNeg s'.2.1 < 250 - Int32.toNatClampNeg (nI k)) (fun r : Int32 × mm_M => fr [19] M r.2)) := by
      intro ho
      unfold X12_reckonsTo_j192l16
      rw [s1, e_nIc (show h k - 1 < 2147483648 by omega)]
      refine ok_i (fun _ => ok_i (fun _ => ok_s k4) (fun z => j203 o1 o2 q1 q2 (fun _ => z))) (fun z => absurd i1 z)
    have jel : ¬ (op = 5 ∨ op = 6) → ok (X12_reckonsTo_j203l16 (nI t) (nI (h k) - 1) (nI 0) (nI (k + 1)) (nI op) N) (sm (fun s' : Int32 × Int32 × mm_M => (∃ k, s'.2.1 = nI k ∧ s'.1 = nI (h k) ∧ a ≤ k ∧ k ≤ t ∧ h k ≤ k - a ∧ fr [19] M s'.2.2) ∧ 250 - Int32.toNatClampNeg s'.2.1 < 250 - Int32.toNatClampNeg (nI k)) (fun r : Int32 × mm_M => fr [19] M r.2)) := by
      intro ho
      rw [s1]
      exact j203 o1 o2 q1 q2 (fun z => absurd z ho)
    have : op = 2 ∨ op = 3 ∨ op = 4 ∨ op = 5 ∨ op = 6 ∨ op = 7 ∨ op = 8 ∨ op = 9 := by omega
    rcases this with rfl | rfl | rfl | rfl | rfl | rfl | rfl | rfl
    · rw [if_neg (by decide), if_neg (by decide), if_neg (by decide), if_neg (by decide), if_neg (by decide), if_neg (by decide), if_neg (by decide)]
      exact jel (by omega)
    · rw [if_neg (by decide), if_neg (by decide), if_neg (by decide), if_neg (by decide), if_neg (by decide), if_neg (by decide), if_neg (by decide)]
      exact jel (by omega)
    · rw [if_neg (by decide), if_neg (by decide), if_neg (by decide), if_neg (by decide), if_neg (by decide), if_neg (by decide), if_neg (by decide)]
      exact jel (by omega)
    · rw [if_neg (by decide), if_neg (by decide), if_neg (by decide), if_neg (by decide), if_neg (by decide), if_pos (by decide)]
      exact j192 (by omega)
    · rw [if_neg (by decide), if_neg (by decide), if_neg (by decide), if_neg (by decide), if_neg (by decide), if_neg (by decide), if_pos (by decide)]
      exact j192 (by omega)
    · rw [if_neg (by decide), if_neg (by decide), if_neg (by decide), if_neg (by decide), if_neg (by decide), if_neg (by decide), if_neg (by decide)]
      exact jel (by omega)
    · rw [if_neg (by decide), if_neg (by decide), if_neg (by decide), if_neg (by decide), if_neg (by decide), if_neg (by decide), if_neg (by decide)]
      exact jel (by omega)
    · rw [if_neg (by decide), if_neg (by decide), if_neg (by decide), if_neg (by decide), if_neg (by decide), if_neg (by decide), if_neg (by decide)]
      exact jel (by omega)
  · subst o
    have i1 : mm_in (nI (h k) - 1) 260 = true := by rw [sub1 q1]; exact e_inb (by rw [e_nIt (by omega)]; omega) (by rw [e_nIt (by omega)]; omega)
    rw [if_neg (by decide), if_neg (by decide), if_pos (by decide), if_pos i1, if_pos i1, ← q2]
    refine ok_s ?_
    rw [q2]
    rw [← q2]
    exact fin (k + 1) _ (by omega) (by omega) (by omega) (fr_U k4 (by decide))
  · have i1 : mm_in (nI (h k) - 1) 260 = true := by rw [sub1 q1]; exact e_inb (by rw [e_nIt (by omega)]; omega) (by rw [e_nIt (by omega)]; omega)
    have j155 : ∀ (z : Int32) (b : Bool), ok (X12_reckonsTo_j155l16 (nI t) (nI (h k)) (nI 0) (nI (k + 1)) (nI v) z b N) (sm (fun s' : Int32 × Int32 × mm_M => (∃ k, s'.2.1 = nI k ∧ s'.1 = nI (h k) ∧ a ≤ k ∧ k ≤ t ∧ h k ≤ k - a ∧ fr [19] M s'.2.2) ∧ 250 - Int32.toNatClampNeg s'.2.1 < 250 - Int32.toNatClampNeg (nI k)) (fun r : Int32 × mm_M => fr [19] M r.2)) := by
      intro z b
      unfold X12_reckonsTo_j155l16
      refine ok_i (fun _ => ok_s ?_) (fun _ => ok_s ?_)
      · rw [nI_add, Nat.zero_add, ← q5]
        exact fin v N q3 q4 (by omega) k4
      · rw [sub1 q1, show h k - 1 = h (k + 1) by omega]
        exact fin (k + 1) N (by omega) (by omega) (by omega) k4
    have j135 : ∀ o2 : Int32, ok (X12_reckonsTo_j135l16 (nI t) (nI (h k)) (nI 0) (nI (k + 1)) o2 (nI v) N) (sm (fun s' : Int32 × Int32 × mm_M => (∃ k, s'.2.1 = nI k ∧ s'.1 = nI (h k) ∧ a ≤ k ∧ k ≤ t ∧ h k ≤ k - a ∧ fr [19] M s'.2.2) ∧ 250 - Int32.toNatClampNeg s'.2.1 < 250 - Int32.toNatClampNeg (nI k)) (fun r : Int32 × mm_M => fr [19] M r.2)) := by
      intro o2
      unfold X12_reckonsTo_j135l16
      exact ok_i (fun _ => ok_i (fun _ => j155 _ _) (fun _ => j155 _ _)) (fun z => absurd i1 z)
    rcases o with rfl | rfl
    · rw [if_neg (by decide), if_neg (by decide), if_neg (by decide), if_pos (by decide)]
      exact j135 _
    · rw [if_neg (by decide), if_neg (by decide), if_neg (by decide), if_neg (by decide), if_pos (by decide)]
      exact j135 _
theorem LC_fr {M N : mm_M} (hL : LC M) (h0 : N 0 17 = M 0 17) (h14 : N 14 = M 14) (h16 : N 16 = M 16) (h17 : N 17 = M 17) (h18 : N 18 = M 18) : LC N := by
  obtain ⟨m, q1, q2, q3⟩ := hL
  refine ⟨m, q1, by rw [h0]; exact q2, fun j hj => ?_⟩
  rw [h14, h16, h17, h18]
  exact q3 j hj
theorem ha2_m {M : mm_M} (hL : LC M) (x : Int32) : ok (X12_holdsAny x M) (fun r => fr [19] M r.2) := by
  obtain ⟨m, m1, m2, m3⟩ := hL
  unfold X12_holdsAny
  refine ok_lp (fun s : Int32 × mm_M => ∃ i, s.1 = nI i ∧ i ≤ m ∧ fr [19] M s.2) (fun s => 20 - Int32.toNatClampNeg s.1) _ ⟨0, nI_0.symm, by omega, fr_rfl⟩ (by omega) ?_
  rintro ⟨si, N⟩ ⟨i, hi, h1, h2⟩
  dsimp only at hi h2
  subst hi
  have e17 : N 0 17 = nI m := by rw [h2 0 (by decide)]; exact m2
  unfold X12_holdsAny_l2
  dsimp only
  simp only [e17]
  refine ok_i (fun _ => ok_s h2) (fun c => ?_)
  rw [e_le, e_nIt (by omega), e_nIt (by omega)] at c
  have hin : mm_in (nI i) 16 = true := e_inb (by rw [e_nIt (by omega)]; omega) (by rw [e_nIt (by omega)]; omega)
  have fin : ∀ N', fr [19] M N' → sm (fun s' : Int32 × mm_M => (∃ i, s'.1 = nI i ∧ i ≤ m ∧ fr [19] M s'.2) ∧ 20 - Int32.toNatClampNeg s'.1 < 20 - Int32.toNatClampNeg (nI i)) (fun r : Bool × mm_M => fr [19] M r.2) (.inl (nI i + 1, N')) := fun N' h => ⟨⟨i + 1, nI_1 i, by omega, h⟩, by dsimp only; rw [nI_1, e_nIc (by omega), e_nIc (by omega)]; omega⟩
  obtain ⟨a, b, t, q1, q2, q3, q4, q5, q6, q7, q8⟩ := m3 i (by omega)
  refine ok_i (fun _ => ok_i (fun _ => ok_i (fun _ => ok_i (fun _ => ?_) (fun z => absurd hin z)) (fun z => absurd hin z)) (fun _ => ok_s (fin N h2))) (fun z => absurd hin z)
  rw [e_nIc (show i < 2147483648 by omega)] at fin
  rw [e_nIc (show i < 2147483648 by omega), h2 17 (by decide), h2 18 (by decide), q2, q3]
  refine ok_b _ (rt_m (M := N) (by rw [h2 14 (by decide)]; exact q8) q5 q6) (fun r hr => ?_)
  have hr2 : fr [19] M r.2 := fun b hb => (hr b hb).trans (h2 b hb)
  exact ok_i (fun _ => ok_s hr2) (fun _ => ok_s (fin _ hr2))
theorem bl_m {M : mm_M} (hL : LC M) (x y : Int32) (hy : 0 ≤ y.toInt) : ok (X12_byLaw x y M) (fun r => fr [19] M r.2 ∧ 0 ≤ r.1.toInt ∧ r.1.toInt ≤ y.toInt) := by
  obtain ⟨m, m1, m2, m3⟩ := hL
  have k0 : (0 : Int32).toInt = 0 := rfl
  unfold X12_byLaw
  refine ok_b (sm (fun r : Int32 × mm_M => fr [19] M r.2 ∧ r.1 = 0) (fun r : Int32 × mm_M => fr [19] M r.2 ∧ ∃ i, r.1 = nI i ∧ i < m)) ?_ (fun r hr => ?_)
  · refine ok_lp (fun s : Int32 × mm_M => ∃ i, s.1 = nI i ∧ i ≤ m ∧ fr [19] M s.2) (fun s => 20 - Int32.toNatClampNeg s.1) _ ⟨0, nI_0.symm, by omega, fr_rfl⟩ (by omega) ?_
    rintro ⟨si, N⟩ ⟨i, hi, h1, h2⟩
    dsimp only at hi h2
    subst hi
    have e17 : N 0 17 = nI m := by rw [h2 0 (by decide)]; exact m2
    unfold X12_byLaw_l2
    dsimp only
    simp only [e17]
    refine ok_i (fun _ => ok_s ⟨h2, rfl⟩) (fun c => ?_)
    rw [e_le, e_nIt (by omega), e_nIt (by omega)] at c
    have hin : mm_in (nI i) 16 = true := e_inb (by rw [e_nIt (by omega)]; omega) (by rw [e_nIt (by omega)]; omega)
    have fin : ∀ N', fr [19] M N' → sm (fun s' : Int32 × mm_M => (∃ i, s'.1 = nI i ∧ i ≤ m ∧ fr [19] M s'.2) ∧ 20 - Int32.toNatClampNeg s'.1 < 20 - Int32.toNatClampNeg (nI i)) (sm (fun r : Int32 × mm_M => fr [19] M r.2 ∧ r.1 = 0) (fun r : Int32 × mm_M => fr [19] M r.2 ∧ ∃ i, r.1 = nI i ∧ i < m)) (.inl (nI i + 1, N')) := fun N' h => ⟨⟨i + 1, nI_1 i, by omega, h⟩, by dsimp only; rw [nI_1, e_nIc (by omega), e_nIc (by omega)]; omega⟩
    obtain ⟨a, b, t, q1, q2, q3, q4, q5, q6, q7, q8⟩ := m3 i (by omega)
    refine ok_i (fun _ => ok_i (fun _ => ok_i (fun _ => ok_i (fun _ => ?_) (fun z => absurd hin z)) (fun z => absurd hin z)) (fun _ => ok_s (fin N h2))) (fun z => absurd hin z)
    rw [e_nIc (show i < 2147483648 by omega)] at fin
    rw [e_nIc (show i < 2147483648 by omega), h2 17 (by decide), h2 18 (by decide), q2, q3]
    refine ok_b _ (rt_m (M := N) (by rw [h2 14 (by decide)]; exact q8) q5 q6) (fun r hr => ?_)
    have hr2 : fr [19] M r.2 := fun b hb => (hr b hb).trans (h2 b hb)
    exact ok_i (fun _ => ok_s ⟨hr2, i, rfl, by omega⟩) (fun _ => ok_s (fin _ hr2))
  · cases r with
    | inl r =>
      obtain ⟨q1, q2⟩ := hr
      exact ok_s ⟨q1, by rw [q2]; decide, by rw [q2]; omega⟩
    | inr r =>
      obtain ⟨h2, i, hi, him⟩ := hr
      obtain ⟨ri, N⟩ := r
      dsimp only at hi h2 ⊢
      subst hi
      have hin : mm_in (nI i) 16 = true := e_inb (by rw [e_nIt (by omega)]; omega) (by rw [e_nIt (by omega)]; omega)
      obtain ⟨a, b, t, q1, q2, q3, q4, q5, q6, q7, q8⟩ := m3 i him
      refine ok_i (fun _ => ok_i (fun _ => ?_) (fun z => absurd hin z)) (fun z => absurd hin z)
      rw [e_nIc (show i < 2147483648 by omega), h2 16 (by decide), h2 17 (by decide), q1, q2]
      refine ok_b _ (rt_m (M := N) (by rw [h2 14 (by decide)]; exact q7) q4 (by omega)) (fun r hr => ?_)
      have hr2 : fr [19] M r.2 := fun b hb => (hr b hb).trans (h2 b hb)
      refine ok_i (fun c1 => ok_i (fun c2 => ok_s ⟨hr2, ?_, ?_⟩) (fun _ => ok_s ⟨hr2, hy, Int.le_refl _⟩)) (fun _ => ok_s ⟨hr2, (by show 0 ≤ (0 : Int32).toInt; decide), by show (0 : Int32).toInt ≤ y.toInt; omega⟩)
      · rw [e_le] at c1
        dsimp only
        omega
      · rw [e_le] at c2
        exact c2
