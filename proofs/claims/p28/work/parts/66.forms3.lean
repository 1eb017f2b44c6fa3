theorem fS_zero {M : mm_M} {n D : Nat} (hn : n ≤ 10) (h : fV M n D = 0) : ∀ d i, i + d = n → ∀ x, x < 1024 → fS M n D n x = fS M n D i x := by
  intro d
  induction d with
  | zero => intro i e x hx; rw [show i = n by omega]
  | succ d ih =>
    intro i e x hx
    rw [ih (i + 1) (by omega) x hx, fS_no hn (Or.inr h) x hx]
theorem f_has {m k : Nat} (hm : m < 1024) (hk : k < 10) : X12_has (nI m) (nI k) = true ↔ m.testBit k = true := by
  rw [(nx_has (nI m) (show k < 32 by omega)).1, s_bt hm]
theorem f_in {m : Nat} (hm : m < 1024) : mm_in (nI m) 1024 = true := e_inb (by rw [e_nIt (by omega)]; omega) (by rw [e_nIt (by omega)]; omega)
theorem f_lt32 {M : mm_M} {i : Nat} (hi : i < 10) : ∀ j, fP M i j → j < 32 := fun j h => by have := h.1; omega
/-- the class counts -/
theorem f_count1 {M1 N0 : mm_M} {n : Nat} (h1 : 1 ≤ n) (hn : n ≤ 10) (hA : ∀ i, i < n → bSet (fP M1 i) (N0 42 i)) : ∃ N, X5_countForms (nI n) N0 = some (fV M1 n (2 ^ n - 1), N) ∧ ∀ b, b ≠ 38 → N b = N0 b := by
  have hp : 2 ^ n - 1 < 1024 := k_everyL n (by omega)
  have len : (if (0 : Int32) < (if (10 : Int32) < nI n then 10 else nI n) then (if (10 : Int32) < nI n then 10 else nI n) else 0) = nI n := by
    have c1 : ¬ (10 : Int32) < nI n := by
      show ¬ nI 10 < nI n
      rw [e_lt, e_nIt (by omega), e_nIt (by omega)]
      omega
    have c2 : (0 : Int32) < nI n := by
      show nI 0 < nI n
      rw [e_lt, e_nIt (by omega), e_nIt (by omega)]
      omega
    rw [if_neg c1, if_pos c2]
  obtain ⟨y, a1, a2', a3, a4⟩ := e_fill 38 1024 rfl (by omega) 0 N0
  have inner : ∀ (x3 : Int32) D N, D < 1024 → ((∀ x, x < 1024 → N 38 x = fS M1 n D 0 x) ∧ ∀ b, b ≠ 38 → N b = N0 b) → ∃ N', mm_loop (X5_countForms_l52 (nI n) x3 (nI D)) mm_fuel (0, N) = some N' ∧ (∀ x, x < 1024 → N' 38 x = fS M1 n D n x) ∧ ∀ b, b ≠ 38 → N' b = N0 b := by
    intro x3 D N hD hN
    refine e_loopF (step := X5_countForms_l52 (nI n) x3 (nI D)) (I := fun (z : Int32 × mm_M) => ∃ i : Nat, i ≤ n ∧ z.1 = nI i ∧ (∀ x, x < 1024 → z.2 38 x = fS M1 n D i x) ∧ ∀ b, b ≠ 38 → z.2 b = N0 b) (Q := fun (N' : mm_M) => (∀ x, x < 1024 → N' 38 x = fS M1 n D n x) ∧ ∀ b, b ≠ 38 → N' b = N0 b) (fun z => 20 - Int32.toNatClampNeg z.1) ?_ (0, N) ⟨0, by omega, rfl, hN.1, hN.2⟩ (by omega)
    rintro ⟨v, K⟩ ⟨i, hin, hv, g1, g2⟩
    dsimp only at hv g1 g2
    subst hv
    unfold X5_countForms_l52
    dsimp only
    by_cases e : i = n
    · subst e
      rw [if_pos (show nI i ≤ nI i from Int32.le_refl _)]
      exact Or.inr ⟨K, rfl, g1, g2⟩
    · have c0 : ¬ nI n ≤ nI i := by
        rw [e_le, e_nIt (by omega), e_nIt (by omega)]
        omega
      have in10 : mm_in (nI i) 10 = true := e_inb (by rw [e_nIt (by omega)]; omega) (by rw [e_nIt (by omega)]; omega)
      have hz := z_ar D hD i (by omega)
      have hlt : 20 - Int32.toNatClampNeg (nI i + 1) < 20 - Int32.toNatClampNeg (nI i) := by
        rw [nI_1, e_nIc (by omega), e_nIc (by omega)]
        omega
      have hD38 : K 38 D = fV M1 n D := by
        rw [g1 D hD, fS_V hn hD (Nat.le_refl _)]
      have c1024 : ¬ (1024 : Int32) ≤ nI (zI D i) := by
        show ¬ nI 1024 ≤ nI (zI D i)
        rw [e_le, e_nIt (by omega), e_nIt (by omega)]
        omega
      rw [if_neg c0, if_pos (f_in hD), z_I hD (show i < 10 by omega), e_nIc (show D < 2147483648 by omega), e_nIc (show zI D i < 2147483648 by omega), e_nIc (show i < 2147483648 by omega), if_pos in10, if_neg c1024, if_pos (f_in hz.1), if_pos (f_in hD), if_pos (f_in hz.1)]
      by_cases z0 : fV M1 n D = 0
      · rw [if_pos (by rw [hD38, z0])]
        refine Or.inr ⟨K, rfl, fun x hx => ?_, g2⟩
        rw [g1 x hx, fS_zero hn z0 (n - i) i (by omega) x hx]
      · rw [if_neg (by rw [hD38]; exact z0)]
        have same : ¬ (D.testBit i = false ∧ ∀ j, fP M1 i j → D.testBit j = true) → ∃ s', (some (Sum.inl (nI i + 1, K)) : Option ((Int32 × mm_M) ⊕ mm_M)) = some (.inl s') ∧ (∃ i : Nat, i ≤ n ∧ s'.1 = nI i ∧ (∀ x, x < 1024 → s'.2 38 x = fS M1 n D i x) ∧ ∀ b, b ≠ 38 → s'.2 b = N0 b) ∧ 20 - Int32.toNatClampNeg s'.1 < 20 - Int32.toNatClampNeg (nI i) := by
          intro hno
          exact ⟨_, rfl, ⟨i + 1, by omega, nI_1 i, fun x hx => by rw [fS_no hn (Or.inl hno) x hx]; exact g1 x hx, g2⟩, hlt⟩
        rw [e_nIc (show i < 2147483648 by omega)] at same hlt
        cases hb : D.testBit i
        · have ne : ¬ nI (zI D i) = nI D := by
            rw [nI_eq (by omega) (by omega)]
            have := (hz.2.2.2 hb).2
            omega
          rw [if_neg ne]
          have hsub := z_sub (hA i (by omega)) hD (f_lt32 (show i < 10 by omega))
          rw [← g2 42 (by decide)] at hsub
          rcases Classical.em (∀ j, fP M1 i j → D.testBit j = true) with c | c
          · rw [if_pos (hsub.mpr c)]
            refine Or.inl ⟨_, rfl, ⟨i + 1, by omega, nI_1 i, fun x hx => ?_, fun b b1 => ?_⟩, hlt⟩
            · show mm_U K 38 (zI D i) (K 38 (zI D i) + K 38 D) 38 x = _
              rw [e_U, fS_add hn hD (show i < n by omega) hb c x hx]
              by_cases w : x = zI D i
              · rw [if_pos ⟨rfl, w⟩, if_pos w, hD38, w, g1 _ hz.1]
              · rw [if_neg (fun z => w z.2), if_neg w]
                exact g1 x hx
            · show mm_U K 38 (zI D i) _ b = _
              rw [mm_U_ne b b1]
              exact g2 b b1
          · rw [if_neg (fun z => c (hsub.mp z))]
            exact Or.inl (same (fun z => c z.2))
        · have eq : nI (zI D i) = nI D := by rw [(hz.2.2.1 hb).2.2]
          rw [if_pos eq]
          exact Or.inl (same (fun z => by rw [hb] at z; cases z.1))
  have outer : ∃ N', mm_loop (X5_countForms_l35 (nI n) (nI (2 ^ n - 1))) mm_fuel (0, mm_U y 38 0 1) = some N' ∧ (∀ x, x < 1024 → N' 38 x = fS M1 n (2 ^ n - 1) 0 x) ∧ ∀ b, b ≠ 38 → N' b = N0 b := by
    refine e_loopF (step := X5_countForms_l35 (nI n) (nI (2 ^ n - 1))) (I := fun (z : Int32 × mm_M) => ∃ D : Nat, D ≤ 2 ^ n - 1 ∧ z.1 = nI D ∧ (∀ x, x < 1024 → z.2 38 x = fS M1 n D 0 x) ∧ ∀ b, b ≠ 38 → z.2 b = N0 b) (Q := fun (N' : mm_M) => (∀ x, x < 1024 → N' 38 x = fS M1 n (2 ^ n - 1) 0 x) ∧ ∀ b, b ≠ 38 → N' b = N0 b) (fun z => 2000 - Int32.toNatClampNeg z.1) ?_ _ ⟨0, by omega, rfl, fun x hx => ?_, fun b b1 => ?_⟩ (by omega)
    · rintro ⟨v, K⟩ ⟨D, hD, hv, g1, g2⟩
      dsimp only at hv g1 g2
      subst hv
      unfold X5_countForms_l35
      dsimp only
      by_cases e : D = 2 ^ n - 1
      · rw [if_pos (by rw [e]; exact Int32.le_refl _)]
        rw [e] at g1
        exact Or.inr ⟨K, rfl, g1, g2⟩
      · have c0 : ¬ nI (2 ^ n - 1) ≤ nI D := by
          rw [e_le, e_nIt (by omega), e_nIt (by omega)]
          omega
        have c1024 : ¬ (1024 : Int32) ≤ nI D := by
          show ¬ nI 1024 ≤ nI D
          rw [e_le, e_nIt (by omega), e_nIt (by omega)]
          omega
        obtain ⟨N', n1, n2, n3⟩ := inner (nI (2 ^ n - 1)) D K (by omega) ⟨g1, g2⟩
        rw [if_neg c0, if_neg c1024, n1, Option.bind_some]
        refine Or.inl ⟨_, rfl, ⟨D + 1, by omega, nI_1 D, fun x hx => ?_, n3⟩, ?_⟩
        · rw [fS_n hn x hx]
          exact n2 x hx
        · show 2000 - Int32.toNatClampNeg (nI D + 1) < 2000 - Int32.toNatClampNeg (nI D)
          rw [nI_1, e_nIc (by omega), e_nIc (by omega)]
          omega
    · show mm_U y 38 0 1 38 x = _
      rw [e_U, fS_0]
      by_cases w : x = 0
      · rw [if_pos ⟨rfl, w⟩, if_pos w]
      · rw [if_neg (fun z => w z.2), if_neg w]
        exact a2' x hx
    · show mm_U y 38 0 1 b = _
      rw [mm_U_ne b b1]
      exact a4 b b1
  obtain ⟨N', n1, n2, n3⟩ := outer
  refine ⟨N', ?_, n3⟩
  have c1024 : ¬ (1024 : Int32) ≤ nI (2 ^ n - 1) := by
    show ¬ nI 1024 ≤ nI (2 ^ n - 1)
    rw [e_le, e_nIt (by omega), e_nIt (by omega)]
    omega
  unfold X5_countForms
  rw [a1, Option.bind_some, len, k_every n (by omega), n1, Option.bind_some]
  unfold X5_countForms_j136
  rw [if_neg c1024, if_pos (f_in hp), e_nIc (by omega), n2 _ hp, fS_V hn hp (Nat.le_refl _)]
/-- the reference counts -/
theorem f_ends {M1 K : mm_M} {n m k : Nat} (hn : n ≤ 10) (hm : m < 1024) (hk : k < n) (hA : ∀ i, i < n → bSet (fP M1 i) (K 27 i)) : ((∀ e, e < n → m.testBit e = true → ¬ fP M1 e k) → X12_endsWith (nI m) (nI k) (nI n) K = some (K 28 (zD m k))) ∧ (¬ (∀ e, e < n → m.testBit e = true → ¬ fP M1 e k) → X12_endsWith (nI m) (nI k) (nI n) K = some 0) := by
  have hz := z_ar m hm k (by omega)
  have loop : ∃ r, mm_loop (X12_endsWith_l3 (nI m) (nI k) (nI n) K) mm_fuel 0 = some r ∧ ((r = .inr () ∧ ∀ e, e < n → m.testBit e = true → ¬ fP M1 e k) ∨ (r = .inl 0 ∧ ¬ ∀ e, e < n → m.testBit e = true → ¬ fP M1 e k)) := by
    refine e_for1 (step := X12_endsWith_l3 (nI m) (nI k) (nI n) K) n (by omega) (I := fun i => ∀ e, e < i → m.testBit e = true → ¬ fP M1 e k) (Q := fun r => ((r = .inr () ∧ ∀ e, e < n → m.testBit e = true → ¬ fP M1 e k) ∨ (r = .inl 0 ∧ ¬ ∀ e, e < n → m.testBit e = true → ¬ fP M1 e k))) ?_ ?_ (fun e he => by omega)
    · intro i hi hI
      have c0 : ¬ nI n ≤ nI i := by
        rw [e_le, e_nIt (by omega), e_nIt (by omega)]
        omega
      have in10 : mm_in (nI i) 10 = true := e_inb (by rw [e_nIt (by omega)]; omega) (by rw [e_nIt (by omega)]; omega)
      unfold X12_endsWith_l3
      rw [if_neg c0]
      have next : (m.testBit i = true → ¬ fP M1 i k) → ∀ e, e < i + 1 → m.testBit e = true → ¬ fP M1 e k := by
        intro h e he
        by_cases w : e = i
        · subst w
          exact h
        · exact hI e (by omega)
      by_cases b : m.testBit i = true
      · rw [if_pos ((f_has hm (by omega)).mpr b), if_pos in10, e_nIc (by omega)]
        have hh : X12_has (K 27 i) (nI k) = true ↔ fP M1 i k := by
          rw [(nx_has (K 27 i) (show k < 32 by omega)).1]
          exact hA i hi k (by omega)
        rcases Classical.em (fP M1 i k) with c | c
        · rw [if_pos (hh.mpr c)]
          exact Or.inr ⟨_, rfl, Or.inr ⟨rfl, fun z => z i hi b c⟩⟩
        · rw [if_neg (fun z => c (hh.mp z))]
          exact Or.inl ⟨rfl, next (fun _ => c)⟩
      · rw [if_neg (fun z => b ((f_has hm (by omega)).mp z))]
        exact Or.inl ⟨rfl, next (fun z => absurd z b)⟩
    · intro hI
      refine ⟨.inr (), ?_, Or.inl ⟨rfl, hI⟩⟩
      unfold X12_endsWith_l3
      rw [if_pos (show nI n ≤ nI n from Int32.le_refl _)]
  obtain ⟨r, r1, r2⟩ := loop
  unfold X12_endsWith
  rw [r1, Option.bind_some]
  rcases r2 with ⟨e, h⟩ | ⟨e, h⟩
  · subst e
    refine ⟨fun _ => ?_, fun z => absurd h z⟩
    dsimp only
    rw [z_D hm (show k < 10 by omega), if_pos (f_in hz.2.1), e_nIc (by omega)]
  · subst e
    exact ⟨fun z => absurd z h, fun _ => rfl⟩
set_option maxHeartbeats 6000000 in
theorem f_count2 {M1 N0 : mm_M} {n : Nat} (hn : n ≤ 10) (hA : ∀ i, i < n → bSet (fP M1 i) (N0 27 i)) : ∃ N, X12_rowsOf (nI n) N0 = some (fV M1 n (2 ^ n - 1), N) ∧ ∀ b, b ≠ 28 → N b = N0 b := by
  have hp : 2 ^ n - 1 < 1024 := k_everyL n (by omega)
  have hpow : 1 ≤ 2 ^ n := Nat.one_le_two_pow
  have inner : ∀ m N, m < 1024 → (∀ x, x < m → N 28 x = fV M1 n x) → (∀ b, b ≠ 28 → N b = N0 b) → N 28 m = (if m = 0 then 1 else 0) → ∃ N', mm_loop (X12_rowsOf_l26 (nI n) (nI m)) mm_fuel (0, N) = some N' ∧ (∀ x, x < m + 1 → N' 28 x = fV M1 n x) ∧ ∀ b, b ≠ 28 → N' b = N0 b := by
    intro m N hm q1 q2 q3
    refine e_loopF (step := X12_rowsOf_l26 (nI n) (nI m)) (I := fun (z : Int32 × mm_M) => ∃ i : Nat, i ≤ n ∧ z.1 = nI i ∧ (∀ x, x < m → z.2 28 x = fV M1 n x) ∧ (∀ b, b ≠ 28 → z.2 b = N0 b) ∧ z.2 28 m = (if m = 0 then 1 else 0) + sI (fT M1 n (fV M1 n) m) i) (Q := fun (N' : mm_M) => (∀ x, x < m + 1 → N' 28 x = fV M1 n x) ∧ ∀ b, b ≠ 28 → N' b = N0 b) (fun z => 20 - Int32.toNatClampNeg z.1) ?_ (0, N) ⟨0, by omega, rfl, q1, q2, by show N 28 m = _; rw [q3]; exact (Int32.add_zero _).symm⟩ (by omega)
    rintro ⟨v, K⟩ ⟨i, hin, hv, g1, g2, g3⟩
    dsimp only at hv g1 g2 g3
    subst hv
    unfold X12_rowsOf_l26
    dsimp only
    by_cases e : i = n
    · subst e
      rw [if_pos (show nI i ≤ nI i from Int32.le_refl _)]
      refine Or.inr ⟨K, rfl, fun x hx => ?_, g2⟩
      by_cases w : x = m
      · subst w
        rw [g3, fV_eq hm hn]
      · exact g1 x (by omega)
    · have c0 : ¬ nI n ≤ nI i := by
        rw [e_le, e_nIt (by omega), e_nIt (by omega)]
        omega
      have in10 : mm_in (nI i) 10 = true := e_inb (by rw [e_nIt (by omega)]; omega) (by rw [e_nIt (by omega)]; omega)
      have hz := z_ar m hm i (by omega)
      have hlt : 20 - Int32.toNatClampNeg (nI i + 1) < 20 - Int32.toNatClampNeg (nI i) := by
        rw [nI_1, e_nIc (by omega), e_nIc (by omega)]
        omega
      have same : fT M1 n (fV M1 n) m i = 0 → ∃ s', (some (Sum.inl (nI i + 1, K)) : Option ((Int32 × mm_M) ⊕ mm_M)) = some (.inl s') ∧ (∃ i : Nat, i ≤ n ∧ s'.1 = nI i ∧ (∀ x, x < m → s'.2 28 x = fV M1 n x) ∧ (∀ b, b ≠ 28 → s'.2 b = N0 b) ∧ s'.2 28 m = (if m = 0 then 1 else 0) + sI (fT M1 n (fV M1 n) m) i) ∧ 20 - Int32.toNatClampNeg s'.1 < 20 - Int32.toNatClampNeg (nI i) := by
        intro h0
        refine ⟨_, rfl, ⟨i + 1, by omega, nI_1 i, g1, g2, ?_⟩, hlt⟩
        show K 28 m = _ + (sI (fT M1 n (fV M1 n) m) i + fT M1 n (fV M1 n) m i)
        rw [h0, Int32.add_zero]
        exact g3
      have hA' : ∀ i, i < n → bSet (fP M1 i) (K 27 i) := fun i hi => by rw [g2 27 (by decide)]; exact hA i hi
      rw [if_neg c0]
      by_cases b : m.testBit i = true
      · rw [if_pos ((f_has hm (by omega)).mpr b), if_pos in10, e_nIc (show i < 2147483648 by omega), if_pos (f_in hm), e_nIc (show m < 2147483648 by omega)]
        rw [e_nIc (show i < 2147483648 by omega)] at same hlt
        have hsub := z_sub (hA' i (by omega)) hm (f_lt32 (show i < 10 by omega))
        rcases Classical.em (∀ j, fP M1 i j → m.testBit j = true) with c | c
        · rw [if_pos (hsub.mpr c)]
          rcases Classical.em (∀ e, e < n → m.testBit e = true → ¬ fP M1 e i) with d | d
          · rw [(f_ends hn hm (show i < n by omega) hA').1 d, Option.bind_some, if_pos (f_in hm)]
            refine Or.inl ⟨_, rfl, ⟨i + 1, by omega, nI_1 i, fun x hx => ?_, fun b b1 => ?_, ?_⟩, ?_⟩
            rotate_right 1
            · exact hlt
            · show mm_U K 28 m _ 28 x = _
              rw [e_U, if_neg (by omega)]
              exact g1 x hx
            · show mm_U K 28 m _ b = _
              rw [mm_U_ne b b1]
              exact g2 b b1
            · show mm_U K 28 m (K 28 m + K 28 (zD m i)) 28 m = _ + (sI (fT M1 n (fV M1 n) m) i + fT M1 n (fV M1 n) m i)
              rw [e_U, if_pos ⟨rfl, rfl⟩, g3, g1 _ (hz.2.2.1 b).1, fT_if.1 ⟨b, c, d⟩, Int32.add_assoc]
          · rw [(f_ends hn hm (show i < n by omega) hA').2 d, Option.bind_some, if_pos (f_in hm)]
            refine Or.inl ⟨_, rfl, ⟨i + 1, by omega, nI_1 i, fun x hx => ?_, fun b b1 => ?_, ?_⟩, ?_⟩
            rotate_right 1
            · exact hlt
            · show mm_U K 28 m _ 28 x = _
              rw [e_U, if_neg (by omega)]
              exact g1 x hx
            · show mm_U K 28 m _ b = _
              rw [mm_U_ne b b1]
              exact g2 b b1
            · show mm_U K 28 m (K 28 m + 0) 28 m = _ + (sI (fT M1 n (fV M1 n) m) i + fT M1 n (fV M1 n) m i)
              rw [e_U, if_pos ⟨rfl, rfl⟩, g3, fT_if.2 (fun z => d z.2.2), Int32.add_zero, Int32.add_zero]
        · rw [if_neg (fun z => c (hsub.mp z))]
          exact Or.inl (same (fT_if.2 (fun z => c z.2.1)))
      · rw [if_neg (fun z => b ((f_has hm (by omega)).mp z))]
        exact Or.inl (same (fT_if.2 (fun z => b z.1)))
  have outer : ∃ N', mm_loop (X12_rowsOf_l2 (nI n)) mm_fuel (0, N0) = some N' ∧ (∀ x, x < 2 ^ n → N' 28 x = fV M1 n x) ∧ ∀ b, b ≠ 28 → N' b = N0 b := by
    refine e_loopF (step := X12_rowsOf_l2 (nI n)) (I := fun (z : Int32 × mm_M) => ∃ m : Nat, m ≤ 2 ^ n ∧ z.1 = nI m ∧ (∀ x, x < m → z.2 28 x = fV M1 n x) ∧ ∀ b, b ≠ 28 → z.2 b = N0 b) (Q := fun (N' : mm_M) => (∀ x, x < 2 ^ n → N' 28 x = fV M1 n x) ∧ ∀ b, b ≠ 28 → N' b = N0 b) (fun z => 2000 - Int32.toNatClampNeg z.1) ?_ _ ⟨0, by omega, rfl, fun x hx => by omega, fun _ _ => rfl⟩ (by omega)
    rintro ⟨v, K⟩ ⟨m, hm, hv, g1, g2⟩
    dsimp only at hv g1 g2
    subst hv
    have hend : ((1 : Int32) <<< (nI n &&& 31)) ≤ nI m ↔ 2 ^ n ≤ m := by
      rw [e_le, (nx_pow n (by omega)).1, e_nIt (by omega)]
      rw [show ((2 : Int) ^ n) = ((2 ^ n : Nat) : Int) by simp]
      omega
    unfold X12_rowsOf_l2
    dsimp only
    by_cases e : m = 2 ^ n
    · rw [if_pos (hend.mpr (by omega))]
      rw [e] at g1
      exact Or.inr ⟨K, rfl, g1, g2⟩
    · rw [if_neg (fun z => by have := hend.mp z; omega)]
      have step : ∀ b : Bool, (b = true ↔ m = 0) → ∃ N', X12_rowsOf_j23l2 (nI n) (nI m) (nI m) b K = some (.inl (nI m + 1, N')) ∧ (∀ x, x < m + 1 → N' 28 x = fV M1 n x) ∧ ∀ b, b ≠ 28 → N' b = N0 b := by
        intro b hb
        obtain ⟨N', n1, n2, n3⟩ := inner m (mm_U K 28 m (mm_b b)) (by omega) (fun x hx => by rw [e_U, if_neg (by omega)]; exact g1 x hx) (fun c hc => by rw [mm_U_ne c hc]; exact g2 c hc) (by
          rw [e_U, if_pos ⟨rfl, rfl⟩]
          unfold mm_b
          by_cases w : m = 0
          · rw [if_pos (hb.mpr w), if_pos w]
          · rw [if_neg (fun z => w (hb.mp z)), if_neg w])
        refine ⟨N', ?_, n2, n3⟩
        unfold X12_rowsOf_j23l2
        rw [if_pos (f_in (by omega)), e_nIc (by omega), n1, Option.bind_some]
      have hlt : 2000 - Int32.toNatClampNeg (nI m + 1) < 2000 - Int32.toNatClampNeg (nI m) := by
        rw [nI_1, e_nIc (by omega), e_nIc (by omega)]
        omega
      by_cases w : m = 0
      · obtain ⟨N', n1, n2, n3⟩ := step true ⟨fun _ => w, fun _ => rfl⟩
        rw [if_pos (by rw [w]; rfl), n1]
        exact Or.inl ⟨_, rfl, ⟨m + 1, by omega, nI_1 m, n2, n3⟩, hlt⟩
      · obtain ⟨N', n1, n2, n3⟩ := step false ⟨(fun z => by cases z), (fun z => absurd z w)⟩
        rw [if_neg (show ¬ nI m = 0 from fun z => w ((nI_eq (b := 0) (by omega) (by omega)).mp z)), n1]
        exact Or.inl ⟨_, rfl, ⟨m + 1, by omega, nI_1 m, n2, n3⟩, hlt⟩
  obtain ⟨N', n1, n2, n3⟩ := outer
  refine ⟨N', ?_, n3⟩
  unfold X12_rowsOf
  rw [n1, Option.bind_some, k_every n (by omega), if_pos (f_in hp), e_nIc (by omega), n2 _ (by omega)]
