/-- a place that may be the next one -/
def fG (M : mm_M) (D j : Nat) : Prop := D.testBit j = false ∧ ∀ l, fP M j l → D.testBit l = true
/-- the best of the places below k -/
noncomputable def fB (M : mm_M) (D : Nat) : Nat → Int32
  | 0 => -1
  | k + 1 => @ite Int32 (fG M D k ∧ (fB M D k = -1 ∨ tB M k < tB M (Int32.toNatClampNeg (fB M D k)))) (Classical.propDecidable _) (nI k) (fB M D k)
theorem fB_s {M : mm_M} {D k : Nat} : ((fG M D k ∧ (fB M D k = -1 ∨ tB M k < tB M (Int32.toNatClampNeg (fB M D k)))) → fB M D (k + 1) = nI k) ∧ (¬ (fG M D k ∧ (fB M D k = -1 ∨ tB M k < tB M (Int32.toNatClampNeg (fB M D k)))) → fB M D (k + 1) = fB M D k) := by
  rw [fB]
  exact ⟨fun h => by rw [if_pos h], fun h => by rw [if_neg h]⟩
theorem fB_c {M : mm_M} {D : Nat} : ∀ k, (fB M D k = -1 ∧ ∀ j, j < k → ¬ fG M D j) ∨ ∃ j, j < k ∧ fB M D k = nI j ∧ fG M D j := by
  intro k
  induction k with
  | zero => exact Or.inl ⟨rfl, fun j h => by omega⟩
  | succ k ih =>
    rcases Classical.em (fG M D k ∧ (fB M D k = -1 ∨ tB M k < tB M (Int32.toNatClampNeg (fB M D k)))) with c | c
    · exact Or.inr ⟨k, by omega, fB_s.1 c, c.1⟩
    · rw [fB_s.2 c]
      rcases ih with ⟨h1, h2⟩ | ⟨j, h1, h2, h3⟩
      · refine Or.inl ⟨h1, fun j hj => ?_⟩
        by_cases e : j = k
        · subst e
          exact fun h => c ⟨h, Or.inl h1⟩
        · exact h2 j (by omega)
      · exact Or.inr ⟨j, by omega, h2, h3⟩
set_option maxRecDepth 100000 in
theorem z_cnt : ∀ m, m < 1024 → (∀ k, k < 10 → m.testBit k = false → sCnt (zI m k) 10 = sCnt m 10 + 1) ∧ ∀ n, n < 11 → (∀ j, j < n → m.testBit j = true) → n ≤ sCnt m 10 := by decide +kernel
/-- while places are left, one may be the next -/
theorem fB_some {M : mm_M} {D n : Nat} (hD : D < 1024) (hn : n ≤ 10) (hc : sCnt D 10 < n) : ∃ j, j < n ∧ fB M D n = nI j ∧ fG M D j := by
  rcases fB_c (M := M) (D := D) n with ⟨-, h⟩ | h
  · exfalso
    have key : ∀ j, j < n → D.testBit j = true := by
      intro j
      induction j using Nat.strongRecOn with
      | ind j ih =>
        intro hj
        cases hb : D.testBit j
        · exact absurd ⟨hb, fun l hl => ih l hl.1 (by have := hl.1; omega)⟩ (h j hj)
        · rfl
    have := (z_cnt D hD).2 n (by omega) key
    omega
  · exact h
theorem f_bit {m k : Nat} (hm : m < 1024) (hk : k < 10) : (((nI m >>> (nI k &&& 31)) &&& 1) = 0) ↔ m.testBit k = false := by
  rw [(nx_has (nI m) (show k < 32 by omega)).2, s_bt hm]
  cases m.testBit k <;> simp
theorem f_m1 {j : Nat} (h : j < 1000) : ¬ nI j = -1 := k_ne (by omega)
/-- the class's best place -/
theorem f_best1 {M1 M2 N : mm_M} (ht : rl_tape M1 M2) {n D : Nat} (hn : n ≤ 10) (hnt : n ≤ tN M1) (hD : D < 1024) (hA : ∀ i, i < n → N 41 i = nI (tB M1 i) ∧ bSet (fP M1 i) (N 42 i)) (x2 x5 : Int32) : mm_loop (X5_firstForm_l26 (nI n) x2 (nI D) x5 N) mm_fuel (-1, 0) = some (fB M1 D n) := by
  have key : ∃ r, mm_loop (X5_firstForm_l26 (nI n) x2 (nI D) x5 N) mm_fuel (-1, 0) = some r ∧ r = fB M1 D n := by
    refine e_for (step := X5_firstForm_l26 (nI n) x2 (nI D) x5 N) n (by omega) (I := fun i a => a = fB M1 D i) (Q := fun r => r = fB M1 D n) ?_ ?_ (-1) rfl
    · rintro i a hi rfl
      have c0 : ¬ nI n ≤ nI i := by
        rw [e_le, e_nIt (by omega), e_nIt (by omega)]
        omega
      have c10 : ¬ (10 : Int32) ≤ nI i := fun h => by have := (e_10 (by omega)).mp h; omega
      have in10 : mm_in (nI i) 10 = true := e_inb (by rw [e_nIt (by omega)]; omega) (by rw [e_nIt (by omega)]; omega)
      have hsub := z_sub (hA i hi).2 hD (f_lt32 (show i < 10 by omega))
      refine ⟨fB M1 D (i + 1), ?_, rfl⟩
      unfold X5_firstForm_l26
      dsimp only
      rw [if_neg c0, if_neg c10]
      have same : ¬ fG M1 D i → X5_firstForm_j66l26 (nI n) x2 (nI D) (fB M1 D i) x5 (nI i) N = some (.inl (fB M1 D (i + 1), nI i + 1)) := by
        intro hg
        unfold X5_firstForm_j66l26 X5_firstForm_j67l26
        rw [if_neg (by decide), fB_s.2 (fun z => hg z.1)]
      cases hb : D.testBit i
      · rw [if_pos ((f_bit hD (by omega)).mpr hb), if_pos in10, e_nIc (by omega)]
        rcases Classical.em (∀ l, fP M1 i l → D.testBit l = true) with c | c
        · rw [if_pos (hsub.mpr c)]
          have hg : fG M1 D i := ⟨hb, c⟩
          unfold X5_firstForm_j67l26
          rw [if_pos rfl]
          rcases fB_c (M := M1) (D := D) i with ⟨h1, -⟩ | ⟨j, h1, h2, -⟩
          · rw [if_pos h1, fB_s.1 ⟨hg, Or.inl h1⟩]
          · have jn10 : mm_in (nI j) 10 = true := e_inb (by rw [e_nIt (by omega)]; omega) (by rw [e_nIt (by omega)]; omega)
            have bi := (t_b ht (show i < tN M1 by omega)).2
            have bj := (t_b ht (show j < tN M1 by omega)).2
            rw [if_neg (by rw [h2]; exact f_m1 (by omega)), if_pos in10, h2, if_pos jn10, e_nIc (by omega), e_nIc (by omega), (hA i hi).1, (hA j (by omega)).1]
            by_cases le : tB M1 j ≤ tB M1 i
            · rw [if_pos ((nI_leI (by omega) (by omega)).mpr le), fB_s.2, h2]
              rintro ⟨-, z | z⟩
              · rw [h2] at z
                exact f_m1 (by omega) z
              · rw [h2, e_nIc (by omega)] at z
                omega
            · rw [if_neg (fun z => le ((nI_leI (by omega) (by omega)).mp z)), fB_s.1 ⟨hg, Or.inr (by rw [h2, e_nIc (by omega)]; omega)⟩]
        · rw [if_neg (fun z => c (hsub.mp z))]
          exact same (fun z => c z.2)
      · rw [if_neg (fun z => by rw [(f_bit hD (by omega)).mp z] at hb; cases hb)]
        exact same (fun z => by rw [z.1] at hb; cases hb)
    · rintro a rfl
      refine ⟨fB M1 D n, ?_, rfl⟩
      unfold X5_firstForm_l26
      dsimp only
      rw [if_pos (show nI n ≤ nI n from Int32.le_refl _)]
  obtain ⟨r, h1, h2⟩ := key
  rw [h1, h2]
/-- the reference's -/
theorem f_best2 {M1 M2 N : mm_M} (ht : rl_tape M1 M2) (hN7 : N 7 = M2 7) {n D : Nat} (hn : n ≤ 10) (hnt : n ≤ tN M1) (hD : D < 1024) (hA : ∀ i, i < n → bSet (fP M1 i) (N 27 i)) (x2 x5 : Int32) : mm_loop (X12_firstForm_l20 (nI n) x2 (nI D) x5 N) mm_fuel (-1, 0) = some (fB M1 D n) := by
  have key : ∃ r, mm_loop (X12_firstForm_l20 (nI n) x2 (nI D) x5 N) mm_fuel (-1, 0) = some r ∧ r = fB M1 D n := by
    refine e_for (step := X12_firstForm_l20 (nI n) x2 (nI D) x5 N) n (by omega) (I := fun i a => a = fB M1 D i) (Q := fun r => r = fB M1 D n) ?_ ?_ (-1) rfl
    · rintro i a hi rfl
      have c0 : ¬ nI n ≤ nI i := by
        rw [e_le, e_nIt (by omega), e_nIt (by omega)]
        omega
      have in10 : mm_in (nI i) 10 = true := e_inb (by rw [e_nIt (by omega)]; omega) (by rw [e_nIt (by omega)]; omega)
      have hsub := z_sub (hA i hi) hD (f_lt32 (show i < 10 by omega))
      refine ⟨fB M1 D (i + 1), ?_, rfl⟩
      unfold X12_firstForm_l20
      dsimp only
      rw [if_neg c0]
      cases hb : D.testBit i
      · rw [if_neg (fun z => by rw [(f_has hD (by omega)).mp z] at hb; cases hb), if_pos in10, e_nIc (by omega)]
        rcases Classical.em (∀ l, fP M1 i l → D.testBit l = true) with c | c
        · rw [if_pos (hsub.mpr c)]
          have hg : fG M1 D i := ⟨hb, c⟩
          rcases fB_c (M := M1) (D := D) i with ⟨h1, -⟩ | ⟨j, h1, h2, -⟩
          · rw [if_pos h1, fB_s.1 ⟨hg, Or.inl h1⟩]
          · have bi := (t_b ht (show i < tN M1 by omega)).2
            have bj := (t_b ht (show j < tN M1 by omega)).2
            rw [if_neg (by rw [h2]; exact f_m1 (by omega)), t_octet ht hN7 (show i < tN M1 by omega), Option.bind_some, h2, t_octet ht hN7 (show j < tN M1 by omega), Option.bind_some]
            by_cases le : tB M1 j ≤ tB M1 i
            · rw [if_pos ((nI_leI (by omega) (by omega)).mpr le), fB_s.2, h2]
              rintro ⟨-, z | z⟩
              · rw [h2] at z
                exact f_m1 (by omega) z
              · rw [h2, e_nIc (by omega)] at z
                omega
            · rw [if_neg (fun z => le ((nI_leI (by omega) (by omega)).mp z)), fB_s.1 ⟨hg, Or.inr (by rw [h2, e_nIc (by omega)]; omega)⟩]
        · rw [if_neg (fun z => c (hsub.mp z)), fB_s.2 (fun z => c z.1.2)]
      · rw [if_pos ((f_has hD (by omega)).mpr hb), fB_s.2 (fun z => by rw [z.1.1] at hb; cases hb)]
    · rintro a rfl
      refine ⟨fB M1 D n, ?_, rfl⟩
      unfold X12_firstForm_l20
      dsimp only
      rw [if_pos (show nI n ≤ nI n from Int32.le_refl _)]
  obtain ⟨r, h1, h2⟩ := key
  rw [h1, h2]
theorem f_first {M1 M2 N1 N2 : mm_M} (ht : rl_tape M1 M2) (hN7 : N2 7 = M2 7) {n w : Nat} (hn : n ≤ 10) (hw : w < n) (hnt : n ≤ tN M1) (hA1 : ∀ i, i < n → N1 41 i = nI (tB M1 i) ∧ bSet (fP M1 i) (N1 42 i)) (hA2 : ∀ i, i < n → bSet (fP M1 i) (N2 27 i)) : ∃ r, X5_firstForm (nI n) (nI w) N1 = some r ∧ X12_firstForm (nI n) (nI w) N2 = some r := by
  have key : ∃ r r', mm_loop (X5_firstForm_l8 (nI n) (nI w) N1) mm_fuel (0, -1, 0) = some r ∧ mm_loop (X12_firstForm_l8 (nI n) (nI w) N2) mm_fuel (0, -1, 0) = some r' ∧ ∃ j, j < n ∧ r = .inr (nI j) ∧ r' = nI (tB M1 j) := by
    refine e_loop2F (step := X5_firstForm_l8 (nI n) (nI w) N1) (step' := X12_firstForm_l8 (nI n) (nI w) N2) (I := fun (s : Int32 × Int32 × Int32) (s' : Int32 × Int32 × Int32) => ∃ D i : Nat, D < 1024 ∧ i ≤ w + 1 ∧ sCnt D 10 = i ∧ s.1 = nI D ∧ s'.1 = nI D ∧ s.2.2 = nI i ∧ s'.2.2 = nI i ∧ (i = 0 ∨ ∃ j, j < n ∧ s.2.1 = nI j ∧ s'.2.1 = nI (tB M1 j))) (Q := fun r r' => ∃ j, j < n ∧ r = .inr (nI j) ∧ r' = nI (tB M1 j)) (fun s _ => 20 - Int32.toNatClampNeg s.2.2) ?_ (0, -1, 0) (0, -1, 0) ⟨0, 0, by omega, by omega, by decide, rfl, rfl, rfl, rfl, Or.inl rfl⟩ (by omega)
    rintro ⟨a, b, c⟩ ⟨a', b', c'⟩ ⟨D, i, hD, hi, hc, e1, e2, e3, e4, e5⟩
    dsimp only at e1 e2 e3 e4 e5
    subst e1 e2 e3 e4
    unfold X5_firstForm_l8 X12_firstForm_l8
    dsimp only
    by_cases e : i = w + 1
    · rw [if_pos ((nI_ltI (by omega) (by omega)).mpr (by omega)), if_pos ((nI_ltI (by omega) (by omega)).mpr (by omega))]
      rcases e5 with z | ⟨j, j1, j2, j3⟩
      · omega
      · exact Or.inr ⟨_, _, rfl, rfl, j, j1, by rw [j2], j3⟩
    · rw [if_neg (nI_nlt (by omega) (by omega)), if_neg (nI_ge (by omega) (by omega)), if_neg (nI_nlt (by omega) (by omega)), f_best1 ht hn hnt hD hA1, Option.bind_some, f_best2 ht hN7 hn hnt hD hA2, Option.bind_some]
      obtain ⟨j, j1, j2, j3⟩ := fB_some (M := M1) (n := n) hD hn (by omega)
      rw [j2, t_octet ht hN7 (show j < tN M1 by omega), Option.bind_some]
      unfold X5_firstForm_j107l8
      rw [if_neg (f_m1 (by omega)), z_I hD (by omega), nI_1]
      refine Or.inl ⟨_, _, rfl, rfl, ⟨zI D j, i + 1, (z_ar D hD j (by omega)).1, by omega, by rw [(z_cnt D hD).1 j (by omega) j3.1, hc], rfl, rfl, rfl, rfl, Or.inr ⟨j, j1, rfl, rfl⟩⟩, ?_⟩
      show 20 - Int32.toNatClampNeg (nI (i + 1)) < 20 - Int32.toNatClampNeg (nI i)
      rw [e_nIc (by omega), e_nIc (by omega)]
      omega
  obtain ⟨r, r', h1, h2, j, j1, rfl, rfl⟩ := key
  refine ⟨nI (tB M1 j), ?_, ?_⟩
  · unfold X5_firstForm
    rw [h1, Option.bind_some]
    dsimp only
    unfold X5_firstForm_j128
    rw [if_neg (nI_pos (by omega)), if_neg (fun z => by have := (e_10 (by omega)).mp z; omega), e_nIc (by omega), (hA1 j j1).1]
  · unfold X12_firstForm
    exact h2
theorem f_ok2 {M1 M2 N : mm_M} (ht : rl_tape M1 M2) (hN : N 7 = M2 7) (w : Int32) {n : Nat} (hn : n ≤ tN M1) : ∃ r, mm_loop (X12_forms_l51 (nI n) w N) mm_fuel 0 = some r ∧ ((r = .inr () ∧ ∀ i, i < n → tB M1 i < 8) ∨ (r = .inl (-3, N) ∧ ¬ ∀ i, i < n → tB M1 i < 8)) := by
  have h260 := (t_n ht).2.1
  refine e_for1 (step := X12_forms_l51 (nI n) w N) n (by omega) (I := fun k => ∀ i, i < k → tB M1 i < 8) (Q := fun r => ((r = .inr () ∧ ∀ i, i < n → tB M1 i < 8) ∨ (r = .inl (-3, N) ∧ ¬ ∀ i, i < n → tB M1 i < 8))) ?_ ?_ (fun i h => by omega)
  · intro i hi hI
    have c0 : ¬ nI n ≤ nI i := by
      rw [e_le, e_nIt (by omega), e_nIt (by omega)]
      omega
    have bi := (t_b ht (show i < tN M1 by omega)).2
    unfold X12_forms_l51
    rw [if_neg c0, t_octet ht hN (show i < tN M1 by omega), Option.bind_some]
    by_cases c : tB M1 i < 8
    · rw [if_pos (show nI (tB M1 i) < 8 from (nI_ltI (b := 8) (by omega) (by omega)).mpr c)]
      refine Or.inl ⟨rfl, fun k hk => ?_⟩
      by_cases w : k = i
      · subst w
        exact c
      · exact hI k (by omega)
    · rw [if_neg (fun z => by exact c ((nI_ltI (a := tB M1 i) (b := 8) (by omega) (by omega)).mp z))]
      exact Or.inr ⟨_, rfl, Or.inr ⟨rfl, fun z => c (z i hi)⟩⟩
  · intro hI
    refine ⟨.inr (), ?_, Or.inl ⟨rfl, hI⟩⟩
    unfold X12_forms_l51
    rw [if_pos (show nI n ≤ nI n from Int32.le_refl _)]
theorem rl_onT {M1 M2 : mm_M} (ht : rl_tape M1 M2) {x m : Int32} : X11_isOnTape x m M1 = true ↔ X12_in x 1 m = true ∧ x ≤ M2 0 8 := by
  unfold X11_isOnTape
  rw [rl_inI, ht.1.symm, e_le]
  have k1 : (1 : Int32).toInt = 1 := rfl
  by_cases c1 : x < 1
  · rw [if_pos c1]
    rw [e_lt] at c1
    exact ⟨(fun z => by cases z), (fun z => by omega)⟩
  · rw [if_neg c1]
    by_cases c2 : m < x
    · rw [if_pos c2]
      rw [e_lt] at c2
      exact ⟨(fun z => by cases z), (fun z => by omega)⟩
    · rw [if_neg c2]
      by_cases c3 : M1 1 1 < x
      · rw [if_pos c3]
        rw [e_lt] at c3
        exact ⟨(fun z => by cases z), (fun z => by omega)⟩
      · rw [if_neg c3]
        rw [e_lt] at c1 c2 c3
        exact ⟨fun _ => by omega, fun _ => rfl⟩
theorem op_12 (x y : Int32) : rl_ok (cl_12 x y) (md_12 x y) := by
  intro M1 M2 h
  have hv := h.2.2.2.1
  have hi := h.2.2.2.2.1
  have ht := h.2.2.2.2.2
  have hT := t_n ht
  have k0 : (0 : Int32).toInt = 0 := rfl
  have k1 : (1 : Int32).toInt = 1 := rfl
  have k10 : (10 : Int32).toInt = 10 := rfl
  unfold cl_12 md_12
  have no : ∀ (A : Option (Int32 × mm_M)) (B : Option (Int32 × mm_M)), A = some (-1, M1) → B = some (-1, M2) → ∃ r M1' M2', (A.map fun y => (y.1, y.2)) = some (r, M1') ∧ (B.map fun y => (y.1, y.2)) = some (r, M2') ∧ rl_core M1' M2' ∧ rl_lf M1 M1' M2 M2' := by
    intro A B e1 e2
    rw [e1, e2]
    exact ⟨-1, M1, M2, rfl, rfl, h, rl_lf_rfl⟩
  -- what the class asks first
  have cls : X11_forms x y M1 = X11_forms_j20 x y (decide (y = 100 ∨ (¬ y < 0 ∧ ¬ x ≤ y))) M1 := by
    unfold X11_forms X11_forms_j15 X11_forms_j19
    by_cases a : y = 100
    · rw [if_pos a, decide_eq_true (Or.inl a)]
    · rw [if_neg a]
      by_cases b : y < 0
      · rw [if_pos b, decide_eq_false (fun z => z.elim a (fun z => z.1 b))]
      · rw [if_neg b]
        by_cases c : x ≤ y
        · rw [if_pos c, decide_eq_false (fun z => z.elim a (fun z => z.2 c))]
        · rw [if_neg c, decide_eq_true (Or.inr ⟨b, c⟩)]
  rw [cls]
  unfold X11_forms_j20
  by_cases cx : X12_in x 1 10 = true
  · have hx := rl_inI.mp cx
    rw [k1, k10] at hx
    have hxn := e_nI (show 0 ≤ x.toInt by omega)
    have hxc := e_cl (show 0 ≤ x.toInt by omega)
    generalize Int32.toNatClampNeg x = n at hxn hxc
    subst hxn
    have hn : 1 ≤ n ∧ n ≤ 10 := by omega
    have hp : (nI n - 1).toInt = (n : Int) - 1 := by
      rw [e_sub (by rw [e_nIt (by omega), k1]; omega) (by rw [e_nIt (by omega), k1]; omega), e_nIt (by omega), k1]
    have hy2 : X12_in y 0 (nI n - 1) = true ↔ (¬ y < 0 ∧ ¬ nI n ≤ y) := by
      rw [rl_inI, hp, e_lt, e_le, e_nIt (by omega), k0]
      omega
    by_cases cw : y = 100 ∨ (¬ y < 0 ∧ ¬ nI n ≤ y)
    · have m0 : X12_forms (nI n) y M2 = if M2 0 6 = 0 then some (-1, M2) else X12_forms_j34 (nI n) y M2 := by
        unfold X12_forms
        rw [if_pos cx]
        by_cases z : X12_in y 0 (nI n - 1) = true
        · rw [if_pos z]
        · rw [if_neg z, if_pos (show y = 100 from cw.elim (fun q => q) (fun q => absurd (hy2.mpr q) z))]
      rw [m0, if_pos (decide_eq_true cw)]
      by_cases ct : nI n ≤ M2 0 8
      · have hnt : n ≤ tN M1 := by
          rw [hT.2.2.2, nI_leI (by omega) (by omega)] at ct
          exact ct
        rw [if_pos ((rl_onT ht).mpr ⟨cx, ct⟩)]
        by_cases c4 : X8_isTold M1 = true
        · have c5 := (rl_told hv).mp c4
          rw [if_pos c4, if_neg c5]
          unfold X12_forms_j34
          rw [if_pos ct]
          obtain ⟨bk, e1, hb⟩ := od_below ht (a := 0) (n := n) (c := 8) (by omega) hnt (by omega)
          have e1' : X7_isBelow 0 (nI n) 8 M1 = some bk := e1
          have hb' : bk = true ↔ ∀ i, i < n → tB M1 i < 8 := hb.trans ⟨fun z i hi => z i (by omega) hi, fun z i _ hi => z i hi⟩
          obtain ⟨r, e2, hr⟩ := f_ok2 (N := mm_U M2 0 8 0) ht rfl y hnt
          rw [e1', Option.bind_some, e2, Option.bind_some]
          rcases hr with ⟨rfl, hok⟩ | ⟨rfl, hok⟩
          · have hbt := hb'.mpr hok
            subst hbt
            rw [if_pos rfl]
            obtain ⟨N1, o1, o2, o3⟩ := f_order1 hv hi ht hn.2 hnt hok
            obtain ⟨N2, p1, p2, p3⟩ := f_order2 (K2 := mm_U M2 0 8 0) hv hi ht hv rfl hn.2 hnt hok
            rw [o1, Option.bind_some]
            dsimp only
            rw [p1, Option.bind_some]
            have j81 : X11_forms_j81 (nI n) y true N1 = (if y = 100 then (X5_countForms (nI n) (mm_U N1 1 1 0)).bind fun y15 => some (y15.1, y15.2) else (X5_firstForm (nI n) y (mm_U N1 1 1 0)).bind fun y17 => some (y17, mm_U N1 1 1 0)) := rfl
            rw [j81]
            have keepC : ∀ K1 K2 : mm_M, (∀ b, b ≠ 38 → b ≠ 41 → b ≠ 42 → K1 b = mm_U M1 1 1 0 b) → (∀ b, b ≠ 27 → b ≠ 28 → K2 b = mm_U M2 0 8 0 b) → rl_core K1 K2 ∧ rl_lf M1 K1 M2 K2 := by
              intro K1 K2 q1 q2
              refine ⟨rl_core_congr (rl_core_clear h) ?_ ?_, ?_⟩
              · unfold rl_same1
                rw [q1 0 (by decide) (by decide) (by decide), q1 1 (by decide) (by decide) (by decide), q1 2 (by decide) (by decide) (by decide), q1 3 (by decide) (by decide) (by decide), q1 4 (by decide) (by decide) (by decide), q1 5 (by decide) (by decide) (by decide), q1 7 (by decide) (by decide) (by decide), q1 8 (by decide) (by decide) (by decide), q1 9 (by decide) (by decide) (by decide)]
                exact rl_same1_rfl
              · unfold rl_same2
                rw [q2 0 (by decide) (by decide), q2 1 (by decide) (by decide), q2 3 (by decide) (by decide), q2 4 (by decide) (by decide), q2 5 (by decide) (by decide), q2 6 (by decide) (by decide), q2 7 (by decide) (by decide)]
                exact rl_same2_rfl
              · unfold rl_lf
                rw [q1 13 (by decide) (by decide) (by decide), q1 14 (by decide) (by decide) (by decide), q1 15 (by decide) (by decide) (by decide), q1 16 (by decide) (by decide) (by decide), q1 17 (by decide) (by decide) (by decide), q1 18 (by decide) (by decide) (by decide), q1 32 (by decide) (by decide) (by decide), q2 0 (by decide) (by decide), q2 14 (by decide) (by decide), q2 15 (by decide) (by decide), q2 16 (by decide) (by decide), q2 17 (by decide) (by decide), q2 18 (by decide) (by decide)]
                exact rl_lf_clear
            have o3' : ∀ b, b ≠ 41 → b ≠ 42 → mm_U N1 1 1 0 b = mm_U M1 1 1 0 b := by
              intro b b1 b2
              by_cases w : b = 1
              · subst w
                rw [mm_U_eq, mm_U_eq, o3 1 (by decide) (by decide)]
              · rw [mm_U_ne b w, mm_U_ne b w]
                exact o3 b b1 b2
            by_cases z : y = 100
            · rw [if_pos z, if_pos z]
              obtain ⟨K1, q1, q2⟩ := f_count1 (M1 := M1) (N0 := mm_U N1 1 1 0) hn.1 hn.2 (fun i hi => by rw [mm_U_ne 42 (by decide)]; exact (o2 i hi).2)
              obtain ⟨K2, u1, u2⟩ := f_count2 (M1 := M1) (N0 := N2) hn.2 p2
              rw [q1, Option.bind_some, u1, Option.bind_some]
              have := keepC K1 K2 (fun b b1 b2 b3 => by rw [q2 b b1]; exact o3' b b2 b3) (fun b b1 b2 => by rw [u2 b b2]; exact p3 b b1)
              exact ⟨_, _, _, rfl, rfl, this.1, this.2⟩
            · have hyw : ¬ y < 0 ∧ ¬ nI n ≤ y := cw.elim (fun q => absurd q z) id
              rw [e_lt, e_le, e_nIt (by omega), k0] at hyw
              have hyn := e_nI (show 0 ≤ y.toInt by omega)
              have hyc := e_cl (show 0 ≤ y.toInt by omega)
              generalize Int32.toNatClampNeg y = w at hyn hyc
              subst hyn
              have hw : w < n := by omega
              rw [if_neg z, if_neg z]
              obtain ⟨r, q1, q2⟩ := f_first (N1 := mm_U N1 1 1 0) (N2 := N2) ht (by rw [p3 7 (by decide)]; rfl) hn.2 hw hnt (fun i hi => by rw [mm_U_ne 41 (by decide), mm_U_ne 42 (by decide)]; exact o2 i hi) p2
              rw [q1, Option.bind_some, q2, Option.bind_some]
              have := keepC (mm_U N1 1 1 0) N2 (fun b b1 b2 b3 => o3' b b2 b3) (fun b b1 b2 => p3 b b1)
              exact ⟨_, _, _, rfl, rfl, this.1, this.2⟩
          · have hbt : bk = false := by
              cases bk
              · rfl
              · exact absurd (hb'.mp rfl) hok
            subst hbt
            rw [if_neg (by decide)]
            have j81 : X11_forms_j81 (nI n) y false M1 = some (-3, mm_U M1 1 1 0) := rfl
            rw [j81]
            exact ⟨-3, _, _, rfl, rfl, rl_core_clear h, rl_lf_clear⟩
        · have c5 : M2 0 6 = 0 := by
            rcases Decidable.em (M2 0 6 = 0) with q | q
            · exact q
            · exact absurd ((rl_told hv).mpr q) c4
          rw [if_neg c4, if_pos c5]
          exact no _ _ rfl rfl
      · rw [if_neg (fun z => ct ((rl_onT ht).mp z).2)]
        refine no _ _ rfl ?_
        unfold X12_forms_j34
        rw [if_neg ct, ite_self]
    · rw [if_neg (by rw [decide_eq_true_eq]; exact cw)]
      refine no _ _ rfl ?_
      unfold X12_forms
      rw [if_pos cx, if_neg (fun z => cw (Or.inr (hy2.mp z))), if_neg (fun z => cw (Or.inl z)), ite_self]
  · rw [if_neg (fun z => cx ((rl_onT ht).mp z).1), ite_self]
    refine no _ _ rfl ?_
    unfold X12_forms
    rw [if_neg cx, ite_self]
