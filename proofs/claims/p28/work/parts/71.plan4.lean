-- plans: the class, its rounds
/-- rows 38 as the rounds have them: f of the sets in the line, the others unseen -/
def yK (N0 N : mm_M) (f : Nat → Nat) : Prop := (∀ m, m < 1024 → ¬ N0 38 m = -1 → N 38 m = nI (f m)) ∧ ∀ b, b ≠ 38 → b ≠ 40 → N b = N0 b
theorem y_needs {M1 M2 N0 N : mm_M} (hv : rl_val M1 M2) (hi : rl_in M1) {T : Int32} {k : Nat} (hE : yE M1 N0 T k) {f : Nat → Nat} (hN : yK N0 N f) {m q r : Nat} (hm : m < 1024) (hq : q < 8) (hs : ∀ a, a < 10 → ¬ yP M1 m q a = 0 → ¬ N0 38 (yP M1 m q a) = -1) (hf : ∀ m, f m < 2000000) (hr : r < 2000000) : ∃ b N', X5_needsFewer (nI m) (nI q) (nI r) N = some (b, N') ∧ yK N0 N' f ∧ (b = true ↔ ∀ a, a < 10 → ¬ yP M1 m q a = 0 → f (yP M1 m q a) < r) := by
  have hp := y_pow hv
  have e7 : ∀ b, b < 36 → N b = M1 b := fun b hb => by
    rw [hN.2 b (by omega) (by omega)]
    exact hE.2.2.2 b (by omega) (by omega) (by omega) (by omega) (by omega)
  obtain ⟨K, s1, s2, s3⟩ := y_split hv (e7 7 (by omega)) (e7 8 (by omega)) (e7 9 (by omega)) hm hq
  have hK : yK N0 K f := ⟨fun x hx hz => by rw [s3 38 (by decide)]; exact hN.1 x hx hz, fun b b1 b2 => by rw [s3 b b2]; exact hN.2 b b1 b2⟩
  have lt : ∀ a, yP M1 m q a < 1024 := fun a => by have := yP_lt (m := m) (a := a) hv hi hq; omega
  have key : ∃ p, mm_loop (X5_needsFewer_l10 (nI r) K) mm_fuel 0 = some p ∧ p.2 = K ∧ (p.1 = true ↔ ∀ a, a < 10 → ¬ yP M1 m q a = 0 → f (yP M1 m q a) < r) := by
    refine e_for1 (step := X5_needsFewer_l10 (nI r) K) 10 (by omega) (I := fun i => ∀ a, a < i → ¬ yP M1 m q a = 0 → f (yP M1 m q a) < r) (Q := fun p => p.2 = K ∧ (p.1 = true ↔ ∀ a, a < 10 → ¬ yP M1 m q a = 0 → f (yP M1 m q a) < r)) ?_ ?_ (fun a ha => by omega)
    · intro i hi10 hI
      have in10 : mm_in (nI i) 10 = true := e_inb (by rw [e_nIt (by omega)]; omega) (by rw [e_nIt (by omega)]; omega)
      have hl := lt i
      unfold X5_needsFewer_l10
      rw [if_neg (fun z => by have := (nI_ltI (a := 9) (by omega) (by omega)).mp z; omega), if_pos in10, if_pos in10]
      simp only [e_nIc (show i < 2147483648 by omega), s2 i hi10]
      have next : (¬ yP M1 m q i = 0 → f (yP M1 m q i) < r) → ∀ a, a < i + 1 → ¬ yP M1 m q a = 0 → f (yP M1 m q a) < r := by
        intro h a ha
        by_cases w : a = i
        · subst w
          exact h
        · exact hI a (by omega)
      by_cases z : yP M1 m q i = 0
      · rw [if_pos (by rw [z]; rfl)]
        exact Or.inl ⟨rfl, next (fun y => absurd z y)⟩
      · have hw : X5_worthOf (nI (yP M1 m q i)) K = nI (f (yP M1 m q i)) := by
          unfold X5_worthOf
          rw [if_neg (nI_pos (by omega)), if_neg (fun z => by have := (nI_leI (a := 1024) (by omega) (by omega)).mp z; omega), e_nIc (by omega)]
          exact hK.1 _ hl (hs i hi10 z)
        have hfi := hf (yP M1 m q i)
        rw [if_neg (fun y => by exact z ((nI_eq (b := 0) (by omega) (by omega)).mp y))]
        simp only [hw]
        by_cases c : f (yP M1 m q i) < r
        · rw [if_pos ((nI_ltI (by omega) (by omega)).mpr c)]
          exact Or.inl ⟨rfl, next (fun _ => c)⟩
        · rw [if_neg (fun y => c ((nI_ltI (by omega) (by omega)).mp y))]
          exact Or.inr ⟨_, rfl, rfl, ⟨(fun y => by cases y), (fun y => absurd (y i hi10 z) c)⟩⟩
    · intro hI
      refine ⟨(true, K), ?_, rfl, ⟨fun _ => hI, fun _ => rfl⟩⟩
      unfold X5_needsFewer_l10
      rw [if_pos (show (9 : Int32) < nI 10 from (nI_ltI (a := 9) (by omega) (by omega)).mpr (by omega))]
  obtain ⟨⟨b, K'⟩, h1, h2, h3⟩ := key
  try dsimp only at h2 h3
  subst h2
  refine ⟨b, K', ?_, hK, h3⟩
  unfold X5_needsFewer
  rw [s1, Option.bind_some, h1]
theorem y_first {M1 M2 N0 N : mm_M} (hv : rl_val M1 M2) (hi : rl_in M1) {T : Int32} (hT : bSet (fun q => q < 8 ∧ yT M1 q) T) {k : Nat} (hE : yE M1 N0 T k) {f : Nat → Nat} (hN : yK N0 N f) {m r : Nat} (hm : m < 1024) (h2 : 2 ≤ sCnt m 10) (hC : yC M1 N0 m) (hf : ∀ m, f m < 2000000) (hr : r < 2000000) : ∃ y N', X5_firstSure (nI m) (nI r) N = some (y, N') ∧ yK N0 N' f ∧ e_first (fun q => ¬ (yT M1 q ∧ ∀ a, a < 10 → ¬ yP M1 m q a = 0 → f (yP M1 m q a) < r)) 8 y := by
  have key : ∃ p, mm_loop (X5_firstSure_l3 (nI m) (nI r)) mm_fuel (0, N) = some p ∧ yK N0 p.2 f ∧ e_first (fun q => ¬ (yT M1 q ∧ ∀ a, a < 10 → ¬ yP M1 m q a = 0 → f (yP M1 m q a) < r)) 8 p.1 := by
    refine e_loopF (step := X5_firstSure_l3 (nI m) (nI r)) (I := fun (z : Int32 × mm_M) => ∃ i : Nat, i ≤ 8 ∧ z.1 = nI i ∧ yK N0 z.2 f ∧ ∀ q, q < i → ¬ (yT M1 q ∧ ∀ a, a < 10 → ¬ yP M1 m q a = 0 → f (yP M1 m q a) < r)) (Q := fun (p : Int32 × mm_M) => yK N0 p.2 f ∧ e_first (fun q => ¬ (yT M1 q ∧ ∀ a, a < 10 → ¬ yP M1 m q a = 0 → f (yP M1 m q a) < r)) 8 p.1) (fun z => 20 - Int32.toNatClampNeg z.1) ?_ (0, N) ⟨0, by omega, rfl, hN, fun q hq => by omega⟩ (by omega)
    rintro ⟨x, L⟩ ⟨i, hi8, hx, g1, g2⟩
    try dsimp only at hx g1 g2
    subst hx
    unfold X5_firstSure_l3
    try dsimp only
    by_cases e : i = 8
    · subst e
      rw [if_pos ((e_8 (by omega)).mpr (Nat.le_refl _))]
      exact Or.inr ⟨_, rfl, g1, Or.inl ⟨rfl, g2⟩⟩
    · have hlt : 20 - Int32.toNatClampNeg (nI i + 1) < 20 - Int32.toNatClampNeg (nI i) := by
        rw [nI_1, e_nIc (by omega), e_nIc (by omega)]
        omega
      have hT7 : L 36 7 = T := by
        rw [g1.2 36 (by decide) (by decide)]
        exact hE.1.2.2.2
      have hb := (nx_has T (show i < 32 by omega)).2
      have ht : bt T i = true ↔ yT M1 i := (hT i (by omega)).trans ⟨fun z => z.2, fun z => ⟨by omega, z⟩⟩
      rw [if_neg (fun z => by have := (e_8 (by omega)).mp z; omega)]
      simp only [hT7]
      have next : ∀ L', yK N0 L' f → ¬ (yT M1 i ∧ ∀ a, a < 10 → ¬ yP M1 m i a = 0 → f (yP M1 m i a) < r) → ∃ j : Nat, j ≤ 8 ∧ ((nI i + 1, L') : Int32 × mm_M).1 = nI j ∧ yK N0 ((nI i + 1, L') : Int32 × mm_M).2 f ∧ ∀ q, q < j → ¬ (yT M1 q ∧ ∀ a, a < 10 → ¬ yP M1 m q a = 0 → f (yP M1 m q a) < r) := by
        intro L' hL hno
        refine ⟨i + 1, by omega, nI_1 i, hL, fun q hq => ?_⟩
        by_cases w : q = i
        · subst w
          exact hno
        · exact g2 q (by omega)
      rcases Classical.em (yT M1 i) with t | t
      · rw [if_neg (fun z => (hb.mp z) (ht.mpr t))]
        obtain ⟨b, N', n1, n2, n3⟩ := y_needs (q := i) (r := r) hv hi hE g1 hm (by omega) (fun a ha hz => hC h2 i (by omega) t a ha hz) hf hr
        rw [n1, Option.bind_some]
        try dsimp only
        by_cases c : b = true
        · rw [if_pos c]
          exact Or.inr ⟨_, rfl, n2, Or.inr ⟨i, by omega, rfl, fun z => z ⟨t, n3.mp c⟩, g2⟩⟩
        · rw [if_neg c]
          exact Or.inl ⟨_, rfl, next N' n2 (fun z => c (n3.mpr z.2)), hlt⟩
      · rw [if_pos (hb.mpr (fun z => t (ht.mp z)))]
        exact Or.inl ⟨_, rfl, next L g1 (fun z => t z.1), hlt⟩
  obtain ⟨⟨y, N'⟩, h1, h2, h3⟩ := key
  exact ⟨y, N', h1, h2, h3⟩
def yw (c : Nat → Nat) (r m : Nat) : Nat := if c m < r then c m else 1024
theorem yw_lt {c : Nat → Nat} {r m : Nat} (hr : r ≤ 1025) : yw c r m ≤ 1024 := by
  unfold yw
  split <;> omega
noncomputable def yF (N0 : mm_M) (c : Nat → Nat) (r i m : Nat) : Nat := @ite Nat (∃ j, j < i ∧ N0 37 j = nI m) (Classical.propDecidable _) (yw c (r + 1) m) (yw c r m)
theorem yF_or {N0 : mm_M} {c : Nat → Nat} {r i m : Nat} : ((∃ j, j < i ∧ N0 37 j = nI m) → yF N0 c r i m = yw c (r + 1) m) ∧ (¬ (∃ j, j < i ∧ N0 37 j = nI m) → yF N0 c r i m = yw c r m) := by
  unfold yF
  exact ⟨fun h => by rw [if_pos h], fun h => by rw [if_neg h]⟩
theorem yF_lt {N0 : mm_M} {c : Nat → Nat} {r i m : Nat} (hr : r ≤ 1024) : yF N0 c r i m ≤ 1024 ∧ (yF N0 c r i m < r ↔ c m < r) := by
  rcases Classical.em (∃ j, j < i ∧ N0 37 j = nI m) with z | z
  · rw [yF_or.1 z]
    refine ⟨yw_lt (by omega), ?_⟩
    unfold yw
    split <;> omega
  · rw [yF_or.2 z]
    refine ⟨yw_lt (by omega), ?_⟩
    unfold yw
    split <;> omega
theorem y_round {M1 M2 N0 N : mm_M} (hv : rl_val M1 M2) (hi : rl_in M1) {T : Int32} (hT : bSet (fun q => q < 8 ∧ yT M1 q) T) {k : Nat} (hE : yE M1 N0 T k) (hC : ∀ m, m < 1024 → ¬ N0 38 m = -1 → yC M1 N0 m) {c : Nat → Nat} (hc : yV M1 c) {r : Nat} (hr1 : 1 ≤ r) (hr : r ≤ 1024) (hN : yK N0 N (yw c r)) (x2 : Int32) : ∃ b N', mm_loop (X5_makeSure_l47 x2 (nI r)) mm_fuel (false, 0, N) = some (b, N') ∧ yK N0 N' (yw c (r + 1)) ∧ (b = false → ∀ m, m < 1024 → ¬ N0 38 m = -1 → ¬ c m = r) := by
  have hp := y_pow hv
  obtain ⟨⟨e1, e2, e3, e4⟩, e5, e6, e7⟩ := id hE
  have key : ∃ p, mm_loop (X5_makeSure_l47 x2 (nI r)) mm_fuel (false, 0, N) = some p ∧ yK N0 p.2 (yF N0 c r k) ∧ (p.1 = false → ∀ j, j < k → ∀ m, m < 1024 → N0 37 j = nI m → ¬ c m = r) := by
    refine e_loopF (step := X5_makeSure_l47 x2 (nI r)) (I := fun (z : Bool × Int32 × mm_M) => ∃ i : Nat, i ≤ k ∧ z.2.1 = nI i ∧ yK N0 z.2.2 (yF N0 c r i) ∧ (z.1 = false → ∀ j, j < i → ∀ m, m < 1024 → N0 37 j = nI m → ¬ c m = r)) (Q := fun (p : Bool × mm_M) => yK N0 p.2 (yF N0 c r k) ∧ (p.1 = false → ∀ j, j < k → ∀ m, m < 1024 → N0 37 j = nI m → ¬ c m = r)) (fun z => 2000 - Int32.toNatClampNeg z.2.1) ?_ (false, 0, N) ⟨0, by omega, rfl, ⟨fun m hm hs => ?_, hN.2⟩, fun _ j hj => by omega⟩ (by omega)
    · rintro ⟨b, x, L⟩ ⟨i, hik, hx, g1, g2⟩
      try dsimp only at hx g1 g2
      subst hx
      have l6 : L 36 6 = nI k := by
        rw [g1.2 36 (by decide) (by decide)]
        exact e3
      have l37 : L 37 = N0 37 := g1.2 37 (by decide) (by decide)
      unfold X5_makeSure_l47
      try dsimp only
      simp only [l6, l37]
      by_cases e : i = k
      · subst e
        rw [if_pos (show nI i ≤ nI i from Int32.le_refl _)]
        exact Or.inr ⟨_, rfl, g1, g2⟩
      · obtain ⟨m, m1, m2, m3⟩ := e5 i (by omega)
        have hm : m < 1024 := by omega
        have hlt : 2000 - Int32.toNatClampNeg (nI i + 1) < 2000 - Int32.toNatClampNeg (nI i) := by
          rw [nI_1, e_nIc (by omega), e_nIc (by omega)]
          omega
        have hLm := g1.1 m hm m3
        have hFm := yF_lt (N0 := N0) (c := c) (i := i) (m := m) hr
        -- what the row becomes behind this place
        have go : ∀ (L' : mm_M) (v : Nat), (∀ y, y < 1024 → ¬ N0 38 y = -1 → L' 38 y = if y = m then nI v else nI (yF N0 c r i y)) → (∀ b, b ≠ 38 → b ≠ 40 → L' b = N0 b) → v = yw c (r + 1) m → yK N0 L' (yF N0 c r (i + 1)) := by
          intro L' v h1 h2 h3
          refine ⟨fun y hy hs => ?_, h2⟩
          rw [h1 y hy hs]
          by_cases w : y = m
          · subst w
            rw [if_pos rfl, h3, yF_or.1 ⟨i, by omega, m2⟩]
          · rw [if_neg w]
            rcases Classical.em (∃ j, j < i ∧ N0 37 j = nI y) with z | z
            · obtain ⟨j, j1, j2⟩ := z
              rw [yF_or.1 ⟨j, j1, j2⟩, yF_or.1 ⟨j, by omega, j2⟩]
            · rw [yF_or.2 z, yF_or.2]
              rintro ⟨j, j1, j2⟩
              by_cases q : j = i
              · subst q
                rw [m2] at j2
                exact w ((nI_eq (by omega) (by omega)).mp j2).symm
              · exact z ⟨j, by omega, j2⟩
        have flag : ∀ b' : Bool, (b' = false → b = false ∧ ¬ c m = r) → (b' = false → ∀ j, j < i + 1 → ∀ m, m < 1024 → N0 37 j = nI m → ¬ c m = r) := by
          intro b' hb' z j hj y hy ey
          by_cases q : j = i
          · subst q
            rw [m2] at ey
            rw [← (nI_eq (by omega) (by omega)).mp ey]
            exact (hb' z).2
          · exact g2 (hb' z).1 j (by omega) y hy ey
        rw [if_neg (fun z => by have := (nI_leI (by omega) (by omega)).mp z; omega), if_neg (fun z => by have := (nI_leI (a := 1024) (by omega) (by omega)).mp z; omega), if_pos (f_in (show i < 1024 by omega))]
        simp only [e_nIc (show i < 2147483648 by omega), m2, k_mask hm, e_nIc (show m < 2147483648 by omega), hLm]
        rw [if_pos (f_in hm)]
        rw [e_nIc (show i < 2147483648 by omega)] at hlt
        by_cases un : yF N0 c r i m = 1024
        · have hge : r ≤ c m := by
            rcases Nat.lt_or_ge (c m) r with w | w
            · have := hFm.2.mpr w
              omega
            · exact w
          have h2 : 2 ≤ sCnt m 10 := by
            rcases Nat.lt_or_ge (sCnt m 10) 2 with w | w
            · have := (hc.1 m hm).2.2 w
              omega
            · exact w
          rw [if_pos (by rw [un]; rfl)]
          obtain ⟨y, N', n1, n2, n3⟩ := y_first hv hi hT hE g1 hm h2 (hC m hm m3) (fun x => by have := (yF_lt (N0 := N0) (c := c) (i := i) (m := x) hr).1; omega) (show r < 2000000 by omega)
          rw [n1, Option.bind_some]
          try dsimp only
          have xq : ∀ q, q < 8 → (∀ a, a < 10 → ¬ yP M1 m q a = 0 → yF N0 c r i (yP M1 m q a) < r) → c m ≤ r := by
            intro q hq h
            have := hc.2 m m1 h2 q hq
            have h3 : yM M1 c m q ≤ r - 1 := yM_ub (fun a ha hz => by
              have := (yF_lt (N0 := N0) (c := c) (i := i) (m := yP M1 m q a) hr).2.mp (h a ha hz)
              omega)
            omega
          rcases n3 with ⟨y1, y2⟩ | ⟨q, q1, q2, q3, q4⟩
          · have hne : ¬ c m = r := by
              intro z
              obtain ⟨j, rfl⟩ : ∃ j, r = j + 1 := ⟨r - 1, by omega⟩
              obtain ⟨q, hq, ht, hub, -⟩ := yV_att hv hi hc m1 z (by omega)
              refine y2 q hq ⟨ht, fun a ha hz => ?_⟩
              refine (yF_lt (N0 := N0) (c := c) (i := i) (m := yP M1 m q a) hr).2.mpr ?_
              have := hub a ha hz
              omega
            rw [if_pos y1]
            refine Or.inl ⟨_, rfl, ⟨i + 1, by omega, nI_1 i, go N' 1024 (fun x hx hs => ?_) n2.2 ?_, flag b (fun z => ⟨z, hne⟩)⟩, hlt⟩
            · rw [n2.1 x hx hs]
              by_cases w : x = m
              · subst w
                rw [if_pos rfl, un]
              · rw [if_neg w]
            · unfold yw
              rw [if_neg (by omega)]
          · have hq3 := Classical.not_not.mp q3
            have heq : c m = r := by
              have := xq q q1 hq3.2
              omega
            rw [if_neg (by rw [q2]; exact f_m1 (by omega)), if_pos (f_in hm)]
            refine Or.inl ⟨_, rfl, ⟨i + 1, by omega, nI_1 i, go _ r (fun x hx hs => ?_) (fun b b1 b2 => (mm_U_ne b b1).trans (n2.2 b b1 b2)) ?_, flag true (fun z => by cases z)⟩, hlt⟩
            · show mm_U N' 38 m (nI r) 38 x = _
              rw [e_U]
              by_cases w : x = m
              · rw [if_pos ⟨rfl, w⟩, if_pos w]
              · rw [if_neg (fun z => w z.2), if_neg w]
                exact n2.1 x hx hs
            · unfold yw
              rw [if_pos (by omega), heq]
        · have h1024 := hFm.1
          rw [if_neg (fun z => by exact un ((nI_eq (b := 1024) (by omega) (by omega)).mp z))]
          have hsame : yF N0 c r i m = yw c (r + 1) m ∧ c m < r + 1 := by
            rcases Classical.em (∃ j, j < i ∧ N0 37 j = nI m) with z | z
            · rw [yF_or.1 z] at un ⊢
              refine ⟨rfl, ?_⟩
              unfold yw at un
              split at un
              · assumption
              · exact absurd rfl un
            · rw [yF_or.2 z] at un ⊢
              unfold yw at un ⊢
              split at un
              · rename_i w
                rw [if_pos w, if_pos (by omega)]
                exact ⟨rfl, by omega⟩
              · exact absurd rfl un
          have hb' : b = false → ¬ c m = r := by
            intro z y
            rcases Classical.em (∃ j, j < i ∧ N0 37 j = nI m) with w | w
            · obtain ⟨j, j1, j2⟩ := w
              exact g2 z j j1 m hm j2 y
            · rw [yF_or.2 w] at un
              unfold yw at un
              rw [if_neg (by omega)] at un
              exact un rfl
          refine Or.inl ⟨_, rfl, ⟨i + 1, by omega, nI_1 i, go L (yw c (r + 1) m) (fun x hx hs => ?_) g1.2 rfl, flag b (fun z => ⟨z, hb' z⟩)⟩, hlt⟩
          rw [g1.1 x hx hs]
          by_cases w : x = m
          · subst w
            rw [if_pos rfl, hsame.1]
          · rw [if_neg w]
    · rw [yF_or.2 (fun z => by obtain ⟨j, h, -⟩ := z; omega)]
      exact hN.1 m hm hs
  obtain ⟨⟨b, N'⟩, h1, h2, h3⟩ := key
  try dsimp only at h2 h3
  refine ⟨b, N', h1, ⟨fun m hm hs => ?_, h2.2⟩, fun z m hm hs => ?_⟩
  · rcases e6 m hm with w | ⟨-, -, -, j, j1, j2⟩
    · exact absurd w hs
    · rw [h2.1 m hm hs, yF_or.1 ⟨j, j1, j2⟩]
  · rcases e6 m hm with w | ⟨-, -, -, j, j1, j2⟩
    · exact absurd w hs
    · exact h3 z j j1 m hm j2
theorem y_worth {N0 N : mm_M} {f : Nat → Nat} (h : yK N0 N f) {m : Nat} (hm : m < 1024) (hs : ¬ N0 38 m = -1) : X5_worthOf (nI m) N = nI (f m) := by
  unfold X5_worthOf
  rw [if_neg (nI_pos (by omega)), if_neg (fun z => by have := (nI_leI (a := 1024) (by omega) (by omega)).mp z; omega), e_nIc (by omega)]
  exact h.1 m hm hs
theorem y_sure {M1 M2 : mm_M} (hv : rl_val M1 M2) (hi : rl_in M1) {c : Nat → Nat} (hc : yV M1 c) {m0 : Nat} (hm0 : m0 < 2 ^ vN M1) (h0 : ¬ m0 = 0) : ∃ N0 N T k r, X5_makeSure (nI m0) M1 = some (if c m0 < 1000000 then nI (c m0) else -2, N) ∧ bSet (fun q => q < 8 ∧ yT M1 q) T ∧ yE M1 N0 T k ∧ (∀ m, m < 1024 → ¬ N0 38 m = -1 → yC M1 N0 m) ∧ ¬ N0 38 m0 = -1 ∧ yK N0 N (yw c r) ∧ r ≤ 1025 ∧ (c m0 < 1000000 → c m0 < r) := by
  have hp := y_pow hv
  obtain ⟨T, t1, hT⟩ := y_telling hv
  obtain ⟨N0, k, x1, hE, hs0, hC⟩ := y_explore hv hi hT hm0 h0
  have hm0' : m0 < 1024 := by omega
  have seenlt : ∀ m, m < 1024 ∧ ¬ N0 38 m = -1 → m < 2 ^ vN M1 := by
    rintro m ⟨hm, hs⟩
    rcases hE.2.2.1 m hm with z | z
    · exact absurd z hs
    · exact z.2.2.1
  have start : yK N0 N0 (yw c 1) := by
    refine ⟨fun m hm hs => ?_, fun _ _ _ => rfl⟩
    rcases hE.2.2.1 m hm with z | ⟨z1, z2, z3, -⟩
    · exact absurd z hs
    · rw [z1]
      unfold yw
      by_cases w : sCnt m 10 = 1
      · have := (hc.1 m hm).2.2 (by omega)
        rw [if_pos w, if_pos (by omega), this]
      · have h1 := y_cnt m hm z2
        have : ¬ c m < 1 := by
          intro y
          have := (hc.1 m hm).2.1 (by omega)
          rw [show c m = 0 by omega] at this
          have h3 : sCnt m 10 < 2 := this
          omega
        rw [if_neg w, if_neg this]
  have loop : ∃ N, mm_loop (X5_makeSure_l19 (nI m0)) mm_fuel (true, 1, N0) = some N ∧ ∃ r, yK N0 N (yw c r) ∧ r ≤ 1025 ∧ (c m0 < 1000000 → c m0 < r) := by
    refine e_loopF (step := X5_makeSure_l19 (nI m0)) (I := fun (z : Bool × Int32 × mm_M) => ∃ r : Nat, 1 ≤ r ∧ r ≤ 1025 ∧ z.2.1 = nI r ∧ yK N0 z.2.2 (yw c r) ∧ (z.1 = false → ∀ m, m < 1024 → ¬ N0 38 m = -1 → c m < 1000000 → c m < r)) (Q := fun (N : mm_M) => ∃ r, yK N0 N (yw c r) ∧ r ≤ 1025 ∧ (c m0 < 1000000 → c m0 < r)) (fun z => 2000 - Int32.toNatClampNeg z.2.1) ?_ (true, 1, N0) ⟨1, by omega, by omega, rfl, start, (fun z => by cases z)⟩ (by omega)
    rintro ⟨b, x, L⟩ ⟨r, hr1, hr2, hx, g1, g2⟩
    try dsimp only at hx g1 g2
    subst hx
    have hw := y_worth g1 hm0' hs0
    have hwl := yw_lt (c := c) (m := m0) hr2
    unfold X5_makeSure_l19
    try dsimp only
    simp only [hw]
    by_cases e : r = 1025
    · rw [if_pos (show (1024 : Int32) < nI r from (nI_ltI (a := 1024) (by omega) (by omega)).mpr (by omega))]
      refine Or.inr ⟨L, rfl, r, g1, hr2, fun z => ?_⟩
      have := yV_1023 hv hi hc hm0 z
      omega
    · rw [if_neg (fun z => by have := (nI_ltI (a := 1024) (by omega) (by omega)).mp z; omega)]
      cases b
      · rw [if_neg (by decide)]
        exact Or.inr ⟨L, rfl, r, g1, hr2, g2 rfl m0 hm0' hs0⟩
      · rw [if_pos rfl]
        by_cases u : yw c r m0 = 1024
        · rw [if_pos (by rw [u]; rfl)]
          obtain ⟨b', N', n1, n2, n3⟩ := y_round hv hi hT hE hC hc hr1 (by omega) g1 (nI m0)
          rw [n1, Option.bind_some]
          refine Or.inl ⟨_, rfl, ⟨r + 1, by omega, by omega, nI_1 r, n2, fun z m hm hs hf => ?_⟩, ?_⟩
          · have := yV_chain hv hi hc (S := fun m => m < 1024 ∧ ¬ N0 38 m = -1) seenlt (fun m hm h2 q hq tq a ha hz => ⟨by have := yP_lt (m := m) (a := a) hv hi hq; omega, hC m hm.1 hm.2 h2 q hq tq a ha hz⟩) (r := r) (fun m hm => n3 z m hm.1 hm.2) (c m)
            rcases Nat.lt_or_ge (c m) (r + 1) with w | w
            · exact w
            · exact absurd rfl (this (by omega) hf m ⟨hm, hs⟩)
          · show 2000 - Int32.toNatClampNeg (nI r + 1) < 2000 - Int32.toNatClampNeg (nI r)
            rw [nI_1, e_nIc (by omega), e_nIc (by omega)]
            omega
        · rw [if_neg (fun z => by exact u ((nI_eq (b := 1024) (by omega) (by omega)).mp z))]
          refine Or.inr ⟨L, rfl, r, g1, hr2, fun _ => ?_⟩
          unfold yw at u
          split at u
          · assumption
          · exact absurd rfl u
  obtain ⟨N, l1, r, l2, l3, l4⟩ := loop
  refine ⟨N0, N, T, k, r, ?_, hT, hE, hC, hs0, l2, l3, l4⟩
  unfold X5_makeSure
  rw [t1, Option.bind_some, x1, Option.bind_some, l1, Option.bind_some]
  unfold X5_makeSure_j126
  rw [y_worth l2 hm0' hs0]
  have hwl := yw_lt (c := c) (m := m0) l3
  by_cases f : c m0 < 1000000
  · have h1 := yV_1023 hv hi hc hm0 f
    have h2 := l4 f
    have h3 : yw c r m0 = c m0 := by
      unfold yw
      rw [if_pos h2]
    rw [if_pos f, h3, if_neg (fun z => by have := (nI_eq (b := 1024) (by omega) (by omega)).mp z; omega)]
  · have h3 : yw c r m0 = 1024 := by
      unfold yw
      rw [if_neg (by omega)]
    rw [if_neg f, h3, if_pos (show nI 1024 = 1024 from rfl)]
theorem op_19 (x y : Int32) : rl_ok (cl_19 x y) (md_19 x y) := by
  intro M1 M2 h
  have hv := h.2.2.2.1
  have hi := h.2.2.2.2.1
  have hp := y_pow hv
  unfold cl_19 md_19
  have no : ∀ (A : Option (Int32 × mm_M)) (B : Option (Int32 × mm_M)), A = some (-1, M1) → B = some (-1, M2) → ∃ r M1' M2', (A.map fun y => (y.1, y.2)) = some (r, M1') ∧ (B.map fun y => (y.1, y.2)) = some (r, M2') ∧ rl_core M1' M2' ∧ rl_lf M1 M1' M2 M2' := by
    intro A B e1 e2
    rw [e1, e2]
    exact ⟨-1, M1, M2, rfl, rfl, h, rl_lf_rfl⟩
  unfold X11_plan X12_plan
  rw [rl_01, ← nx_sets hv]
  by_cases c1 : X8_hasAll x M1 = true
  · have ht := nx_told hv c1
    rw [if_pos c1, if_neg ht, if_pos c1]
    by_cases c2 : X12_in y 0 1 = true
    · rw [if_pos c2, if_pos c2]
      have hx : ∃ m, m < 2 ^ vN M1 ∧ ¬ m = 0 ∧ x = nI m := by
        have hn := v_n hv
        have hev := nx_pow (vN M1) (by omega)
        unfold X8_hasAll X8_everyState at c1
        by_cases a : x ≤ 0
        · rw [if_pos a] at c1
          cases c1
        · rw [if_neg a, hn.1] at c1
          by_cases b : ((1 : Int32) <<< (nI (vN M1) &&& 31)) - 1 < x
          · rw [if_pos b] at c1
            cases c1
          · rw [e_le] at a
            rw [e_lt, hev.2, show ((2 : Int) ^ vN M1) = ((2 ^ vN M1 : Nat) : Int) by simp] at b
            have k0 : (0 : Int32).toInt = 0 := rfl
            have hxn := e_nI (show 0 ≤ x.toInt by omega)
            have hxc := e_cl (show 0 ≤ x.toInt by omega)
            exact ⟨Int32.toNatClampNeg x, by omega, by omega, hxn⟩
      obtain ⟨m, hm, hm0, rfl⟩ := hx
      have hm' : m < 1024 := by omega
      obtain ⟨K, c, r1, r2, hc⟩ := y_ref hv hi
      obtain ⟨N0, N, T, k, r, s1, hT, hE, hC, hs0, hK, hr, hlr⟩ := y_sure hv hi hc hm hm0
      rw [s1, Option.bind_some, r1, Option.bind_some, if_pos (f_in hm'), if_pos (f_in hm'), if_pos (f_in hm'), e_nIc (show m < 2147483648 by omega), r2.1 m hm']
      have hcm := (hc.1 m hm').1
      have keep : ∀ N', yK N0 N' (yw c r) → rl_core N' K ∧ rl_lf M1 N' M2 K := by
        intro N' hN'
        refine rl_keep2 h (fun b hb => ?_) (fun b hb => r2.2 b (by omega))
        rw [hN'.2 b (by omega) (by omega)]
        exact hE.2.2.2 b (by omega) (by omega) (by omega) (by omega) (by omega)
      by_cases f : c m < 1000000
      · have h1 := yV_1023 hv hi hc hm f
        rw [if_pos f]
        try dsimp only
        rw [if_neg (nI_pos (by omega)), if_pos (show nI (c m) < 1000000 from (nI_ltI (b := 1000000) (by omega) (by omega)).mpr f)]
        by_cases z : y = 0
        · rw [if_pos z, if_pos z]
          exact ⟨_, _, _, rfl, rfl, (keep N hK).1, (keep N hK).2⟩
        · rw [if_neg z, if_neg z]
          by_cases w : c m = 0
          · rw [if_pos (by rw [w]; rfl), if_pos (by rw [w]; rfl)]
            exact ⟨_, _, _, rfl, rfl, (keep N hK).1, (keep N hK).2⟩
          · rw [if_neg (fun y => by exact w ((nI_eq (b := 0) (by omega) (by omega)).mp y)), if_neg (fun y => by exact w ((nI_eq (b := 0) (by omega) (by omega)).mp y))]
            have h2 : 2 ≤ sCnt m 10 := by
              rcases Nat.lt_or_ge (sCnt m 10) 2 with u | u
              · exact absurd ((hc.1 m hm').2.2 u) w
              · exact u
            have hlt := hlr f
            obtain ⟨v, N', n1, n2, n3⟩ := y_first (r := c m) hv hi hT hE hK hm' h2 (hC m hm' hs0) (fun x => by have := yw_lt (c := c) (m := x) hr; omega) (by omega)
            rw [n1, Option.bind_some]
            have ywlt : ∀ g, yw c r g < c m ↔ c g < c m := by
              intro g
              unfold yw
              split <;> omega
            obtain ⟨q0, q1, q2, q3, q4⟩ : ∃ q, q < 8 ∧ v = nI q ∧ (yT M1 q ∧ ∀ a, a < 10 → ¬ yP M1 m q a = 0 → yw c r (yP M1 m q a) < c m) ∧ ∀ k, k < q → ¬ (yT M1 k ∧ ∀ a, a < 10 → ¬ yP M1 m k a = 0 → yw c r (yP M1 m k a) < c m) := by
              rcases n3 with ⟨-, y2⟩ | ⟨q, q1, q2, q3, q4⟩
              · exfalso
                obtain ⟨j, hj⟩ : ∃ j, c m = j + 1 := ⟨c m - 1, by omega⟩
                obtain ⟨q, hq, htq, hub, -⟩ := yV_att hv hi hc hm hj (by omega)
                exact y2 q hq ⟨htq, fun a ha hz => (ywlt _).mpr (by have := hub a ha hz; omega)⟩
              · exact ⟨q, q1, q2, Classical.not_not.mp q3, q4⟩
            subst q2
            -- the reference's search
            have xq : ∀ q, q < 8 → (yM M1 c m q + 1 = c m ↔ (yT M1 q ∧ ∀ a, a < 10 → ¬ yP M1 m q a = 0 → yw c r (yP M1 m q a) < c m)) := by
              intro q hq
              constructor
              · intro e
                have hub : ∀ a, a < 10 → ¬ yP M1 m q a = 0 → c (yP M1 m q a) < c m := fun a ha hz => by have := yM_le (c := c) ha hz; omega
                refine ⟨y_tell (r := c m - 1) hv hm hq (fun u => ?_) (fun a ha hz => ?_), fun a ha hz => (ywlt _).mpr (hub a ha hz)⟩
                · have := (yV_iff hv hi hc (c m - 1) m hm (by omega)).mp u
                  omega
                · refine (yV_iff hv hi hc (c m - 1) _ (yP_lt hv hi hq) (by omega)).mpr ?_
                  have := hub a ha hz
                  omega
              · rintro ⟨-, u⟩
                have h3 : yM M1 c m q ≤ c m - 1 := yM_ub (fun a ha hz => by have := (ywlt _).mp (u a ha hz); omega)
                have := hc.2 m hm h2 q hq
                omega
            have ref : ∃ p, mm_loop (X12_plan_l70 (nI m) K) mm_fuel 0 = some p ∧ p = (nI q0, K) := by
              refine e_for1 (step := X12_plan_l70 (nI m) K) q0 (by omega) (I := fun _ => True) (Q := fun p => p = (nI q0, K)) ?_ ?_ trivial
              · intro i hi8 _
                have w2 := y_worst hv hi r2 (fun i hi => (hc.1 i hi).1) hm' (show i < 8 by omega)
                unfold X12_plan_l70
                rw [w2.1, Option.bind_some, if_pos (f_in hm'), e_nIc (show m < 2147483648 by omega), r2.1 m hm', if_neg]
                · exact Or.inl ⟨rfl, trivial⟩
                · intro e
                  have := (nI_eq (by omega) (by omega)).mp e
                  exact q4 i hi8 ((xq i (by omega)).mp this)
              · intro _
                have w2 := y_worst hv hi r2 (fun i hi => (hc.1 i hi).1) hm' q1
                refine ⟨_, ?_, rfl⟩
                unfold X12_plan_l70
                rw [w2.1, Option.bind_some, if_pos (f_in hm'), e_nIc (show m < 2147483648 by omega), r2.1 m hm', if_pos]
                rw [(xq q0 q1).mpr q3]
            obtain ⟨p, p1, p2⟩ := ref
            rw [p1, p2]
            exact ⟨_, _, _, rfl, rfl, (keep N' n2).1, (keep N' n2).2⟩
      · rw [if_neg f]
        try dsimp only
        rw [if_pos (by decide), if_neg (fun u => by exact f ((nI_ltI (b := 1000000) (by omega) (by omega)).mp u))]
        exact ⟨_, _, _, rfl, rfl, (keep N hK).1, (keep N hK).2⟩
    · rw [if_neg c2, if_neg c2]
      exact no _ _ rfl rfl
  · rw [if_neg c1, if_neg c1, ite_self]
    exact no _ _ rfl rfl
