/-- the cells of the two laws change places -/
def mm_tl (a : Nat) : Nat := if 13 ≤ a ∧ a ≤ 19 then a + 7 else if 20 ≤ a ∧ a ≤ 26 then a - 7 else a
/-- the cells of the two valleys change places -/
def mm_tv (a : Nat) : Nat := if 7 ≤ a ∧ a ≤ 9 then a + 3 else if 10 ≤ a ∧ a ≤ 12 then a - 3 else a
theorem mm_tl_perm : mm_Perm mm_tl S_c S_law2 := by
  refine ⟨rfl, (fun h => by cases h), fun a ha => ?_⟩
  match a, ha with
  | 0, _ => exact ⟨rfl, rfl⟩
  | 1, _ => exact ⟨rfl, rfl⟩
  | 2, _ => exact ⟨rfl, rfl⟩
  | 3, _ => exact ⟨rfl, rfl⟩
  | 4, _ => exact ⟨rfl, rfl⟩
  | 5, _ => exact ⟨rfl, rfl⟩
  | 6, _ => exact ⟨rfl, rfl⟩
  | 7, _ => exact ⟨rfl, rfl⟩
  | 8, _ => exact ⟨rfl, rfl⟩
  | 9, _ => exact ⟨rfl, rfl⟩
  | 10, _ => exact ⟨rfl, rfl⟩
  | 11, _ => exact ⟨rfl, rfl⟩
  | 12, _ => exact ⟨rfl, rfl⟩
  | 13, _ => exact ⟨rfl, rfl⟩
  | 14, _ => exact ⟨rfl, rfl⟩
  | 15, _ => exact ⟨rfl, rfl⟩
  | 16, _ => exact ⟨rfl, rfl⟩
  | 17, _ => exact ⟨rfl, rfl⟩
  | 18, _ => exact ⟨rfl, rfl⟩
  | 19, _ => exact ⟨rfl, rfl⟩
  | 20, _ => exact ⟨rfl, rfl⟩
  | 21, _ => exact ⟨rfl, rfl⟩
  | 22, _ => exact ⟨rfl, rfl⟩
  | 23, _ => exact ⟨rfl, rfl⟩
  | 24, _ => exact ⟨rfl, rfl⟩
  | 25, _ => exact ⟨rfl, rfl⟩
  | 26, _ => exact ⟨rfl, rfl⟩
  | 27, _ => exact ⟨rfl, rfl⟩
  | 28, _ => exact ⟨rfl, rfl⟩
  | 29, _ => exact ⟨rfl, rfl⟩
  | 30, _ => exact ⟨rfl, rfl⟩
  | 31, _ => exact ⟨rfl, rfl⟩
  | 32, _ => exact ⟨rfl, rfl⟩
  | 33, _ => exact ⟨rfl, rfl⟩
  | 34, _ => exact ⟨rfl, rfl⟩
  | 35, _ => exact ⟨rfl, rfl⟩
  | 36, _ => exact ⟨rfl, rfl⟩
  | 37, _ => exact ⟨rfl, rfl⟩
  | 38, _ => exact ⟨rfl, rfl⟩
  | 39, _ => exact ⟨rfl, rfl⟩
  | 40, _ => exact ⟨rfl, rfl⟩
  | 41, _ => exact ⟨rfl, rfl⟩
  | 42, _ => exact ⟨rfl, rfl⟩
  | n + 43, h => exact absurd h (Nat.not_lt.mpr (Nat.le_add_left 43 n))
theorem mm_tv_perm : mm_Perm mm_tv S_c S_valley2 := by
  refine ⟨rfl, (fun h => by cases h), fun a ha => ?_⟩
  match a, ha with
  | 0, _ => exact ⟨rfl, rfl⟩
  | 1, _ => exact ⟨rfl, rfl⟩
  | 2, _ => exact ⟨rfl, rfl⟩
  | 3, _ => exact ⟨rfl, rfl⟩
  | 4, _ => exact ⟨rfl, rfl⟩
  | 5, _ => exact ⟨rfl, rfl⟩
  | 6, _ => exact ⟨rfl, rfl⟩
  | 7, _ => exact ⟨rfl, rfl⟩
  | 8, _ => exact ⟨rfl, rfl⟩
  | 9, _ => exact ⟨rfl, rfl⟩
  | 10, _ => exact ⟨rfl, rfl⟩
  | 11, _ => exact ⟨rfl, rfl⟩
  | 12, _ => exact ⟨rfl, rfl⟩
  | 13, _ => exact ⟨rfl, rfl⟩
  | 14, _ => exact ⟨rfl, rfl⟩
  | 15, _ => exact ⟨rfl, rfl⟩
  | 16, _ => exact ⟨rfl, rfl⟩
  | 17, _ => exact ⟨rfl, rfl⟩
  | 18, _ => exact ⟨rfl, rfl⟩
  | 19, _ => exact ⟨rfl, rfl⟩
  | 20, _ => exact ⟨rfl, rfl⟩
  | 21, _ => exact ⟨rfl, rfl⟩
  | 22, _ => exact ⟨rfl, rfl⟩
  | 23, _ => exact ⟨rfl, rfl⟩
  | 24, _ => exact ⟨rfl, rfl⟩
  | 25, _ => exact ⟨rfl, rfl⟩
  | 26, _ => exact ⟨rfl, rfl⟩
  | 27, _ => exact ⟨rfl, rfl⟩
  | 28, _ => exact ⟨rfl, rfl⟩
  | 29, _ => exact ⟨rfl, rfl⟩
  | 30, _ => exact ⟨rfl, rfl⟩
  | 31, _ => exact ⟨rfl, rfl⟩
  | 32, _ => exact ⟨rfl, rfl⟩
  | 33, _ => exact ⟨rfl, rfl⟩
  | 34, _ => exact ⟨rfl, rfl⟩
  | 35, _ => exact ⟨rfl, rfl⟩
  | 36, _ => exact ⟨rfl, rfl⟩
  | 37, _ => exact ⟨rfl, rfl⟩
  | 38, _ => exact ⟨rfl, rfl⟩
  | 39, _ => exact ⟨rfl, rfl⟩
  | 40, _ => exact ⟨rfl, rfl⟩
  | 41, _ => exact ⟨rfl, rfl⟩
  | 42, _ => exact ⟨rfl, rfl⟩
  | n + 43, h => exact absurd h (Nat.not_lt.mpr (Nat.le_add_left 43 n))
theorem mm_Go_mono {J : mm_J} {D : mm_D} {d kc ks pc : Nat} {L : List (Option mm_V)} {st : List mm_V} {S : List mm_C} {M : mm_M} {Z Z' : Option Int32 → List mm_C → mm_M → Prop} (h : mm_Go J D d kc ks pc L st S M Z) (hz : ∀ r S M, Z r S M → Z' r S M) : mm_Go J D d kc ks pc L st S M Z' := by
  intro σ A p e R s m args below meth c H locs cells slots Q ls hAt hF hc hs hW hl
  exact h σ A p e R s m args below meth c H locs cells slots Q ls hAt (fun σ r S M H locs cells slots pc ls a1 a2 a3 a4 a5 a6 => hF σ r S M H locs cells slots pc ls a1 a2 a3 (hz r S M a4) a5 a6) hc hs hW hl
noncomputable def cl_0 (x1 : Int32) (M : mm_M) : Option (Int32 × mm_M) := some (mm_b (X11_state x1 M).1, (X11_state x1 M).2)
theorem t_cl_0 (x1 : Int32) (M : mm_M) (r : Int32) (M' : mm_M) (h : cl_0 x1 M = some (r, M')) : mm_Meth jX11_state 1 0 0 [.inr 0, .inl x1] S_c M (mm_Zi r S_c M') := by
  unfold cl_0 at h
  obtain ⟨e1, e2⟩ := Prod.mk.inj (Option.some.inj h)
  rw [← e1, ← e2]
  exact t_X11_state (d := 1) (Nat.le_refl _) x1 M _ rfl
noncomputable def md_0 (x1 : Int32) (M : mm_M) : Option (Int32 × mm_M) := some (mm_b (X12_state x1 M).1, (X12_state x1 M).2)
theorem t_md_0 (x1 : Int32) (M : mm_M) (r : Int32) (M' : mm_M) (h : md_0 x1 M = some (r, M')) : mm_Meth jX12_state 2 0 0 [.inr 0, .inl x1] S_m M (mm_Zi r S_m M') := by
  unfold md_0 at h
  obtain ⟨e1, e2⟩ := Prod.mk.inj (Option.some.inj h)
  rw [← e1, ← e2]
  exact t_X12_state (d := 2) (Nat.le_refl _) x1 M _ rfl
noncomputable def cl_1 (x1 x2 : Int32) (M : mm_M) : Option (Int32 × mm_M) := (X11_price x1 x2 M).map fun y => (mm_b y.1, y.2)
theorem t_cl_1 (x1 x2 : Int32) (M : mm_M) (r : Int32) (M' : mm_M) (h : cl_1 x1 x2 M = some (r, M')) : mm_Meth jX11_price 1 0 0 [.inr 0, .inl x1, .inl x2] S_c M (mm_Zi r S_c M') := by
  unfold cl_1 at h
  obtain ⟨y, e, h⟩ := Option.map_eq_some_iff.mp h
  obtain ⟨e1, e2⟩ := Prod.mk.inj h
  rw [← e1, ← e2]
  exact t_X11_price (d := 1) (Nat.le_refl _) x1 x2 M y e
noncomputable def md_1 (x1 x2 : Int32) (M : mm_M) : Option (Int32 × mm_M) := (X12_price x1 x2 M).map fun y => (mm_b y.1, y.2)
theorem t_md_1 (x1 x2 : Int32) (M : mm_M) (r : Int32) (M' : mm_M) (h : md_1 x1 x2 M = some (r, M')) : mm_Meth jX12_price 2 0 0 [.inr 0, .inl x1, .inl x2] S_m M (mm_Zi r S_m M') := by
  unfold md_1 at h
  obtain ⟨y, e, h⟩ := Option.map_eq_some_iff.mp h
  obtain ⟨e1, e2⟩ := Prod.mk.inj h
  rw [← e1, ← e2]
  exact t_X12_price (d := 2) (Nat.le_refl _) x1 x2 M y e
noncomputable def cl_2 (x1 : Int32) (M : mm_M) : Option (Int32 × mm_M) := some (mm_b (X11_purse x1 M).1, (X11_purse x1 M).2)
theorem t_cl_2 (x1 : Int32) (M : mm_M) (r : Int32) (M' : mm_M) (h : cl_2 x1 M = some (r, M')) : mm_Meth jX11_purse 0 0 0 [.inr 0, .inl x1] S_c M (mm_Zi r S_c M') := by
  unfold cl_2 at h
  obtain ⟨e1, e2⟩ := Prod.mk.inj (Option.some.inj h)
  rw [← e1, ← e2]
  exact t_X11_purse (d := 0) (Nat.le_refl _) x1 M _ rfl
noncomputable def md_2 (x1 : Int32) (M : mm_M) : Option (Int32 × mm_M) := some (mm_b (X12_purse x1 M).1, (X12_purse x1 M).2)
theorem t_md_2 (x1 : Int32) (M : mm_M) (r : Int32) (M' : mm_M) (h : md_2 x1 M = some (r, M')) : mm_Meth jX12_purse 1 0 0 [.inr 0, .inl x1] S_m M (mm_Zi r S_m M') := by
  unfold md_2 at h
  obtain ⟨e1, e2⟩ := Prod.mk.inj (Option.some.inj h)
  rw [← e1, ← e2]
  exact t_X12_purse (d := 1) (Nat.le_refl _) x1 M _ rfl
noncomputable def cl_3 (x1 x2 x3 x4 x5 : Int32) (M : mm_M) : Option (Int32 × mm_M) := (X11_feed x1 x2 x3 x4 x5 M).map fun y => (y.1, y.2)
theorem t_cl_3 (x1 x2 x3 x4 x5 : Int32) (M : mm_M) (r : Int32) (M' : mm_M) (h : cl_3 x1 x2 x3 x4 x5 M = some (r, M')) : mm_Meth jX11_feed 1 0 0 [.inr 0, .inl x1, .inl x2, .inl x3, .inl x4, .inl x5] S_c M (mm_Zi r S_c M') := by
  unfold cl_3 at h
  obtain ⟨y, e, h⟩ := Option.map_eq_some_iff.mp h
  obtain ⟨e1, e2⟩ := Prod.mk.inj h
  rw [← e1, ← e2]
  exact t_X11_feed (d := 1) (Nat.le_refl _) x1 x2 x3 x4 x5 M y e
noncomputable def md_3 (x1 x2 x3 x4 x5 : Int32) (M : mm_M) : Option (Int32 × mm_M) := (X12_feed x1 x2 x3 x4 x5 M).map fun y => (y.1, y.2)
theorem t_md_3 (x1 x2 x3 x4 x5 : Int32) (M : mm_M) (r : Int32) (M' : mm_M) (h : md_3 x1 x2 x3 x4 x5 M = some (r, M')) : mm_Meth jX12_feed 1 0 0 [.inr 0, .inl x1, .inl x2, .inl x3, .inl x4, .inl x5] S_m M (mm_Zi r S_m M') := by
  unfold md_3 at h
  obtain ⟨y, e, h⟩ := Option.map_eq_some_iff.mp h
  obtain ⟨e1, e2⟩ := Prod.mk.inj h
  rw [← e1, ← e2]
  exact t_X12_feed (d := 1) (Nat.le_refl _) x1 x2 x3 x4 x5 M y e
noncomputable def cl_4 (x1 : Int32) (M : mm_M) : Option (Int32 × mm_M) := (X11_law x1 M).map fun y => (y.1, if y.2.2 = true then fun a => y.2.1 (mm_tl a) else y.2.1)
theorem t_cl_4 (x1 : Int32) (M : mm_M) (r : Int32) (M' : mm_M) (h : cl_4 x1 M = some (r, M')) : mm_Meth jX11_law 132 0 0 [.inr 0, .inl x1] S_c M (fun r' S' M'' => r' = some r ∧ ((S' = S_c ∧ M'' = M') ∨ (S' = S_law2 ∧ M' = fun a => M'' (mm_tl a)))) := by
  unfold cl_4 at h
  obtain ⟨y, e, h⟩ := Option.map_eq_some_iff.mp h
  have e1 := congrArg Prod.fst h
  have e2 := congrArg Prod.snd h
  dsimp only at e1 e2
  have T := t_X11_law (d := 132) (Nat.le_refl _) x1 M y e
  intro l G cA σ0
  have T2 := T l G cA σ0
  refine mm_Go_mono T2 ?_
  rintro r' S' M'' ⟨h1, h2, h3⟩
  refine ⟨by rw [h1, e1], ?_⟩
  by_cases hb : y.2.2 = true
  · rw [if_pos hb] at h2 e2
    exact Or.inr ⟨h2, by rw [← e2, h3]⟩
  · rw [if_neg hb] at h2 e2
    exact Or.inl ⟨h2, by rw [h3, e2]⟩
noncomputable def md_4 (x1 : Int32) (M : mm_M) : Option (Int32 × mm_M) := (X12_law x1 M).map fun y => (y.1, y.2)
theorem t_md_4 (x1 : Int32) (M : mm_M) (r : Int32) (M' : mm_M) (h : md_4 x1 M = some (r, M')) : mm_Meth jX12_law 8 0 0 [.inr 0, .inl x1] S_m M (mm_Zi r S_m M') := by
  unfold md_4 at h
  obtain ⟨y, e, h⟩ := Option.map_eq_some_iff.mp h
  obtain ⟨e1, e2⟩ := Prod.mk.inj h
  rw [← e1, ← e2]
  exact t_X12_law (d := 8) (Nat.le_refl _) x1 M y e
noncomputable def cl_5 (x1 : Int32) (M : mm_M) : Option (Int32 × mm_M) := (X11_valley x1 M).map fun y => (y.1, if y.2.2 = true then fun a => y.2.1 (mm_tv a) else y.2.1)
theorem t_cl_5 (x1 : Int32) (M : mm_M) (r : Int32) (M' : mm_M) (h : cl_5 x1 M = some (r, M')) : mm_Meth jX11_valley 5 0 0 [.inr 0, .inl x1] S_c M (fun r' S' M'' => r' = some r ∧ ((S' = S_c ∧ M'' = M') ∨ (S' = S_valley2 ∧ M' = fun a => M'' (mm_tv a)))) := by
  unfold cl_5 at h
  obtain ⟨y, e, h⟩ := Option.map_eq_some_iff.mp h
  have e1 := congrArg Prod.fst h
  have e2 := congrArg Prod.snd h
  dsimp only at e1 e2
  have T := t_X11_valley (d := 5) (Nat.le_refl _) x1 M y e
  intro l G cA σ0
  have T2 := T l G cA σ0
  refine mm_Go_mono T2 ?_
  rintro r' S' M'' ⟨h1, h2, h3⟩
  refine ⟨by rw [h1, e1], ?_⟩
  by_cases hb : y.2.2 = true
  · rw [if_pos hb] at h2 e2
    exact Or.inr ⟨h2, by rw [← e2, h3]⟩
  · rw [if_neg hb] at h2 e2
    exact Or.inl ⟨h2, by rw [h3, e2]⟩
noncomputable def md_5 (x1 : Int32) (M : mm_M) : Option (Int32 × mm_M) := (X12_valley x1 M).map fun y => (y.1, y.2)
theorem t_md_5 (x1 : Int32) (M : mm_M) (r : Int32) (M' : mm_M) (h : md_5 x1 M = some (r, M')) : mm_Meth jX12_valley 4 0 0 [.inr 0, .inl x1] S_m M (mm_Zi r S_m M') := by
  unfold md_5 at h
  obtain ⟨y, e, h⟩ := Option.map_eq_some_iff.mp h
  obtain ⟨e1, e2⟩ := Prod.mk.inj h
  rw [← e1, ← e2]
  exact t_X12_valley (d := 4) (Nat.le_refl _) x1 M y e
noncomputable def cl_6 (x1 : Int32) (M : mm_M) : Option (Int32 × mm_M) := (X11_census x1 M).map fun y => (y.1, y.2)
theorem t_cl_6 (x1 : Int32) (M : mm_M) (r : Int32) (M' : mm_M) (h : cl_6 x1 M = some (r, M')) : mm_Meth jX11_census 65 0 0 [.inr 0, .inl x1] S_c M (mm_Zi r S_c M') := by
  unfold cl_6 at h
  obtain ⟨y, e, h⟩ := Option.map_eq_some_iff.mp h
  obtain ⟨e1, e2⟩ := Prod.mk.inj h
  rw [← e1, ← e2]
  exact t_X11_census (d := 65) (Nat.le_refl _) x1 M y e
noncomputable def md_6 (x1 : Int32) (M : mm_M) : Option (Int32 × mm_M) := (X12_census x1 M).map fun y => (y.1, y.2)
theorem t_md_6 (x1 : Int32) (M : mm_M) (r : Int32) (M' : mm_M) (h : md_6 x1 M = some (r, M')) : mm_Meth jX12_census 4 0 0 [.inr 0, .inl x1] S_m M (mm_Zi r S_m M') := by
  unfold md_6 at h
  obtain ⟨y, e, h⟩ := Option.map_eq_some_iff.mp h
  obtain ⟨e1, e2⟩ := Prod.mk.inj h
  rw [← e1, ← e2]
  exact t_X12_census (d := 4) (Nat.le_refl _) x1 M y e
noncomputable def cl_7 (x1 x2 : Int32) (M : mm_M) : Option (Int32 × mm_M) := (X11_look x1 x2 M).map fun y => (y.1, y.2)
theorem t_cl_7 (x1 x2 : Int32) (M : mm_M) (r : Int32) (M' : mm_M) (h : cl_7 x1 x2 M = some (r, M')) : mm_Meth jX11_look 65 0 0 [.inr 0, .inl x1, .inl x2] S_c M (mm_Zi r S_c M') := by
  unfold cl_7 at h
  obtain ⟨y, e, h⟩ := Option.map_eq_some_iff.mp h
  obtain ⟨e1, e2⟩ := Prod.mk.inj h
  rw [← e1, ← e2]
  exact t_X11_look (d := 65) (Nat.le_refl _) x1 x2 M y e
noncomputable def md_7 (x1 x2 : Int32) (M : mm_M) : Option (Int32 × mm_M) := (X12_look x1 x2 M).map fun y => (y.1, y.2)
theorem t_md_7 (x1 x2 : Int32) (M : mm_M) (r : Int32) (M' : mm_M) (h : md_7 x1 x2 M = some (r, M')) : mm_Meth jX12_look 4 0 0 [.inr 0, .inl x1, .inl x2] S_m M (mm_Zi r S_m M') := by
  unfold md_7 at h
  obtain ⟨y, e, h⟩ := Option.map_eq_some_iff.mp h
  obtain ⟨e1, e2⟩ := Prod.mk.inj h
  rw [← e1, ← e2]
  exact t_X12_look (d := 4) (Nat.le_refl _) x1 x2 M y e
noncomputable def cl_8 (x1 : Int32) (M : mm_M) : Option (Int32 × mm_M) := (X11_days x1 M).map fun y => (y.1, y.2)
theorem t_cl_8 (x1 : Int32) (M : mm_M) (r : Int32) (M' : mm_M) (h : cl_8 x1 M = some (r, M')) : mm_Meth jX11_days 6 0 0 [.inr 0, .inl x1] S_c M (mm_Zi r S_c M') := by
  unfold cl_8 at h
  obtain ⟨y, e, h⟩ := Option.map_eq_some_iff.mp h
  obtain ⟨e1, e2⟩ := Prod.mk.inj h
  rw [← e1, ← e2]
  exact t_X11_days (d := 6) (Nat.le_refl _) x1 M y e
noncomputable def md_8 (x1 : Int32) (M : mm_M) : Option (Int32 × mm_M) := (X12_days x1 M).map fun y => (y.1, y.2)
theorem t_md_8 (x1 : Int32) (M : mm_M) (r : Int32) (M' : mm_M) (h : md_8 x1 M = some (r, M')) : mm_Meth jX12_days 6 0 0 [.inr 0, .inl x1] S_m M (mm_Zi r S_m M') := by
  unfold md_8 at h
  obtain ⟨y, e, h⟩ := Option.map_eq_some_iff.mp h
  obtain ⟨e1, e2⟩ := Prod.mk.inj h
  rw [← e1, ← e2]
  exact t_X12_days (d := 6) (Nat.le_refl _) x1 M y e
noncomputable def cl_9 (x1 x2 : Int32) (M : mm_M) : Option (Int32 × mm_M) := (X11_tried x1 x2 M).map fun y => (y.1, y.2)
theorem t_cl_9 (x1 x2 : Int32) (M : mm_M) (r : Int32) (M' : mm_M) (h : cl_9 x1 x2 M = some (r, M')) : mm_Meth jX11_tried 6 0 0 [.inr 0, .inl x1, .inl x2] S_c M (mm_Zi r S_c M') := by
  unfold cl_9 at h
  obtain ⟨y, e, h⟩ := Option.map_eq_some_iff.mp h
  obtain ⟨e1, e2⟩ := Prod.mk.inj h
  rw [← e1, ← e2]
  exact t_X11_tried (d := 6) (Nat.le_refl _) x1 x2 M y e
noncomputable def md_9 (x1 x2 : Int32) (M : mm_M) : Option (Int32 × mm_M) := (X12_tried x1 x2 M).map fun y => (y.1, y.2)
theorem t_md_9 (x1 x2 : Int32) (M : mm_M) (r : Int32) (M' : mm_M) (h : md_9 x1 x2 M = some (r, M')) : mm_Meth jX12_tried 6 0 0 [.inr 0, .inl x1, .inl x2] S_m M (mm_Zi r S_m M') := by
  unfold md_9 at h
  obtain ⟨y, e, h⟩ := Option.map_eq_some_iff.mp h
  obtain ⟨e1, e2⟩ := Prod.mk.inj h
  rw [← e1, ← e2]
  exact t_X12_tried (d := 6) (Nat.le_refl _) x1 x2 M y e
noncomputable def cl_10 (x1 x2 x3 : Int32) (M : mm_M) : Option (Int32 × mm_M) := some ((X11_askedAt x1 x2 x3 M), M)
theorem t_cl_10 (x1 x2 x3 : Int32) (M : mm_M) (r : Int32) (M' : mm_M) (h : cl_10 x1 x2 x3 M = some (r, M')) : mm_Meth jX11_askedAt 1 0 0 [.inr 0, .inl x1, .inl x2, .inl x3] S_c M (mm_Zi r S_c M') := by
  unfold cl_10 at h
  obtain ⟨e1, e2⟩ := Prod.mk.inj (Option.some.inj h)
  rw [← e1, ← e2]
  exact t_X11_askedAt (d := 1) (Nat.le_refl _) x1 x2 x3 M _ rfl
noncomputable def md_10 (x1 x2 x3 : Int32) (M : mm_M) : Option (Int32 × mm_M) := (X12_askedAt x1 x2 x3 M).map fun y => (y, M)
theorem t_md_10 (x1 x2 x3 : Int32) (M : mm_M) (r : Int32) (M' : mm_M) (h : md_10 x1 x2 x3 M = some (r, M')) : mm_Meth jX12_askedAt 2 0 0 [.inr 0, .inl x1, .inl x2, .inl x3] S_m M (mm_Zi r S_m M') := by
  unfold md_10 at h
  obtain ⟨y, e, h⟩ := Option.map_eq_some_iff.mp h
  obtain ⟨e1, e2⟩ := Prod.mk.inj h
  rw [← e1, ← e2]
  exact t_X12_askedAt (d := 2) (Nat.le_refl _) x1 x2 x3 M y e
noncomputable def cl_11 (x1 x2 : Int32) (M : mm_M) : Option (Int32 × mm_M) := (X11_changePlaces x1 x2 M).map fun y => (y, M)
theorem t_cl_11 (x1 x2 : Int32) (M : mm_M) (r : Int32) (M' : mm_M) (h : cl_11 x1 x2 M = some (r, M')) : mm_Meth jX11_changePlaces 3 0 0 [.inr 0, .inl x1, .inl x2] S_c M (mm_Zi r S_c M') := by
  unfold cl_11 at h
  obtain ⟨y, e, h⟩ := Option.map_eq_some_iff.mp h
  obtain ⟨e1, e2⟩ := Prod.mk.inj h
  rw [← e1, ← e2]
  exact t_X11_changePlaces (d := 3) (Nat.le_refl _) x1 x2 M y e
noncomputable def md_11 (x1 x2 : Int32) (M : mm_M) : Option (Int32 × mm_M) := (X12_changePlaces x1 x2 M).map fun y => (y, M)
theorem t_md_11 (x1 x2 : Int32) (M : mm_M) (r : Int32) (M' : mm_M) (h : md_11 x1 x2 M = some (r, M')) : mm_Meth jX12_changePlaces 2 0 0 [.inr 0, .inl x1, .inl x2] S_m M (mm_Zi r S_m M') := by
  unfold md_11 at h
  obtain ⟨y, e, h⟩ := Option.map_eq_some_iff.mp h
  obtain ⟨e1, e2⟩ := Prod.mk.inj h
  rw [← e1, ← e2]
  exact t_X12_changePlaces (d := 2) (Nat.le_refl _) x1 x2 M y e
noncomputable def cl_12 (x1 x2 : Int32) (M : mm_M) : Option (Int32 × mm_M) := (X11_forms x1 x2 M).map fun y => (y.1, y.2)
theorem t_cl_12 (x1 x2 : Int32) (M : mm_M) (r : Int32) (M' : mm_M) (h : cl_12 x1 x2 M = some (r, M')) : mm_Meth jX11_forms 4 0 0 [.inr 0, .inl x1, .inl x2] S_c M (mm_Zi r S_c M') := by
  unfold cl_12 at h
  obtain ⟨y, e, h⟩ := Option.map_eq_some_iff.mp h
  obtain ⟨e1, e2⟩ := Prod.mk.inj h
  rw [← e1, ← e2]
  exact t_X11_forms (d := 4) (Nat.le_refl _) x1 x2 M y e
noncomputable def md_12 (x1 x2 : Int32) (M : mm_M) : Option (Int32 × mm_M) := (X12_forms x1 x2 M).map fun y => (y.1, y.2)
theorem t_md_12 (x1 x2 : Int32) (M : mm_M) (r : Int32) (M' : mm_M) (h : md_12 x1 x2 M = some (r, M')) : mm_Meth jX12_forms 3 0 0 [.inr 0, .inl x1, .inl x2] S_m M (mm_Zi r S_m M') := by
  unfold md_12 at h
  obtain ⟨y, e, h⟩ := Option.map_eq_some_iff.mp h
  obtain ⟨e1, e2⟩ := Prod.mk.inj h
  rw [← e1, ← e2]
  exact t_X12_forms (d := 3) (Nat.le_refl _) x1 x2 M y e
noncomputable def cl_13 (x1 x2 x3 : Int32) (M : mm_M) : Option (Int32 × mm_M) := (X11_leads x1 x2 x3 M).map fun y => (y.1, y.2)
theorem t_cl_13 (x1 x2 x3 : Int32) (M : mm_M) (r : Int32) (M' : mm_M) (h : cl_13 x1 x2 x3 M = some (r, M')) : mm_Meth jX11_leads 4 0 0 [.inr 0, .inl x1, .inl x2, .inl x3] S_c M (mm_Zi r S_c M') := by
  unfold cl_13 at h
  obtain ⟨y, e, h⟩ := Option.map_eq_some_iff.mp h
  obtain ⟨e1, e2⟩ := Prod.mk.inj h
  rw [← e1, ← e2]
  exact t_X11_leads (d := 4) (Nat.le_refl _) x1 x2 x3 M y e
noncomputable def md_13 (x1 x2 x3 : Int32) (M : mm_M) : Option (Int32 × mm_M) := (X12_leads x1 x2 x3 M).map fun y => (y.1, y.2)
theorem t_md_13 (x1 x2 x3 : Int32) (M : mm_M) (r : Int32) (M' : mm_M) (h : md_13 x1 x2 x3 M = some (r, M')) : mm_Meth jX12_leads 2 0 0 [.inr 0, .inl x1, .inl x2, .inl x3] S_m M (mm_Zi r S_m M') := by
  unfold md_13 at h
  obtain ⟨y, e, h⟩ := Option.map_eq_some_iff.mp h
  obtain ⟨e1, e2⟩ := Prod.mk.inj h
  rw [← e1, ← e2]
  exact t_X12_leads (d := 2) (Nat.le_refl _) x1 x2 x3 M y e
noncomputable def cl_14 (x1 x2 : Int32) (M : mm_M) : Option (Int32 × mm_M) := (X11_back x1 x2 M).map fun y => (y.1, y.2)
theorem t_cl_14 (x1 x2 : Int32) (M : mm_M) (r : Int32) (M' : mm_M) (h : cl_14 x1 x2 M = some (r, M')) : mm_Meth jX11_back 4 0 0 [.inr 0, .inl x1, .inl x2] S_c M (mm_Zi r S_c M') := by
  unfold cl_14 at h
  obtain ⟨y, e, h⟩ := Option.map_eq_some_iff.mp h
  obtain ⟨e1, e2⟩ := Prod.mk.inj h
  rw [← e1, ← e2]
  exact t_X11_back (d := 4) (Nat.le_refl _) x1 x2 M y e
noncomputable def md_14 (x1 x2 : Int32) (M : mm_M) : Option (Int32 × mm_M) := (X12_back x1 x2 M).map fun y => (y.1, y.2)
theorem t_md_14 (x1 x2 : Int32) (M : mm_M) (r : Int32) (M' : mm_M) (h : md_14 x1 x2 M = some (r, M')) : mm_Meth jX12_back 2 0 0 [.inr 0, .inl x1, .inl x2] S_m M (mm_Zi r S_m M') := by
  unfold md_14 at h
  obtain ⟨y, e, h⟩ := Option.map_eq_some_iff.mp h
  obtain ⟨e1, e2⟩ := Prod.mk.inj h
  rw [← e1, ← e2]
  exact t_X12_back (d := 2) (Nat.le_refl _) x1 x2 M y e
noncomputable def cl_15 (x1 x2 : Int32) (M : mm_M) : Option (Int32 × mm_M) := (X11_cheapest x1 x2 M).map fun y => (y.1, y.2)
theorem t_cl_15 (x1 x2 : Int32) (M : mm_M) (r : Int32) (M' : mm_M) (h : cl_15 x1 x2 M = some (r, M')) : mm_Meth jX11_cheapest 3 0 0 [.inr 0, .inl x1, .inl x2] S_c M (mm_Zi r S_c M') := by
  unfold cl_15 at h
  obtain ⟨y, e, h⟩ := Option.map_eq_some_iff.mp h
  obtain ⟨e1, e2⟩ := Prod.mk.inj h
  rw [← e1, ← e2]
  exact t_X11_cheapest (d := 3) (Nat.le_refl _) x1 x2 M y e
noncomputable def md_15 (x1 x2 : Int32) (M : mm_M) : Option (Int32 × mm_M) := (X12_cheapest x1 x2 M).map fun y => (y.1, y.2)
theorem t_md_15 (x1 x2 : Int32) (M : mm_M) (r : Int32) (M' : mm_M) (h : md_15 x1 x2 M = some (r, M')) : mm_Meth jX12_cheapest 2 0 0 [.inr 0, .inl x1, .inl x2] S_m M (mm_Zi r S_m M') := by
  unfold md_15 at h
  obtain ⟨y, e, h⟩ := Option.map_eq_some_iff.mp h
  obtain ⟨e1, e2⟩ := Prod.mk.inj h
  rw [← e1, ← e2]
  exact t_X12_cheapest (d := 2) (Nat.le_refl _) x1 x2 M y e
noncomputable def cl_16 (x1 : Int32) (M : mm_M) : Option (Int32 × mm_M) := (X11_classes x1 M).map fun y => (y.1, y.2)
theorem t_cl_16 (x1 : Int32) (M : mm_M) (r : Int32) (M' : mm_M) (h : cl_16 x1 M = some (r, M')) : mm_Meth jX11_classes 3 0 0 [.inr 0, .inl x1] S_c M (mm_Zi r S_c M') := by
  unfold cl_16 at h
  obtain ⟨y, e, h⟩ := Option.map_eq_some_iff.mp h
  obtain ⟨e1, e2⟩ := Prod.mk.inj h
  rw [← e1, ← e2]
  exact t_X11_classes (d := 3) (Nat.le_refl _) x1 M y e
noncomputable def md_16 (x1 : Int32) (M : mm_M) : Option (Int32 × mm_M) := (X12_classes x1 M).map fun y => (y.1, y.2)
theorem t_md_16 (x1 : Int32) (M : mm_M) (r : Int32) (M' : mm_M) (h : md_16 x1 M = some (r, M')) : mm_Meth jX12_classes 3 0 0 [.inr 0, .inl x1] S_m M (mm_Zi r S_m M') := by
  unfold md_16 at h
  obtain ⟨y, e, h⟩ := Option.map_eq_some_iff.mp h
  obtain ⟨e1, e2⟩ := Prod.mk.inj h
  rw [← e1, ← e2]
  exact t_X12_classes (d := 3) (Nat.le_refl _) x1 M y e
noncomputable def cl_17 (x1 x2 x3 : Int32) (M : mm_M) : Option (Int32 × mm_M) := (X11_parts x1 x2 x3 M).map fun y => (y.1, y.2)
theorem t_cl_17 (x1 x2 x3 : Int32) (M : mm_M) (r : Int32) (M' : mm_M) (h : cl_17 x1 x2 x3 M = some (r, M')) : mm_Meth jX11_parts 3 0 0 [.inr 0, .inl x1, .inl x2, .inl x3] S_c M (mm_Zi r S_c M') := by
  unfold cl_17 at h
  obtain ⟨y, e, h⟩ := Option.map_eq_some_iff.mp h
  obtain ⟨e1, e2⟩ := Prod.mk.inj h
  rw [← e1, ← e2]
  exact t_X11_parts (d := 3) (Nat.le_refl _) x1 x2 x3 M y e
noncomputable def md_17 (x1 x2 x3 : Int32) (M : mm_M) : Option (Int32 × mm_M) := (X12_parts x1 x2 x3 M).map fun y => (y.1, y.2)
theorem t_md_17 (x1 x2 x3 : Int32) (M : mm_M) (r : Int32) (M' : mm_M) (h : md_17 x1 x2 x3 M = some (r, M')) : mm_Meth jX12_parts 3 0 0 [.inr 0, .inl x1, .inl x2, .inl x3] S_m M (mm_Zi r S_m M') := by
  unfold md_17 at h
  obtain ⟨y, e, h⟩ := Option.map_eq_some_iff.mp h
  obtain ⟨e1, e2⟩ := Prod.mk.inj h
  rw [← e1, ← e2]
  exact t_X12_parts (d := 3) (Nat.le_refl _) x1 x2 x3 M y e
noncomputable def cl_18 (x1 : Int32) (M : mm_M) : Option (Int32 × mm_M) := (X11_known x1 M).map fun y => (y.1, y.2)
theorem t_cl_18 (x1 : Int32) (M : mm_M) (r : Int32) (M' : mm_M) (h : cl_18 x1 M = some (r, M')) : mm_Meth jX11_known 3 0 0 [.inr 0, .inl x1] S_c M (mm_Zi r S_c M') := by
  unfold cl_18 at h
  obtain ⟨y, e, h⟩ := Option.map_eq_some_iff.mp h
  obtain ⟨e1, e2⟩ := Prod.mk.inj h
  rw [← e1, ← e2]
  exact t_X11_known (d := 3) (Nat.le_refl _) x1 M y e
noncomputable def md_18 (x1 : Int32) (M : mm_M) : Option (Int32 × mm_M) := (X12_known x1 M).map fun y => (y.1, y.2)
theorem t_md_18 (x1 : Int32) (M : mm_M) (r : Int32) (M' : mm_M) (h : md_18 x1 M = some (r, M')) : mm_Meth jX12_known 3 0 0 [.inr 0, .inl x1] S_m M (mm_Zi r S_m M') := by
  unfold md_18 at h
  obtain ⟨y, e, h⟩ := Option.map_eq_some_iff.mp h
  obtain ⟨e1, e2⟩ := Prod.mk.inj h
  rw [← e1, ← e2]
  exact t_X12_known (d := 3) (Nat.le_refl _) x1 M y e
noncomputable def cl_19 (x1 x2 : Int32) (M : mm_M) : Option (Int32 × mm_M) := (X11_plan x1 x2 M).map fun y => (y.1, y.2)
theorem t_cl_19 (x1 x2 : Int32) (M : mm_M) (r : Int32) (M' : mm_M) (h : cl_19 x1 x2 M = some (r, M')) : mm_Meth jX11_plan 5 0 0 [.inr 0, .inl x1, .inl x2] S_c M (mm_Zi r S_c M') := by
  unfold cl_19 at h
  obtain ⟨y, e, h⟩ := Option.map_eq_some_iff.mp h
  obtain ⟨e1, e2⟩ := Prod.mk.inj h
  rw [← e1, ← e2]
  exact t_X11_plan (d := 5) (Nat.le_refl _) x1 x2 M y e
noncomputable def md_19 (x1 x2 : Int32) (M : mm_M) : Option (Int32 × mm_M) := (X12_plan x1 x2 M).map fun y => (y.1, y.2)
theorem t_md_19 (x1 x2 : Int32) (M : mm_M) (r : Int32) (M' : mm_M) (h : md_19 x1 x2 M = some (r, M')) : mm_Meth jX12_plan 4 0 0 [.inr 0, .inl x1, .inl x2] S_m M (mm_Zi r S_m M') := by
  unfold md_19 at h
  obtain ⟨y, e, h⟩ := Option.map_eq_some_iff.mp h
  obtain ⟨e1, e2⟩ := Prod.mk.inj h
  rw [← e1, ← e2]
  exact t_X12_plan (d := 4) (Nat.le_refl _) x1 x2 M y e
noncomputable def cl_20 (x1 x2 : Int32) (M : mm_M) : Option (Int32 × mm_M) := (X11_logged x1 x2 M).map fun y => (y.1, y.2)
theorem t_cl_20 (x1 x2 : Int32) (M : mm_M) (r : Int32) (M' : mm_M) (h : cl_20 x1 x2 M = some (r, M')) : mm_Meth jX11_logged 2 0 0 [.inr 0, .inl x1, .inl x2] S_c M (mm_Zi r S_c M') := by
  unfold cl_20 at h
  obtain ⟨y, e, h⟩ := Option.map_eq_some_iff.mp h
  obtain ⟨e1, e2⟩ := Prod.mk.inj h
  rw [← e1, ← e2]
  exact t_X11_logged (d := 2) (Nat.le_refl _) x1 x2 M y e
noncomputable def md_20 (x1 x2 : Int32) (M : mm_M) : Option (Int32 × mm_M) := (X12_logged x1 x2 M).map fun y => (y.1, y.2)
theorem t_md_20 (x1 x2 : Int32) (M : mm_M) (r : Int32) (M' : mm_M) (h : md_20 x1 x2 M = some (r, M')) : mm_Meth jX12_logged 2 0 0 [.inr 0, .inl x1, .inl x2] S_m M (mm_Zi r S_m M') := by
  unfold md_20 at h
  obtain ⟨y, e, h⟩ := Option.map_eq_some_iff.mp h
  obtain ⟨e1, e2⟩ := Prod.mk.inj h
  rw [← e1, ← e2]
  exact t_X12_logged (d := 2) (Nat.le_refl _) x1 x2 M y e
noncomputable def cl_21 (x1 x2 : Int32) (M : mm_M) : Option (Int32 × mm_M) := (X11_next x1 x2 M).map fun y => (y.1, y.2)
theorem t_cl_21 (x1 x2 : Int32) (M : mm_M) (r : Int32) (M' : mm_M) (h : cl_21 x1 x2 M = some (r, M')) : mm_Meth jX11_next 3 0 0 [.inr 0, .inl x1, .inl x2] S_c M (mm_Zi r S_c M') := by
  unfold cl_21 at h
  obtain ⟨y, e, h⟩ := Option.map_eq_some_iff.mp h
  obtain ⟨e1, e2⟩ := Prod.mk.inj h
  rw [← e1, ← e2]
  exact t_X11_next (d := 3) (Nat.le_refl _) x1 x2 M y e
noncomputable def md_21 (x1 x2 : Int32) (M : mm_M) : Option (Int32 × mm_M) := (X12_next x1 x2 M).map fun y => (y, M)
theorem t_md_21 (x1 x2 : Int32) (M : mm_M) (r : Int32) (M' : mm_M) (h : md_21 x1 x2 M = some (r, M')) : mm_Meth jX12_next 2 0 0 [.inr 0, .inl x1, .inl x2] S_m M (mm_Zi r S_m M') := by
  unfold md_21 at h
  obtain ⟨y, e, h⟩ := Option.map_eq_some_iff.mp h
  obtain ⟨e1, e2⟩ := Prod.mk.inj h
  rw [← e1, ← e2]
  exact t_X12_next (d := 2) (Nat.le_refl _) x1 x2 M y e
noncomputable def cl_22 (x1 x2 x3 : Int32) (M : mm_M) : Option (Int32 × mm_M) := (X11_odds x1 x2 x3 M).map fun y => (y.1, y.2)
theorem t_cl_22 (x1 x2 x3 : Int32) (M : mm_M) (r : Int32) (M' : mm_M) (h : cl_22 x1 x2 x3 M = some (r, M')) : mm_Meth jX11_odds 2 0 0 [.inr 0, .inl x1, .inl x2, .inl x3] S_c M (mm_Zi r S_c M') := by
  unfold cl_22 at h
  obtain ⟨y, e, h⟩ := Option.map_eq_some_iff.mp h
  obtain ⟨e1, e2⟩ := Prod.mk.inj h
  rw [← e1, ← e2]
  exact t_X11_odds (d := 2) (Nat.le_refl _) x1 x2 x3 M y e
noncomputable def md_22 (x1 x2 x3 : Int32) (M : mm_M) : Option (Int32 × mm_M) := (X12_odds x1 x2 x3 M).map fun y => (y.1, y.2)
theorem t_md_22 (x1 x2 x3 : Int32) (M : mm_M) (r : Int32) (M' : mm_M) (h : md_22 x1 x2 x3 M = some (r, M')) : mm_Meth jX12_odds 2 0 0 [.inr 0, .inl x1, .inl x2, .inl x3] S_m M (mm_Zi r S_m M') := by
  unfold md_22 at h
  obtain ⟨y, e, h⟩ := Option.map_eq_some_iff.mp h
  obtain ⟨e1, e2⟩ := Prod.mk.inj h
  rw [← e1, ← e2]
  exact t_X12_odds (d := 2) (Nat.le_refl _) x1 x2 x3 M y e
noncomputable def cl_23 (x1 x2 x3 : Int32) (M : mm_M) : Option (Int32 × mm_M) := (X11_inspectors x1 x2 x3 M).map fun y => (y.1, y.2)
theorem t_cl_23 (x1 x2 x3 : Int32) (M : mm_M) (r : Int32) (M' : mm_M) (h : cl_23 x1 x2 x3 M = some (r, M')) : mm_Meth jX11_inspectors 3 0 0 [.inr 0, .inl x1, .inl x2, .inl x3] S_c M (mm_Zi r S_c M') := by
  unfold cl_23 at h
  obtain ⟨y, e, h⟩ := Option.map_eq_some_iff.mp h
  obtain ⟨e1, e2⟩ := Prod.mk.inj h
  rw [← e1, ← e2]
  exact t_X11_inspectors (d := 3) (Nat.le_refl _) x1 x2 x3 M y e
noncomputable def md_23 (x1 x2 x3 : Int32) (M : mm_M) : Option (Int32 × mm_M) := (X12_inspectors x1 x2 x3 M).map fun y => (y.1, y.2)
theorem t_md_23 (x1 x2 x3 : Int32) (M : mm_M) (r : Int32) (M' : mm_M) (h : md_23 x1 x2 x3 M = some (r, M')) : mm_Meth jX12_inspectors 3 0 0 [.inr 0, .inl x1, .inl x2, .inl x3] S_m M (mm_Zi r S_m M') := by
  unfold md_23 at h
  obtain ⟨y, e, h⟩ := Option.map_eq_some_iff.mp h
  obtain ⟨e1, e2⟩ := Prod.mk.inj h
  rw [← e1, ← e2]
  exact t_X12_inspectors (d := 3) (Nat.le_refl _) x1 x2 x3 M y e
noncomputable def cl_24 (x1 x2 x3 : Int32) (M : mm_M) : Option (Int32 × mm_M) := some ((X11_together x1 x2 x3 M), M)
theorem t_cl_24 (x1 x2 x3 : Int32) (M : mm_M) (r : Int32) (M' : mm_M) (h : cl_24 x1 x2 x3 M = some (r, M')) : mm_Meth jX11_together 2 0 0 [.inr 0, .inl x1, .inl x2, .inl x3] S_c M (mm_Zi r S_c M') := by
  unfold cl_24 at h
  obtain ⟨e1, e2⟩ := Prod.mk.inj (Option.some.inj h)
  rw [← e1, ← e2]
  exact t_X11_together (d := 2) (Nat.le_refl _) x1 x2 x3 M _ rfl
noncomputable def md_24 (x1 x2 x3 : Int32) (M : mm_M) : Option (Int32 × mm_M) := (X12_together x1 x2 x3 M).map fun y => (y, M)
theorem t_md_24 (x1 x2 x3 : Int32) (M : mm_M) (r : Int32) (M' : mm_M) (h : md_24 x1 x2 x3 M = some (r, M')) : mm_Meth jX12_together 2 0 0 [.inr 0, .inl x1, .inl x2, .inl x3] S_m M (mm_Zi r S_m M') := by
  unfold md_24 at h
  obtain ⟨y, e, h⟩ := Option.map_eq_some_iff.mp h
  obtain ⟨e1, e2⟩ := Prod.mk.inj h
  rw [← e1, ← e2]
  exact t_X12_together (d := 2) (Nat.le_refl _) x1 x2 x3 M y e
noncomputable def cl_25 (x1 : Int32) (M : mm_M) : Option (Int32 × mm_M) := (X11_alone x1 M).map fun y => (y, M)
theorem t_cl_25 (x1 : Int32) (M : mm_M) (r : Int32) (M' : mm_M) (h : cl_25 x1 M = some (r, M')) : mm_Meth jX11_alone 2 0 0 [.inr 0, .inl x1] S_c M (mm_Zi r S_c M') := by
  unfold cl_25 at h
  obtain ⟨y, e, h⟩ := Option.map_eq_some_iff.mp h
  obtain ⟨e1, e2⟩ := Prod.mk.inj h
  rw [← e1, ← e2]
  exact t_X11_alone (d := 2) (Nat.le_refl _) x1 M y e
noncomputable def md_25 (x1 : Int32) (M : mm_M) : Option (Int32 × mm_M) := (X12_alone x1 M).map fun y => (y, M)
theorem t_md_25 (x1 : Int32) (M : mm_M) (r : Int32) (M' : mm_M) (h : md_25 x1 M = some (r, M')) : mm_Meth jX12_alone 2 0 0 [.inr 0, .inl x1] S_m M (mm_Zi r S_m M') := by
  unfold md_25 at h
  obtain ⟨y, e, h⟩ := Option.map_eq_some_iff.mp h
  obtain ⟨e1, e2⟩ := Prod.mk.inj h
  rw [← e1, ← e2]
  exact t_X12_alone (d := 2) (Nat.le_refl _) x1 M y e
noncomputable def cl_26 (x1 : Int32) (M : mm_M) : Option (Int32 × mm_M) := some (mm_b (X11_seed x1 M).1, (X11_seed x1 M).2)
theorem t_cl_26 (x1 : Int32) (M : mm_M) (r : Int32) (M' : mm_M) (h : cl_26 x1 M = some (r, M')) : mm_Meth jX11_seed 0 0 0 [.inr 0, .inl x1] S_c M (mm_Zi r S_c M') := by
  unfold cl_26 at h
  obtain ⟨e1, e2⟩ := Prod.mk.inj (Option.some.inj h)
  rw [← e1, ← e2]
  exact t_X11_seed (d := 0) (Nat.le_refl _) x1 M _ rfl
noncomputable def md_26 (x1 : Int32) (M : mm_M) : Option (Int32 × mm_M) := some (mm_b (X12_seed x1 M).1, (X12_seed x1 M).2)
theorem t_md_26 (x1 : Int32) (M : mm_M) (r : Int32) (M' : mm_M) (h : md_26 x1 M = some (r, M')) : mm_Meth jX12_seed 1 0 0 [.inr 0, .inl x1] S_m M (mm_Zi r S_m M') := by
  unfold md_26 at h
  obtain ⟨e1, e2⟩ := Prod.mk.inj (Option.some.inj h)
  rw [← e1, ← e2]
  exact t_X12_seed (d := 1) (Nat.le_refl _) x1 M _ rfl
noncomputable def cl_27 (M : mm_M) : Option (Int32 × mm_M) := some ((X11_keep M).1, (X11_keep M).2)
theorem t_cl_27 (M : mm_M) (r : Int32) (M' : mm_M) (h : cl_27 M = some (r, M')) : mm_Meth jX11_keep 1 0 0 [.inr 0] S_c M (mm_Zi r S_c M') := by
  unfold cl_27 at h
  obtain ⟨e1, e2⟩ := Prod.mk.inj (Option.some.inj h)
  rw [← e1, ← e2]
  exact t_X11_keep (d := 1) (Nat.le_refl _) M _ rfl
noncomputable def md_27 (M : mm_M) : Option (Int32 × mm_M) := (X12_keep M).map fun y => (y.1, y.2)
theorem t_md_27 (M : mm_M) (r : Int32) (M' : mm_M) (h : md_27 M = some (r, M')) : mm_Meth jX12_keep 1 0 0 [.inr 0] S_m M (mm_Zi r S_m M') := by
  unfold md_27 at h
  obtain ⟨y, e, h⟩ := Option.map_eq_some_iff.mp h
  obtain ⟨e1, e2⟩ := Prod.mk.inj h
  rw [← e1, ← e2]
  exact t_X12_keep (d := 1) (Nat.le_refl _) M y e
noncomputable def cl_28 (M : mm_M) : Option (Int32 × mm_M) := some (mm_b (X11_undo M).1, (X11_undo M).2)
theorem t_cl_28 (M : mm_M) (r : Int32) (M' : mm_M) (h : cl_28 M = some (r, M')) : mm_Meth jX11_undo 1 0 0 [.inr 0] S_c M (mm_Zi r S_c M') := by
  unfold cl_28 at h
  obtain ⟨e1, e2⟩ := Prod.mk.inj (Option.some.inj h)
  rw [← e1, ← e2]
  exact t_X11_undo (d := 1) (Nat.le_refl _) M _ rfl
noncomputable def md_28 (M : mm_M) : Option (Int32 × mm_M) := (X12_undo M).map fun y => (mm_b y.1, y.2)
theorem t_md_28 (M : mm_M) (r : Int32) (M' : mm_M) (h : md_28 M = some (r, M')) : mm_Meth jX12_undo 2 0 0 [.inr 0] S_m M (mm_Zi r S_m M') := by
  unfold md_28 at h
  obtain ⟨y, e, h⟩ := Option.map_eq_some_iff.mp h
  obtain ⟨e1, e2⟩ := Prod.mk.inj h
  rw [← e1, ← e2]
  exact t_X12_undo (d := 2) (Nat.le_refl _) M y e
noncomputable def cl_29 (x1 x2 : Int32) (M : mm_M) : Option (Int32 × mm_M) := (X11_check x1 x2 M).map fun y => (y.1, y.2)
theorem t_cl_29 (x1 x2 : Int32) (M : mm_M) (r : Int32) (M' : mm_M) (h : cl_29 x1 x2 M = some (r, M')) : mm_Meth jX11_check 1 0 0 [.inr 0, .inl x1, .inl x2] S_c M (mm_Zi r S_c M') := by
  unfold cl_29 at h
  obtain ⟨y, e, h⟩ := Option.map_eq_some_iff.mp h
  obtain ⟨e1, e2⟩ := Prod.mk.inj h
  rw [← e1, ← e2]
  exact t_X11_check (d := 1) (Nat.le_refl _) x1 x2 M y e
noncomputable def md_29 (x1 x2 : Int32) (M : mm_M) : Option (Int32 × mm_M) := (X12_check x1 x2 M).map fun y => (y.1, y.2)
theorem t_md_29 (x1 x2 : Int32) (M : mm_M) (r : Int32) (M' : mm_M) (h : md_29 x1 x2 M = some (r, M')) : mm_Meth jX12_check 2 0 0 [.inr 0, .inl x1, .inl x2] S_m M (mm_Zi r S_m M') := by
  unfold md_29 at h
  obtain ⟨y, e, h⟩ := Option.map_eq_some_iff.mp h
  obtain ⟨e1, e2⟩ := Prod.mk.inj h
  rw [← e1, ← e2]
  exact t_X12_check (d := 2) (Nat.le_refl _) x1 x2 M y e
noncomputable def cl_30 (x1 : Int32) (M : mm_M) : Option (Int32 × mm_M) := some ((X11_count x1 M), M)
theorem t_cl_30 (x1 : Int32) (M : mm_M) (r : Int32) (M' : mm_M) (h : cl_30 x1 M = some (r, M')) : mm_Meth jX11_count 0 0 0 [.inr 0, .inl x1] S_c M (mm_Zi r S_c M') := by
  unfold cl_30 at h
  obtain ⟨e1, e2⟩ := Prod.mk.inj (Option.some.inj h)
  rw [← e1, ← e2]
  exact t_X11_count (d := 0) (Nat.le_refl _) x1 M _ rfl
noncomputable def md_30 (x1 : Int32) (M : mm_M) : Option (Int32 × mm_M) := some ((X12_count x1 M), M)
theorem t_md_30 (x1 : Int32) (M : mm_M) (r : Int32) (M' : mm_M) (h : md_30 x1 M = some (r, M')) : mm_Meth jX12_count 0 0 0 [.inr 0, .inl x1] S_m M (mm_Zi r S_m M') := by
  unfold md_30 at h
  obtain ⟨e1, e2⟩ := Prod.mk.inj (Option.some.inj h)
  rw [← e1, ← e2]
  exact t_X12_count (d := 0) (Nat.le_refl _) x1 M _ rfl
/-- what is asked of a relation between the class's memory and the reference's: every call answers alike, and behind it there is Rl' -/
def ll_Rel (Rl Rl' : mm_M → mm_M → Prop) : Prop :=
  (∀ (x1 : Int32) (M1 M2 : mm_M), Rl M1 M2 → ∃ r M1' M2', cl_0 x1 M1 = some (r, M1') ∧ md_0 x1 M2 = some (r, M2') ∧ Rl' M1' M2') ∧
  (∀ (x1 x2 : Int32) (M1 M2 : mm_M), Rl M1 M2 → ∃ r M1' M2', cl_1 x1 x2 M1 = some (r, M1') ∧ md_1 x1 x2 M2 = some (r, M2') ∧ Rl' M1' M2') ∧
  (∀ (x1 : Int32) (M1 M2 : mm_M), Rl M1 M2 → ∃ r M1' M2', cl_2 x1 M1 = some (r, M1') ∧ md_2 x1 M2 = some (r, M2') ∧ Rl' M1' M2') ∧
  (∀ (x1 x2 x3 x4 x5 : Int32) (M1 M2 : mm_M), Rl M1 M2 → ∃ r M1' M2', cl_3 x1 x2 x3 x4 x5 M1 = some (r, M1') ∧ md_3 x1 x2 x3 x4 x5 M2 = some (r, M2') ∧ Rl' M1' M2') ∧
  (∀ (x1 : Int32) (M1 M2 : mm_M), Rl M1 M2 → ∃ r M1' M2', cl_4 x1 M1 = some (r, M1') ∧ md_4 x1 M2 = some (r, M2') ∧ Rl' M1' M2') ∧
  (∀ (x1 : Int32) (M1 M2 : mm_M), Rl M1 M2 → ∃ r M1' M2', cl_5 x1 M1 = some (r, M1') ∧ md_5 x1 M2 = some (r, M2') ∧ Rl' M1' M2') ∧
  (∀ (x1 : Int32) (M1 M2 : mm_M), Rl M1 M2 → ∃ r M1' M2', cl_6 x1 M1 = some (r, M1') ∧ md_6 x1 M2 = some (r, M2') ∧ Rl' M1' M2') ∧
  (∀ (x1 x2 : Int32) (M1 M2 : mm_M), Rl M1 M2 → ∃ r M1' M2', cl_7 x1 x2 M1 = some (r, M1') ∧ md_7 x1 x2 M2 = some (r, M2') ∧ Rl' M1' M2') ∧
  (∀ (x1 : Int32) (M1 M2 : mm_M), Rl M1 M2 → ∃ r M1' M2', cl_8 x1 M1 = some (r, M1') ∧ md_8 x1 M2 = some (r, M2') ∧ Rl' M1' M2') ∧
  (∀ (x1 x2 : Int32) (M1 M2 : mm_M), Rl M1 M2 → ∃ r M1' M2', cl_9 x1 x2 M1 = some (r, M1') ∧ md_9 x1 x2 M2 = some (r, M2') ∧ Rl' M1' M2') ∧
  (∀ (x1 x2 x3 : Int32) (M1 M2 : mm_M), Rl M1 M2 → ∃ r M1' M2', cl_10 x1 x2 x3 M1 = some (r, M1') ∧ md_10 x1 x2 x3 M2 = some (r, M2') ∧ Rl' M1' M2') ∧
  (∀ (x1 x2 : Int32) (M1 M2 : mm_M), Rl M1 M2 → ∃ r M1' M2', cl_11 x1 x2 M1 = some (r, M1') ∧ md_11 x1 x2 M2 = some (r, M2') ∧ Rl' M1' M2') ∧
  (∀ (x1 x2 : Int32) (M1 M2 : mm_M), Rl M1 M2 → ∃ r M1' M2', cl_12 x1 x2 M1 = some (r, M1') ∧ md_12 x1 x2 M2 = some (r, M2') ∧ Rl' M1' M2') ∧
  (∀ (x1 x2 x3 : Int32) (M1 M2 : mm_M), Rl M1 M2 → ∃ r M1' M2', cl_13 x1 x2 x3 M1 = some (r, M1') ∧ md_13 x1 x2 x3 M2 = some (r, M2') ∧ Rl' M1' M2') ∧
  (∀ (x1 x2 : Int32) (M1 M2 : mm_M), Rl M1 M2 → ∃ r M1' M2', cl_14 x1 x2 M1 = some (r, M1') ∧ md_14 x1 x2 M2 = some (r, M2') ∧ Rl' M1' M2') ∧
  (∀ (x1 x2 : Int32) (M1 M2 : mm_M), Rl M1 M2 → ∃ r M1' M2', cl_15 x1 x2 M1 = some (r, M1') ∧ md_15 x1 x2 M2 = some (r, M2') ∧ Rl' M1' M2') ∧
  (∀ (x1 : Int32) (M1 M2 : mm_M), Rl M1 M2 → ∃ r M1' M2', cl_16 x1 M1 = some (r, M1') ∧ md_16 x1 M2 = some (r, M2') ∧ Rl' M1' M2') ∧
  (∀ (x1 x2 x3 : Int32) (M1 M2 : mm_M), Rl M1 M2 → ∃ r M1' M2', cl_17 x1 x2 x3 M1 = some (r, M1') ∧ md_17 x1 x2 x3 M2 = some (r, M2') ∧ Rl' M1' M2') ∧
  (∀ (x1 : Int32) (M1 M2 : mm_M), Rl M1 M2 → ∃ r M1' M2', cl_18 x1 M1 = some (r, M1') ∧ md_18 x1 M2 = some (r, M2') ∧ Rl' M1' M2') ∧
  (∀ (x1 x2 : Int32) (M1 M2 : mm_M), Rl M1 M2 → ∃ r M1' M2', cl_19 x1 x2 M1 = some (r, M1') ∧ md_19 x1 x2 M2 = some (r, M2') ∧ Rl' M1' M2') ∧
  (∀ (x1 x2 : Int32) (M1 M2 : mm_M), Rl M1 M2 → ∃ r M1' M2', cl_20 x1 x2 M1 = some (r, M1') ∧ md_20 x1 x2 M2 = some (r, M2') ∧ Rl' M1' M2') ∧
  (∀ (x1 x2 : Int32) (M1 M2 : mm_M), Rl M1 M2 → ∃ r M1' M2', cl_21 x1 x2 M1 = some (r, M1') ∧ md_21 x1 x2 M2 = some (r, M2') ∧ Rl' M1' M2') ∧
  (∀ (x1 x2 x3 : Int32) (M1 M2 : mm_M), Rl M1 M2 → ∃ r M1' M2', cl_22 x1 x2 x3 M1 = some (r, M1') ∧ md_22 x1 x2 x3 M2 = some (r, M2') ∧ Rl' M1' M2') ∧
  (∀ (x1 x2 x3 : Int32) (M1 M2 : mm_M), Rl M1 M2 → ∃ r M1' M2', cl_23 x1 x2 x3 M1 = some (r, M1') ∧ md_23 x1 x2 x3 M2 = some (r, M2') ∧ Rl' M1' M2') ∧
  (∀ (x1 x2 x3 : Int32) (M1 M2 : mm_M), Rl M1 M2 → ∃ r M1' M2', cl_24 x1 x2 x3 M1 = some (r, M1') ∧ md_24 x1 x2 x3 M2 = some (r, M2') ∧ Rl' M1' M2') ∧
  (∀ (x1 : Int32) (M1 M2 : mm_M), Rl M1 M2 → ∃ r M1' M2', cl_25 x1 M1 = some (r, M1') ∧ md_25 x1 M2 = some (r, M2') ∧ Rl' M1' M2') ∧
  (∀ (x1 : Int32) (M1 M2 : mm_M), Rl M1 M2 → ∃ r M1' M2', cl_26 x1 M1 = some (r, M1') ∧ md_26 x1 M2 = some (r, M2') ∧ Rl' M1' M2') ∧
  (∀ (M1 M2 : mm_M), Rl M1 M2 → ∃ r M1' M2', cl_27 M1 = some (r, M1') ∧ md_27 M2 = some (r, M2') ∧ Rl' M1' M2') ∧
  (∀ (M1 M2 : mm_M), Rl M1 M2 → ∃ r M1' M2', cl_28 M1 = some (r, M1') ∧ md_28 M2 = some (r, M2') ∧ Rl' M1' M2') ∧
  (∀ (x1 x2 : Int32) (M1 M2 : mm_M), Rl M1 M2 → ∃ r M1' M2', cl_29 x1 x2 M1 = some (r, M1') ∧ md_29 x1 x2 M2 = some (r, M2') ∧ Rl' M1' M2') ∧
  (∀ (x1 : Int32) (M1 M2 : mm_M), Rl M1 M2 → ∃ r M1' M2', cl_30 x1 M1 = some (r, M1') ∧ md_30 x1 M2 = some (r, M2') ∧ Rl' M1' M2')
