/-- a set of states below 10 is a number below 1024 -/
theorem s_num {x : Int32} (h : ∀ i, 10 ≤ i → i < 32 → bt x i = false) : ∃ m : Nat, m < 1024 ∧ x = nI m := by
  have h1 : x.toBitVec.toNat < 2 ^ 10 := by
    apply Nat.lt_pow_two_of_testBit
    intro i hi
    by_cases c : i < 32
    · exact h i hi c
    · exact b_big (x := x) (by omega)
  refine ⟨x.toBitVec.toNat, h1, ?_⟩
  apply Int32.toBitVec_inj.mp
  apply BitVec.eq_of_toNat_eq
  rw [pk_tn (by omega)]
theorem s_bt {m : Nat} (hm : m < 1024) (i : Nat) : bt (nI m) i = m.testBit i := by
  show (nI m).toBitVec.getLsbD i = _
  show (nI m).toBitVec.toNat.testBit i = _
  rw [pk_tn (by omega)]
theorem bSet_num {P : Nat → Prop} {x : Int32} (hx : bSet P x) (h : ∀ i, P i → i < 10) : ∃ m : Nat, m < 1024 ∧ x = nI m := by
  refine s_num (fun i h1 h2 => ?_)
  cases hb : bt x i
  · rfl
  · have := h i ((hx i h2).mp hb)
    omega
/-- how many of the first k bits are set -/
def sCnt (m : Nat) : Nat → Nat
  | 0 => 0
  | k + 1 => sCnt m k + if m.testBit k = true then 1 else 0
theorem sCnt_le {m : Nat} : ∀ k, sCnt m k ≤ k := by
  intro k
  induction k with
  | zero => exact Nat.le_refl _
  | succ k ih =>
    show sCnt m k + (if _ then 1 else 0) ≤ k + 1
    split <;> omega
theorem s_bits {m : Nat} (hm : m < 1024) : X12_bits (nI m) = some (nI (sCnt m 10)) := by
  unfold X12_bits
  refine e_trace0 (fun k => (nI (sCnt m k), nI k)) 10 (by decide) _ ?_ ?_
  · intro k hk
    have hc := sCnt_le (m := m) k
    unfold X12_bits_l4
    dsimp only
    rw [if_neg (fun h => by have := (e_10 (by omega)).mp h; omega), b_has (nI m) (show k < 32 by omega), s_bt hm, nI_1]
    show _ = some (Sum.inl (nI (sCnt m k + if m.testBit k = true then 1 else 0), nI (k + 1)))
    by_cases c : m.testBit k = true
    · rw [if_pos c, if_pos c, nI_1]
    · rw [if_neg c, if_neg c]
      show some (Sum.inl (nI (sCnt m k) + nI 0, _)) = _
      rw [nI_add]
  · unfold X12_bits_l4
    dsimp only
    rw [if_pos ((e_10 (by omega)).mpr (by omega))]
set_option maxRecDepth 100000 in
theorem s_count : ∀ m, m < 1024 → J6_bitCount_0f7a4 (nI m) = nI (sCnt m 10) := by decide +kernel
/-- what a question makes of a set -/
def sImg (M : mm_M) (x : Int32) (q : Nat) : Nat → Prop := fun i => ∃ s, s < vN M ∧ bt x s = true ∧ vB M q s = i
theorem s_img1 {M1 M2 N : mm_M} (hv : rl_val M1 M2) (h7 : N 7 0 = M1 7 0) (h9 : N 9 = M1 9) (x : Int32) {q : Nat} (hq : q < 8) : ∃ r, X5_image x (nI q) N = some r ∧ bSet (sImg M1 x q) r := by
  have hVN := v_n hv
  have hb : ∀ s : Nat, s < 10 → X8_behind (nI q) (nI s) N = nI (vB M1 q s) := by
    intro s hs
    rw [v_behI hq hs, h9]
    exact (v_B hv hq hs).1
  unfold X5_image
  refine e_for (step := X5_image_l5 x (nI q) N) (vN M1) (by omega) (I := fun k y => bSet (fun i => ∃ s, s < k ∧ bt x s = true ∧ vB M1 q s = i) y) (Q := fun r => bSet (sImg M1 x q) r) ?_ ?_ 0 (bSet_iff bSet_0 (fun i _ => ⟨fun h => h.elim, fun ⟨s, h, _⟩ => by omega⟩))
  · intro k y hk hy
    have hk10 : k < 10 := by omega
    have c0 : ¬ M1 7 0 ≤ nI k := fun h => by have := (v_head hv (by omega : k ≤ 10)).1.mp h; omega
    unfold X5_image_l5
    dsimp only
    by_cases cb : bt x k = true
    · have c1 : ¬ ((x >>> (nI k &&& 31)) &&& 1) = 0 := fun h => ((nx_has x (show k < 32 by omega)).2.mp h) cb
      have hb10 := (v_B hv hq hk10).2
      simp only [h7, if_neg c0, if_neg c1, hb k hk10]
      refine ⟨_, rfl, bSet_iff (bSet_set hy (show vB M1 q k < 32 by omega)) (fun i _ => ⟨fun h => ?_, fun ⟨s, hs, h1, h2⟩ => ?_⟩)⟩
      · rcases h with ⟨s, hs, h1, h2⟩ | h
        · exact ⟨s, by omega, h1, h2⟩
        · exact ⟨k, by omega, cb, h.symm⟩
      · by_cases c : s = k
        · subst c
          exact Or.inr h2.symm
        · exact Or.inl ⟨s, by omega, h1, h2⟩
    · have c1 : ((x >>> (nI k &&& 31)) &&& 1) = 0 := (nx_has x (show k < 32 by omega)).2.mpr cb
      simp only [h7, if_neg c0, if_pos c1]
      refine ⟨_, rfl, bSet_iff hy (fun i _ => ⟨fun ⟨s, hs, h⟩ => ⟨s, by omega, h⟩, fun ⟨s, hs, h1, h2⟩ => ?_⟩)⟩
      by_cases c : s = k
      · subst c
        exact absurd h1 cb
      · exact ⟨s, by omega, h1, h2⟩
  · intro y hy
    unfold X5_image_l5
    dsimp only
    simp only [h7, if_pos ((v_head hv (by omega : vN M1 ≤ 10)).1.mpr (Nat.le_refl _))]
    exact ⟨y, rfl, hy⟩
theorem s_img2 {M1 M2 : mm_M} (hv : rl_val M1 M2) (x : Int32) {q : Nat} (hq : q < 8) : ∃ r, X12_moved x (nI q) M2 = some r ∧ bSet (sImg M1 x q) r := by
  have hVN := v_n hv
  unfold X12_moved
  refine e_for (step := X12_moved_l5 x (nI q) M2) (vN M1) (by omega) (I := fun k y => bSet (fun i => ∃ s, s < k ∧ bt x s = true ∧ vB M1 q s = i) y) (Q := fun r => bSet (sImg M1 x q) r) ?_ ?_ 0 (bSet_iff bSet_0 (fun i _ => ⟨fun h => h.elim, fun ⟨s, h, _⟩ => by omega⟩))
  · intro k y hk hy
    have hk10 : k < 10 := by omega
    unfold X12_moved_l5
    dsimp only
    rw [if_neg (fun h => by have := (v_head hv (by omega : k ≤ 10)).2.mp h; omega), v_beh2 hv hq hk10, Option.bind_some]
    by_cases cb : bt x k = true
    · have hb10 := (v_B hv hq hk10).2
      rw [if_pos ((nx_has x (show k < 32 by omega)).1.mpr cb)]
      refine ⟨_, rfl, bSet_iff (bSet_set hy (show vB M1 q k < 32 by omega)) (fun i _ => ⟨fun h => ?_, fun ⟨s, hs, h1, h2⟩ => ?_⟩)⟩
      · rcases h with ⟨s, hs, h1, h2⟩ | h
        · exact ⟨s, by omega, h1, h2⟩
        · exact ⟨k, by omega, cb, h.symm⟩
      · by_cases c : s = k
        · subst c
          exact Or.inr h2.symm
        · exact Or.inl ⟨s, by omega, h1, h2⟩
    · rw [if_neg (fun h => cb ((nx_has x (show k < 32 by omega)).1.mp h))]
      refine ⟨_, rfl, bSet_iff hy (fun i _ => ⟨fun ⟨s, hs, h⟩ => ⟨s, by omega, h⟩, fun ⟨s, hs, h1, h2⟩ => ?_⟩)⟩
      by_cases c : s = k
      · subst c
        exact absurd h1 cb
      · exact ⟨s, by omega, h1, h2⟩
  · intro y hy
    unfold X12_moved_l5
    dsimp only
    rw [if_pos ((v_head hv (by omega)).2.mpr (Nat.le_refl _))]
    exact ⟨y, rfl, hy⟩
/-- the lowest of a set, where it has one below 10 -/
theorem s_low {x : Int32} {j : Nat} (hj : j < 10) (hb : bt x j = true) (hl : ∀ i, i < j → bt x i = false) : X5_lowest x = some (nI j) ∧ X12_lowest x = some (nI j) := by
  constructor
  · unfold X5_lowest
    refine e_trace0 (fun k => nI k) j (by omega) _ ?_ ?_
    · intro k hk
      unfold X5_lowest_l2
      rw [if_neg (fun h => by have := (e_10 (by omega)).mp h; omega), if_pos ((nx_has x (show k < 32 by omega)).2.mpr (by rw [hl k hk]; decide)), nI_1]
    · unfold X5_lowest_l2
      rw [if_neg (fun h => by have := (e_10 (by omega)).mp h; omega), if_neg (fun h => ((nx_has x (show j < 32 by omega)).2.mp h) hb)]
  · unfold X12_lowest
    refine e_trace0 (fun k => nI k) j (by omega) _ ?_ ?_
    · intro k hk
      unfold X12_lowest_l2
      rw [if_neg (fun h => by have := (nx_has x (show k < 32 by omega)).1.mp h; rw [hl k hk] at this; cases this), nI_1]
    · unfold X12_lowest_l2
      rw [if_pos ((nx_has x (show j < 32 by omega)).1.mpr hb)]
