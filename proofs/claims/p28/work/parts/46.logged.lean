/-- what the relation reads of the two memories -/
def rl_same1 (N M : mm_M) : Prop := N 0 5 = M 0 5 ∧ N 1 1 = M 1 1 ∧ N 2 = M 2 ∧ N 3 = M 3 ∧ N 4 = M 4 ∧ N 5 = M 5 ∧ N 7 0 = M 7 0 ∧ N 8 = M 8 ∧ N 9 = M 9
def rl_same2 (N M : mm_M) : Prop := N 0 6 = M 0 6 ∧ N 0 8 = M 0 8 ∧ N 0 60 = M 0 60 ∧ N 1 = M 1 ∧ N 3 = M 3 ∧ N 4 = M 4 ∧ N 5 = M 5 ∧ N 6 = M 6 ∧ N 7 = M 7
theorem rl_core_congr {M1 M2 N1 N2 : mm_M} (h : rl_core M1 M2) (h1 : rl_same1 N1 M1) (h2 : rl_same2 N2 M2) : rl_core N1 N2 := by
  obtain ⟨a0, a1, a2, a3, a4, a5, a7, a8, a9⟩ := h1
  obtain ⟨b6, b8, b60, c1, c3, c4, c5, c6, c7⟩ := h2
  unfold rl_core rl_now rl_kept rl_price rl_val rl_in rl_tape rl_st at *
  rw [a0, a1, a2, a3, a4, a5, a7, a8, a9, b6, b8, b60, c1, c3, c4, c5, c6, c7]
  exact h
theorem rl_same1_rfl {M : mm_M} : rl_same1 M M := ⟨rfl, rfl, rfl, rfl, rfl, rfl, rfl, rfl, rfl⟩
theorem rl_same2_rfl {M : mm_M} : rl_same2 M M := ⟨rfl, rfl, rfl, rfl, rfl, rfl, rfl, rfl, rfl⟩
theorem rl_val_same {M1 M2 N : mm_M} (h : rl_val M1 M2) (h2 : rl_same2 N M2) : rl_val M1 N := by
  obtain ⟨b6, b8, b60, c1, c3, c4, c5, c6, c7⟩ := h2
  unfold rl_val at *
  rw [b6, c5, c6]
  exact h
/-- a row of questions with answers: where it leads, how many are lies -/
def lgAt (M : mm_M) (s : Nat) : Nat → Nat
  | 0 => s
  | i + 1 => vB M (tB M (2 * i)) (lgAt M s i)
def lgLies (M : mm_M) (s : Nat) : Nat → Nat
  | 0 => 0
  | i + 1 => lgLies M s i + if vA M (tB M (2 * i)) (lgAt M s i) = nI (tB M (2 * i + 1)) then 0 else 1
def lgOk (M : mm_M) (n : Nat) : Prop := ∀ i, i < n → tB M (2 * i) < 8 ∧ tB M (2 * i + 1) ≤ 9
theorem lg_lt {M1 M2 : mm_M} (hv : rl_val M1 M2) {n : Nat} (hok : lgOk M1 n) {s : Nat} (hs : s < 10) : ∀ i, i ≤ n → lgAt M1 s i < 10 := by
  intro i
  induction i with
  | zero => intro _; exact hs
  | succ i ih => intro h; exact (v_B hv (hok i (by omega)).1 (ih (by omega))).2
theorem lg_le {M : mm_M} {s : Nat} : ∀ i, lgLies M s i ≤ i := by
  intro i
  induction i with
  | zero => exact Nat.le_refl _
  | succ i ih =>
    show lgLies M s i + (if _ then 0 else 1) ≤ i + 1
    split <;> omega
theorem lg_2 {i : Nat} : (2 : Int32) * nI i = nI (2 * i) ∧ (2 : Int32) * nI i + 1 = nI (2 * i + 1) := by
  have e : (2 : Int32) * nI i = nI (2 * i) := pk_mul 2 i
  exact ⟨e, by rw [e, nI_1]⟩
theorem lg_ok1 {M1 M2 : mm_M} (ht : rl_tape M1 M2) {n : Nat} (hn : n ≤ 20) (h2n : 2 * n ≤ tN M1) : ∃ b, X7_isLog (nI n) M1 = some b ∧ (b = true ↔ lgOk M1 n) := by
  unfold X7_isLog
  refine e_for1 (step := X7_isLog_l2 (nI n) M1) n (by omega) (I := fun i => lgOk M1 i) (Q := fun b => (b = true ↔ lgOk M1 n)) ?_ ?_ (fun i h => by omega)
  · intro i hi hI
    have hb1 := (t_b ht (show 2 * i < tN M1 by omega)).2
    have hb2 := (t_b ht (show 2 * i + 1 < tN M1 by omega)).2
    have c0 : ¬ nI n ≤ nI i := by
      rw [e_le, e_nIt (by omega), e_nIt (by omega)]
      omega
    unfold X7_isLog_l2
    rw [if_neg c0, lg_2.1, nI_1, t_byte ht (by omega), t_byte ht (by omega), Option.bind_some, Option.bind_some]
    have q8 : (8 : Int32) ≤ nI (tB M1 (2 * i)) ↔ 8 ≤ tB M1 (2 * i) := e_8 (by omega)
    have q9 : nI (tB M1 (2 * i + 1)) ≤ 9 ↔ tB M1 (2 * i + 1) ≤ 9 := by
      rw [e_le, e_nIt (by omega)]
      show _ ≤ (9 : Int) ↔ _
      omega
    by_cases c1 : 8 ≤ tB M1 (2 * i)
    · rw [if_pos (q8.mpr c1)]
      refine Or.inr ⟨false, rfl, ?_⟩
      simp only [Bool.false_eq_true, false_iff]
      intro h
      have := (h i hi).1
      omega
    · rw [if_neg (fun h => c1 (q8.mp h))]
      by_cases c2 : tB M1 (2 * i + 1) ≤ 9
      · rw [if_pos (q9.mpr c2)]
        refine Or.inl ⟨rfl, fun j hj => ?_⟩
        by_cases cj : j = i
        · subst cj
          exact ⟨by omega, c2⟩
        · exact hI j (by omega)
      · rw [if_neg (fun h => c2 (q9.mp h))]
        refine Or.inr ⟨false, rfl, ?_⟩
        simp only [Bool.false_eq_true, false_iff]
        intro h
        exact c2 (h i hi).2
  · intro hI
    unfold X7_isLog_l2
    rw [if_pos (Int32.le_refl _)]
    exact ⟨true, rfl, by simp only [true_iff]; exact hI⟩
theorem lg_ok2 {M1 M2 N : mm_M} (ht : rl_tape M1 M2) (hN : N 7 = M2 7) (w : Int32) {n : Nat} (hn : n ≤ 20) (h2n : 2 * n ≤ tN M1) : ∃ r, mm_loop (X12_logged_l45 (nI n) w N) mm_fuel 0 = some r ∧ ((r = .inr () ∧ lgOk M1 n) ∨ (r = .inl (-3, N) ∧ ¬ lgOk M1 n)) := by
  refine e_for1 (step := X12_logged_l45 (nI n) w N) n (by omega) (I := fun i => lgOk M1 i) (Q := fun r => ((r = .inr () ∧ lgOk M1 n) ∨ (r = .inl (-3, N) ∧ ¬ lgOk M1 n))) ?_ ?_ (fun i h => by omega)
  · intro i hi hI
    have hb1 := (t_b ht (show 2 * i < tN M1 by omega)).2
    have hb2 := (t_b ht (show 2 * i + 1 < tN M1 by omega)).2
    have c0 : ¬ nI n ≤ nI i := by
      rw [e_le, e_nIt (by omega), e_nIt (by omega)]
      omega
    unfold X12_logged_l45
    rw [if_neg c0, lg_2.1, nI_1, t_octet ht hN (by omega), t_octet ht hN (by omega), Option.bind_some, Option.bind_some]
    have q8 : (8 : Int32) ≤ nI (tB M1 (2 * i)) ↔ 8 ≤ tB M1 (2 * i) := e_8 (by omega)
    have q9 : nI (tB M1 (2 * i + 1)) ≤ 9 ↔ tB M1 (2 * i + 1) ≤ 9 := by
      rw [e_le, e_nIt (by omega)]
      show _ ≤ (9 : Int) ↔ _
      omega
    by_cases c1 : 8 ≤ tB M1 (2 * i)
    · rw [if_pos (q8.mpr c1)]
      refine Or.inr ⟨_, rfl, Or.inr ⟨rfl, fun h => ?_⟩⟩
      have := (h i hi).1
      omega
    · rw [if_neg (fun h => c1 (q8.mp h))]
      by_cases c2 : tB M1 (2 * i + 1) ≤ 9
      · rw [if_pos (q9.mpr c2)]
        refine Or.inl ⟨rfl, fun j hj => ?_⟩
        by_cases cj : j = i
        · subst cj
          exact ⟨by omega, c2⟩
        · exact hI j (by omega)
      · rw [if_neg (fun h => c2 (q9.mp h))]
        exact Or.inr ⟨_, rfl, Or.inr ⟨rfl, fun h => c2 (h i hi).2⟩⟩
  · intro hI
    unfold X12_logged_l45
    rw [if_pos (Int32.le_refl _)]
    exact ⟨_, rfl, Or.inl ⟨rfl, hI⟩⟩
theorem lg_in1 {M1 M2 : mm_M} (hv : rl_val M1 M2) (ht : rl_tape M1 M2) {n : Nat} (hn : n ≤ 20) (h2n : 2 * n ≤ tN M1) (hok : lgOk M1 n) {s : Nat} (hs : s < 10) (x4 x5 x6 x7 x8 : Int32) : mm_loop (X5_fitLog_l31 (nI n) x4 x5 x6 x7 x8 M1) mm_fuel (0, nI s, 0) = some (nI (lgLies M1 s n), nI (lgAt M1 s n)) := by
  refine e_trace0 (fun i => (nI (lgLies M1 s i), nI (lgAt M1 s i), nI i)) n (by omega) _ ?_ ?_
  · intro i hi
    have hat := lg_lt hv hok hs i (by omega)
    have hq := (hok i hi).1
    have hl := lg_le (M := M1) (s := s) i
    have hb2 := (t_b ht (show 2 * i + 1 < tN M1 by omega)).2
    have c0 : ¬ nI n ≤ nI i := by
      rw [e_le, e_nIt (by omega), e_nIt (by omega)]
      omega
    unfold X5_fitLog_l31
    dsimp only
    rw [if_neg c0, lg_2.1, nI_1, t_byte ht (by omega), t_byte ht (by omega), Option.bind_some, Option.bind_some, v_ans hq hat]
    unfold X5_fitLog_j71l31
    rw [v_beh hv hq hat, nI_1, nI_1]
    show _ = some (Sum.inl (nI (lgLies M1 s i + if vA M1 (tB M1 (2 * i)) (lgAt M1 s i) = nI (tB M1 (2 * i + 1)) then 0 else 1), nI (vB M1 (tB M1 (2 * i)) (lgAt M1 s i)), nI (i + 1)))
    by_cases c : vA M1 (tB M1 (2 * i)) (lgAt M1 s i) = nI (tB M1 (2 * i + 1))
    · rw [if_pos c, if_pos c]
      rfl
    · rw [if_neg c, if_neg c]
  · unfold X5_fitLog_l31
    dsimp only
    rw [if_pos (Int32.le_refl _)]
theorem lg_in2 {M1 M2 N : mm_M} (hv : rl_val M1 N) (ht : rl_tape M1 M2) (hN : N 7 = M2 7) {n : Nat} (hn : n ≤ 20) (h2n : 2 * n ≤ tN M1) (hok : lgOk M1 n) {s : Nat} (hs : s < 10) : X12_liesFrom (nI s) (nI n) N = some (nI (lgLies M1 s n), mm_U N 0 57 (nI (lgAt M1 s n))) := by
  unfold X12_liesFrom
  refine e_trace0 (fun i => (nI (lgAt M1 s i), nI (lgLies M1 s i), nI i, N)) n (by omega) _ ?_ ?_
  · intro i hi
    have hat := lg_lt hv hok hs i (by omega)
    have hq := (hok i hi).1
    have hl := lg_le (M := M1) (s := s) i
    have hb2 := (t_b ht (show 2 * i + 1 < tN M1 by omega)).2
    have c0 : ¬ nI n ≤ nI i := by
      rw [e_le, e_nIt (by omega), e_nIt (by omega)]
      omega
    unfold X12_liesFrom_l8
    dsimp only
    rw [if_neg c0, lg_2.1, nI_1, t_octet ht hN (by omega), Option.bind_some, v_ans2 hv hq hat, Option.bind_some, t_octet ht hN (by omega), Option.bind_some]
    unfold X12_liesFrom_j50l8
    rw [v_beh2 hv hq hat, Option.bind_some, nI_1, nI_1]
    show _ = some (Sum.inl (nI (vB M1 (tB M1 (2 * i)) (lgAt M1 s i)), nI (lgLies M1 s i + if vA M1 (tB M1 (2 * i)) (lgAt M1 s i) = nI (tB M1 (2 * i + 1)) then 0 else 1), nI (i + 1), N))
    by_cases c : vA M1 (tB M1 (2 * i)) (lgAt M1 s i) = nI (tB M1 (2 * i + 1))
    · rw [if_pos c, if_pos c]
      rfl
    · rw [if_neg c, if_neg c]
      rfl
  · unfold X12_liesFrom_l8
    dsimp only
    rw [if_pos (Int32.le_refl _)]
theorem lg_out {M1 M2 : mm_M} (h : rl_core M1 M2) (hvn : 1 ≤ vN M1) {n : Nat} (hn : n ≤ 20) (h2n : 2 * n ≤ tN M1) (hok : lgOk M1 n) (w : Int32) : ∃ b a f N, mm_loop (X5_fitLog_l12 (nI n) w M1) mm_fuel (0, 0, nI n, 0) = some (b, a, f) ∧ mm_loop (X12_logged_l98 (nI n) w) mm_fuel (0, 0, 1000000, 0, mm_U M2 0 8 0) = some (b, a, f, N) ∧ rl_same2 N (mm_U M2 0 8 0) ∧ N 0 17 = M2 0 17 ∧ ∀ c, 8 ≤ c → N c = M2 c := by
  have hv := h.2.2.2.1
  have ht := h.2.2.2.2.2
  have hvnn := v_n hv
  have := e_loop2F (step := X5_fitLog_l12 (nI n) w M1) (step' := X12_logged_l98 (nI n) w) (I := fun (s : Int32 × Int32 × Int32 × Int32) (s' : Int32 × Int32 × Int32 × Int32 × mm_M) => ∃ t : Nat, t ≤ vN M1 ∧ s.2.2.2 = nI t ∧ s'.2.2.2.1 = nI t ∧ s.1 = s'.1 ∧ s.2.1 = s'.2.1 ∧ ((t = 0 ∧ s.2.2.1 = nI n ∧ s'.2.2.1 = 1000000) ∨ (1 ≤ t ∧ s.2.2.1 = s'.2.2.1)) ∧ rl_same2 s'.2.2.2.2 (mm_U M2 0 8 0) ∧ s'.2.2.2.2 0 17 = M2 0 17 ∧ ∀ c, 8 ≤ c → s'.2.2.2.2 c = M2 c) (Q := fun (r : Int32 × Int32 × Int32) (r' : Int32 × Int32 × Int32 × mm_M) => r.1 = r'.1 ∧ r.2.1 = r'.2.1 ∧ r.2.2 = r'.2.2.1 ∧ rl_same2 r'.2.2.2 (mm_U M2 0 8 0) ∧ r'.2.2.2 0 17 = M2 0 17 ∧ ∀ c, 8 ≤ c → r'.2.2.2 c = M2 c) (fun s _ => 20 - Int32.toNatClampNeg s.2.2.2) ?_ (0, 0, nI n, 0) (0, 0, 1000000, 0, mm_U M2 0 8 0) ⟨0, by omega, rfl, rfl, rfl, rfl, Or.inl ⟨rfl, rfl, rfl⟩, rl_same2_rfl, rfl, fun c hc => mm_U_ne c (by omega)⟩ (by omega)
  · obtain ⟨⟨b, a, f⟩, ⟨b', a', f', N⟩, e1, e2, h1, h2, h3, h4⟩ := this
    dsimp only at h1 h2 h3 h4
    subst h1 h2 h3
    exact ⟨b, a, f, N, e1, e2, h4⟩
  · rintro ⟨b, a, f, x⟩ ⟨b', a', f', x', N⟩ ⟨t, htn, hx, hx', hb, ha, hf, hsame, h17, h8⟩
    dsimp only at hx hx' hb ha hf hsame h17 h8
    subst hx hx' hb ha
    have hvN : rl_val M1 N := rl_val_same (show rl_val M1 (mm_U M2 0 8 0) from hv) hsame
    have h7 : N 7 = M2 7 := hsame.2.2.2.2.2.2.2.2
    unfold X5_fitLog_l12 X12_logged_l98
    dsimp only
    by_cases c : vN M1 ≤ t
    · have : t = vN M1 := by omega
      subst this
      rw [if_pos ((v_head hvN (by omega)).1.mpr c), if_pos ((v_head hvN (by omega)).2.mpr c)]
      refine Or.inr ⟨_, _, rfl, rfl, rfl, rfl, ?_, hsame, h17, h8⟩
      rcases hf with hf | hf
      · omega
      · exact hf.2
    · have ht10 : t < 10 := by omega
      rw [if_neg (fun h => c ((v_head hvN (by omega : t ≤ 10)).1.mp h)), if_neg (fun h => c ((v_head hvN (by omega : t ≤ 10)).2.mp h)), lg_in1 hv ht hn h2n hok ht10, lg_in2 hvN ht h7 hn h2n hok ht10, Option.bind_some, Option.bind_some]
      have hl := lg_le (M := M1) (s := t) n
      have hat := lg_lt hv hok ht10 n (Nat.le_refl _)
      dsimp only
      have em : (if nI (lgLies M1 t n) < f then nI (lgLies M1 t n) else f) = X12_min f' (nI (lgLies M1 t n)) := by
        unfold X12_min
        rcases hf with ⟨-, rfl, rfl⟩ | ⟨-, rfl⟩
        · have k : (1000000 : Int32) = nI 1000000 := rfl
          have g1 : nI (lgLies M1 t n) ≤ (1000000 : Int32) := by
            rw [k, nI_leI (by omega) (by omega)]
            omega
          rw [if_pos g1]
          by_cases d : lgLies M1 t n < n
          · rw [if_pos ((nI_ltI (by omega) (by omega)).mpr d)]
          · rw [if_neg (fun h => d ((nI_ltI (by omega) (by omega)).mp h))]
            have : lgLies M1 t n = n := by omega
            rw [this]
        · by_cases d : nI (lgLies M1 t n) < f
          · rw [if_pos d, if_pos]
            rw [e_lt] at d
            rw [e_le]
            omega
          · rw [if_neg d]
            by_cases d2 : nI (lgLies M1 t n) ≤ f
            · rw [if_pos d2, e_eq]
              rw [e_lt] at d
              rw [e_le] at d2
              omega
            · rw [if_neg d2]
      have hz : nI (lgLies M1 t n) = 0 ↔ nI (lgLies M1 t n) ≤ 0 := by
        rw [e_eq, e_le, e_nIt (by omega)]
        show (_ = (0 : Int)) ↔ (_ ≤ (0 : Int))
        omega
      have hlt : 20 - Int32.toNatClampNeg (nI t + 1) < 20 - Int32.toNatClampNeg (nI t) := by
        rw [nI_1, e_nIc (by omega), e_nIc (by omega)]
        omega
      have hs2 : rl_same2 (mm_U N 0 57 (nI (lgAt M1 t n))) (mm_U M2 0 8 0) := hsame
      by_cases d : nI (lgLies M1 t n) = 0
      · rw [if_pos d, if_pos (hz.mp d)]
        exact Or.inl ⟨_, _, rfl, rfl, ⟨t + 1, by omega, nI_1 t, nI_1 t, rfl, rfl, Or.inr ⟨by omega, em⟩, hs2, h17, fun c hc => (mm_U_ne c (by omega)).trans (h8 c hc)⟩, hlt⟩
      · rw [if_neg d, if_neg (fun h => d (hz.mpr h))]
        exact Or.inl ⟨_, _, rfl, rfl, ⟨t + 1, by omega, nI_1 t, nI_1 t, rfl, rfl, Or.inr ⟨by omega, em⟩, hs2, h17, fun c hc => (mm_U_ne c (by omega)).trans (h8 c hc)⟩, hlt⟩
theorem op_20 (x y : Int32) : rl_ok (cl_20 x y) (md_20 x y) := by
  intro M1 M2 h
  have hv := h.2.2.2.1
  have ht := h.2.2.2.2.2
  have hT := t_n ht
  have k0 : (0 : Int32).toInt = 0 := rfl
  have k1 : (1 : Int32).toInt = 1 := rfl
  have k2 : (2 : Int32).toInt = 2 := rfl
  have k20 : (20 : Int32).toInt = 20 := rfl
  unfold cl_20 md_20 X11_logged X12_logged
  have no : ∀ (A : Option (Int32 × mm_M)) (B : Option (Int32 × mm_M)), A = some (-1, M1) → B = some (-1, M2) → ∃ r M1' M2', (A.map fun y => (y.1, y.2)) = some (r, M1') ∧ (B.map fun y => (y.1, y.2)) = some (r, M2') ∧ rl_core M1' M2' ∧ rl_lf M1 M1' M2 M2' := by
    intro A B e1 e2
    rw [e1, e2]
    exact ⟨-1, M1, M2, rfl, rfl, h, rl_lf_rfl⟩
  by_cases cy : X12_in y 0 2 = true
  · have hy := rl_inI.mp cy
    rw [k0, k2] at hy
    have cy1 : ¬ y < 0 := by rw [e_lt, k0]; omega
    have cy2 : ¬ (2 : Int32) < y := by rw [e_lt, k2]; omega
    rw [if_neg cy1, if_neg cy2]
    unfold X11_logged_j14
    rw [if_pos rfl]
    by_cases cx : X12_in x 1 20 = true
    · have hx := rl_inI.mp cx
      rw [k1, k20] at hx
      have cx1 : ¬ x < 1 := by rw [e_lt, k1]; omega
      have cx2 : ¬ (20 : Int32) < x := by rw [e_lt, k20]; omega
      have hxn := e_nI (show 0 ≤ x.toInt by omega)
      have hxc := e_cl (show 0 ≤ x.toInt by omega)
      generalize Int32.toNatClampNeg x = n at hxn hxc
      subst hxn
      have hn : 1 ≤ n ∧ n ≤ 20 := by omega
      rw [if_neg cx1, if_neg cx2, lg_2.1]
      by_cases c3 : 2 * n ≤ tN M1
      · have d3 : ¬ M1 1 1 < nI (2 * n) := by
          rw [e_lt, hT.2.2.1, e_nIt (by omega)]
          omega
        have d4 : nI (2 * n) ≤ M2 0 8 := by
          rw [hT.2.2.2, nI_leI (by omega) (by omega)]
          exact c3
        rw [if_neg d3]
        by_cases c4 : X8_isTold M1 = true
        · have c5 := (rl_told hv).mp c4
          have hvn : 1 ≤ vN M1 := by
            have := v_n hv
            have c6 : ¬ M1 7 0 = 0 := by rw [hv.1]; exact c5
            rw [e_eq, k0, this.2.2] at c6
            omega
          rw [if_pos c4]
          simp only [if_neg c5, if_pos cx, if_pos cy, if_pos d4]
          obtain ⟨bk, e1, hb⟩ := lg_ok1 ht hn.2 c3
          obtain ⟨r, e2, hr⟩ := lg_ok2 (N := mm_U M2 0 8 0) ht rfl y hn.2 c3
          rw [e1, Option.bind_some, e2, Option.bind_some]
          rcases hr with ⟨rfl, hok⟩ | ⟨rfl, hok⟩
          · rw [if_pos (hb.mpr hok)]
            obtain ⟨b, a, f, N, q1, q2, hs2, h17, h8⟩ := lg_out h hvn hn.2 c3 hok y
            unfold X5_fitLog X11_logged_j88
            rw [q1, Option.bind_some, q2, Option.bind_some]
            have hc : rl_core (mm_U M1 1 1 0) N := rl_core_congr (rl_core_clear h) rl_same1_rfl hs2
            have hlf : rl_lf M1 (mm_U M1 1 1 0) M2 N := ⟨⟨rfl, rfl, rfl, rfl, rfl, rfl, rfl⟩, h17, h8 14 (by decide), h8 15 (by decide), h8 16 (by decide), h8 17 (by decide), h8 18 (by decide)⟩
            by_cases z0 : y = 0
            · rw [if_pos z0, if_pos z0]
              exact ⟨b, _, _, rfl, rfl, hc, hlf⟩
            · rw [if_neg z0, if_neg z0]
              by_cases z1 : y = 1
              · rw [if_pos z1, if_pos z1]
                exact ⟨a, _, _, rfl, rfl, hc, hlf⟩
              · rw [if_neg z1, if_neg z1]
                exact ⟨f, _, _, rfl, rfl, hc, hlf⟩
          · rw [if_neg (fun h => hok (hb.mp h))]
            exact ⟨-3, _, _, rfl, rfl, rl_core_clear h, rl_lf_clear⟩
        · have c5 : M2 0 6 = 0 := by
            rcases Decidable.em (M2 0 6 = 0) with q | q
            · exact q
            · exact absurd ((rl_told hv).mpr q) c4
          rw [if_neg c4]
          exact no _ _ rfl (by rw [if_pos c5])
      · have d3 : M1 1 1 < nI (2 * n) := by
          rw [e_lt, hT.2.2.1, e_nIt (by omega)]
          omega
        have d4 : ¬ nI (2 * n) ≤ M2 0 8 := by
          rw [hT.2.2.2, nI_leI (by omega) (by omega)]
          exact c3
        rw [if_pos d3]
        exact no _ _ rfl (by simp only [if_pos cx, if_pos cy, if_neg d4, ite_self])
    · refine no _ _ ?_ (by simp only [if_neg cx, ite_self])
      by_cases cx1 : x < 1
      · rw [if_pos cx1]
      · by_cases cx2 : (20 : Int32) < x
        · rw [if_neg cx1, if_pos cx2]
        · exact absurd (rl_inI.mpr (by rw [e_lt] at cx1 cx2; omega)) cx
  · refine no _ _ ?_ (by simp only [if_neg cy, ite_self])
    have j : X11_logged_j13 x y M1 = some (-1, M1) := by
      unfold X11_logged_j13 X11_logged_j14
      rw [if_neg (show ¬ (false = true) by decide)]
    by_cases cy1 : y < 0
    · rw [if_pos cy1, j]
    · by_cases cy2 : (2 : Int32) < y
      · rw [if_neg cy1, if_pos cy2, j]
      · exact absurd (rl_inI.mpr (by rw [e_lt] at cy1 cy2; omega)) cy
