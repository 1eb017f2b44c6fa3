-- sets of places below 10 as numbers below 1024
def zI (m k : Nat) : Nat := m ||| 2 ^ k
def zD (m k : Nat) : Nat := m &&& (1023 ^^^ 2 ^ k)
set_option maxRecDepth 100000 in
theorem z_ar : ∀ m, m < 1024 → ∀ k, k < 10 → zI m k < 1024 ∧ zD m k < 1024 ∧ (m.testBit k = true → zD m k < m ∧ zI (zD m k) k = m ∧ zI m k = m) ∧ (m.testBit k = false → zD (zI m k) k = m ∧ m < zI m k) := by decide +kernel
theorem z_bI {m k j : Nat} : (zI m k).testBit j = (m.testBit j || decide (j = k)) := by
  unfold zI
  rw [Nat.testBit_or, Nat.testBit_two_pow]
  congr 1
  simp [eq_comm]
theorem z_bD {m k j : Nat} (hm : m < 1024) : (zD m k).testBit j = (m.testBit j && !decide (j = k)) := by
  unfold zD
  rw [Nat.testBit_and, Nat.testBit_xor, Nat.testBit_two_pow]
  rcases Nat.lt_or_ge j 10 with h | h
  · have h1 : Nat.testBit 1023 j = true := (by decide +kernel : ∀ j, j < 10 → Nat.testBit 1023 j = true) j h
    rw [h1]
    by_cases e : k = j
    · simp [e]
    · simp [e, eq_comm]
  · have h1 : m.testBit j = false := Nat.testBit_lt_two_pow (Nat.lt_of_lt_of_le hm (Nat.pow_le_pow_right (n := 2) (by omega) h))
    rw [h1]
    rfl
theorem z_I {m k : Nat} (hm : m < 1024) (hk : k < 10) : (nI m ||| ((1 : Int32) <<< (nI k &&& 31))) = nI (zI m k) := by
  apply b_ext
  intro i hi
  rw [b_set _ (show k < 32 by omega) hi, s_bt hm, s_bt (z_ar m hm k hk).1, z_bI]
theorem z_D {m k : Nat} (hm : m < 1024) (hk : k < 10) : (nI m &&& (((1 : Int32) <<< (nI k &&& 31)) ^^^ (-1))) = nI (zD m k) := by
  apply b_ext
  intro i hi
  rw [b_clr _ (show k < 32 by omega) hi, s_bt hm, s_bt (z_ar m hm k hk).2.1, z_bD hm]
theorem z_sub {P : Nat → Prop} {A : Int32} (hA : bSet P A) {m : Nat} (hm : m < 1024) (hP : ∀ j, P j → j < 32) : ((A &&& (nI m ^^^ (-1))) = 0) ↔ ∀ j, P j → m.testBit j = true := by
  constructor
  · intro e j hj
    have h32 := hP j hj
    have h1 : bt (A &&& (nI m ^^^ (-1))) j = false := by rw [e, b_0]
    rw [b_and, b_xor, (hA j h32).mpr hj, b_m1 j h32, s_bt hm] at h1
    cases h : m.testBit j
    · rw [h] at h1
      cases h1
    · rfl
  · intro e
    apply b_ext
    intro j hj
    rw [b_and, b_xor, b_m1 j hj, s_bt hm, b_0]
    cases h : bt A j
    · rfl
    · rw [e j ((hA j hj).mp h)]
      rfl
/-- sums of ints -/
def sI (f : Nat → Int32) : Nat → Int32
  | 0 => 0
  | k + 1 => sI f k + f k
theorem sI_congr {f g : Nat → Int32} : ∀ n, (∀ k, k < n → f k = g k) → sI f n = sI g n := by
  intro n
  induction n with
  | zero => intro _; rfl
  | succ n ih =>
    intro h
    show sI f n + f n = sI g n + g n
    rw [ih (fun k hk => h k (by omega)), h n (by omega)]
theorem sI_upd {f g : Nat → Int32} {i : Nat} {c : Int32} (hi : g i = f i + c) : ∀ n, (∀ k, k < n → k ≠ i → g k = f k) → i < n → sI g n = sI f n + c := by
  intro n
  induction n with
  | zero => intro _ h; omega
  | succ n ih =>
    intro h hin
    show sI g n + g n = sI f n + f n + c
    by_cases e : i = n
    · subst e
      rw [sI_congr i (fun k hk => h k (by omega) (by omega)), hi, Int32.add_assoc]
    · rw [ih (fun k hk => h k (by omega)) (by omega), h n (by omega) (fun z => e z.symm), Int32.add_assoc, Int32.add_comm c, ← Int32.add_assoc]
theorem sI_0 {f : Nat → Int32} : ∀ n, (∀ k, k < n → f k = 0) → sI f n = 0 := by
  intro n
  induction n with
  | zero => intro _; rfl
  | succ n ih =>
    intro h
    show sI f n + f n = 0
    rw [ih (fun k hk => h k (by omega)), h n (by omega)]
    rfl
/-- the places that must stay ahead of place i -/
def fP (M : mm_M) (i j : Nat) : Prop := j < i ∧ (tB M j = tB M i ∨ ¬ vSwap M (tB M j) (tB M i))
-- how many rows: the reference's way of counting
noncomputable def fT (M : mm_M) (n : Nat) (w : Nat → Int32) (m k : Nat) : Int32 := @ite Int32 (m.testBit k = true ∧ (∀ j, fP M k j → m.testBit j = true) ∧ (∀ e, e < n → m.testBit e = true → ¬ fP M e k)) (Classical.propDecidable _) (w (zD m k)) 0
noncomputable def fW (M : mm_M) (n : Nat) : Nat → Nat → Int32
  | 0 => fun _ => 0
  | m + 1 => fun x => if x = m then (if m = 0 then 1 else 0) + sI (fT M n (fW M n m) m) n else fW M n m x
theorem fW_s {M : mm_M} {n m x : Nat} : fW M n (m + 1) x = if x = m then (if m = 0 then 1 else 0) + sI (fT M n (fW M n m) m) n else fW M n m x := rfl
theorem fW_old {M : mm_M} {n x : Nat} : ∀ d m, x < m → fW M n (m + d) x = fW M n m x := by
  intro d
  induction d with
  | zero => intro m _; rfl
  | succ d ih =>
    intro m h
    rw [show m + (d + 1) = (m + d) + 1 by omega, fW_s, if_neg (by omega), ih m h]
noncomputable def fV (M : mm_M) (n : Nat) (x : Nat) : Int32 := fW M n (x + 1) x
theorem fW_V {M : mm_M} {n x m : Nat} (h : x < m) : fW M n m x = fV M n x := by
  have := fW_old (M := M) (n := n) (x := x) (m - (x + 1)) (x + 1) (by omega)
  rw [show x + 1 + (m - (x + 1)) = m by omega] at this
  exact this
theorem fT_if {M : mm_M} {n : Nat} {w : Nat → Int32} {m k : Nat} : ((m.testBit k = true ∧ (∀ j, fP M k j → m.testBit j = true) ∧ (∀ e, e < n → m.testBit e = true → ¬ fP M e k)) → fT M n w m k = w (zD m k)) ∧ (¬ (m.testBit k = true ∧ (∀ j, fP M k j → m.testBit j = true) ∧ (∀ e, e < n → m.testBit e = true → ¬ fP M e k)) → fT M n w m k = 0) := by
  unfold fT
  exact ⟨fun h => by rw [if_pos h], fun h => by rw [if_neg h]⟩
theorem fV_eq {M : mm_M} {n m : Nat} (hm : m < 1024) (hn : n ≤ 10) : fV M n m = (if m = 0 then 1 else 0) + sI (fT M n (fV M n) m) n := by
  unfold fV
  rw [fW_s, if_pos rfl]
  congr 1
  refine sI_congr n (fun k hk => ?_)
  rcases Classical.em (m.testBit k = true ∧ (∀ j, fP M k j → m.testBit j = true) ∧ (∀ e, e < n → m.testBit e = true → ¬ fP M e k)) with c | c
  · rw [fT_if.1 c, fT_if.1 c]
    have := ((z_ar m hm k (by omega)).2.2.1 c.1).1
    exact fW_V this
  · rw [fT_if.2 c, fT_if.2 c]
/-- a set that wants something ahead of one of its places has no row -/
theorem fV_0 {M : mm_M} {n : Nat} (hn : n ≤ 10) : ∀ m, m < 1024 → (∃ e j, e < n ∧ m.testBit e = true ∧ fP M e j ∧ m.testBit j = false) → fV M n m = 0 := by
  intro m
  induction m using Nat.strongRecOn with
  | ind m ih =>
    rintro hm ⟨e, j, he, h1, h2, h3⟩
    rw [fV_eq hm hn, sI_0 n]
    · have : ¬ m = 0 := by
        intro z
        rw [z, Nat.zero_testBit] at h1
        cases h1
      rw [if_neg this]
      rfl
    · intro k hk
      rcases Classical.em (m.testBit k = true ∧ (∀ j, fP M k j → m.testBit j = true) ∧ (∀ e, e < n → m.testBit e = true → ¬ fP M e k)) with c | c
      · rw [fT_if.1 c]
        have hz := (z_ar m hm k (by omega))
        refine ih _ (hz.2.2.1 c.1).1 hz.2.1 ⟨e, j, he, ?_, h2, ?_⟩
        · have : e ≠ k := by
            intro z
            subst z
            have := c.2.1 j h2
            rw [h3] at this
            cases this
          rw [z_bD hm, h1]
          simp [this]
        · rw [z_bD hm, h3]
          rfl
      · exact fT_if.2 c
/-- the class's way of counting: from what is ahead on -/
noncomputable def fU (M : mm_M) (n : Nat) (D i x k : Nat) : Int32 := @ite Int32 (x.testBit k = true ∧ (∀ j, fP M k j → (zD x k).testBit j = true) ∧ (zD x k < D ∨ (zD x k = D ∧ k < i))) (Classical.propDecidable _) (fV M n (zD x k)) 0
theorem fU_if {M : mm_M} {n D i x k : Nat} : ((x.testBit k = true ∧ (∀ j, fP M k j → (zD x k).testBit j = true) ∧ (zD x k < D ∨ (zD x k = D ∧ k < i))) → fU M n D i x k = fV M n (zD x k)) ∧ (¬ (x.testBit k = true ∧ (∀ j, fP M k j → (zD x k).testBit j = true) ∧ (zD x k < D ∨ (zD x k = D ∧ k < i))) → fU M n D i x k = 0) := by
  unfold fU
  exact ⟨fun h => by rw [if_pos h], fun h => by rw [if_neg h]⟩
noncomputable def fS (M : mm_M) (n D i x : Nat) : Int32 := (if x = 0 then 1 else 0) + sI (fU M n D i x) n
theorem fS_V {M : mm_M} {n D i x : Nat} (hn : n ≤ 10) (hx : x < 1024) (h : x ≤ D) : fS M n D i x = fV M n x := by
  rw [fV_eq hx hn]
  unfold fS
  congr 1
  refine sI_congr n (fun k hk => ?_)
  have hz := z_ar x hx k (by omega)
  rcases Classical.em (x.testBit k = true ∧ (∀ j, fP M k j → x.testBit j = true) ∧ (∀ e, e < n → x.testBit e = true → ¬ fP M e k)) with c | c
  · have hd := (hz.2.2.1 c.1).1
    rw [fT_if.1 c, fU_if.1 ⟨c.1, fun j hj => ?_, Or.inl (by omega)⟩]
    have : j ≠ k := by have := hj.1; omega
    rw [z_bD hx, c.2.1 j hj]
    simp [this]
  · rw [fT_if.2 c]
    rcases Classical.em (x.testBit k = true ∧ (∀ j, fP M k j → (zD x k).testBit j = true) ∧ (zD x k < D ∨ (zD x k = D ∧ k < i))) with d | d
    · rw [fU_if.1 d]
      refine fV_0 hn _ hz.2.1 ?_
      have hsub : ∀ j, fP M k j → x.testBit j = true := by
        intro j hj
        have := d.2.1 j hj
        rw [z_bD hx] at this
        cases hb : x.testBit j
        · rw [hb] at this
          cases this
        · rfl
      rcases Classical.em (∃ e, e < n ∧ x.testBit e = true ∧ fP M e k) with w | w
      · obtain ⟨e, he, h1, h2⟩ := w
        refine ⟨e, k, he, ?_, h2, ?_⟩
        · have : e ≠ k := by have := h2.1; omega
          rw [z_bD hx, h1]
          simp [this]
        · rw [z_bD hx]
          simp
      · exact absurd ⟨d.1, hsub, fun e he h1 h2 => w ⟨e, he, h1, h2⟩⟩ c
    · rw [fU_if.2 d]
/-- one step of the class's count -/
theorem fS_add {M : mm_M} {n D i : Nat} (hn : n ≤ 10) (hD : D < 1024) (hi : i < n) (hb : D.testBit i = false) (hP : ∀ j, fP M i j → D.testBit j = true) : ∀ x, x < 1024 → fS M n D (i + 1) x = if x = zI D i then fS M n D i x + fV M n D else fS M n D i x := by
  intro x hx
  have hz := z_ar D hD i (by omega)
  have hzz := hz.2.2.2 hb
  unfold fS
  by_cases e : x = zI D i
  · rw [if_pos e, sI_upd (f := fU M n D i x) (i := i) (c := fV M n D), Int32.add_assoc]
    · rw [fU_if.1 ⟨by rw [e, z_bI]; simp, by rw [e, hzz.1]; exact hP, Or.inr ⟨by rw [e, hzz.1], by omega⟩⟩, fU_if.2 (by rw [e, hzz.1]; omega), e, hzz.1, Int32.zero_add]
    · intro k hk hki
      rcases Classical.em (x.testBit k = true ∧ (∀ j, fP M k j → (zD x k).testBit j = true) ∧ (zD x k < D ∨ (zD x k = D ∧ k < i))) with c | c
      · rw [fU_if.1 c, fU_if.1 ⟨c.1, c.2.1, by omega⟩]
      · rw [fU_if.2 c, fU_if.2 (fun z => c ⟨z.1, z.2.1, by omega⟩)]
    · exact hi
  · rw [if_neg e]
    congr 1
    refine sI_congr n (fun k hk => ?_)
    rcases Classical.em (x.testBit k = true ∧ (∀ j, fP M k j → (zD x k).testBit j = true) ∧ (zD x k < D ∨ (zD x k = D ∧ k < i))) with c | c
    · rw [fU_if.1 c, fU_if.1 ⟨c.1, c.2.1, by omega⟩]
    · rw [fU_if.2 c, fU_if.2]
      rintro ⟨z1, z2, z3⟩
      refine c ⟨z1, z2, ?_⟩
      have := ((z_ar x hx k (by omega)).2.2.1 z1).2.1
      by_cases w : k = i
      · subst w
        rcases z3 with z3 | z3
        · exact Or.inl z3
        · rw [z3.1] at this
          exact absurd this.symm e
      · omega
theorem fS_no {M : mm_M} {n D i : Nat} (hn : n ≤ 10) (h : ¬ (D.testBit i = false ∧ ∀ j, fP M i j → D.testBit j = true) ∨ fV M n D = 0) : ∀ x, x < 1024 → fS M n D (i + 1) x = fS M n D i x := by
  intro x hx
  unfold fS
  congr 1
  refine sI_congr n (fun k hk => ?_)
  rcases Classical.em (x.testBit k = true ∧ (∀ j, fP M k j → (zD x k).testBit j = true) ∧ (zD x k < D ∨ (zD x k = D ∧ k < i))) with c | c
  · rw [fU_if.1 c, fU_if.1 ⟨c.1, c.2.1, by omega⟩]
  · rw [fU_if.2 c]
    rcases Classical.em (x.testBit k = true ∧ (∀ j, fP M k j → (zD x k).testBit j = true) ∧ (zD x k < D ∨ (zD x k = D ∧ k < i + 1))) with d | d
    · rw [fU_if.1 d]
      have hk : zD x k = D ∧ k = i := by
        rcases d.2.2 with y | y
        · exact absurd ⟨d.1, d.2.1, Or.inl y⟩ c
        · refine ⟨y.1, ?_⟩
          rcases Nat.lt_or_ge k i with w | w
          · exact absurd ⟨d.1, d.2.1, Or.inr ⟨y.1, w⟩⟩ c
          · omega
      rcases h with h | h
      · exfalso
        apply h
        rw [← hk.1, ← hk.2]
        refine ⟨?_, d.2.1⟩
        rw [z_bD hx]
        simp
      · rw [hk.1, h]
    · rw [fU_if.2 d]
theorem fS_n {M : mm_M} {n D : Nat} (hn : n ≤ 10) : ∀ x, x < 1024 → fS M n (D + 1) 0 x = fS M n D n x := by
  intro x hx
  unfold fS
  congr 1
  refine sI_congr n (fun k hk => ?_)
  rcases Classical.em (x.testBit k = true ∧ (∀ j, fP M k j → (zD x k).testBit j = true) ∧ (zD x k < D ∨ (zD x k = D ∧ k < n))) with c | c
  · rw [fU_if.1 c, fU_if.1 ⟨c.1, c.2.1, by omega⟩]
  · rw [fU_if.2 c, fU_if.2 (fun z => c ⟨z.1, z.2.1, by omega⟩)]
theorem fS_0 {M : mm_M} {n x : Nat} : fS M n 0 0 x = if x = 0 then 1 else 0 := by
  unfold fS
  rw [sI_0 n (fun k hk => fU_if.2 (by omega)), Int32.add_zero]
