-- counting
/-- of how many below k it holds -/
def nC (f : Nat → Bool) : Nat → Nat
  | 0 => 0
  | k + 1 => nC f k + if f k = true then 1 else 0
theorem nC_le {f : Nat → Bool} : ∀ k, nC f k ≤ k := by
  intro k
  induction k with
  | zero => exact Nat.le_refl _
  | succ k ih =>
    show nC f k + (if f k = true then 1 else 0) ≤ k + 1
    split <;> omega
theorem nC_mono {f g : Nat → Bool} : ∀ k, (∀ i, i < k → f i = true → g i = true) → nC f k ≤ nC g k := by
  intro k
  induction k with
  | zero => intro _; exact Nat.le_refl _
  | succ k ih =>
    intro h
    show nC f k + (if f k = true then 1 else 0) ≤ nC g k + (if g k = true then 1 else 0)
    have h1 := ih (fun i hi => h i (by omega))
    have h2 := h k (by omega)
    by_cases c : f k = true
    · rw [if_pos c, if_pos (h2 c)]
      omega
    · rw [if_neg c]
      omega
theorem nC_lt {f g : Nat → Bool} : ∀ k, (∀ i, i < k → f i = true → g i = true) → (∃ s, s < k ∧ ¬ f s = true ∧ g s = true) → nC f k < nC g k := by
  intro k
  induction k with
  | zero => rintro _ ⟨s, h, _⟩; omega
  | succ k ih =>
    rintro h ⟨s, hs, h1, h2⟩
    show nC f k + (if f k = true then 1 else 0) < nC g k + (if g k = true then 1 else 0)
    by_cases c : s = k
    · subst c
      rw [if_neg h1, if_pos h2]
      have := nC_mono (f := f) (g := g) s (fun i hi => h i (by omega))
      omega
    · have h3 := ih (fun i hi => h i (by omega)) ⟨s, by omega, h1, h2⟩
      have h4 := h k (by omega)
      by_cases d : f k = true
      · rw [if_pos d, if_pos (h4 d)]
        omega
      · rw [if_neg d]
        omega
theorem nC_full {f : Nat → Bool} : ∀ k, nC f k = k → ∀ i, i < k → f i = true := by
  intro k
  induction k with
  | zero => intro _ i h; omega
  | succ k ih =>
    intro h i hi
    have h : nC f k + (if f k = true then 1 else 0) = k + 1 := h
    have h1 := nC_le (f := f) k
    by_cases c : f k = true
    · rw [if_pos c] at h
      by_cases d : i = k
      · subst d
        exact c
      · exact ih (by omega) i (by omega)
    · rw [if_neg c] at h
      omega
theorem nC_pos {f : Nat → Bool} : ∀ k, (∃ s, s < k ∧ f s = true) → 0 < nC f k := by
  intro k
  induction k with
  | zero => rintro ⟨s, h, _⟩; omega
  | succ k ih =>
    rintro ⟨s, hs, h1⟩
    show 0 < nC f k + (if f k = true then 1 else 0)
    by_cases c : s = k
    · subst c
      rw [if_pos h1]
      omega
    · have := ih ⟨s, by omega, h1⟩
      omega
theorem nC_upd {f g : Nat → Bool} {s : Nat} (h1 : ¬ f s = true) (h2 : g s = true) : ∀ k, (∀ i, i < k → i ≠ s → g i = f i) → nC g k = nC f k + if s < k then 1 else 0 := by
  intro k
  induction k with
  | zero => intro _; rfl
  | succ k ih =>
    intro h
    show nC g k + (if g k = true then 1 else 0) = nC f k + (if f k = true then 1 else 0) + _
    rw [ih (fun i hi => h i (by omega))]
    by_cases c : k = s
    · subst c
      rw [if_neg (Nat.lt_irrefl _), if_pos h2, if_neg h1, if_pos (by omega)]
    · rw [h k (by omega) c]
      by_cases d : s < k
      · rw [if_pos d, if_pos (show s < k + 1 by omega)]
        omega
      · rw [if_neg d, if_neg (show ¬ s < k + 1 by omega)]
        omega
-- least ways
def wU (c : Nat → Nat) (s v : Nat) : Nat → Nat := fun i => if i = s then v else c i
def wRel (B : Nat → Nat → Nat) (p c : Nat → Nat) (s q : Nat) : Nat → Nat := if c (B q s) + p q < c s then wU c s (c (B q s) + p q) else c
def wQ (B : Nat → Nat → Nat) (p c : Nat → Nat) (s : Nat) : Nat → Nat → Nat
  | 0 => c
  | q + 1 => wRel B p (wQ B p c s q) s q
def wS (B : Nat → Nat → Nat) (p c : Nat → Nat) : Nat → Nat → Nat
  | 0 => c
  | s + 1 => wQ B p (wS B p c s) s 8
theorem wQ_ind {B : Nat → Nat → Nat} {p c : Nat → Nat} {s : Nat} {P : (Nat → Nat) → Prop} (h : ∀ c q, q < 8 → P c → P (wRel B p c s q)) (h0 : P c) : ∀ k, k ≤ 8 → P (wQ B p c s k) := by
  intro k
  induction k with
  | zero => intro _; exact h0
  | succ k ih => intro hk; exact h _ k (by omega) (ih (by omega))
theorem wS_ind {B : Nat → Nat → Nat} {p c : Nat → Nat} {n : Nat} {P : (Nat → Nat) → Prop} (h : ∀ c s q, s < n → q < 8 → P c → P (wRel B p c s q)) (h0 : P c) : ∀ k, k ≤ n → P (wS B p c k) := by
  intro k
  induction k with
  | zero => intro _; exact h0
  | succ k ih => intro hk; exact wQ_ind (fun c q hq => h c k q (by omega) hq) (ih (by omega)) 8 (Nat.le_refl _)
theorem wRel_le {B : Nat → Nat → Nat} {p c : Nat → Nat} {s q : Nat} (i : Nat) : wRel B p c s q i ≤ c i := by
  unfold wRel
  split
  · unfold wU
    split
    · rename_i h1 h2
      subst h2
      omega
    · exact Nat.le_refl _
  · exact Nat.le_refl _
theorem wRel_at {B : Nat → Nat → Nat} {p c : Nat → Nat} {s q : Nat} : wRel B p c s q s ≤ c (B q s) + p q := by
  unfold wRel
  split
  · unfold wU
    rw [if_pos rfl]
    exact Nat.le_refl _
  · omega
theorem wQ_le {B : Nat → Nat → Nat} {p c : Nat → Nat} {s : Nat} (i : Nat) : ∀ k j, j ≤ k → wQ B p c s k i ≤ wQ B p c s j i := by
  intro k
  induction k with
  | zero => intro j h; rw [Nat.le_zero.mp h]; exact Nat.le_refl _
  | succ k ih =>
    intro j h
    by_cases e : j = k + 1
    · subst e
      exact Nat.le_refl _
    · exact Nat.le_trans (wRel_le i) (ih j (by omega))
theorem wS_le {B : Nat → Nat → Nat} {p c : Nat → Nat} (i : Nat) : ∀ k j, j ≤ k → wS B p c k i ≤ wS B p c j i := by
  intro k
  induction k with
  | zero => intro j h; rw [Nat.le_zero.mp h]; exact Nat.le_refl _
  | succ k ih =>
    intro j h
    by_cases e : j = k + 1
    · subst e
      exact Nat.le_refl _
    · exact Nat.le_trans (wQ_le i 8 0 (by omega)) (ih j (by omega))
theorem wS_at {B : Nat → Nat → Nat} {p c : Nat → Nat} {n s q : Nat} (hs : s < n) (hq : q < 8) : wS B p c n s ≤ c (B q s) + p q := by
  have h1 : wS B p c n s ≤ wQ B p (wS B p c s) s 8 s := wS_le s n (s + 1) (by omega)
  have h2 : wQ B p (wS B p c s) s 8 s ≤ wQ B p (wS B p c s) s (q + 1) s := wQ_le s 8 (q + 1) (by omega)
  have h3 : wQ B p (wS B p c s) s (q + 1) s ≤ wQ B p (wS B p c s) s q (B q s) + p q := wRel_at
  have h4 : wQ B p (wS B p c s) s q (B q s) ≤ wS B p c s (B q s) := wQ_le _ q 0 (by omega)
  have h5 : wS B p c s (B q s) ≤ c (B q s) := wS_le _ s 0 (by omega)
  omega
/-- no question brings any nearer -/
def wFix (B : Nat → Nat → Nat) (p : Nat → Nat) (n : Nat) (c : Nat → Nat) : Prop := ∀ s q, s < n → q < 8 → c s ≤ c (B q s) + p q
theorem wFix_S {B : Nat → Nat → Nat} {p c : Nat → Nat} {n : Nat} (h : wFix B p n c) : wS B p c n = c := by
  refine wS_ind (P := fun c' => c' = c) (n := n) ?_ rfl n (Nat.le_refl _)
  rintro c' s q hs hq rfl
  unfold wRel
  rw [if_neg]
  have := h s q hs hq
  omega
theorem wS_Fix {B : Nat → Nat → Nat} {p c : Nat → Nat} {n : Nat} (h : wS B p c n = c) : wFix B p n c := by
  intro s q hs hq
  have := wS_at (B := B) (p := p) (c := c) hs hq
  rw [h] at this
  exact this
def wSol (B : Nat → Nat → Nat) (p : Nat → Nat) (n t F : Nat) (g : Nat → Nat) : Prop := g t = 0 ∧ (∀ i, i < 10 → g i ≤ F) ∧ wFix B p n g
/-- above all bounds -/
def wUp (B : Nat → Nat → Nat) (p : Nat → Nat) (n t F : Nat) (c : Nat → Nat) : Prop := c t = 0 ∧ (∀ i, i < 10 → c i ≤ F) ∧ ∀ g, wSol B p n t F g → ∀ i, i < 10 → g i ≤ c i
theorem wUp_Rel {B : Nat → Nat → Nat} {p c : Nat → Nat} {n t F s q : Nat} (hn : n ≤ 10) (hB : ∀ q s, q < 8 → s < 10 → B q s < 10) (hs : s < n) (hq : q < 8) (h : wUp B p n t F c) : wUp B p n t F (wRel B p c s q) := by
  obtain ⟨h1, h2, h3⟩ := h
  refine ⟨?_, fun i hi => Nat.le_trans (wRel_le i) (h2 i hi), fun g hg i hi => ?_⟩
  · have := wRel_le (B := B) (p := p) (c := c) (s := s) (q := q) t
    omega
  · unfold wRel
    split
    · unfold wU
      split
      · rename_i e
        subst e
        have a1 := h3 g hg (B q i) (hB q i hq hi)
        have a2 := hg.2.2 i q hs hq
        omega
      · exact h3 g hg i hi
    · exact h3 g hg i hi
theorem wUp_S {B : Nat → Nat → Nat} {p c : Nat → Nat} {n t F : Nat} (hn : n ≤ 10) (hB : ∀ q s, q < 8 → s < 10 → B q s < 10) (h : wUp B p n t F c) : wUp B p n t F (wS B p c n) := wS_ind (P := wUp B p n t F) (fun c s q hs hq hc => wUp_Rel hn hB hs hq hc) h n (Nat.le_refl _)
def wSum (c : Nat → Nat) : Nat → Nat
  | 0 => 0
  | k + 1 => wSum c k + c k
theorem wSum_le {c d : Nat → Nat} : ∀ k, (∀ i, i < k → c i ≤ d i) → wSum c k ≤ wSum d k := by
  intro k
  induction k with
  | zero => intro _; exact Nat.le_refl _
  | succ k ih =>
    intro h
    have h1 := ih (fun i hi => h i (by omega))
    have h2 := h k (by omega)
    show wSum c k + c k ≤ wSum d k + d k
    omega
theorem wSum_lt {c d : Nat → Nat} : ∀ k, (∀ i, i < k → c i ≤ d i) → (∃ s, s < k ∧ c s < d s) → wSum c k < wSum d k := by
  intro k
  induction k with
  | zero => rintro _ ⟨s, h, _⟩; omega
  | succ k ih =>
    rintro h ⟨s, hs, h1⟩
    show wSum c k + c k < wSum d k + d k
    have h2 := h k (by omega)
    by_cases e : s = k
    · subst e
      have := wSum_le (c := c) (d := d) s (fun i hi => h i (by omega))
      omega
    · have := ih (fun i hi => h i (by omega)) ⟨s, by omega, h1⟩
      omega
theorem wS_lt {B : Nat → Nat → Nat} {p c : Nat → Nat} {n : Nat} (hn : n ≤ 10) (h : ¬ wFix B p n c) : wSum (wS B p c n) 10 < wSum c 10 := by
  refine wSum_lt 10 (fun i _ => wS_le i n 0 (by omega)) ?_
  rcases Classical.em (∃ s, s < 10 ∧ wS B p c n s < c s) with e | e
  · exact e
  · exfalso
    apply h
    intro s q hs hq
    have h1 := wS_at (B := B) (p := p) (c := c) hs hq
    have h2 : ¬ wS B p c n s < c s := fun h => e ⟨s, by omega, h⟩
    omega
theorem w_ex {B : Nat → Nat → Nat} {p : Nat → Nat} {n : Nat} (hn : n ≤ 10) (P : (Nat → Nat) → Prop) (hP : ∀ c, P c → P (wS B p c n)) : ∀ N c, wSum c 10 ≤ N → P c → ∃ d, P d ∧ wFix B p n d := by
  intro N
  induction N with
  | zero =>
    intro c h hc
    refine ⟨c, hc, ?_⟩
    rcases Classical.em (wFix B p n c) with e | e
    · exact e
    · have := wS_lt hn e
      omega
  | succ N ih =>
    intro c h hc
    rcases Classical.em (wFix B p n c) with e | e
    · exact ⟨c, hc, e⟩
    · have := wS_lt hn e
      exact ih _ (by omega) (hP c hc)
/-- the two kinds of 'far' side by side: what is not far is alike and small -/
def wR (c d : Nat → Nat) : Prop := (∀ i, i < 10 → (c i < 99999 ∧ d i = c i ∧ c i + 99 ≤ 99 * nC (fun j => decide (c j < 99999)) 10) ∨ (c i = 99999 ∧ d i = 1000000))
theorem wR_small {c d : Nat → Nat} (h : wR c d) {i : Nat} (hi : i < 10) : (c i < 99999 ∧ d i = c i ∧ c i ≤ 891) ∨ (c i = 99999 ∧ d i = 1000000) := by
  have := nC_le (f := fun j => decide (c j < 99999)) 10
  rcases h i hi with ⟨h1, h2, h3⟩ | h1
  · exact Or.inl ⟨h1, h2, by omega⟩
  · exact Or.inr h1
theorem wR_Rel {B : Nat → Nat → Nat} {p c d : Nat → Nat} {s q : Nat} (hs : s < 10) (hB : B q s < 10) (hp : p q ≤ 99) (h : wR c d) : wR (wRel B p c s q) (wRel B p d s q) := by
  unfold wRel
  rcases wR_small h hB with ⟨b1, b2, b3⟩ | ⟨b1, b2⟩
  · rw [b2]
    have hb4 : c (B q s) + 99 ≤ 99 * nC (fun j => decide (c j < 99999)) 10 := by
      rcases h _ hB with ⟨_, _, h3⟩ | ⟨h3, _⟩
      · exact h3
      · omega
    rcases h s hs with ⟨s1, s2, s3⟩ | ⟨s1, s2⟩
    · rw [s2]
      by_cases e : c (B q s) + p q < c s
      · rw [if_pos e, if_pos e]
        have hc : nC (fun j => decide (wU c s (c (B q s) + p q) j < 99999)) 10 = nC (fun j => decide (c j < 99999)) 10 := by
          congr 1
          funext j
          unfold wU
          by_cases ej : j = s
          · subst ej
            rw [if_pos rfl]
            simp only [decide_eq_decide]
            omega
          · rw [if_neg ej]
        intro i hi
        rw [hc]
        unfold wU
        by_cases ei : i = s
        · subst ei
          rw [if_pos rfl, if_pos rfl]
          exact Or.inl ⟨by omega, rfl, by omega⟩
        · rw [if_neg ei, if_neg ei]
          exact h i hi
      · rw [if_neg e, if_neg e]
        exact h
    · rw [if_pos (show c (B q s) + p q < c s by omega), if_pos (show c (B q s) + p q < d s by omega)]
      have hc : nC (fun j => decide (wU c s (c (B q s) + p q) j < 99999)) 10 = nC (fun j => decide (c j < 99999)) 10 + 1 := by
        have := nC_upd (f := fun j => decide (c j < 99999)) (g := fun j => decide (wU c s (c (B q s) + p q) j < 99999)) (s := s) (by simp only [decide_eq_true_eq]; omega) (by simp only [decide_eq_true_eq, wU, if_true]; omega) 10 (fun i _ hi => by simp only [wU, if_neg hi])
        rw [this, if_pos hs]
      intro i hi
      rw [hc]
      unfold wU
      by_cases ei : i = s
      · subst ei
        rw [if_pos rfl, if_pos rfl]
        exact Or.inl ⟨by omega, rfl, by omega⟩
      · rw [if_neg ei, if_neg ei]
        rcases h i hi with ⟨i1, i2, i3⟩ | i1
        · exact Or.inl ⟨i1, i2, by omega⟩
        · exact Or.inr i1
  · rcases h s hs with ⟨s1, s2, s3⟩ | ⟨s1, s2⟩
    · have := nC_le (f := fun j => decide (c j < 99999)) 10
      rw [if_neg (by omega), if_neg (by omega)]
      exact h
    · rw [if_neg (by omega), if_neg (by omega)]
      exact h
theorem wR_Q {B : Nat → Nat → Nat} {p c d : Nat → Nat} {s : Nat} (hs : s < 10) (hB : ∀ q s, q < 8 → s < 10 → B q s < 10) (hp : ∀ q, q < 8 → p q ≤ 99) (h : wR c d) : ∀ k, k ≤ 8 → wR (wQ B p c s k) (wQ B p d s k) := by
  intro k
  induction k with
  | zero => intro _; exact h
  | succ k ih => intro hk; exact wR_Rel hs (hB k s (by omega) hs) (hp k (by omega)) (ih (by omega))
theorem wR_S {B : Nat → Nat → Nat} {p c d : Nat → Nat} {n : Nat} (hn : n ≤ 10) (hB : ∀ q s, q < 8 → s < 10 → B q s < 10) (hp : ∀ q, q < 8 → p q ≤ 99) (h : wR c d) : ∀ k, k ≤ n → wR (wS B p c k) (wS B p d k) := by
  intro k
  induction k with
  | zero => intro _; exact h
  | succ k ih => intro hk; exact wR_Q (by omega) hB hp (ih (by omega)) 8 (Nat.le_refl _)
/-- the greatest bound -/
def wGr (B : Nat → Nat → Nat) (p : Nat → Nat) (n t F : Nat) (d : Nat → Nat) : Prop := wSol B p n t F d ∧ wUp B p n t F d
theorem wGr_eq {B : Nat → Nat → Nat} {p : Nat → Nat} {n t F : Nat} {c d : Nat → Nat} (hc : wGr B p n t F c) (hd : wGr B p n t F d) {i : Nat} (hi : i < 10) : c i = d i := Nat.le_antisymm (hd.2.2.2 c hc.1 i hi) (hc.2.2.2 d hd.1 i hi)
theorem wUp_Gr {B : Nat → Nat → Nat} {p : Nat → Nat} {n t F : Nat} {c : Nat → Nat} (hc : wUp B p n t F c) (hf : wFix B p n c) : wGr B p n t F c := ⟨⟨hc.1, hc.2.1, hf⟩, hc⟩
def w0 (t F : Nat) : Nat → Nat := fun i => if i = t then 0 else F
theorem w0_Up {B : Nat → Nat → Nat} {p : Nat → Nat} {n t F : Nat} : wUp B p n t F (w0 t F) := by
  refine ⟨by unfold w0; rw [if_pos rfl], fun i _ => ?_, fun g hg i hi => ?_⟩
  · unfold w0
    split <;> omega
  · unfold w0
    split
    · rename_i e
      rw [e, hg.1]
      exact Nat.le_refl _
    · exact hg.2.1 i hi
theorem w0_R {t : Nat} (ht : t < 10) : wR (w0 t 99999) (w0 t 1000000) := by
  intro i hi
  unfold w0
  by_cases e : i = t
  · rw [if_pos e, if_pos e]
    refine Or.inl ⟨by omega, rfl, ?_⟩
    have := nC_pos (f := fun j => decide ((if j = t then 0 else 99999) < 99999)) 10 ⟨t, ht, by rw [if_pos rfl]; decide⟩
    omega
  · rw [if_neg e, if_neg e]
    exact Or.inr ⟨rfl, rfl⟩
theorem w_dist {B : Nat → Nat → Nat} {p : Nat → Nat} {n t : Nat} (hn : n ≤ 10) (ht : t < 10) (hB : ∀ q s, q < 8 → s < 10 → B q s < 10) (hp : ∀ q, q < 8 → p q ≤ 99) : ∃ d1 d2, wGr B p n t 99999 d1 ∧ wGr B p n t 1000000 d2 ∧ wR d1 d2 := by
  obtain ⟨d1, ⟨d2, h1, h2, h3⟩, h4⟩ := w_ex (B := B) (p := p) hn (fun c => ∃ d, wUp B p n t 99999 c ∧ wUp B p n t 1000000 d ∧ wR c d) (fun c ⟨d, a1, a2, a3⟩ => ⟨wS B p d n, wUp_S hn hB a1, wUp_S hn hB a2, wR_S hn hB hp a3 n (Nat.le_refl _)⟩) _ (w0 t 99999) (Nat.le_refl _) ⟨w0 t 1000000, w0_Up, w0_Up, w0_R ht⟩
  refine ⟨d1, d2, wUp_Gr h1 h4, wUp_Gr h2 ?_, h3⟩
  intro s q hs hq
  have h5 := h4 s q hs hq
  have hp := hp q hq
  rcases wR_small h3 (show s < 10 by omega) with ⟨s1, s2, s3⟩ | ⟨s1, s2⟩ <;> rcases wR_small h3 (hB q s hq (by omega)) with ⟨b1, b2, b3⟩ | ⟨b1, b2⟩ <;> omega
/-- a round settles one more -/
theorem w_more {B : Nat → Nat → Nat} {p : Nat → Nat} {n t F : Nat} {c d : Nat → Nat} (hn : n ≤ 10) (hB : ∀ q s, q < 8 → s < 10 → B q s < 10) (hd : wGr B p n t F d) (hc : wUp B p n t F c) (k : Nat) (hk : k ≤ nC (fun i => decide (c i = d i)) 10) : min 10 (k + 1) ≤ nC (fun i => decide (wS B p c n i = d i)) 10 := by
  have hS := wUp_S hn hB hc
  have keep : ∀ i, i < 10 → decide (c i = d i) = true → decide (wS B p c n i = d i) = true := by
    intro i hi h
    rw [decide_eq_true_eq] at h ⊢
    have h1 := wS_le (B := B) (p := p) (c := c) i n 0 (by omega)
    have h1 : wS B p c n i ≤ c i := h1
    have h2 := hS.2.2 d hd.1 i hi
    omega
  rcases Classical.em (∀ i, i < 10 → c i = d i) with e | e
  · have : nC (fun _ => true) 10 ≤ nC (fun i => decide (wS B p c n i = d i)) 10 := nC_mono 10 (fun i hi _ => keep i hi (by rw [decide_eq_true_eq]; exact e i hi))
    have h10 : nC (fun _ => true) 10 = 10 := rfl
    omega
  · have : nC (fun i => decide (c i = d i)) 10 < nC (fun i => decide (wS B p c n i = d i)) 10 := by
      refine nC_lt 10 keep ?_
      rcases Classical.em (∃ s, s < 10 ∧ ¬ decide (c s = d s) = true ∧ decide (wS B p c n s = d s) = true) with f | f
      · exact f
      · exfalso
        apply e
        intro i hi
        rcases Decidable.em (c i = d i) with g | g
        · exact g
        · exfalso
          -- d, one more where it isn't settled, were a bound
          have hle : ∀ j, j < 10 → d j ≤ c j := hc.2.2 d hd.1
          have sol : wSol B p n t F (fun j => if c j = d j then d j else d j + 1) := by
            refine ⟨?_, fun j hj => ?_, fun s q hs hq => ?_⟩
            · show (if c t = d t then d t else d t + 1) = 0
              rw [if_pos (by rw [hc.1, hd.1.1]), hd.1.1]
            · show (if c j = d j then d j else d j + 1) ≤ F
              have h1 := hle j hj
              have h2 := hc.2.1 j hj
              split <;> omega
            · show (if c s = d s then d s else d s + 1) ≤ (if c (B q s) = d (B q s) then d (B q s) else d (B q s) + 1) + p q
              have h1 := hd.1.2.2 s q hs hq
              have hb := hB q s hq (by omega)
              by_cases e1 : c s = d s
              · rw [if_pos e1]
                split <;> omega
              · rw [if_neg e1]
                by_cases e2 : c (B q s) = d (B q s)
                · rw [if_pos e2]
                  have h2 : ¬ wS B p c n s = d s := fun h => f ⟨s, by omega, by rw [decide_eq_true_eq]; exact e1, by rw [decide_eq_true_eq]; exact h⟩
                  have h3 := wS_at (B := B) (p := p) (c := c) hs hq
                  have h4 := hS.2.2 d hd.1 s (by omega)
                  omega
                · rw [if_neg e2]
                  omega
          have h5 := hd.2.2.2 _ sol i hi
          have h5 : (if c i = d i then d i else d i + 1) ≤ d i := h5
          rw [if_neg g] at h5
          omega
    omega
/-- what is neither 0 nor far is reached by a question -/
theorem w_att {B : Nat → Nat → Nat} {p : Nat → Nat} {n t F : Nat} {d : Nat → Nat} (hn : n ≤ 10) (hd : wGr B p n t F d) {s : Nat} (hs : s < n) (h0 : 0 < d s) (hF : d s < F) : ∃ q, q < 8 ∧ d s = d (B q s) + p q := by
  rcases Classical.em (∃ q, q < 8 ∧ d s = d (B q s) + p q) with e | e
  · exact e
  · exfalso
    have sol : wSol B p n t F (wU d s (d s + 1)) := by
      have hts : ¬ t = s := by
        intro e
        have := hd.1.1
        rw [e] at this
        omega
      refine ⟨?_, fun j hj => ?_, fun s' q hs' hq => ?_⟩
      · unfold wU
        rw [if_neg hts]
        exact hd.1.1
      · unfold wU
        have := hd.1.2.1 j hj
        split <;> omega
      · have h1 := hd.1.2.2 s' q hs' hq
        unfold wU
        by_cases e1 : s' = s
        · subst e1
          have h2 : ¬ d s' = d (B q s') + p q := fun h => e ⟨q, hq, h⟩
          rw [if_pos rfl]
          split
          · rename_i e3
            rw [e3] at h1 h2
            omega
          · omega
        · rw [if_neg e1]
          split
          · rename_i e3
            rw [e3] at h1
            omega
          · omega
    have h5 := hd.2.2.2 _ sol s (by omega)
    unfold wU at h5
    rw [if_pos rfl] at h5
    omega
