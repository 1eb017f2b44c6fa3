def pGr (M1 : mm_M) (d : Nat → Nat) : Prop := xGr (pB M1) (fun _ => 1) 100 100 1000000 d
theorem p_pos {M1 : mm_M} {d : Nat → Nat} (h : pGr M1 d) {c : Nat} (hc : c < 100) : 0 < d c := by
  rcases Nat.eq_zero_or_pos (d c) with z0 | z0
  · exfalso
    have sol : xSol (pB M1) (fun _ => 1) 100 100 1000000 (wU d c 1) := by
      refine ⟨?_, fun i hi => ?_, fun s q hs hq => ?_⟩
      · unfold wU
        rw [if_neg (by omega)]
        exact h.1.1
      · unfold wU
        have := h.1.2.1 i hi
        split <;> omega
      · have := h.1.2.2 s q hs hq
        unfold wU
        dsimp only at this ⊢
        split
        · omega
        · split
          · rename_i e3
            rw [e3, z0] at this
            omega
          · exact this
    have h5 := h.2.2.2 _ sol c (by omega)
    unfold wU at h5
    rw [if_pos rfl] at h5
    omega
  · exact z0
/-- a pair the other way round -/
def pS (c : Nat) : Nat := if c < 100 then 10 * (c % 10) + c / 10 else c
theorem pS_lt {c : Nat} (h : c < 101) : pS c < 101 := by
  unfold pS
  split <;> omega
theorem p_BS {M1 M2 : mm_M} (hv : rl_val M1 M2) {q c : Nat} (hq : q < 8) (hc : c < 100) : pB M1 q (pS c) = pS (pB M1 q c) := by
  have hn := (v_n hv).2.1
  have e : pS c = 10 * (c % 10) + c / 10 := by unfold pS; rw [if_pos hc]
  have e1 : pS c / 10 = c % 10 := by omega
  have e2 : pS c % 10 = c / 10 := by omega
  unfold pB
  rw [e1, e2]
  by_cases ok : c / 10 < vN M1 ∧ c % 10 < vN M1
  · rw [if_pos ok, if_pos ⟨ok.2, ok.1⟩]
    have l1 := (v_B hv hq (show c / 10 < 10 by omega)).2
    have l2 := (v_B hv hq (show c % 10 < 10 by omega)).2
    by_cases a : vA M1 q (c / 10) = vA M1 q (c % 10)
    · rw [if_pos a, if_pos a.symm]
      unfold pS
      rw [if_pos (by omega)]
      omega
    · rw [if_neg a, if_neg (fun z => a z.symm)]
      rfl
  · rw [if_neg ok, if_neg (fun z => ok ⟨z.2, z.1⟩)]
theorem p_sym {M1 M2 : mm_M} (hv : rl_val M1 M2) {d : Nat → Nat} (h : pGr M1 d) {c : Nat} (hc : c < 100) : d (pS c) = d c := by
  have sol : xSol (pB M1) (fun _ => 1) 100 100 1000000 (fun c => d (pS c)) := by
    refine ⟨?_, fun i hi => h.1.2.1 _ (pS_lt hi), fun s q hs hq => ?_⟩
    · show d (pS 100) = 0
      exact h.1.1
    · show d (pS s) ≤ d (pS (pB M1 q s)) + 1
      rw [← p_BS hv hq hs]
      refine h.1.2.2 (pS s) q ?_ hq
      unfold pS
      rw [if_pos hs]
      omega
  have hs : pS c < 100 := by
    unfold pS
    rw [if_pos hc]
    omega
  have h1 := h.2.2.2 _ sol c (by omega)
  have h2 := h.2.2.2 _ sol (pS c) (by omega)
  have e : pS (pS c) = c := by
    have e : pS c = 10 * (c % 10) + c / 10 := by unfold pS; rw [if_pos hc]
    have e2 : pS (pS c) = 10 * (pS c % 10) + pS c / 10 := by rw [pS, if_pos hs]
    omega
  have h1 : d (pS c) ≤ d c := h1
  have h2 : d (pS (pS c)) ≤ d (pS c) := h2
  rw [e] at h2
  omega
theorem p_sym2 {M1 M2 : mm_M} (hv : rl_val M1 M2) {d : Nat → Nat} (h : pGr M1 d) {s t : Nat} (hs : s < 10) (ht : t < 10) : d (10 * s + t) = d (10 * t + s) := by
  have := p_sym hv h (c := 10 * t + s) (by omega)
  rw [← this]
  unfold pS
  rw [if_pos (by omega)]
  congr 1
  omega
theorem p_diag {M1 M2 : mm_M} (hv : rl_val M1 M2) {d : Nat → Nat} (h : pGr M1 d) {c : Nat} (hc : c < 100) (he : c / 10 = c % 10) : d c = 1000000 := by
  have hn := (v_n hv).2.1
  have sol : xSol (pB M1) (fun _ => 1) 100 100 1000000 (fun c => if c / 10 = c % 10 then 1000000 else d c) := by
    refine ⟨?_, fun i hi => ?_, fun s q hs hq => ?_⟩
    · show (if 100 / 10 = 100 % 10 then 1000000 else d 100) = 0
      rw [if_neg (by decide)]
      exact h.1.1
    · show (if i / 10 = i % 10 then 1000000 else d i) ≤ 1000000
      have := h.1.2.1 i hi
      split <;> omega
    · show (if s / 10 = s % 10 then 1000000 else d s) ≤ (if pB M1 q s / 10 = pB M1 q s % 10 then 1000000 else d (pB M1 q s)) + 1
      have h1 : d s ≤ d (pB M1 q s) + 1 := h.1.2.2 s q hs hq
      have hb := p_B hv hq (show s < 101 by omega)
      have h2 := h.1.2.1 _ hb
      have h3 := h.1.2.1 s (by omega)
      by_cases e : s / 10 = s % 10
      · have : pB M1 q s / 10 = pB M1 q s % 10 := by
          unfold pB
          split
          · rename_i ok
            have l2 := (v_B hv hq (show s % 10 < 10 by omega)).2
            rw [e, if_pos rfl]
            omega
          · exact e
        rw [if_pos this]
        split <;> omega
      · rw [if_neg e]
        split <;> omega
  have h1 := h.2.2.2 _ sol c (by omega)
  have h1 : (if c / 10 = c % 10 then 1000000 else d c) ≤ d c := h1
  rw [if_pos he] at h1
  have h2 := h.1.2.1 c (by omega)
  omega
theorem p_at {M1 : mm_M} {q s t : Nat} (hs : s < vN M1) (ht : t < vN M1) (hn : vN M1 ≤ 10) : pB M1 q (10 * s + t) = if vA M1 q s = vA M1 q t then 10 * vB M1 q s + vB M1 q t else 100 := by
  have d1 : (10 * s + t) / 10 = s := by omega
  have d2 : (10 * s + t) % 10 = t := by omega
  unfold pB
  rw [d1, d2, if_pos ⟨hs, ht⟩]
theorem p_le {M1 M2 : mm_M} (hv : rl_val M1 M2) {d : Nat → Nat} (h : pGr M1 d) {q s t : Nat} (hq : q < 8) (hs : s < vN M1) (ht : t < vN M1) : d (10 * s + t) ≤ (if vA M1 q s = vA M1 q t then d (10 * vB M1 q s + vB M1 q t) else 0) + 1 := by
  have hn := (v_n hv).2.1
  have h1 : d (10 * s + t) ≤ d (pB M1 q (10 * s + t)) + 1 := h.1.2.2 (10 * s + t) q (by omega) hq
  rw [p_at hs ht hn] at h1
  by_cases e : vA M1 q s = vA M1 q t
  · rw [if_pos e] at h1 ⊢
    exact h1
  · rw [if_neg e] at h1 ⊢
    rw [h.1.1] at h1
    exact h1
theorem p_ultra {M1 M2 : mm_M} (hv : rl_val M1 M2) (hi : rl_in M1) {d : Nat → Nat} (h : pGr M1 d) : ∀ k s t u, k < 1000000 → s < vN M1 → t < vN M1 → u < vN M1 → d (10 * s + u) ≤ k → d (10 * s + t) ≤ k ∨ d (10 * t + u) ≤ k := by
  have hn := (v_n hv).2.1
  intro k
  induction k with
  | zero =>
    intro s t u _ hs ht hu h0
    have := p_pos h (c := 10 * s + u) (by omega)
    omega
  | succ k ih =>
    intro s t u hk hs ht hu h0
    have hp := p_pos h (c := 10 * s + u) (by omega)
    obtain ⟨q, hq, e⟩ := x_att (by omega) h (s := 10 * s + u) (by omega) hp (by omega)
    rw [p_at hs hu hn] at e
    have a1 := p_le hv h hq hs ht
    have a2 := p_le hv h hq ht hu
    by_cases f1 : vA M1 q s = vA M1 q t
    · by_cases f2 : vA M1 q t = vA M1 q u
      · rw [if_pos (f1.trans f2)] at e
        rw [if_pos f1] at a1
        rw [if_pos f2] at a2
        rcases ih (vB M1 q s) (vB M1 q t) (vB M1 q u) (by omega) (v_Bn hv hi hq hs) (v_Bn hv hi hq ht) (v_Bn hv hi hq hu) (by omega) with z | z
        · exact Or.inl (by omega)
        · exact Or.inr (by omega)
      · rw [if_neg f2] at a2
        exact Or.inr (by omega)
    · rw [if_neg f1] at a1
      exact Or.inl (by omega)
/-- the states that no lower one is like, by k questions -/
def pRep (d : Nat → Nat) (k : Nat) (t : Nat) : Bool := decide (∀ s, s < t → d (10 * s + t) ≤ k)
theorem p_step {M1 M2 : mm_M} (hv : rl_val M1 M2) (hi : rl_in M1) {d : Nat → Nat} (h : pGr M1 d) {k s t : Nat} (hk : k + 1 < 1000000) (hs : s < vN M1) (ht : t < vN M1) (e : d (10 * s + t) = k + 1) : nC (pRep d k) (vN M1) < nC (pRep d (k + 1)) (vN M1) := by
  have hn := (v_n hv).2.1
  have U := p_ultra hv hi h
  have S : ∀ {a b : Nat}, a < vN M1 → b < vN M1 → d (10 * a + b) = d (10 * b + a) := fun {a b} ha hb => p_sym2 hv h (by omega) (by omega)
  refine nC_lt _ (fun i _ hr => ?_) ?_
  · unfold pRep at *
    rw [decide_eq_true_eq] at *
    exact fun s hs => Nat.le_trans (hr s hs) (by omega)
  · have dg : ∀ a, a < vN M1 → d (10 * a + a) = 1000000 := fun a ha => p_diag hv h (by omega) (by omega)
    obtain ⟨m, hm1, hm2, hm3⟩ := e_least (P := fun v => k < d (10 * v + s)) s (by have := dg s hs; omega)
    have hmn : m < vN M1 := by omega
    have ex : ∃ v, v < vN M1 ∧ (k < d (10 * v + s) ∧ d (10 * m + v) ≤ k + 1) := by
      rcases Classical.em (d (10 * m + s) ≤ k + 1) with z | z
      · exact ⟨s, hs, by have := dg s hs; omega, z⟩
      · rcases Classical.em (d (10 * m + t) ≤ k + 1) with z2 | z2
        · exact ⟨t, ht, by rw [S ht hs]; omega, z2⟩
        · exfalso
          rcases U (k + 1) s m t (by omega) hs hmn ht (by omega) with y | y
          · rw [S hs hmn] at y
            omega
          · omega
    obtain ⟨v, hv1, hv2⟩ := ex
    obtain ⟨u, hu1, hu2, hu3⟩ := e_least (P := fun v => k < d (10 * v + s) ∧ d (10 * m + v) ≤ k + 1) v hv2
    have hun : u < vN M1 := by omega
    refine ⟨u, hun, ?_, ?_⟩
    · unfold pRep
      rw [decide_eq_true_eq]
      intro hr
      have mu : m < u := by
        rcases Nat.lt_or_ge m u with y | y
        · exact y
        · exfalso
          rcases Nat.lt_or_ge u m with z | z
          · exact hm3 u z hu2.1
          · have : u = m := by omega
            subst this
            have := dg u hun
            omega
      have h1 := hr m mu
      rcases U k m s u (by omega) hmn hs hun h1 with y | y
      · omega
      · rw [S hs hun] at y
        omega
    · unfold pRep
      rw [decide_eq_true_eq]
      intro w hw
      rcases Nat.lt_or_ge (k + 1) (d (10 * w + u)) with z | z
      · exfalso
        have hwn : w < vN M1 := by omega
        have w1 : k < d (10 * w + s) := by
          rcases Nat.lt_or_ge k (d (10 * w + s)) with y | y
          · exact y
          · exfalso
            rcases U k w u s (by omega) hwn hun hs y with x | x
            · omega
            · omega
        have w2 : ¬ d (10 * m + w) ≤ k + 1 := fun y => hu3 w hw ⟨w1, y⟩
        rcases U (k + 1) m w u (by omega) hmn hwn hun hu2.2 with y | y
        · exact w2 y
        · omega
      · exact z
theorem p_chain {M1 M2 : mm_M} (hv : rl_val M1 M2) (hi : rl_in M1) {d : Nat → Nat} (h : pGr M1 d) {k s t : Nat} (hk : k + 2 < 1000000) (hs : s < vN M1) (ht : t < vN M1) (e : d (10 * s + t) = k + 2) : ∃ s t, s < vN M1 ∧ t < vN M1 ∧ d (10 * s + t) = k + 1 := by
  have hn := (v_n hv).2.1
  obtain ⟨q, hq, f⟩ := x_att (by omega) h (s := 10 * s + t) (by omega) (by omega) (by omega)
  rw [p_at hs ht hn] at f
  by_cases g : vA M1 q s = vA M1 q t
  · rw [if_pos g] at f
    exact ⟨_, _, v_Bn hv hi hq hs, v_Bn hv hi hq ht, by omega⟩
  · rw [if_neg g, h.1.1] at f
    omega
theorem p_many {M1 M2 : mm_M} (hv : rl_val M1 M2) (hi : rl_in M1) {d : Nat → Nat} (h : pGr M1 d) (hn1 : 0 < vN M1) : ∀ k, k < 1000000 → (k = 0 ∨ ∃ s t, s < vN M1 ∧ t < vN M1 ∧ d (10 * s + t) = k) → k + 1 ≤ nC (pRep d k) (vN M1) := by
  intro k
  induction k with
  | zero =>
    intro _ _
    exact nC_pos _ ⟨0, hn1, by unfold pRep; rw [decide_eq_true_eq]; intro s hs; omega⟩
  | succ k ih =>
    intro hk hx
    rcases hx with z | ⟨s, t, hs, ht, e⟩
    · omega
    · have h1 := p_step hv hi h hk hs ht e
      have h2 := ih (by omega) (by
        rcases Nat.eq_zero_or_pos k with z | z
        · exact Or.inl z
        · obtain ⟨j, rfl⟩ : ∃ j, k = j + 1 := ⟨k - 1, by omega⟩
          exact Or.inr (p_chain hv hi h hk hs ht e))
      omega
theorem p_9 {M1 M2 : mm_M} (hv : rl_val M1 M2) (hi : rl_in M1) {d : Nat → Nat} (h : pGr M1 d) {s t : Nat} (hs : s < vN M1) (ht : t < vN M1) (hf : d (10 * s + t) < 1000000) : d (10 * s + t) ≤ 9 := by
  have hn := (v_n hv).2.1
  have h1 := p_many hv hi h (by omega) _ hf (Or.inr ⟨s, t, hs, ht, rfl⟩)
  have h2 := nC_le (f := pRep d (d (10 * s + t))) (vN M1)
  omega
/-- an empty level: none above it -/
theorem p_empty {M1 M2 : mm_M} (hv : rl_val M1 M2) (hi : rl_in M1) {d : Nat → Nat} (h : pGr M1 d) {r : Nat} (hr : 1 ≤ r) (he : ∀ s t, s < vN M1 → t < vN M1 → ¬ d (10 * s + t) = r) : ∀ k s t, s < vN M1 → t < vN M1 → d (10 * s + t) = r + k → r + k < 1000000 → False := by
  intro k
  induction k with
  | zero => intro s t hs ht e _; exact he s t hs ht e
  | succ k ih =>
    intro s t hs ht e hf
    obtain ⟨j, hj⟩ : ∃ j, r + (k + 1) = j + 2 := ⟨r + k - 1, by omega⟩
    obtain ⟨s', t', hs', ht', e'⟩ := p_chain hv hi h (k := j) (by omega) hs ht (by omega)
    exact ih s' t' hs' ht' (by omega) (by omega)
