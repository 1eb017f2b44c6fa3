/-- how many of the first k cells are not -1 -/
def kSeen (f : Nat → Int32) : Nat → Nat
  | 0 => 0
  | k + 1 => kSeen f k + if f k = -1 then 0 else 1
theorem kSeen_le {f : Nat → Int32} : ∀ k, kSeen f k ≤ k := by
  intro k
  induction k with
  | zero => exact Nat.le_refl _
  | succ k ih =>
    show kSeen f k + (if f k = -1 then 0 else 1) ≤ k + 1
    split <;> omega
theorem kSeen_lt {f : Nat → Int32} {j : Nat} (hf : f j = -1) : ∀ k, j < k → kSeen f k < k := by
  intro k
  induction k with
  | zero => intro h; omega
  | succ k ih =>
    intro h
    show kSeen f k + (if f k = -1 then 0 else 1) < k + 1
    by_cases c : j = k
    · subst c
      rw [if_pos hf]
      have := kSeen_le (f := f) j
      omega
    · have := ih (by omega)
      split <;> omega
theorem kSeen_upd {f : Nat → Int32} {j : Nat} {v : Int32} (hf : f j = -1) (hv : ¬ v = -1) : ∀ k, kSeen (upd f j v) k = kSeen f k + if j < k then 1 else 0 := by
  intro k
  induction k with
  | zero => rfl
  | succ k ih =>
    show kSeen (upd f j v) k + (if upd f j v k = -1 then 0 else 1) = kSeen f k + (if f k = -1 then 0 else 1) + _
    rw [ih]
    unfold upd
    by_cases c : k = j
    · subst c
      rw [if_pos rfl, if_neg hv, if_pos hf, if_neg (Nat.lt_irrefl _), if_pos (by omega)]
    · rw [if_neg c]
      by_cases d : j < k
      · rw [if_pos d, if_pos (show j < k + 1 by omega)]
        omega
      · rw [if_neg d, if_neg (show ¬ j < k + 1 by omega)]
        rfl
/-- the two searches side by side: m sets are in the line -/
def kRel (M1 M2 N1 N2 : mm_M) (m : Nat) : Prop :=
  (1 ≤ m ∧ m ≤ 1024 ∧ m = kSeen (N1 38) 1024 ∧ N1 36 6 = nI m) ∧
  (∀ i, i < 1024 → N1 38 i = N2 32 i ∧ (N1 38 i = -1 ∨ ∃ w : Nat, w < 1024 ∧ N1 38 i = nI w)) ∧
  (∀ i, i < 1024 → ∀ w : Nat, 0 < w → w < 100000 → N1 38 i = nI w → N1 39 i = N2 33 i) ∧
  (∀ k, k < m → ∃ t w : Nat, t < 1024 ∧ w ≤ k ∧ ((w = 0 ↔ k = 0) ∧ (k = 0 → ¬ sCnt t 10 = 1)) ∧ N1 37 k = nI t ∧ N2 31 k = nI t ∧ N1 38 t = nI w) ∧
  (∀ c, c ≠ 36 → c ≠ 37 → c ≠ 38 → c ≠ 39 → N1 c = M1 c) ∧ (∀ c, c ≠ 31 → c ≠ 32 → c ≠ 33 → N2 c = M2 c)
theorem k_ne {w : Nat} (hw : w < 100000) : ¬ nI w = -1 := by
  rw [e_eq, e_nIt (by omega)]
  show ¬ (w : Int) = -1
  omega
/-- an unseen set enters both lines -/
theorem k_enter {M1 M2 N1 N2 : mm_M} {m : Nat} (h : kRel M1 M2 N1 N2 m) {t w : Nat} (ht : t < 1024) (hw : 0 < w) (hwm : w ≤ m) (f : Int32) (hun : N1 38 t = -1) : m < 1024 ∧ kRel M1 M2 (mm_U (mm_U (mm_U (mm_U N1 38 t (nI w)) 39 t f) 37 m (nI t)) 36 6 (nI (m + 1))) (mm_U (mm_U (mm_U N2 32 t (nI w)) 33 t f) 31 m (nI t)) (m + 1) := by
  obtain ⟨⟨h1, h2, h3, h4⟩, ha, hb, hc, hd, he⟩ := h
  have hlt := kSeen_lt hun 1024 ht
  have hm : m < 1024 := by omega
  refine ⟨hm, ⟨by omega, by omega, ?_, rfl⟩, ?_, ?_, ?_, ?_, ?_⟩
  · show m + 1 = kSeen (upd (N1 38) t (nI w)) 1024
    rw [kSeen_upd hun (k_ne (by omega)), if_pos ht]
    omega
  · intro i hi
    show upd (N1 38) t (nI w) i = upd (N2 32) t (nI w) i ∧ (upd (N1 38) t (nI w) i = -1 ∨ ∃ w' : Nat, w' < 1024 ∧ upd (N1 38) t (nI w) i = nI w')
    unfold upd
    by_cases c : i = t
    · rw [if_pos c, if_pos c]
      exact ⟨rfl, Or.inr ⟨w, by omega, rfl⟩⟩
    · rw [if_neg c, if_neg c]
      exact ha i hi
  · intro i hi w' hw' hw2
    show upd (N1 38) t (nI w) i = nI w' → upd (N1 39) t f i = upd (N2 33) t f i
    unfold upd
    by_cases c : i = t
    · rw [if_pos c, if_pos c, if_pos c]
      exact fun _ => rfl
    · rw [if_neg c, if_neg c, if_neg c]
      exact hb i hi w' hw' hw2
  · intro k hk
    show ∃ t' w' : Nat, t' < 1024 ∧ w' ≤ k ∧ ((w' = 0 ↔ k = 0) ∧ (k = 0 → ¬ sCnt t' 10 = 1)) ∧ upd (N1 37) m (nI t) k = nI t' ∧ upd (N2 31) m (nI t) k = nI t' ∧ upd (N1 38) t (nI w) t' = nI w'
    by_cases c : k = m
    · subst c
      refine ⟨t, w, ht, hwm, ⟨by omega, fun h => by omega⟩, by simp [upd], by simp [upd], by simp [upd]⟩
    · obtain ⟨t', w', q1, q2, q3, q4, q5, q6⟩ := hc k (by omega)
      refine ⟨t', w', q1, q2, q3, by simp [upd, c, q4], by simp [upd, c, q5], ?_⟩
      unfold upd
      rw [if_neg]
      · exact q6
      · intro e
        subst e
        rw [hun] at q6
        exact k_ne (by omega) q6.symm
  · intro c c1 c2 c3 c4
    rw [mm_U_ne c c1, mm_U_ne c c2, mm_U_ne c c4, mm_U_ne c c3]
    exact hd c c1 c2 c3 c4
  · intro c c1 c2 c3
    rw [mm_U_ne c c1, mm_U_ne c c3, mm_U_ne c c2]
    exact he c c1 c2 c3
theorem k_inner {M1 M2 : mm_M} (hv : rl_val M1 M2) {N1 N2 : mm_M} {m k t w : Nat} (h : kRel M1 M2 N1 N2 m) (hk : k < m) (ht : t < 1024) (hwk : w ≤ k) (hw0 : w = 0 ↔ k = 0) (e1 : N1 37 k = nI t) (e2 : N2 31 k = nI t) (e3 : N1 38 t = nI w) (x2 : Int32) : ∃ N1' N2' m', mm_loop (X5_meet_l99 x2 (nI k) (nI t)) mm_fuel (0, N1) = some N1' ∧ mm_loop (X12_laysKnown_l79 (nI k)) mm_fuel (nI m, 0, N2) = some (nI m', N2') ∧ m ≤ m' ∧ kRel M1 M2 N1' N2' m' := by
  have := e_loop2F (step := X5_meet_l99 x2 (nI k) (nI t)) (step' := X12_laysKnown_l79 (nI k)) (I := fun (s : Int32 × mm_M) (s' : Int32 × Int32 × mm_M) => ∃ q m' : Nat, q ≤ 8 ∧ s.1 = nI q ∧ s'.2.1 = nI q ∧ s'.1 = nI m' ∧ m ≤ m' ∧ kRel M1 M2 s.2 s'.2.2 m' ∧ s.2 37 k = nI t ∧ s'.2.2 31 k = nI t ∧ s.2 38 t = nI w) (Q := fun (r : mm_M) (r' : Int32 × mm_M) => ∃ m', r'.1 = nI m' ∧ m ≤ m' ∧ kRel M1 M2 r r'.2 m') (fun s _ => 20 - Int32.toNatClampNeg s.1) ?_ (0, N1) (nI m, 0, N2) ⟨0, m, by omega, rfl, rfl, rfl, Nat.le_refl _, h, e1, e2, e3⟩ (by omega)
  · obtain ⟨r, ⟨x, r'⟩, q1, q2, m', q3, q4, q5⟩ := this
    dsimp only at q3 q5
    subst q3
    exact ⟨r, r', m', q1, q2, q4, q5⟩
  · rintro ⟨y, G⟩ ⟨z, y', G'⟩ ⟨q, m', hq, hy, hy', hz, hmm, hR, g1, g2, g3⟩
    dsimp only at hy hy' hz hR g1 g2 g3
    subst hy hy' hz
    obtain ⟨⟨r1, r2, r3, r4⟩, ra, rb, rc, rd, re⟩ := id hR
    unfold X5_meet_l99 X12_laysKnown_l79
    dsimp only
    by_cases c : 8 ≤ q
    · rw [if_pos ((e_8 (by omega)).mpr c), if_pos ((e_8 (by omega)).mpr c)]
      exact Or.inr ⟨_, _, rfl, rfl, m', rfl, hmm, hR⟩
    · have hq8 : q < 8 := by omega
      have hlt : 20 - Int32.toNatClampNeg (nI q + 1) < 20 - Int32.toNatClampNeg (nI q) := by
        rw [nI_1, e_nIc (by omega), e_nIc (by omega)]
        omega
      have hk24 : k < 1024 := by omega
      have in1 : mm_in (nI t) 1024 = true := e_inb (by rw [e_nIt (by omega)]; omega) (by rw [e_nIt (by omega)]; omega)
      have in2 : mm_in (nI k) 1024 = true := e_inb (by rw [e_nIt (by omega)]; omega) (by rw [e_nIt (by omega)]; omega)
      have hvG : rl_val M1 G' := rl_val_same hv ⟨by rw [re 0 (by decide) (by decide) (by decide)], by rw [re 0 (by decide) (by decide) (by decide)], by rw [re 0 (by decide) (by decide) (by decide)], re 1 (by decide) (by decide) (by decide), re 3 (by decide) (by decide) (by decide), re 4 (by decide) (by decide) (by decide), re 5 (by decide) (by decide) (by decide), re 6 (by decide) (by decide) (by decide), re 7 (by decide) (by decide) (by decide)⟩
      obtain ⟨r, i1, s1⟩ := s_img1 hv (N := G) (by rw [rd 7 (by decide) (by decide) (by decide) (by decide)]) (rd 9 (by decide) (by decide) (by decide) (by decide)) (nI t) hq8
      obtain ⟨r', i2, s2⟩ := s_img2 hvG (nI t) hq8
      have hrr : r' = r := bSet_eq s2 s1 (fun i _ => Iff.rfl)
      subst hrr
      obtain ⟨u, hu, hru⟩ := bSet_num s1 (fun i hi => by
        obtain ⟨s, hs, -, hB⟩ := hi
        have := v_n hv
        rw [← hB]
        exact (v_B hv hq8 (by omega)).2)
      subst hru
      have in3 : mm_in (nI u) 1024 = true := e_inb (by rw [e_nIt (by omega)]; omega) (by rw [e_nIt (by omega)]; omega)
      have cu0 : ¬ nI u < 0 := nI_pos (by omega)
      have cu1 : ¬ (1024 : Int32) ≤ nI u := by
        rw [e_le, e_nIt (by omega)]
        show ¬ (1024 : Int) ≤ _
        omega
      have ct : Int32.toNatClampNeg (nI t) = t := e_nIc (by omega)
      have ck : Int32.toNatClampNeg (nI k) = k := e_nIc (by omega)
      have cu : Int32.toNatClampNeg (nI u) = u := e_nIc (by omega)
      have cm : Int32.toNatClampNeg (nI m') = m' := e_nIc (by omega)
      have cw0 : nI w = 0 ↔ w = 0 := by
        rw [e_eq, e_nIt (by omega)]
        show (w : Int) = 0 ↔ _
        omega
      have ck0 : nI k = 0 ↔ k = 0 := by
        rw [e_eq, e_nIt (by omega)]
        show (k : Int) = 0 ↔ _
        omega
      have g3' : G' 32 t = nI w := by rw [← (ra t ht).1]; exact g3
      have hsu := (ra u hu).1
      -- the class's step, whatever the first question is
      have key : ∀ f : Int32, ∃ G2, X5_meet_j128l99 x2 (nI k) (nI t) (nI q) f G = some (.inl (nI q + 1, G2)) ∧ ((G 38 u = -1 ∧ G2 = mm_U (mm_U (mm_U (mm_U G 38 u (nI (w + 1))) 39 u f) 37 m' (nI u)) 36 6 (nI (m' + 1))) ∨ (¬ G 38 u = -1 ∧ G2 = G)) := by
        intro f
        unfold X5_meet_j128l99 X5_enter
        simp only [i1, Option.bind_some, if_pos in1, ct, g3, nI_1 w, if_neg cu0, if_neg cu1, cu]
        by_cases d : G 38 u = -1
        · have hm24 : m' < 1024 := by have := kSeen_lt d 1024 hu; omega
          have z1 : ¬ nI m' < 0 := nI_pos (by omega)
          have z2 : ¬ (1024 : Int32) ≤ nI m' := by
            rw [e_le, e_nIt (by omega)]
            show ¬ (1024 : Int) ≤ _
            omega
          unfold X5_enter_j26
          simp only [if_pos d, if_true, r4, if_neg z1, if_neg z2, if_pos in3, cu, cm, nI_1 m', Option.bind_some]
          exact ⟨_, rfl, Or.inl ⟨d, rfl⟩⟩
        · unfold X5_enter_j25 X5_enter_j26
          simp only [if_neg d, Bool.false_eq_true, if_false, Option.bind_some]
          exact ⟨_, rfl, Or.inr ⟨d, rfl⟩⟩
      have cl : ∃ f G2, (if nI w = 0 then X5_meet_j128l99 x2 (nI k) (nI t) (nI q) (nI q) G else X5_meet_j128l99 x2 (nI k) (nI t) (nI q) (G 39 t) G) = some (.inl (nI q + 1, G2)) ∧ f = (if nI k = 0 then nI q else G' 33 t) ∧ ((G 38 u = -1 ∧ G2 = mm_U (mm_U (mm_U (mm_U G 38 u (nI (w + 1))) 39 u f) 37 m' (nI u)) 36 6 (nI (m' + 1))) ∨ (¬ G 38 u = -1 ∧ G2 = G)) := by
        by_cases d0 : w = 0
        · obtain ⟨G2, a1, a2⟩ := key (nI q)
          exact ⟨nI q, G2, by rw [if_pos (cw0.mpr d0)]; exact a1, by rw [if_pos (ck0.mpr (hw0.mp d0))], a2⟩
        · obtain ⟨G2, a1, a2⟩ := key (G 39 t)
          exact ⟨G 39 t, G2, by rw [if_neg (fun h => d0 (cw0.mp h))]; exact a1, by rw [if_neg (fun h => d0 (hw0.mpr (ck0.mp h)))]; exact rb t ht w (by omega) (by omega) g3, a2⟩
      obtain ⟨f, G2, a1, hf, a2⟩ := cl
      have c8 : ¬ (8 : Int32) ≤ nI q := fun h => c ((e_8 (by omega)).mp h)
      simp only [if_neg c8, if_pos in1, ct, g3, if_pos in2, ck, g2, i2, Option.bind_some, if_pos in3, cu]
      rw [a1]
      left
      rcases a2 with ⟨d, rfl⟩ | ⟨d, rfl⟩
      · have d' : G' 32 u = -1 := by rw [← hsu]; exact d
        have hm24 : m' < 1024 := by have := kSeen_lt d 1024 hu; omega
        have in4 : mm_in (nI m') 1024 = true := e_inb (by rw [e_nIt (by omega)]; omega) (by rw [e_nIt (by omega)]; omega)
        have hut : u ≠ t := by
          intro e
          subst e
          rw [d] at g3
          exact k_ne (by omega) g3.symm
        have ent := (k_enter hR hu (show 0 < w + 1 by omega) (by omega) f d).2
        have md : (if nI k = 0 then X12_laysKnown_j157l79 (nI m') (nI k) (nI q) (nI u) (nI u) (nI q) (mm_U G' 32 u (nI (w + 1))) else X12_laysKnown_j157l79 (nI m') (nI k) (nI q) (nI u) (nI u) (G' 33 t) (mm_U G' 32 u (nI (w + 1)))) = some (.inl (nI m' + 1, nI q + 1, mm_U (mm_U (mm_U G' 32 u (nI (w + 1))) 33 u f) 31 m' (nI u))) := by
          unfold X12_laysKnown_j157l79
          rw [hf]
          by_cases z : nI k = 0
          · simp only [if_pos z, if_pos in3, if_pos in4, cu, cm]
          · simp only [if_neg z, if_pos in3, if_pos in4, cu, cm]
        simp only [if_pos d', g3', nI_1 w]
        refine ⟨_, _, rfl, md, ⟨q + 1, m' + 1, by omega, nI_1 q, nI_1 q, nI_1 m', by omega, ent, ?_, ?_, ?_⟩, hlt⟩
        · show upd (G 37) m' (nI u) k = nI t
          unfold upd
          rw [if_neg (by omega)]
          exact g1
        · show upd (G' 31) m' (nI u) k = nI t
          unfold upd
          rw [if_neg (by omega)]
          exact g2
        · show upd (G 38) u (nI (w + 1)) t = nI w
          unfold upd
          rw [if_neg (Ne.symm hut)]
          exact g3
      · have d' : ¬ G' 32 u = -1 := by rw [← hsu]; exact d
        simp only [if_neg d']
        exact ⟨_, _, rfl, rfl, ⟨q + 1, m', by omega, nI_1 q, nI_1 q, rfl, hmm, hR, g1, g2, g3⟩, hlt⟩
