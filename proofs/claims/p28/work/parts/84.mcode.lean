/-! THE REFERENCE'S CODES: heights of the stack, skips that wait -/
theorem nI_mul (a b : Nat) : nI a * nI b = nI (a * b) := (Int32.ofNat_mul a b).symm
theorem nI_inj {a b : Nat} (ha : a < 2147483648) (hb : b < 2147483648) (h : nI a = nI b) : a = b := by
  have := congrArg Int32.toInt h
  rw [e_nIt ha, e_nIt hb] at this
  omega
theorem nI_div {k d : Nat} (hk : k ≤ 14) (hd : d < 1048576) : nI (1048576 * k + d) / 1048576 = nI k := by
  have ku : (1048576 : Int32).toInt = 1048576 := rfl
  rw [e_eq, e_div (by rw [e_nIt (by omega)]; omega) (by rw [ku]; omega), e_nIt (by omega), e_nIt (by omega), ku]
  omega
theorem nI_mod {k d : Nat} (hk : k ≤ 14) (hd : d < 1048576) : nI (1048576 * k + d) - nI k * 1048576 = nI d := by
  have e : nI k * 1048576 = nI (k * 1048576) := nI_mul k 1048576
  rw [e, e_eq, e_sub (by rw [e_nIt (by omega), e_nIt (by omega)]; omega) (by rw [e_nIt (by omega), e_nIt (by omega)]; omega), e_nIt (by omega), e_nIt (by omega), e_nIt (by omega)]
  omega
/-- the kind of what waits -/
def kdN (x : Int32) : Nat := Int32.toNatClampNeg x / 1048576
theorem kdN_eq {k d : Nat} (hk : k ≤ 14) (hd : d < 1048576) : kdN (nI (1048576 * k + d)) = k := by
  unfold kdN
  rw [e_nIc (by omega)]
  omega
def ps (g : Nat → Nat) (A : Nat → Int32) : Nat → Nat
  | 0 => 0
  | w + 1 => ps g A w + g (kdN (A w))
theorem ps_upd {g : Nat → Nat} {A : Nat → Int32} {k : Nat} {v : Int32} : ∀ w, w ≤ k → ps g (upd A k v) w = ps g A w := by
  intro w
  induction w with
  | zero => intro _; rfl
  | succ w ih =>
    intro h
    have e : upd A k v w = A w := by
      unfold upd
      rw [if_neg (by omega)]
    show ps g (upd A k v) w + g (kdN (upd A k v w)) = ps g A w + g (kdN (A w))
    rw [ih (by omega), e]
theorem ps_cong {g : Nat → Nat} {A B : Nat → Int32} : ∀ w, (∀ j, j < w → A j = B j) → ps g A w = ps g B w := by
  intro w
  induction w with
  | zero => intro _; rfl
  | succ w ih =>
    intro h
    show ps g A w + g (kdN (A w)) = ps g B w + g (kdN (B w))
    rw [ih (fun j hj => h j (by omega)), h w (by omega)]
/-- signs; what will be noted -/
def gS (k : Nat) : Nat := if 2 ≤ k ∧ k ≤ 6 then 1 else 0
def gW (k : Nat) : Nat := if (2 ≤ k ∧ k ≤ 6) ∨ k = 10 then 1 else 0
def ins (C : Nat → Int32) (h : Nat → Nat) (t k : Nat) : Prop := ∃ op v : Nat, C k = nI (1048576 * op + v) ∧ v < 1048576 ∧ op ≤ 12 ∧ ((op = 0 ∧ h (k + 1) = h k + 1) ∨ (op = 1 ∧ v < 9 ∧ h (k + 1) = h k + 1) ∨ (2 ≤ op ∧ op ≤ 9 ∧ 2 ≤ h k ∧ h (k + 1) + 1 = h k) ∨ (op = 10 ∧ 1 ≤ h k ∧ h (k + 1) = h k) ∨ ((op = 11 ∨ op = 12) ∧ 1 ≤ h k ∧ h (k + 1) + 1 = h k ∧ k < v ∧ v ≤ t ∧ h v = h k))
def en (C A : Nat → Int32) (h : Nat → Nat) (f c j : Nat) : Prop := ∃ kd d : Nat, A j = nI (1048576 * kd + d) ∧ d < 1048576 ∧ kd ≤ 14 ∧ ((kd = 11 ∨ kd = 12) → f ≤ d ∧ d < c ∧ h d = 1 ∧ h (d + 1) = 0 ∧ ∃ op v : Nat, (op = 11 ∨ op = 12) ∧ C d = nI (1048576 * op + v) ∧ v < 1048576)
def wt (A : Nat → Int32) (w k : Nat) : Prop := ∃ j, j < w ∧ ∃ kd, (kd = 11 ∨ kd = 12) ∧ A j = nI (1048576 * kd + k)
def cd (C A : Nat → Int32) (h : Nat → Nat) (f c w : Nat) : Prop := (∀ k, f ≤ k → k < c → ins C h c k ∨ wt A w k) ∧ ∀ j, j < w → en C A h f c j
def uh (h : Nat → Nat) (k x : Nat) : Nat → Nat := fun j => if j = k then x else h j
theorem uh_le {h : Nat → Nat} {c x j : Nat} (hj : j ≤ c) : uh h (c + 1) x j = h j := if_neg (by omega)
theorem uh_eq {h : Nat → Nat} {k x : Nat} : uh h k x k = x := if_pos rfl
theorem upd_ne {A : Nat → Int32} {k j : Nat} {v : Int32} (h : j ≠ k) : upd A k v j = A j := by
  unfold upd
  rw [if_neg h]
theorem upd_eq {A : Nat → Int32} {k : Nat} {v : Int32} : upd A k v k = v := by
  unfold upd
  rw [if_pos rfl]
/-- an instruction that was there, behind a new one -/
theorem ins_up {C : Nat → Int32} {h : Nat → Nat} {c k x : Nat} {v : Int32} (hk : k < c) (hi : ins C h c k) : ins (upd C c v) (uh h (c + 1) x) (c + 1) k := by
  obtain ⟨op, u, e, hu, ho, hh⟩ := hi
  refine ⟨op, u, by rw [upd_ne (by omega)]; exact e, hu, ho, ?_⟩
  rw [uh_le (by omega), uh_le (by omega)]
  rcases hh with a | a | a | a | a
  · exact Or.inl a
  · exact Or.inr (Or.inl a)
  · exact Or.inr (Or.inr (Or.inl a))
  · exact Or.inr (Or.inr (Or.inr (Or.inl a)))
  · refine Or.inr (Or.inr (Or.inr (Or.inr ⟨a.1, a.2.1, a.2.2.1, a.2.2.2.1, by omega, ?_⟩)))
    rw [uh_le a.2.2.2.2.1]
    exact a.2.2.2.2.2
theorem en_up {C A : Nat → Int32} {h : Nat → Nat} {f c j x : Nat} {v : Int32} (hi : en C A h f c j) : en (upd C c v) A (uh h (c + 1) x) f (c + 1) j := by
  obtain ⟨kd, d, e, hd, hk, hh⟩ := hi
  refine ⟨kd, d, e, hd, hk, fun z => ?_⟩
  obtain ⟨a1, a2, a3, a4, op, u, b1, b2, b3⟩ := hh z
  refine ⟨a1, by omega, by rw [uh_le (by omega)]; exact a3, by rw [uh_le (by omega)]; exact a4, op, u, b1, by rw [upd_ne (by omega)]; exact b2, b3⟩
theorem cd_note {C A : Nat → Int32} {h : Nat → Nat} {f c w op v x : Nat} (hc : cd C A h f c w) (hv : v < 1048576) (ho : (op = 0 ∧ x = h c + 1) ∨ (op = 1 ∧ v < 9 ∧ x = h c + 1) ∨ (2 ≤ op ∧ op ≤ 9 ∧ 2 ≤ h c ∧ x + 1 = h c) ∨ (op = 10 ∧ 1 ≤ h c ∧ x = h c)) : cd (upd C c (nI (1048576 * op + v))) A (uh h (c + 1) x) f (c + 1) w := by
  refine ⟨fun k hk0 hk => ?_, fun j hj => en_up (hc.2 j hj)⟩
  by_cases ck : k = c
  · subst ck
    left
    refine ⟨op, v, upd_eq, hv, by omega, ?_⟩
    rw [uh_eq, uh_le (Nat.le_refl _)]
    rcases ho with a | a | a | a
    · exact Or.inl a
    · exact Or.inr (Or.inl a)
    · exact Or.inr (Or.inr (Or.inl a))
    · exact Or.inr (Or.inr (Or.inr (Or.inl a)))
  · rcases hc.1 k hk0 (by omega) with a | a
    · exact Or.inl (ins_up (by omega) a)
    · exact Or.inr a
theorem wt_up {A : Nat → Int32} {w k : Nat} {v : Int32} (h : wt A w k) : wt (upd A w v) (w + 1) k := by
  obtain ⟨j, hj, kd, h1, h2⟩ := h
  exact ⟨j, by omega, kd, h1, by rw [upd_ne (by omega)]; exact h2⟩
theorem en_new {C A : Nat → Int32} {h : Nat → Nat} {f c j w : Nat} {v : Int32} (hj : j < w) (hi : en C A h f c j) : en C (upd A w v) h f c j := by
  obtain ⟨kd, d, e, hh⟩ := hi
  exact ⟨kd, d, by rw [upd_ne (by omega)]; exact e, hh⟩
theorem cd_push {C A : Nat → Int32} {h : Nat → Nat} {f c w kd : Nat} (hc : cd C A h f c w) (hk : kd ≤ 14) (h1 : kd ≠ 11) (h2 : kd ≠ 12) : cd C (upd A w (nI (1048576 * kd))) h f c (w + 1) := by
  refine ⟨fun k hk0 hk => ?_, fun j hj => ?_⟩
  · rcases hc.1 k hk0 hk with a | a
    · exact Or.inl a
    · exact Or.inr (wt_up a)
  · by_cases cj : j = w
    · subst cj
      exact ⟨kd, 0, upd_eq, by omega, hk, fun z => by omega⟩
    · exact en_new (by omega) (hc.2 j (by omega))
theorem cd_pop {C A : Nat → Int32} {h : Nat → Nat} {f c w kd d : Nat} (hc : cd C A h f c (w + 1)) (e : A w = nI (1048576 * kd + d)) (hd : d < 1048576) (hk : kd ≤ 14) (h1 : kd ≠ 11) (h2 : kd ≠ 12) (hc3 : c < 1048576) : cd C A h f c w := by
  refine ⟨fun k hk0 hk' => ?_, fun j hj => hc.2 j (by omega)⟩
  rcases hc.1 k hk0 hk' with a | ⟨j, hj, kd', b1, b2⟩
  · exact Or.inl a
  · by_cases cj : j = w
    · exfalso
      subst cj
      rw [e] at b2
      have := nI_inj (by omega) (by omega) b2
      omega
    · exact Or.inr ⟨j, by omega, kd', b1, b2⟩
theorem cd_jump {C A : Nat → Int32} {h : Nat → Nat} {f c w op : Nat} (hc : cd C A h f c w) (hf : f ≤ c) (hc3 : c < 1048576) (ho : op = 11 ∨ op = 12) (h1 : h c = 1) : cd (upd C c (nI (1048576 * op))) (upd A w (nI (1048576 * op + c))) (uh h (c + 1) 0) f (c + 1) (w + 1) := by
  refine ⟨fun k hk0 hk => ?_, fun j hj => ?_⟩
  · by_cases ck : k = c
    · subst ck
      exact Or.inr ⟨w, by omega, op, ho, upd_eq⟩
    · rcases hc.1 k hk0 (by omega) with a | a
      · exact Or.inl (ins_up (by omega) a)
      · exact Or.inr (wt_up a)
  · by_cases cj : j = w
    · subst cj
      refine ⟨op, c, upd_eq, hc3, by omega, fun _ => ⟨hf, by omega, by rw [uh_le (Nat.le_refl _)]; exact h1, uh_eq, op, 0, ho, upd_eq, by omega⟩⟩
    · exact en_new (by omega) (en_up (hc.2 j (by omega)))
theorem cd_land {C A : Nat → Int32} {h : Nat → Nat} {f c w kd d op v : Nat} (hc : cd C A h f c (w + 1)) (e : A w = nI (1048576 * kd + d)) (hk : kd = 11 ∨ kd = 12) (hc3 : c < 1048576) (hd : f ≤ d ∧ d < c ∧ h d = 1 ∧ h (d + 1) = 0) (ho : op = 11 ∨ op = 12) (hC : C d = nI (1048576 * op + v)) (hv : v < 1048576) (h1 : h c = 1) : cd (upd C d (nI (1048576 * op + c))) A h f c w := by
  refine ⟨fun k hk0 hk' => ?_, fun j hj => ?_⟩
  · by_cases ck : k = d
    · subst ck
      left
      refine ⟨op, c, upd_eq, hc3, by omega, Or.inr (Or.inr (Or.inr (Or.inr ⟨ho, by omega, by omega, hd.2.1, Nat.le_refl _, by omega⟩)))⟩
    · rcases hc.1 k hk0 hk' with ⟨op', u, b1, b2, b3, b4⟩ | ⟨j, hj, kd', b1, b2⟩
      · exact Or.inl ⟨op', u, by rw [upd_ne ck]; exact b1, b2, b3, b4⟩
      · by_cases cj : j = w
        · exfalso
          subst cj
          rw [e] at b2
          have := nI_inj (by omega) (by omega) b2
          omega
        · exact Or.inr ⟨j, by omega, kd', b1, b2⟩
  · obtain ⟨kd', d', b1, b2, b3, b4⟩ := hc.2 j (by omega)
    refine ⟨kd', d', b1, b2, b3, fun z => ?_⟩
    obtain ⟨a1, a2, a3, a4, op', u, c1, c2, c3⟩ := b4 z
    refine ⟨a1, a2, a3, a4, ?_⟩
    by_cases cd' : d' = d
    · rw [cd']
      exact ⟨op, c, ho, upd_eq, hc3⟩
    · exact ⟨op', u, c1, by rw [upd_ne cd']; exact c2, c3⟩
/-- a finished piece of code -/
def seg (C : Nat → Int32) (f t : Nat) : Prop := ∃ h : Nat → Nat, h f = 0 ∧ ∀ k, f ≤ k → k < t → ins C h t k
theorem cd_seg {C A : Nat → Int32} {h : Nat → Nat} {f c : Nat} (hc : cd C A h f c 0) (hf : h f = 0) : seg C f c := by
  refine ⟨h, hf, fun k h1 h2 => ?_⟩
  rcases hc.1 k h1 h2 with a | ⟨j, hj, -⟩
  · exact a
  · omega
theorem seg_cong {C D : Nat → Int32} {f t : Nat} (h : seg C f t) (e : ∀ k, k < t → D k = C k) : seg D f t := by
  obtain ⟨hh, h0, h1⟩ := h
  refine ⟨hh, h0, fun k a b => ?_⟩
  obtain ⟨op, v, c1, c2⟩ := h1 k a b
  exact ⟨op, v, by rw [e k b]; exact c1, c2⟩
theorem cd_nil {C A : Nat → Int32} {f : Nat} : cd C A (fun _ => 0) f f 0 := ⟨fun k h1 h2 => by omega, fun j hj => by omega⟩
