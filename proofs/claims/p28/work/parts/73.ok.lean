/-! ONE SIDE ALONE: that a call ends, and what it keeps -/
def ok {α : Type} (o : Option α) (Q : α → Prop) : Prop := ∃ r, o = some r ∧ Q r
theorem ok_s {α : Type} {r : α} {Q : α → Prop} (h : Q r) : ok (some r) Q := ⟨r, rfl, h⟩
theorem ok_i {α : Type} {c : Prop} [Decidable c] {a b : Option α} {Q : α → Prop} (h1 : c → ok a Q) (h2 : ¬ c → ok b Q) : ok (if c then a else b) Q := by
  by_cases h : c
  · rw [if_pos h]; exact h1 h
  · rw [if_neg h]; exact h2 h
theorem ok_b {α β : Type} {o : Option α} {f : α → Option β} (P : α → Prop) {Q : β → Prop} (h : ok o P) (k : ∀ r, P r → ok (f r) Q) : ok (o.bind f) Q := by
  obtain ⟨r, e, hr⟩ := h
  rw [e]
  exact k r hr
theorem ok_m {α β : Type} {o : Option α} {f : α → β} (P : α → Prop) {Q : β → Prop} (h : ok o P) (k : ∀ r, P r → Q (f r)) : ok (o.map f) Q := by
  obtain ⟨r, e, hr⟩ := h
  exact ⟨f r, by rw [e]; rfl, k r hr⟩
theorem ok_l {α β : Type} {x : α} {f : α → Option β} {Q : β → Prop} (h : ok (f x) Q) : ok (mm_let x f) Q := h
theorem ok_w {α : Type} {o : Option α} {P Q : α → Prop} (h : ok o P) (k : ∀ r, P r → Q r) : ok o Q := by
  obtain ⟨r, e, hr⟩ := h
  exact ⟨r, e, k r hr⟩
def sm {σ ρ : Type} (I : σ → Prop) (Q : ρ → Prop) : σ ⊕ ρ → Prop
  | .inl s => I s
  | .inr r => Q r
theorem ok_lp {σ ρ : Type} {step : σ → Option (σ ⊕ ρ)} (I : σ → Prop) {Q : ρ → Prop} (μ : σ → Nat) (s : σ) (hi : I s) (hm : μ s < 4000000000) (hs : ∀ s, I s → ok (step s) (sm (fun s' => I s' ∧ μ s' < μ s) Q)) : ok (mm_loop step mm_fuel s) Q := by
  refine e_loopF I Q μ (fun s h => ?_) s hi hm
  obtain ⟨o, e, ho⟩ := hs s h
  cases o with
  | inl s' => exact Or.inl ⟨s', e, ho⟩
  | inr r => exact Or.inr ⟨r, e, ho⟩
theorem ok_get {α : Type} {o : Option α} {Q : α → Prop} {r : α} (h : ok o Q) (e : o = some r) : Q r := by
  obtain ⟨r', e', hr⟩ := h
  rw [e] at e'
  cases e'
  exact hr
/-- only the cells of W have changed -/
def fr (W : List Nat) (M0 M : mm_M) : Prop := ∀ a, a ∉ W → M a = M0 a
theorem fr_rfl {W : List Nat} {M : mm_M} : fr W M M := fun _ _ => rfl
theorem fr_U {W : List Nat} {M0 M : mm_M} {a k : Nat} {v : Int32} (h : fr W M0 M) (ha : a ∈ W) : fr W M0 (mm_U M a k v) := fun b hb => by
  rw [mm_U_ne b (fun e => hb (e ▸ ha))]
  exact h b hb
/-- what does not hang on the reader's own fields of the tape -/
def in1 (I : mm_M → Prop) : Prop := ∀ M k v, I M → I (mm_U M 1 k v)
theorem st_in {I : mm_M → Prop} (h : in1 I) {M : mm_M} (hM : I M) : I (X7_step M) := by
  unfold X7_step
  split
  · exact h _ _ _ (h _ _ _ hM)
  · split
    · exact h _ _ _ (h _ _ _ hM)
    · split
      · exact h _ _ _ (h _ _ _ hM)
      · exact h _ _ _ (h _ _ _ hM)
theorem fl_in {I : mm_M → Prop} (h : in1 I) {M : mm_M} {x y : Int32} (hM : I M) : I (X7_fail x y M).2 := h _ _ _ hM
theorem tk_in {I : mm_M → Prop} (h : in1 I) {M : mm_M} {x : Int32} (hM : I M) : I (X7_take x M).2 := by
  unfold X7_take mm_let
  split
  · exact st_in h hM
  · exact fl_in h hM
theorem op_in {I : mm_M → Prop} (h : in1 I) {M : mm_M} {x : Int32} (hM : I M) : ok (X7_open x M) I := by
  unfold X7_open
  refine ok_b (fun _ => True) ?_ (fun y _ => ok_s (h _ _ _ (h _ _ _ (h _ _ _ (h _ _ _ hM)))))
  unfold X7_byteAt
  refine ok_i (fun _ => ok_s trivial) (fun _ => ok_i (fun _ => ok_s trivial) (fun _ => ok_i (fun _ => ok_s trivial) (fun c => absurd (by decide) c)))
theorem dg_in {M : mm_M} (h : X7_isDigit M = true) : 48 ≤ (M 1 4).toInt ∧ (M 1 4).toInt ≤ 57 := by
  unfold X7_isDigit at h
  by_cases c1 : M 1 4 < 48
  · rw [if_pos c1] at h; cases h
  · rw [if_neg c1] at h
    by_cases c2 : 57 < M 1 4
    · rw [if_pos c2] at h; cases h
    · rw [e_lt] at c1 c2
      have k1 : (48 : Int32).toInt = 48 := rfl
      have k2 : (57 : Int32).toInt = 57 := rfl
      omega
theorem e_inc {i : Int32} {b : Int} (h0 : 0 ≤ i.toInt) (h1 : i.toInt ≤ b) (hb : b < 2147483647) : (i + 1).toInt = i.toInt + 1 := by
  have k1 : (1 : Int32).toInt = 1 := rfl
  rw [e_add (by rw [k1]; omega) (by rw [k1]; omega), k1]
