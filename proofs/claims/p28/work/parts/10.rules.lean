def mm_b (b : Bool) : Int32 := if b = true then 1 else 0
theorem mm_b0 {b : Bool} (h : mm_b b = 0) : ¬ b = true := by
  intro hb
  subst hb
  exact absurd h (by decide)
theorem mm_b1 {b : Bool} (h : ¬ mm_b b = 0) : b = true := by
  cases b
  · exact absurd rfl h
  · rfl
theorem mm_nar_int (v : Int32) : mm_nar (some .int) (some v) := by
  intro ty w h1 h2
  cases h1
  cases h2
  rfl
theorem mm_nar_b (b : Bool) : mm_nar (some .boolean) (some (mm_b b)) := by
  intro ty w h1 h2
  cases h1
  cases h2
  cases b <;> rfl
theorem mm_b01 (b : Bool) : mm_b b = 0 ∨ mm_b b = 1 := by
  cases b
  · exact Or.inl rfl
  · exact Or.inr rfl
theorem mm_nar_01 {v : Int32} (h : v = 0 ∨ v = 1) : mm_nar (some .boolean) (some v) := by
  rcases h with rfl | rfl
  · exact mm_nar_b false
  · exact mm_nar_b true
theorem mm_fitB {v : Int32} (h : v = 0 ∨ v = 1) : fits .boolean (.int v) = true := by
  rcases h with rfl | rfl <;> rfl
def mm_Zi (v : Int32) (S : List mm_C) (M : mm_M) : Option Int32 → List mm_C → mm_M → Prop := fun r S' M' => r = some v ∧ S' = S ∧ M' = M
def mm_Zv (S : List mm_C) (M : mm_M) : Option Int32 → List mm_C → mm_M → Prop := fun r S' M' => r = none ∧ S' = S ∧ M' = M
/-- some locals forgotten -/
def mm_mask : List Bool → List (Option mm_V) → List (Option mm_V)
  | true :: ks, x :: L => x :: mm_mask ks L
  | false :: ks, _ :: L => none :: mm_mask ks L
  | _, L => L
theorem mm_mask_at : ∀ (ks : List Bool) (L : List (Option mm_V)) (i : Nat) (v : mm_V), (mm_mask ks L)[i]? = some (some v) → L[i]? = some (some v) := by
  intro ks
  induction ks with
  | nil => intro L i v h; cases L <;> exact h
  | cons b ks ih =>
    intro L i v h
    cases L with
    | nil => cases b <;> exact h
    | cons x L =>
      cases b with
      | true =>
        cases i with
        | zero => exact h
        | succ i => exact ih L i v h
      | false =>
        cases i with
        | zero => cases h
        | succ i => exact ih L i v h
theorem mm_mask_mem {σ : Nat → Nat} {ks : List Bool} {L : List (Option mm_V)} : ∀ q ∈ mm_Ls σ (mm_mask ks L), q ∈ mm_Ls σ L := by
  rintro ⟨i, w⟩ hq
  obtain ⟨v, hv, rfl⟩ := mm_Ls_mem.mp hq
  exact mm_Ls_mem.mpr ⟨v, mm_mask_at ks L i v hv, rfl⟩
def mm_in (i : Int32) (n : Nat) : Bool := decide (¬ (i < 0 ∨ n ≤ i.toNatClampNeg))
theorem mm_vp {i : Int32} {n : Nat} (h : mm_in i n = true) : vp_in i n := by
  unfold mm_in at h
  have h2 : ¬ (i < 0 ∨ n ≤ i.toNatClampNeg) := of_decide_eq_true h
  exact h2
theorem mm_vp2 {x c : Int32} {n : Nat} (h0 : 0 ≤ x) (h1 : x < c) (hc : c.toInt ≤ (n : Int)) : vp_in x n := by
  rw [vp_in_iff]
  have a := Int32.le_iff_toInt_le.mp h0
  have b := Int32.lt_iff_toInt_lt.mp h1
  simp at a
  omega
theorem mm_guard {c : Prop} [Decidable c] {α : Type} {o : Option α} {r : α} (h : (if c then o else none) = some r) : c ∧ o = some r := by
  by_cases hc : c
  · rw [if_pos hc] at h
    exact ⟨hc, h⟩
  · rw [if_neg hc] at h
    cases h
def mm_let {α β : Type} (x : α) (k : α → β) : β := k x
theorem mm_let_elim {α β : Type} {x : α} {k : α → β} {r : β} (h : mm_let x k = r) : ∃ y, x = y ∧ k y = r := ⟨x, rfl, h⟩
theorem mm_fuel_ex : ∃ n : Nat, n = 4000000000 := ⟨_, rfl⟩
noncomputable def mm_fuel : Nat := Classical.choose mm_fuel_ex
theorem mm_fuel_eq : mm_fuel = 4000000000 := Classical.choose_spec mm_fuel_ex
def mm_loop {σ ρ : Type} (step : σ → Option (σ ⊕ ρ)) : Nat → σ → Option ρ
  | 0, _ => none
  | n + 1, s => (step s).bind fun o => match o with
    | .inl s' => mm_loop step n s'
    | .inr r => some r
theorem mm_loop_go {σ ρ : Type} {step : σ → Option (σ ⊕ ρ)} {Hd : σ → Prop} {Ex : ρ → Prop} (hs : ∀ s o, step s = some o → (∀ s', o = .inl s' → Hd s') → (∀ r, o = .inr r → Ex r) → Hd s) : ∀ (n : Nat) (s : σ) (r : ρ), mm_loop step n s = some r → Ex r → Hd s := by
  intro n
  induction n with
  | zero => intro s r h; cases h
  | succ n ih =>
    intro s r h hx
    rw [mm_loop] at h
    obtain ⟨o, e, h⟩ := Option.bind_eq_some_iff.mp h
    refine hs s o e ?_ ?_
    · intro s' ho
      subst ho
      exact ih s' r h hx
    · intro r' ho
      subst ho
      cases h
      exact hx
section R2
variable {J : mm_J} {D : mm_D} {d kc ks pc q : Nat} {L L' : List (Option mm_V)} {st : List mm_V} {S : List mm_C} {M : mm_M} {Z : Option Int32 → List mm_C → mm_M → Prop}
theorem r_iconst {n : Int} {v : Int32} (hd : decode J.2.1 pc = .ok (.iconst n, 1)) (hv : Int32.ofInt n = v) (hq : pc + 1 = q) (k : mm_Go J D d kc ks q L (.inl v :: st) S M Z) : mm_Go J D d kc ks pc L st S M Z := by
  subst hq hv
  intro σ A p e R s m args below meth c H locs cells slots Q ls hAt hF hc hs hW hl
  exact lv_iconst hAt.1 hAt.2.1 hd rfl (k σ A p e R s m args below meth c H locs cells slots Q ls hAt hF hc hs hW hl)
theorem r_bipush {n : Int} {v : Int32} (hd : decode J.2.1 pc = .ok (.bipush n, 2)) (hv : (Int8.ofInt n).toInt32 = v) (hq : pc + 2 = q) (k : mm_Go J D d kc ks q L (.inl v :: st) S M Z) : mm_Go J D d kc ks pc L st S M Z := by
  subst hq hv
  intro σ A p e R s m args below meth c H locs cells slots Q ls hAt hF hc hs hW hl
  exact lv_bipush hAt.1 hAt.2.1 hd rfl (k σ A p e R s m args below meth c H locs cells slots Q ls hAt hF hc hs hW hl)
theorem r_sipush {n : Int} {v : Int32} (hd : decode J.2.1 pc = .ok (.sipush n, 3)) (hv : (Int16.ofInt n).toInt32 = v) (hq : pc + 3 = q) (k : mm_Go J D d kc ks q L (.inl v :: st) S M Z) : mm_Go J D d kc ks pc L st S M Z := by
  subst hq hv
  intro σ A p e R s m args below meth c H locs cells slots Q ls hAt hF hc hs hW hl
  exact lv_sipush hAt.1 hAt.2.1 hd rfl (k σ A p e R s m args below meth c H locs cells slots Q ls hAt hF hc hs hW hl)
theorem r_ldc {v : Int32} {idx : Nat} (hd : decode J.2.1 pc = .ok (.ldc idx, 2)) (hv : Cond.constant J.1.cls idx v ∈ mm_T) (hq : pc + 2 = q) (k : mm_Go J D d kc ks q L (.inl v :: st) S M Z) : mm_Go J D d kc ks pc L st S M Z := by
  subst hq
  exact mm_ldc hd hv k
theorem r_ldcw {v : Int32} {idx : Nat} (hd : decode J.2.1 pc = .ok (.ldc_w idx, 3)) (hv : Cond.constant J.1.cls idx v ∈ mm_T) (hq : pc + 3 = q) (k : mm_Go J D d kc ks q L (.inl v :: st) S M Z) : mm_Go J D d kc ks pc L st S M Z := by
  subst hq
  exact mm_ldcw hd hv k
theorem r_iload {i : Nat} {x : Int32} (hd : decode J.2.1 pc = .ok (.iload i, 2)) (hi : L[i]? = some (some (.inl x))) (hq : pc + 2 = q) (k : mm_Go J D d kc ks q L (.inl x :: st) S M Z) : mm_Go J D d kc ks pc L st S M Z := by
  subst hq
  exact mm_iload hd hi k
theorem r_iload_n {i : Fin 4} {x : Int32} (hd : decode J.2.1 pc = .ok (.iload_n i, 1)) (hi : L[(i : Nat)]? = some (some (.inl x))) (hq : pc + 1 = q) (k : mm_Go J D d kc ks q L (.inl x :: st) S M Z) : mm_Go J D d kc ks pc L st S M Z := by
  subst hq
  exact mm_iload_n hd hi k
theorem r_aload {i : Nat} {x : Nat} (hd : decode J.2.1 pc = .ok (.aload i, 2)) (hi : L[i]? = some (some (.inr x))) (hq : pc + 2 = q) (k : mm_Go J D d kc ks q L (.inr x :: st) S M Z) : mm_Go J D d kc ks pc L st S M Z := by
  subst hq
  exact mm_aload hd hi k
theorem r_aload_n {i : Fin 4} {x : Nat} (hd : decode J.2.1 pc = .ok (.aload_n i, 1)) (hi : L[(i : Nat)]? = some (some (.inr x))) (hq : pc + 1 = q) (k : mm_Go J D d kc ks q L (.inr x :: st) S M Z) : mm_Go J D d kc ks pc L st S M Z := by
  subst hq
  exact mm_aload_n hd hi k
theorem r_istore {i : Nat} {x : Int32} (hd : decode J.2.1 pc = .ok (.istore i, 2)) (hi : i < J.2.2.1) (hL : L.set i (some (.inl x)) = L') (hq : pc + 2 = q) (k : mm_Go J D d kc ks q L' st S M Z) : mm_Go J D d kc ks pc L (.inl x :: st) S M Z := by
  subst hq hL
  exact mm_istore hd hi k
theorem r_istore_n {i : Fin 4} {x : Int32} (hd : decode J.2.1 pc = .ok (.istore_n i, 1)) (hi : (i : Nat) < J.2.2.1) (hL : L.set (i : Nat) (some (.inl x)) = L') (hq : pc + 1 = q) (k : mm_Go J D d kc ks q L' st S M Z) : mm_Go J D d kc ks pc L (.inl x :: st) S M Z := by
  subst hq hL
  exact mm_istore_n hd hi k
theorem r_astore_n {i : Fin 4} {x : Nat} (hd : decode J.2.1 pc = .ok (.astore_n i, 1)) (hi : (i : Nat) < J.2.2.1) (hL : L.set (i : Nat) (some (.inr x)) = L') (hq : pc + 1 = q) (k : mm_Go J D d kc ks q L' st S M Z) : mm_Go J D d kc ks pc L (.inr x :: st) S M Z := by
  subst hq hL
  exact mm_astore_n hd hi k
theorem r_iinc {i : Nat} {n : Int} {v x : Int32} (hd : decode J.2.1 pc = .ok (.iinc i n, 3)) (hv : Int32.ofInt n = v) (hi : i < J.2.2.1) (hx : L[i]? = some (some (.inl x))) (hL : L.set i (some (.inl (x + v))) = L') (hq : pc + 3 = q) (k : mm_Go J D d kc ks q L' st S M Z) : mm_Go J D d kc ks pc L st S M Z := by
  subst hq hL hv
  intro σ A p e R s m args below meth c H locs cells slots Q ls hAt hF hc hs hW hl
  obtain ⟨j, hj⟩ := List.getElem?_of_mem (mm_Ls_mem.mpr ⟨.inl x, hx, rfl⟩ : (i, mm_R σ (.inl x)) ∈ mm_Ls σ L)
  exact lv_iinc (v := x + Int32.ofInt n) hAt.1 hAt.2.1 hd hl hj rfl hi rfl (fun ls' hl' => k σ A p e R s m args below meth c H locs cells slots Q ls' hAt hF hc hs hW (mm_has_set rfl hl'))
theorem r_iadd {x y : Int32} (hd : decode J.2.1 pc = .ok (.iadd, 1)) (hq : pc + 1 = q) (k : mm_Go J D d kc ks q L (.inl (x + y) :: st) S M Z) : mm_Go J D d kc ks pc L (.inl y :: .inl x :: st) S M Z := by
  subst hq
  exact mm_iadd hd k
theorem r_isub {x y : Int32} (hd : decode J.2.1 pc = .ok (.isub, 1)) (hq : pc + 1 = q) (k : mm_Go J D d kc ks q L (.inl (x - y) :: st) S M Z) : mm_Go J D d kc ks pc L (.inl y :: .inl x :: st) S M Z := by
  subst hq
  exact mm_isub hd k
theorem r_imul {x y : Int32} (hd : decode J.2.1 pc = .ok (.imul, 1)) (hq : pc + 1 = q) (k : mm_Go J D d kc ks q L (.inl (x * y) :: st) S M Z) : mm_Go J D d kc ks pc L (.inl y :: .inl x :: st) S M Z := by
  subst hq
  exact mm_imul hd k
theorem r_iand {x y : Int32} (hd : decode J.2.1 pc = .ok (.iand, 1)) (hq : pc + 1 = q) (k : mm_Go J D d kc ks q L (.inl (x &&& y) :: st) S M Z) : mm_Go J D d kc ks pc L (.inl y :: .inl x :: st) S M Z := by
  subst hq
  exact mm_iand hd k
theorem r_ior {x y : Int32} (hd : decode J.2.1 pc = .ok (.ior, 1)) (hq : pc + 1 = q) (k : mm_Go J D d kc ks q L (.inl (x ||| y) :: st) S M Z) : mm_Go J D d kc ks pc L (.inl y :: .inl x :: st) S M Z := by
  subst hq
  exact mm_ior hd k
theorem r_ixor {x y : Int32} (hd : decode J.2.1 pc = .ok (.ixor, 1)) (hq : pc + 1 = q) (k : mm_Go J D d kc ks q L (.inl (x ^^^ y) :: st) S M Z) : mm_Go J D d kc ks pc L (.inl y :: .inl x :: st) S M Z := by
  subst hq
  exact mm_ixor hd k
theorem r_ishl {x y : Int32} (hd : decode J.2.1 pc = .ok (.ishl, 1)) (hq : pc + 1 = q) (k : mm_Go J D d kc ks q L (.inl (x <<< (y &&& 31)) :: st) S M Z) : mm_Go J D d kc ks pc L (.inl y :: .inl x :: st) S M Z := by
  subst hq
  exact mm_ishl hd k
theorem r_ishr {x y : Int32} (hd : decode J.2.1 pc = .ok (.ishr, 1)) (hq : pc + 1 = q) (k : mm_Go J D d kc ks q L (.inl (x >>> (y &&& 31)) :: st) S M Z) : mm_Go J D d kc ks pc L (.inl y :: .inl x :: st) S M Z := by
  subst hq
  exact mm_ishr hd k
theorem r_iushr {x y : Int32} (hd : decode J.2.1 pc = .ok (.iushr, 1)) (hq : pc + 1 = q) (k : mm_Go J D d kc ks q L (.inl ((x.toUInt32 >>> (y.toUInt32 &&& Int32.toUInt32 31)).toInt32) :: st) S M Z) : mm_Go J D d kc ks pc L (.inl y :: .inl x :: st) S M Z := by
  subst hq
  exact mm_iushr hd k
theorem r_idiv {x y : Int32} (hd : decode J.2.1 pc = .ok (.idiv, 1)) (hy : ¬ y = 0) (hq : pc + 1 = q) (k : mm_Go J D d kc ks q L (.inl (x / y) :: st) S M Z) : mm_Go J D d kc ks pc L (.inl y :: .inl x :: st) S M Z := by
  subst hq
  exact mm_idiv hd hy k
theorem r_irem {x y : Int32} (hd : decode J.2.1 pc = .ok (.irem, 1)) (hy : ¬ y = 0) (hq : pc + 1 = q) (k : mm_Go J D d kc ks q L (.inl (x - x / y * y) :: st) S M Z) : mm_Go J D d kc ks pc L (.inl y :: .inl x :: st) S M Z := by
  subst hq
  exact mm_irem hd hy k
theorem r_i2b {x : Int32} (hd : decode J.2.1 pc = .ok (.i2b, 1)) (hq : pc + 1 = q) (k : mm_Go J D d kc ks q L (.inl x.toInt8.toInt32 :: st) S M Z) : mm_Go J D d kc ks pc L (.inl x :: st) S M Z := by
  subst hq
  exact mm_i2b hd k
theorem r_dup {v : mm_V} (hd : decode J.2.1 pc = .ok (.dup, 1)) (hq : pc + 1 = q) (k : mm_Go J D d kc ks q L (v :: v :: st) S M Z) : mm_Go J D d kc ks pc L (v :: st) S M Z := by
  subst hq
  exact mm_dup hd k
theorem r_pop {v : mm_V} (hd : decode J.2.1 pc = .ok (.pop, 1)) (hq : pc + 1 = q) (k : mm_Go J D d kc ks q L st S M Z) : mm_Go J D d kc ks pc L (v :: st) S M Z := by
  subst hq
  exact mm_pop hd k
theorem r_dup2 {v w : mm_V} (hd : decode J.2.1 pc = .ok (.dup2, 1)) (hq : pc + 1 = q) (k : mm_Go J D d kc ks q L (v :: w :: v :: w :: st) S M Z) : mm_Go J D d kc ks pc L (v :: w :: st) S M Z := by
  subst hq
  exact mm_dup2 hd k
theorem r_goto {off : Int} (t : Nat) (hd : decode J.2.1 pc = .ok (.goto off, 3)) (ht : (pc : Int) + off = (t : Int)) (k : mm_Go J D d kc ks t L st S M Z) : mm_Go J D d kc ks pc L st S M Z := by
  exact mm_goto t hd ht k
theorem r_if_eq {x : Int32} {off : Int} (t : Nat) (hd : decode J.2.1 pc = .ok (.ifCond .eq off, 3)) (ht : (pc : Int) + off = (t : Int)) (hq : pc + 3 = q) (kt : x = 0 → mm_Go J D d kc ks t L st S M Z) (kf : ¬ x = 0 → mm_Go J D d kc ks q L st S M Z) : mm_Go J D d kc ks pc L (.inl x :: st) S M Z := by
  subst hq
  exact mm_if_eq t hd ht kt kf
theorem r_icmp_eq {x y : Int32} {off : Int} (t : Nat) (hd : decode J.2.1 pc = .ok (.if_icmp .eq off, 3)) (ht : (pc : Int) + off = (t : Int)) (hq : pc + 3 = q) (kt : x = y → mm_Go J D d kc ks t L st S M Z) (kf : ¬ x = y → mm_Go J D d kc ks q L st S M Z) : mm_Go J D d kc ks pc L (.inl y :: .inl x :: st) S M Z := by
  subst hq
  exact mm_icmp_eq t hd ht kt kf
theorem r_if_ne {x : Int32} {off : Int} (t : Nat) (hd : decode J.2.1 pc = .ok (.ifCond .ne off, 3)) (ht : (pc : Int) + off = (t : Int)) (hq : pc + 3 = q) (kt : ¬ x = 0 → mm_Go J D d kc ks t L st S M Z) (kf : x = 0 → mm_Go J D d kc ks q L st S M Z) : mm_Go J D d kc ks pc L (.inl x :: st) S M Z := by
  subst hq
  exact mm_if_ne t hd ht kt kf
theorem r_icmp_ne {x y : Int32} {off : Int} (t : Nat) (hd : decode J.2.1 pc = .ok (.if_icmp .ne off, 3)) (ht : (pc : Int) + off = (t : Int)) (hq : pc + 3 = q) (kt : ¬ x = y → mm_Go J D d kc ks t L st S M Z) (kf : x = y → mm_Go J D d kc ks q L st S M Z) : mm_Go J D d kc ks pc L (.inl y :: .inl x :: st) S M Z := by
  subst hq
  exact mm_icmp_ne t hd ht kt kf
theorem r_if_lt {x : Int32} {off : Int} (t : Nat) (hd : decode J.2.1 pc = .ok (.ifCond .lt off, 3)) (ht : (pc : Int) + off = (t : Int)) (hq : pc + 3 = q) (kt : x < 0 → mm_Go J D d kc ks t L st S M Z) (kf : ¬ x < 0 → mm_Go J D d kc ks q L st S M Z) : mm_Go J D d kc ks pc L (.inl x :: st) S M Z := by
  subst hq
  exact mm_if_lt t hd ht kt kf
theorem r_icmp_lt {x y : Int32} {off : Int} (t : Nat) (hd : decode J.2.1 pc = .ok (.if_icmp .lt off, 3)) (ht : (pc : Int) + off = (t : Int)) (hq : pc + 3 = q) (kt : x < y → mm_Go J D d kc ks t L st S M Z) (kf : ¬ x < y → mm_Go J D d kc ks q L st S M Z) : mm_Go J D d kc ks pc L (.inl y :: .inl x :: st) S M Z := by
  subst hq
  exact mm_icmp_lt t hd ht kt kf
theorem r_if_ge {x : Int32} {off : Int} (t : Nat) (hd : decode J.2.1 pc = .ok (.ifCond .ge off, 3)) (ht : (pc : Int) + off = (t : Int)) (hq : pc + 3 = q) (kt : 0 ≤ x → mm_Go J D d kc ks t L st S M Z) (kf : ¬ 0 ≤ x → mm_Go J D d kc ks q L st S M Z) : mm_Go J D d kc ks pc L (.inl x :: st) S M Z := by
  subst hq
  exact mm_if_ge t hd ht kt kf
theorem r_icmp_ge {x y : Int32} {off : Int} (t : Nat) (hd : decode J.2.1 pc = .ok (.if_icmp .ge off, 3)) (ht : (pc : Int) + off = (t : Int)) (hq : pc + 3 = q) (kt : y ≤ x → mm_Go J D d kc ks t L st S M Z) (kf : ¬ y ≤ x → mm_Go J D d kc ks q L st S M Z) : mm_Go J D d kc ks pc L (.inl y :: .inl x :: st) S M Z := by
  subst hq
  exact mm_icmp_ge t hd ht kt kf
theorem r_if_gt {x : Int32} {off : Int} (t : Nat) (hd : decode J.2.1 pc = .ok (.ifCond .gt off, 3)) (ht : (pc : Int) + off = (t : Int)) (hq : pc + 3 = q) (kt : 0 < x → mm_Go J D d kc ks t L st S M Z) (kf : ¬ 0 < x → mm_Go J D d kc ks q L st S M Z) : mm_Go J D d kc ks pc L (.inl x :: st) S M Z := by
  subst hq
  exact mm_if_gt t hd ht kt kf
theorem r_icmp_gt {x y : Int32} {off : Int} (t : Nat) (hd : decode J.2.1 pc = .ok (.if_icmp .gt off, 3)) (ht : (pc : Int) + off = (t : Int)) (hq : pc + 3 = q) (kt : y < x → mm_Go J D d kc ks t L st S M Z) (kf : ¬ y < x → mm_Go J D d kc ks q L st S M Z) : mm_Go J D d kc ks pc L (.inl y :: .inl x :: st) S M Z := by
  subst hq
  exact mm_icmp_gt t hd ht kt kf
theorem r_if_le {x : Int32} {off : Int} (t : Nat) (hd : decode J.2.1 pc = .ok (.ifCond .le off, 3)) (ht : (pc : Int) + off = (t : Int)) (hq : pc + 3 = q) (kt : x ≤ 0 → mm_Go J D d kc ks t L st S M Z) (kf : ¬ x ≤ 0 → mm_Go J D d kc ks q L st S M Z) : mm_Go J D d kc ks pc L (.inl x :: st) S M Z := by
  subst hq
  exact mm_if_le t hd ht kt kf
theorem r_icmp_le {x y : Int32} {off : Int} (t : Nat) (hd : decode J.2.1 pc = .ok (.if_icmp .le off, 3)) (ht : (pc : Int) + off = (t : Int)) (hq : pc + 3 = q) (kt : x ≤ y → mm_Go J D d kc ks t L st S M Z) (kf : ¬ x ≤ y → mm_Go J D d kc ks q L st S M Z) : mm_Go J D d kc ks pc L (.inl y :: .inl x :: st) S M Z := by
  subst hq
  exact mm_icmp_le t hd ht kt kf
theorem r_geti {idx ci k : Nat} {a : Nat} {fs : List (Option (Option Nat))} {v : Int32} (hlk : mm_Link J.1.cls idx ci k) (hd : decode J.2.1 pc = .ok (.getfield idx, 3)) (hS : S[a]? = some (.inr (ci, fs))) (hf : fs[k]? = some none) (hv : M a k = v) (hq : pc + 3 = q) (kk : mm_Go J D d kc ks q L (.inl v :: st) S M Z) : mm_Go J D d kc ks pc L (.inr a :: st) S M Z := by
  subst hq hv
  exact mm_get idx ci k hlk hd hS hf rfl kk
theorem r_getr {idx ci k : Nat} {a b : Nat} {fs : List (Option (Option Nat))} (hlk : mm_Link J.1.cls idx ci k) (hd : decode J.2.1 pc = .ok (.getfield idx, 3)) (hS : S[a]? = some (.inr (ci, fs))) (hf : fs[k]? = some (some (some b))) (hq : pc + 3 = q) (kk : mm_Go J D d kc ks q L (.inr b :: st) S M Z) : mm_Go J D d kc ks pc L (.inr a :: st) S M Z := by
  subst hq
  exact mm_get idx ci k hlk hd hS hf rfl kk
theorem r_puti {idx ci k : Nat} {a : Nat} {fs : List (Option (Option Nat))} {v : Int32} (hlk : mm_Link J.1.cls idx ci k) (hty : mm_Ty ci k .int false) (hd : decode J.2.1 pc = .ok (.putfield idx, 3)) (hS : S[a]? = some (.inr (ci, fs))) (hf : fs[k]? = some none) (hq : pc + 3 = q) (kk : mm_Go J D d kc ks q L st S (mm_U M a k v) Z) : mm_Go J D d kc ks pc L (.inl v :: .inr a :: st) S M Z := by
  subst hq
  exact mm_put idx ci k hlk hty hd hS hf rfl rfl kk
theorem r_putb {idx ci k : Nat} {a : Nat} {fs : List (Option (Option Nat))} {v : Int32} (hlk : mm_Link J.1.cls idx ci k) (hty : mm_Ty ci k .boolean false) (hd : decode J.2.1 pc = .ok (.putfield idx, 3)) (hS : S[a]? = some (.inr (ci, fs))) (hf : fs[k]? = some none) (hb : v = 0 ∨ v = 1) (hq : pc + 3 = q) (kk : mm_Go J D d kc ks q L st S (mm_U M a k v) Z) : mm_Go J D d kc ks pc L (.inl v :: .inr a :: st) S M Z := by
  subst hq
  exact mm_put idx ci k hlk hty hd hS hf (mm_nar_01 hb _ _ rfl rfl) (mm_fitB hb) kk
theorem r_iald {a n : Nat} {i v : Int32} (hd : decode J.2.1 pc = .ok (.iaload, 1)) (hS : S[a]? = some (.inl (0, n))) (hin : vp_in i n) (hv : M a i.toNatClampNeg = v) (hq : pc + 1 = q) (kk : mm_Go J D d kc ks q L (.inl v :: st) S M Z) : mm_Go J D d kc ks pc L (.inl i :: .inr a :: st) S M Z := by
  subst hq hv
  exact mm_iald hd hS hin kk
theorem r_bald {a n : Nat} {i v : Int32} (hd : decode J.2.1 pc = .ok (.baload, 1)) (hS : S[a]? = some (.inl (1, n))) (hin : vp_in i n) (hv : M a i.toNatClampNeg = v) (hq : pc + 1 = q) (kk : mm_Go J D d kc ks q L (.inl v :: st) S M Z) : mm_Go J D d kc ks pc L (.inl i :: .inr a :: st) S M Z := by
  subst hq hv
  exact mm_bald hd hS hin kk
theorem r_iast {a n j : Nat} {i x : Int32} (hd : decode J.2.1 pc = .ok (.iastore, 1)) (hS : S[a]? = some (.inl (0, n))) (hin : vp_in i n) (hj : i.toNatClampNeg = j) (hq : pc + 1 = q) (kk : mm_Go J D d kc ks q L st S (mm_U M a j x) Z) : mm_Go J D d kc ks pc L (.inl x :: .inl i :: .inr a :: st) S M Z := by
  subst hq hj
  exact mm_iast hd hS hin kk
theorem r_bast {a n j : Nat} {i x : Int32} (hd : decode J.2.1 pc = .ok (.bastore, 1)) (hS : S[a]? = some (.inl (1, n))) (hin : vp_in i n) (hj : i.toNatClampNeg = j) (hq : pc + 1 = q) (kk : mm_Go J D d kc ks q L st S (mm_U M a j x.toInt8.toInt32) Z) : mm_Go J D d kc ks pc L (.inl x :: .inl i :: .inr a :: st) S M Z := by
  subst hq hj
  exact mm_bast hd hS hin kk
theorem r_alen {a n : Nat} {v : Int32} (hd : decode J.2.1 pc = .ok (.arraylength, 1)) (hS : S[a]? = some (.inl (0, n))) (hv : Int32.ofNat n = v) (hq : pc + 1 = q) (kk : mm_Go J D d kc ks q L (.inl v :: st) S M Z) : mm_Go J D d kc ks pc L (.inr a :: st) S M Z := by
  subst hq hv
  exact mm_alen hd (Or.inl rfl) hS kk
theorem r_ret {v : Int32} (hd : decode J.2.1 pc = .ok (.ireturn, 1)) (hr : J.2.2.2 = some .int) (hZ : Z (some v) S M) : mm_Go J D d kc ks pc L [.inl v] S M Z := by
  exact mm_ret hd ⟨_, hr⟩ (by rw [hr]; exact mm_nar_int v) hZ
theorem r_retb {v : Int32} (hd : decode J.2.1 pc = .ok (.ireturn, 1)) (hr : J.2.2.2 = some .boolean) (hb : v = 0 ∨ v = 1) (hZ : Z (some v) S M) : mm_Go J D d kc ks pc L [.inl v] S M Z := by
  exact mm_ret hd ⟨_, hr⟩ (by rw [hr]; exact mm_nar_01 hb) hZ
theorem r_retv (hd : decode J.2.1 pc = .ok (.return_, 1)) (hr : J.2.2.2 = none) (hZ : Z none S M) : mm_Go J D d kc ks pc L [] S M Z := by
  exact mm_retv hd hr hZ
theorem r_callS_i {J1 : mm_J} {idx n d1 : Nat} {av stk : List mm_V} {M1 : mm_M} {v : Int32} (hg : mm_CS J.1.cls idx J1 n) (hd : decode J.2.1 pc = .ok (.invokestatic idx, 3)) (hstk : stk = av.reverse ++ st) (hn : av.length = n) (hav : av.length ≤ J1.2.2.1) (hst8 : st.length ≤ 8) (hd1 : d1 < d) (hwf : mm_ok S.length L st = true) (hq : pc + 3 = q) (hm : mm_Meth J1 d1 0 0 av S M (mm_Zi v S M1)) (kk : mm_Go J D d kc ks q L (.inl v :: st) S M1 Z) : mm_Go J D d kc ks pc L stk S M Z := by
  subst hq hn
  refine mm_callS J1 idx hg.1 hg.2 hd hstk hav hst8 hd1 (kc' := kc) (ks' := ks) (Nat.le_of_eq (Nat.zero_add _)) (Nat.le_of_eq (Nat.zero_add _)) hwf hm ?_
  rintro r S' M' ⟨rfl, rfl, rfl⟩ _
  exact kk
theorem r_callS_v {J1 : mm_J} {idx n d1 : Nat} {av stk : List mm_V} {M1 : mm_M} (hg : mm_CS J.1.cls idx J1 n) (hd : decode J.2.1 pc = .ok (.invokestatic idx, 3)) (hstk : stk = av.reverse ++ st) (hn : av.length = n) (hav : av.length ≤ J1.2.2.1) (hst8 : st.length ≤ 8) (hd1 : d1 < d) (hwf : mm_ok S.length L st = true) (hq : pc + 3 = q) (hm : mm_Meth J1 d1 0 0 av S M (mm_Zv S M1)) (kk : mm_Go J D d kc ks q L st S M1 Z) : mm_Go J D d kc ks pc L stk S M Z := by
  subst hq hn
  refine mm_callS J1 idx hg.1 hg.2 hd hstk hav hst8 hd1 (kc' := kc) (ks' := ks) (Nat.le_of_eq (Nat.zero_add _)) (Nat.le_of_eq (Nat.zero_add _)) hwf hm ?_
  rintro r S' M' ⟨rfl, rfl, rfl⟩ _
  exact kk
theorem r_callV_i {J1 : mm_J} {idx ci b n d1 : Nat} {fs : List (Option (Option Nat))} {av stk : List mm_V} {M1 : mm_M} {v : Int32} (hg : mm_CV J.1.cls idx ci J1 n) (hS : S[b]? = some (.inr (ci, fs))) (hd : decode J.2.1 pc = .ok (.invokevirtual idx, 3)) (hstk : stk = av.reverse ++ .inr b :: st) (hn : av.length = n) (hav : av.length + 1 ≤ J1.2.2.1) (hst8 : st.length ≤ 8) (hd1 : d1 < d) (hwf : mm_ok S.length L st = true) (hq : pc + 3 = q) (hm : mm_Meth J1 d1 0 0 (.inr b :: av) S M (mm_Zi v S M1)) (kk : mm_Go J D d kc ks q L (.inl v :: st) S M1 Z) : mm_Go J D d kc ks pc L stk S M Z := by
  subst hq hn
  refine mm_callV J1 idx ci hg.1 hg.2.1 hg.2.2.1 hg.2.2.2 hS hd hstk hav hst8 hd1 (kc' := kc) (ks' := ks) (Nat.le_of_eq (Nat.zero_add _)) (Nat.le_of_eq (Nat.zero_add _)) hwf hm ?_
  rintro r S' M' ⟨rfl, rfl, rfl⟩ _
  exact kk
theorem r_callV_v {J1 : mm_J} {idx ci b n d1 : Nat} {fs : List (Option (Option Nat))} {av stk : List mm_V} {M1 : mm_M} (hg : mm_CV J.1.cls idx ci J1 n) (hS : S[b]? = some (.inr (ci, fs))) (hd : decode J.2.1 pc = .ok (.invokevirtual idx, 3)) (hstk : stk = av.reverse ++ .inr b :: st) (hn : av.length = n) (hav : av.length + 1 ≤ J1.2.2.1) (hst8 : st.length ≤ 8) (hd1 : d1 < d) (hwf : mm_ok S.length L st = true) (hq : pc + 3 = q) (hm : mm_Meth J1 d1 0 0 (.inr b :: av) S M (mm_Zv S M1)) (kk : mm_Go J D d kc ks q L st S M1 Z) : mm_Go J D d kc ks pc L stk S M Z := by
  subst hq hn
  refine mm_callV J1 idx ci hg.1 hg.2.1 hg.2.2.1 hg.2.2.2 hS hd hstk hav hst8 hd1 (kc' := kc) (ks' := ks) (Nat.le_of_eq (Nat.zero_add _)) (Nat.le_of_eq (Nat.zero_add _)) hwf hm ?_
  rintro r S' M' ⟨rfl, rfl, rfl⟩ _
  exact kk
theorem r_mmax {x y : Int32} {idx : Nat} (hg : mm_Mx J.1.cls idx) (hd : decode J.2.1 pc = .ok (.invokestatic idx, 3)) (hst : st.length ≤ 8) (hq : pc + 3 = q) (kk : mm_Go J D d kc ks q L (.inl (if x < y then y else x) :: st) S M Z) : mm_Go J D d kc ks pc L (.inl y :: .inl x :: st) S M Z := by
  subst hq
  intro σ A p e R s m args below meth c H locs cells slots Q ls hAt hF hc hs hW hl
  have K := kk σ A p e R s m args below meth c H locs cells slots Q ls hAt hF hc hs hW hl
  obtain ⟨hx, hb, -, hml, hown, hts, -, hR, -, -, -⟩ := hAt
  exact va_mmax hx hb (hml.trans hl.1.symm) hown (hts _ hg.1) (hts _ hg.2.1) (hts _ hg.2.2.1) (hts _ hg.2.2.2) (by omega) (by rw [mm_cats]; omega) (by omega) (by omega) hd K
theorem r_mmin {x y : Int32} {idx : Nat} (hg : mm_Mn J.1.cls idx) (hd : decode J.2.1 pc = .ok (.invokestatic idx, 3)) (hst : st.length ≤ 8) (hq : pc + 3 = q) (kk : mm_Go J D d kc ks q L (.inl (if y < x then y else x) :: st) S M Z) : mm_Go J D d kc ks pc L (.inl y :: .inl x :: st) S M Z := by
  subst hq
  intro σ A p e R s m args below meth c H locs cells slots Q ls hAt hF hc hs hW hl
  have K := kk σ A p e R s m args below meth c H locs cells slots Q ls hAt hF hc hs hW hl
  obtain ⟨hx, hb, -, hml, hown, hts, -, hR, -, -, -⟩ := hAt
  exact va_mmin hx hb (hml.trans hl.1.symm) hown (hts _ hg.1) (hts _ hg.2.1) (hts _ hg.2.2.1) (hts _ hg.2.2.2) (by omega) (by rw [mm_cats]; omega) (by omega) (by omega) hd K
theorem r_forget (bs : List Bool) (hL : mm_mask bs L = L') (kk : mm_Go J D d kc ks pc L' st S M Z) : mm_Go J D d kc ks pc L st S M Z := by
  subst hL
  intro σ A p e R s m args below meth c H locs cells slots Q ls hAt hF hc hs hW hl
  exact kk σ A p e R s m args below meth c H locs cells slots Q ls hAt hF hc hs hW (mm_has_mono hl mm_mask_mem)
end R2
