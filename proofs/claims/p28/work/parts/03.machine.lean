/-! THE SMALL MACHINE: values are ints or places, a heap is a shape (a list of cells: arrays with a kind and a length, objects with a class and what each field is) and a memory of ints. mm_Go says of a place in a method, of its locals, stack, shape and memory that the machine itself comes to the method's end with Z. -/
def mm_T : List Cond := lw_tbl.filter goodWord
theorem mm_T_mem {w : Cond} (h : w ∈ lw_tbl) (g : goodWord w = true) : w ∈ mm_T := List.mem_filter.mpr ⟨h, g⟩
def mm_isN : Cond → Bool
  | .fieldLinkNest _ _ _ _ _ _ => true
  | .methodLinkNest _ _ _ _ => true
  | _ => false
/-- the words on nest mates: they hold of a state, not of a method's start alone -/
def mm_N : List Cond := lw_tbl.filter mm_isN
theorem mm_N_mem {w : Cond} (h : w ∈ lw_tbl) (g : mm_isN w = true) : w ∈ mm_N := List.mem_filter.mpr ⟨h, g⟩
theorem mm_N_on {w : Cond} (h : w ∈ mm_N) : w.onTables = true := by
  have h2 := (List.mem_filter.mp h).2
  cases w <;> first | rfl | (cases h2; done)
theorem mm_N_warm {s U : State} (hW : s.WarmedH U.vm) (h : ∀ w ∈ mm_N, va_Nw w s) : ∀ w ∈ mm_N, va_Nw w U := by
  intro w hw
  have h2 := (List.mem_filter.mp hw).2
  have h3 := h w hw
  cases w <;> first | exact va_Nw.warmF hW h3 | exact va_Nw.warmM hW h3 | (cases h2; done)
theorem mm_good {y : Cond} (hy : y ∈ mm_T) : GoodIn mm_T (y :: mm_T) := by
  intro w hw
  have h : w ∈ mm_T := by
    rcases List.mem_cons.mp hw with rfl | h
    · exact hy
    · exact h
  exact ⟨h, good_of_word (List.mem_filter.mp h).2⟩
abbrev mm_V : Type := Int32 ⊕ Nat
abbrev mm_C : Type := (Nat × Nat) ⊕ (Nat × List (Option (Option Nat)))
abbrev mm_M : Type := Nat → Nat → Int32
abbrev mm_J : Type := MethodName × ByteArray × Nat × Option FieldType
abbrev mm_X : Type := Option (Nat × (Nat → Int32))
abbrev mm_D : Type := Launch × va_G × (Nat → ClassId) × mm_X × (Nat → Nat) × Nat
def mm_U (M : mm_M) (a k : Nat) (v : Int32) : mm_M := fun b => if b = a then upd (M a) k v else M b
def mm_R (σ : Nat → Nat) : mm_V → Value
  | .inl x => .int x
  | .inr a => .ref (σ a)
def mm_F (σ : Nat → Nat) (m : Nat → Int32) (k : Nat) : Option (Option Nat) → Value
  | none => .int (m k)
  | some none => .null
  | some (some a) => .ref (σ a)
def mm_E (σ : Nat → Nat) (cA : Nat → ClassId) (m : Nat → Int32) : mm_C → va_E
  | .inl (k, n) => .inl (cA k, n, .inl m)
  | .inr (ci, fs) => .inr (ci, fs.mapIdx (mm_F σ m))
def mm_Ws (σ : Nat → Nat) (cA : Nat → ClassId) (S : List mm_C) (M : mm_M) : va_W := S.mapIdx (fun a c => (σ a, mm_E σ cA (M a) c))
def mm_Ls (σ : Nat → Nat) (L : List (Option mm_V)) : List (Nat × Value) := L.zipIdx.filterMap (fun q => q.1.map (fun v => (q.2, mm_R σ v)))
def mm_ent (av : List mm_V) (n : Nat) : List (Option mm_V) := av.map some ++ List.replicate (n - av.length) none
def mm_tys (cA : Nat → ClassId) : List (ClassId × FieldType) := [(cA 0, .int), (cA 1, .byte)]
def mm_room (d mc ms : Nat) : Room := { frames := d + 1, cells := mc, slots := ms, locals := 64 * (d + 1) }
def mm_nar (ret : Option FieldType) (r : Option Int32) : Prop := ∀ ty v, ret = some ty → r = some v → narrow ty (.int v) = .int v
theorem mm_Ws_get {σ : Nat → Nat} {cA : Nat → ClassId} {S : List mm_C} {M : mm_M} {a : Nat} {c : mm_C} (h : S[a]? = some c) : (mm_Ws σ cA S M)[a]? = some (σ a, mm_E σ cA (M a) c) := by
  simp [mm_Ws, List.getElem?_mapIdx, h]
theorem mm_Ws_inv {σ : Nat → Nat} {cA : Nat → ClassId} {S : List mm_C} {M : mm_M} {a : Nat} {q : Nat × va_E} (h : (mm_Ws σ cA S M)[a]? = some q) : ∃ c, S[a]? = some c ∧ q = (σ a, mm_E σ cA (M a) c) := by
  simp only [mm_Ws, List.getElem?_mapIdx, Option.map_eq_some_iff] at h
  obtain ⟨c, h1, h2⟩ := h
  exact ⟨c, h1, h2.symm⟩
theorem mm_R_cat (σ : Nat → Nat) (v : mm_V) : (mm_R σ v).category = 1 := by
  cases v <;> rfl
theorem mm_cats (σ : Nat → Nat) (st : List mm_V) : ((st.map (mm_R σ)).map fun v => v.category).sum = st.length := by
  induction st with
  | nil => rfl
  | cons v r ih => simp only [List.map_cons, List.sum_cons, mm_R_cat, ih, List.length_cons]; omega
theorem mm_Ls_mem {σ : Nat → Nat} {L : List (Option mm_V)} {i : Nat} {w : Value} : (i, w) ∈ mm_Ls σ L ↔ ∃ v, L[i]? = some (some v) ∧ w = mm_R σ v := by
  simp only [mm_Ls, List.mem_filterMap]
  constructor
  · rintro ⟨⟨o, j⟩, hm, he⟩
    rw [List.mem_zipIdx_iff_getElem?] at hm
    cases o with
    | none => simp at he
    | some v =>
      simp only [Option.map_some, Option.some.injEq, Prod.mk.injEq] at he
      obtain ⟨rfl, rfl⟩ := he
      exact ⟨v, hm, rfl⟩
  · rintro ⟨v, h1, rfl⟩
    exact ⟨(some v, i), List.mem_zipIdx_iff_getElem?.mpr h1, rfl⟩
theorem mm_has_mono {ls : Array Slot} {n : Nat} {l l' : List (Nat × Value)} (h : lv_has ls n l) (hm : ∀ q ∈ l', q ∈ l) : lv_has ls n l' := ⟨h.1, h.2.1, fun q hq => h.2.2 q (hm q hq)⟩
theorem mm_has_at {ls : Array Slot} {n : Nat} {σ : Nat → Nat} {L : List (Option mm_V)} (h : lv_has ls n (mm_Ls σ L)) {i : Nat} {v : mm_V} (hi : L[i]? = some (some v)) : ls[i]? = some (.val (mm_R σ v)) := h.2.2 (i, mm_R σ v) (mm_Ls_mem.mpr ⟨v, hi, rfl⟩)
theorem mm_has_set {ls : Array Slot} {n : Nat} {σ : Nat → Nat} {L : List (Option mm_V)} {i : Nat} {v : mm_V} {w : Value} (hw : w = mm_R σ v) (h : lv_has ls n ((i, w) :: (mm_Ls σ L).filter (fun q => !(q.1 == i) && !(q.1 + 1 == i && q.2.category == 2)))) : lv_has ls n (mm_Ls σ (L.set i (some v))) := by
  refine mm_has_mono h ?_
  rintro ⟨j, u⟩ hq
  obtain ⟨x, hx, rfl⟩ := mm_Ls_mem.mp hq
  by_cases hj : j = i
  · subst hj
    have hlt : j < L.length := by
      rcases Nat.lt_or_ge j L.length with h | h
      · exact h
      · rw [List.set_eq_of_length_le h, List.getElem?_eq_none h] at hx
        cases hx
    rw [List.getElem?_set_self hlt] at hx
    cases hx
    rw [hw]
    exact List.mem_cons_self
  · rw [List.getElem?_set_ne (Ne.symm hj)] at hx
    refine List.mem_cons_of_mem _ (List.mem_filter.mpr ⟨mm_Ls_mem.mpr ⟨x, hx, rfl⟩, ?_⟩)
    simp [hj, mm_R_cat]
theorem mm_F_upd {σ : Nat → Nat} {m : Nat → Int32} {fs : List (Option (Option Nat))} {k : Nat} {v : Int32} (h : fs[k]? = some none) : (fs.mapIdx (mm_F σ m)).set k (.int v) = fs.mapIdx (mm_F σ (upd m k v)) := by
  apply List.ext_getElem?
  intro j
  by_cases hj : j = k
  · subst hj
    have hlt : j < fs.length := (List.getElem?_eq_some_iff.mp h).1
    rw [List.getElem?_set_self (by simpa using hlt)]
    simp [List.getElem?_mapIdx, h, mm_F, upd]
  · rw [List.getElem?_set_ne (Ne.symm hj)]
    simp only [List.getElem?_mapIdx]
    cases fs[j]? with
    | none => rfl
    | some o => cases o with
      | none => simp [mm_F, upd, hj]
      | some o => cases o <;> rfl
theorem mm_F_set {σ : Nat → Nat} {m : Nat → Int32} {fs : List (Option (Option Nat))} {k b : Nat} : (fs.mapIdx (mm_F σ m)).set k (.ref (σ b)) = (fs.set k (some (some b))).mapIdx (mm_F σ m) := by
  apply List.ext_getElem?
  intro j
  by_cases hj : j = k
  · subst hj
    rcases Nat.lt_or_ge j fs.length with h | h
    · rw [List.getElem?_set_self (by simpa using h)]
      simp [List.getElem?_mapIdx, h, mm_F]
    · rw [List.getElem?_eq_none (by simpa using h), List.getElem?_eq_none (by simpa using h)]
  · rw [List.getElem?_set_ne (Ne.symm hj)]
    simp only [List.getElem?_mapIdx, List.getElem?_set_ne (Ne.symm hj)]
theorem mm_Ws_set {σ : Nat → Nat} {cA : Nat → ClassId} {S S' : List mm_C} {M M' : mm_M} {a : Nat} {c : mm_C} {e : va_E} (h : S[a]? = some c) (hs : ∀ j, j ≠ a → S'[j]? = S[j]?) (hM : ∀ j, j ≠ a → M' j = M j) (he : S'[a]?.map (mm_E σ cA (M' a)) = some e) : (mm_Ws σ cA S M).set a (σ a, e) = mm_Ws σ cA S' M' := by
  apply List.ext_getElem?
  intro j
  have hlt : a < S.length := (List.getElem?_eq_some_iff.mp h).1
  by_cases hj : j = a
  · subst hj
    rw [List.getElem?_set_self (by simpa [mm_Ws] using hlt)]
    simp only [mm_Ws, List.getElem?_mapIdx]
    cases hq : S'[j]? with
    | none => rw [hq] at he; cases he
    | some q => rw [hq] at he; cases he; rfl
  · rw [List.getElem?_set_ne (Ne.symm hj)]
    simp only [mm_Ws, List.getElem?_mapIdx, hs j hj, hM j hj]
theorem mm_U_ne {M : mm_M} {a k : Nat} {v : Int32} (j : Nat) (h : j ≠ a) : mm_U M a k v j = M j := if_neg h
theorem mm_U_eq {M : mm_M} {a k : Nat} {v : Int32} : mm_U M a k v a = upd (M a) k v := if_pos rfl
/-- the field k of the class ci, by the entry idx of the class own, may be read and written: its own class's, or a nest mate's -/
def mm_Link (own : String) (idx ci k : Nat) : Prop := ∃ (C : String) (T : u_T) (N : Nat), vwCl[ci]? = some (C, T, N) ∧ k < N ∧ (∀ w ∈ u_ws C T N, w ∈ mm_T) ∧ (Cond.fieldLink own idx (T k).1 (T k).2.1 (T k).2.2.1 ∈ mm_T ∨ ∃ host, Cond.fieldLinkNest own idx (T k).1 (T k).2.1 (T k).2.2.1 host ∈ mm_N)
/-- and its type, so that it may be written -/
def mm_Ty (ci k : Nat) (ty : FieldType) (fin : Bool) : Prop := ∃ (C : String) (T : u_T) (N : Nat) (ty0 : Nat → FieldType), vwCl[ci]? = some (C, T, N) ∧ (∀ k, k < N → parseFieldDescriptor (T k).2.2.1 = some (ty0 k)) ∧ (∀ a, a < N → ∀ b, b < N → a ≠ b → (T a).2.1 ≠ (T b).2.1) ∧ parseFieldDescriptor (T k).2.2.1 = some ty ∧ (T k).2.2.2 = fin ∧ (T k).1 = C
/-- a call of the method J1 by the entry idx of the class own -/
def mm_CallG (own : String) (idx : Nat) (J1 : mm_J) (n : Nat) : Prop :=
  plainName J1.1.cls = true ∧ Cond.code J1.1 J1.2.1 J1.2.2.1 J1.2.2.2 ∈ mm_T ∧ Cond.initialized J1.1.cls ∈ mm_T ∧ (J1.1.cls ≠ "java/lang/invoke/MethodHandle" ∧ J1.1.cls ≠ "java/lang/invoke/VarHandle" ∧ (parseMethodDescriptor J1.1.desc).map (fun d => d.parameters.length) = some n) ∧ J1.2.2.1 ≤ 45 ∧ (Cond.methodLink own idx J1.1 ∈ mm_T ∨ ∃ host, Cond.methodLinkNest own idx J1.1 host ∈ mm_N)
def mm_CS (own : String) (idx : Nat) (J1 : mm_J) (n : Nat) : Prop := mm_CallG own idx J1 n ∧ Cond.static J1.1 ∈ mm_T
def mm_CV (own : String) (idx ci : Nat) (J1 : mm_J) (n : Nat) : Prop := mm_CallG own idx J1 n ∧ Cond.instanceMethod J1.1 ∈ mm_T ∧ Cond.selects J1.1.cls J1.1 J1.1 ∈ mm_T ∧ ∃ q, vwCl[ci]? = some q ∧ q.1 = J1.1.cls
def mm_Mx (own : String) (idx : Nat) : Prop := Cond.methodLink own idx Lib.Math.max.name ∈ mm_T ∧ Cond.static Lib.Math.max.name ∈ mm_T ∧ Cond.initialized "java/lang/Math" ∈ mm_T ∧ Cond.code Lib.Math.max.name Lib.Math.max.code 2 (some .int) ∈ mm_T
def mm_Mn (own : String) (idx : Nat) : Prop := Cond.methodLink own idx Lib.Math.min.name ∈ mm_T ∧ Cond.static Lib.Math.min.name ∈ mm_T ∧ Cond.initialized "java/lang/Math" ∈ mm_T ∧ Cond.code Lib.Math.min.name Lib.Math.min.code 2 (some .int) ∈ mm_T
