/-- what holds all through a walk of a method -/
def mm_At (J : mm_J) (D : mm_D) (d : Nat) (A : Nat → Prop) (p : Program) (R : Room) (s : State) (m : MethodId) (args : Array Value) (meth : Method) (c : Code) : Prop :=
  p.tables.exec = Jvm.exec ∧ c.code = J.2.1 ∧ meth.sig.returnType = J.2.2.2 ∧ c.maxLocals = J.2.2.1 ∧ s.vm.findClass J.1.cls = some m.cls ∧ (∀ w ∈ mm_T, w.before args s = true) ∧ (meth.name = J.1.name ∧ ∀ w ∈ mm_N, va_Nw w s) ∧ (d + 1 ≤ R.frames ∧ 64 * (d + 1) ≤ R.locals) ∧ va_K D.2.1 vwCl (mm_tys D.2.2.1) s ∧ (∀ q, s.heap.size ≤ q → A q) ∧ (∀ x, D.2.2.2.1 = some x → va_X (D.2.2.2.2.1 4000) x.1 x.2 s s.heap ∧ D.2.2.2.2.1 4000 < s.heap.size ∧ ¬ A (D.2.2.2.2.1 4000)) ∧ mm_Tx A s s.heap
/-- the world: the shape S with the memory M lies in the heap H -/
def mm_Wd (D : mm_D) (A : Nat → Prop) (s : State) (σ : Nat → Nat) (S : List mm_C) (M : mm_M) (H : Heap) (locs : List Loc) : Prop :=
  (∀ a, a < D.2.2.2.2.2 ∨ a = 4000 → σ a = D.2.2.2.2.1 a) ∧ D.2.2.2.2.2 ≤ S.length ∧ va_P D.2.1 vwCl (mm_Ws σ D.2.2.1 S M) H ∧ va_D A (mm_Ws σ D.2.2.1 S M) ∧ va_S A s.heap H locs
def mm_Fin (J : mm_J) (D : mm_D) (A : Nat → Prop) (Z : Option Int32 → List mm_C → mm_M → Prop) (p : Program) (e : Env) (R : Room) (s : State) (m : MethodId) (args : Array Value) (below : List Frame) (meth : Method) (c : Code) (Q : State → Prop) : Prop :=
  ∀ (σ : Nat → Nat) (r : Option Int32) (S : List mm_C) (M : mm_M) (H : Heap) (locs : List Loc) (cells slots pc : Nat) (ls : Array Slot), cells ≤ R.cells → slots ≤ R.slots → mm_Wd D A s σ S M H locs → Z r S M → mm_nar J.2.2.2 r →
    (match r with | none => J.2.2.2 = none ∧ decode J.2.1 pc = .ok (.return_, 1) | some _ => (∃ ty, J.2.2.2 = some ty) ∧ decode J.2.1 pc = .ok (.ireturn, 1)) → W p D.1 e R s m args below meth c H locs cells slots Q (F0 m pc ls (r.toList.map Value.int))
/-- from this place of the method, with these locals, stack, shape and memory, it comes to its end with Z; kc cells of ks slots may be made -/
def mm_Go (J : mm_J) (D : mm_D) (d kc ks pc : Nat) (L : List (Option mm_V)) (st : List mm_V) (S : List mm_C) (M : mm_M) (Z : Option Int32 → List mm_C → mm_M → Prop) : Prop :=
  ∀ (σ : Nat → Nat) (A : Nat → Prop) (p : Program) (e : Env) (R : Room) (s : State) (m : MethodId) (args : Array Value) (below : List Frame) (meth : Method) (c : Code) (H : Heap) (locs : List Loc) (cells slots : Nat) (Q : State → Prop) (ls : Array Slot),
    mm_At J D d A p R s m args meth c → mm_Fin J D A Z p e R s m args below meth c Q → cells + kc ≤ R.cells → slots + ks ≤ R.slots → mm_Wd D A s σ S M H locs → lv_has ls J.2.2.1 (mm_Ls σ L) →
    W p D.1 e R s m args below meth c H locs cells slots Q (F0 m pc ls (st.map (mm_R σ)))
def mm_Meth (J : mm_J) (d kc ks : Nat) (av : List mm_V) (S : List mm_C) (M : mm_M) (Z : Option Int32 → List mm_C → mm_M → Prop) : Prop :=
  ∀ (l : Launch) (G : va_G) (cA : Nat → ClassId) (σ0 : Nat → Nat), mm_Go J (l, G, cA, none, σ0, S.length) d kc ks 0 (mm_ent av J.2.2.1) [] S M Z
section RULES
variable {J : mm_J} {D : mm_D} {d kc ks pc : Nat} {L : List (Option mm_V)} {st : List mm_V} {S : List mm_C} {M : mm_M} {Z : Option Int32 → List mm_C → mm_M → Prop}
theorem mm_iconst {v : Int32} (hd : decode J.2.1 pc = .ok (.iconst v.toInt, 1)) (k : mm_Go J D d kc ks (pc + 1) L (.inl v :: st) S M Z) : mm_Go J D d kc ks pc L st S M Z := by
  intro σ A p e R s m args below meth c H locs cells slots Q ls hAt hF hc hs hW hl
  exact lv_iconst (v := v) hAt.1 hAt.2.1 hd (by simp) (k σ A p e R s m args below meth c H locs cells slots Q ls hAt hF hc hs hW hl)
theorem mm_bipush {v : Int32} (hd : decode J.2.1 pc = .ok (.bipush v.toInt, 2)) (hv : (Int8.ofInt v.toInt).toInt32 = v) (k : mm_Go J D d kc ks (pc + 2) L (.inl v :: st) S M Z) : mm_Go J D d kc ks pc L st S M Z := by
  intro σ A p e R s m args below meth c H locs cells slots Q ls hAt hF hc hs hW hl
  exact lv_bipush (v := v) hAt.1 hAt.2.1 hd hv (k σ A p e R s m args below meth c H locs cells slots Q ls hAt hF hc hs hW hl)
theorem mm_sipush {v : Int32} (hd : decode J.2.1 pc = .ok (.sipush v.toInt, 3)) (hv : (Int16.ofInt v.toInt).toInt32 = v) (k : mm_Go J D d kc ks (pc + 3) L (.inl v :: st) S M Z) : mm_Go J D d kc ks pc L st S M Z := by
  intro σ A p e R s m args below meth c H locs cells slots Q ls hAt hF hc hs hW hl
  exact lv_sipush (v := v) hAt.1 hAt.2.1 hd hv (k σ A p e R s m args below meth c H locs cells slots Q ls hAt hF hc hs hW hl)
theorem mm_ldc {v : Int32} {idx : Nat} (hd : decode J.2.1 pc = .ok (.ldc idx, 2)) (hv : Cond.constant J.1.cls idx v ∈ mm_T) (k : mm_Go J D d kc ks (pc + 2) L (.inl v :: st) S M Z) : mm_Go J D d kc ks pc L st S M Z := by
  intro σ A p e R s m args below meth c H locs cells slots Q ls hAt hF hc hs hW hl
  exact lv_ldc (v := v) hAt.1 hAt.2.1 hAt.2.2.2.2.1 (hAt.2.2.2.2.2.1 _ hv) hd (k σ A p e R s m args below meth c H locs cells slots Q ls hAt hF hc hs hW hl)
theorem mm_ldcw {v : Int32} {idx : Nat} (hd : decode J.2.1 pc = .ok (.ldc_w idx, 3)) (hv : Cond.constant J.1.cls idx v ∈ mm_T) (k : mm_Go J D d kc ks (pc + 3) L (.inl v :: st) S M Z) : mm_Go J D d kc ks pc L st S M Z := by
  intro σ A p e R s m args below meth c H locs cells slots Q ls hAt hF hc hs hW hl
  exact lv_ldcw (v := v) hAt.1 hAt.2.1 hAt.2.2.2.2.1 (hAt.2.2.2.2.2.1 _ hv) hd (k σ A p e R s m args below meth c H locs cells slots Q ls hAt hF hc hs hW hl)
theorem mm_iload {i : Nat} {x : Int32} (hd : decode J.2.1 pc = .ok (.iload i, 2)) (hi : L[i]? = some (some (.inl x))) (k : mm_Go J D d kc ks (pc + 2) L (.inl x :: st) S M Z) : mm_Go J D d kc ks pc L st S M Z := by
  intro σ A p e R s m args below meth c H locs cells slots Q ls hAt hF hc hs hW hl
  exact lv_iload (x := x) hAt.1 hAt.2.1 hd (mm_has_at hl hi) (k σ A p e R s m args below meth c H locs cells slots Q ls hAt hF hc hs hW hl)
theorem mm_iload_n {i : Fin 4} {x : Int32} (hd : decode J.2.1 pc = .ok (.iload_n i, 1)) (hi : L[(i : Nat)]? = some (some (.inl x))) (k : mm_Go J D d kc ks (pc + 1) L (.inl x :: st) S M Z) : mm_Go J D d kc ks pc L st S M Z := by
  intro σ A p e R s m args below meth c H locs cells slots Q ls hAt hF hc hs hW hl
  exact lv_iload_n (x := x) hAt.1 hAt.2.1 hd rfl (mm_has_at hl hi) (k σ A p e R s m args below meth c H locs cells slots Q ls hAt hF hc hs hW hl)
theorem mm_aload {i : Nat} {x : Nat} (hd : decode J.2.1 pc = .ok (.aload i, 2)) (hi : L[i]? = some (some (.inr x))) (k : mm_Go J D d kc ks (pc + 2) L (.inr x :: st) S M Z) : mm_Go J D d kc ks pc L st S M Z := by
  intro σ A p e R s m args below meth c H locs cells slots Q ls hAt hF hc hs hW hl
  exact lv_aload (x := σ x) hAt.1 hAt.2.1 hd (mm_has_at hl hi) (k σ A p e R s m args below meth c H locs cells slots Q ls hAt hF hc hs hW hl)
theorem mm_aload_n {i : Fin 4} {x : Nat} (hd : decode J.2.1 pc = .ok (.aload_n i, 1)) (hi : L[(i : Nat)]? = some (some (.inr x))) (k : mm_Go J D d kc ks (pc + 1) L (.inr x :: st) S M Z) : mm_Go J D d kc ks pc L st S M Z := by
  intro σ A p e R s m args below meth c H locs cells slots Q ls hAt hF hc hs hW hl
  exact lv_aload_n (x := σ x) hAt.1 hAt.2.1 hd rfl (mm_has_at hl hi) (k σ A p e R s m args below meth c H locs cells slots Q ls hAt hF hc hs hW hl)
theorem mm_istore {i : Nat} {x : Int32} (hd : decode J.2.1 pc = .ok (.istore i, 2)) (hi : i < J.2.2.1) (k : mm_Go J D d kc ks (pc + 2) (L.set i (some (.inl x))) st S M Z) : mm_Go J D d kc ks pc L (.inl x :: st) S M Z := by
  intro σ A p e R s m args below meth c H locs cells slots Q ls hAt hF hc hs hW hl
  exact lv_istore hAt.1 hAt.2.1 hd hl hi rfl (fun ls' hl' => k σ A p e R s m args below meth c H locs cells slots Q ls' hAt hF hc hs hW (mm_has_set rfl hl'))
theorem mm_istore_n {i : Fin 4} {x : Int32} (hd : decode J.2.1 pc = .ok (.istore_n i, 1)) (hi : (i : Nat) < J.2.2.1) (k : mm_Go J D d kc ks (pc + 1) (L.set (i : Nat) (some (.inl x))) st S M Z) : mm_Go J D d kc ks pc L (.inl x :: st) S M Z := by
  intro σ A p e R s m args below meth c H locs cells slots Q ls hAt hF hc hs hW hl
  exact lv_istore_n hAt.1 hAt.2.1 hd rfl hl hi rfl (fun ls' hl' => k σ A p e R s m args below meth c H locs cells slots Q ls' hAt hF hc hs hW (mm_has_set rfl hl'))
theorem mm_astore_n {i : Fin 4} {x : Nat} (hd : decode J.2.1 pc = .ok (.astore_n i, 1)) (hi : (i : Nat) < J.2.2.1) (k : mm_Go J D d kc ks (pc + 1) (L.set (i : Nat) (some (.inr x))) st S M Z) : mm_Go J D d kc ks pc L (.inr x :: st) S M Z := by
  intro σ A p e R s m args below meth c H locs cells slots Q ls hAt hF hc hs hW hl
  exact lv_astore_n hAt.1 hAt.2.1 hd rfl hl hi rfl (fun ls' hl' => k σ A p e R s m args below meth c H locs cells slots Q ls' hAt hF hc hs hW (mm_has_set rfl hl'))
theorem mm_iinc {i : Nat} {v x : Int32} (hd : decode J.2.1 pc = .ok (.iinc i v.toInt, 3)) (hi : i < J.2.2.1) (hx : L[i]? = some (some (.inl x))) (k : mm_Go J D d kc ks (pc + 3) (L.set i (some (.inl (x + v)))) st S M Z) : mm_Go J D d kc ks pc L st S M Z := by
  intro σ A p e R s m args below meth c H locs cells slots Q ls hAt hF hc hs hW hl
  obtain ⟨j, hj⟩ := List.getElem?_of_mem (mm_Ls_mem.mpr ⟨.inl x, hx, rfl⟩ : (i, mm_R σ (.inl x)) ∈ mm_Ls σ L)
  exact lv_iinc (v := x + v) hAt.1 hAt.2.1 hd hl hj (by simp) hi rfl (fun ls' hl' => k σ A p e R s m args below meth c H locs cells slots Q ls' hAt hF hc hs hW (mm_has_set rfl hl'))
theorem mm_iadd {x y : Int32} (hd : decode J.2.1 pc = .ok (.iadd, 1)) (k : mm_Go J D d kc ks (pc + 1) L (.inl (x + y) :: st) S M Z) : mm_Go J D d kc ks pc L (.inl y :: .inl x :: st) S M Z := by
  intro σ A p e R s m args below meth c H locs cells slots Q ls hAt hF hc hs hW hl
  exact lv_iadd hAt.1 hAt.2.1 hd (k σ A p e R s m args below meth c H locs cells slots Q ls hAt hF hc hs hW hl)
theorem mm_isub {x y : Int32} (hd : decode J.2.1 pc = .ok (.isub, 1)) (k : mm_Go J D d kc ks (pc + 1) L (.inl (x - y) :: st) S M Z) : mm_Go J D d kc ks pc L (.inl y :: .inl x :: st) S M Z := by
  intro σ A p e R s m args below meth c H locs cells slots Q ls hAt hF hc hs hW hl
  exact lv_isub hAt.1 hAt.2.1 hd (k σ A p e R s m args below meth c H locs cells slots Q ls hAt hF hc hs hW hl)
theorem mm_imul {x y : Int32} (hd : decode J.2.1 pc = .ok (.imul, 1)) (k : mm_Go J D d kc ks (pc + 1) L (.inl (x * y) :: st) S M Z) : mm_Go J D d kc ks pc L (.inl y :: .inl x :: st) S M Z := by
  intro σ A p e R s m args below meth c H locs cells slots Q ls hAt hF hc hs hW hl
  exact lv_imul hAt.1 hAt.2.1 hd (k σ A p e R s m args below meth c H locs cells slots Q ls hAt hF hc hs hW hl)
theorem mm_iand {x y : Int32} (hd : decode J.2.1 pc = .ok (.iand, 1)) (k : mm_Go J D d kc ks (pc + 1) L (.inl (x &&& y) :: st) S M Z) : mm_Go J D d kc ks pc L (.inl y :: .inl x :: st) S M Z := by
  intro σ A p e R s m args below meth c H locs cells slots Q ls hAt hF hc hs hW hl
  exact lv_iand hAt.1 hAt.2.1 hd (k σ A p e R s m args below meth c H locs cells slots Q ls hAt hF hc hs hW hl)
theorem mm_ior {x y : Int32} (hd : decode J.2.1 pc = .ok (.ior, 1)) (k : mm_Go J D d kc ks (pc + 1) L (.inl (x ||| y) :: st) S M Z) : mm_Go J D d kc ks pc L (.inl y :: .inl x :: st) S M Z := by
  intro σ A p e R s m args below meth c H locs cells slots Q ls hAt hF hc hs hW hl
  exact lv_ior hAt.1 hAt.2.1 hd (k σ A p e R s m args below meth c H locs cells slots Q ls hAt hF hc hs hW hl)
theorem mm_ixor {x y : Int32} (hd : decode J.2.1 pc = .ok (.ixor, 1)) (k : mm_Go J D d kc ks (pc + 1) L (.inl (x ^^^ y) :: st) S M Z) : mm_Go J D d kc ks pc L (.inl y :: .inl x :: st) S M Z := by
  intro σ A p e R s m args below meth c H locs cells slots Q ls hAt hF hc hs hW hl
  exact lv_ixor hAt.1 hAt.2.1 hd (k σ A p e R s m args below meth c H locs cells slots Q ls hAt hF hc hs hW hl)
theorem mm_ishl {x y : Int32} (hd : decode J.2.1 pc = .ok (.ishl, 1)) (k : mm_Go J D d kc ks (pc + 1) L (.inl (x <<< (y &&& 31)) :: st) S M Z) : mm_Go J D d kc ks pc L (.inl y :: .inl x :: st) S M Z := by
  intro σ A p e R s m args below meth c H locs cells slots Q ls hAt hF hc hs hW hl
  exact lv_ishl hAt.1 hAt.2.1 hd (k σ A p e R s m args below meth c H locs cells slots Q ls hAt hF hc hs hW hl)
theorem mm_ishr {x y : Int32} (hd : decode J.2.1 pc = .ok (.ishr, 1)) (k : mm_Go J D d kc ks (pc + 1) L (.inl (x >>> (y &&& 31)) :: st) S M Z) : mm_Go J D d kc ks pc L (.inl y :: .inl x :: st) S M Z := by
  intro σ A p e R s m args below meth c H locs cells slots Q ls hAt hF hc hs hW hl
  exact lv_ishr hAt.1 hAt.2.1 hd (k σ A p e R s m args below meth c H locs cells slots Q ls hAt hF hc hs hW hl)
theorem mm_iushr {x y : Int32} (hd : decode J.2.1 pc = .ok (.iushr, 1)) (k : mm_Go J D d kc ks (pc + 1) L (.inl (x.toUInt32 >>> (y.toUInt32 &&& Int32.toUInt32 31)).toInt32 :: st) S M Z) : mm_Go J D d kc ks pc L (.inl y :: .inl x :: st) S M Z := by
  intro σ A p e R s m args below meth c H locs cells slots Q ls hAt hF hc hs hW hl
  exact lv_iushr hAt.1 hAt.2.1 hd rfl (k σ A p e R s m args below meth c H locs cells slots Q ls hAt hF hc hs hW hl)
theorem mm_i2b {x : Int32} (hd : decode J.2.1 pc = .ok (.i2b, 1)) (k : mm_Go J D d kc ks (pc + 1) L (.inl x.toInt8.toInt32 :: st) S M Z) : mm_Go J D d kc ks pc L (.inl x :: st) S M Z := by
  intro σ A p e R s m args below meth c H locs cells slots Q ls hAt hF hc hs hW hl
  exact lv_i2b hAt.1 hAt.2.1 hd rfl (k σ A p e R s m args below meth c H locs cells slots Q ls hAt hF hc hs hW hl)
theorem mm_idiv {x y : Int32} (hd : decode J.2.1 pc = .ok (.idiv, 1)) (hy : ¬ y = 0) (k : mm_Go J D d kc ks (pc + 1) L (.inl (x / y) :: st) S M Z) : mm_Go J D d kc ks pc L (.inl y :: .inl x :: st) S M Z := by
  intro σ A p e R s m args below meth c H locs cells slots Q ls hAt hF hc hs hW hl
  exact lv_idiv hAt.1 hAt.2.1 hd hy (k σ A p e R s m args below meth c H locs cells slots Q ls hAt hF hc hs hW hl)
theorem mm_irem {x y : Int32} (hd : decode J.2.1 pc = .ok (.irem, 1)) (hy : ¬ y = 0) (k : mm_Go J D d kc ks (pc + 1) L (.inl (x - x / y * y) :: st) S M Z) : mm_Go J D d kc ks pc L (.inl y :: .inl x :: st) S M Z := by
  intro σ A p e R s m args below meth c H locs cells slots Q ls hAt hF hc hs hW hl
  exact lv_irem hAt.1 hAt.2.1 hd hy (k σ A p e R s m args below meth c H locs cells slots Q ls hAt hF hc hs hW hl)
theorem mm_dup {v : mm_V} (hd : decode J.2.1 pc = .ok (.dup, 1)) (k : mm_Go J D d kc ks (pc + 1) L (v :: v :: st) S M Z) : mm_Go J D d kc ks pc L (v :: st) S M Z := by
  intro σ A p e R s m args below meth c H locs cells slots Q ls hAt hF hc hs hW hl
  exact lv_dup hAt.1 hAt.2.1 hd (mm_R_cat σ v) (k σ A p e R s m args below meth c H locs cells slots Q ls hAt hF hc hs hW hl)
theorem mm_pop {v : mm_V} (hd : decode J.2.1 pc = .ok (.pop, 1)) (k : mm_Go J D d kc ks (pc + 1) L st S M Z) : mm_Go J D d kc ks pc L (v :: st) S M Z := by
  intro σ A p e R s m args below meth c H locs cells slots Q ls hAt hF hc hs hW hl
  exact lv_pop hAt.1 hAt.2.1 hd (mm_R_cat σ v) (k σ A p e R s m args below meth c H locs cells slots Q ls hAt hF hc hs hW hl)
theorem mm_dup2 {v w : mm_V} (hd : decode J.2.1 pc = .ok (.dup2, 1)) (k : mm_Go J D d kc ks (pc + 1) L (v :: w :: v :: w :: st) S M Z) : mm_Go J D d kc ks pc L (v :: w :: st) S M Z := by
  intro σ A p e R s m args below meth c H locs cells slots Q ls hAt hF hc hs hW hl
  exact lv_dup2_11 hAt.1 hAt.2.1 hd (mm_R_cat σ v) (mm_R_cat σ w) (k σ A p e R s m args below meth c H locs cells slots Q ls hAt hF hc hs hW hl)
theorem mm_goto {off : Int} (tgt : Nat) (hd : decode J.2.1 pc = .ok (.goto off, 3)) (ht : (pc : Int) + off = (tgt : Int)) (k : mm_Go J D d kc ks tgt L st S M Z) : mm_Go J D d kc ks pc L st S M Z := by
  intro σ A p e R s m args below meth c H locs cells slots Q ls hAt hF hc hs hW hl
  exact lv_goto hAt.1 hAt.2.1 hd ht (k σ A p e R s m args below meth c H locs cells slots Q ls hAt hF hc hs hW hl)
end RULES
section RULEB
variable {J : mm_J} {D : mm_D} {d kc ks pc : Nat} {L : List (Option mm_V)} {st : List mm_V} {S : List mm_C} {M : mm_M} {Z : Option Int32 → List mm_C → mm_M → Prop}
theorem mm_if_eq {x : Int32} {off : Int} (tgt : Nat) (hd : decode J.2.1 pc = .ok (.ifCond .eq off, 3)) (ht : (pc : Int) + off = (tgt : Int)) (kt : x = 0 → mm_Go J D d kc ks tgt L st S M Z) (kf : ¬ x = 0 → mm_Go J D d kc ks (pc + 3) L st S M Z) : mm_Go J D d kc ks pc L (.inl x :: st) S M Z := by
  intro σ A p e R s m args below meth c H locs cells slots Q ls hAt hF hc hs hW hl
  exact lv_if_eq hAt.1 hAt.2.1 hd ht (fun h => kt h σ A p e R s m args below meth c H locs cells slots Q ls hAt hF hc hs hW hl) (fun h => kf h σ A p e R s m args below meth c H locs cells slots Q ls hAt hF hc hs hW hl)
theorem mm_icmp_eq {x y : Int32} {off : Int} (tgt : Nat) (hd : decode J.2.1 pc = .ok (.if_icmp .eq off, 3)) (ht : (pc : Int) + off = (tgt : Int)) (kt : x = y → mm_Go J D d kc ks tgt L st S M Z) (kf : ¬ x = y → mm_Go J D d kc ks (pc + 3) L st S M Z) : mm_Go J D d kc ks pc L (.inl y :: .inl x :: st) S M Z := by
  intro σ A p e R s m args below meth c H locs cells slots Q ls hAt hF hc hs hW hl
  exact lv_icmp_eq hAt.1 hAt.2.1 hd ht (fun h => kt h σ A p e R s m args below meth c H locs cells slots Q ls hAt hF hc hs hW hl) (fun h => kf h σ A p e R s m args below meth c H locs cells slots Q ls hAt hF hc hs hW hl)
theorem mm_if_ne {x : Int32} {off : Int} (tgt : Nat) (hd : decode J.2.1 pc = .ok (.ifCond .ne off, 3)) (ht : (pc : Int) + off = (tgt : Int)) (kt : ¬ x = 0 → mm_Go J D d kc ks tgt L st S M Z) (kf : x = 0 → mm_Go J D d kc ks (pc + 3) L st S M Z) : mm_Go J D d kc ks pc L (.inl x :: st) S M Z := by
  intro σ A p e R s m args below meth c H locs cells slots Q ls hAt hF hc hs hW hl
  exact lv_if_ne hAt.1 hAt.2.1 hd ht (fun h => kt h σ A p e R s m args below meth c H locs cells slots Q ls hAt hF hc hs hW hl) (fun h => kf h σ A p e R s m args below meth c H locs cells slots Q ls hAt hF hc hs hW hl)
theorem mm_icmp_ne {x y : Int32} {off : Int} (tgt : Nat) (hd : decode J.2.1 pc = .ok (.if_icmp .ne off, 3)) (ht : (pc : Int) + off = (tgt : Int)) (kt : ¬ x = y → mm_Go J D d kc ks tgt L st S M Z) (kf : x = y → mm_Go J D d kc ks (pc + 3) L st S M Z) : mm_Go J D d kc ks pc L (.inl y :: .inl x :: st) S M Z := by
  intro σ A p e R s m args below meth c H locs cells slots Q ls hAt hF hc hs hW hl
  exact lv_icmp_ne hAt.1 hAt.2.1 hd ht (fun h => kt h σ A p e R s m args below meth c H locs cells slots Q ls hAt hF hc hs hW hl) (fun h => kf h σ A p e R s m args below meth c H locs cells slots Q ls hAt hF hc hs hW hl)
theorem mm_if_lt {x : Int32} {off : Int} (tgt : Nat) (hd : decode J.2.1 pc = .ok (.ifCond .lt off, 3)) (ht : (pc : Int) + off = (tgt : Int)) (kt : x < 0 → mm_Go J D d kc ks tgt L st S M Z) (kf : ¬ x < 0 → mm_Go J D d kc ks (pc + 3) L st S M Z) : mm_Go J D d kc ks pc L (.inl x :: st) S M Z := by
  intro σ A p e R s m args below meth c H locs cells slots Q ls hAt hF hc hs hW hl
  exact lv_if_lt hAt.1 hAt.2.1 hd ht (fun h => kt h σ A p e R s m args below meth c H locs cells slots Q ls hAt hF hc hs hW hl) (fun h => kf h σ A p e R s m args below meth c H locs cells slots Q ls hAt hF hc hs hW hl)
theorem mm_icmp_lt {x y : Int32} {off : Int} (tgt : Nat) (hd : decode J.2.1 pc = .ok (.if_icmp .lt off, 3)) (ht : (pc : Int) + off = (tgt : Int)) (kt : x < y → mm_Go J D d kc ks tgt L st S M Z) (kf : ¬ x < y → mm_Go J D d kc ks (pc + 3) L st S M Z) : mm_Go J D d kc ks pc L (.inl y :: .inl x :: st) S M Z := by
  intro σ A p e R s m args below meth c H locs cells slots Q ls hAt hF hc hs hW hl
  exact lv_icmp_lt hAt.1 hAt.2.1 hd ht (fun h => kt h σ A p e R s m args below meth c H locs cells slots Q ls hAt hF hc hs hW hl) (fun h => kf h σ A p e R s m args below meth c H locs cells slots Q ls hAt hF hc hs hW hl)
theorem mm_if_ge {x : Int32} {off : Int} (tgt : Nat) (hd : decode J.2.1 pc = .ok (.ifCond .ge off, 3)) (ht : (pc : Int) + off = (tgt : Int)) (kt : 0 ≤ x → mm_Go J D d kc ks tgt L st S M Z) (kf : ¬ 0 ≤ x → mm_Go J D d kc ks (pc + 3) L st S M Z) : mm_Go J D d kc ks pc L (.inl x :: st) S M Z := by
  intro σ A p e R s m args below meth c H locs cells slots Q ls hAt hF hc hs hW hl
  exact lv_if_ge hAt.1 hAt.2.1 hd ht (fun h => kt h σ A p e R s m args below meth c H locs cells slots Q ls hAt hF hc hs hW hl) (fun h => kf h σ A p e R s m args below meth c H locs cells slots Q ls hAt hF hc hs hW hl)
theorem mm_icmp_ge {x y : Int32} {off : Int} (tgt : Nat) (hd : decode J.2.1 pc = .ok (.if_icmp .ge off, 3)) (ht : (pc : Int) + off = (tgt : Int)) (kt : y ≤ x → mm_Go J D d kc ks tgt L st S M Z) (kf : ¬ y ≤ x → mm_Go J D d kc ks (pc + 3) L st S M Z) : mm_Go J D d kc ks pc L (.inl y :: .inl x :: st) S M Z := by
  intro σ A p e R s m args below meth c H locs cells slots Q ls hAt hF hc hs hW hl
  exact lv_icmp_ge hAt.1 hAt.2.1 hd ht (fun h => kt h σ A p e R s m args below meth c H locs cells slots Q ls hAt hF hc hs hW hl) (fun h => kf h σ A p e R s m args below meth c H locs cells slots Q ls hAt hF hc hs hW hl)
theorem mm_if_gt {x : Int32} {off : Int} (tgt : Nat) (hd : decode J.2.1 pc = .ok (.ifCond .gt off, 3)) (ht : (pc : Int) + off = (tgt : Int)) (kt : 0 < x → mm_Go J D d kc ks tgt L st S M Z) (kf : ¬ 0 < x → mm_Go J D d kc ks (pc + 3) L st S M Z) : mm_Go J D d kc ks pc L (.inl x :: st) S M Z := by
  intro σ A p e R s m args below meth c H locs cells slots Q ls hAt hF hc hs hW hl
  exact lv_if_gt hAt.1 hAt.2.1 hd ht (fun h => kt h σ A p e R s m args below meth c H locs cells slots Q ls hAt hF hc hs hW hl) (fun h => kf h σ A p e R s m args below meth c H locs cells slots Q ls hAt hF hc hs hW hl)
theorem mm_icmp_gt {x y : Int32} {off : Int} (tgt : Nat) (hd : decode J.2.1 pc = .ok (.if_icmp .gt off, 3)) (ht : (pc : Int) + off = (tgt : Int)) (kt : y < x → mm_Go J D d kc ks tgt L st S M Z) (kf : ¬ y < x → mm_Go J D d kc ks (pc + 3) L st S M Z) : mm_Go J D d kc ks pc L (.inl y :: .inl x :: st) S M Z := by
  intro σ A p e R s m args below meth c H locs cells slots Q ls hAt hF hc hs hW hl
  exact lv_icmp_gt hAt.1 hAt.2.1 hd ht (fun h => kt h σ A p e R s m args below meth c H locs cells slots Q ls hAt hF hc hs hW hl) (fun h => kf h σ A p e R s m args below meth c H locs cells slots Q ls hAt hF hc hs hW hl)
theorem mm_if_le {x : Int32} {off : Int} (tgt : Nat) (hd : decode J.2.1 pc = .ok (.ifCond .le off, 3)) (ht : (pc : Int) + off = (tgt : Int)) (kt : x ≤ 0 → mm_Go J D d kc ks tgt L st S M Z) (kf : ¬ x ≤ 0 → mm_Go J D d kc ks (pc + 3) L st S M Z) : mm_Go J D d kc ks pc L (.inl x :: st) S M Z := by
  intro σ A p e R s m args below meth c H locs cells slots Q ls hAt hF hc hs hW hl
  exact lv_if_le hAt.1 hAt.2.1 hd ht (fun h => kt h σ A p e R s m args below meth c H locs cells slots Q ls hAt hF hc hs hW hl) (fun h => kf h σ A p e R s m args below meth c H locs cells slots Q ls hAt hF hc hs hW hl)
theorem mm_icmp_le {x y : Int32} {off : Int} (tgt : Nat) (hd : decode J.2.1 pc = .ok (.if_icmp .le off, 3)) (ht : (pc : Int) + off = (tgt : Int)) (kt : x ≤ y → mm_Go J D d kc ks tgt L st S M Z) (kf : ¬ x ≤ y → mm_Go J D d kc ks (pc + 3) L st S M Z) : mm_Go J D d kc ks pc L (.inl y :: .inl x :: st) S M Z := by
  intro σ A p e R s m args below meth c H locs cells slots Q ls hAt hF hc hs hW hl
  exact lv_icmp_le hAt.1 hAt.2.1 hd ht (fun h => kt h σ A p e R s m args below meth c H locs cells slots Q ls hAt hF hc hs hW hl) (fun h => kf h σ A p e R s m args below meth c H locs cells slots Q ls hAt hF hc hs hW hl)
end RULEB
