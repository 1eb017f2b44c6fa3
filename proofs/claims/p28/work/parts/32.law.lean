/-! THE CLAIM OUT OF ONE WALK OF THE LAW'S BODY. Your part is whole_start (and what it stands on); all else here is the same for every law, but numbers. -/
def R_law : String := "AskedValleyLaw"
def lw_P (b : Addr) (xs : List Int32) (args : Array Value) (s : State) : Prop := args = #[.ref b] ∧ s.IntsAt b xs ∧ xs.length ≤ 384 ∧ (Jvm.Cond.and given_1 narrow_1).before args s = true
def lw_Q (_ : Array Value) (s : State) (o : Outcome) (t : State) : Prop := o = .returned (some (.int 1)) ∧ Framed s o t [] 600000 7302250
def lw_Z (below : List Frame) (a : Array Value) (s : State) : State → Prop := fun t => ∃ o, t.status = .running ∧ Ended t below o ∧ lw_Q a s o t
/-- the law's own end, with 1 on the stack, nothing written that was there before, its room as the claim has it -/
theorem lw_ret {p : Program} {l : Launch} {e : Env} {s : State} {m : MethodId} {below : List Frame} {meth : Method} {c : Code} {b : Nat} (hx : p.tables.exec = Jvm.exec) (hb : c.code = code) (hr : meth.sig.returnType = ret) (hlocks : meth.locks = false) {pc : Nat} {H : Heap} {ls : Array Slot} (hdg : decode code pc = .ok (.ireturn, 1)) : W p l e room_1 s m #[Value.ref b] below meth c H [] 600000 7302250 (lw_Z below #[Value.ref b] s) (F0 m pc ls [.int 1]) := by
  intro T hT X
  obtain ⟨fs, hret, hrun, hended, hW, hframe⟩ := X.leave (v := some (.int 1)) (hlocks := hlocks) (fun h => by rw [hr] at h; cases h)
  have hmeth' : T.vm.method? m = some meth := X.method'
  refine ⟨T.setFrames fs, ?_, .returned (some (.int 1)), hrun, hended, rfl, ⟨_, rfl⟩, hW, hframe⟩
  jvm_step X.here [X.here.top, hx, hb, hdg, hmeth', hr, ret, narrow_b1]
  (try refine ⟨rfl, ?_⟩); (try refine ⟨rfl, ?_⟩)
  first | (intro acts; rw [hret _ acts rfl rfl rfl]) | rw [hret _ _ rfl rfl rfl]
  exact Steps.refl _
/-- what holds at the law's entry: the machine, the code, the tables' words (any of lw_tbl by 'hts w (by decide +kernel)'), the script of L ints xs at the cell b, what the Statement gives of the start (any of its parts by flat_of_before) -/
def lw_At (p : Program) (s : State) (m : MethodId) (meth : Method) (c : Code) (b L : Nat) (xs : Nat → Int32) : Prop :=
  p.tables.exec = Jvm.exec ∧ c.code = code ∧ meth.sig.returnType = ret ∧ c.maxLocals = 4 ∧ s.vm.findClass R_law = some m.cls ∧ (∀ w ∈ lw_tbl, w.before #[Value.ref b] s = true) ∧ va_X b L xs s s.heap ∧ b < s.heap.size ∧ meth.locks = false ∧ (Jvm.Cond.and given_1 narrow_1).before #[Value.ref b] s = true
-- the law's own walk: two worlds side by side
theorem ll_P {D : va_G} {cl : List vw_C} {a b : va_W} {H : Heap} : va_P D cl (a ++ b) H ↔ va_P D cl a H ∧ va_P D cl b H := by
  constructor
  · intro h
    refine ⟨fun k q hk => h k q ?_, fun k q hk => h (a.length + k) q ?_⟩
    · rw [List.getElem?_append_left (List.getElem?_eq_some_iff.mp hk).1]
      exact hk
    · rw [List.getElem?_append_right (Nat.le_add_right _ _), Nat.add_sub_cancel_left]
      exact hk
  · rintro ⟨h1, h2⟩
    exact h1.app h2
/-- apart: within each, and one from the other -/
theorem ll_D {A : Nat → Prop} {a b : va_W} : va_D A (a ++ b) ↔ va_D A a ∧ va_D A b ∧ ∀ (i j : Nat) (p q : Nat × va_E), a[i]? = some p → b[j]? = some q → p.1 ≠ q.1 := by
  constructor
  · intro h
    have l1 : ∀ (k : Nat) (q : Nat × va_E), a[k]? = some q → (a ++ b)[k]? = some q := fun k q hk => by
      rw [List.getElem?_append_left (List.getElem?_eq_some_iff.mp hk).1]
      exact hk
    have l2 : ∀ (k : Nat) (q : Nat × va_E), b[k]? = some q → (a ++ b)[a.length + k]? = some q := fun k q hk => by
      rw [List.getElem?_append_right (Nat.le_add_right _ _), Nat.add_sub_cancel_left]
      exact hk
    refine ⟨⟨fun i j p q hi hj e => h.1 i j p q (l1 i p hi) (l1 j q hj) e, fun k q hk => h.2 k q (l1 k q hk)⟩, ⟨fun i j p q hi hj e => ?_, fun k q hk => h.2 _ q (l2 k q hk)⟩, fun i j p q hi hj e => ?_⟩
    · have := h.1 _ _ p q (l2 i p hi) (l2 j q hj) e
      omega
    · have := h.1 _ _ p q (l1 i p hi) (l2 j q hj) e
      have := (List.getElem?_eq_some_iff.mp hi).1
      omega
  · rintro ⟨h1, h2, h3⟩
    refine ⟨fun i j p q hi hj e => ?_, fun k q hk => ?_⟩
    · rw [List.getElem?_append] at hi hj
      by_cases c1 : i < a.length <;> by_cases c2 : j < a.length
      · rw [if_pos c1] at hi
        rw [if_pos c2] at hj
        exact h1.1 i j p q hi hj e
      · rw [if_pos c1] at hi
        rw [if_neg c2] at hj
        exact absurd e (h3 i _ p q hi hj)
      · rw [if_neg c1] at hi
        rw [if_pos c2] at hj
        exact absurd e.symm (h3 j _ q p hj hi)
      · rw [if_neg c1] at hi
        rw [if_neg c2] at hj
        have := h2.1 _ _ p q hi hj e
        omega
    · rw [List.getElem?_append] at hk
      by_cases c1 : k < a.length
      · rw [if_pos c1] at hk
        exact h1.2 k q hk
      · rw [if_neg c1] at hk
        exact h2.2 _ q hk
theorem ll_Dc {A : Nat → Prop} {a b : va_W} (h : va_D A (a ++ b)) : va_D A (b ++ a) := by
  rw [ll_D] at h ⊢
  exact ⟨h.2.1, h.1, fun i j p q hi hj e => h.2.2 j i q p hj hi e.symm⟩
/-- the frame: one world goes on, the other stays -/
theorem ll_join {A : Nat → Prop} {D : va_G} {cl : List vw_C} {a a' b : va_W} {H H1 : Heap} (hP : va_P D cl (a ++ b) H) (hD : va_D A (a ++ b)) (hk : ∀ q : Nat, q < H.size → ¬ va_A a H.size q → H1[q]? = H[q]?) (hP1 : va_P D cl a' H1) (hD1 : va_D (va_A a H.size) a') (hsub : ∀ q, va_A a H.size q → A q) : va_P D cl (a' ++ b) H1 ∧ va_D A (a' ++ b) := by
  rw [ll_P] at hP
  rw [ll_D] at hD
  have hb : ∀ (k : Nat) (q : Nat × va_E), b[k]? = some q → q.1 < H.size ∧ ¬ va_A a H.size q.1 := by
    intro k q hq
    have hlt := (hP.2 k q hq).lt
    refine ⟨hlt, ?_⟩
    rintro (⟨i, e, hi⟩ | h)
    · exact hD.2.2 i k (q.1, e) q hi hq rfl
    · omega
  refine ⟨ll_P.mpr ⟨hP1, hP.2.kept (fun k q hq => hk q.1 (hb k q hq).1 (hb k q hq).2)⟩, ll_D.mpr ⟨⟨hD1.1, fun k q hq => hsub _ (hD1.2 k q hq)⟩, hD.2.1, fun i j p q hi hj e => ?_⟩⟩
  exact (hb j q hj).2 (by rw [← e]; exact hD1.2 i p hi)
def ll_Wd (G : va_G) (cA : Nat → ClassId) (b : Nat) (s : State) (ρ σ1 σ2 : Nat → Nat) (S1 : List mm_C) (M1 : mm_M) (S2 : List mm_C) (M2 : mm_M) (H : Heap) (locs : List Loc) : Prop :=
  (ρ 4000 = b ∧ (S1 ≠ [] → ρ 0 = σ1 0) ∧ (S2 ≠ [] → ρ 1 = σ2 0)) ∧ va_P G vwCl (mm_Ws σ1 cA S1 M1 ++ mm_Ws σ2 cA S2 M2) H ∧ va_D (fun q => s.heap.size ≤ q) (mm_Ws σ1 cA S1 M1 ++ mm_Ws σ2 cA S2 M2) ∧ va_S (fun q => s.heap.size ≤ q) s.heap H locs
/-- from this place of the law, with these locals and stack, the class's cells S1, M1 and the reference's S2, M2, it comes to its end with true -/
def ll_Go (xL : Nat) (xs : Nat → Int32) (kc ks pc : Nat) (L : List (Option mm_V)) (st : List mm_V) (S1 : List mm_C) (M1 : mm_M) (S2 : List mm_C) (M2 : mm_M) : Prop :=
  ∀ (l : Launch) (G : va_G) (cA : Nat → ClassId) (b : Nat) (ρ σ1 σ2 : Nat → Nat) (p : Program) (e : Env) (s : State) (m : MethodId) (below : List Frame) (meth : Method) (c : Code) (H : Heap) (locs : List Loc) (cells slots : Nat) (ls : Array Slot),
    lw_At p s m meth c b xL xs → va_K G vwCl (mm_tys cA) s → cells + kc ≤ 600000 → slots + ks ≤ 7302250 → ll_Wd G cA b s ρ σ1 σ2 S1 M1 S2 M2 H locs → lv_has ls 4 (mm_Ls ρ L) →
    W p l e room_1 s m #[Value.ref b] below meth c H locs cells slots (lw_Z below #[Value.ref b] s) (F0 m pc ls (st.map (mm_R ρ)))
section LLR
variable {xL : Nat} {xs : Nat → Int32} {kc ks pc q : Nat} {L L' : List (Option mm_V)} {st : List mm_V} {S1 S2 : List mm_C} {M1 M2 : mm_M}
theorem l_iconst {n : Int} {v : Int32} (hd : decode code pc = .ok (.iconst n, 1)) (hv : Int32.ofInt n = v) (hq : pc + 1 = q) (k : ll_Go xL xs kc ks q L (.inl v :: st) S1 M1 S2 M2) : ll_Go xL xs kc ks pc L st S1 M1 S2 M2 := by
  subst hq hv
  intro l G cA b ρ σ1 σ2 p e s m below meth c H locs cells slots ls hAt hK hc hs hW hl
  exact lv_iconst hAt.1 hAt.2.1 hd rfl (k l G cA b ρ σ1 σ2 p e s m below meth c H locs cells slots ls hAt hK hc hs hW hl)
theorem l_bipush {n : Int} {v : Int32} (hd : decode code pc = .ok (.bipush n, 2)) (hv : (Int8.ofInt n).toInt32 = v) (hq : pc + 2 = q) (k : ll_Go xL xs kc ks q L (.inl v :: st) S1 M1 S2 M2) : ll_Go xL xs kc ks pc L st S1 M1 S2 M2 := by
  subst hq hv
  intro l G cA b ρ σ1 σ2 p e s m below meth c H locs cells slots ls hAt hK hc hs hW hl
  exact lv_bipush hAt.1 hAt.2.1 hd rfl (k l G cA b ρ σ1 σ2 p e s m below meth c H locs cells slots ls hAt hK hc hs hW hl)
theorem l_iload_n {i : Fin 4} {x : Int32} (hd : decode code pc = .ok (.iload_n i, 1)) (hi : L[(i : Nat)]? = some (some (.inl x))) (hq : pc + 1 = q) (k : ll_Go xL xs kc ks q L (.inl x :: st) S1 M1 S2 M2) : ll_Go xL xs kc ks pc L st S1 M1 S2 M2 := by
  subst hq
  intro l G cA b ρ σ1 σ2 p e s m below meth c H locs cells slots ls hAt hK hc hs hW hl
  exact lv_iload_n (x := x) hAt.1 hAt.2.1 hd rfl (mm_has_at hl hi) (k l G cA b ρ σ1 σ2 p e s m below meth c H locs cells slots ls hAt hK hc hs hW hl)
theorem l_aload_n {i : Fin 4} {x : Nat} (hd : decode code pc = .ok (.aload_n i, 1)) (hi : L[(i : Nat)]? = some (some (.inr x))) (hq : pc + 1 = q) (k : ll_Go xL xs kc ks q L (.inr x :: st) S1 M1 S2 M2) : ll_Go xL xs kc ks pc L st S1 M1 S2 M2 := by
  subst hq
  intro l G cA b ρ σ1 σ2 p e s m below meth c H locs cells slots ls hAt hK hc hs hW hl
  exact lv_aload_n (x := ρ x) hAt.1 hAt.2.1 hd rfl (mm_has_at hl hi) (k l G cA b ρ σ1 σ2 p e s m below meth c H locs cells slots ls hAt hK hc hs hW hl)
theorem l_istore_n {i : Fin 4} {x : Int32} (hd : decode code pc = .ok (.istore_n i, 1)) (hL : L.set (i : Nat) (some (.inl x)) = L') (hq : pc + 1 = q) (k : ll_Go xL xs kc ks q L' st S1 M1 S2 M2) : ll_Go xL xs kc ks pc L (.inl x :: st) S1 M1 S2 M2 := by
  subst hq hL
  intro l G cA b ρ σ1 σ2 p e s m below meth c H locs cells slots ls hAt hK hc hs hW hl
  exact lv_istore_n hAt.1 hAt.2.1 hd rfl hl i.isLt rfl (fun ls' hl' => k l G cA b ρ σ1 σ2 p e s m below meth c H locs cells slots ls' hAt hK hc hs hW (mm_has_set rfl hl'))
theorem l_astore_n {i : Fin 4} {x : Nat} (hd : decode code pc = .ok (.astore_n i, 1)) (hL : L.set (i : Nat) (some (.inr x)) = L') (hq : pc + 1 = q) (k : ll_Go xL xs kc ks q L' st S1 M1 S2 M2) : ll_Go xL xs kc ks pc L (.inr x :: st) S1 M1 S2 M2 := by
  subst hq hL
  intro l G cA b ρ σ1 σ2 p e s m below meth c H locs cells slots ls hAt hK hc hs hW hl
  exact lv_astore_n hAt.1 hAt.2.1 hd rfl hl i.isLt rfl (fun ls' hl' => k l G cA b ρ σ1 σ2 p e s m below meth c H locs cells slots ls' hAt hK hc hs hW (mm_has_set rfl hl'))
theorem l_iinc {i : Nat} {n : Int} {v x : Int32} (hd : decode code pc = .ok (.iinc i n, 3)) (hv : Int32.ofInt n = v) (hi : i < 4) (hx : L[i]? = some (some (.inl x))) (hL : L.set i (some (.inl (x + v))) = L') (hq : pc + 3 = q) (k : ll_Go xL xs kc ks q L' st S1 M1 S2 M2) : ll_Go xL xs kc ks pc L st S1 M1 S2 M2 := by
  subst hq hL hv
  intro l G cA b ρ σ1 σ2 p e s m below meth c H locs cells slots ls hAt hK hc hs hW hl
  obtain ⟨j, hj⟩ := List.getElem?_of_mem (mm_Ls_mem.mpr ⟨.inl x, hx, rfl⟩ : (i, mm_R ρ (.inl x)) ∈ mm_Ls ρ L)
  exact lv_iinc (v := x + Int32.ofInt n) hAt.1 hAt.2.1 hd hl hj rfl hi rfl (fun ls' hl' => k l G cA b ρ σ1 σ2 p e s m below meth c H locs cells slots ls' hAt hK hc hs hW (mm_has_set rfl hl'))
theorem l_iadd {x y : Int32} (hd : decode code pc = .ok (.iadd, 1)) (hq : pc + 1 = q) (k : ll_Go xL xs kc ks q L (.inl (x + y) :: st) S1 M1 S2 M2) : ll_Go xL xs kc ks pc L (.inl y :: .inl x :: st) S1 M1 S2 M2 := by
  subst hq
  intro l G cA b ρ σ1 σ2 p e s m below meth c H locs cells slots ls hAt hK hc hs hW hl
  exact lv_iadd hAt.1 hAt.2.1 hd (k l G cA b ρ σ1 σ2 p e s m below meth c H locs cells slots ls hAt hK hc hs hW hl)
theorem l_isub {x y : Int32} (hd : decode code pc = .ok (.isub, 1)) (hq : pc + 1 = q) (k : ll_Go xL xs kc ks q L (.inl (x - y) :: st) S1 M1 S2 M2) : ll_Go xL xs kc ks pc L (.inl y :: .inl x :: st) S1 M1 S2 M2 := by
  subst hq
  intro l G cA b ρ σ1 σ2 p e s m below meth c H locs cells slots ls hAt hK hc hs hW hl
  exact lv_isub hAt.1 hAt.2.1 hd (k l G cA b ρ σ1 σ2 p e s m below meth c H locs cells slots ls hAt hK hc hs hW hl)
theorem l_iand {x y : Int32} (hd : decode code pc = .ok (.iand, 1)) (hq : pc + 1 = q) (k : ll_Go xL xs kc ks q L (.inl (x &&& y) :: st) S1 M1 S2 M2) : ll_Go xL xs kc ks pc L (.inl y :: .inl x :: st) S1 M1 S2 M2 := by
  subst hq
  intro l G cA b ρ σ1 σ2 p e s m below meth c H locs cells slots ls hAt hK hc hs hW hl
  exact lv_iand hAt.1 hAt.2.1 hd (k l G cA b ρ σ1 σ2 p e s m below meth c H locs cells slots ls hAt hK hc hs hW hl)
theorem l_dup {v : mm_V} (hd : decode code pc = .ok (.dup, 1)) (hq : pc + 1 = q) (k : ll_Go xL xs kc ks q L (v :: v :: st) S1 M1 S2 M2) : ll_Go xL xs kc ks pc L (v :: st) S1 M1 S2 M2 := by
  subst hq
  intro l G cA b ρ σ1 σ2 p e s m below meth c H locs cells slots ls hAt hK hc hs hW hl
  exact lv_dup hAt.1 hAt.2.1 hd (mm_R_cat ρ v) (k l G cA b ρ σ1 σ2 p e s m below meth c H locs cells slots ls hAt hK hc hs hW hl)
theorem l_goto {off : Int} (t : Nat) (hd : decode code pc = .ok (.goto off, 3)) (ht : (pc : Int) + off = (t : Int)) (k : ll_Go xL xs kc ks t L st S1 M1 S2 M2) : ll_Go xL xs kc ks pc L st S1 M1 S2 M2 := by
  intro l G cA b ρ σ1 σ2 p e s m below meth c H locs cells slots ls hAt hK hc hs hW hl
  exact lv_goto hAt.1 hAt.2.1 hd ht (k l G cA b ρ σ1 σ2 p e s m below meth c H locs cells slots ls hAt hK hc hs hW hl)
theorem l_icmp_gt {x y : Int32} {off : Int} (t : Nat) (hd : decode code pc = .ok (.if_icmp .gt off, 3)) (ht : (pc : Int) + off = (t : Int)) (hq : pc + 3 = q) (kt : y < x → ll_Go xL xs kc ks t L st S1 M1 S2 M2) (kf : ¬ y < x → ll_Go xL xs kc ks q L st S1 M1 S2 M2) : ll_Go xL xs kc ks pc L (.inl y :: .inl x :: st) S1 M1 S2 M2 := by
  subst hq
  intro l G cA b ρ σ1 σ2 p e s m below meth c H locs cells slots ls hAt hK hc hs hW hl
  exact lv_icmp_gt hAt.1 hAt.2.1 hd ht (fun h => kt h l G cA b ρ σ1 σ2 p e s m below meth c H locs cells slots ls hAt hK hc hs hW hl) (fun h => kf h l G cA b ρ σ1 σ2 p e s m below meth c H locs cells slots ls hAt hK hc hs hW hl)
theorem l_icmp_eq {x y : Int32} {off : Int} (t : Nat) (hd : decode code pc = .ok (.if_icmp .eq off, 3)) (ht : (pc : Int) + off = (t : Int)) (he : x = y) (kt : ll_Go xL xs kc ks t L st S1 M1 S2 M2) : ll_Go xL xs kc ks pc L (.inl y :: .inl x :: st) S1 M1 S2 M2 := by
  intro l G cA b ρ σ1 σ2 p e s m below meth c H locs cells slots ls hAt hK hc hs hW hl
  exact lv_icmp_eq hAt.1 hAt.2.1 hd ht (fun h => kt l G cA b ρ σ1 σ2 p e s m below meth c H locs cells slots ls hAt hK hc hs hW hl) (fun h => absurd he h)
theorem l_sld {i v : Int32} (hd : decode code pc = .ok (.iaload, 1)) (hin : vp_in i xL) (hv : xs i.toNatClampNeg = v) (hq : pc + 1 = q) (kk : ll_Go xL xs kc ks q L (.inl v :: st) S1 M1 S2 M2) : ll_Go xL xs kc ks pc L (.inl i :: .inr 4000 :: st) S1 M1 S2 M2 := by
  subst hq hv
  intro l G cA b ρ σ1 σ2 p e s m below meth c H locs cells slots ls hAt hK hc hs hW hl
  have K := kk l G cA b ρ σ1 σ2 p e s m below meth c H locs cells slots ls hAt hK hc hs hW hl
  obtain ⟨hx, hb, hr, hml, hown, hts, hX, hbl, hlocks, hgv⟩ := hAt
  obtain ⟨⟨h4, -, -⟩, hP, hD, hS⟩ := hW
  show W _ _ _ _ _ _ _ _ _ _ _ _ _ _ _ (F0 m pc ls (.int i :: .ref (ρ 4000) :: st.map (mm_R ρ)))
  rw [h4]
  exact va_sld hx hb hX hbl (Nat.not_le.mpr hbl) hS hin hd K
theorem l_slen {v : Int32} (hd : decode code pc = .ok (.arraylength, 1)) (hv : Int32.ofNat xL = v) (hq : pc + 1 = q) (kk : ll_Go xL xs kc ks q L (.inl v :: st) S1 M1 S2 M2) : ll_Go xL xs kc ks pc L (.inr 4000 :: st) S1 M1 S2 M2 := by
  subst hq hv
  intro l G cA b ρ σ1 σ2 p e s m below meth c H locs cells slots ls hAt hK hc hs hW hl
  have K := kk l G cA b ρ σ1 σ2 p e s m below meth c H locs cells slots ls hAt hK hc hs hW hl
  obtain ⟨hx, hb, hr, hml, hown, hts, hX, hbl, hlocks, hgv⟩ := hAt
  obtain ⟨⟨h4, -, -⟩, hP, hD, hS⟩ := hW
  show W _ _ _ _ _ _ _ _ _ _ _ _ _ _ _ (F0 m pc ls (.ref (ρ 4000) :: st.map (mm_R ρ)))
  rw [h4]
  exact va_slen hx hb hX hbl (Nat.not_le.mpr hbl) hS hd K
theorem l_tableIn {dflt lo hi : Int} {offs : Array Int} {len : Nat} {x : Int32} {off : Int} (tgt : Nat) (hd : decode code pc = .ok (.tableswitch dflt lo hi offs, len)) (h1 : ¬ x.toInt < lo) (h2 : ¬ hi < x.toInt) (ho : offs[(x.toInt - lo).toNat]? = some off) (ht : (pc : Int) + off = (tgt : Int)) (kk : ll_Go xL xs kc ks tgt L st S1 M1 S2 M2) : ll_Go xL xs kc ks pc L (.inl x :: st) S1 M1 S2 M2 := by
  intro l G cA b ρ σ1 σ2 p e s m below meth c H locs cells slots ls hAt hK hc hs hW hl
  exact lv_tableIn hAt.1 hAt.2.1 hd h1 h2 ho ht (kk l G cA b ρ σ1 σ2 p e s m below meth c H locs cells slots ls hAt hK hc hs hW hl)
theorem l_tableOut {dflt lo hi : Int} {offs : Array Int} {len : Nat} {x : Int32} (tgt : Nat) (hd : decode code pc = .ok (.tableswitch dflt lo hi offs, len)) (h : x.toInt < lo ∨ hi < x.toInt) (ht : (pc : Int) + dflt = (tgt : Int)) (kk : ll_Go xL xs kc ks tgt L st S1 M1 S2 M2) : ll_Go xL xs kc ks pc L (.inl x :: st) S1 M1 S2 M2 := by
  intro l G cA b ρ σ1 σ2 p e s m below meth c H locs cells slots ls hAt hK hc hs hW hl
  exact lv_tableOut hAt.1 hAt.2.1 hd h ht (kk l G cA b ρ σ1 σ2 p e s m below meth c H locs cells slots ls hAt hK hc hs hW hl)
theorem l_ret (hd : decode code pc = .ok (.ireturn, 1)) : ll_Go xL xs kc ks pc L [.inl 1] S1 M1 S2 M2 := by
  intro l G cA b ρ σ1 σ2 p e s m below meth c H locs cells slots ls hAt hK hc hs hW hl
  obtain ⟨hx, hb, hr, hml, hown, hts, hX, hbl, hlocks, hgv⟩ := hAt
  obtain ⟨-, hP, hD, hS⟩ := hW
  refine va_forget (fun q hq => hS.2.2 q hq) ?_
  refine W.widen (k := 600000) (n := 7302250) (by omega) (by omega) ?_
  exact lw_ret hx hb hr hlocks hd
end LLR
