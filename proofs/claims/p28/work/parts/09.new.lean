def mm_okF (n : Nat) : Option (Option Nat) → Bool
  | some (some a) => Nat.blt a n
  | _ => true
def mm_okC (n : Nat) : mm_C → Bool
  | .inl _ => true
  | .inr (_, fs) => fs.all (mm_okF n)
def mm_ext (σ : Nat → Nat) (n q : Nat) : Nat → Nat := fun a => if a = n then q else σ a
def mm_Z (M : mm_M) (n : Nat) : mm_M := fun a => if a = n then fun _ => 0 else M a
theorem mm_E_eq {n : Nat} {c : mm_C} (h : mm_okC n c = true) {σ σ' : Nat → Nat} (hs : ∀ a, a < n → σ' a = σ a) (cA : Nat → ClassId) (m : Nat → Int32) : mm_E σ' cA m c = mm_E σ cA m c := by
  cases c with
  | inl x => rfl
  | inr o =>
    obtain ⟨ci, fs⟩ := o
    simp only [mm_okC, List.all_eq_true] at h
    have e : fs.mapIdx (mm_F σ' m) = fs.mapIdx (mm_F σ m) := by
      apply List.ext_getElem?
      intro j
      simp only [List.getElem?_mapIdx]
      cases hj : fs[j]? with
      | none => rfl
      | some o =>
        have ho := h o (List.mem_of_getElem? hj)
        cases o with
        | none => rfl
        | some o => cases o with
          | none => rfl
          | some a =>
            simp only [mm_okF, Nat.blt_eq] at ho
            simp only [Option.map_some, mm_F, hs a ho]
    simp only [mm_E, e]
theorem mm_Ws_push {σ : Nat → Nat} {cA : Nat → ClassId} {S : List mm_C} {M : mm_M} (hS : S.all (mm_okC S.length) = true) (q : Nat) {c : mm_C} (hc : mm_okC S.length c = true) : mm_Ws σ cA S M ++ [(q, mm_E σ cA (fun _ => 0) c)] = mm_Ws (mm_ext σ S.length q) cA (S ++ [c]) (mm_Z M S.length) := by
  have hs : ∀ a, a < S.length → mm_ext σ S.length q a = σ a := fun a h => if_neg (Nat.ne_of_lt h)
  simp only [List.all_eq_true] at hS
  apply List.ext_getElem?
  intro j
  have hlen : (mm_Ws σ cA S M).length = S.length := by simp [mm_Ws]
  rcases Nat.lt_or_ge j S.length with h | h
  · rw [List.getElem?_append_left (by rw [hlen]; exact h)]
    simp only [mm_Ws, List.getElem?_mapIdx]
    rw [List.getElem?_append_left h]
    cases hj : S[j]? with
    | none => rfl
    | some x =>
      have hx := hS x (List.mem_of_getElem? hj)
      simp only [Option.map_some, hs j h, mm_E_eq hx hs]
      rw [show mm_Z M S.length j = M j from if_neg (Nat.ne_of_lt h)]
  · rw [List.getElem?_append_right (by rw [hlen]; exact h), hlen]
    simp only [mm_Ws, List.getElem?_mapIdx]
    rw [List.getElem?_append_right h]
    rcases Nat.eq_zero_or_pos (j - S.length) with h0 | h0
    · have hj : j = S.length := by omega
      subst hj
      simp only [Nat.sub_self, List.getElem?_cons_zero, Option.map_some]
      rw [show mm_Z M S.length S.length = (fun _ => 0) from if_pos rfl, show mm_ext σ S.length q S.length = q from if_pos rfl, mm_E_eq hc hs]
    · rw [List.getElem?_eq_none (by simp; omega), List.getElem?_eq_none (by simp; omega)]
      rfl
def mm_okS (S : List mm_C) (L : List (Option mm_V)) (st : List mm_V) : Bool := S.all (mm_okC S.length) && mm_ok S.length L st && Nat.blt S.length 4000
section RULEN
variable {J : mm_J} {D : mm_D} {d kc ks pc : Nat} {L : List (Option mm_V)} {st : List mm_V} {S : List mm_C} {M : mm_M} {Z : Option Int32 → List mm_C → mm_M → Prop}
theorem mm_grown {σ : Nat → Nat} {q : Nat} (hok : mm_okS S L st = true) {ls : Array Slot} (hl : lv_has ls J.2.2.1 (mm_Ls σ L)) (hn : D.2.2.2.2.2 ≤ S.length) (hσ : ∀ a, a < D.2.2.2.2.2 ∨ a = 4000 → σ a = D.2.2.2.2.1 a) : lv_has ls J.2.2.1 (mm_Ls (mm_ext σ S.length q) L) ∧ st.map (mm_R (mm_ext σ S.length q)) = st.map (mm_R σ) ∧ (∀ a, a < D.2.2.2.2.2 ∨ a = 4000 → mm_ext σ S.length q a = D.2.2.2.2.1 a) := by
  simp only [mm_okS, Bool.and_eq_true, Nat.blt_eq] at hok
  have hs : ∀ a, a < S.length ∨ a = 4000 → mm_ext σ S.length q a = σ a := by
    intro a ha
    refine if_neg ?_
    rcases ha with h | h
    · exact Nat.ne_of_lt h
    · omega
  obtain ⟨e1, e2⟩ := mm_ok_eq hok.1.2 hs
  refine ⟨?_, e2, fun a ha => (hs a (ha.imp (fun h => Nat.lt_of_lt_of_le h hn) id)).trans (hσ a ha)⟩
  refine mm_has_mono hl ?_
  rintro ⟨i, w⟩ hq
  obtain ⟨x, hx, rfl⟩ := mm_Ls_mem.mp hq
  have e3 : (L.map (Option.map (mm_R (mm_ext σ S.length q))))[i]? = (L.map (Option.map (mm_R σ)))[i]? := by rw [e1]
  simp only [List.getElem?_map, hx, Option.map_some] at e3
  exact mm_Ls_mem.mpr ⟨x, hx, by simpa using e3⟩
def mm_def : Option (Option Nat) → Value
  | none => .int 0
  | some _ => .null
def mm_isNew : Option (Option Nat) → Bool
  | some (some _) => false
  | _ => true
theorem mm_new (idx ci : Nat) {C : String} {T : u_T} {N : Nat} (ty : Nat → FieldType) {fs : List (Option (Option Nat))} (hC : vwCl[ci]? = some (C, T, N)) (hin : ∀ w ∈ u_ws C T N, w ∈ mm_T) (hty : ∀ k, k < N → parseFieldDescriptor (T k).2.2.1 = some (ty k)) (hlk : Cond.classLink J.1.cls idx C ∈ mm_T) (hinst : Cond.instantiable C N ∈ mm_T) (hini : Cond.initialized C ∈ mm_T) (hd : decode J.2.1 pc = .ok (.new idx, 3)) (hnew : fs.all mm_isNew = true) (hdef : ∀ j, j < N → defaultValue (ty j) = vp_V (fs.map mm_def) j) (hok : mm_okS S L st = true)
    (kk : mm_Go J D d kc ks (pc + 3) L (.inr S.length :: st) (S ++ [.inr (ci, fs)]) (mm_Z M S.length) Z) : mm_Go J D d (kc + 1) (ks + N) pc L st S M Z := by
  intro σ A p e R s m args below meth c H locs cells slots Q ls hAt hF hc hs hW hl
  have K := fun q H1 hW1 hl1 => kk (mm_ext σ S.length q) A p e R s m args below meth c H1 locs (cells + 1) (slots + N) Q ls hAt hF (by omega) (by omega) hW1 hl1
  obtain ⟨hx, hb, -, -, hown, hts, -, -, hK, hA, -⟩ := hAt
  obtain ⟨hσ, hn0, hP, hD, hSS⟩ := hW
  have efs : fs.mapIdx (mm_F σ (fun _ => 0)) = fs.map mm_def := by
    apply List.ext_getElem?
    intro j
    simp only [List.getElem?_mapIdx, List.getElem?_map]
    cases hj : fs[j]? with
    | none => rfl
    | some o =>
      have ho := List.all_eq_true.mp hnew o (List.mem_of_getElem? hj)
      cases o with
      | none => rfl
      | some o => cases o with
        | none => rfl
        | some a => cases ho
  have hokF : mm_okC S.length (.inr (ci, fs)) = true := by
    simp only [mm_okC, List.all_eq_true]
    intro o ho
    have := List.all_eq_true.mp hnew o ho
    cases o with
    | none => rfl
    | some o => cases o with
      | none => rfl
      | some a => cases this
  have hokS : S.all (mm_okC S.length) = true := by
    simp only [mm_okS, Bool.and_eq_true] at hok
    exact hok.1.1
  refine va_new (fs := fs.map mm_def) hx hb hts hin ty hty hown (hts _ hlk) (hts _ hinst) (hts _ hini) hK hP hD hSS hA hC hdef (by omega) (by omega) hd ?_
  intro q H1 g1 g2 g3
  obtain ⟨g4, g5, g6⟩ := mm_grown (D := D) (J := J) (q := q) hok hl hn0 hσ
  have ew := mm_Ws_push (σ := σ) (cA := D.2.2.1) (M := M) hokS q hokF
  simp only [mm_E, efs] at ew
  rw [ew] at g1 g2
  have KK := K q H1 ⟨g6, by simp; omega, g1, g2, g3⟩ g4
  simp only [List.map_cons, g5] at KK
  rw [show mm_R (mm_ext σ S.length q) (.inr S.length) = Value.ref q from by simp [mm_R, mm_ext]] at KK
  exact KK
theorem mm_arrOf {s : State} {G : va_G} {cA : Nat → ClassId} (hK : va_K G vwCl (mm_tys cA) s) {c : ClassId} : (s.vm.findClass ("[" ++ FieldType.int.toString) = some c → c = cA 0) ∧ (s.vm.findClass ("[" ++ FieldType.byte.toString) = some c → c = cA 1) := by
  refine ⟨fun h => ?_, fun h => ?_⟩
  · have h2 : s.vm.findClass ("[" ++ FieldType.int.toString) = some (cA 0) := (hK.2 0 _ rfl).2
    exact Option.some.inj (h.symm.trans h2)
  · have h2 : s.vm.findClass ("[" ++ FieldType.byte.toString) = some (cA 1) := (hK.2 1 _ rfl).2
    exact Option.some.inj (h.symm.trans h2)
theorem mm_newa {n : Int32} {N k : Nat} (hk : k = 0 ∨ k = 1) (hT : Cond.arrayClass (if k = 0 then .int else .byte) ∈ mm_T) (hd : decode J.2.1 pc = .ok (.newarray (if k = 0 then .int else .byte), 2)) (hn : ¬ n < 0) (hN : n.toNatClampNeg = N) (hb4 : N ≤ 134217728) (hok : mm_okS S L st = true)
    (kk : mm_Go J D d kc ks (pc + 2) L (.inr S.length :: st) (S ++ [.inl (k, N)]) (mm_Z M S.length) Z) : mm_Go J D d (kc + 1) (ks + N) pc L (.inl n :: st) S M Z := by
  intro σ A p e R s m args below meth c H locs cells slots Q ls hAt hF hc hs hW hl
  have K := fun q H1 hW1 hl1 => kk (mm_ext σ S.length q) A p e R s m args below meth c H1 locs (cells + 1) (slots + N) Q ls hAt hF (by omega) (by omega) hW1 hl1
  obtain ⟨hx, hb, -, -, hown, hts, -, -, hK, hA, -⟩ := hAt
  obtain ⟨hσ, hn0, hP, hD, hSS⟩ := hW
  have hokS : S.all (mm_okC S.length) = true := by
    simp only [mm_okS, Bool.and_eq_true] at hok
    exact hok.1.1
  have fin : ∀ (q : Nat) (H1 : Heap), va_P D.2.1 vwCl (mm_Ws σ D.2.2.1 S M ++ [(q, .inl (D.2.2.1 k, N, .inl (fun _ => 0)))]) H1 → va_D A (mm_Ws σ D.2.2.1 S M ++ [(q, .inl (D.2.2.1 k, N, .inl (fun _ => 0)))]) → va_S A s.heap H1 locs → W p D.1 e R s m args below meth c H1 locs (cells + 1) (slots + N) Q (F0 m (pc + 2) ls (.ref q :: st.map (mm_R σ))) := by
    intro q H1 g1 g2 g3
    obtain ⟨g4, g5, g6⟩ := mm_grown (D := D) (J := J) (q := q) hok hl hn0 hσ
    have ew := mm_Ws_push (σ := σ) (cA := D.2.2.1) (M := M) hokS q (c := .inl (k, N)) rfl
    simp only [mm_E] at ew
    rw [ew] at g1 g2
    have KK := K q H1 ⟨g6, by simp; omega, g1, g2, g3⟩ g4
    simp only [List.map_cons, g5] at KK
    rw [show mm_R (mm_ext σ S.length q) (.inr S.length) = Value.ref q from by simp [mm_R, mm_ext]] at KK
    exact KK
  rcases hk with rfl | rfl
  · refine va_newa (atype := .int) (ty := .int) (a0 := (N, .inl (fun _ => 0))) hx hb (hts _ hT) rfl hK hP hD hSS hA (fun cA => rfl) hn hN (by show N * 4 ≤ _; omega) (by omega) (by omega) hd ?_
    intro q cA H1 g0 g1 g2 g3
    have ec : cA = D.2.2.1 0 := (mm_arrOf hK).1 (g0.2 2 (cA, .int) (by simp [mm_tys])).2
    subst ec
    exact fin q H1 g1 g2 g3
  · refine va_newa (atype := .byte) (ty := .byte) (a0 := (N, .inl (fun _ => 0))) hx hb (hts _ hT) rfl hK hP hD hSS hA (fun cA => rfl) hn hN (by show N * 1 ≤ _; omega) (by omega) (by omega) hd ?_
    intro q cA H1 g0 g1 g2 g3
    have ec : cA = D.2.2.1 1 := (mm_arrOf hK).2 (g0.2 2 (cA, .byte) (by simp [mm_tys])).2
    subst ec
    exact fin q H1 g1 g2 g3
theorem mm_obj (idx : Nat) {a : Nat} (hlk : Cond.methodLink J.1.cls idx Lib.objectInit ∈ mm_T) (hin : Cond.instanceMethod Lib.objectInit ∈ mm_T) (hco : Cond.code Lib.objectInit ⟨#[0xb1]⟩ 1 none ∈ mm_T) (hd : decode J.2.1 pc = .ok (.invokespecial idx, 3)) (hst : st.length ≤ 8) (kk : mm_Go J D d kc ks (pc + 3) L st S M Z) : mm_Go J D d kc ks pc L (.inr a :: st) S M Z := by
  intro σ A p e R s m args below meth c H locs cells slots Q ls hAt hF hc hs hW hl
  have K := kk σ A p e R s m args below meth c H locs cells slots Q ls hAt hF hc hs hW hl
  obtain ⟨hx, hb, -, hml, hown, hts, -, hR, hK, hA, -⟩ := hAt
  refine W.objInit hx hb hown (hts _ hlk) (hts _ hin) (hts _ hco) rfl (hl.1.trans hml.symm) rfl hd (by omega) ?_ K
  have := lv_room (m := m) (pc := pc) (ls := ls) (rest := List.map (mm_R σ) (Sum.inr a :: st)) (st := st.map (mm_R σ)) (by rw [mm_cats]; exact hst)
  omega
end RULEN
