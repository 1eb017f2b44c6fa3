def mm_renF (τ : Nat → Nat) : Option (Option Nat) → Option (Option Nat)
  | some (some a) => some (some (τ a))
  | o => o
/-- a cell whose places are named anew -/
def mm_ren (τ : Nat → Nat) : mm_C → mm_C
  | .inl x => .inl x
  | .inr (ci, fs) => .inr (ci, fs.map (mm_renF τ))
theorem mm_ren_E (σ τ : Nat → Nat) (cA : Nat → ClassId) (m : Nat → Int32) (c : mm_C) : mm_E σ cA m (mm_ren τ c) = mm_E (fun a => σ (τ a)) cA m c := by
  cases c with
  | inl x => rfl
  | inr o =>
    obtain ⟨ci, fs⟩ := o
    have e : (fs.map (mm_renF τ)).mapIdx (mm_F σ m) = fs.mapIdx (mm_F (fun a => σ (τ a)) m) := by
      apply List.ext_getElem?
      intro j
      simp only [List.getElem?_mapIdx, List.getElem?_map]
      cases fs[j]? with
      | none => rfl
      | some o => cases o with
        | none => rfl
        | some o => cases o <;> rfl
    simp only [mm_ren, mm_E, e]
/-- S' is S with its cells at other places -/
def mm_Perm (τ : Nat → Nat) (S S' : List mm_C) : Prop := τ 0 = 0 ∧ S ≠ [] ∧ ∀ a, a < S.length → τ (τ a) = a ∧ S'[τ a]? = S[a]?.map (mm_ren τ)
section LLS
variable {xL : Nat} {xs : Nat → Int32} {kc ks kc' ks' pc q : Nat} {L L' : List (Option mm_V)} {st : List mm_V} {S1 S1' S2 : List mm_C} {M1 M2 : mm_M}
theorem l_swap (τ : Nat → Nat) (hτ : mm_Perm τ S1 S1') (kk : ll_Go xL xs kc ks pc L st S1 (fun a => M1 (τ a)) S2 M2) : ll_Go xL xs kc ks pc L st S1' M1 S2 M2 := by
  intro l G cA b ρ σ1 σ2 p e s m below meth c H locs cells slots ls hAt hK hc hs hW hl
  obtain ⟨⟨h4, h0r, h1r⟩, hP, hD, hS⟩ := hW
  obtain ⟨t0, hne, hT⟩ := hτ
  have key : ∀ (k : Nat) (x : Nat × va_E), (mm_Ws (fun a => σ1 (τ a)) cA S1 (fun a => M1 (τ a)))[k]? = some x → k < S1.length ∧ (mm_Ws σ1 cA S1' M1)[τ k]? = some x := by
    intro k x hk
    obtain ⟨cc, h1, h2⟩ := mm_Ws_inv hk
    have hlt : k < S1.length := (List.getElem?_eq_some_iff.mp h1).1
    refine ⟨hlt, ?_⟩
    have h3 := (hT k hlt).2
    rw [h1] at h3
    rw [mm_Ws_get h3, h2, mm_ren_E]
  have hne' : S1' ≠ [] := by
    have hlt : 0 < S1.length := List.length_pos_iff.mpr hne
    have h3 := (hT 0 hlt).2
    rw [t0] at h3
    intro h
    rw [h] at h3
    cases hq : S1[0]? with
    | none => rw [List.getElem?_eq_none_iff] at hq; omega
    | some y => rw [hq] at h3; cases h3
  rw [ll_P] at hP
  rw [ll_D] at hD
  refine kk l G cA b ρ (fun a => σ1 (τ a)) σ2 p e s m below meth c H locs cells slots ls hAt hK hc hs ⟨⟨h4, fun _ => ?_, h1r⟩, ll_P.mpr ⟨fun k x hk => hP.1 _ x (key k x hk).2, hP.2⟩, ll_D.mpr ⟨⟨fun i j x y hi hj e => ?_, fun k x hk => hD.1.2 _ x (key k x hk).2⟩, hD.2.1, fun i j x y hi hj => hD.2.2 _ j x y (key i x hi).2 hj⟩, hS⟩ hl
  · show ρ 0 = σ1 (τ 0)
    rw [t0]
    exact h0r hne'
  · have e2 := hD.1.1 _ _ x y (key i x hi).2 (key j y hj).2 e
    have a1 := (hT i (key i x hi).1).1
    have a2 := (hT j (key j y hj).1).1
    rw [← a1, ← a2, e2]
theorem mm_newfs {σ : Nat → Nat} {fs : List (Option (Option Nat))} (hnew : fs.all mm_isNew = true) : fs.mapIdx (mm_F σ (fun _ => 0)) = fs.map mm_def := by
  apply List.ext_getElem?
  intro j
  simp only [List.getElem?_mapIdx, List.getElem?_map]
  cases hj : fs[j]? with
  | none => rfl
  | some o =>
    have ho := List.all_eq_true.mp hnew o (List.mem_of_getElem? hj)
    cases o with
    | none => rfl
    | some o => cases o with
      | none => rfl
      | some a => cases ho
theorem ll_rho {ρ ρ' : Nat → Nat} {n : Nat} {ls : Array Slot} (hok : mm_ok n L st = true) (hr : ∀ a, a < n ∨ a = 4000 → ρ' a = ρ a) (hl : lv_has ls 4 (mm_Ls ρ L)) : lv_has ls 4 (mm_Ls ρ' L) ∧ st.map (mm_R ρ') = st.map (mm_R ρ) := by
  obtain ⟨e1, e2⟩ := mm_ok_eq hok hr
  refine ⟨mm_has_mono hl ?_, e2⟩
  rintro ⟨i, w⟩ hq
  obtain ⟨x, hx, rfl⟩ := mm_Ls_mem.mp hq
  have e3 : (L.map (Option.map (mm_R ρ')))[i]? = (L.map (Option.map (mm_R ρ)))[i]? := by rw [e1]
  simp only [List.getElem?_map, hx, Option.map_some] at e3
  exact mm_Ls_mem.mpr ⟨x, hx, by simpa using e3⟩
theorem l_new1 {idx ci : Nat} {C : String} {T : u_T} {N : Nat} (ty : Nat → FieldType) {fs : List (Option (Option Nat))} (hC : vwCl[ci]? = some (C, T, N)) (hin : ∀ w ∈ u_ws C T N, w ∈ mm_T) (hty : ∀ k, k < N → parseFieldDescriptor (T k).2.2.1 = some (ty k)) (hlk : Cond.classLink RL idx C ∈ mm_T) (hinst : Cond.instantiable C N ∈ mm_T) (hini : Cond.initialized C ∈ mm_T) (hd : decode code pc = .ok (.new idx, 3)) (hnew : fs.all mm_isNew = true) (hdef : ∀ j, j < N → defaultValue (ty j) = vp_V (fs.map mm_def) j) (hok : mm_ok 0 L st = true) (hk : kc' + 1 = kc) (hks : ks' + N = ks) (hq : pc + 3 = q)
    (kk : ll_Go xL xs kc' ks' q L (.inr 0 :: st) [.inr (ci, fs)] (fun _ _ => 0) [] M2) : ll_Go xL xs kc ks pc L st [] M1 [] M2 := by
  subst hk hks hq
  intro l G cA b ρ σ1 σ2 p e s m below meth c H locs cells slots ls hAt hK hc hs hW hl
  obtain ⟨hx, hb, hr, hml, hown, hts0, hX, hbl, hlocks, hgv⟩ := id hAt
  obtain ⟨⟨h4, h0r, h1r⟩, hP, hD, hSS⟩ := hW
  obtain ⟨hts, hNs⟩ := ll_T hts0
  have hown : s.vm.findClass RL = some m.cls := hown
  refine va_new (fs := fs.map mm_def) hx hb hts hin ty hty hown (hts _ hlk) (hts _ hinst) (hts _ hini) hK hP hD hSS (fun _ h => h) hC hdef (by show cells + 1 ≤ 600000; omega) (by show slots + N ≤ 7302250; omega) hd ?_
  intro q H1 g1 g2 g3
  obtain ⟨hl2, hst2⟩ := ll_rho (ρ' := fun a => if a = 0 then q else ρ a) hok (fun a ha => by
    rcases ha with h | h
    · omega
    · subst h; rfl) hl
  have K := kk l G cA b (fun a => if a = 0 then q else ρ a) (fun _ => q) σ2 p e s m below meth c H1 locs (cells + 1) (slots + N) ls hAt hK (by omega) (by omega) ⟨⟨h4, fun _ => rfl, fun h => absurd rfl h⟩, ?_, ?_, g3⟩ hl2
  · rw [List.map_cons, hst2] at K
    exact K
  · show va_P G vwCl [(q, mm_E (fun _ => q) cA (fun _ => 0) (.inr (ci, fs)))] H1
    simp only [mm_E, mm_newfs hnew]
    exact g1
  · show va_D _ [(q, mm_E (fun _ => q) cA (fun _ => 0) (.inr (ci, fs)))]
    simp only [mm_E, mm_newfs hnew]
    exact g2
theorem l_new2 {idx ci : Nat} {C : String} {T : u_T} {N : Nat} (ty : Nat → FieldType) {fs : List (Option (Option Nat))} (hC : vwCl[ci]? = some (C, T, N)) (hin : ∀ w ∈ u_ws C T N, w ∈ mm_T) (hty : ∀ k, k < N → parseFieldDescriptor (T k).2.2.1 = some (ty k)) (hlk : Cond.classLink RL idx C ∈ mm_T) (hinst : Cond.instantiable C N ∈ mm_T) (hini : Cond.initialized C ∈ mm_T) (hd : decode code pc = .ok (.new idx, 3)) (hnew : fs.all mm_isNew = true) (hdef : ∀ j, j < N → defaultValue (ty j) = vp_V (fs.map mm_def) j) (hok : mm_ok 1 L st = true) (hk : kc' + 1 = kc) (hks : ks' + N = ks) (hq : pc + 3 = q)
    (kk : ll_Go xL xs kc' ks' q L (.inr 1 :: st) S1 M1 [.inr (ci, fs)] (fun _ _ => 0)) : ll_Go xL xs kc ks pc L st S1 M1 [] M2 := by
  subst hk hks hq
  intro l G cA b ρ σ1 σ2 p e s m below meth c H locs cells slots ls hAt hK hc hs hW hl
  obtain ⟨hx, hb, hr, hml, hown, hts0, hX, hbl, hlocks, hgv⟩ := id hAt
  obtain ⟨⟨h4, h0r, h1r⟩, hP, hD, hSS⟩ := hW
  obtain ⟨hts, hNs⟩ := ll_T hts0
  have hown : s.vm.findClass RL = some m.cls := hown
  refine va_new (fs := fs.map mm_def) hx hb hts hin ty hty hown (hts _ hlk) (hts _ hinst) (hts _ hini) hK hP hD hSS (fun _ h => h) hC hdef (by show cells + 1 ≤ 600000; omega) (by show slots + N ≤ 7302250; omega) hd ?_
  intro q H1 g1 g2 g3
  obtain ⟨hl2, hst2⟩ := ll_rho (ρ' := fun a => if a = 1 then q else ρ a) hok (fun a ha => by
    rcases ha with h | h
    · rw [if_neg (by omega)]
    · subst h; rfl) hl
  have K := kk l G cA b (fun a => if a = 1 then q else ρ a) σ1 (fun _ => q) p e s m below meth c H1 locs (cells + 1) (slots + N) ls hAt hK (by omega) (by omega) ⟨⟨h4, h0r, fun h => rfl⟩, ?_, ?_, g3⟩ hl2
  · rw [List.map_cons, hst2] at K
    exact K
  · have e1 : mm_Ws σ2 cA [] M2 = [] := rfl
    rw [e1, List.append_nil] at g1
    show va_P G vwCl (mm_Ws σ1 cA S1 M1 ++ [(q, mm_E (fun _ => q) cA (fun _ => 0) (.inr (ci, fs)))]) H1
    simp only [mm_E, mm_newfs hnew]
    exact g1
  · have e1 : mm_Ws σ2 cA [] M2 = [] := rfl
    rw [e1, List.append_nil] at g2
    show va_D _ (mm_Ws σ1 cA S1 M1 ++ [(q, mm_E (fun _ => q) cA (fun _ => 0) (.inr (ci, fs)))])
    simp only [mm_E, mm_newfs hnew]
    exact g2
end LLS
