noncomputable def X5_firstForm_j67l26 (x1 : Int32) (x2 : Int32) (x3 : Int32) (x4 : Int32) (x5 : Int32) (x6 : Int32) (z0 : Bool) (M : mm_M) : Option ((Int32 × Int32) ⊕ Int32) := if z0 = true then if x4 = (-1) then some (.inl (x6, (x6 + 1))) else if mm_in x6 10 = true then if mm_in x4 10 = true then if (M 41 (Int32.toNatClampNeg x4)) ≤ (M 41 (Int32.toNatClampNeg x6)) then some (.inl (x4, (x6 + 1))) else some (.inl (x6, (x6 + 1))) else none else none else some (.inl (x4, (x6 + 1)))
set_option maxRecDepth 100000 in
set_option maxHeartbeats 400000 in
theorem t_X5_firstForm_j67l26 {D : mm_D} {d : Nat} (hd : 0 ≤ d) {Z : Option Int32 → List mm_C → mm_M → Prop} (x1 : Int32) (x2 : Int32) (x3 : Int32) (x4 : Int32) (x5 : Int32) (x6 : Int32) (z0 : Bool) (M : mm_M) (o : (Int32 × Int32) ⊕ Int32) (h : X5_firstForm_j67l26 x1 x2 x3 x4 x5 x6 z0 M = some o) (kb : ∀ s', o = .inl s' → mm_Go jX5_firstForm D d 0 0 26 [some (.inr 36), some (.inl x1), some (.inl x2), some (.inl x3), some (.inl s'.1), some (.inl x5), some (.inl s'.2), none] [] S_c M Z) (ke : ∀ r, o = .inr r → mm_Go jX5_firstForm D d 0 0 107 [some (.inr 36), some (.inl x1), some (.inl x2), some (.inl x3), some (.inl r), some (.inl x5), none, none] [] S_c M Z) : mm_Go jX5_firstForm D d 0 0 67 [some (.inr 36), some (.inl x1), some (.inl x2), some (.inl x3), some (.inl x4), some (.inl x5), some (.inl x6), none] [(.inl (mm_b z0))] S_c M Z := by
  unfold X5_firstForm_j67l26 at h
  refine r_istore (q := 69) (L' := [some (.inr 36), some (.inl x1), some (.inl x2), some (.inl x3), some (.inl x4), some (.inl x5), some (.inl x6), some (.inl (mm_b z0))]) dX5_firstForm_67 (by decide) rfl rfl ?_
  refine r_iload (q := 71) dX5_firstForm_69 rfl rfl ?_
  refine r_if_eq 101 (q := 74) dX5_firstForm_71 (by decide) rfl (fun c8 => ?_) (fun c8 => ?_)
  · rw [if_neg (mm_b0 c8)] at h
    refine r_iinc (v := 1) (q := 104) (L' := [some (.inr 36), some (.inl x1), some (.inl x2), some (.inl x3), some (.inl x4), some (.inl x5), some (.inl (x6 + 1)), some (.inl (mm_b z0))]) dX5_firstForm_101 (by decide) (by decide) rfl rfl rfl ?_
    refine r_goto 26 dX5_firstForm_104 (by decide) ?_
    refine r_forget (L' := [some (.inr 36), some (.inl x1), some (.inl x2), some (.inl x3), some (.inl x4), some (.inl x5), some (.inl (x6 + 1)), none]) [true, true, true, true, true, true, true, false] rfl ?_
    cases h
    have hk := kb _ rfl
    exact hk
  · rw [if_pos (mm_b1 c8)] at h
    refine r_iload (q := 76) dX5_firstForm_74 rfl rfl ?_
    refine r_iconst (v := (-1)) (q := 77) dX5_firstForm_76 (by decide) rfl ?_
    refine r_icmp_eq 97 (q := 80) dX5_firstForm_77 (by decide) rfl (fun c9 => ?_) (fun c9 => ?_)
    · rw [if_pos c9] at h
      refine r_iload (q := 99) dX5_firstForm_97 rfl rfl ?_
      refine r_istore (q := 101) (L' := [some (.inr 36), some (.inl x1), some (.inl x2), some (.inl x3), some (.inl x6), some (.inl x5), some (.inl x6), some (.inl (mm_b z0))]) dX5_firstForm_99 (by decide) rfl rfl ?_
      refine r_iinc (v := 1) (q := 104) (L' := [some (.inr 36), some (.inl x1), some (.inl x2), some (.inl x3), some (.inl x6), some (.inl x5), some (.inl (x6 + 1)), some (.inl (mm_b z0))]) dX5_firstForm_101 (by decide) (by decide) rfl rfl rfl ?_
      refine r_goto 26 dX5_firstForm_104 (by decide) ?_
      refine r_forget (L' := [some (.inr 36), some (.inl x1), some (.inl x2), some (.inl x3), some (.inl x6), some (.inl x5), some (.inl (x6 + 1)), none]) [true, true, true, true, true, true, true, false] rfl ?_
      cases h
      have hk := kb _ rfl
      exact hk
    · rw [if_neg c9] at h
      refine r_aload_n (q := 81) dX5_firstForm_80 rfl rfl ?_
      refine r_getr (b := 41) (q := 84) lk_X5_24 dX5_firstForm_81 sc_c_36 rfl rfl ?_
      refine r_iload (q := 86) dX5_firstForm_84 rfl rfl ?_
      obtain ⟨g10, h⟩ := mm_guard h
      refine r_iald (v := (M 41 (Int32.toNatClampNeg x6))) (q := 87) dX5_firstForm_86 sc_c_41 (mm_vp g10) rfl rfl ?_
      refine r_aload_n (q := 88) dX5_firstForm_87 rfl rfl ?_
      refine r_getr (b := 41) (q := 91) lk_X5_24 dX5_firstForm_88 sc_c_36 rfl rfl ?_
      refine r_iload (q := 93) dX5_firstForm_91 rfl rfl ?_
      obtain ⟨g11, h⟩ := mm_guard h
      refine r_iald (v := (M 41 (Int32.toNatClampNeg x4))) (q := 94) dX5_firstForm_93 sc_c_41 (mm_vp g11) rfl rfl ?_
      refine r_icmp_ge 101 (q := 97) dX5_firstForm_94 (by decide) rfl (fun c12 => ?_) (fun c12 => ?_)
      · rw [if_pos c12] at h
        refine r_iinc (v := 1) (q := 104) (L' := [some (.inr 36), some (.inl x1), some (.inl x2), some (.inl x3), some (.inl x4), some (.inl x5), some (.inl (x6 + 1)), some (.inl (mm_b z0))]) dX5_firstForm_101 (by decide) (by decide) rfl rfl rfl ?_
        refine r_goto 26 dX5_firstForm_104 (by decide) ?_
        refine r_forget (L' := [some (.inr 36), some (.inl x1), some (.inl x2), some (.inl x3), some (.inl x4), some (.inl x5), some (.inl (x6 + 1)), none]) [true, true, true, true, true, true, true, false] rfl ?_
        cases h
        have hk := kb _ rfl
        exact hk
      · rw [if_neg c12] at h
        refine r_iload (q := 99) dX5_firstForm_97 rfl rfl ?_
        refine r_istore (q := 101) (L' := [some (.inr 36), some (.inl x1), some (.inl x2), some (.inl x3), some (.inl x6), some (.inl x5), some (.inl x6), some (.inl (mm_b z0))]) dX5_firstForm_99 (by decide) rfl rfl ?_
        refine r_iinc (v := 1) (q := 104) (L' := [some (.inr 36), some (.inl x1), some (.inl x2), some (.inl x3), some (.inl x6), some (.inl x5), some (.inl (x6 + 1)), some (.inl (mm_b z0))]) dX5_firstForm_101 (by decide) (by decide) rfl rfl rfl ?_
        refine r_goto 26 dX5_firstForm_104 (by decide) ?_
        refine r_forget (L' := [some (.inr 36), some (.inl x1), some (.inl x2), some (.inl x3), some (.inl x6), some (.inl x5), some (.inl (x6 + 1)), none]) [true, true, true, true, true, true, true, false] rfl ?_
        cases h
        have hk := kb _ rfl
        exact hk
noncomputable def X5_firstForm_j66l26 (x1 : Int32) (x2 : Int32) (x3 : Int32) (x4 : Int32) (x5 : Int32) (x6 : Int32) (M : mm_M) : Option ((Int32 × Int32) ⊕ Int32) := X5_firstForm_j67l26 x1 x2 x3 x4 x5 x6 false M
set_option maxRecDepth 100000 in
set_option maxHeartbeats 400000 in
theorem t_X5_firstForm_j66l26 {D : mm_D} {d : Nat} (hd : 0 ≤ d) {Z : Option Int32 → List mm_C → mm_M → Prop} (x1 : Int32) (x2 : Int32) (x3 : Int32) (x4 : Int32) (x5 : Int32) (x6 : Int32) (M : mm_M) (o : (Int32 × Int32) ⊕ Int32) (h : X5_firstForm_j66l26 x1 x2 x3 x4 x5 x6 M = some o) (kb : ∀ s', o = .inl s' → mm_Go jX5_firstForm D d 0 0 26 [some (.inr 36), some (.inl x1), some (.inl x2), some (.inl x3), some (.inl s'.1), some (.inl x5), some (.inl s'.2), none] [] S_c M Z) (ke : ∀ r, o = .inr r → mm_Go jX5_firstForm D d 0 0 107 [some (.inr 36), some (.inl x1), some (.inl x2), some (.inl x3), some (.inl r), some (.inl x5), none, none] [] S_c M Z) : mm_Go jX5_firstForm D d 0 0 66 [some (.inr 36), some (.inl x1), some (.inl x2), some (.inl x3), some (.inl x4), some (.inl x5), some (.inl x6), none] [] S_c M Z := by
  unfold X5_firstForm_j66l26 at h
  refine r_iconst (v := 0) (q := 67) dX5_firstForm_66 (by decide) rfl ?_
  exact t_X5_firstForm_j67l26 hd x1 x2 x3 x4 x5 x6 false M _ h kb ke
noncomputable def X5_firstForm_l26 (x1 : Int32) (x2 : Int32) (x3 : Int32) (x5 : Int32) (M : mm_M) (s : (Int32 × Int32)) : Option ((Int32 × Int32) ⊕ Int32) := if x1 ≤ s.2 then some (.inr s.1) else if 10 ≤ s.2 then some (.inr s.1) else if ((x3 >>> (s.2 &&& 31)) &&& 1) = 0 then if mm_in s.2 10 = true then if ((M 42 (Int32.toNatClampNeg s.2)) &&& (x3 ^^^ (-1))) = 0 then X5_firstForm_j67l26 x1 x2 x3 s.1 x5 s.2 true M else X5_firstForm_j66l26 x1 x2 x3 s.1 x5 s.2 M else none else X5_firstForm_j66l26 x1 x2 x3 s.1 x5 s.2 M
set_option maxRecDepth 100000 in
set_option maxHeartbeats 400000 in
theorem t_X5_firstForm_l26 {D : mm_D} {d : Nat} (hd : 0 ≤ d) {Z : Option Int32 → List mm_C → mm_M → Prop} (x1 : Int32) (x2 : Int32) (x3 : Int32) (x5 : Int32) (M : mm_M) (n : Nat) (s : (Int32 × Int32)) (r : Int32) (h : mm_loop (X5_firstForm_l26 x1 x2 x3 x5 M) n s = some r) (hx : mm_Go jX5_firstForm D d 0 0 107 [some (.inr 36), some (.inl x1), some (.inl x2), some (.inl x3), some (.inl r), some (.inl x5), none, none] [] S_c M Z) : mm_Go jX5_firstForm D d 0 0 26 [some (.inr 36), some (.inl x1), some (.inl x2), some (.inl x3), some (.inl s.1), some (.inl x5), some (.inl s.2), none] [] S_c M Z := by
  refine mm_loop_go (step := X5_firstForm_l26 x1 x2 x3 x5 M) (Hd := fun (s : (Int32 × Int32)) => mm_Go jX5_firstForm D d 0 0 26 [some (.inr 36), some (.inl x1), some (.inl x2), some (.inl x3), some (.inl s.1), some (.inl x5), some (.inl s.2), none] [] S_c M Z) (Ex := fun (r : Int32) => mm_Go jX5_firstForm D d 0 0 107 [some (.inr 36), some (.inl x1), some (.inl x2), some (.inl x3), some (.inl r), some (.inl x5), none, none] [] S_c M Z) ?_ n s r h hx
  intro s o h kb ke
  show mm_Go jX5_firstForm D d 0 0 26 [some (.inr 36), some (.inl x1), some (.inl x2), some (.inl x3), some (.inl s.1), some (.inl x5), some (.inl s.2), none] [] S_c M Z
  unfold X5_firstForm_l26 at h
  refine r_iload (q := 28) dX5_firstForm_26 rfl rfl ?_
  refine r_iload_n (q := 29) dX5_firstForm_28 rfl rfl ?_
  refine r_icmp_ge 107 (q := 32) dX5_firstForm_29 (by decide) rfl (fun c3 => ?_) (fun c3 => ?_)
  · rw [if_pos c3] at h
    refine r_forget (L' := [some (.inr 36), some (.inl x1), some (.inl x2), some (.inl x3), some (.inl s.1), some (.inl x5), none, none]) [true, true, true, true, true, true, false, false] rfl ?_
    cases h
    have hk := ke _ rfl
    exact hk
  · rw [if_neg c3] at h
    refine r_iload (q := 34) dX5_firstForm_32 rfl rfl ?_
    refine r_bipush (v := 10) (q := 36) dX5_firstForm_34 (by decide) rfl ?_
    refine r_icmp_ge 107 (q := 39) dX5_firstForm_36 (by decide) rfl (fun c4 => ?_) (fun c4 => ?_)
    · rw [if_pos c4] at h
      refine r_forget (L' := [some (.inr 36), some (.inl x1), some (.inl x2), some (.inl x3), some (.inl s.1), some (.inl x5), none, none]) [true, true, true, true, true, true, false, false] rfl ?_
      cases h
      have hk := ke _ rfl
      exact hk
    · rw [if_neg c4] at h
      refine r_iload_n (q := 40) dX5_firstForm_39 rfl rfl ?_
      refine r_iload (q := 42) dX5_firstForm_40 rfl rfl ?_
      refine r_ishr (q := 43) dX5_firstForm_42 rfl ?_
      refine r_iconst (v := 1) (q := 44) dX5_firstForm_43 (by decide) rfl ?_
      refine r_iand (q := 45) dX5_firstForm_44 rfl ?_
      refine r_if_ne 66 (q := 48) dX5_firstForm_45 (by decide) rfl (fun c5 => ?_) (fun c5 => ?_)
      · rw [if_neg c5] at h
        exact t_X5_firstForm_j66l26 hd x1 x2 x3 s.1 x5 s.2 M _ h kb ke
      · rw [if_pos c5] at h
        refine r_aload_n (q := 49) dX5_firstForm_48 rfl rfl ?_
        refine r_getr (b := 42) (q := 52) lk_X5_27 dX5_firstForm_49 sc_c_36 rfl rfl ?_
        refine r_iload (q := 54) dX5_firstForm_52 rfl rfl ?_
        obtain ⟨g6, h⟩ := mm_guard h
        refine r_iald (v := (M 42 (Int32.toNatClampNeg s.2))) (q := 55) dX5_firstForm_54 sc_c_42 (mm_vp g6) rfl rfl ?_
        refine r_iload_n (q := 56) dX5_firstForm_55 rfl rfl ?_
        refine r_iconst (v := (-1)) (q := 57) dX5_firstForm_56 (by decide) rfl ?_
        refine r_ixor (q := 58) dX5_firstForm_57 rfl ?_
        refine r_iand (q := 59) dX5_firstForm_58 rfl ?_
        refine r_if_ne 66 (q := 62) dX5_firstForm_59 (by decide) rfl (fun c7 => ?_) (fun c7 => ?_)
        · rw [if_neg c7] at h
          exact t_X5_firstForm_j66l26 hd x1 x2 x3 s.1 x5 s.2 M _ h kb ke
        · rw [if_pos c7] at h
          refine r_iconst (v := 1) (q := 63) dX5_firstForm_62 (by decide) rfl ?_
          refine r_goto 67 dX5_firstForm_63 (by decide) ?_
          exact t_X5_firstForm_j67l26 hd x1 x2 x3 s.1 x5 s.2 true M _ h kb ke
noncomputable def X5_firstForm_j107l8 (x1 : Int32) (x2 : Int32) (x3 : Int32) (x4 : Int32) (x5 : Int32) (M : mm_M) : Option ((Int32 × Int32 × Int32) ⊕ (Int32 ⊕ Int32)) := if x4 = (-1) then some (.inr (.inl (-1))) else some (.inl ((x3 ||| ((1 : Int32) <<< (x4 &&& 31))), x4, (x5 + 1)))
set_option maxRecDepth 100000 in
set_option maxHeartbeats 400000 in
theorem t_X5_firstForm_j107l8 {D : mm_D} {d : Nat} (hd : 0 ≤ d) {Z : Option Int32 → List mm_C → mm_M → Prop} (x1 : Int32) (x2 : Int32) (x3 : Int32) (x4 : Int32) (x5 : Int32) (M : mm_M) (o : (Int32 × Int32 × Int32) ⊕ (Int32 ⊕ Int32)) (h : X5_firstForm_j107l8 x1 x2 x3 x4 x5 M = some o) (kb : ∀ s', o = .inl s' → mm_Go jX5_firstForm D d 0 0 8 [some (.inr 36), some (.inl x1), some (.inl x2), some (.inl s'.1), some (.inl s'.2.1), some (.inl s'.2.2), none, none] [] S_c M Z) (ke : ∀ r, o = .inr r → (Sum.elim (fun (y : Int32) => Z (some y) S_c M) (fun (s : Int32) => mm_Go jX5_firstForm D d 0 0 128 [some (.inr 36), none, none, none, some (.inl s), none, none, none] [] S_c M Z) r)) : mm_Go jX5_firstForm D d 0 0 107 [some (.inr 36), some (.inl x1), some (.inl x2), some (.inl x3), some (.inl x4), some (.inl x5), none, none] [] S_c M Z := by
  unfold X5_firstForm_j107l8 at h
  refine r_iload (q := 109) dX5_firstForm_107 rfl rfl ?_
  refine r_iconst (v := (-1)) (q := 110) dX5_firstForm_109 (by decide) rfl ?_
  refine r_icmp_ne 115 (q := 113) dX5_firstForm_110 (by decide) rfl (fun c15 => ?_) (fun c15 => ?_)
  · rw [if_neg c15] at h
    refine r_iload_n (q := 116) dX5_firstForm_115 rfl rfl ?_
    refine r_iconst (v := 1) (q := 117) dX5_firstForm_116 (by decide) rfl ?_
    refine r_iload (q := 119) dX5_firstForm_117 rfl rfl ?_
    refine r_ishl (q := 120) dX5_firstForm_119 rfl ?_
    refine r_ior (q := 121) dX5_firstForm_120 rfl ?_
    refine r_istore_n (q := 122) (L' := [some (.inr 36), some (.inl x1), some (.inl x2), some (.inl (x3 ||| ((1 : Int32) <<< (x4 &&& 31)))), some (.inl x4), some (.inl x5), none, none]) dX5_firstForm_121 (by decide) rfl rfl ?_
    refine r_iinc (v := 1) (q := 125) (L' := [some (.inr 36), some (.inl x1), some (.inl x2), some (.inl (x3 ||| ((1 : Int32) <<< (x4 &&& 31)))), some (.inl x4), some (.inl (x5 + 1)), none, none]) dX5_firstForm_122 (by decide) (by decide) rfl rfl rfl ?_
    refine r_goto 8 dX5_firstForm_125 (by decide) ?_
    cases h
    have hk := kb _ rfl
    exact hk
  · rw [if_pos c15] at h
    refine r_iconst (v := (-1)) (q := 114) dX5_firstForm_113 (by decide) rfl ?_
    cases h
    have hk := ke _ rfl
    exact r_ret dX5_firstForm_114 rfl hk
noncomputable def X5_firstForm_l8 (x1 : Int32) (x2 : Int32) (M : mm_M) (s : (Int32 × Int32 × Int32)) : Option ((Int32 × Int32 × Int32) ⊕ (Int32 ⊕ Int32)) := if x2 < s.2.2 then some (.inr (.inr s.2.1)) else if x1 ≤ s.2.2 then some (.inr (.inr s.2.1)) else (mm_loop (X5_firstForm_l26 x1 x2 s.1 s.2.2 M) mm_fuel ((-1), 0)).bind fun y13 => X5_firstForm_j107l8 x1 x2 s.1 y13 s.2.2 M
set_option maxRecDepth 100000 in
set_option maxHeartbeats 400000 in
theorem t_X5_firstForm_l8 {D : mm_D} {d : Nat} (hd : 0 ≤ d) {Z : Option Int32 → List mm_C → mm_M → Prop} (x1 : Int32) (x2 : Int32) (M : mm_M) (n : Nat) (s : (Int32 × Int32 × Int32)) (r : (Int32 ⊕ Int32)) (h : mm_loop (X5_firstForm_l8 x1 x2 M) n s = some r) (hx : (Sum.elim (fun (y : Int32) => Z (some y) S_c M) (fun (s : Int32) => mm_Go jX5_firstForm D d 0 0 128 [some (.inr 36), none, none, none, some (.inl s), none, none, none] [] S_c M Z) r)) : mm_Go jX5_firstForm D d 0 0 8 [some (.inr 36), some (.inl x1), some (.inl x2), some (.inl s.1), some (.inl s.2.1), some (.inl s.2.2), none, none] [] S_c M Z := by
  refine mm_loop_go (step := X5_firstForm_l8 x1 x2 M) (Hd := fun (s : (Int32 × Int32 × Int32)) => mm_Go jX5_firstForm D d 0 0 8 [some (.inr 36), some (.inl x1), some (.inl x2), some (.inl s.1), some (.inl s.2.1), some (.inl s.2.2), none, none] [] S_c M Z) (Ex := fun (r : (Int32 ⊕ Int32)) => (Sum.elim (fun (y : Int32) => Z (some y) S_c M) (fun (s : Int32) => mm_Go jX5_firstForm D d 0 0 128 [some (.inr 36), none, none, none, some (.inl s), none, none, none] [] S_c M Z) r)) ?_ n s r h hx
  intro s o h kb ke
  show mm_Go jX5_firstForm D d 0 0 8 [some (.inr 36), some (.inl x1), some (.inl x2), some (.inl s.1), some (.inl s.2.1), some (.inl s.2.2), none, none] [] S_c M Z
  unfold X5_firstForm_l8 at h
  refine r_iload (q := 10) dX5_firstForm_8 rfl rfl ?_
  refine r_iload_n (q := 11) dX5_firstForm_10 rfl rfl ?_
  refine r_icmp_gt 128 (q := 14) dX5_firstForm_11 (by decide) rfl (fun c1 => ?_) (fun c1 => ?_)
  · rw [if_pos c1] at h
    refine r_forget (L' := [some (.inr 36), none, none, none, some (.inl s.2.1), none, none, none]) [true, false, false, false, true, false, false, false] rfl ?_
    cases h
    have hk := ke _ rfl
    exact hk
  · rw [if_neg c1] at h
    refine r_iload (q := 16) dX5_firstForm_14 rfl rfl ?_
    refine r_iload_n (q := 17) dX5_firstForm_16 rfl rfl ?_
    refine r_icmp_ge 128 (q := 20) dX5_firstForm_17 (by decide) rfl (fun c2 => ?_) (fun c2 => ?_)
    · rw [if_pos c2] at h
      refine r_forget (L' := [some (.inr 36), none, none, none, some (.inl s.2.1), none, none, none]) [true, false, false, false, true, false, false, false] rfl ?_
      cases h
      have hk := ke _ rfl
      exact hk
    · rw [if_neg c2] at h
      refine r_iconst (v := (-1)) (q := 21) dX5_firstForm_20 (by decide) rfl ?_
      refine r_istore (q := 23) (L' := [some (.inr 36), some (.inl x1), some (.inl x2), some (.inl s.1), some (.inl (-1)), some (.inl s.2.2), none, none]) dX5_firstForm_21 (by decide) rfl rfl ?_
      refine r_iconst (v := 0) (q := 24) dX5_firstForm_23 (by decide) rfl ?_
      refine r_istore (q := 26) (L' := [some (.inr 36), some (.inl x1), some (.inl x2), some (.inl s.1), some (.inl (-1)), some (.inl s.2.2), some (.inl 0), none]) dX5_firstForm_24 (by decide) rfl rfl ?_
      obtain ⟨y13, e14, h⟩ := Option.bind_eq_some_iff.mp h
      refine t_X5_firstForm_l26 hd x1 x2 s.1 s.2.2 M mm_fuel ((-1), 0) _ e14 ?_
      show mm_Go jX5_firstForm _ _ _ _ 107 [some (.inr 36), some (.inl x1), some (.inl x2), some (.inl s.1), some (.inl y13), some (.inl s.2.2), none, none] [] S_c M _
      exact t_X5_firstForm_j107l8 hd x1 x2 s.1 y13 s.2.2 M _ h kb ke
noncomputable def X5_firstForm_j128 (x4 : Int32) (M : mm_M) : Option Int32 := if x4 < 0 then some (-1) else if 10 ≤ x4 then some (-1) else some (M 41 (Int32.toNatClampNeg x4))
set_option maxRecDepth 100000 in
set_option maxHeartbeats 400000 in
theorem t_X5_firstForm_j128 {D : mm_D} {d : Nat} (hd : 0 ≤ d) (x4 : Int32) (M : mm_M) (res : Int32) (h : X5_firstForm_j128 x4 M = some res) : mm_Go jX5_firstForm D d 0 0 128 [some (.inr 36), none, none, none, some (.inl x4), none, none, none] [] S_c M (mm_Zi res S_c M) := by
  unfold X5_firstForm_j128 at h
  refine r_iload (q := 130) dX5_firstForm_128 rfl rfl ?_
  refine r_if_lt 150 (q := 133) dX5_firstForm_130 (by decide) rfl (fun c18 => ?_) (fun c18 => ?_)
  · rw [if_pos c18] at h
    refine r_iconst (v := (-1)) (q := 151) dX5_firstForm_150 (by decide) rfl ?_
    cases h
    exact r_ret dX5_firstForm_151 rfl mm_Zi_rfl
  · rw [if_neg c18] at h
    refine r_iload (q := 135) dX5_firstForm_133 rfl rfl ?_
    refine r_bipush (v := 10) (q := 137) dX5_firstForm_135 (by decide) rfl ?_
    refine r_icmp_ge 150 (q := 140) dX5_firstForm_137 (by decide) rfl (fun c19 => ?_) (fun c19 => ?_)
    · rw [if_pos c19] at h
      refine r_iconst (v := (-1)) (q := 151) dX5_firstForm_150 (by decide) rfl ?_
      cases h
      exact r_ret dX5_firstForm_151 rfl mm_Zi_rfl
    · rw [if_neg c19] at h
      refine r_aload_n (q := 141) dX5_firstForm_140 rfl rfl ?_
      refine r_getr (b := 41) (q := 144) lk_X5_24 dX5_firstForm_141 sc_c_36 rfl rfl ?_
      refine r_iload (q := 146) dX5_firstForm_144 rfl rfl ?_
      refine r_iald (v := (M 41 (Int32.toNatClampNeg x4))) (q := 147) dX5_firstForm_146 sc_c_41 (mm_vp2 (Int32.not_lt.mp c18) (Int32.not_le.mp c19) (by decide)) rfl rfl ?_
      refine r_goto 151 dX5_firstForm_147 (by decide) ?_
      cases h
      exact r_ret dX5_firstForm_151 rfl mm_Zi_rfl
noncomputable def X5_firstForm (x1 : Int32) (x2 : Int32) (M : mm_M) : Option Int32 := (mm_loop (X5_firstForm_l8 x1 x2 M) mm_fuel (0, (-1), 0)).bind fun y16 => (match y16 with | .inl y16r => some y16r | .inr y16s => X5_firstForm_j128 y16s M)
set_option maxRecDepth 100000 in
set_option maxHeartbeats 400000 in
theorem t_X5_firstForm {d : Nat} (hd : 0 ≤ d) (x1 : Int32) (x2 : Int32) (M : mm_M) (res : Int32) (h : X5_firstForm x1 x2 M = some res) : mm_Meth jX5_firstForm d 0 0 [(.inr 36), (.inl x1), (.inl x2)] S_c M (mm_Zi res S_c M) := by
  refine r_meth (L := [some (.inr 36), some (.inl x1), some (.inl x2), none, none, none, none, none]) rfl (fun D => ?_)
  unfold X5_firstForm at h
  refine r_iconst (v := 0) (q := 1) dX5_firstForm_0 (by decide) rfl ?_
  refine r_istore_n (q := 2) (L' := [some (.inr 36), some (.inl x1), some (.inl x2), some (.inl 0), none, none, none, none]) dX5_firstForm_1 (by decide) rfl rfl ?_
  refine r_iconst (v := (-1)) (q := 3) dX5_firstForm_2 (by decide) rfl ?_
  refine r_istore (q := 5) (L' := [some (.inr 36), some (.inl x1), some (.inl x2), some (.inl 0), some (.inl (-1)), none, none, none]) dX5_firstForm_3 (by decide) rfl rfl ?_
  refine r_iconst (v := 0) (q := 6) dX5_firstForm_5 (by decide) rfl ?_
  refine r_istore (q := 8) (L' := [some (.inr 36), some (.inl x1), some (.inl x2), some (.inl 0), some (.inl (-1)), some (.inl 0), none, none]) dX5_firstForm_6 (by decide) rfl rfl ?_
  obtain ⟨y16, e17, h⟩ := Option.bind_eq_some_iff.mp h
  refine t_X5_firstForm_l8 hd x1 x2 M mm_fuel (0, (-1), 0) _ e17 ?_
  rcases y16 with y16r | y16s
  · dsimp only at h
    cases h
    exact mm_Zi_rfl
  · dsimp only at h
    show mm_Go jX5_firstForm _ _ _ _ 128 [some (.inr 36), none, none, none, some (.inl y16s), none, none, none] [] S_c M _
    exact t_X5_firstForm_j128 hd y16s M _ h
noncomputable def X11_forms_j81 (x1 : Int32) (x2 : Int32) (x4 : Bool) (M : mm_M) : Option (Int32 × mm_M) := mm_let (X7_clear M) fun y11 => if x4 = true then if x2 = 100 then (X5_countForms x1 y11).bind fun y15 => some (y15.1, y15.2) else (X5_firstForm x1 x2 y11).bind fun y17 => some (y17, y11) else some ((-3), y11)
set_option maxRecDepth 100000 in
set_option maxHeartbeats 400000 in
theorem t_X11_forms_j81 {D : mm_D} {d : Nat} (hd : 4 ≤ d) (x1 : Int32) (x2 : Int32) (x4 : Bool) (M : mm_M) (res : (Int32 × mm_M)) (h : X11_forms_j81 x1 x2 x4 M = some res) : mm_Go jX11_forms D d 0 0 81 [some (.inr 0), some (.inl x1), some (.inl x2), none, some (.inl (mm_b x4))] [] S_c M (mm_Zi res.1 S_c res.2) := by
  unfold X11_forms_j81 at h
  refine r_aload_n (q := 82) dX11_forms_81 rfl rfl ?_
  refine r_getr (b := 1) (q := 85) lk_X11_12 dX11_forms_82 sc_c_0 rfl rfl ?_
  obtain ⟨y11, e10, h⟩ := mm_let_elim h
  refine r_callV_v (av := []) (st := []) (q := 88) (d1 := 0) kc_X11_121 sc_c_1 dX11_forms_85 rfl rfl (Nat.le_of_ble_eq_true rfl) (Nat.le_of_ble_eq_true rfl) (by omega) rfl rfl (t_X7_clear (d := 0) (by omega) M _ e10) ?_
  refine r_iload (q := 90) dX11_forms_88 rfl rfl ?_
  refine r_if_ne 96 (q := 93) dX11_forms_90 (by decide) rfl (fun c12 => ?_) (fun c12 => ?_)
  · rw [if_pos (mm_b1 c12)] at h
    refine r_iload_n (q := 97) dX11_forms_96 rfl rfl ?_
    refine r_bipush (v := 100) (q := 99) dX11_forms_97 (by decide) rfl ?_
    refine r_icmp_ne 113 (q := 102) dX11_forms_99 (by decide) rfl (fun c13 => ?_) (fun c13 => ?_)
    · rw [if_neg c13] at h
      refine r_aload_n (q := 114) dX11_forms_113 rfl rfl ?_
      refine r_getr (b := 36) (q := 117) lk_X11_83 dX11_forms_114 sc_c_0 rfl rfl ?_
      refine r_iload_n (q := 118) dX11_forms_117 rfl rfl ?_
      refine r_iload_n (q := 119) dX11_forms_118 rfl rfl ?_
      obtain ⟨y17, e16, h⟩ := Option.bind_eq_some_iff.mp h
      refine r_callV_i (av := [(.inl x1), (.inl x2)]) (st := []) (q := 122) (d1 := 0) kc_X11_203 sc_c_36 dX11_forms_119 rfl rfl (Nat.le_of_ble_eq_true rfl) (Nat.le_of_ble_eq_true rfl) (by omega) rfl rfl (t_X5_firstForm (d := 0) (by omega) x1 x2 y11 _ e16) ?_
      cases h
      exact r_ret dX11_forms_122 rfl mm_Zi_rfl
    · rw [if_pos c13] at h
      refine r_aload_n (q := 103) dX11_forms_102 rfl rfl ?_
      refine r_getr (b := 36) (q := 106) lk_X11_83 dX11_forms_103 sc_c_0 rfl rfl ?_
      refine r_iload_n (q := 107) dX11_forms_106 rfl rfl ?_
      obtain ⟨y15, e14, h⟩ := Option.bind_eq_some_iff.mp h
      refine r_callV_i (av := [(.inl x1)]) (st := []) (q := 110) (d1 := 1) kc_X11_200 sc_c_36 dX11_forms_107 rfl rfl (Nat.le_of_ble_eq_true rfl) (Nat.le_of_ble_eq_true rfl) (by omega) rfl rfl (t_X5_countForms (d := 1) (by omega) x1 y11 _ e14) ?_
      refine r_goto 122 dX11_forms_110 (by decide) ?_
      cases h
      exact r_ret dX11_forms_122 rfl mm_Zi_rfl
  · rw [if_neg (mm_b0 c12)] at h
    refine r_bipush (v := (-3)) (q := 95) dX11_forms_93 (by decide) rfl ?_
    cases h
    exact r_ret dX11_forms_95 rfl mm_Zi_rfl
noncomputable def X11_forms_j20 (x1 : Int32) (x2 : Int32) (z0 : Bool) (M : mm_M) : Option (Int32 × mm_M) := if z0 = true then if (X11_isOnTape x1 10 M) = true then if (X8_isTold M) = true then (X7_isBelow 0 x1 8 M).bind fun y6 => if y6 = true then (X5_orderForms x1 M).bind fun y9 => X11_forms_j81 x1 x2 y6 y9 else X11_forms_j81 x1 x2 y6 M else some ((-1), M) else some ((-1), M) else some ((-1), M)
set_option maxRecDepth 100000 in
set_option maxHeartbeats 400000 in
theorem t_X11_forms_j20 {D : mm_D} {d : Nat} (hd : 4 ≤ d) (x1 : Int32) (x2 : Int32) (z0 : Bool) (M : mm_M) (res : (Int32 × mm_M)) (h : X11_forms_j20 x1 x2 z0 M = some res) : mm_Go jX11_forms D d 0 0 20 [some (.inr 0), some (.inl x1), some (.inl x2), none, none] [(.inl (mm_b z0))] S_c M (mm_Zi res.1 S_c res.2) := by
  unfold X11_forms_j20 at h
  refine r_istore_n (q := 21) (L' := [some (.inr 0), some (.inl x1), some (.inl x2), some (.inl (mm_b z0)), none]) dX11_forms_20 (by decide) rfl rfl ?_
  refine r_iload_n (q := 22) dX11_forms_21 rfl rfl ?_
  refine r_if_eq 45 (q := 25) dX11_forms_22 (by decide) rfl (fun c2 => ?_) (fun c2 => ?_)
  · rw [if_neg (mm_b0 c2)] at h
    refine r_iconst (v := (-1)) (q := 46) dX11_forms_45 (by decide) rfl ?_
    cases h
    exact r_ret dX11_forms_46 rfl mm_Zi_rfl
  · rw [if_pos (mm_b1 c2)] at h
    refine r_aload_n (q := 26) dX11_forms_25 rfl rfl ?_
    refine r_iload_n (q := 27) dX11_forms_26 rfl rfl ?_
    refine r_bipush (v := 10) (q := 29) dX11_forms_27 (by decide) rfl ?_
    refine r_callV_i (av := [(.inl x1), (.inl 10)]) (st := []) (q := 32) (d1 := 0) kc_X11_108 sc_c_0 dX11_forms_29 rfl rfl (Nat.le_of_ble_eq_true rfl) (Nat.le_of_ble_eq_true rfl) (by omega) rfl rfl (t_X11_isOnTape (d := 0) (by omega) x1 10 M _ rfl) ?_
    refine r_if_eq 45 (q := 35) dX11_forms_32 (by decide) rfl (fun c3 => ?_) (fun c3 => ?_)
    · rw [if_neg (mm_b0 c3)] at h
      refine r_iconst (v := (-1)) (q := 46) dX11_forms_45 (by decide) rfl ?_
      cases h
      exact r_ret dX11_forms_46 rfl mm_Zi_rfl
    · rw [if_pos (mm_b1 c3)] at h
      refine r_aload_n (q := 36) dX11_forms_35 rfl rfl ?_
      refine r_getr (b := 7) (q := 39) lk_X11_42 dX11_forms_36 sc_c_0 rfl rfl ?_
      refine r_callV_i (av := []) (st := []) (q := 42) (d1 := 0) kc_X11_144 sc_c_7 dX11_forms_39 rfl rfl (Nat.le_of_ble_eq_true rfl) (Nat.le_of_ble_eq_true rfl) (by omega) rfl rfl (t_X8_isTold (d := 0) (by omega) M _ rfl) ?_
      refine r_if_ne 47 (q := 45) dX11_forms_42 (by decide) rfl (fun c4 => ?_) (fun c4 => ?_)
      · rw [if_pos (mm_b1 c4)] at h
        refine r_aload_n (q := 48) dX11_forms_47 rfl rfl ?_
        refine r_getr (b := 1) (q := 51) lk_X11_12 dX11_forms_48 sc_c_0 rfl rfl ?_
        refine r_iconst (v := 0) (q := 52) dX11_forms_51 (by decide) rfl ?_
        refine r_iload_n (q := 53) dX11_forms_52 rfl rfl ?_
        refine r_bipush (v := 8) (q := 55) dX11_forms_53 (by decide) rfl ?_
        obtain ⟨y6, e5, h⟩ := Option.bind_eq_some_iff.mp h
        refine r_callV_i (av := [(.inl 0), (.inl x1), (.inl 8)]) (st := []) (q := 58) (d1 := 1) kc_X11_192 sc_c_1 dX11_forms_55 rfl rfl (Nat.le_of_ble_eq_true rfl) (Nat.le_of_ble_eq_true rfl) (by omega) rfl rfl (t_X7_isBelow (d := 1) (by omega) 0 x1 8 M _ e5) ?_
        refine r_istore (q := 60) (L' := [some (.inr 0), some (.inl x1), some (.inl x2), some (.inl (mm_b z0)), some (.inl (mm_b y6))]) dX11_forms_58 (by decide) rfl rfl ?_
        refine r_iload (q := 62) dX11_forms_60 rfl rfl ?_
        refine r_if_eq 81 (q := 65) dX11_forms_62 (by decide) rfl (fun c7 => ?_) (fun c7 => ?_)
        · rw [if_neg (mm_b0 c7)] at h
          refine r_forget (L' := [some (.inr 0), some (.inl x1), some (.inl x2), none, some (.inl (mm_b y6))]) [true, true, true, false, true] rfl ?_
          exact t_X11_forms_j81 hd x1 x2 y6 M _ h
        · rw [if_pos (mm_b1 c7)] at h
          refine r_aload_n (q := 66) dX11_forms_65 rfl rfl ?_
          refine r_getr (b := 36) (q := 69) lk_X11_83 dX11_forms_66 sc_c_0 rfl rfl ?_
          refine r_aload_n (q := 70) dX11_forms_69 rfl rfl ?_
          refine r_getr (b := 7) (q := 73) lk_X11_42 dX11_forms_70 sc_c_0 rfl rfl ?_
          refine r_aload_n (q := 74) dX11_forms_73 rfl rfl ?_
          refine r_getr (b := 1) (q := 77) lk_X11_12 dX11_forms_74 sc_c_0 rfl rfl ?_
          refine r_iload_n (q := 78) dX11_forms_77 rfl rfl ?_
          obtain ⟨y9, e8, h⟩ := Option.bind_eq_some_iff.mp h
          refine r_callV_v (av := [(.inr 7), (.inr 1), (.inl x1)]) (st := []) (q := 81) (d1 := 3) kc_X11_196 sc_c_36 dX11_forms_78 rfl rfl (Nat.le_of_ble_eq_true rfl) (Nat.le_of_ble_eq_true rfl) (by omega) rfl rfl (t_X5_orderForms (d := 3) (by omega) x1 M _ e8) ?_
          refine r_forget (L' := [some (.inr 0), some (.inl x1), some (.inl x2), none, some (.inl (mm_b y6))]) [true, true, true, false, true] rfl ?_
          exact t_X11_forms_j81 hd x1 x2 y6 y9 _ h
      · rw [if_neg (mm_b0 c4)] at h
        refine r_iconst (v := (-1)) (q := 46) dX11_forms_45 (by decide) rfl ?_
        cases h
        exact r_ret dX11_forms_46 rfl mm_Zi_rfl
noncomputable def X11_forms_j15 (x1 : Int32) (x2 : Int32) (M : mm_M) : Option (Int32 × mm_M) := X11_forms_j20 x1 x2 true M
set_option maxRecDepth 100000 in
set_option maxHeartbeats 400000 in
theorem t_X11_forms_j15 {D : mm_D} {d : Nat} (hd : 4 ≤ d) (x1 : Int32) (x2 : Int32) (M : mm_M) (res : (Int32 × mm_M)) (h : X11_forms_j15 x1 x2 M = some res) : mm_Go jX11_forms D d 0 0 15 [some (.inr 0), some (.inl x1), some (.inl x2), none, none] [] S_c M (mm_Zi res.1 S_c res.2) := by
  unfold X11_forms_j15 at h
  refine r_iconst (v := 1) (q := 16) dX11_forms_15 (by decide) rfl ?_
  refine r_goto 20 dX11_forms_16 (by decide) ?_
  exact t_X11_forms_j20 hd x1 x2 true M _ h
noncomputable def X11_forms_j19 (x1 : Int32) (x2 : Int32) (M : mm_M) : Option (Int32 × mm_M) := X11_forms_j20 x1 x2 false M
set_option maxRecDepth 100000 in
set_option maxHeartbeats 400000 in
theorem t_X11_forms_j19 {D : mm_D} {d : Nat} (hd : 4 ≤ d) (x1 : Int32) (x2 : Int32) (M : mm_M) (res : (Int32 × mm_M)) (h : X11_forms_j19 x1 x2 M = some res) : mm_Go jX11_forms D d 0 0 19 [some (.inr 0), some (.inl x1), some (.inl x2), none, none] [] S_c M (mm_Zi res.1 S_c res.2) := by
  unfold X11_forms_j19 at h
  refine r_iconst (v := 0) (q := 20) dX11_forms_19 (by decide) rfl ?_
  exact t_X11_forms_j20 hd x1 x2 false M _ h
noncomputable def X11_forms (x1 : Int32) (x2 : Int32) (M : mm_M) : Option (Int32 × mm_M) := if x2 = 100 then X11_forms_j15 x1 x2 M else if x2 < 0 then X11_forms_j19 x1 x2 M else if x1 ≤ x2 then X11_forms_j19 x1 x2 M else X11_forms_j15 x1 x2 M
set_option maxRecDepth 100000 in
set_option maxHeartbeats 400000 in
theorem t_X11_forms {d : Nat} (hd : 4 ≤ d) (x1 : Int32) (x2 : Int32) (M : mm_M) (res : (Int32 × mm_M)) (h : X11_forms x1 x2 M = some res) : mm_Meth jX11_forms d 0 0 [(.inr 0), (.inl x1), (.inl x2)] S_c M (mm_Zi res.1 S_c res.2) := by
  refine r_meth (L := [some (.inr 0), some (.inl x1), some (.inl x2), none, none]) rfl (fun D => ?_)
  unfold X11_forms at h
  refine r_iload_n (q := 1) dX11_forms_0 rfl rfl ?_
  refine r_bipush (v := 100) (q := 3) dX11_forms_1 (by decide) rfl ?_
  refine r_icmp_eq 15 (q := 6) dX11_forms_3 (by decide) rfl (fun c1 => ?_) (fun c1 => ?_)
  · rw [if_pos c1] at h
    exact t_X11_forms_j15 hd x1 x2 M _ h
  · rw [if_neg c1] at h
    refine r_iload_n (q := 7) dX11_forms_6 rfl rfl ?_
    refine r_if_lt 19 (q := 10) dX11_forms_7 (by decide) rfl (fun c18 => ?_) (fun c18 => ?_)
    · rw [if_pos c18] at h
      exact t_X11_forms_j19 hd x1 x2 M _ h
    · rw [if_neg c18] at h
      refine r_iload_n (q := 11) dX11_forms_10 rfl rfl ?_
      refine r_iload_n (q := 12) dX11_forms_11 rfl rfl ?_
      refine r_icmp_ge 19 (q := 15) dX11_forms_12 (by decide) rfl (fun c19 => ?_) (fun c19 => ?_)
      · rw [if_pos c19] at h
        exact t_X11_forms_j19 hd x1 x2 M _ h
      · rw [if_neg c19] at h
        exact t_X11_forms_j15 hd x1 x2 M _ h
noncomputable def X10_costFrom (x1 : Int32) (M : mm_M) : Int32 := if x1 < 0 then 99999 else if 10 ≤ x1 then 99999 else (M 33 (Int32.toNatClampNeg x1))
set_option maxRecDepth 100000 in
set_option maxHeartbeats 400000 in
theorem t_X10_costFrom {d : Nat} (hd : 0 ≤ d) (x1 : Int32) (M : mm_M) (res : Int32) (h : X10_costFrom x1 M = res) : mm_Meth jX10_costFrom d 0 0 [(.inr 31), (.inl x1)] S_c M (mm_Zi res S_c M) := by
  refine r_meth (L := [some (.inr 31), some (.inl x1)]) rfl (fun D => ?_)
  unfold X10_costFrom at h
  refine r_iload_n (q := 1) dX10_costFrom_0 rfl rfl ?_
  refine r_if_lt 19 (q := 4) dX10_costFrom_1 (by decide) rfl (fun c1 => ?_) (fun c1 => ?_)
  · rw [if_pos c1] at h
    refine r_ldc (v := 99999) (q := 21) dX10_costFrom_19 ko_X10_36 rfl ?_
    subst h
    exact r_ret dX10_costFrom_21 rfl mm_Zi_rfl
  · rw [if_neg c1] at h
    refine r_iload_n (q := 5) dX10_costFrom_4 rfl rfl ?_
    refine r_bipush (v := 10) (q := 7) dX10_costFrom_5 (by decide) rfl ?_
    refine r_icmp_ge 19 (q := 10) dX10_costFrom_7 (by decide) rfl (fun c2 => ?_) (fun c2 => ?_)
    · rw [if_pos c2] at h
      refine r_ldc (v := 99999) (q := 21) dX10_costFrom_19 ko_X10_36 rfl ?_
      subst h
      exact r_ret dX10_costFrom_21 rfl mm_Zi_rfl
    · rw [if_neg c2] at h
      refine r_aload_n (q := 11) dX10_costFrom_10 rfl rfl ?_
      refine r_getr (b := 33) (q := 14) lk_X10_15 dX10_costFrom_11 sc_c_31 rfl rfl ?_
      refine r_iload_n (q := 15) dX10_costFrom_14 rfl rfl ?_
      refine r_iald (v := (M 33 (Int32.toNatClampNeg x1))) (q := 16) dX10_costFrom_15 sc_c_33 (mm_vp2 (Int32.not_lt.mp c1) (Int32.not_le.mp c2) (by decide)) rfl rfl ?_
      refine r_goto 21 dX10_costFrom_16 (by decide) ?_
      subst h
      exact r_ret dX10_costFrom_21 rfl mm_Zi_rfl
noncomputable def X10_fillCosts_l70 (a2 : Nat) (x5 : Int32) (x6 : Int32) (s : (Bool × Int32 × mm_M)) : Option ((Bool × Int32 × mm_M) ⊕ (Bool × mm_M)) := if 8 ≤ s.2.1 then some (.inr (s.1, s.2.2)) else if 8 ≤ s.2.1 then some (.inr (s.1, s.2.2)) else if mm_in s.2.1 8 = true then if mm_in x6 10 = true then if (s.2.2 33 (Int32.toNatClampNeg x6)) ≤ ((X10_costFrom (X8_behind s.2.1 x6 s.2.2) s.2.2) + (s.2.2 a2 (Int32.toNatClampNeg s.2.1))) then some (.inl (s.1, (s.2.1 + 1), s.2.2)) else if mm_in x6 10 = true then some (.inl (true, (s.2.1 + 1), (mm_U s.2.2 33 (Int32.toNatClampNeg x6) ((X10_costFrom (X8_behind s.2.1 x6 s.2.2) s.2.2) + (s.2.2 a2 (Int32.toNatClampNeg s.2.1)))))) else none else none else none
set_option maxRecDepth 100000 in
set_option maxHeartbeats 400000 in
theorem t_X10_fillCosts_l70_31_7_3 {D : mm_D} {d : Nat} (hd : 1 ≤ d) {Z : Option Int32 → List mm_C → mm_M → Prop} (x5 : Int32) (x6 : Int32) (n : Nat) (s : (Bool × Int32 × mm_M)) (r : (Bool × mm_M)) (h : mm_loop (X10_fillCosts_l70 3 x5 x6) n s = some r) (hx : mm_Go jX10_fillCosts D d 0 0 133 [some (.inr 31), some (.inr 7), some (.inr 3), none, some (.inl (mm_b r.1)), some (.inl x5), some (.inl x6), none, none] [] S_c r.2 Z) : mm_Go jX10_fillCosts D d 0 0 70 [some (.inr 31), some (.inr 7), some (.inr 3), none, some (.inl (mm_b s.1)), some (.inl x5), some (.inl x6), some (.inl s.2.1), none] [] S_c s.2.2 Z := by
  refine mm_loop_go (step := X10_fillCosts_l70 3 x5 x6) (Hd := fun (s : (Bool × Int32 × mm_M)) => mm_Go jX10_fillCosts D d 0 0 70 [some (.inr 31), some (.inr 7), some (.inr 3), none, some (.inl (mm_b s.1)), some (.inl x5), some (.inl x6), some (.inl s.2.1), none] [] S_c s.2.2 Z) (Ex := fun (r : (Bool × mm_M)) => mm_Go jX10_fillCosts D d 0 0 133 [some (.inr 31), some (.inr 7), some (.inr 3), none, some (.inl (mm_b r.1)), some (.inl x5), some (.inl x6), none, none] [] S_c r.2 Z) ?_ n s r h hx
  intro s o h kb ke
  show mm_Go jX10_fillCosts D d 0 0 70 [some (.inr 31), some (.inr 7), some (.inr 3), none, some (.inl (mm_b s.1)), some (.inl x5), some (.inl x6), some (.inl s.2.1), none] [] S_c s.2.2 Z
  unfold X10_fillCosts_l70 at h
  refine r_iload (q := 72) dX10_fillCosts_70 rfl rfl ?_
  refine r_bipush (v := 8) (q := 74) dX10_fillCosts_72 (by decide) rfl ?_
  refine r_icmp_ge 133 (q := 77) dX10_fillCosts_74 (by decide) rfl (fun c9 => ?_) (fun c9 => ?_)
  · rw [if_pos c9] at h
    refine r_forget (L' := [some (.inr 31), some (.inr 7), some (.inr 3), none, some (.inl (mm_b s.1)), some (.inl x5), some (.inl x6), none, none]) [true, true, true, false, true, true, true, false, false] rfl ?_
    cases h
    have hk := ke _ rfl
    exact hk
  · rw [if_neg c9] at h
    refine r_iload (q := 79) dX10_fillCosts_77 rfl rfl ?_
    refine r_aload_n (q := 80) dX10_fillCosts_79 rfl rfl ?_
    refine r_alen (v := 8) (q := 81) dX10_fillCosts_80 rfl rfl rfl ?_
    refine r_icmp_ge 133 (q := 84) dX10_fillCosts_81 (by decide) rfl (fun c10 => ?_) (fun c10 => ?_)
    · rw [if_pos c10] at h
      refine r_forget (L' := [some (.inr 31), some (.inr 7), some (.inr 3), none, some (.inl (mm_b s.1)), some (.inl x5), some (.inl x6), none, none]) [true, true, true, false, true, true, true, false, false] rfl ?_
      cases h
      have hk := ke _ rfl
      exact hk
    · rw [if_neg c10] at h
      refine r_aload_n (q := 85) dX10_fillCosts_84 rfl rfl ?_
      refine r_aload_n (q := 86) dX10_fillCosts_85 rfl rfl ?_
      refine r_iload (q := 88) dX10_fillCosts_86 rfl rfl ?_
      refine r_iload (q := 90) dX10_fillCosts_88 rfl rfl ?_
      refine r_callV_i (av := [(.inl s.2.1), (.inl x6)]) (st := [(.inr 31)]) (q := 93) (d1 := 0) kc_X10_37 sc_c_7 dX10_fillCosts_90 rfl rfl (Nat.le_of_ble_eq_true rfl) (Nat.le_of_ble_eq_true rfl) (by omega) rfl rfl (t_X8_behind (d := 0) (by omega) s.2.1 x6 s.2.2 _ rfl) ?_
      refine r_callV_i (av := [(.inl (X8_behind s.2.1 x6 s.2.2))]) (st := []) (q := 96) (d1 := 0) kc_X10_32 sc_c_31 dX10_fillCosts_93 rfl rfl (Nat.le_of_ble_eq_true rfl) (Nat.le_of_ble_eq_true rfl) (by omega) rfl rfl (t_X10_costFrom (d := 0) (by omega) (X8_behind s.2.1 x6 s.2.2) s.2.2 _ rfl) ?_
      refine r_aload_n (q := 97) dX10_fillCosts_96 rfl rfl ?_
      refine r_iload (q := 99) dX10_fillCosts_97 rfl rfl ?_
      obtain ⟨g11, h⟩ := mm_guard h
      refine r_iald (v := (s.2.2 3 (Int32.toNatClampNeg s.2.1))) (q := 100) dX10_fillCosts_99 rfl (mm_vp g11) rfl rfl ?_
      refine r_iadd (q := 101) dX10_fillCosts_100 rfl ?_
      refine r_istore (q := 103) (L' := [some (.inr 31), some (.inr 7), some (.inr 3), none, some (.inl (mm_b s.1)), some (.inl x5), some (.inl x6), some (.inl s.2.1), some (.inl ((X10_costFrom (X8_behind s.2.1 x6 s.2.2) s.2.2) + (s.2.2 3 (Int32.toNatClampNeg s.2.1))))]) dX10_fillCosts_101 (by decide) rfl rfl ?_
      refine r_iload (q := 105) dX10_fillCosts_103 rfl rfl ?_
      refine r_aload_n (q := 106) dX10_fillCosts_105 rfl rfl ?_
      refine r_getr (b := 33) (q := 109) lk_X10_15 dX10_fillCosts_106 sc_c_31 rfl rfl ?_
      refine r_iload (q := 111) dX10_fillCosts_109 rfl rfl ?_
      obtain ⟨g12, h⟩ := mm_guard h
      refine r_iald (v := (s.2.2 33 (Int32.toNatClampNeg x6))) (q := 112) dX10_fillCosts_111 sc_c_33 (mm_vp g12) rfl rfl ?_
      refine r_icmp_ge 127 (q := 115) dX10_fillCosts_112 (by decide) rfl (fun c13 => ?_) (fun c13 => ?_)
      · rw [if_pos c13] at h
        refine r_iinc (v := 1) (q := 130) (L' := [some (.inr 31), some (.inr 7), some (.inr 3), none, some (.inl (mm_b s.1)), some (.inl x5), some (.inl x6), some (.inl (s.2.1 + 1)), some (.inl ((X10_costFrom (X8_behind s.2.1 x6 s.2.2) s.2.2) + (s.2.2 3 (Int32.toNatClampNeg s.2.1))))]) dX10_fillCosts_127 (by decide) (by decide) rfl rfl rfl ?_
        refine r_goto 70 dX10_fillCosts_130 (by decide) ?_
        refine r_forget (L' := [some (.inr 31), some (.inr 7), some (.inr 3), none, some (.inl (mm_b s.1)), some (.inl x5), some (.inl x6), some (.inl (s.2.1 + 1)), none]) [true, true, true, false, true, true, true, true, false] rfl ?_
        cases h
        have hk := kb _ rfl
        exact hk
      · rw [if_neg c13] at h
        refine r_aload_n (q := 116) dX10_fillCosts_115 rfl rfl ?_
        refine r_getr (b := 33) (q := 119) lk_X10_15 dX10_fillCosts_116 sc_c_31 rfl rfl ?_
        refine r_iload (q := 121) dX10_fillCosts_119 rfl rfl ?_
        refine r_iload (q := 123) dX10_fillCosts_121 rfl rfl ?_
        obtain ⟨g14, h⟩ := mm_guard h
        refine r_iast (j := (Int32.toNatClampNeg x6)) (q := 124) dX10_fillCosts_123 sc_c_33 (mm_vp g14) rfl rfl ?_
        refine r_iconst (v := 1) (q := 125) dX10_fillCosts_124 (by decide) rfl ?_
        refine r_istore (q := 127) (L' := [some (.inr 31), some (.inr 7), some (.inr 3), none, some (.inl 1), some (.inl x5), some (.inl x6), some (.inl s.2.1), some (.inl ((X10_costFrom (X8_behind s.2.1 x6 s.2.2) s.2.2) + (s.2.2 3 (Int32.toNatClampNeg s.2.1))))]) dX10_fillCosts_125 (by decide) rfl rfl ?_
        refine r_iinc (v := 1) (q := 130) (L' := [some (.inr 31), some (.inr 7), some (.inr 3), none, some (.inl 1), some (.inl x5), some (.inl x6), some (.inl (s.2.1 + 1)), some (.inl ((X10_costFrom (X8_behind s.2.1 x6 s.2.2) s.2.2) + (s.2.2 3 (Int32.toNatClampNeg s.2.1))))]) dX10_fillCosts_127 (by decide) (by decide) rfl rfl rfl ?_
        refine r_goto 70 dX10_fillCosts_130 (by decide) ?_
        refine r_forget (L' := [some (.inr 31), some (.inr 7), some (.inr 3), none, some (.inl 1), some (.inl x5), some (.inl x6), some (.inl (s.2.1 + 1)), none]) [true, true, true, false, true, true, true, true, false] rfl ?_
        cases h
        have hk := kb _ rfl
        exact hk
set_option maxRecDepth 100000 in
set_option maxHeartbeats 400000 in
theorem t_X10_fillCosts_l70_31_7_32 {D : mm_D} {d : Nat} (hd : 1 ≤ d) {Z : Option Int32 → List mm_C → mm_M → Prop} (x5 : Int32) (x6 : Int32) (n : Nat) (s : (Bool × Int32 × mm_M)) (r : (Bool × mm_M)) (h : mm_loop (X10_fillCosts_l70 32 x5 x6) n s = some r) (hx : mm_Go jX10_fillCosts D d 0 0 133 [some (.inr 31), some (.inr 7), some (.inr 32), none, some (.inl (mm_b r.1)), some (.inl x5), some (.inl x6), none, none] [] S_c r.2 Z) : mm_Go jX10_fillCosts D d 0 0 70 [some (.inr 31), some (.inr 7), some (.inr 32), none, some (.inl (mm_b s.1)), some (.inl x5), some (.inl x6), some (.inl s.2.1), none] [] S_c s.2.2 Z := by
  refine mm_loop_go (step := X10_fillCosts_l70 32 x5 x6) (Hd := fun (s : (Bool × Int32 × mm_M)) => mm_Go jX10_fillCosts D d 0 0 70 [some (.inr 31), some (.inr 7), some (.inr 32), none, some (.inl (mm_b s.1)), some (.inl x5), some (.inl x6), some (.inl s.2.1), none] [] S_c s.2.2 Z) (Ex := fun (r : (Bool × mm_M)) => mm_Go jX10_fillCosts D d 0 0 133 [some (.inr 31), some (.inr 7), some (.inr 32), none, some (.inl (mm_b r.1)), some (.inl x5), some (.inl x6), none, none] [] S_c r.2 Z) ?_ n s r h hx
  intro s o h kb ke
  show mm_Go jX10_fillCosts D d 0 0 70 [some (.inr 31), some (.inr 7), some (.inr 32), none, some (.inl (mm_b s.1)), some (.inl x5), some (.inl x6), some (.inl s.2.1), none] [] S_c s.2.2 Z
  unfold X10_fillCosts_l70 at h
  refine r_iload (q := 72) dX10_fillCosts_70 rfl rfl ?_
  refine r_bipush (v := 8) (q := 74) dX10_fillCosts_72 (by decide) rfl ?_
  refine r_icmp_ge 133 (q := 77) dX10_fillCosts_74 (by decide) rfl (fun c9 => ?_) (fun c9 => ?_)
  · rw [if_pos c9] at h
    refine r_forget (L' := [some (.inr 31), some (.inr 7), some (.inr 32), none, some (.inl (mm_b s.1)), some (.inl x5), some (.inl x6), none, none]) [true, true, true, false, true, true, true, false, false] rfl ?_
    cases h
    have hk := ke _ rfl
    exact hk
  · rw [if_neg c9] at h
    refine r_iload (q := 79) dX10_fillCosts_77 rfl rfl ?_
    refine r_aload_n (q := 80) dX10_fillCosts_79 rfl rfl ?_
    refine r_alen (v := 8) (q := 81) dX10_fillCosts_80 rfl rfl rfl ?_
    refine r_icmp_ge 133 (q := 84) dX10_fillCosts_81 (by decide) rfl (fun c10 => ?_) (fun c10 => ?_)
    · rw [if_pos c10] at h
      refine r_forget (L' := [some (.inr 31), some (.inr 7), some (.inr 32), none, some (.inl (mm_b s.1)), some (.inl x5), some (.inl x6), none, none]) [true, true, true, false, true, true, true, false, false] rfl ?_
      cases h
      have hk := ke _ rfl
      exact hk
    · rw [if_neg c10] at h
      refine r_aload_n (q := 85) dX10_fillCosts_84 rfl rfl ?_
      refine r_aload_n (q := 86) dX10_fillCosts_85 rfl rfl ?_
      refine r_iload (q := 88) dX10_fillCosts_86 rfl rfl ?_
      refine r_iload (q := 90) dX10_fillCosts_88 rfl rfl ?_
      refine r_callV_i (av := [(.inl s.2.1), (.inl x6)]) (st := [(.inr 31)]) (q := 93) (d1 := 0) kc_X10_37 sc_c_7 dX10_fillCosts_90 rfl rfl (Nat.le_of_ble_eq_true rfl) (Nat.le_of_ble_eq_true rfl) (by omega) rfl rfl (t_X8_behind (d := 0) (by omega) s.2.1 x6 s.2.2 _ rfl) ?_
      refine r_callV_i (av := [(.inl (X8_behind s.2.1 x6 s.2.2))]) (st := []) (q := 96) (d1 := 0) kc_X10_32 sc_c_31 dX10_fillCosts_93 rfl rfl (Nat.le_of_ble_eq_true rfl) (Nat.le_of_ble_eq_true rfl) (by omega) rfl rfl (t_X10_costFrom (d := 0) (by omega) (X8_behind s.2.1 x6 s.2.2) s.2.2 _ rfl) ?_
      refine r_aload_n (q := 97) dX10_fillCosts_96 rfl rfl ?_
      refine r_iload (q := 99) dX10_fillCosts_97 rfl rfl ?_
      obtain ⟨g11, h⟩ := mm_guard h
      refine r_iald (v := (s.2.2 32 (Int32.toNatClampNeg s.2.1))) (q := 100) dX10_fillCosts_99 rfl (mm_vp g11) rfl rfl ?_
      refine r_iadd (q := 101) dX10_fillCosts_100 rfl ?_
      refine r_istore (q := 103) (L' := [some (.inr 31), some (.inr 7), some (.inr 32), none, some (.inl (mm_b s.1)), some (.inl x5), some (.inl x6), some (.inl s.2.1), some (.inl ((X10_costFrom (X8_behind s.2.1 x6 s.2.2) s.2.2) + (s.2.2 32 (Int32.toNatClampNeg s.2.1))))]) dX10_fillCosts_101 (by decide) rfl rfl ?_
      refine r_iload (q := 105) dX10_fillCosts_103 rfl rfl ?_
      refine r_aload_n (q := 106) dX10_fillCosts_105 rfl rfl ?_
      refine r_getr (b := 33) (q := 109) lk_X10_15 dX10_fillCosts_106 sc_c_31 rfl rfl ?_
      refine r_iload (q := 111) dX10_fillCosts_109 rfl rfl ?_
      obtain ⟨g12, h⟩ := mm_guard h
      refine r_iald (v := (s.2.2 33 (Int32.toNatClampNeg x6))) (q := 112) dX10_fillCosts_111 sc_c_33 (mm_vp g12) rfl rfl ?_
      refine r_icmp_ge 127 (q := 115) dX10_fillCosts_112 (by decide) rfl (fun c13 => ?_) (fun c13 => ?_)
      · rw [if_pos c13] at h
        refine r_iinc (v := 1) (q := 130) (L' := [some (.inr 31), some (.inr 7), some (.inr 32), none, some (.inl (mm_b s.1)), some (.inl x5), some (.inl x6), some (.inl (s.2.1 + 1)), some (.inl ((X10_costFrom (X8_behind s.2.1 x6 s.2.2) s.2.2) + (s.2.2 32 (Int32.toNatClampNeg s.2.1))))]) dX10_fillCosts_127 (by decide) (by decide) rfl rfl rfl ?_
        refine r_goto 70 dX10_fillCosts_130 (by decide) ?_
        refine r_forget (L' := [some (.inr 31), some (.inr 7), some (.inr 32), none, some (.inl (mm_b s.1)), some (.inl x5), some (.inl x6), some (.inl (s.2.1 + 1)), none]) [true, true, true, false, true, true, true, true, false] rfl ?_
        cases h
        have hk := kb _ rfl
        exact hk
      · rw [if_neg c13] at h
        refine r_aload_n (q := 116) dX10_fillCosts_115 rfl rfl ?_
        refine r_getr (b := 33) (q := 119) lk_X10_15 dX10_fillCosts_116 sc_c_31 rfl rfl ?_
        refine r_iload (q := 121) dX10_fillCosts_119 rfl rfl ?_
        refine r_iload (q := 123) dX10_fillCosts_121 rfl rfl ?_
        obtain ⟨g14, h⟩ := mm_guard h
        refine r_iast (j := (Int32.toNatClampNeg x6)) (q := 124) dX10_fillCosts_123 sc_c_33 (mm_vp g14) rfl rfl ?_
        refine r_iconst (v := 1) (q := 125) dX10_fillCosts_124 (by decide) rfl ?_
        refine r_istore (q := 127) (L' := [some (.inr 31), some (.inr 7), some (.inr 32), none, some (.inl 1), some (.inl x5), some (.inl x6), some (.inl s.2.1), some (.inl ((X10_costFrom (X8_behind s.2.1 x6 s.2.2) s.2.2) + (s.2.2 32 (Int32.toNatClampNeg s.2.1))))]) dX10_fillCosts_125 (by decide) rfl rfl ?_
        refine r_iinc (v := 1) (q := 130) (L' := [some (.inr 31), some (.inr 7), some (.inr 32), none, some (.inl 1), some (.inl x5), some (.inl x6), some (.inl (s.2.1 + 1)), some (.inl ((X10_costFrom (X8_behind s.2.1 x6 s.2.2) s.2.2) + (s.2.2 32 (Int32.toNatClampNeg s.2.1))))]) dX10_fillCosts_127 (by decide) (by decide) rfl rfl rfl ?_
        refine r_goto 70 dX10_fillCosts_130 (by decide) ?_
        refine r_forget (L' := [some (.inr 31), some (.inr 7), some (.inr 32), none, some (.inl 1), some (.inl x5), some (.inl x6), some (.inl (s.2.1 + 1)), none]) [true, true, true, false, true, true, true, true, false] rfl ?_
        cases h
        have hk := kb _ rfl
        exact hk
noncomputable def X10_fillCosts_l51 (a2 : Nat) (x5 : Int32) (s : (Bool × Int32 × mm_M)) : Option ((Bool × Int32 × mm_M) ⊕ (Bool × mm_M)) := if (s.2.2 7 0) ≤ s.2.1 then some (.inr (s.1, s.2.2)) else if 10 ≤ s.2.1 then some (.inr (s.1, s.2.2)) else (mm_loop (X10_fillCosts_l70 a2 x5 s.2.1) mm_fuel (s.1, 0, s.2.2)).bind fun y15 => some (.inl (y15.1, (s.2.1 + 1), y15.2))
set_option maxRecDepth 100000 in
set_option maxHeartbeats 400000 in
theorem t_X10_fillCosts_l51_31_7_3 {D : mm_D} {d : Nat} (hd : 1 ≤ d) {Z : Option Int32 → List mm_C → mm_M → Prop} (x5 : Int32) (n : Nat) (s : (Bool × Int32 × mm_M)) (r : (Bool × mm_M)) (h : mm_loop (X10_fillCosts_l51 3 x5) n s = some r) (hx : mm_Go jX10_fillCosts D d 0 0 139 [some (.inr 31), some (.inr 7), some (.inr 3), none, some (.inl (mm_b r.1)), some (.inl x5), none, none, none] [] S_c r.2 Z) : mm_Go jX10_fillCosts D d 0 0 51 [some (.inr 31), some (.inr 7), some (.inr 3), none, some (.inl (mm_b s.1)), some (.inl x5), some (.inl s.2.1), none, none] [] S_c s.2.2 Z := by
  refine mm_loop_go (step := X10_fillCosts_l51 3 x5) (Hd := fun (s : (Bool × Int32 × mm_M)) => mm_Go jX10_fillCosts D d 0 0 51 [some (.inr 31), some (.inr 7), some (.inr 3), none, some (.inl (mm_b s.1)), some (.inl x5), some (.inl s.2.1), none, none] [] S_c s.2.2 Z) (Ex := fun (r : (Bool × mm_M)) => mm_Go jX10_fillCosts D d 0 0 139 [some (.inr 31), some (.inr 7), some (.inr 3), none, some (.inl (mm_b r.1)), some (.inl x5), none, none, none] [] S_c r.2 Z) ?_ n s r h hx
  intro s o h kb ke
  show mm_Go jX10_fillCosts D d 0 0 51 [some (.inr 31), some (.inr 7), some (.inr 3), none, some (.inl (mm_b s.1)), some (.inl x5), some (.inl s.2.1), none, none] [] S_c s.2.2 Z
  unfold X10_fillCosts_l51 at h
  refine r_iload (q := 53) dX10_fillCosts_51 rfl rfl ?_
  refine r_aload_n (q := 54) dX10_fillCosts_53 rfl rfl ?_
  refine r_geti (v := (s.2.2 7 0)) (q := 57) lk_X10_49 dX10_fillCosts_54 sc_c_7 rfl rfl rfl ?_
  refine r_icmp_ge 139 (q := 60) dX10_fillCosts_57 (by decide) rfl (fun c7 => ?_) (fun c7 => ?_)
  · rw [if_pos c7] at h
    refine r_forget (L' := [some (.inr 31), some (.inr 7), some (.inr 3), none, some (.inl (mm_b s.1)), some (.inl x5), none, none, none]) [true, true, true, false, true, true, false, false, false] rfl ?_
    cases h
    have hk := ke _ rfl
    exact hk
  · rw [if_neg c7] at h
    refine r_iload (q := 62) dX10_fillCosts_60 rfl rfl ?_
    refine r_bipush (v := 10) (q := 64) dX10_fillCosts_62 (by decide) rfl ?_
    refine r_icmp_ge 139 (q := 67) dX10_fillCosts_64 (by decide) rfl (fun c8 => ?_) (fun c8 => ?_)
    · rw [if_pos c8] at h
      refine r_forget (L' := [some (.inr 31), some (.inr 7), some (.inr 3), none, some (.inl (mm_b s.1)), some (.inl x5), none, none, none]) [true, true, true, false, true, true, false, false, false] rfl ?_
      cases h
      have hk := ke _ rfl
      exact hk
    · rw [if_neg c8] at h
      refine r_iconst (v := 0) (q := 68) dX10_fillCosts_67 (by decide) rfl ?_
      refine r_istore (q := 70) (L' := [some (.inr 31), some (.inr 7), some (.inr 3), none, some (.inl (mm_b s.1)), some (.inl x5), some (.inl s.2.1), some (.inl 0), none]) dX10_fillCosts_68 (by decide) rfl rfl ?_
      obtain ⟨y15, e16, h⟩ := Option.bind_eq_some_iff.mp h
      refine t_X10_fillCosts_l70_31_7_3 hd x5 s.2.1 mm_fuel (s.1, 0, s.2.2) _ e16 ?_
      show mm_Go jX10_fillCosts _ _ _ _ 133 [some (.inr 31), some (.inr 7), some (.inr 3), none, some (.inl (mm_b y15.1)), some (.inl x5), some (.inl s.2.1), none, none] [] S_c y15.2 _
      refine r_iinc (v := 1) (q := 136) (L' := [some (.inr 31), some (.inr 7), some (.inr 3), none, some (.inl (mm_b y15.1)), some (.inl x5), some (.inl (s.2.1 + 1)), none, none]) dX10_fillCosts_133 (by decide) (by decide) rfl rfl rfl ?_
      refine r_goto 51 dX10_fillCosts_136 (by decide) ?_
      cases h
      have hk := kb _ rfl
      exact hk
set_option maxRecDepth 100000 in
set_option maxHeartbeats 400000 in
theorem t_X10_fillCosts_l51_31_7_32 {D : mm_D} {d : Nat} (hd : 1 ≤ d) {Z : Option Int32 → List mm_C → mm_M → Prop} (x5 : Int32) (n : Nat) (s : (Bool × Int32 × mm_M)) (r : (Bool × mm_M)) (h : mm_loop (X10_fillCosts_l51 32 x5) n s = some r) (hx : mm_Go jX10_fillCosts D d 0 0 139 [some (.inr 31), some (.inr 7), some (.inr 32), none, some (.inl (mm_b r.1)), some (.inl x5), none, none, none] [] S_c r.2 Z) : mm_Go jX10_fillCosts D d 0 0 51 [some (.inr 31), some (.inr 7), some (.inr 32), none, some (.inl (mm_b s.1)), some (.inl x5), some (.inl s.2.1), none, none] [] S_c s.2.2 Z := by
  refine mm_loop_go (step := X10_fillCosts_l51 32 x5) (Hd := fun (s : (Bool × Int32 × mm_M)) => mm_Go jX10_fillCosts D d 0 0 51 [some (.inr 31), some (.inr 7), some (.inr 32), none, some (.inl (mm_b s.1)), some (.inl x5), some (.inl s.2.1), none, none] [] S_c s.2.2 Z) (Ex := fun (r : (Bool × mm_M)) => mm_Go jX10_fillCosts D d 0 0 139 [some (.inr 31), some (.inr 7), some (.inr 32), none, some (.inl (mm_b r.1)), some (.inl x5), none, none, none] [] S_c r.2 Z) ?_ n s r h hx
  intro s o h kb ke
  show mm_Go jX10_fillCosts D d 0 0 51 [some (.inr 31), some (.inr 7), some (.inr 32), none, some (.inl (mm_b s.1)), some (.inl x5), some (.inl s.2.1), none, none] [] S_c s.2.2 Z
  unfold X10_fillCosts_l51 at h
  refine r_iload (q := 53) dX10_fillCosts_51 rfl rfl ?_
  refine r_aload_n (q := 54) dX10_fillCosts_53 rfl rfl ?_
  refine r_geti (v := (s.2.2 7 0)) (q := 57) lk_X10_49 dX10_fillCosts_54 sc_c_7 rfl rfl rfl ?_
  refine r_icmp_ge 139 (q := 60) dX10_fillCosts_57 (by decide) rfl (fun c7 => ?_) (fun c7 => ?_)
  · rw [if_pos c7] at h
    refine r_forget (L' := [some (.inr 31), some (.inr 7), some (.inr 32), none, some (.inl (mm_b s.1)), some (.inl x5), none, none, none]) [true, true, true, false, true, true, false, false, false] rfl ?_
    cases h
    have hk := ke _ rfl
    exact hk
  · rw [if_neg c7] at h
    refine r_iload (q := 62) dX10_fillCosts_60 rfl rfl ?_
    refine r_bipush (v := 10) (q := 64) dX10_fillCosts_62 (by decide) rfl ?_
    refine r_icmp_ge 139 (q := 67) dX10_fillCosts_64 (by decide) rfl (fun c8 => ?_) (fun c8 => ?_)
    · rw [if_pos c8] at h
      refine r_forget (L' := [some (.inr 31), some (.inr 7), some (.inr 32), none, some (.inl (mm_b s.1)), some (.inl x5), none, none, none]) [true, true, true, false, true, true, false, false, false] rfl ?_
      cases h
      have hk := ke _ rfl
      exact hk
    · rw [if_neg c8] at h
      refine r_iconst (v := 0) (q := 68) dX10_fillCosts_67 (by decide) rfl ?_
      refine r_istore (q := 70) (L' := [some (.inr 31), some (.inr 7), some (.inr 32), none, some (.inl (mm_b s.1)), some (.inl x5), some (.inl s.2.1), some (.inl 0), none]) dX10_fillCosts_68 (by decide) rfl rfl ?_
      obtain ⟨y15, e16, h⟩ := Option.bind_eq_some_iff.mp h
      refine t_X10_fillCosts_l70_31_7_32 hd x5 s.2.1 mm_fuel (s.1, 0, s.2.2) _ e16 ?_
      show mm_Go jX10_fillCosts _ _ _ _ 133 [some (.inr 31), some (.inr 7), some (.inr 32), none, some (.inl (mm_b y15.1)), some (.inl x5), some (.inl s.2.1), none, none] [] S_c y15.2 _
      refine r_iinc (v := 1) (q := 136) (L' := [some (.inr 31), some (.inr 7), some (.inr 32), none, some (.inl (mm_b y15.1)), some (.inl x5), some (.inl (s.2.1 + 1)), none, none]) dX10_fillCosts_133 (by decide) (by decide) rfl rfl rfl ?_
      refine r_goto 51 dX10_fillCosts_136 (by decide) ?_
      cases h
      have hk := kb _ rfl
      exact hk
noncomputable def X10_fillCosts_l33 (a2 : Nat) (s : (Bool × Int32 × mm_M)) : Option ((Bool × Int32 × mm_M) ⊕ mm_M) := if 10 ≤ s.2.1 then some (.inr s.2.2) else if s.1 = true then (mm_loop (X10_fillCosts_l51 a2 s.2.1) mm_fuel (false, 0, s.2.2)).bind fun y17 => some (.inl (y17.1, (s.2.1 + 1), y17.2)) else some (.inr s.2.2)
set_option maxRecDepth 100000 in
set_option maxHeartbeats 400000 in
theorem t_X10_fillCosts_l33_31_7_3 {D : mm_D} {d : Nat} (hd : 1 ≤ d) {Z : Option Int32 → List mm_C → mm_M → Prop} (n : Nat) (s : (Bool × Int32 × mm_M)) (r : mm_M) (h : mm_loop (X10_fillCosts_l33 3) n s = some r) (hx : Z none S_c r) : mm_Go jX10_fillCosts D d 0 0 33 [some (.inr 31), some (.inr 7), some (.inr 3), none, some (.inl (mm_b s.1)), some (.inl s.2.1), none, none, none] [] S_c s.2.2 Z := by
  refine mm_loop_go (step := X10_fillCosts_l33 3) (Hd := fun (s : (Bool × Int32 × mm_M)) => mm_Go jX10_fillCosts D d 0 0 33 [some (.inr 31), some (.inr 7), some (.inr 3), none, some (.inl (mm_b s.1)), some (.inl s.2.1), none, none, none] [] S_c s.2.2 Z) (Ex := fun (r : mm_M) => Z none S_c r) ?_ n s r h hx
  intro s o h kb ke
  show mm_Go jX10_fillCosts D d 0 0 33 [some (.inr 31), some (.inr 7), some (.inr 3), none, some (.inl (mm_b s.1)), some (.inl s.2.1), none, none, none] [] S_c s.2.2 Z
  unfold X10_fillCosts_l33 at h
  refine r_iload (q := 35) dX10_fillCosts_33 rfl rfl ?_
  refine r_bipush (v := 10) (q := 37) dX10_fillCosts_35 (by decide) rfl ?_
  refine r_icmp_ge 145 (q := 40) dX10_fillCosts_37 (by decide) rfl (fun c5 => ?_) (fun c5 => ?_)
  · rw [if_pos c5] at h
    cases h
    have hk := ke _ rfl
    exact r_retv dX10_fillCosts_145 rfl hk
  · rw [if_neg c5] at h
    refine r_iload (q := 42) dX10_fillCosts_40 rfl rfl ?_
    refine r_if_eq 145 (q := 45) dX10_fillCosts_42 (by decide) rfl (fun c6 => ?_) (fun c6 => ?_)
    · rw [if_neg (mm_b0 c6)] at h
      cases h
      have hk := ke _ rfl
      exact r_retv dX10_fillCosts_145 rfl hk
    · rw [if_pos (mm_b1 c6)] at h
      refine r_iconst (v := 0) (q := 46) dX10_fillCosts_45 (by decide) rfl ?_
      refine r_istore (q := 48) (L' := [some (.inr 31), some (.inr 7), some (.inr 3), none, some (.inl 0), some (.inl s.2.1), none, none, none]) dX10_fillCosts_46 (by decide) rfl rfl ?_
      refine r_iconst (v := 0) (q := 49) dX10_fillCosts_48 (by decide) rfl ?_
      refine r_istore (q := 51) (L' := [some (.inr 31), some (.inr 7), some (.inr 3), none, some (.inl 0), some (.inl s.2.1), some (.inl 0), none, none]) dX10_fillCosts_49 (by decide) rfl rfl ?_
      obtain ⟨y17, e18, h⟩ := Option.bind_eq_some_iff.mp h
      refine t_X10_fillCosts_l51_31_7_3 hd s.2.1 mm_fuel (false, 0, s.2.2) _ e18 ?_
      show mm_Go jX10_fillCosts _ _ _ _ 139 [some (.inr 31), some (.inr 7), some (.inr 3), none, some (.inl (mm_b y17.1)), some (.inl s.2.1), none, none, none] [] S_c y17.2 _
      refine r_iinc (v := 1) (q := 142) (L' := [some (.inr 31), some (.inr 7), some (.inr 3), none, some (.inl (mm_b y17.1)), some (.inl (s.2.1 + 1)), none, none, none]) dX10_fillCosts_139 (by decide) (by decide) rfl rfl rfl ?_
      refine r_goto 33 dX10_fillCosts_142 (by decide) ?_
      cases h
      have hk := kb _ rfl
      exact hk
set_option maxRecDepth 100000 in
set_option maxHeartbeats 400000 in
theorem t_X10_fillCosts_l33_31_7_32 {D : mm_D} {d : Nat} (hd : 1 ≤ d) {Z : Option Int32 → List mm_C → mm_M → Prop} (n : Nat) (s : (Bool × Int32 × mm_M)) (r : mm_M) (h : mm_loop (X10_fillCosts_l33 32) n s = some r) (hx : Z none S_c r) : mm_Go jX10_fillCosts D d 0 0 33 [some (.inr 31), some (.inr 7), some (.inr 32), none, some (.inl (mm_b s.1)), some (.inl s.2.1), none, none, none] [] S_c s.2.2 Z := by
  refine mm_loop_go (step := X10_fillCosts_l33 32) (Hd := fun (s : (Bool × Int32 × mm_M)) => mm_Go jX10_fillCosts D d 0 0 33 [some (.inr 31), some (.inr 7), some (.inr 32), none, some (.inl (mm_b s.1)), some (.inl s.2.1), none, none, none] [] S_c s.2.2 Z) (Ex := fun (r : mm_M) => Z none S_c r) ?_ n s r h hx
  intro s o h kb ke
  show mm_Go jX10_fillCosts D d 0 0 33 [some (.inr 31), some (.inr 7), some (.inr 32), none, some (.inl (mm_b s.1)), some (.inl s.2.1), none, none, none] [] S_c s.2.2 Z
  unfold X10_fillCosts_l33 at h
  refine r_iload (q := 35) dX10_fillCosts_33 rfl rfl ?_
  refine r_bipush (v := 10) (q := 37) dX10_fillCosts_35 (by decide) rfl ?_
  refine r_icmp_ge 145 (q := 40) dX10_fillCosts_37 (by decide) rfl (fun c5 => ?_) (fun c5 => ?_)
  · rw [if_pos c5] at h
    cases h
    have hk := ke _ rfl
    exact r_retv dX10_fillCosts_145 rfl hk
  · rw [if_neg c5] at h
    refine r_iload (q := 42) dX10_fillCosts_40 rfl rfl ?_
    refine r_if_eq 145 (q := 45) dX10_fillCosts_42 (by decide) rfl (fun c6 => ?_) (fun c6 => ?_)
    · rw [if_neg (mm_b0 c6)] at h
      cases h
      have hk := ke _ rfl
      exact r_retv dX10_fillCosts_145 rfl hk
    · rw [if_pos (mm_b1 c6)] at h
      refine r_iconst (v := 0) (q := 46) dX10_fillCosts_45 (by decide) rfl ?_
      refine r_istore (q := 48) (L' := [some (.inr 31), some (.inr 7), some (.inr 32), none, some (.inl 0), some (.inl s.2.1), none, none, none]) dX10_fillCosts_46 (by decide) rfl rfl ?_
      refine r_iconst (v := 0) (q := 49) dX10_fillCosts_48 (by decide) rfl ?_
      refine r_istore (q := 51) (L' := [some (.inr 31), some (.inr 7), some (.inr 32), none, some (.inl 0), some (.inl s.2.1), some (.inl 0), none, none]) dX10_fillCosts_49 (by decide) rfl rfl ?_
      obtain ⟨y17, e18, h⟩ := Option.bind_eq_some_iff.mp h
      refine t_X10_fillCosts_l51_31_7_32 hd s.2.1 mm_fuel (false, 0, s.2.2) _ e18 ?_
      show mm_Go jX10_fillCosts _ _ _ _ 139 [some (.inr 31), some (.inr 7), some (.inr 32), none, some (.inl (mm_b y17.1)), some (.inl s.2.1), none, none, none] [] S_c y17.2 _
      refine r_iinc (v := 1) (q := 142) (L' := [some (.inr 31), some (.inr 7), some (.inr 32), none, some (.inl (mm_b y17.1)), some (.inl (s.2.1 + 1)), none, none, none]) dX10_fillCosts_139 (by decide) (by decide) rfl rfl rfl ?_
      refine r_goto 33 dX10_fillCosts_142 (by decide) ?_
      cases h
      have hk := kb _ rfl
      exact hk
noncomputable def X10_fillCosts (a2 : Nat) (x3 : Int32) (M : mm_M) : Option mm_M := (J7_fill_53178 33 99999 M).bind fun y2 => if x3 < 0 then some y2 else if x3 < 10 then (mm_loop (X10_fillCosts_l33 a2) mm_fuel (true, 0, (mm_U y2 33 (Int32.toNatClampNeg x3) 0))) else some y2
set_option maxRecDepth 100000 in
set_option maxHeartbeats 400000 in
theorem t_X10_fillCosts_31_7_3 {d : Nat} (hd : 1 ≤ d) (x3 : Int32) (M : mm_M) (res : mm_M) (h : X10_fillCosts 3 x3 M = some res) : mm_Meth jX10_fillCosts d 0 0 [(.inr 31), (.inr 7), (.inr 3), (.inl x3)] S_c M (mm_Zv S_c res) := by
  refine r_meth (L := [some (.inr 31), some (.inr 7), some (.inr 3), some (.inl x3), none, none, none, none, none]) rfl (fun D => ?_)
  unfold X10_fillCosts at h
  refine r_aload_n (q := 1) dX10_fillCosts_0 rfl rfl ?_
  refine r_getr (b := 33) (q := 4) lk_X10_15 dX10_fillCosts_1 sc_c_31 rfl rfl ?_
  refine r_ldc (v := 99999) (q := 6) dX10_fillCosts_4 ko_X10_36 rfl ?_
  obtain ⟨y2, e1, h⟩ := Option.bind_eq_some_iff.mp h
  refine r_callS_v (av := [(.inr 33), (.inl 99999)]) (st := []) (q := 9) (d1 := 0) kc_X10_43 dX10_fillCosts_6 rfl rfl (Nat.le_of_ble_eq_true rfl) (Nat.le_of_ble_eq_true rfl) (by omega) rfl rfl (t_J7_fill_53178_33 (d := 0) (by omega) 99999 M _ e1) ?_
  refine r_iload_n (q := 10) dX10_fillCosts_9 rfl rfl ?_
  refine r_if_lt 19 (q := 13) dX10_fillCosts_10 (by decide) rfl (fun c3 => ?_) (fun c3 => ?_)
  · rw [if_pos c3] at h
    cases h
    exact r_retv dX10_fillCosts_19 rfl mm_Zv_rfl
  · rw [if_neg c3] at h
    refine r_iload_n (q := 14) dX10_fillCosts_13 rfl rfl ?_
    refine r_bipush (v := 10) (q := 16) dX10_fillCosts_14 (by decide) rfl ?_
    refine r_icmp_lt 20 (q := 19) dX10_fillCosts_16 (by decide) rfl (fun c4 => ?_) (fun c4 => ?_)
    · rw [if_pos c4] at h
      refine r_aload_n (q := 21) dX10_fillCosts_20 rfl rfl ?_
      refine r_getr (b := 33) (q := 24) lk_X10_15 dX10_fillCosts_21 sc_c_31 rfl rfl ?_
      refine r_iload_n (q := 25) dX10_fillCosts_24 rfl rfl ?_
      refine r_iconst (v := 0) (q := 26) dX10_fillCosts_25 (by decide) rfl ?_
      refine r_iast (j := (Int32.toNatClampNeg x3)) (q := 27) dX10_fillCosts_26 sc_c_33 (mm_vp2 (Int32.not_lt.mp c3) c4 (by decide)) rfl rfl ?_
      refine r_iconst (v := 1) (q := 28) dX10_fillCosts_27 (by decide) rfl ?_
      refine r_istore (q := 30) (L' := [some (.inr 31), some (.inr 7), some (.inr 3), some (.inl x3), some (.inl 1), none, none, none, none]) dX10_fillCosts_28 (by decide) rfl rfl ?_
      refine r_iconst (v := 0) (q := 31) dX10_fillCosts_30 (by decide) rfl ?_
      refine r_istore (q := 33) (L' := [some (.inr 31), some (.inr 7), some (.inr 3), some (.inl x3), some (.inl 1), some (.inl 0), none, none, none]) dX10_fillCosts_31 (by decide) rfl rfl ?_
      refine r_forget (L' := [some (.inr 31), some (.inr 7), some (.inr 3), none, some (.inl 1), some (.inl 0), none, none, none]) [true, true, true, false, true, true, false, false, false] rfl ?_
      exact t_X10_fillCosts_l33_31_7_3 hd mm_fuel (true, 0, (mm_U y2 33 (Int32.toNatClampNeg x3) 0)) _ h mm_Zv_rfl
    · rw [if_neg c4] at h
      cases h
      exact r_retv dX10_fillCosts_19 rfl mm_Zv_rfl
set_option maxRecDepth 100000 in
set_option maxHeartbeats 400000 in
theorem t_X10_fillCosts_31_7_32 {d : Nat} (hd : 1 ≤ d) (x3 : Int32) (M : mm_M) (res : mm_M) (h : X10_fillCosts 32 x3 M = some res) : mm_Meth jX10_fillCosts d 0 0 [(.inr 31), (.inr 7), (.inr 32), (.inl x3)] S_c M (mm_Zv S_c res) := by
  refine r_meth (L := [some (.inr 31), some (.inr 7), some (.inr 32), some (.inl x3), none, none, none, none, none]) rfl (fun D => ?_)
  unfold X10_fillCosts at h
  refine r_aload_n (q := 1) dX10_fillCosts_0 rfl rfl ?_
  refine r_getr (b := 33) (q := 4) lk_X10_15 dX10_fillCosts_1 sc_c_31 rfl rfl ?_
  refine r_ldc (v := 99999) (q := 6) dX10_fillCosts_4 ko_X10_36 rfl ?_
  obtain ⟨y2, e1, h⟩ := Option.bind_eq_some_iff.mp h
  refine r_callS_v (av := [(.inr 33), (.inl 99999)]) (st := []) (q := 9) (d1 := 0) kc_X10_43 dX10_fillCosts_6 rfl rfl (Nat.le_of_ble_eq_true rfl) (Nat.le_of_ble_eq_true rfl) (by omega) rfl rfl (t_J7_fill_53178_33 (d := 0) (by omega) 99999 M _ e1) ?_
  refine r_iload_n (q := 10) dX10_fillCosts_9 rfl rfl ?_
  refine r_if_lt 19 (q := 13) dX10_fillCosts_10 (by decide) rfl (fun c3 => ?_) (fun c3 => ?_)
  · rw [if_pos c3] at h
    cases h
    exact r_retv dX10_fillCosts_19 rfl mm_Zv_rfl
  · rw [if_neg c3] at h
    refine r_iload_n (q := 14) dX10_fillCosts_13 rfl rfl ?_
    refine r_bipush (v := 10) (q := 16) dX10_fillCosts_14 (by decide) rfl ?_
    refine r_icmp_lt 20 (q := 19) dX10_fillCosts_16 (by decide) rfl (fun c4 => ?_) (fun c4 => ?_)
    · rw [if_pos c4] at h
      refine r_aload_n (q := 21) dX10_fillCosts_20 rfl rfl ?_
      refine r_getr (b := 33) (q := 24) lk_X10_15 dX10_fillCosts_21 sc_c_31 rfl rfl ?_
      refine r_iload_n (q := 25) dX10_fillCosts_24 rfl rfl ?_
      refine r_iconst (v := 0) (q := 26) dX10_fillCosts_25 (by decide) rfl ?_
      refine r_iast (j := (Int32.toNatClampNeg x3)) (q := 27) dX10_fillCosts_26 sc_c_33 (mm_vp2 (Int32.not_lt.mp c3) c4 (by decide)) rfl rfl ?_
      refine r_iconst (v := 1) (q := 28) dX10_fillCosts_27 (by decide) rfl ?_
      refine r_istore (q := 30) (L' := [some (.inr 31), some (.inr 7), some (.inr 32), some (.inl x3), some (.inl 1), none, none, none, none]) dX10_fillCosts_28 (by decide) rfl rfl ?_
      refine r_iconst (v := 0) (q := 31) dX10_fillCosts_30 (by decide) rfl ?_
      refine r_istore (q := 33) (L' := [some (.inr 31), some (.inr 7), some (.inr 32), some (.inl x3), some (.inl 1), some (.inl 0), none, none, none]) dX10_fillCosts_31 (by decide) rfl rfl ?_
      refine r_forget (L' := [some (.inr 31), some (.inr 7), some (.inr 32), none, some (.inl 1), some (.inl 0), none, none, none]) [true, true, true, false, true, true, false, false, false] rfl ?_
      exact t_X10_fillCosts_l33_31_7_32 hd mm_fuel (true, 0, (mm_U y2 33 (Int32.toNatClampNeg x3) 0)) _ h mm_Zv_rfl
    · rw [if_neg c4] at h
      cases h
      exact r_retv dX10_fillCosts_19 rfl mm_Zv_rfl
noncomputable def X10_cost (a2 : Nat) (x3 : Int32) (x4 : Int32) (M : mm_M) : Option (Int32 × mm_M) := (X10_fillCosts a2 x4 M).bind fun y2 => if (X10_costFrom x3 y2) = 99999 then some ((-2), y2) else some ((X10_costFrom x3 y2), y2)
set_option maxRecDepth 100000 in
set_option maxHeartbeats 400000 in
theorem t_X10_cost_31_7_3 {d : Nat} (hd : 2 ≤ d) (x3 : Int32) (x4 : Int32) (M : mm_M) (res : (Int32 × mm_M)) (h : X10_cost 3 x3 x4 M = some res) : mm_Meth jX10_cost d 0 0 [(.inr 31), (.inr 7), (.inr 3), (.inl x3), (.inl x4)] S_c M (mm_Zi res.1 S_c res.2) := by
  refine r_meth (L := [some (.inr 31), some (.inr 7), some (.inr 3), some (.inl x3), some (.inl x4), none]) rfl (fun D => ?_)
  unfold X10_cost at h
  refine r_aload_n (q := 1) dX10_cost_0 rfl rfl ?_
  refine r_aload_n (q := 2) dX10_cost_1 rfl rfl ?_
  refine r_aload_n (q := 3) dX10_cost_2 rfl rfl ?_
  refine r_iload (q := 5) dX10_cost_3 rfl rfl ?_
  obtain ⟨y2, e1, h⟩ := Option.bind_eq_some_iff.mp h
  refine r_callV_v (av := [(.inr 7), (.inr 3), (.inl x4)]) (st := []) (q := 8) (d1 := 1) kc_X10_28 sc_c_31 dX10_cost_5 rfl rfl (Nat.le_of_ble_eq_true rfl) (Nat.le_of_ble_eq_true rfl) (by omega) rfl rfl (t_X10_fillCosts_31_7_3 (d := 1) (by omega) x4 M _ e1) ?_
  refine r_aload_n (q := 9) dX10_cost_8 rfl rfl ?_
  refine r_iload_n (q := 10) dX10_cost_9 rfl rfl ?_
  refine r_callV_i (av := [(.inl x3)]) (st := []) (q := 13) (d1 := 0) kc_X10_32 sc_c_31 dX10_cost_10 rfl rfl (Nat.le_of_ble_eq_true rfl) (Nat.le_of_ble_eq_true rfl) (by omega) rfl rfl (t_X10_costFrom (d := 0) (by omega) x3 y2 _ rfl) ?_
  refine r_istore (q := 15) (L' := [some (.inr 31), some (.inr 7), some (.inr 3), some (.inl x3), some (.inl x4), some (.inl (X10_costFrom x3 y2))]) dX10_cost_13 (by decide) rfl rfl ?_
  refine r_iload (q := 17) dX10_cost_15 rfl rfl ?_
  refine r_ldc (v := 99999) (q := 19) dX10_cost_17 ko_X10_36 rfl ?_
  refine r_icmp_ne 27 (q := 22) dX10_cost_19 (by decide) rfl (fun c3 => ?_) (fun c3 => ?_)
  · rw [if_neg c3] at h
    refine r_iload (q := 29) dX10_cost_27 rfl rfl ?_
    cases h
    exact r_ret dX10_cost_29 rfl mm_Zi_rfl
  · rw [if_pos c3] at h
    refine r_bipush (v := (-2)) (q := 24) dX10_cost_22 (by decide) rfl ?_
    refine r_goto 29 dX10_cost_24 (by decide) ?_
    cases h
    exact r_ret dX10_cost_29 rfl mm_Zi_rfl
set_option maxRecDepth 100000 in
set_option maxHeartbeats 400000 in
theorem t_X10_cost_31_7_32 {d : Nat} (hd : 2 ≤ d) (x3 : Int32) (x4 : Int32) (M : mm_M) (res : (Int32 × mm_M)) (h : X10_cost 32 x3 x4 M = some res) : mm_Meth jX10_cost d 0 0 [(.inr 31), (.inr 7), (.inr 32), (.inl x3), (.inl x4)] S_c M (mm_Zi res.1 S_c res.2) := by
  refine r_meth (L := [some (.inr 31), some (.inr 7), some (.inr 32), some (.inl x3), some (.inl x4), none]) rfl (fun D => ?_)
  unfold X10_cost at h
  refine r_aload_n (q := 1) dX10_cost_0 rfl rfl ?_
  refine r_aload_n (q := 2) dX10_cost_1 rfl rfl ?_
  refine r_aload_n (q := 3) dX10_cost_2 rfl rfl ?_
  refine r_iload (q := 5) dX10_cost_3 rfl rfl ?_
  obtain ⟨y2, e1, h⟩ := Option.bind_eq_some_iff.mp h
  refine r_callV_v (av := [(.inr 7), (.inr 32), (.inl x4)]) (st := []) (q := 8) (d1 := 1) kc_X10_28 sc_c_31 dX10_cost_5 rfl rfl (Nat.le_of_ble_eq_true rfl) (Nat.le_of_ble_eq_true rfl) (by omega) rfl rfl (t_X10_fillCosts_31_7_32 (d := 1) (by omega) x4 M _ e1) ?_
  refine r_aload_n (q := 9) dX10_cost_8 rfl rfl ?_
  refine r_iload_n (q := 10) dX10_cost_9 rfl rfl ?_
  refine r_callV_i (av := [(.inl x3)]) (st := []) (q := 13) (d1 := 0) kc_X10_32 sc_c_31 dX10_cost_10 rfl rfl (Nat.le_of_ble_eq_true rfl) (Nat.le_of_ble_eq_true rfl) (by omega) rfl rfl (t_X10_costFrom (d := 0) (by omega) x3 y2 _ rfl) ?_
  refine r_istore (q := 15) (L' := [some (.inr 31), some (.inr 7), some (.inr 32), some (.inl x3), some (.inl x4), some (.inl (X10_costFrom x3 y2))]) dX10_cost_13 (by decide) rfl rfl ?_
  refine r_iload (q := 17) dX10_cost_15 rfl rfl ?_
  refine r_ldc (v := 99999) (q := 19) dX10_cost_17 ko_X10_36 rfl ?_
  refine r_icmp_ne 27 (q := 22) dX10_cost_19 (by decide) rfl (fun c3 => ?_) (fun c3 => ?_)
  · rw [if_neg c3] at h
    refine r_iload (q := 29) dX10_cost_27 rfl rfl ?_
    cases h
    exact r_ret dX10_cost_29 rfl mm_Zi_rfl
  · rw [if_pos c3] at h
    refine r_bipush (v := (-2)) (q := 24) dX10_cost_22 (by decide) rfl ?_
    refine r_goto 29 dX10_cost_24 (by decide) ?_
    cases h
    exact r_ret dX10_cost_29 rfl mm_Zi_rfl
noncomputable def X10_steps (x2 : Int32) (x3 : Int32) (M : mm_M) : Option (Int32 × mm_M) := (X10_cost 32 x2 x3 M).bind fun y2 => some (y2.1, y2.2)
set_option maxRecDepth 100000 in
set_option maxHeartbeats 400000 in
theorem t_X10_steps {d : Nat} (hd : 3 ≤ d) (x2 : Int32) (x3 : Int32) (M : mm_M) (res : (Int32 × mm_M)) (h : X10_steps x2 x3 M = some res) : mm_Meth jX10_steps d 0 0 [(.inr 31), (.inr 7), (.inl x2), (.inl x3)] S_c M (mm_Zi res.1 S_c res.2) := by
  refine r_meth (L := [some (.inr 31), some (.inr 7), some (.inl x2), some (.inl x3)]) rfl (fun D => ?_)
  unfold X10_steps at h
  refine r_aload_n (q := 1) dX10_steps_0 rfl rfl ?_
  refine r_aload_n (q := 2) dX10_steps_1 rfl rfl ?_
  refine r_aload_n (q := 3) dX10_steps_2 rfl rfl ?_
  refine r_getr (b := 32) (q := 6) lk_X10_11 dX10_steps_3 sc_c_31 rfl rfl ?_
  refine r_iload_n (q := 7) dX10_steps_6 rfl rfl ?_
  refine r_iload_n (q := 8) dX10_steps_7 rfl rfl ?_
  obtain ⟨y2, e1, h⟩ := Option.bind_eq_some_iff.mp h
  refine r_callV_i (av := [(.inr 7), (.inr 32), (.inl x2), (.inl x3)]) (st := []) (q := 11) (d1 := 2) kc_X10_24 sc_c_31 dX10_steps_8 rfl rfl (Nat.le_of_ble_eq_true rfl) (Nat.le_of_ble_eq_true rfl) (by omega) rfl rfl (t_X10_cost_31_7_32 (d := 2) (by omega) x2 x3 M _ e1) ?_
  cases h
  exact r_ret dX10_steps_11 rfl mm_Zi_rfl
noncomputable def X10_firstStep_l2 (x2 : Int32) (M : mm_M) (s : Int32) : Option (Int32 ⊕ Int32) := if 8 ≤ s then some (.inr (-1)) else if ((X10_costFrom (X8_behind s x2 M) M) + 1) = (X10_costFrom x2 M) then some (.inr s) else some (.inl (s + 1))
set_option maxRecDepth 100000 in
set_option maxHeartbeats 400000 in
theorem t_X10_firstStep_l2 {D : mm_D} {d : Nat} (hd : 1 ≤ d) {Z : Option Int32 → List mm_C → mm_M → Prop} (x2 : Int32) (M : mm_M) (n : Nat) (s : Int32) (r : Int32) (h : mm_loop (X10_firstStep_l2 x2 M) n s = some r) (hx : Z (some r) S_c M) : mm_Go jX10_firstStep D d 0 0 2 [some (.inr 31), some (.inr 7), some (.inl x2), some (.inl s)] [] S_c M Z := by
  refine mm_loop_go (step := X10_firstStep_l2 x2 M) (Hd := fun (s : Int32) => mm_Go jX10_firstStep D d 0 0 2 [some (.inr 31), some (.inr 7), some (.inl x2), some (.inl s)] [] S_c M Z) (Ex := fun (r : Int32) => Z (some r) S_c M) ?_ n s r h hx
  intro s o h kb ke
  show mm_Go jX10_firstStep D d 0 0 2 [some (.inr 31), some (.inr 7), some (.inl x2), some (.inl s)] [] S_c M Z
  unfold X10_firstStep_l2 at h
  refine r_iload_n (q := 3) dX10_firstStep_2 rfl rfl ?_
  refine r_bipush (v := 8) (q := 5) dX10_firstStep_3 (by decide) rfl ?_
  refine r_icmp_ge 36 (q := 8) dX10_firstStep_5 (by decide) rfl (fun c1 => ?_) (fun c1 => ?_)
  · rw [if_pos c1] at h
    refine r_iconst (v := (-1)) (q := 37) dX10_firstStep_36 (by decide) rfl ?_
    cases h
    have hk := ke _ rfl
    exact r_ret dX10_firstStep_37 rfl hk
  · rw [if_neg c1] at h
    refine r_aload_n (q := 9) dX10_firstStep_8 rfl rfl ?_
    refine r_aload_n (q := 10) dX10_firstStep_9 rfl rfl ?_
    refine r_iload_n (q := 11) dX10_firstStep_10 rfl rfl ?_
    refine r_iload_n (q := 12) dX10_firstStep_11 rfl rfl ?_
    refine r_callV_i (av := [(.inl s), (.inl x2)]) (st := [(.inr 31)]) (q := 15) (d1 := 0) kc_X10_37 sc_c_7 dX10_firstStep_12 rfl rfl (Nat.le_of_ble_eq_true rfl) (Nat.le_of_ble_eq_true rfl) (by omega) rfl rfl (t_X8_behind (d := 0) (by omega) s x2 M _ rfl) ?_
    refine r_callV_i (av := [(.inl (X8_behind s x2 M))]) (st := []) (q := 18) (d1 := 0) kc_X10_32 sc_c_31 dX10_firstStep_15 rfl rfl (Nat.le_of_ble_eq_true rfl) (Nat.le_of_ble_eq_true rfl) (by omega) rfl rfl (t_X10_costFrom (d := 0) (by omega) (X8_behind s x2 M) M _ rfl) ?_
    refine r_iconst (v := 1) (q := 19) dX10_firstStep_18 (by decide) rfl ?_
    refine r_iadd (q := 20) dX10_firstStep_19 rfl ?_
    refine r_aload_n (q := 21) dX10_firstStep_20 rfl rfl ?_
    refine r_iload_n (q := 22) dX10_firstStep_21 rfl rfl ?_
    refine r_callV_i (av := [(.inl x2)]) (st := [(.inl ((X10_costFrom (X8_behind s x2 M) M) + 1))]) (q := 25) (d1 := 0) kc_X10_32 sc_c_31 dX10_firstStep_22 rfl rfl (Nat.le_of_ble_eq_true rfl) (Nat.le_of_ble_eq_true rfl) (by omega) rfl rfl (t_X10_costFrom (d := 0) (by omega) x2 M _ rfl) ?_
    refine r_icmp_ne 30 (q := 28) dX10_firstStep_25 (by decide) rfl (fun c2 => ?_) (fun c2 => ?_)
    · rw [if_neg c2] at h
      refine r_iinc (v := 1) (q := 33) (L' := [some (.inr 31), some (.inr 7), some (.inl x2), some (.inl (s + 1))]) dX10_firstStep_30 (by decide) (by decide) rfl rfl rfl ?_
      refine r_goto 2 dX10_firstStep_33 (by decide) ?_
      cases h
      have hk := kb _ rfl
      exact hk
    · rw [if_pos c2] at h
      refine r_iload_n (q := 29) dX10_firstStep_28 rfl rfl ?_
      cases h
      have hk := ke _ rfl
      exact r_ret dX10_firstStep_29 rfl hk
noncomputable def X10_firstStep (x2 : Int32) (M : mm_M) : Option Int32 := (mm_loop (X10_firstStep_l2 x2 M) mm_fuel 0)
set_option maxRecDepth 100000 in
set_option maxHeartbeats 400000 in
theorem t_X10_firstStep {d : Nat} (hd : 1 ≤ d) (x2 : Int32) (M : mm_M) (res : Int32) (h : X10_firstStep x2 M = some res) : mm_Meth jX10_firstStep d 0 0 [(.inr 31), (.inr 7), (.inl x2)] S_c M (mm_Zi res S_c M) := by
  refine r_meth (L := [some (.inr 31), some (.inr 7), some (.inl x2), none]) rfl (fun D => ?_)
  unfold X10_firstStep at h
  refine r_iconst (v := 0) (q := 1) dX10_firstStep_0 (by decide) rfl ?_
  refine r_istore_n (q := 2) (L' := [some (.inr 31), some (.inr 7), some (.inl x2), some (.inl 0)]) dX10_firstStep_1 (by decide) rfl rfl ?_
  exact t_X10_firstStep_l2 hd x2 M mm_fuel 0 _ h mm_Zi_rfl
noncomputable def X11_leads (x1 : Int32) (x2 : Int32) (x3 : Int32) (M : mm_M) : Option (Int32 × mm_M) := if (X8_has 7 x1 M) = true then if (X8_has 7 x2 M) = true then if (X11_isZeroOrOne x3) = true then (X10_steps x1 x2 M).bind fun y5 => if y5.1 < 0 then some (y5.1, y5.2) else if x3 = 0 then some (y5.1, y5.2) else if y5.1 = 0 then some ((-4), y5.2) else (X10_firstStep x1 y5.2).bind fun y10 => some (y10, y5.2) else some ((-1), M) else some ((-1), M) else some ((-1), M)
set_option maxRecDepth 100000 in
set_option maxHeartbeats 400000 in
theorem t_X11_leads {d : Nat} (hd : 4 ≤ d) (x1 : Int32) (x2 : Int32) (x3 : Int32) (M : mm_M) (res : (Int32 × mm_M)) (h : X11_leads x1 x2 x3 M = some res) : mm_Meth jX11_leads d 0 0 [(.inr 0), (.inl x1), (.inl x2), (.inl x3)] S_c M (mm_Zi res.1 S_c res.2) := by
  refine r_meth (L := [some (.inr 0), some (.inl x1), some (.inl x2), some (.inl x3), none]) rfl (fun D => ?_)
  unfold X11_leads at h
  refine r_aload_n (q := 1) dX11_leads_0 rfl rfl ?_
  refine r_getr (b := 7) (q := 4) lk_X11_42 dX11_leads_1 sc_c_0 rfl rfl ?_
  refine r_iload_n (q := 5) dX11_leads_4 rfl rfl ?_
  refine r_callV_i (av := [(.inl x1)]) (st := []) (q := 8) (d1 := 0) kc_X11_87 sc_c_7 dX11_leads_5 rfl rfl (Nat.le_of_ble_eq_true rfl) (Nat.le_of_ble_eq_true rfl) (by omega) rfl rfl (t_X8_has_7 (d := 0) (by omega) x1 M _ rfl) ?_
  refine r_if_eq 29 (q := 11) dX11_leads_8 (by decide) rfl (fun c1 => ?_) (fun c1 => ?_)
  · rw [if_neg (mm_b0 c1)] at h
    refine r_iconst (v := (-1)) (q := 30) dX11_leads_29 (by decide) rfl ?_
    cases h
    exact r_ret dX11_leads_30 rfl mm_Zi_rfl
  · rw [if_pos (mm_b1 c1)] at h
    refine r_aload_n (q := 12) dX11_leads_11 rfl rfl ?_
    refine r_getr (b := 7) (q := 15) lk_X11_42 dX11_leads_12 sc_c_0 rfl rfl ?_
    refine r_iload_n (q := 16) dX11_leads_15 rfl rfl ?_
    refine r_callV_i (av := [(.inl x2)]) (st := []) (q := 19) (d1 := 0) kc_X11_87 sc_c_7 dX11_leads_16 rfl rfl (Nat.le_of_ble_eq_true rfl) (Nat.le_of_ble_eq_true rfl) (by omega) rfl rfl (t_X8_has_7 (d := 0) (by omega) x2 M _ rfl) ?_
    refine r_if_eq 29 (q := 22) dX11_leads_19 (by decide) rfl (fun c2 => ?_) (fun c2 => ?_)
    · rw [if_neg (mm_b0 c2)] at h
      refine r_iconst (v := (-1)) (q := 30) dX11_leads_29 (by decide) rfl ?_
      cases h
      exact r_ret dX11_leads_30 rfl mm_Zi_rfl
    · rw [if_pos (mm_b1 c2)] at h
      refine r_iload_n (q := 23) dX11_leads_22 rfl rfl ?_
      refine r_callS_i (av := [(.inl x3)]) (st := []) (q := 26) (d1 := 0) kc_X11_179 dX11_leads_23 rfl rfl (Nat.le_of_ble_eq_true rfl) (Nat.le_of_ble_eq_true rfl) (by omega) rfl rfl (t_X11_isZeroOrOne (d := 0) (by omega) x3 M _ rfl) ?_
      refine r_if_ne 31 (q := 29) dX11_leads_26 (by decide) rfl (fun c3 => ?_) (fun c3 => ?_)
      · rw [if_pos (mm_b1 c3)] at h
        refine r_aload_n (q := 32) dX11_leads_31 rfl rfl ?_
        refine r_getr (b := 31) (q := 35) lk_X11_76 dX11_leads_32 sc_c_0 rfl rfl ?_
        refine r_aload_n (q := 36) dX11_leads_35 rfl rfl ?_
        refine r_getr (b := 7) (q := 39) lk_X11_42 dX11_leads_36 sc_c_0 rfl rfl ?_
        refine r_iload_n (q := 40) dX11_leads_39 rfl rfl ?_
        refine r_iload_n (q := 41) dX11_leads_40 rfl rfl ?_
        obtain ⟨y5, e4, h⟩ := Option.bind_eq_some_iff.mp h
        refine r_callV_i (av := [(.inr 7), (.inl x1), (.inl x2)]) (st := []) (q := 44) (d1 := 3) kc_X11_206 sc_c_31 dX11_leads_41 rfl rfl (Nat.le_of_ble_eq_true rfl) (Nat.le_of_ble_eq_true rfl) (by omega) rfl rfl (t_X10_steps (d := 3) (by omega) x1 x2 M _ e4) ?_
        refine r_istore (q := 46) (L' := [some (.inr 0), some (.inl x1), some (.inl x2), some (.inl x3), some (.inl y5.1)]) dX11_leads_44 (by decide) rfl rfl ?_
        refine r_iload (q := 48) dX11_leads_46 rfl rfl ?_
        refine r_if_lt 55 (q := 51) dX11_leads_48 (by decide) rfl (fun c6 => ?_) (fun c6 => ?_)
        · rw [if_pos c6] at h
          refine r_iload (q := 57) dX11_leads_55 rfl rfl ?_
          cases h
          exact r_ret dX11_leads_57 rfl mm_Zi_rfl
        · rw [if_neg c6] at h
          refine r_iload_n (q := 52) dX11_leads_51 rfl rfl ?_
          refine r_if_ne 58 (q := 55) dX11_leads_52 (by decide) rfl (fun c7 => ?_) (fun c7 => ?_)
          · rw [if_neg c7] at h
            refine r_iload (q := 60) dX11_leads_58 rfl rfl ?_
            refine r_if_ne 68 (q := 63) dX11_leads_60 (by decide) rfl (fun c8 => ?_) (fun c8 => ?_)
            · rw [if_neg c8] at h
              refine r_aload_n (q := 69) dX11_leads_68 rfl rfl ?_
              refine r_getr (b := 31) (q := 72) lk_X11_76 dX11_leads_69 sc_c_0 rfl rfl ?_
              refine r_aload_n (q := 73) dX11_leads_72 rfl rfl ?_
              refine r_getr (b := 7) (q := 76) lk_X11_42 dX11_leads_73 sc_c_0 rfl rfl ?_
              refine r_iload_n (q := 77) dX11_leads_76 rfl rfl ?_
              obtain ⟨y10, e9, h⟩ := Option.bind_eq_some_iff.mp h
              refine r_callV_i (av := [(.inr 7), (.inl x1)]) (st := []) (q := 80) (d1 := 1) kc_X11_210 sc_c_31 dX11_leads_77 rfl rfl (Nat.le_of_ble_eq_true rfl) (Nat.le_of_ble_eq_true rfl) (by omega) rfl rfl (t_X10_firstStep (d := 1) (by omega) x1 y5.2 _ e9) ?_
              cases h
              exact r_ret dX11_leads_80 rfl mm_Zi_rfl
            · rw [if_pos c8] at h
              refine r_bipush (v := (-4)) (q := 65) dX11_leads_63 (by decide) rfl ?_
              refine r_goto 80 dX11_leads_65 (by decide) ?_
              cases h
              exact r_ret dX11_leads_80 rfl mm_Zi_rfl
          · rw [if_pos c7] at h
            refine r_iload (q := 57) dX11_leads_55 rfl rfl ?_
            cases h
            exact r_ret dX11_leads_57 rfl mm_Zi_rfl
      · rw [if_neg (mm_b0 c3)] at h
        refine r_iconst (v := (-1)) (q := 30) dX11_leads_29 (by decide) rfl ?_
        cases h
        exact r_ret dX11_leads_30 rfl mm_Zi_rfl
noncomputable def X11_back (x1 : Int32) (x2 : Int32) (M : mm_M) : Option (Int32 × mm_M) := if (X11_isQuestion x1) = true then if (X8_has 7 x2 M) = true then (X10_steps (X8_behind x1 x2 M) x2 M).bind fun y4 => some (y4.1, y4.2) else some ((-1), M) else some ((-1), M)
set_option maxRecDepth 100000 in
set_option maxHeartbeats 400000 in
theorem t_X11_back {d : Nat} (hd : 4 ≤ d) (x1 : Int32) (x2 : Int32) (M : mm_M) (res : (Int32 × mm_M)) (h : X11_back x1 x2 M = some res) : mm_Meth jX11_back d 0 0 [(.inr 0), (.inl x1), (.inl x2)] S_c M (mm_Zi res.1 S_c res.2) := by
  refine r_meth (L := [some (.inr 0), some (.inl x1), some (.inl x2)]) rfl (fun D => ?_)
  unfold X11_back at h
  refine r_iload_n (q := 1) dX11_back_0 rfl rfl ?_
  refine r_callS_i (av := [(.inl x1)]) (st := []) (q := 4) (d1 := 0) kc_X11_95 dX11_back_1 rfl rfl (Nat.le_of_ble_eq_true rfl) (Nat.le_of_ble_eq_true rfl) (by omega) rfl rfl (t_X11_isQuestion (d := 0) (by omega) x1 M _ rfl) ?_
  refine r_if_eq 18 (q := 7) dX11_back_4 (by decide) rfl (fun c1 => ?_) (fun c1 => ?_)
  · rw [if_neg (mm_b0 c1)] at h
    refine r_iconst (v := (-1)) (q := 19) dX11_back_18 (by decide) rfl ?_
    cases h
    exact r_ret dX11_back_19 rfl mm_Zi_rfl
  · rw [if_pos (mm_b1 c1)] at h
    refine r_aload_n (q := 8) dX11_back_7 rfl rfl ?_
    refine r_getr (b := 7) (q := 11) lk_X11_42 dX11_back_8 sc_c_0 rfl rfl ?_
    refine r_iload_n (q := 12) dX11_back_11 rfl rfl ?_
    refine r_callV_i (av := [(.inl x2)]) (st := []) (q := 15) (d1 := 0) kc_X11_87 sc_c_7 dX11_back_12 rfl rfl (Nat.le_of_ble_eq_true rfl) (Nat.le_of_ble_eq_true rfl) (by omega) rfl rfl (t_X8_has_7 (d := 0) (by omega) x2 M _ rfl) ?_
    refine r_if_ne 20 (q := 18) dX11_back_15 (by decide) rfl (fun c2 => ?_) (fun c2 => ?_)
    · rw [if_pos (mm_b1 c2)] at h
      refine r_aload_n (q := 21) dX11_back_20 rfl rfl ?_
      refine r_getr (b := 31) (q := 24) lk_X11_76 dX11_back_21 sc_c_0 rfl rfl ?_
      refine r_aload_n (q := 25) dX11_back_24 rfl rfl ?_
      refine r_getr (b := 7) (q := 28) lk_X11_42 dX11_back_25 sc_c_0 rfl rfl ?_
      refine r_aload_n (q := 29) dX11_back_28 rfl rfl ?_
      refine r_getr (b := 7) (q := 32) lk_X11_42 dX11_back_29 sc_c_0 rfl rfl ?_
      refine r_iload_n (q := 33) dX11_back_32 rfl rfl ?_
      refine r_iload_n (q := 34) dX11_back_33 rfl rfl ?_
      refine r_callV_i (av := [(.inl x1), (.inl x2)]) (st := [(.inr 7), (.inr 31)]) (q := 37) (d1 := 0) kc_X11_186 sc_c_7 dX11_back_34 rfl rfl (Nat.le_of_ble_eq_true rfl) (Nat.le_of_ble_eq_true rfl) (by omega) rfl rfl (t_X8_behind (d := 0) (by omega) x1 x2 M _ rfl) ?_
      refine r_iload_n (q := 38) dX11_back_37 rfl rfl ?_
      obtain ⟨y4, e3, h⟩ := Option.bind_eq_some_iff.mp h
      refine r_callV_i (av := [(.inr 7), (.inl (X8_behind x1 x2 M)), (.inl x2)]) (st := []) (q := 41) (d1 := 3) kc_X11_206 sc_c_31 dX11_back_38 rfl rfl (Nat.le_of_ble_eq_true rfl) (Nat.le_of_ble_eq_true rfl) (by omega) rfl rfl (t_X10_steps (d := 3) (by omega) (X8_behind x1 x2 M) x2 M _ e3) ?_
      cases h
      exact r_ret dX11_back_41 rfl mm_Zi_rfl
    · rw [if_neg (mm_b0 c2)] at h
      refine r_iconst (v := (-1)) (q := 19) dX11_back_18 (by decide) rfl ?_
      cases h
      exact r_ret dX11_back_19 rfl mm_Zi_rfl
noncomputable def X11_cheapest (x1 : Int32) (x2 : Int32) (M : mm_M) : Option (Int32 × mm_M) := if (X8_has 7 x1 M) = true then if (X8_has 7 x2 M) = true then (X10_cost 3 x1 x2 M).bind fun y4 => some (y4.1, y4.2) else some ((-1), M) else some ((-1), M)
set_option maxRecDepth 100000 in
set_option maxHeartbeats 400000 in
theorem t_X11_cheapest {d : Nat} (hd : 3 ≤ d) (x1 : Int32) (x2 : Int32) (M : mm_M) (res : (Int32 × mm_M)) (h : X11_cheapest x1 x2 M = some res) : mm_Meth jX11_cheapest d 0 0 [(.inr 0), (.inl x1), (.inl x2)] S_c M (mm_Zi res.1 S_c res.2) := by
  refine r_meth (L := [some (.inr 0), some (.inl x1), some (.inl x2)]) rfl (fun D => ?_)
  unfold X11_cheapest at h
  refine r_aload_n (q := 1) dX11_cheapest_0 rfl rfl ?_
  refine r_getr (b := 7) (q := 4) lk_X11_42 dX11_cheapest_1 sc_c_0 rfl rfl ?_
  refine r_iload_n (q := 5) dX11_cheapest_4 rfl rfl ?_
  refine r_callV_i (av := [(.inl x1)]) (st := []) (q := 8) (d1 := 0) kc_X11_87 sc_c_7 dX11_cheapest_5 rfl rfl (Nat.le_of_ble_eq_true rfl) (Nat.le_of_ble_eq_true rfl) (by omega) rfl rfl (t_X8_has_7 (d := 0) (by omega) x1 M _ rfl) ?_
  refine r_if_eq 22 (q := 11) dX11_cheapest_8 (by decide) rfl (fun c1 => ?_) (fun c1 => ?_)
  · rw [if_neg (mm_b0 c1)] at h
    refine r_iconst (v := (-1)) (q := 23) dX11_cheapest_22 (by decide) rfl ?_
    cases h
    exact r_ret dX11_cheapest_23 rfl mm_Zi_rfl
  · rw [if_pos (mm_b1 c1)] at h
    refine r_aload_n (q := 12) dX11_cheapest_11 rfl rfl ?_
    refine r_getr (b := 7) (q := 15) lk_X11_42 dX11_cheapest_12 sc_c_0 rfl rfl ?_
    refine r_iload_n (q := 16) dX11_cheapest_15 rfl rfl ?_
    refine r_callV_i (av := [(.inl x2)]) (st := []) (q := 19) (d1 := 0) kc_X11_87 sc_c_7 dX11_cheapest_16 rfl rfl (Nat.le_of_ble_eq_true rfl) (Nat.le_of_ble_eq_true rfl) (by omega) rfl rfl (t_X8_has_7 (d := 0) (by omega) x2 M _ rfl) ?_
    refine r_if_ne 24 (q := 22) dX11_cheapest_19 (by decide) rfl (fun c2 => ?_) (fun c2 => ?_)
    · rw [if_pos (mm_b1 c2)] at h
      refine r_aload_n (q := 25) dX11_cheapest_24 rfl rfl ?_
      refine r_getr (b := 31) (q := 28) lk_X11_76 dX11_cheapest_25 sc_c_0 rfl rfl ?_
      refine r_aload_n (q := 29) dX11_cheapest_28 rfl rfl ?_
      refine r_getr (b := 7) (q := 32) lk_X11_42 dX11_cheapest_29 sc_c_0 rfl rfl ?_
      refine r_aload_n (q := 33) dX11_cheapest_32 rfl rfl ?_
      refine r_getr (b := 3) (q := 36) lk_X11_16 dX11_cheapest_33 sc_c_0 rfl rfl ?_
      refine r_iload_n (q := 37) dX11_cheapest_36 rfl rfl ?_
      refine r_iload_n (q := 38) dX11_cheapest_37 rfl rfl ?_
      obtain ⟨y4, e3, h⟩ := Option.bind_eq_some_iff.mp h
      refine r_callV_i (av := [(.inr 7), (.inr 3), (.inl x1), (.inl x2)]) (st := []) (q := 41) (d1 := 2) kc_X11_214 sc_c_31 dX11_cheapest_38 rfl rfl (Nat.le_of_ble_eq_true rfl) (Nat.le_of_ble_eq_true rfl) (by omega) rfl rfl (t_X10_cost_31_7_3 (d := 2) (by omega) x1 x2 M _ e3) ?_
      cases h
      exact r_ret dX11_cheapest_41 rfl mm_Zi_rfl
    · rw [if_neg (mm_b0 c2)] at h
      refine r_iconst (v := (-1)) (q := 23) dX11_cheapest_22 (by decide) rfl ?_
      cases h
      exact r_ret dX11_cheapest_23 rfl mm_Zi_rfl
noncomputable def X10_apartBy (x1 : Int32) (x2 : Int32) (M : mm_M) : Int32 := if ((x1 * 10) + x2) < 0 then 0 else if 100 ≤ ((x1 * 10) + x2) then 0 else (M 34 (Int32.toNatClampNeg ((x1 * 10) + x2)))
set_option maxRecDepth 100000 in
set_option maxHeartbeats 400000 in
theorem t_X10_apartBy {d : Nat} (hd : 0 ≤ d) (x1 : Int32) (x2 : Int32) (M : mm_M) (res : Int32) (h : X10_apartBy x1 x2 M = res) : mm_Meth jX10_apartBy d 0 0 [(.inr 31), (.inl x1), (.inl x2)] S_c M (mm_Zi res S_c M) := by
  refine r_meth (L := [some (.inr 31), some (.inl x1), some (.inl x2), none]) rfl (fun D => ?_)
  unfold X10_apartBy at h
  refine r_iload_n (q := 1) dX10_apartBy_0 rfl rfl ?_
  refine r_bipush (v := 10) (q := 3) dX10_apartBy_1 (by decide) rfl ?_
  refine r_imul (q := 4) dX10_apartBy_3 rfl ?_
  refine r_iload_n (q := 5) dX10_apartBy_4 rfl rfl ?_
  refine r_iadd (q := 6) dX10_apartBy_5 rfl ?_
  refine r_istore_n (q := 7) (L' := [some (.inr 31), some (.inl x1), some (.inl x2), some (.inl ((x1 * 10) + x2))]) dX10_apartBy_6 (by decide) rfl rfl ?_
  refine r_iload_n (q := 8) dX10_apartBy_7 rfl rfl ?_
  refine r_if_lt 26 (q := 11) dX10_apartBy_8 (by decide) rfl (fun c1 => ?_) (fun c1 => ?_)
  · rw [if_pos c1] at h
    refine r_iconst (v := 0) (q := 27) dX10_apartBy_26 (by decide) rfl ?_
    subst h
    exact r_ret dX10_apartBy_27 rfl mm_Zi_rfl
  · rw [if_neg c1] at h
    refine r_iload_n (q := 12) dX10_apartBy_11 rfl rfl ?_
    refine r_bipush (v := 100) (q := 14) dX10_apartBy_12 (by decide) rfl ?_
    refine r_icmp_ge 26 (q := 17) dX10_apartBy_14 (by decide) rfl (fun c2 => ?_) (fun c2 => ?_)
    · rw [if_pos c2] at h
      refine r_iconst (v := 0) (q := 27) dX10_apartBy_26 (by decide) rfl ?_
      subst h
      exact r_ret dX10_apartBy_27 rfl mm_Zi_rfl
    · rw [if_neg c2] at h
      refine r_aload_n (q := 18) dX10_apartBy_17 rfl rfl ?_
      refine r_getr (b := 34) (q := 21) lk_X10_18 dX10_apartBy_18 sc_c_31 rfl rfl ?_
      refine r_iload_n (q := 22) dX10_apartBy_21 rfl rfl ?_
      refine r_iald (v := (M 34 (Int32.toNatClampNeg ((x1 * 10) + x2)))) (q := 23) dX10_apartBy_22 sc_c_34 (mm_vp2 (Int32.not_lt.mp c1) (Int32.not_le.mp c2) (by decide)) rfl rfl ?_
      refine r_goto 27 dX10_apartBy_23 (by decide) ?_
      subst h
      exact r_ret dX10_apartBy_27 rfl mm_Zi_rfl
