noncomputable def X12_moved_l5 (x1 : Int32) (x2 : Int32) (M : mm_M) (s : (Int32 × Int32)) : Option ((Int32 × Int32) ⊕ Int32) := if (M 0 6) ≤ s.2 then some (.inr s.1) else if (X12_has x1 s.2) = true then (X12_behind x2 s.2 M).bind fun y4 => some (.inl ((s.1 ||| ((1 : Int32) <<< (y4 &&& 31))), (s.2 + 1))) else some (.inl (s.1, (s.2 + 1)))
set_option maxRecDepth 100000 in
set_option maxHeartbeats 400000 in
theorem t_X12_moved_l5 {D : mm_D} {d : Nat} (hd : 1 ≤ d) {Z : Option Int32 → List mm_C → mm_M → Prop} (x1 : Int32) (x2 : Int32) (M : mm_M) (n : Nat) (s : (Int32 × Int32)) (r : Int32) (h : mm_loop (X12_moved_l5 x1 x2 M) n s = some r) (hx : Z (some r) S_m M) : mm_Go jX12_moved D d 0 0 5 [some (.inr 0), some (.inl x1), some (.inl x2), some (.inl s.1), some (.inl s.2)] [] S_m M Z := by
  refine mm_loop_go (step := X12_moved_l5 x1 x2 M) (Hd := fun (s : (Int32 × Int32)) => mm_Go jX12_moved D d 0 0 5 [some (.inr 0), some (.inl x1), some (.inl x2), some (.inl s.1), some (.inl s.2)] [] S_m M Z) (Ex := fun (r : Int32) => Z (some r) S_m M) ?_ n s r h hx
  intro s o h kb ke
  show mm_Go jX12_moved D d 0 0 5 [some (.inr 0), some (.inl x1), some (.inl x2), some (.inl s.1), some (.inl s.2)] [] S_m M Z
  unfold X12_moved_l5 at h
  refine r_iload (q := 7) dX12_moved_5 rfl rfl ?_
  refine r_aload_n (q := 8) dX12_moved_7 rfl rfl ?_
  refine r_geti (v := (M 0 6)) (q := 11) lk_X12_123 dX12_moved_8 sc_m_0 rfl rfl rfl ?_
  refine r_icmp_ge 41 (q := 14) dX12_moved_11 (by decide) rfl (fun c1 => ?_) (fun c1 => ?_)
  · rw [if_pos c1] at h
    refine r_iload_n (q := 42) dX12_moved_41 rfl rfl ?_
    cases h
    have hk := ke _ rfl
    exact r_ret dX12_moved_42 rfl hk
  · rw [if_neg c1] at h
    refine r_iload_n (q := 15) dX12_moved_14 rfl rfl ?_
    refine r_iload (q := 17) dX12_moved_15 rfl rfl ?_
    refine r_callS_i (av := [(.inl x1), (.inl s.2)]) (st := []) (q := 20) (d1 := 0) kc_X12_119 dX12_moved_17 rfl rfl (Nat.le_of_ble_eq_true rfl) (Nat.le_of_ble_eq_true rfl) (by omega) rfl rfl (t_X12_has (d := 0) (by omega) x1 s.2 M _ rfl) ?_
    refine r_if_eq 35 (q := 23) dX12_moved_20 (by decide) rfl (fun c2 => ?_) (fun c2 => ?_)
    · rw [if_neg (mm_b0 c2)] at h
      refine r_iinc (v := 1) (q := 38) (L' := [some (.inr 0), some (.inl x1), some (.inl x2), some (.inl s.1), some (.inl (s.2 + 1))]) dX12_moved_35 (by decide) (by decide) rfl rfl rfl ?_
      refine r_goto 5 dX12_moved_38 (by decide) ?_
      cases h
      have hk := kb _ rfl
      exact hk
    · rw [if_pos (mm_b1 c2)] at h
      refine r_iload_n (q := 24) dX12_moved_23 rfl rfl ?_
      refine r_iconst (v := 1) (q := 25) dX12_moved_24 (by decide) rfl ?_
      refine r_aload_n (q := 26) dX12_moved_25 rfl rfl ?_
      refine r_iload_n (q := 27) dX12_moved_26 rfl rfl ?_
      refine r_iload (q := 29) dX12_moved_27 rfl rfl ?_
      obtain ⟨y4, e3, h⟩ := Option.bind_eq_some_iff.mp h
      refine r_callV_i (av := [(.inl x2), (.inl s.2)]) (st := [(.inl 1), (.inl s.1)]) (q := 32) (d1 := 0) kc_X12_306 sc_m_0 dX12_moved_29 rfl rfl (Nat.le_of_ble_eq_true rfl) (Nat.le_of_ble_eq_true rfl) (by omega) rfl rfl (t_X12_behind (d := 0) (by omega) x2 s.2 M _ e3) ?_
      refine r_ishl (q := 33) dX12_moved_32 rfl ?_
      refine r_ior (q := 34) dX12_moved_33 rfl ?_
      refine r_istore_n (q := 35) (L' := [some (.inr 0), some (.inl x1), some (.inl x2), some (.inl (s.1 ||| ((1 : Int32) <<< (y4 &&& 31)))), some (.inl s.2)]) dX12_moved_34 (by decide) rfl rfl ?_
      refine r_iinc (v := 1) (q := 38) (L' := [some (.inr 0), some (.inl x1), some (.inl x2), some (.inl (s.1 ||| ((1 : Int32) <<< (y4 &&& 31)))), some (.inl (s.2 + 1))]) dX12_moved_35 (by decide) (by decide) rfl rfl rfl ?_
      refine r_goto 5 dX12_moved_38 (by decide) ?_
      cases h
      have hk := kb _ rfl
      exact hk
noncomputable def X12_moved (x1 : Int32) (x2 : Int32) (M : mm_M) : Option Int32 := (mm_loop (X12_moved_l5 x1 x2 M) mm_fuel (0, 0))
set_option maxRecDepth 100000 in
set_option maxHeartbeats 400000 in
theorem t_X12_moved {d : Nat} (hd : 1 ≤ d) (x1 : Int32) (x2 : Int32) (M : mm_M) (res : Int32) (h : X12_moved x1 x2 M = some res) : mm_Meth jX12_moved d 0 0 [(.inr 0), (.inl x1), (.inl x2)] S_m M (mm_Zi res S_m M) := by
  refine r_meth (L := [some (.inr 0), some (.inl x1), some (.inl x2), none, none]) rfl (fun D => ?_)
  unfold X12_moved at h
  refine r_iconst (v := 0) (q := 1) dX12_moved_0 (by decide) rfl ?_
  refine r_istore_n (q := 2) (L' := [some (.inr 0), some (.inl x1), some (.inl x2), some (.inl 0), none]) dX12_moved_1 (by decide) rfl rfl ?_
  refine r_iconst (v := 0) (q := 3) dX12_moved_2 (by decide) rfl ?_
  refine r_istore (q := 5) (L' := [some (.inr 0), some (.inl x1), some (.inl x2), some (.inl 0), some (.inl 0)]) dX12_moved_3 (by decide) rfl rfl ?_
  exact t_X12_moved_l5 hd x1 x2 M mm_fuel (0, 0) _ h mm_Zi_rfl
noncomputable def X12_laysKnown_l2 (s : (Int32 × mm_M)) : Option ((Int32 × mm_M) ⊕ mm_M) := if 1024 ≤ s.1 then some (.inr s.2) else if mm_in s.1 1024 = true then some (.inl ((s.1 + 1), (mm_U s.2 32 (Int32.toNatClampNeg s.1) (-1)))) else none
set_option maxRecDepth 100000 in
set_option maxHeartbeats 400000 in
theorem t_X12_laysKnown_l2 {D : mm_D} {d : Nat} (hd : 2 ≤ d) {Z : Option Int32 → List mm_C → mm_M → Prop} (n : Nat) (s : (Int32 × mm_M)) (r : mm_M) (h : mm_loop (X12_laysKnown_l2) n s = some r) (hx : mm_Go jX12_laysKnown D d 0 0 22 [some (.inr 0), none, none, none, none] [] S_m r Z) : mm_Go jX12_laysKnown D d 0 0 2 [some (.inr 0), some (.inl s.1), none, none, none] [] S_m s.2 Z := by
  refine mm_loop_go (step := X12_laysKnown_l2) (Hd := fun (s : (Int32 × mm_M)) => mm_Go jX12_laysKnown D d 0 0 2 [some (.inr 0), some (.inl s.1), none, none, none] [] S_m s.2 Z) (Ex := fun (r : mm_M) => mm_Go jX12_laysKnown D d 0 0 22 [some (.inr 0), none, none, none, none] [] S_m r Z) ?_ n s r h hx
  intro s o h kb ke
  show mm_Go jX12_laysKnown D d 0 0 2 [some (.inr 0), some (.inl s.1), none, none, none] [] S_m s.2 Z
  unfold X12_laysKnown_l2 at h
  refine r_iload_n (q := 3) dX12_laysKnown_2 rfl rfl ?_
  refine r_sipush (v := 1024) (q := 6) dX12_laysKnown_3 (by decide) rfl ?_
  refine r_icmp_ge 22 (q := 9) dX12_laysKnown_6 (by decide) rfl (fun c1 => ?_) (fun c1 => ?_)
  · rw [if_pos c1] at h
    refine r_forget (L' := [some (.inr 0), none, none, none, none]) [true, false, false, false, false] rfl ?_
    cases h
    have hk := ke _ rfl
    exact hk
  · rw [if_neg c1] at h
    refine r_aload_n (q := 10) dX12_laysKnown_9 rfl rfl ?_
    refine r_getr (b := 32) (q := 13) lk_X12_104 dX12_laysKnown_10 sc_m_0 rfl rfl ?_
    refine r_iload_n (q := 14) dX12_laysKnown_13 rfl rfl ?_
    refine r_iconst (v := (-1)) (q := 15) dX12_laysKnown_14 (by decide) rfl ?_
    obtain ⟨g2, h⟩ := mm_guard h
    refine r_iast (j := (Int32.toNatClampNeg s.1)) (q := 16) dX12_laysKnown_15 sc_m_32 (mm_vp g2) rfl rfl ?_
    refine r_iinc (v := 1) (q := 19) (L' := [some (.inr 0), some (.inl (s.1 + 1)), none, none, none]) dX12_laysKnown_16 (by decide) (by decide) rfl rfl rfl ?_
    refine r_goto 2 dX12_laysKnown_19 (by decide) ?_
    cases h
    have hk := kb _ rfl
    exact hk
noncomputable def X12_laysKnown_j157l79 (x1 : Int32) (x2 : Int32) (x3 : Int32) (x4 : Int32) (z1 : Int32) (z2 : Int32) (M : mm_M) : Option ((Int32 × Int32 × mm_M) ⊕ (Int32 × mm_M)) := if mm_in z1 1024 = true then if mm_in x1 1024 = true then some (.inl ((x1 + 1), (x3 + 1), (mm_U (mm_U M 33 (Int32.toNatClampNeg z1) z2) 31 (Int32.toNatClampNeg x1) x4))) else none else none
set_option maxRecDepth 100000 in
set_option maxHeartbeats 400000 in
theorem t_X12_laysKnown_j157l79 {D : mm_D} {d : Nat} (hd : 2 ≤ d) {Z : Option Int32 → List mm_C → mm_M → Prop} (x1 : Int32) (x2 : Int32) (x3 : Int32) (x4 : Int32) (z1 : Int32) (z2 : Int32) (M : mm_M) (o : (Int32 × Int32 × mm_M) ⊕ (Int32 × mm_M)) (h : X12_laysKnown_j157l79 x1 x2 x3 x4 z1 z2 M = some o) (kb : ∀ s', o = .inl s' → mm_Go jX12_laysKnown D d 0 0 79 [some (.inr 0), some (.inl s'.1), some (.inl x2), some (.inl s'.2.1), none] [] S_m s'.2.2 Z) (ke : ∀ r, o = .inr r → mm_Go jX12_laysKnown D d 0 0 176 [some (.inr 0), some (.inl r.1), some (.inl x2), none, none] [] S_m r.2 Z) : mm_Go jX12_laysKnown D d 0 0 157 [some (.inr 0), some (.inl x1), some (.inl x2), some (.inl x3), some (.inl x4)] [(.inl z2), (.inl z1), (.inr 33)] S_m M Z := by
  unfold X12_laysKnown_j157l79 at h
  obtain ⟨g22, h⟩ := mm_guard h
  refine r_iast (j := (Int32.toNatClampNeg z1)) (q := 158) dX12_laysKnown_157 sc_m_33 (mm_vp g22) rfl rfl ?_
  refine r_aload_n (q := 159) dX12_laysKnown_158 rfl rfl ?_
  refine r_getr (b := 31) (q := 162) lk_X12_101 dX12_laysKnown_159 sc_m_0 rfl rfl ?_
  refine r_iload_n (q := 163) dX12_laysKnown_162 rfl rfl ?_
  refine r_iload (q := 165) dX12_laysKnown_163 rfl rfl ?_
  obtain ⟨g23, h⟩ := mm_guard h
  refine r_iast (j := (Int32.toNatClampNeg x1)) (q := 166) dX12_laysKnown_165 sc_m_31 (mm_vp g23) rfl rfl ?_
  refine r_iload_n (q := 167) dX12_laysKnown_166 rfl rfl ?_
  refine r_iconst (v := 1) (q := 168) dX12_laysKnown_167 (by decide) rfl ?_
  refine r_iadd (q := 169) dX12_laysKnown_168 rfl ?_
  refine r_istore_n (q := 170) (L' := [some (.inr 0), some (.inl (x1 + 1)), some (.inl x2), some (.inl x3), some (.inl x4)]) dX12_laysKnown_169 (by decide) rfl rfl ?_
  refine r_iinc (v := 1) (q := 173) (L' := [some (.inr 0), some (.inl (x1 + 1)), some (.inl x2), some (.inl (x3 + 1)), some (.inl x4)]) dX12_laysKnown_170 (by decide) (by decide) rfl rfl rfl ?_
  refine r_goto 79 dX12_laysKnown_173 (by decide) ?_
  refine r_forget (L' := [some (.inr 0), some (.inl (x1 + 1)), some (.inl x2), some (.inl (x3 + 1)), none]) [true, true, true, true, false] rfl ?_
  cases h
  have hk := kb _ rfl
  exact hk
noncomputable def X12_laysKnown_l79 (x2 : Int32) (s : (Int32 × Int32 × mm_M)) : Option ((Int32 × Int32 × mm_M) ⊕ (Int32 × mm_M)) := if 8 ≤ s.2.1 then some (.inr (s.1, s.2.2)) else if mm_in x2 1024 = true then (X12_moved (s.2.2 31 (Int32.toNatClampNeg x2)) s.2.1 s.2.2).bind fun y15 => if mm_in y15 1024 = true then if (s.2.2 32 (Int32.toNatClampNeg y15)) = (-1) then if mm_in x2 1024 = true then if mm_in (s.2.2 31 (Int32.toNatClampNeg x2)) 1024 = true then if mm_in y15 1024 = true then if x2 = 0 then X12_laysKnown_j157l79 s.1 x2 s.2.1 y15 y15 s.2.1 (mm_U s.2.2 32 (Int32.toNatClampNeg y15) ((s.2.2 32 (Int32.toNatClampNeg (s.2.2 31 (Int32.toNatClampNeg x2)))) + 1)) else if mm_in x2 1024 = true then if mm_in (s.2.2 31 (Int32.toNatClampNeg x2)) 1024 = true then X12_laysKnown_j157l79 s.1 x2 s.2.1 y15 y15 (s.2.2 33 (Int32.toNatClampNeg (s.2.2 31 (Int32.toNatClampNeg x2)))) (mm_U s.2.2 32 (Int32.toNatClampNeg y15) ((s.2.2 32 (Int32.toNatClampNeg (s.2.2 31 (Int32.toNatClampNeg x2)))) + 1)) else none else none else none else none else none else some (.inl (s.1, (s.2.1 + 1), s.2.2)) else none else none
set_option maxRecDepth 100000 in
set_option maxHeartbeats 400000 in
theorem t_X12_laysKnown_l79 {D : mm_D} {d : Nat} (hd : 2 ≤ d) {Z : Option Int32 → List mm_C → mm_M → Prop} (x2 : Int32) (n : Nat) (s : (Int32 × Int32 × mm_M)) (r : (Int32 × mm_M)) (h : mm_loop (X12_laysKnown_l79 x2) n s = some r) (hx : mm_Go jX12_laysKnown D d 0 0 176 [some (.inr 0), some (.inl r.1), some (.inl x2), none, none] [] S_m r.2 Z) : mm_Go jX12_laysKnown D d 0 0 79 [some (.inr 0), some (.inl s.1), some (.inl x2), some (.inl s.2.1), none] [] S_m s.2.2 Z := by
  refine mm_loop_go (step := X12_laysKnown_l79 x2) (Hd := fun (s : (Int32 × Int32 × mm_M)) => mm_Go jX12_laysKnown D d 0 0 79 [some (.inr 0), some (.inl s.1), some (.inl x2), some (.inl s.2.1), none] [] S_m s.2.2 Z) (Ex := fun (r : (Int32 × mm_M)) => mm_Go jX12_laysKnown D d 0 0 176 [some (.inr 0), some (.inl r.1), some (.inl x2), none, none] [] S_m r.2 Z) ?_ n s r h hx
  intro s o h kb ke
  show mm_Go jX12_laysKnown D d 0 0 79 [some (.inr 0), some (.inl s.1), some (.inl x2), some (.inl s.2.1), none] [] S_m s.2.2 Z
  unfold X12_laysKnown_l79 at h
  refine r_iload_n (q := 80) dX12_laysKnown_79 rfl rfl ?_
  refine r_bipush (v := 8) (q := 82) dX12_laysKnown_80 (by decide) rfl ?_
  refine r_icmp_ge 176 (q := 85) dX12_laysKnown_82 (by decide) rfl (fun c12 => ?_) (fun c12 => ?_)
  · rw [if_pos c12] at h
    refine r_forget (L' := [some (.inr 0), some (.inl s.1), some (.inl x2), none, none]) [true, true, true, false, false] rfl ?_
    cases h
    have hk := ke _ rfl
    exact hk
  · rw [if_neg c12] at h
    refine r_aload_n (q := 86) dX12_laysKnown_85 rfl rfl ?_
    refine r_aload_n (q := 87) dX12_laysKnown_86 rfl rfl ?_
    refine r_getr (b := 31) (q := 90) lk_X12_101 dX12_laysKnown_87 sc_m_0 rfl rfl ?_
    refine r_iload_n (q := 91) dX12_laysKnown_90 rfl rfl ?_
    obtain ⟨g13, h⟩ := mm_guard h
    refine r_iald (v := (s.2.2 31 (Int32.toNatClampNeg x2))) (q := 92) dX12_laysKnown_91 sc_m_31 (mm_vp g13) rfl rfl ?_
    refine r_iload_n (q := 93) dX12_laysKnown_92 rfl rfl ?_
    obtain ⟨y15, e14, h⟩ := Option.bind_eq_some_iff.mp h
    refine r_callV_i (av := [(.inl (s.2.2 31 (Int32.toNatClampNeg x2))), (.inl s.2.1)]) (st := []) (q := 96) (d1 := 1) kc_X12_392 sc_m_0 dX12_laysKnown_93 rfl rfl (Nat.le_of_ble_eq_true rfl) (Nat.le_of_ble_eq_true rfl) (by omega) rfl rfl (t_X12_moved (d := 1) (by omega) (s.2.2 31 (Int32.toNatClampNeg x2)) s.2.1 s.2.2 _ e14) ?_
    refine r_istore (q := 98) (L' := [some (.inr 0), some (.inl s.1), some (.inl x2), some (.inl s.2.1), some (.inl y15)]) dX12_laysKnown_96 (by decide) rfl rfl ?_
    refine r_aload_n (q := 99) dX12_laysKnown_98 rfl rfl ?_
    refine r_getr (b := 32) (q := 102) lk_X12_104 dX12_laysKnown_99 sc_m_0 rfl rfl ?_
    refine r_iload (q := 104) dX12_laysKnown_102 rfl rfl ?_
    obtain ⟨g16, h⟩ := mm_guard h
    refine r_iald (v := (s.2.2 32 (Int32.toNatClampNeg y15))) (q := 105) dX12_laysKnown_104 sc_m_32 (mm_vp g16) rfl rfl ?_
    refine r_iconst (v := (-1)) (q := 106) dX12_laysKnown_105 (by decide) rfl ?_
    refine r_icmp_eq 112 (q := 109) dX12_laysKnown_106 (by decide) rfl (fun c17 => ?_) (fun c17 => ?_)
    · rw [if_pos c17] at h
      refine r_aload_n (q := 113) dX12_laysKnown_112 rfl rfl ?_
      refine r_getr (b := 32) (q := 116) lk_X12_104 dX12_laysKnown_113 sc_m_0 rfl rfl ?_
      refine r_iload (q := 118) dX12_laysKnown_116 rfl rfl ?_
      refine r_aload_n (q := 119) dX12_laysKnown_118 rfl rfl ?_
      refine r_getr (b := 32) (q := 122) lk_X12_104 dX12_laysKnown_119 sc_m_0 rfl rfl ?_
      refine r_aload_n (q := 123) dX12_laysKnown_122 rfl rfl ?_
      refine r_getr (b := 31) (q := 126) lk_X12_101 dX12_laysKnown_123 sc_m_0 rfl rfl ?_
      refine r_iload_n (q := 127) dX12_laysKnown_126 rfl rfl ?_
      obtain ⟨g18, h⟩ := mm_guard h
      refine r_iald (v := (s.2.2 31 (Int32.toNatClampNeg x2))) (q := 128) dX12_laysKnown_127 sc_m_31 (mm_vp g18) rfl rfl ?_
      obtain ⟨g19, h⟩ := mm_guard h
      refine r_iald (v := (s.2.2 32 (Int32.toNatClampNeg (s.2.2 31 (Int32.toNatClampNeg x2))))) (q := 129) dX12_laysKnown_128 sc_m_32 (mm_vp g19) rfl rfl ?_
      refine r_iconst (v := 1) (q := 130) dX12_laysKnown_129 (by decide) rfl ?_
      refine r_iadd (q := 131) dX12_laysKnown_130 rfl ?_
      obtain ⟨g20, h⟩ := mm_guard h
      refine r_iast (j := (Int32.toNatClampNeg y15)) (q := 132) dX12_laysKnown_131 sc_m_32 (mm_vp g20) rfl rfl ?_
      refine r_aload_n (q := 133) dX12_laysKnown_132 rfl rfl ?_
      refine r_getr (b := 33) (q := 136) lk_X12_107 dX12_laysKnown_133 sc_m_0 rfl rfl ?_
      refine r_iload (q := 138) dX12_laysKnown_136 rfl rfl ?_
      refine r_iload_n (q := 139) dX12_laysKnown_138 rfl rfl ?_
      refine r_if_ne 146 (q := 142) dX12_laysKnown_139 (by decide) rfl (fun c21 => ?_) (fun c21 => ?_)
      · rw [if_neg c21] at h
        refine r_aload_n (q := 147) dX12_laysKnown_146 rfl rfl ?_
        refine r_getr (b := 33) (q := 150) lk_X12_107 dX12_laysKnown_147 sc_m_0 rfl rfl ?_
        refine r_aload_n (q := 151) dX12_laysKnown_150 rfl rfl ?_
        refine r_getr (b := 31) (q := 154) lk_X12_101 dX12_laysKnown_151 sc_m_0 rfl rfl ?_
        refine r_iload_n (q := 155) dX12_laysKnown_154 rfl rfl ?_
        obtain ⟨g24, h⟩ := mm_guard h
        refine r_iald (v := (s.2.2 31 (Int32.toNatClampNeg x2))) (q := 156) dX12_laysKnown_155 sc_m_31 (mm_vp g24) rfl rfl ?_
        obtain ⟨g25, h⟩ := mm_guard h
        refine r_iald (v := (s.2.2 33 (Int32.toNatClampNeg (s.2.2 31 (Int32.toNatClampNeg x2))))) (q := 157) dX12_laysKnown_156 sc_m_33 (mm_vp g25) rfl rfl ?_
        exact t_X12_laysKnown_j157l79 hd s.1 x2 s.2.1 y15 y15 (s.2.2 33 (Int32.toNatClampNeg (s.2.2 31 (Int32.toNatClampNeg x2)))) (mm_U s.2.2 32 (Int32.toNatClampNeg y15) ((s.2.2 32 (Int32.toNatClampNeg (s.2.2 31 (Int32.toNatClampNeg x2)))) + 1)) _ h kb ke
      · rw [if_pos c21] at h
        refine r_iload_n (q := 143) dX12_laysKnown_142 rfl rfl ?_
        refine r_goto 157 dX12_laysKnown_143 (by decide) ?_
        exact t_X12_laysKnown_j157l79 hd s.1 x2 s.2.1 y15 y15 s.2.1 (mm_U s.2.2 32 (Int32.toNatClampNeg y15) ((s.2.2 32 (Int32.toNatClampNeg (s.2.2 31 (Int32.toNatClampNeg x2)))) + 1)) _ h kb ke
    · rw [if_neg c17] at h
      refine r_goto 170 dX12_laysKnown_109 (by decide) ?_
      refine r_iinc (v := 1) (q := 173) (L' := [some (.inr 0), some (.inl s.1), some (.inl x2), some (.inl (s.2.1 + 1)), some (.inl y15)]) dX12_laysKnown_170 (by decide) (by decide) rfl rfl rfl ?_
      refine r_goto 79 dX12_laysKnown_173 (by decide) ?_
      refine r_forget (L' := [some (.inr 0), some (.inl s.1), some (.inl x2), some (.inl (s.2.1 + 1)), none]) [true, true, true, true, false] rfl ?_
      cases h
      have hk := kb _ rfl
      exact hk
noncomputable def X12_laysKnown_l52 (s : (Int32 × Int32 × mm_M)) : Option ((Int32 × Int32 × mm_M) ⊕ (Int32 × mm_M)) := if s.1 ≤ s.2.1 then some (.inr ((-1), s.2.2)) else if mm_in s.2.1 1024 = true then (X12_bits (s.2.2 31 (Int32.toNatClampNeg s.2.1))).bind fun y9 => if y9 = 1 then if mm_in s.2.1 1024 = true then some (.inr ((s.2.2 31 (Int32.toNatClampNeg s.2.1)), s.2.2)) else none else (mm_loop (X12_laysKnown_l79 s.2.1) mm_fuel (s.1, 0, s.2.2)).bind fun y26 => some (.inl (y26.1, (s.2.1 + 1), y26.2)) else none
set_option maxRecDepth 100000 in
set_option maxHeartbeats 400000 in
theorem t_X12_laysKnown_l52 {D : mm_D} {d : Nat} (hd : 2 ≤ d) {Z : Option Int32 → List mm_C → mm_M → Prop} (n : Nat) (s : (Int32 × Int32 × mm_M)) (r : (Int32 × mm_M)) (h : mm_loop (X12_laysKnown_l52) n s = some r) (hx : Z (some r.1) S_m r.2) : mm_Go jX12_laysKnown D d 0 0 52 [some (.inr 0), some (.inl s.1), some (.inl s.2.1), none, none] [] S_m s.2.2 Z := by
  refine mm_loop_go (step := X12_laysKnown_l52) (Hd := fun (s : (Int32 × Int32 × mm_M)) => mm_Go jX12_laysKnown D d 0 0 52 [some (.inr 0), some (.inl s.1), some (.inl s.2.1), none, none] [] S_m s.2.2 Z) (Ex := fun (r : (Int32 × mm_M)) => Z (some r.1) S_m r.2) ?_ n s r h hx
  intro s o h kb ke
  show mm_Go jX12_laysKnown D d 0 0 52 [some (.inr 0), some (.inl s.1), some (.inl s.2.1), none, none] [] S_m s.2.2 Z
  unfold X12_laysKnown_l52 at h
  refine r_iload_n (q := 53) dX12_laysKnown_52 rfl rfl ?_
  refine r_iload_n (q := 54) dX12_laysKnown_53 rfl rfl ?_
  refine r_icmp_ge 182 (q := 57) dX12_laysKnown_54 (by decide) rfl (fun c6 => ?_) (fun c6 => ?_)
  · rw [if_pos c6] at h
    refine r_iconst (v := (-1)) (q := 183) dX12_laysKnown_182 (by decide) rfl ?_
    cases h
    have hk := ke _ rfl
    exact r_ret dX12_laysKnown_183 rfl hk
  · rw [if_neg c6] at h
    refine r_aload_n (q := 58) dX12_laysKnown_57 rfl rfl ?_
    refine r_getr (b := 31) (q := 61) lk_X12_101 dX12_laysKnown_58 sc_m_0 rfl rfl ?_
    refine r_iload_n (q := 62) dX12_laysKnown_61 rfl rfl ?_
    obtain ⟨g7, h⟩ := mm_guard h
    refine r_iald (v := (s.2.2 31 (Int32.toNatClampNeg s.2.1))) (q := 63) dX12_laysKnown_62 sc_m_31 (mm_vp g7) rfl rfl ?_
    obtain ⟨y9, e8, h⟩ := Option.bind_eq_some_iff.mp h
    refine r_callS_i (av := [(.inl (s.2.2 31 (Int32.toNatClampNeg s.2.1)))]) (st := []) (q := 66) (d1 := 0) kc_X12_389 dX12_laysKnown_63 rfl rfl (Nat.le_of_ble_eq_true rfl) (Nat.le_of_ble_eq_true rfl) (by omega) rfl rfl (t_X12_bits (d := 0) (by omega) (s.2.2 31 (Int32.toNatClampNeg s.2.1)) s.2.2 _ e8) ?_
    refine r_iconst (v := 1) (q := 67) dX12_laysKnown_66 (by decide) rfl ?_
    refine r_icmp_ne 77 (q := 70) dX12_laysKnown_67 (by decide) rfl (fun c10 => ?_) (fun c10 => ?_)
    · rw [if_neg c10] at h
      refine r_iconst (v := 0) (q := 78) dX12_laysKnown_77 (by decide) rfl ?_
      refine r_istore_n (q := 79) (L' := [some (.inr 0), some (.inl s.1), some (.inl s.2.1), some (.inl 0), none]) dX12_laysKnown_78 (by decide) rfl rfl ?_
      obtain ⟨y26, e27, h⟩ := Option.bind_eq_some_iff.mp h
      refine t_X12_laysKnown_l79 hd s.2.1 mm_fuel (s.1, 0, s.2.2) _ e27 ?_
      show mm_Go jX12_laysKnown _ _ _ _ 176 [some (.inr 0), some (.inl y26.1), some (.inl s.2.1), none, none] [] S_m y26.2 _
      refine r_iinc (v := 1) (q := 179) (L' := [some (.inr 0), some (.inl y26.1), some (.inl (s.2.1 + 1)), none, none]) dX12_laysKnown_176 (by decide) (by decide) rfl rfl rfl ?_
      refine r_goto 52 dX12_laysKnown_179 (by decide) ?_
      cases h
      have hk := kb _ rfl
      exact hk
    · rw [if_pos c10] at h
      refine r_aload_n (q := 71) dX12_laysKnown_70 rfl rfl ?_
      refine r_getr (b := 31) (q := 74) lk_X12_101 dX12_laysKnown_71 sc_m_0 rfl rfl ?_
      refine r_iload_n (q := 75) dX12_laysKnown_74 rfl rfl ?_
      obtain ⟨g11, h⟩ := mm_guard h
      refine r_iald (v := (s.2.2 31 (Int32.toNatClampNeg s.2.1))) (q := 76) dX12_laysKnown_75 sc_m_31 (mm_vp g11) rfl rfl ?_
      cases h
      have hk := ke _ rfl
      exact r_ret dX12_laysKnown_76 rfl hk
noncomputable def X12_laysKnown (M : mm_M) : Option (Int32 × mm_M) := (mm_loop (X12_laysKnown_l2) mm_fuel (0, M)).bind fun y3 => if mm_in (((1 : Int32) <<< ((y3 0 6) &&& 31)) - 1) 1024 = true then (mm_loop (X12_laysKnown_l52) mm_fuel (1, 0, (mm_U (mm_U y3 31 0 (((1 : Int32) <<< ((y3 0 6) &&& 31)) - 1)) 32 (Int32.toNatClampNeg (((1 : Int32) <<< ((y3 0 6) &&& 31)) - 1)) 0))) else none
set_option maxRecDepth 100000 in
set_option maxHeartbeats 400000 in
theorem t_X12_laysKnown {d : Nat} (hd : 2 ≤ d) (M : mm_M) (res : (Int32 × mm_M)) (h : X12_laysKnown M = some res) : mm_Meth jX12_laysKnown d 0 0 [(.inr 0)] S_m M (mm_Zi res.1 S_m res.2) := by
  refine r_meth (L := [some (.inr 0), none, none, none, none]) rfl (fun D => ?_)
  unfold X12_laysKnown at h
  refine r_iconst (v := 0) (q := 1) dX12_laysKnown_0 (by decide) rfl ?_
  refine r_istore_n (q := 2) (L' := [some (.inr 0), some (.inl 0), none, none, none]) dX12_laysKnown_1 (by decide) rfl rfl ?_
  obtain ⟨y3, e4, h⟩ := Option.bind_eq_some_iff.mp h
  refine t_X12_laysKnown_l2 hd mm_fuel (0, M) _ e4 ?_
  show mm_Go jX12_laysKnown _ _ _ _ 22 [some (.inr 0), none, none, none, none] [] S_m y3 _
  refine r_aload_n (q := 23) dX12_laysKnown_22 rfl rfl ?_
  refine r_getr (b := 31) (q := 26) lk_X12_101 dX12_laysKnown_23 sc_m_0 rfl rfl ?_
  refine r_iconst (v := 0) (q := 27) dX12_laysKnown_26 (by decide) rfl ?_
  refine r_iconst (v := 1) (q := 28) dX12_laysKnown_27 (by decide) rfl ?_
  refine r_aload_n (q := 29) dX12_laysKnown_28 rfl rfl ?_
  refine r_geti (v := (y3 0 6)) (q := 32) lk_X12_123 dX12_laysKnown_29 sc_m_0 rfl rfl rfl ?_
  refine r_ishl (q := 33) dX12_laysKnown_32 rfl ?_
  refine r_iconst (v := 1) (q := 34) dX12_laysKnown_33 (by decide) rfl ?_
  refine r_isub (q := 35) dX12_laysKnown_34 rfl ?_
  refine r_iast (j := 0) (q := 36) dX12_laysKnown_35 sc_m_31 (mm_vp (by decide)) rfl rfl ?_
  refine r_aload_n (q := 37) dX12_laysKnown_36 rfl rfl ?_
  refine r_getr (b := 32) (q := 40) lk_X12_104 dX12_laysKnown_37 sc_m_0 rfl rfl ?_
  refine r_aload_n (q := 41) dX12_laysKnown_40 rfl rfl ?_
  refine r_getr (b := 31) (q := 44) lk_X12_101 dX12_laysKnown_41 sc_m_0 rfl rfl ?_
  refine r_iconst (v := 0) (q := 45) dX12_laysKnown_44 (by decide) rfl ?_
  refine r_iald (v := (((1 : Int32) <<< ((y3 0 6) &&& 31)) - 1)) (q := 46) dX12_laysKnown_45 sc_m_31 (mm_vp (by decide)) rfl rfl ?_
  refine r_iconst (v := 0) (q := 47) dX12_laysKnown_46 (by decide) rfl ?_
  obtain ⟨g5, h⟩ := mm_guard h
  refine r_iast (j := (Int32.toNatClampNeg (((1 : Int32) <<< ((y3 0 6) &&& 31)) - 1))) (q := 48) dX12_laysKnown_47 sc_m_32 (mm_vp g5) rfl rfl ?_
  refine r_iconst (v := 1) (q := 49) dX12_laysKnown_48 (by decide) rfl ?_
  refine r_istore_n (q := 50) (L' := [some (.inr 0), some (.inl 1), none, none, none]) dX12_laysKnown_49 (by decide) rfl rfl ?_
  refine r_iconst (v := 0) (q := 51) dX12_laysKnown_50 (by decide) rfl ?_
  refine r_istore_n (q := 52) (L' := [some (.inr 0), some (.inl 1), some (.inl 0), none, none]) dX12_laysKnown_51 (by decide) rfl rfl ?_
  exact t_X12_laysKnown_l52 hd mm_fuel (1, 0, (mm_U (mm_U y3 31 0 (((1 : Int32) <<< ((y3 0 6) &&& 31)) - 1)) 32 (Int32.toNatClampNeg (((1 : Int32) <<< ((y3 0 6) &&& 31)) - 1)) 0)) _ h mm_Zi_rfl
noncomputable def X12_known (x1 : Int32) (M : mm_M) : Option (Int32 × mm_M) := if (M 0 6) = 0 then some ((-1), M) else if (X12_in x1 0 2) = true then (X12_laysKnown M).bind fun y4 => if y4.1 = (-1) then some ((-2), y4.2) else if x1 = 0 then if mm_in y4.1 1024 = true then some ((y4.2 32 (Int32.toNatClampNeg y4.1)), y4.2) else none else if x1 = 1 then (X12_lowest y4.1).bind fun y10 => some (y10, y4.2) else if mm_in y4.1 1024 = true then some ((y4.2 33 (Int32.toNatClampNeg y4.1)), y4.2) else none else some ((-1), M)
set_option maxRecDepth 100000 in
set_option maxHeartbeats 400000 in
theorem t_X12_known {d : Nat} (hd : 3 ≤ d) (x1 : Int32) (M : mm_M) (res : (Int32 × mm_M)) (h : X12_known x1 M = some res) : mm_Meth jX12_known d 0 0 [(.inr 0), (.inl x1)] S_m M (mm_Zi res.1 S_m res.2) := by
  refine r_meth (L := [some (.inr 0), some (.inl x1), none]) rfl (fun D => ?_)
  unfold X12_known at h
  refine r_aload_n (q := 1) dX12_known_0 rfl rfl ?_
  refine r_geti (v := (M 0 6)) (q := 4) lk_X12_123 dX12_known_1 sc_m_0 rfl rfl rfl ?_
  refine r_if_eq 16 (q := 7) dX12_known_4 (by decide) rfl (fun c1 => ?_) (fun c1 => ?_)
  · rw [if_pos c1] at h
    refine r_iconst (v := (-1)) (q := 17) dX12_known_16 (by decide) rfl ?_
    cases h
    exact r_ret dX12_known_17 rfl mm_Zi_rfl
  · rw [if_neg c1] at h
    refine r_iload_n (q := 8) dX12_known_7 rfl rfl ?_
    refine r_iconst (v := 0) (q := 9) dX12_known_8 (by decide) rfl ?_
    refine r_iconst (v := 2) (q := 10) dX12_known_9 (by decide) rfl ?_
    refine r_callS_i (av := [(.inl x1), (.inl 0), (.inl 2)]) (st := []) (q := 13) (d1 := 0) kc_X12_127 dX12_known_10 rfl rfl (Nat.le_of_ble_eq_true rfl) (Nat.le_of_ble_eq_true rfl) (by omega) rfl rfl (t_X12_in (d := 0) (by omega) x1 0 2 M _ rfl) ?_
    refine r_if_ne 18 (q := 16) dX12_known_13 (by decide) rfl (fun c2 => ?_) (fun c2 => ?_)
    · rw [if_pos (mm_b1 c2)] at h
      refine r_aload_n (q := 19) dX12_known_18 rfl rfl ?_
      obtain ⟨y4, e3, h⟩ := Option.bind_eq_some_iff.mp h
      refine r_callV_i (av := []) (st := []) (q := 22) (d1 := 2) kc_X12_395 sc_m_0 dX12_known_19 rfl rfl (Nat.le_of_ble_eq_true rfl) (Nat.le_of_ble_eq_true rfl) (by omega) rfl rfl (t_X12_laysKnown (d := 2) (by omega) M _ e3) ?_
      refine r_istore_n (q := 23) (L' := [some (.inr 0), some (.inl x1), some (.inl y4.1)]) dX12_known_22 (by decide) rfl rfl ?_
      refine r_iload_n (q := 24) dX12_known_23 rfl rfl ?_
      refine r_iconst (v := (-1)) (q := 25) dX12_known_24 (by decide) rfl ?_
      refine r_icmp_ne 31 (q := 28) dX12_known_25 (by decide) rfl (fun c5 => ?_) (fun c5 => ?_)
      · rw [if_neg c5] at h
        refine r_iload_n (q := 32) dX12_known_31 rfl rfl ?_
        refine r_if_ne 44 (q := 35) dX12_known_32 (by decide) rfl (fun c6 => ?_) (fun c6 => ?_)
        · rw [if_neg c6] at h
          refine r_iload_n (q := 45) dX12_known_44 rfl rfl ?_
          refine r_iconst (v := 1) (q := 46) dX12_known_45 (by decide) rfl ?_
          refine r_icmp_ne 56 (q := 49) dX12_known_46 (by decide) rfl (fun c8 => ?_) (fun c8 => ?_)
          · rw [if_neg c8] at h
            refine r_aload_n (q := 57) dX12_known_56 rfl rfl ?_
            refine r_getr (b := 33) (q := 60) lk_X12_107 dX12_known_57 sc_m_0 rfl rfl ?_
            refine r_iload_n (q := 61) dX12_known_60 rfl rfl ?_
            obtain ⟨g11, h⟩ := mm_guard h
            refine r_iald (v := (y4.2 33 (Int32.toNatClampNeg y4.1))) (q := 62) dX12_known_61 sc_m_33 (mm_vp g11) rfl rfl ?_
            cases h
            exact r_ret dX12_known_62 rfl mm_Zi_rfl
          · rw [if_pos c8] at h
            refine r_iload_n (q := 50) dX12_known_49 rfl rfl ?_
            obtain ⟨y10, e9, h⟩ := Option.bind_eq_some_iff.mp h
            refine r_callS_i (av := [(.inl y4.1)]) (st := []) (q := 53) (d1 := 1) kc_X12_386 dX12_known_50 rfl rfl (Nat.le_of_ble_eq_true rfl) (Nat.le_of_ble_eq_true rfl) (by omega) rfl rfl (t_X12_lowest (d := 1) (by omega) y4.1 y4.2 _ e9) ?_
            refine r_goto 62 dX12_known_53 (by decide) ?_
            cases h
            exact r_ret dX12_known_62 rfl mm_Zi_rfl
        · rw [if_pos c6] at h
          refine r_aload_n (q := 36) dX12_known_35 rfl rfl ?_
          refine r_getr (b := 32) (q := 39) lk_X12_104 dX12_known_36 sc_m_0 rfl rfl ?_
          refine r_iload_n (q := 40) dX12_known_39 rfl rfl ?_
          obtain ⟨g7, h⟩ := mm_guard h
          refine r_iald (v := (y4.2 32 (Int32.toNatClampNeg y4.1))) (q := 41) dX12_known_40 sc_m_32 (mm_vp g7) rfl rfl ?_
          refine r_goto 62 dX12_known_41 (by decide) ?_
          cases h
          exact r_ret dX12_known_62 rfl mm_Zi_rfl
      · rw [if_pos c5] at h
        refine r_bipush (v := (-2)) (q := 30) dX12_known_28 (by decide) rfl ?_
        cases h
        exact r_ret dX12_known_30 rfl mm_Zi_rfl
    · rw [if_neg (mm_b0 c2)] at h
      refine r_iconst (v := (-1)) (q := 17) dX12_known_16 (by decide) rfl ?_
      cases h
      exact r_ret dX12_known_17 rfl mm_Zi_rfl
noncomputable def X12_areStates (x1 : Int32) (M : mm_M) : Bool := if x1 ≤ 0 then false else if ((1 : Int32) <<< ((M 0 6) &&& 31)) ≤ x1 then false else true
set_option maxRecDepth 100000 in
set_option maxHeartbeats 400000 in
theorem t_X12_areStates {d : Nat} (hd : 0 ≤ d) (x1 : Int32) (M : mm_M) (res : Bool) (h : X12_areStates x1 M = res) : mm_Meth jX12_areStates d 0 0 [(.inr 0), (.inl x1)] S_m M (mm_Zi (mm_b res) S_m M) := by
  refine r_meth (L := [some (.inr 0), some (.inl x1)]) rfl (fun D => ?_)
  unfold X12_areStates at h
  refine r_iload_n (q := 1) dX12_areStates_0 rfl rfl ?_
  refine r_if_le 18 (q := 4) dX12_areStates_1 (by decide) rfl (fun c1 => ?_) (fun c1 => ?_)
  · rw [if_pos c1] at h
    refine r_iconst (v := 0) (q := 19) dX12_areStates_18 (by decide) rfl ?_
    subst h
    exact r_retb dX12_areStates_19 rfl (Or.inl rfl) mm_Zi_rfl
  · rw [if_neg c1] at h
    refine r_iload_n (q := 5) dX12_areStates_4 rfl rfl ?_
    refine r_iconst (v := 1) (q := 6) dX12_areStates_5 (by decide) rfl ?_
    refine r_aload_n (q := 7) dX12_areStates_6 rfl rfl ?_
    refine r_geti (v := (M 0 6)) (q := 10) lk_X12_123 dX12_areStates_7 sc_m_0 rfl rfl rfl ?_
    refine r_ishl (q := 11) dX12_areStates_10 rfl ?_
    refine r_icmp_ge 18 (q := 14) dX12_areStates_11 (by decide) rfl (fun c2 => ?_) (fun c2 => ?_)
    · rw [if_pos c2] at h
      refine r_iconst (v := 0) (q := 19) dX12_areStates_18 (by decide) rfl ?_
      subst h
      exact r_retb dX12_areStates_19 rfl (Or.inl rfl) mm_Zi_rfl
    · rw [if_neg c2] at h
      refine r_iconst (v := 1) (q := 15) dX12_areStates_14 (by decide) rfl ?_
      refine r_goto 19 dX12_areStates_15 (by decide) ?_
      subst h
      exact r_retb dX12_areStates_19 rfl (Or.inr rfl) mm_Zi_rfl
noncomputable def X12_leftBy_l6 (x1 : Int32) (x2 : Int32) (x3 : Int32) (M : mm_M) (s : (Int32 × Int32)) : Option ((Int32 × Int32) ⊕ Int32) := if (M 0 6) ≤ s.2 then some (.inr s.1) else if (X12_has x1 s.2) = true then (X12_answer x2 s.2 M).bind fun y4 => if y4 = x3 then (X12_behind x2 s.2 M).bind fun y7 => some (.inl ((s.1 ||| ((1 : Int32) <<< (y7 &&& 31))), (s.2 + 1))) else some (.inl (s.1, (s.2 + 1))) else some (.inl (s.1, (s.2 + 1)))
set_option maxRecDepth 100000 in
set_option maxHeartbeats 400000 in
theorem t_X12_leftBy_l6 {D : mm_D} {d : Nat} (hd : 1 ≤ d) {Z : Option Int32 → List mm_C → mm_M → Prop} (x1 : Int32) (x2 : Int32) (x3 : Int32) (M : mm_M) (n : Nat) (s : (Int32 × Int32)) (r : Int32) (h : mm_loop (X12_leftBy_l6 x1 x2 x3 M) n s = some r) (hx : Z (some r) S_m M) : mm_Go jX12_leftBy D d 0 0 6 [some (.inr 0), some (.inl x1), some (.inl x2), some (.inl x3), some (.inl s.1), some (.inl s.2)] [] S_m M Z := by
  refine mm_loop_go (step := X12_leftBy_l6 x1 x2 x3 M) (Hd := fun (s : (Int32 × Int32)) => mm_Go jX12_leftBy D d 0 0 6 [some (.inr 0), some (.inl x1), some (.inl x2), some (.inl x3), some (.inl s.1), some (.inl s.2)] [] S_m M Z) (Ex := fun (r : Int32) => Z (some r) S_m M) ?_ n s r h hx
  intro s o h kb ke
  show mm_Go jX12_leftBy D d 0 0 6 [some (.inr 0), some (.inl x1), some (.inl x2), some (.inl x3), some (.inl s.1), some (.inl s.2)] [] S_m M Z
  unfold X12_leftBy_l6 at h
  refine r_iload (q := 8) dX12_leftBy_6 rfl rfl ?_
  refine r_aload_n (q := 9) dX12_leftBy_8 rfl rfl ?_
  refine r_geti (v := (M 0 6)) (q := 12) lk_X12_123 dX12_leftBy_9 sc_m_0 rfl rfl rfl ?_
  refine r_icmp_ge 55 (q := 15) dX12_leftBy_12 (by decide) rfl (fun c1 => ?_) (fun c1 => ?_)
  · rw [if_pos c1] at h
    refine r_iload (q := 57) dX12_leftBy_55 rfl rfl ?_
    cases h
    have hk := ke _ rfl
    exact r_ret dX12_leftBy_57 rfl hk
  · rw [if_neg c1] at h
    refine r_iload_n (q := 16) dX12_leftBy_15 rfl rfl ?_
    refine r_iload (q := 18) dX12_leftBy_16 rfl rfl ?_
    refine r_callS_i (av := [(.inl x1), (.inl s.2)]) (st := []) (q := 21) (d1 := 0) kc_X12_119 dX12_leftBy_18 rfl rfl (Nat.le_of_ble_eq_true rfl) (Nat.le_of_ble_eq_true rfl) (by omega) rfl rfl (t_X12_has (d := 0) (by omega) x1 s.2 M _ rfl) ?_
    refine r_if_eq 49 (q := 24) dX12_leftBy_21 (by decide) rfl (fun c2 => ?_) (fun c2 => ?_)
    · rw [if_neg (mm_b0 c2)] at h
      refine r_iinc (v := 1) (q := 52) (L' := [some (.inr 0), some (.inl x1), some (.inl x2), some (.inl x3), some (.inl s.1), some (.inl (s.2 + 1))]) dX12_leftBy_49 (by decide) (by decide) rfl rfl rfl ?_
      refine r_goto 6 dX12_leftBy_52 (by decide) ?_
      cases h
      have hk := kb _ rfl
      exact hk
    · rw [if_pos (mm_b1 c2)] at h
      refine r_aload_n (q := 25) dX12_leftBy_24 rfl rfl ?_
      refine r_iload_n (q := 26) dX12_leftBy_25 rfl rfl ?_
      refine r_iload (q := 28) dX12_leftBy_26 rfl rfl ?_
      obtain ⟨y4, e3, h⟩ := Option.bind_eq_some_iff.mp h
      refine r_callV_i (av := [(.inl x2), (.inl s.2)]) (st := []) (q := 31) (d1 := 0) kc_X12_299 sc_m_0 dX12_leftBy_28 rfl rfl (Nat.le_of_ble_eq_true rfl) (Nat.le_of_ble_eq_true rfl) (by omega) rfl rfl (t_X12_answer (d := 0) (by omega) x2 s.2 M _ e3) ?_
      refine r_iload_n (q := 32) dX12_leftBy_31 rfl rfl ?_
      refine r_icmp_ne 49 (q := 35) dX12_leftBy_32 (by decide) rfl (fun c5 => ?_) (fun c5 => ?_)
      · rw [if_neg c5] at h
        refine r_iinc (v := 1) (q := 52) (L' := [some (.inr 0), some (.inl x1), some (.inl x2), some (.inl x3), some (.inl s.1), some (.inl (s.2 + 1))]) dX12_leftBy_49 (by decide) (by decide) rfl rfl rfl ?_
        refine r_goto 6 dX12_leftBy_52 (by decide) ?_
        cases h
        have hk := kb _ rfl
        exact hk
      · rw [if_pos c5] at h
        refine r_iload (q := 37) dX12_leftBy_35 rfl rfl ?_
        refine r_iconst (v := 1) (q := 38) dX12_leftBy_37 (by decide) rfl ?_
        refine r_aload_n (q := 39) dX12_leftBy_38 rfl rfl ?_
        refine r_iload_n (q := 40) dX12_leftBy_39 rfl rfl ?_
        refine r_iload (q := 42) dX12_leftBy_40 rfl rfl ?_
        obtain ⟨y7, e6, h⟩ := Option.bind_eq_some_iff.mp h
        refine r_callV_i (av := [(.inl x2), (.inl s.2)]) (st := [(.inl 1), (.inl s.1)]) (q := 45) (d1 := 0) kc_X12_306 sc_m_0 dX12_leftBy_42 rfl rfl (Nat.le_of_ble_eq_true rfl) (Nat.le_of_ble_eq_true rfl) (by omega) rfl rfl (t_X12_behind (d := 0) (by omega) x2 s.2 M _ e6) ?_
        refine r_ishl (q := 46) dX12_leftBy_45 rfl ?_
        refine r_ior (q := 47) dX12_leftBy_46 rfl ?_
        refine r_istore (q := 49) (L' := [some (.inr 0), some (.inl x1), some (.inl x2), some (.inl x3), some (.inl (s.1 ||| ((1 : Int32) <<< (y7 &&& 31)))), some (.inl s.2)]) dX12_leftBy_47 (by decide) rfl rfl ?_
        refine r_iinc (v := 1) (q := 52) (L' := [some (.inr 0), some (.inl x1), some (.inl x2), some (.inl x3), some (.inl (s.1 ||| ((1 : Int32) <<< (y7 &&& 31)))), some (.inl (s.2 + 1))]) dX12_leftBy_49 (by decide) (by decide) rfl rfl rfl ?_
        refine r_goto 6 dX12_leftBy_52 (by decide) ?_
        cases h
        have hk := kb _ rfl
        exact hk
noncomputable def X12_leftBy (x1 : Int32) (x2 : Int32) (x3 : Int32) (M : mm_M) : Option Int32 := (mm_loop (X12_leftBy_l6 x1 x2 x3 M) mm_fuel (0, 0))
set_option maxRecDepth 100000 in
set_option maxHeartbeats 400000 in
theorem t_X12_leftBy {d : Nat} (hd : 1 ≤ d) (x1 : Int32) (x2 : Int32) (x3 : Int32) (M : mm_M) (res : Int32) (h : X12_leftBy x1 x2 x3 M = some res) : mm_Meth jX12_leftBy d 0 0 [(.inr 0), (.inl x1), (.inl x2), (.inl x3)] S_m M (mm_Zi res S_m M) := by
  refine r_meth (L := [some (.inr 0), some (.inl x1), some (.inl x2), some (.inl x3), none, none]) rfl (fun D => ?_)
  unfold X12_leftBy at h
  refine r_iconst (v := 0) (q := 1) dX12_leftBy_0 (by decide) rfl ?_
  refine r_istore (q := 3) (L' := [some (.inr 0), some (.inl x1), some (.inl x2), some (.inl x3), some (.inl 0), none]) dX12_leftBy_1 (by decide) rfl rfl ?_
  refine r_iconst (v := 0) (q := 4) dX12_leftBy_3 (by decide) rfl ?_
  refine r_istore (q := 6) (L' := [some (.inr 0), some (.inl x1), some (.inl x2), some (.inl x3), some (.inl 0), some (.inl 0)]) dX12_leftBy_4 (by decide) rfl rfl ?_
  exact t_X12_leftBy_l6 hd x1 x2 x3 M mm_fuel (0, 0) _ h mm_Zi_rfl
noncomputable def X12_max (x0 : Int32) (x1 : Int32) : Int32 := if x0 ≤ x1 then x1 else x0
set_option maxRecDepth 100000 in
set_option maxHeartbeats 400000 in
theorem t_X12_max {d : Nat} (hd : 0 ≤ d) (x0 : Int32) (x1 : Int32) (M : mm_M) (res : Int32) (h : X12_max x0 x1 = res) : mm_Meth jX12_max d 0 0 [(.inl x0), (.inl x1)] S_m M (mm_Zi res S_m M) := by
  refine r_meth (L := [some (.inl x0), some (.inl x1)]) rfl (fun D => ?_)
  unfold X12_max at h
  refine r_iload_n (q := 1) dX12_max_0 rfl rfl ?_
  refine r_iload_n (q := 2) dX12_max_1 rfl rfl ?_
  refine r_icmp_le 9 (q := 5) dX12_max_2 (by decide) rfl (fun c1 => ?_) (fun c1 => ?_)
  · rw [if_pos c1] at h
    refine r_iload_n (q := 10) dX12_max_9 rfl rfl ?_
    subst h
    exact r_ret dX12_max_10 rfl mm_Zi_rfl
  · rw [if_neg c1] at h
    refine r_iload_n (q := 6) dX12_max_5 rfl rfl ?_
    refine r_goto 10 dX12_max_6 (by decide) ?_
    subst h
    exact r_ret dX12_max_10 rfl mm_Zi_rfl
noncomputable def X12_worstBy_l5 (x1 : Int32) (x2 : Int32) (M : mm_M) (s : (Int32 × Int32)) : Option ((Int32 × Int32) ⊕ Int32) := if 10 ≤ s.2 then some (.inr (s.1 + 1)) else (X12_leftBy x1 x2 s.2 M).bind fun y3 => if y3 = 0 then some (.inl (s.1, (s.2 + 1))) else if mm_in y3 1024 = true then some (.inl ((X12_max s.1 (M 34 (Int32.toNatClampNeg y3))), (s.2 + 1))) else none
set_option maxRecDepth 100000 in
set_option maxHeartbeats 400000 in
theorem t_X12_worstBy_l5 {D : mm_D} {d : Nat} (hd : 2 ≤ d) {Z : Option Int32 → List mm_C → mm_M → Prop} (x1 : Int32) (x2 : Int32) (M : mm_M) (n : Nat) (s : (Int32 × Int32)) (r : Int32) (h : mm_loop (X12_worstBy_l5 x1 x2 M) n s = some r) (hx : Z (some r) S_m M) : mm_Go jX12_worstBy D d 0 0 5 [some (.inr 0), some (.inl x1), some (.inl x2), some (.inl s.1), some (.inl s.2), none] [] S_m M Z := by
  refine mm_loop_go (step := X12_worstBy_l5 x1 x2 M) (Hd := fun (s : (Int32 × Int32)) => mm_Go jX12_worstBy D d 0 0 5 [some (.inr 0), some (.inl x1), some (.inl x2), some (.inl s.1), some (.inl s.2), none] [] S_m M Z) (Ex := fun (r : Int32) => Z (some r) S_m M) ?_ n s r h hx
  intro s o h kb ke
  show mm_Go jX12_worstBy D d 0 0 5 [some (.inr 0), some (.inl x1), some (.inl x2), some (.inl s.1), some (.inl s.2), none] [] S_m M Z
  unfold X12_worstBy_l5 at h
  refine r_iload (q := 7) dX12_worstBy_5 rfl rfl ?_
  refine r_bipush (v := 10) (q := 9) dX12_worstBy_7 (by decide) rfl ?_
  refine r_icmp_ge 45 (q := 12) dX12_worstBy_9 (by decide) rfl (fun c1 => ?_) (fun c1 => ?_)
  · rw [if_pos c1] at h
    refine r_iload_n (q := 46) dX12_worstBy_45 rfl rfl ?_
    refine r_iconst (v := 1) (q := 47) dX12_worstBy_46 (by decide) rfl ?_
    refine r_iadd (q := 48) dX12_worstBy_47 rfl ?_
    cases h
    have hk := ke _ rfl
    exact r_ret dX12_worstBy_48 rfl hk
  · rw [if_neg c1] at h
    refine r_aload_n (q := 13) dX12_worstBy_12 rfl rfl ?_
    refine r_iload_n (q := 14) dX12_worstBy_13 rfl rfl ?_
    refine r_iload_n (q := 15) dX12_worstBy_14 rfl rfl ?_
    refine r_iload (q := 17) dX12_worstBy_15 rfl rfl ?_
    obtain ⟨y3, e2, h⟩ := Option.bind_eq_some_iff.mp h
    refine r_callV_i (av := [(.inl x1), (.inl x2), (.inl s.2)]) (st := []) (q := 20) (d1 := 1) kc_X12_398 sc_m_0 dX12_worstBy_17 rfl rfl (Nat.le_of_ble_eq_true rfl) (Nat.le_of_ble_eq_true rfl) (by omega) rfl rfl (t_X12_leftBy (d := 1) (by omega) x1 x2 s.2 M _ e2) ?_
    refine r_istore (q := 22) (L' := [some (.inr 0), some (.inl x1), some (.inl x2), some (.inl s.1), some (.inl s.2), some (.inl y3)]) dX12_worstBy_20 (by decide) rfl rfl ?_
    refine r_iload (q := 24) dX12_worstBy_22 rfl rfl ?_
    refine r_if_eq 39 (q := 27) dX12_worstBy_24 (by decide) rfl (fun c4 => ?_) (fun c4 => ?_)
    · rw [if_pos c4] at h
      refine r_iinc (v := 1) (q := 42) (L' := [some (.inr 0), some (.inl x1), some (.inl x2), some (.inl s.1), some (.inl (s.2 + 1)), some (.inl y3)]) dX12_worstBy_39 (by decide) (by decide) rfl rfl rfl ?_
      refine r_goto 5 dX12_worstBy_42 (by decide) ?_
      refine r_forget (L' := [some (.inr 0), some (.inl x1), some (.inl x2), some (.inl s.1), some (.inl (s.2 + 1)), none]) [true, true, true, true, true, false] rfl ?_
      cases h
      have hk := kb _ rfl
      exact hk
    · rw [if_neg c4] at h
      refine r_iload_n (q := 28) dX12_worstBy_27 rfl rfl ?_
      refine r_aload_n (q := 29) dX12_worstBy_28 rfl rfl ?_
      refine r_getr (b := 34) (q := 32) lk_X12_110 dX12_worstBy_29 sc_m_0 rfl rfl ?_
      refine r_iload (q := 34) dX12_worstBy_32 rfl rfl ?_
      obtain ⟨g5, h⟩ := mm_guard h
      refine r_iald (v := (M 34 (Int32.toNatClampNeg y3))) (q := 35) dX12_worstBy_34 sc_m_34 (mm_vp g5) rfl rfl ?_
      refine r_callS_i (av := [(.inl s.1), (.inl (M 34 (Int32.toNatClampNeg y3)))]) (st := []) (q := 38) (d1 := 0) kc_X12_401 dX12_worstBy_35 rfl rfl (Nat.le_of_ble_eq_true rfl) (Nat.le_of_ble_eq_true rfl) (by omega) rfl rfl (t_X12_max (d := 0) (by omega) s.1 (M 34 (Int32.toNatClampNeg y3)) M _ rfl) ?_
      refine r_istore_n (q := 39) (L' := [some (.inr 0), some (.inl x1), some (.inl x2), some (.inl (X12_max s.1 (M 34 (Int32.toNatClampNeg y3)))), some (.inl s.2), some (.inl y3)]) dX12_worstBy_38 (by decide) rfl rfl ?_
      refine r_iinc (v := 1) (q := 42) (L' := [some (.inr 0), some (.inl x1), some (.inl x2), some (.inl (X12_max s.1 (M 34 (Int32.toNatClampNeg y3)))), some (.inl (s.2 + 1)), some (.inl y3)]) dX12_worstBy_39 (by decide) (by decide) rfl rfl rfl ?_
      refine r_goto 5 dX12_worstBy_42 (by decide) ?_
      refine r_forget (L' := [some (.inr 0), some (.inl x1), some (.inl x2), some (.inl (X12_max s.1 (M 34 (Int32.toNatClampNeg y3)))), some (.inl (s.2 + 1)), none]) [true, true, true, true, true, false] rfl ?_
      cases h
      have hk := kb _ rfl
      exact hk
noncomputable def X12_worstBy (x1 : Int32) (x2 : Int32) (M : mm_M) : Option Int32 := (mm_loop (X12_worstBy_l5 x1 x2 M) mm_fuel (0, 0))
set_option maxRecDepth 100000 in
set_option maxHeartbeats 400000 in
theorem t_X12_worstBy {d : Nat} (hd : 2 ≤ d) (x1 : Int32) (x2 : Int32) (M : mm_M) (res : Int32) (h : X12_worstBy x1 x2 M = some res) : mm_Meth jX12_worstBy d 0 0 [(.inr 0), (.inl x1), (.inl x2)] S_m M (mm_Zi res S_m M) := by
  refine r_meth (L := [some (.inr 0), some (.inl x1), some (.inl x2), none, none, none]) rfl (fun D => ?_)
  unfold X12_worstBy at h
  refine r_iconst (v := 0) (q := 1) dX12_worstBy_0 (by decide) rfl ?_
  refine r_istore_n (q := 2) (L' := [some (.inr 0), some (.inl x1), some (.inl x2), some (.inl 0), none, none]) dX12_worstBy_1 (by decide) rfl rfl ?_
  refine r_iconst (v := 0) (q := 3) dX12_worstBy_2 (by decide) rfl ?_
  refine r_istore (q := 5) (L' := [some (.inr 0), some (.inl x1), some (.inl x2), some (.inl 0), some (.inl 0), none]) dX12_worstBy_3 (by decide) rfl rfl ?_
  exact t_X12_worstBy_l5 hd x1 x2 M mm_fuel (0, 0) _ h mm_Zi_rfl
noncomputable def X12_laysPlans_l2 (s : (Int32 × mm_M)) : Option ((Int32 × mm_M) ⊕ mm_M) := if 1024 ≤ s.1 then some (.inr s.2) else (X12_bits s.1).bind fun y3 => if 2 ≤ y3 then if mm_in s.1 1024 = true then some (.inl ((s.1 + 1), (mm_U s.2 34 (Int32.toNatClampNeg s.1) 1000000))) else none else if mm_in s.1 1024 = true then some (.inl ((s.1 + 1), (mm_U s.2 34 (Int32.toNatClampNeg s.1) 0))) else none
set_option maxRecDepth 100000 in
set_option maxHeartbeats 400000 in
theorem t_X12_laysPlans_l2 {D : mm_D} {d : Nat} (hd : 3 ≤ d) {Z : Option Int32 → List mm_C → mm_M → Prop} (n : Nat) (s : (Int32 × mm_M)) (r : mm_M) (h : mm_loop (X12_laysPlans_l2) n s = some r) (hx : mm_Go jX12_laysPlans D d 0 0 36 [some (.inr 0), none, none, none] [] S_m r Z) : mm_Go jX12_laysPlans D d 0 0 2 [some (.inr 0), some (.inl s.1), none, none] [] S_m s.2 Z := by
  refine mm_loop_go (step := X12_laysPlans_l2) (Hd := fun (s : (Int32 × mm_M)) => mm_Go jX12_laysPlans D d 0 0 2 [some (.inr 0), some (.inl s.1), none, none] [] S_m s.2 Z) (Ex := fun (r : mm_M) => mm_Go jX12_laysPlans D d 0 0 36 [some (.inr 0), none, none, none] [] S_m r Z) ?_ n s r h hx
  intro s o h kb ke
  show mm_Go jX12_laysPlans D d 0 0 2 [some (.inr 0), some (.inl s.1), none, none] [] S_m s.2 Z
  unfold X12_laysPlans_l2 at h
  refine r_iload_n (q := 3) dX12_laysPlans_2 rfl rfl ?_
  refine r_sipush (v := 1024) (q := 6) dX12_laysPlans_3 (by decide) rfl ?_
  refine r_icmp_ge 36 (q := 9) dX12_laysPlans_6 (by decide) rfl (fun c1 => ?_) (fun c1 => ?_)
  · rw [if_pos c1] at h
    refine r_forget (L' := [some (.inr 0), none, none, none]) [true, false, false, false] rfl ?_
    cases h
    have hk := ke _ rfl
    exact hk
  · rw [if_neg c1] at h
    refine r_aload_n (q := 10) dX12_laysPlans_9 rfl rfl ?_
    refine r_getr (b := 34) (q := 13) lk_X12_110 dX12_laysPlans_10 sc_m_0 rfl rfl ?_
    refine r_iload_n (q := 14) dX12_laysPlans_13 rfl rfl ?_
    refine r_iload_n (q := 15) dX12_laysPlans_14 rfl rfl ?_
    obtain ⟨y3, e2, h⟩ := Option.bind_eq_some_iff.mp h
    refine r_callS_i (av := [(.inl s.1)]) (st := [(.inl s.1), (.inr 34)]) (q := 18) (d1 := 0) kc_X12_389 dX12_laysPlans_15 rfl rfl (Nat.le_of_ble_eq_true rfl) (Nat.le_of_ble_eq_true rfl) (by omega) rfl rfl (t_X12_bits (d := 0) (by omega) s.1 s.2 _ e2) ?_
    refine r_iconst (v := 2) (q := 19) dX12_laysPlans_18 (by decide) rfl ?_
    refine r_icmp_ge 26 (q := 22) dX12_laysPlans_19 (by decide) rfl (fun c4 => ?_) (fun c4 => ?_)
    · rw [if_pos c4] at h
      refine r_ldcw (v := 1000000) (q := 29) dX12_laysPlans_26 ko_X12_372 rfl ?_
      obtain ⟨g5, h⟩ := mm_guard h
      refine r_iast (j := (Int32.toNatClampNeg s.1)) (q := 30) dX12_laysPlans_29 sc_m_34 (mm_vp g5) rfl rfl ?_
      refine r_iinc (v := 1) (q := 33) (L' := [some (.inr 0), some (.inl (s.1 + 1)), none, none]) dX12_laysPlans_30 (by decide) (by decide) rfl rfl rfl ?_
      refine r_goto 2 dX12_laysPlans_33 (by decide) ?_
      cases h
      have hk := kb _ rfl
      exact hk
    · rw [if_neg c4] at h
      refine r_iconst (v := 0) (q := 23) dX12_laysPlans_22 (by decide) rfl ?_
      refine r_goto 29 dX12_laysPlans_23 (by decide) ?_
      obtain ⟨g6, h⟩ := mm_guard h
      refine r_iast (j := (Int32.toNatClampNeg s.1)) (q := 30) dX12_laysPlans_29 sc_m_34 (mm_vp g6) rfl rfl ?_
      refine r_iinc (v := 1) (q := 33) (L' := [some (.inr 0), some (.inl (s.1 + 1)), none, none]) dX12_laysPlans_30 (by decide) (by decide) rfl rfl rfl ?_
      refine r_goto 2 dX12_laysPlans_33 (by decide) ?_
      cases h
      have hk := kb _ rfl
      exact hk
noncomputable def X12_laysPlans_l58 (x2 : Int32) (s : (Bool × Int32 × mm_M)) : Option ((Bool × Int32 × mm_M) ⊕ (Bool × mm_M)) := if 8 ≤ s.2.1 then some (.inr (s.1, s.2.2)) else (X12_bits x2).bind fun y13 => if y13 ≤ 1 then some (.inr (s.1, s.2.2)) else (X12_worstBy x2 s.2.1 s.2.2).bind fun y16 => if mm_in x2 1024 = true then if y16 < (s.2.2 34 (Int32.toNatClampNeg x2)) then (X12_worstBy x2 s.2.1 s.2.2).bind fun y20 => if mm_in x2 1024 = true then some (.inl (true, (s.2.1 + 1), (mm_U s.2.2 34 (Int32.toNatClampNeg x2) y20))) else none else some (.inl (s.1, (s.2.1 + 1), s.2.2)) else none
set_option maxRecDepth 100000 in
set_option maxHeartbeats 400000 in
theorem t_X12_laysPlans_l58 {D : mm_D} {d : Nat} (hd : 3 ≤ d) {Z : Option Int32 → List mm_C → mm_M → Prop} (x2 : Int32) (n : Nat) (s : (Bool × Int32 × mm_M)) (r : (Bool × mm_M)) (h : mm_loop (X12_laysPlans_l58 x2) n s = some r) (hx : mm_Go jX12_laysPlans D d 0 0 110 [some (.inr 0), some (.inl (mm_b r.1)), some (.inl x2), none] [] S_m r.2 Z) : mm_Go jX12_laysPlans D d 0 0 58 [some (.inr 0), some (.inl (mm_b s.1)), some (.inl x2), some (.inl s.2.1)] [] S_m s.2.2 Z := by
  refine mm_loop_go (step := X12_laysPlans_l58 x2) (Hd := fun (s : (Bool × Int32 × mm_M)) => mm_Go jX12_laysPlans D d 0 0 58 [some (.inr 0), some (.inl (mm_b s.1)), some (.inl x2), some (.inl s.2.1)] [] S_m s.2.2 Z) (Ex := fun (r : (Bool × mm_M)) => mm_Go jX12_laysPlans D d 0 0 110 [some (.inr 0), some (.inl (mm_b r.1)), some (.inl x2), none] [] S_m r.2 Z) ?_ n s r h hx
  intro s o h kb ke
  show mm_Go jX12_laysPlans D d 0 0 58 [some (.inr 0), some (.inl (mm_b s.1)), some (.inl x2), some (.inl s.2.1)] [] S_m s.2.2 Z
  unfold X12_laysPlans_l58 at h
  refine r_iload_n (q := 59) dX12_laysPlans_58 rfl rfl ?_
  refine r_bipush (v := 8) (q := 61) dX12_laysPlans_59 (by decide) rfl ?_
  refine r_icmp_ge 110 (q := 64) dX12_laysPlans_61 (by decide) rfl (fun c11 => ?_) (fun c11 => ?_)
  · rw [if_pos c11] at h
    refine r_forget (L' := [some (.inr 0), some (.inl (mm_b s.1)), some (.inl x2), none]) [true, true, true, false] rfl ?_
    cases h
    have hk := ke _ rfl
    exact hk
  · rw [if_neg c11] at h
    refine r_iload_n (q := 65) dX12_laysPlans_64 rfl rfl ?_
    obtain ⟨y13, e12, h⟩ := Option.bind_eq_some_iff.mp h
    refine r_callS_i (av := [(.inl x2)]) (st := []) (q := 68) (d1 := 0) kc_X12_389 dX12_laysPlans_65 rfl rfl (Nat.le_of_ble_eq_true rfl) (Nat.le_of_ble_eq_true rfl) (by omega) rfl rfl (t_X12_bits (d := 0) (by omega) x2 s.2.2 _ e12) ?_
    refine r_iconst (v := 1) (q := 69) dX12_laysPlans_68 (by decide) rfl ?_
    refine r_icmp_le 110 (q := 72) dX12_laysPlans_69 (by decide) rfl (fun c14 => ?_) (fun c14 => ?_)
    · rw [if_pos c14] at h
      refine r_forget (L' := [some (.inr 0), some (.inl (mm_b s.1)), some (.inl x2), none]) [true, true, true, false] rfl ?_
      cases h
      have hk := ke _ rfl
      exact hk
    · rw [if_neg c14] at h
      refine r_aload_n (q := 73) dX12_laysPlans_72 rfl rfl ?_
      refine r_iload_n (q := 74) dX12_laysPlans_73 rfl rfl ?_
      refine r_iload_n (q := 75) dX12_laysPlans_74 rfl rfl ?_
      obtain ⟨y16, e15, h⟩ := Option.bind_eq_some_iff.mp h
      refine r_callV_i (av := [(.inl x2), (.inl s.2.1)]) (st := []) (q := 78) (d1 := 2) kc_X12_404 sc_m_0 dX12_laysPlans_75 rfl rfl (Nat.le_of_ble_eq_true rfl) (Nat.le_of_ble_eq_true rfl) (by omega) rfl rfl (t_X12_worstBy (d := 2) (by omega) x2 s.2.1 s.2.2 _ e15) ?_
      refine r_aload_n (q := 79) dX12_laysPlans_78 rfl rfl ?_
      refine r_getr (b := 34) (q := 82) lk_X12_110 dX12_laysPlans_79 sc_m_0 rfl rfl ?_
      refine r_iload_n (q := 83) dX12_laysPlans_82 rfl rfl ?_
      obtain ⟨g17, h⟩ := mm_guard h
      refine r_iald (v := (s.2.2 34 (Int32.toNatClampNeg x2))) (q := 84) dX12_laysPlans_83 sc_m_34 (mm_vp g17) rfl rfl ?_
      refine r_icmp_lt 90 (q := 87) dX12_laysPlans_84 (by decide) rfl (fun c18 => ?_) (fun c18 => ?_)
      · rw [if_pos c18] at h
        refine r_aload_n (q := 91) dX12_laysPlans_90 rfl rfl ?_
        refine r_getr (b := 34) (q := 94) lk_X12_110 dX12_laysPlans_91 sc_m_0 rfl rfl ?_
        refine r_iload_n (q := 95) dX12_laysPlans_94 rfl rfl ?_
        refine r_aload_n (q := 96) dX12_laysPlans_95 rfl rfl ?_
        refine r_iload_n (q := 97) dX12_laysPlans_96 rfl rfl ?_
        refine r_iload_n (q := 98) dX12_laysPlans_97 rfl rfl ?_
        obtain ⟨y20, e19, h⟩ := Option.bind_eq_some_iff.mp h
        refine r_callV_i (av := [(.inl x2), (.inl s.2.1)]) (st := [(.inl x2), (.inr 34)]) (q := 101) (d1 := 2) kc_X12_404 sc_m_0 dX12_laysPlans_98 rfl rfl (Nat.le_of_ble_eq_true rfl) (Nat.le_of_ble_eq_true rfl) (by omega) rfl rfl (t_X12_worstBy (d := 2) (by omega) x2 s.2.1 s.2.2 _ e19) ?_
        obtain ⟨g21, h⟩ := mm_guard h
        refine r_iast (j := (Int32.toNatClampNeg x2)) (q := 102) dX12_laysPlans_101 sc_m_34 (mm_vp g21) rfl rfl ?_
        refine r_iconst (v := 1) (q := 103) dX12_laysPlans_102 (by decide) rfl ?_
        refine r_istore_n (q := 104) (L' := [some (.inr 0), some (.inl 1), some (.inl x2), some (.inl s.2.1)]) dX12_laysPlans_103 (by decide) rfl rfl ?_
        refine r_iinc (v := 1) (q := 107) (L' := [some (.inr 0), some (.inl 1), some (.inl x2), some (.inl (s.2.1 + 1))]) dX12_laysPlans_104 (by decide) (by decide) rfl rfl rfl ?_
        refine r_goto 58 dX12_laysPlans_107 (by decide) ?_
        cases h
        have hk := kb _ rfl
        exact hk
      · rw [if_neg c18] at h
        refine r_goto 104 dX12_laysPlans_87 (by decide) ?_
        refine r_iinc (v := 1) (q := 107) (L' := [some (.inr 0), some (.inl (mm_b s.1)), some (.inl x2), some (.inl (s.2.1 + 1))]) dX12_laysPlans_104 (by decide) (by decide) rfl rfl rfl ?_
        refine r_goto 58 dX12_laysPlans_107 (by decide) ?_
        cases h
        have hk := kb _ rfl
        exact hk
noncomputable def X12_laysPlans_l46 (s : (Bool × Int32 × mm_M)) : Option ((Bool × Int32 × mm_M) ⊕ (Bool × mm_M)) := if ((1 : Int32) <<< ((s.2.2 0 6) &&& 31)) ≤ s.2.1 then some (.inr (s.1, s.2.2)) else (mm_loop (X12_laysPlans_l58 s.2.1) mm_fuel (s.1, 0, s.2.2)).bind fun y22 => some (.inl (y22.1, (s.2.1 + 1), y22.2))
set_option maxRecDepth 100000 in
set_option maxHeartbeats 400000 in
theorem t_X12_laysPlans_l46 {D : mm_D} {d : Nat} (hd : 3 ≤ d) {Z : Option Int32 → List mm_C → mm_M → Prop} (n : Nat) (s : (Bool × Int32 × mm_M)) (r : (Bool × mm_M)) (h : mm_loop (X12_laysPlans_l46) n s = some r) (hx : mm_Go jX12_laysPlans D d 0 0 116 [some (.inr 0), some (.inl (mm_b r.1)), none, none] [] S_m r.2 Z) : mm_Go jX12_laysPlans D d 0 0 46 [some (.inr 0), some (.inl (mm_b s.1)), some (.inl s.2.1), none] [] S_m s.2.2 Z := by
  refine mm_loop_go (step := X12_laysPlans_l46) (Hd := fun (s : (Bool × Int32 × mm_M)) => mm_Go jX12_laysPlans D d 0 0 46 [some (.inr 0), some (.inl (mm_b s.1)), some (.inl s.2.1), none] [] S_m s.2.2 Z) (Ex := fun (r : (Bool × mm_M)) => mm_Go jX12_laysPlans D d 0 0 116 [some (.inr 0), some (.inl (mm_b r.1)), none, none] [] S_m r.2 Z) ?_ n s r h hx
  intro s o h kb ke
  show mm_Go jX12_laysPlans D d 0 0 46 [some (.inr 0), some (.inl (mm_b s.1)), some (.inl s.2.1), none] [] S_m s.2.2 Z
  unfold X12_laysPlans_l46 at h
  refine r_iload_n (q := 47) dX12_laysPlans_46 rfl rfl ?_
  refine r_iconst (v := 1) (q := 48) dX12_laysPlans_47 (by decide) rfl ?_
  refine r_aload_n (q := 49) dX12_laysPlans_48 rfl rfl ?_
  refine r_geti (v := (s.2.2 0 6)) (q := 52) lk_X12_123 dX12_laysPlans_49 sc_m_0 rfl rfl rfl ?_
  refine r_ishl (q := 53) dX12_laysPlans_52 rfl ?_
  refine r_icmp_ge 116 (q := 56) dX12_laysPlans_53 (by decide) rfl (fun c10 => ?_) (fun c10 => ?_)
  · rw [if_pos c10] at h
    refine r_forget (L' := [some (.inr 0), some (.inl (mm_b s.1)), none, none]) [true, true, false, false] rfl ?_
    cases h
    have hk := ke _ rfl
    exact hk
  · rw [if_neg c10] at h
    refine r_iconst (v := 0) (q := 57) dX12_laysPlans_56 (by decide) rfl ?_
    refine r_istore_n (q := 58) (L' := [some (.inr 0), some (.inl (mm_b s.1)), some (.inl s.2.1), some (.inl 0)]) dX12_laysPlans_57 (by decide) rfl rfl ?_
    obtain ⟨y22, e23, h⟩ := Option.bind_eq_some_iff.mp h
    refine t_X12_laysPlans_l58 hd s.2.1 mm_fuel (s.1, 0, s.2.2) _ e23 ?_
    show mm_Go jX12_laysPlans _ _ _ _ 110 [some (.inr 0), some (.inl (mm_b y22.1)), some (.inl s.2.1), none] [] S_m y22.2 _
    refine r_iinc (v := 1) (q := 113) (L' := [some (.inr 0), some (.inl (mm_b y22.1)), some (.inl (s.2.1 + 1)), none]) dX12_laysPlans_110 (by decide) (by decide) rfl rfl rfl ?_
    refine r_goto 46 dX12_laysPlans_113 (by decide) ?_
    cases h
    have hk := kb _ rfl
    exact hk
noncomputable def X12_laysPlans_l38 (s : (Bool × mm_M)) : Option ((Bool × mm_M) ⊕ mm_M) := if s.1 = true then (mm_loop (X12_laysPlans_l46) mm_fuel (false, 1, s.2)).bind fun y24 => some (.inl (y24.1, y24.2)) else some (.inr s.2)
set_option maxRecDepth 100000 in
set_option maxHeartbeats 400000 in
theorem t_X12_laysPlans_l38 {D : mm_D} {d : Nat} (hd : 3 ≤ d) {Z : Option Int32 → List mm_C → mm_M → Prop} (n : Nat) (s : (Bool × mm_M)) (r : mm_M) (h : mm_loop (X12_laysPlans_l38) n s = some r) (hx : Z none S_m r) : mm_Go jX12_laysPlans D d 0 0 38 [some (.inr 0), some (.inl (mm_b s.1)), none, none] [] S_m s.2 Z := by
  refine mm_loop_go (step := X12_laysPlans_l38) (Hd := fun (s : (Bool × mm_M)) => mm_Go jX12_laysPlans D d 0 0 38 [some (.inr 0), some (.inl (mm_b s.1)), none, none] [] S_m s.2 Z) (Ex := fun (r : mm_M) => Z none S_m r) ?_ n s r h hx
  intro s o h kb ke
  show mm_Go jX12_laysPlans D d 0 0 38 [some (.inr 0), some (.inl (mm_b s.1)), none, none] [] S_m s.2 Z
  unfold X12_laysPlans_l38 at h
  refine r_iload_n (q := 39) dX12_laysPlans_38 rfl rfl ?_
  refine r_if_eq 119 (q := 42) dX12_laysPlans_39 (by decide) rfl (fun c9 => ?_) (fun c9 => ?_)
  · rw [if_neg (mm_b0 c9)] at h
    cases h
    have hk := ke _ rfl
    exact r_retv dX12_laysPlans_119 rfl hk
  · rw [if_pos (mm_b1 c9)] at h
    refine r_iconst (v := 0) (q := 43) dX12_laysPlans_42 (by decide) rfl ?_
    refine r_istore_n (q := 44) (L' := [some (.inr 0), some (.inl 0), none, none]) dX12_laysPlans_43 (by decide) rfl rfl ?_
    refine r_iconst (v := 1) (q := 45) dX12_laysPlans_44 (by decide) rfl ?_
    refine r_istore_n (q := 46) (L' := [some (.inr 0), some (.inl 0), some (.inl 1), none]) dX12_laysPlans_45 (by decide) rfl rfl ?_
    obtain ⟨y24, e25, h⟩ := Option.bind_eq_some_iff.mp h
    refine t_X12_laysPlans_l46 hd mm_fuel (false, 1, s.2) _ e25 ?_
    show mm_Go jX12_laysPlans _ _ _ _ 116 [some (.inr 0), some (.inl (mm_b y24.1)), none, none] [] S_m y24.2 _
    refine r_goto 38 dX12_laysPlans_116 (by decide) ?_
    cases h
    have hk := kb _ rfl
    exact hk
noncomputable def X12_laysPlans (M : mm_M) : Option mm_M := (mm_loop (X12_laysPlans_l2) mm_fuel (0, M)).bind fun y7 => (mm_loop (X12_laysPlans_l38) mm_fuel (true, y7))
set_option maxRecDepth 100000 in
set_option maxHeartbeats 400000 in
theorem t_X12_laysPlans {d : Nat} (hd : 3 ≤ d) (M : mm_M) (res : mm_M) (h : X12_laysPlans M = some res) : mm_Meth jX12_laysPlans d 0 0 [(.inr 0)] S_m M (mm_Zv S_m res) := by
  refine r_meth (L := [some (.inr 0), none, none, none]) rfl (fun D => ?_)
  unfold X12_laysPlans at h
  refine r_iconst (v := 0) (q := 1) dX12_laysPlans_0 (by decide) rfl ?_
  refine r_istore_n (q := 2) (L' := [some (.inr 0), some (.inl 0), none, none]) dX12_laysPlans_1 (by decide) rfl rfl ?_
  obtain ⟨y7, e8, h⟩ := Option.bind_eq_some_iff.mp h
  refine t_X12_laysPlans_l2 hd mm_fuel (0, M) _ e8 ?_
  show mm_Go jX12_laysPlans _ _ _ _ 36 [some (.inr 0), none, none, none] [] S_m y7 _
  refine r_iconst (v := 1) (q := 37) dX12_laysPlans_36 (by decide) rfl ?_
  refine r_istore_n (q := 38) (L' := [some (.inr 0), some (.inl 1), none, none]) dX12_laysPlans_37 (by decide) rfl rfl ?_
  exact t_X12_laysPlans_l38 hd mm_fuel (true, y7) _ h mm_Zv_rfl
noncomputable def X12_plan_l70 (x1 : Int32) (M : mm_M) (s : Int32) : Option (Int32 ⊕ (Int32 × mm_M)) := (X12_worstBy x1 s M).bind fun y13 => if mm_in x1 1024 = true then if y13 = (M 34 (Int32.toNatClampNeg x1)) then some (.inr (s, M)) else some (.inl (s + 1)) else none
set_option maxRecDepth 100000 in
set_option maxHeartbeats 400000 in
theorem t_X12_plan_l70 {D : mm_D} {d : Nat} (hd : 4 ≤ d) {Z : Option Int32 → List mm_C → mm_M → Prop} (x1 : Int32) (M : mm_M) (n : Nat) (s : Int32) (r : (Int32 × mm_M)) (h : mm_loop (X12_plan_l70 x1 M) n s = some r) (hx : Z (some r.1) S_m r.2) : mm_Go jX12_plan D d 0 0 70 [some (.inr 0), some (.inl x1), none, some (.inl s)] [] S_m M Z := by
  refine mm_loop_go (step := X12_plan_l70 x1 M) (Hd := fun (s : Int32) => mm_Go jX12_plan D d 0 0 70 [some (.inr 0), some (.inl x1), none, some (.inl s)] [] S_m M Z) (Ex := fun (r : (Int32 × mm_M)) => Z (some r.1) S_m r.2) ?_ n s r h hx
  intro s o h kb ke
  show mm_Go jX12_plan D d 0 0 70 [some (.inr 0), some (.inl x1), none, some (.inl s)] [] S_m M Z
  unfold X12_plan_l70 at h
  refine r_aload_n (q := 71) dX12_plan_70 rfl rfl ?_
  refine r_iload_n (q := 72) dX12_plan_71 rfl rfl ?_
  refine r_iload_n (q := 73) dX12_plan_72 rfl rfl ?_
  obtain ⟨y13, e12, h⟩ := Option.bind_eq_some_iff.mp h
  refine r_callV_i (av := [(.inl x1), (.inl s)]) (st := []) (q := 76) (d1 := 2) kc_X12_404 sc_m_0 dX12_plan_73 rfl rfl (Nat.le_of_ble_eq_true rfl) (Nat.le_of_ble_eq_true rfl) (by omega) rfl rfl (t_X12_worstBy (d := 2) (by omega) x1 s M _ e12) ?_
  refine r_aload_n (q := 77) dX12_plan_76 rfl rfl ?_
  refine r_getr (b := 34) (q := 80) lk_X12_110 dX12_plan_77 sc_m_0 rfl rfl ?_
  refine r_iload_n (q := 81) dX12_plan_80 rfl rfl ?_
  obtain ⟨g14, h⟩ := mm_guard h
  refine r_iald (v := (M 34 (Int32.toNatClampNeg x1))) (q := 82) dX12_plan_81 sc_m_34 (mm_vp g14) rfl rfl ?_
  refine r_icmp_eq 92 (q := 85) dX12_plan_82 (by decide) rfl (fun c15 => ?_) (fun c15 => ?_)
  · rw [if_pos c15] at h
    refine r_iload_n (q := 93) dX12_plan_92 rfl rfl ?_
    cases h
    have hk := ke _ rfl
    exact r_ret dX12_plan_93 rfl hk
  · rw [if_neg c15] at h
    refine r_iload_n (q := 86) dX12_plan_85 rfl rfl ?_
    refine r_iconst (v := 1) (q := 87) dX12_plan_86 (by decide) rfl ?_
    refine r_iadd (q := 88) dX12_plan_87 rfl ?_
    refine r_istore_n (q := 89) (L' := [some (.inr 0), some (.inl x1), none, some (.inl (s + 1))]) dX12_plan_88 (by decide) rfl rfl ?_
    refine r_goto 70 dX12_plan_89 (by decide) ?_
    cases h
    have hk := kb _ rfl
    exact hk
noncomputable def X12_plan (x1 : Int32) (x2 : Int32) (M : mm_M) : Option (Int32 × mm_M) := if (M 0 6) = 0 then some ((-1), M) else if (X12_areStates x1 M) = true then if (X12_in x2 0 1) = true then (X12_laysPlans M).bind fun y5 => if mm_in x1 1024 = true then if (y5 34 (Int32.toNatClampNeg x1)) < 1000000 then if x2 = 0 then if mm_in x1 1024 = true then some ((y5 34 (Int32.toNatClampNeg x1)), y5) else none else if mm_in x1 1024 = true then if (y5 34 (Int32.toNatClampNeg x1)) = 0 then some ((-4), y5) else (mm_loop (X12_plan_l70 x1 y5) mm_fuel 0) else none else some ((-2), y5) else none else some ((-1), M) else some ((-1), M)
set_option maxRecDepth 100000 in
set_option maxHeartbeats 400000 in
theorem t_X12_plan {d : Nat} (hd : 4 ≤ d) (x1 : Int32) (x2 : Int32) (M : mm_M) (res : (Int32 × mm_M)) (h : X12_plan x1 x2 M = some res) : mm_Meth jX12_plan d 0 0 [(.inr 0), (.inl x1), (.inl x2)] S_m M (mm_Zi res.1 S_m res.2) := by
  refine r_meth (L := [some (.inr 0), some (.inl x1), some (.inl x2), none]) rfl (fun D => ?_)
  unfold X12_plan at h
  refine r_aload_n (q := 1) dX12_plan_0 rfl rfl ?_
  refine r_geti (v := (M 0 6)) (q := 4) lk_X12_123 dX12_plan_1 sc_m_0 rfl rfl rfl ?_
  refine r_if_eq 24 (q := 7) dX12_plan_4 (by decide) rfl (fun c1 => ?_) (fun c1 => ?_)
  · rw [if_pos c1] at h
    refine r_iconst (v := (-1)) (q := 25) dX12_plan_24 (by decide) rfl ?_
    cases h
    exact r_ret dX12_plan_25 rfl mm_Zi_rfl
  · rw [if_neg c1] at h
    refine r_aload_n (q := 8) dX12_plan_7 rfl rfl ?_
    refine r_iload_n (q := 9) dX12_plan_8 rfl rfl ?_
    refine r_callV_i (av := [(.inl x1)]) (st := []) (q := 12) (d1 := 0) kc_X12_407 sc_m_0 dX12_plan_9 rfl rfl (Nat.le_of_ble_eq_true rfl) (Nat.le_of_ble_eq_true rfl) (by omega) rfl rfl (t_X12_areStates (d := 0) (by omega) x1 M _ rfl) ?_
    refine r_if_eq 24 (q := 15) dX12_plan_12 (by decide) rfl (fun c2 => ?_) (fun c2 => ?_)
    · rw [if_neg (mm_b0 c2)] at h
      refine r_iconst (v := (-1)) (q := 25) dX12_plan_24 (by decide) rfl ?_
      cases h
      exact r_ret dX12_plan_25 rfl mm_Zi_rfl
    · rw [if_pos (mm_b1 c2)] at h
      refine r_iload_n (q := 16) dX12_plan_15 rfl rfl ?_
      refine r_iconst (v := 0) (q := 17) dX12_plan_16 (by decide) rfl ?_
      refine r_iconst (v := 1) (q := 18) dX12_plan_17 (by decide) rfl ?_
      refine r_callS_i (av := [(.inl x2), (.inl 0), (.inl 1)]) (st := []) (q := 21) (d1 := 0) kc_X12_127 dX12_plan_18 rfl rfl (Nat.le_of_ble_eq_true rfl) (Nat.le_of_ble_eq_true rfl) (by omega) rfl rfl (t_X12_in (d := 0) (by omega) x2 0 1 M _ rfl) ?_
      refine r_if_ne 26 (q := 24) dX12_plan_21 (by decide) rfl (fun c3 => ?_) (fun c3 => ?_)
      · rw [if_pos (mm_b1 c3)] at h
        refine r_aload_n (q := 27) dX12_plan_26 rfl rfl ?_
        obtain ⟨y5, e4, h⟩ := Option.bind_eq_some_iff.mp h
        refine r_callV_v (av := []) (st := []) (q := 30) (d1 := 3) kc_X12_410 sc_m_0 dX12_plan_27 rfl rfl (Nat.le_of_ble_eq_true rfl) (Nat.le_of_ble_eq_true rfl) (by omega) rfl rfl (t_X12_laysPlans (d := 3) (by omega) M _ e4) ?_
        refine r_aload_n (q := 31) dX12_plan_30 rfl rfl ?_
        refine r_getr (b := 34) (q := 34) lk_X12_110 dX12_plan_31 sc_m_0 rfl rfl ?_
        refine r_iload_n (q := 35) dX12_plan_34 rfl rfl ?_
        obtain ⟨g6, h⟩ := mm_guard h
        refine r_iald (v := (y5 34 (Int32.toNatClampNeg x1))) (q := 36) dX12_plan_35 sc_m_34 (mm_vp g6) rfl rfl ?_
        refine r_ldcw (v := 1000000) (q := 39) dX12_plan_36 ko_X12_372 rfl ?_
        refine r_icmp_lt 45 (q := 42) dX12_plan_39 (by decide) rfl (fun c7 => ?_) (fun c7 => ?_)
        · rw [if_pos c7] at h
          refine r_iload_n (q := 46) dX12_plan_45 rfl rfl ?_
          refine r_if_ne 56 (q := 49) dX12_plan_46 (by decide) rfl (fun c8 => ?_) (fun c8 => ?_)
          · rw [if_neg c8] at h
            refine r_aload_n (q := 57) dX12_plan_56 rfl rfl ?_
            refine r_getr (b := 34) (q := 60) lk_X12_110 dX12_plan_57 sc_m_0 rfl rfl ?_
            refine r_iload_n (q := 61) dX12_plan_60 rfl rfl ?_
            obtain ⟨g10, h⟩ := mm_guard h
            refine r_iald (v := (y5 34 (Int32.toNatClampNeg x1))) (q := 62) dX12_plan_61 sc_m_34 (mm_vp g10) rfl rfl ?_
            refine r_if_ne 68 (q := 65) dX12_plan_62 (by decide) rfl (fun c11 => ?_) (fun c11 => ?_)
            · rw [if_neg c11] at h
              refine r_iconst (v := 0) (q := 69) dX12_plan_68 (by decide) rfl ?_
              refine r_istore_n (q := 70) (L' := [some (.inr 0), some (.inl x1), some (.inl x2), some (.inl 0)]) dX12_plan_69 (by decide) rfl rfl ?_
              refine r_forget (L' := [some (.inr 0), some (.inl x1), none, some (.inl 0)]) [true, true, false, true] rfl ?_
              exact t_X12_plan_l70 hd x1 y5 mm_fuel 0 _ h mm_Zi_rfl
            · rw [if_pos c11] at h
              refine r_bipush (v := (-4)) (q := 67) dX12_plan_65 (by decide) rfl ?_
              cases h
              exact r_ret dX12_plan_67 rfl mm_Zi_rfl
          · rw [if_pos c8] at h
            refine r_aload_n (q := 50) dX12_plan_49 rfl rfl ?_
            refine r_getr (b := 34) (q := 53) lk_X12_110 dX12_plan_50 sc_m_0 rfl rfl ?_
            refine r_iload_n (q := 54) dX12_plan_53 rfl rfl ?_
            obtain ⟨g9, h⟩ := mm_guard h
            refine r_iald (v := (y5 34 (Int32.toNatClampNeg x1))) (q := 55) dX12_plan_54 sc_m_34 (mm_vp g9) rfl rfl ?_
            cases h
            exact r_ret dX12_plan_55 rfl mm_Zi_rfl
        · rw [if_neg c7] at h
          refine r_bipush (v := (-2)) (q := 44) dX12_plan_42 (by decide) rfl ?_
          cases h
          exact r_ret dX12_plan_44 rfl mm_Zi_rfl
      · rw [if_neg (mm_b0 c3)] at h
        refine r_iconst (v := (-1)) (q := 25) dX12_plan_24 (by decide) rfl ?_
        cases h
        exact r_ret dX12_plan_25 rfl mm_Zi_rfl
noncomputable def X12_liesFrom_j50l8 (x2 : Int32) (x3 : Int32) (x4 : Int32) (x5 : Int32) (x6 : Int32) (M : mm_M) : Option ((Int32 × Int32 × Int32 × mm_M) ⊕ (Int32 × mm_M)) := (X12_behind x6 x3 M).bind fun y10 => some (.inl (y10, x4, (x5 + 1), M))
set_option maxRecDepth 100000 in
set_option maxHeartbeats 400000 in
theorem t_X12_liesFrom_j50l8 {D : mm_D} {d : Nat} (hd : 1 ≤ d) {Z : Option Int32 → List mm_C → mm_M → Prop} (x2 : Int32) (x3 : Int32) (x4 : Int32) (x5 : Int32) (x6 : Int32) (M : mm_M) (o : (Int32 × Int32 × Int32 × mm_M) ⊕ (Int32 × mm_M)) (h : X12_liesFrom_j50l8 x2 x3 x4 x5 x6 M = some o) (kb : ∀ s', o = .inl s' → mm_Go jX12_liesFrom D d 0 0 8 [some (.inr 0), none, some (.inl x2), some (.inl s'.1), some (.inl s'.2.1), some (.inl s'.2.2.1), none] [] S_m s'.2.2.2 Z) (ke : ∀ r, o = .inr r → Z (some r.1) S_m r.2) : mm_Go jX12_liesFrom D d 0 0 50 [some (.inr 0), none, some (.inl x2), some (.inl x3), some (.inl x4), some (.inl x5), some (.inl x6)] [] S_m M Z := by
  unfold X12_liesFrom_j50l8 at h
  refine r_aload_n (q := 51) dX12_liesFrom_50 rfl rfl ?_
  refine r_iload (q := 53) dX12_liesFrom_51 rfl rfl ?_
  refine r_iload_n (q := 54) dX12_liesFrom_53 rfl rfl ?_
  obtain ⟨y10, e9, h⟩ := Option.bind_eq_some_iff.mp h
  refine r_callV_i (av := [(.inl x6), (.inl x3)]) (st := []) (q := 57) (d1 := 0) kc_X12_306 sc_m_0 dX12_liesFrom_54 rfl rfl (Nat.le_of_ble_eq_true rfl) (Nat.le_of_ble_eq_true rfl) (by omega) rfl rfl (t_X12_behind (d := 0) (by omega) x6 x3 M _ e9) ?_
  refine r_istore_n (q := 58) (L' := [some (.inr 0), none, some (.inl x2), some (.inl y10), some (.inl x4), some (.inl x5), some (.inl x6)]) dX12_liesFrom_57 (by decide) rfl rfl ?_
  refine r_iinc (v := 1) (q := 61) (L' := [some (.inr 0), none, some (.inl x2), some (.inl y10), some (.inl x4), some (.inl (x5 + 1)), some (.inl x6)]) dX12_liesFrom_58 (by decide) (by decide) rfl rfl rfl ?_
  refine r_goto 8 dX12_liesFrom_61 (by decide) ?_
  refine r_forget (L' := [some (.inr 0), none, some (.inl x2), some (.inl y10), some (.inl x4), some (.inl (x5 + 1)), none]) [true, false, true, true, true, true, false] rfl ?_
  cases h
  have hk := kb _ rfl
  exact hk
noncomputable def X12_liesFrom_l8 (x2 : Int32) (s : (Int32 × Int32 × Int32 × mm_M)) : Option ((Int32 × Int32 × Int32 × mm_M) ⊕ (Int32 × mm_M)) := if x2 ≤ s.2.2.1 then some (.inr (s.2.1, (mm_U s.2.2.2 0 57 s.1))) else (X12_octet ((2 : Int32) * s.2.2.1) s.2.2.2).bind fun y3 => (X12_answer y3 s.1 s.2.2.2).bind fun y5 => (X12_octet (((2 : Int32) * s.2.2.1) + 1) s.2.2.2).bind fun y7 => if y5 = y7 then X12_liesFrom_j50l8 x2 s.1 s.2.1 s.2.2.1 y3 s.2.2.2 else X12_liesFrom_j50l8 x2 s.1 (s.2.1 + 1) s.2.2.1 y3 s.2.2.2
set_option maxRecDepth 100000 in
set_option maxHeartbeats 400000 in
theorem t_X12_liesFrom_l8 {D : mm_D} {d : Nat} (hd : 1 ≤ d) {Z : Option Int32 → List mm_C → mm_M → Prop} (x2 : Int32) (n : Nat) (s : (Int32 × Int32 × Int32 × mm_M)) (r : (Int32 × mm_M)) (h : mm_loop (X12_liesFrom_l8 x2) n s = some r) (hx : Z (some r.1) S_m r.2) : mm_Go jX12_liesFrom D d 0 0 8 [some (.inr 0), none, some (.inl x2), some (.inl s.1), some (.inl s.2.1), some (.inl s.2.2.1), none] [] S_m s.2.2.2 Z := by
  refine mm_loop_go (step := X12_liesFrom_l8 x2) (Hd := fun (s : (Int32 × Int32 × Int32 × mm_M)) => mm_Go jX12_liesFrom D d 0 0 8 [some (.inr 0), none, some (.inl x2), some (.inl s.1), some (.inl s.2.1), some (.inl s.2.2.1), none] [] S_m s.2.2.2 Z) (Ex := fun (r : (Int32 × mm_M)) => Z (some r.1) S_m r.2) ?_ n s r h hx
  intro s o h kb ke
  show mm_Go jX12_liesFrom D d 0 0 8 [some (.inr 0), none, some (.inl x2), some (.inl s.1), some (.inl s.2.1), some (.inl s.2.2.1), none] [] S_m s.2.2.2 Z
  unfold X12_liesFrom_l8 at h
  refine r_iload (q := 10) dX12_liesFrom_8 rfl rfl ?_
  refine r_iload_n (q := 11) dX12_liesFrom_10 rfl rfl ?_
  refine r_icmp_ge 64 (q := 14) dX12_liesFrom_11 (by decide) rfl (fun c1 => ?_) (fun c1 => ?_)
  · rw [if_pos c1] at h
    refine r_aload_n (q := 65) dX12_liesFrom_64 rfl rfl ?_
    refine r_iload_n (q := 66) dX12_liesFrom_65 rfl rfl ?_
    refine r_puti (q := 69) lk_X12_413 ft_9_57 dX12_liesFrom_66 sc_m_0 rfl rfl ?_
    refine r_iload (q := 71) dX12_liesFrom_69 rfl rfl ?_
    cases h
    have hk := ke _ rfl
    exact r_ret dX12_liesFrom_71 rfl hk
  · rw [if_neg c1] at h
    refine r_aload_n (q := 15) dX12_liesFrom_14 rfl rfl ?_
    refine r_iconst (v := 2) (q := 16) dX12_liesFrom_15 (by decide) rfl ?_
    refine r_iload (q := 18) dX12_liesFrom_16 rfl rfl ?_
    refine r_imul (q := 19) dX12_liesFrom_18 rfl ?_
    obtain ⟨y3, e2, h⟩ := Option.bind_eq_some_iff.mp h
    refine r_callV_i (av := [(.inl ((2 : Int32) * s.2.2.1))]) (st := []) (q := 22) (d1 := 0) kc_X12_357 sc_m_0 dX12_liesFrom_19 rfl rfl (Nat.le_of_ble_eq_true rfl) (Nat.le_of_ble_eq_true rfl) (by omega) rfl rfl (t_X12_octet (d := 0) (by omega) ((2 : Int32) * s.2.2.1) s.2.2.2 _ e2) ?_
    refine r_istore (q := 24) (L' := [some (.inr 0), none, some (.inl x2), some (.inl s.1), some (.inl s.2.1), some (.inl s.2.2.1), some (.inl y3)]) dX12_liesFrom_22 (by decide) rfl rfl ?_
    refine r_aload_n (q := 25) dX12_liesFrom_24 rfl rfl ?_
    refine r_iload (q := 27) dX12_liesFrom_25 rfl rfl ?_
    refine r_iload_n (q := 28) dX12_liesFrom_27 rfl rfl ?_
    obtain ⟨y5, e4, h⟩ := Option.bind_eq_some_iff.mp h
    refine r_callV_i (av := [(.inl y3), (.inl s.1)]) (st := []) (q := 31) (d1 := 0) kc_X12_299 sc_m_0 dX12_liesFrom_28 rfl rfl (Nat.le_of_ble_eq_true rfl) (Nat.le_of_ble_eq_true rfl) (by omega) rfl rfl (t_X12_answer (d := 0) (by omega) y3 s.1 s.2.2.2 _ e4) ?_
    refine r_aload_n (q := 32) dX12_liesFrom_31 rfl rfl ?_
    refine r_iconst (v := 2) (q := 33) dX12_liesFrom_32 (by decide) rfl ?_
    refine r_iload (q := 35) dX12_liesFrom_33 rfl rfl ?_
    refine r_imul (q := 36) dX12_liesFrom_35 rfl ?_
    refine r_iconst (v := 1) (q := 37) dX12_liesFrom_36 (by decide) rfl ?_
    refine r_iadd (q := 38) dX12_liesFrom_37 rfl ?_
    obtain ⟨y7, e6, h⟩ := Option.bind_eq_some_iff.mp h
    refine r_callV_i (av := [(.inl (((2 : Int32) * s.2.2.1) + 1))]) (st := [(.inl y5)]) (q := 41) (d1 := 0) kc_X12_357 sc_m_0 dX12_liesFrom_38 rfl rfl (Nat.le_of_ble_eq_true rfl) (Nat.le_of_ble_eq_true rfl) (by omega) rfl rfl (t_X12_octet (d := 0) (by omega) (((2 : Int32) * s.2.2.1) + 1) s.2.2.2 _ e6) ?_
    refine r_icmp_eq 50 (q := 44) dX12_liesFrom_41 (by decide) rfl (fun c8 => ?_) (fun c8 => ?_)
    · rw [if_pos c8] at h
      exact t_X12_liesFrom_j50l8 hd x2 s.1 s.2.1 s.2.2.1 y3 s.2.2.2 _ h kb ke
    · rw [if_neg c8] at h
      refine r_iload (q := 46) dX12_liesFrom_44 rfl rfl ?_
      refine r_iconst (v := 1) (q := 47) dX12_liesFrom_46 (by decide) rfl ?_
      refine r_iadd (q := 48) dX12_liesFrom_47 rfl ?_
      refine r_istore (q := 50) (L' := [some (.inr 0), none, some (.inl x2), some (.inl s.1), some (.inl (s.2.1 + 1)), some (.inl s.2.2.1), some (.inl y3)]) dX12_liesFrom_48 (by decide) rfl rfl ?_
      exact t_X12_liesFrom_j50l8 hd x2 s.1 (s.2.1 + 1) s.2.2.1 y3 s.2.2.2 _ h kb ke
noncomputable def X12_liesFrom (x1 : Int32) (x2 : Int32) (M : mm_M) : Option (Int32 × mm_M) := (mm_loop (X12_liesFrom_l8 x2) mm_fuel (x1, 0, 0, M))
set_option maxRecDepth 100000 in
set_option maxHeartbeats 400000 in
theorem t_X12_liesFrom {d : Nat} (hd : 1 ≤ d) (x1 : Int32) (x2 : Int32) (M : mm_M) (res : (Int32 × mm_M)) (h : X12_liesFrom x1 x2 M = some res) : mm_Meth jX12_liesFrom d 0 0 [(.inr 0), (.inl x1), (.inl x2)] S_m M (mm_Zi res.1 S_m res.2) := by
  refine r_meth (L := [some (.inr 0), some (.inl x1), some (.inl x2), none, none, none, none]) rfl (fun D => ?_)
  unfold X12_liesFrom at h
  refine r_iload_n (q := 1) dX12_liesFrom_0 rfl rfl ?_
  refine r_istore_n (q := 2) (L' := [some (.inr 0), some (.inl x1), some (.inl x2), some (.inl x1), none, none, none]) dX12_liesFrom_1 (by decide) rfl rfl ?_
  refine r_iconst (v := 0) (q := 3) dX12_liesFrom_2 (by decide) rfl ?_
  refine r_istore (q := 5) (L' := [some (.inr 0), some (.inl x1), some (.inl x2), some (.inl x1), some (.inl 0), none, none]) dX12_liesFrom_3 (by decide) rfl rfl ?_
  refine r_iconst (v := 0) (q := 6) dX12_liesFrom_5 (by decide) rfl ?_
  refine r_istore (q := 8) (L' := [some (.inr 0), some (.inl x1), some (.inl x2), some (.inl x1), some (.inl 0), some (.inl 0), none]) dX12_liesFrom_6 (by decide) rfl rfl ?_
  refine r_forget (L' := [some (.inr 0), none, some (.inl x2), some (.inl x1), some (.inl 0), some (.inl 0), none]) [true, false, true, true, true, true, false] rfl ?_
  exact t_X12_liesFrom_l8 hd x2 mm_fuel (x1, 0, 0, M) _ h mm_Zi_rfl
noncomputable def X12_logged_l45 (x1 : Int32) (x2 : Int32) (M : mm_M) (s : Int32) : Option (Int32 ⊕ ((Int32 × mm_M) ⊕ Unit)) := if x1 ≤ s then some (.inr (.inr ())) else (X12_octet ((2 : Int32) * s) M).bind fun y7 => if 8 ≤ y7 then some (.inr (.inl ((-3), M))) else (X12_octet (((2 : Int32) * s) + 1) M).bind fun y10 => if y10 ≤ 9 then some (.inl (s + 1)) else some (.inr (.inl ((-3), M)))
set_option maxRecDepth 100000 in
set_option maxHeartbeats 400000 in
theorem t_X12_logged_l45 {D : mm_D} {d : Nat} (hd : 2 ≤ d) {Z : Option Int32 → List mm_C → mm_M → Prop} (x1 : Int32) (x2 : Int32) (M : mm_M) (n : Nat) (s : Int32) (r : ((Int32 × mm_M) ⊕ Unit)) (h : mm_loop (X12_logged_l45 x1 x2 M) n s = some r) (hx : (Sum.elim (fun (y : (Int32 × mm_M)) => Z (some y.1) S_m y.2) (fun (s : Unit) => mm_Go jX12_logged D d 0 0 85 [some (.inr 0), some (.inl x1), some (.inl x2), none, none, none, none, none] [] S_m M Z) r)) : mm_Go jX12_logged D d 0 0 45 [some (.inr 0), some (.inl x1), some (.inl x2), some (.inl s), none, none, none, none] [] S_m M Z := by
  refine mm_loop_go (step := X12_logged_l45 x1 x2 M) (Hd := fun (s : Int32) => mm_Go jX12_logged D d 0 0 45 [some (.inr 0), some (.inl x1), some (.inl x2), some (.inl s), none, none, none, none] [] S_m M Z) (Ex := fun (r : ((Int32 × mm_M) ⊕ Unit)) => (Sum.elim (fun (y : (Int32 × mm_M)) => Z (some y.1) S_m y.2) (fun (s : Unit) => mm_Go jX12_logged D d 0 0 85 [some (.inr 0), some (.inl x1), some (.inl x2), none, none, none, none, none] [] S_m M Z) r)) ?_ n s r h hx
  intro s o h kb ke
  show mm_Go jX12_logged D d 0 0 45 [some (.inr 0), some (.inl x1), some (.inl x2), some (.inl s), none, none, none, none] [] S_m M Z
  unfold X12_logged_l45 at h
  refine r_iload_n (q := 46) dX12_logged_45 rfl rfl ?_
  refine r_iload_n (q := 47) dX12_logged_46 rfl rfl ?_
  refine r_icmp_ge 85 (q := 50) dX12_logged_47 (by decide) rfl (fun c5 => ?_) (fun c5 => ?_)
  · rw [if_pos c5] at h
    refine r_forget (L' := [some (.inr 0), some (.inl x1), some (.inl x2), none, none, none, none, none]) [true, true, true, false, false, false, false, false] rfl ?_
    cases h
    have hk := ke _ rfl
    exact hk
  · rw [if_neg c5] at h
    refine r_aload_n (q := 51) dX12_logged_50 rfl rfl ?_
    refine r_iconst (v := 2) (q := 52) dX12_logged_51 (by decide) rfl ?_
    refine r_iload_n (q := 53) dX12_logged_52 rfl rfl ?_
    refine r_imul (q := 54) dX12_logged_53 rfl ?_
    obtain ⟨y7, e6, h⟩ := Option.bind_eq_some_iff.mp h
    refine r_callV_i (av := [(.inl ((2 : Int32) * s))]) (st := []) (q := 57) (d1 := 0) kc_X12_357 sc_m_0 dX12_logged_54 rfl rfl (Nat.le_of_ble_eq_true rfl) (Nat.le_of_ble_eq_true rfl) (by omega) rfl rfl (t_X12_octet (d := 0) (by omega) ((2 : Int32) * s) M _ e6) ?_
    refine r_bipush (v := 8) (q := 59) dX12_logged_57 (by decide) rfl ?_
    refine r_icmp_ge 76 (q := 62) dX12_logged_59 (by decide) rfl (fun c8 => ?_) (fun c8 => ?_)
    · rw [if_pos c8] at h
      refine r_bipush (v := (-3)) (q := 78) dX12_logged_76 (by decide) rfl ?_
      cases h
      have hk := ke _ rfl
      exact r_ret dX12_logged_78 rfl hk
    · rw [if_neg c8] at h
      refine r_aload_n (q := 63) dX12_logged_62 rfl rfl ?_
      refine r_iconst (v := 2) (q := 64) dX12_logged_63 (by decide) rfl ?_
      refine r_iload_n (q := 65) dX12_logged_64 rfl rfl ?_
      refine r_imul (q := 66) dX12_logged_65 rfl ?_
      refine r_iconst (v := 1) (q := 67) dX12_logged_66 (by decide) rfl ?_
      refine r_iadd (q := 68) dX12_logged_67 rfl ?_
      obtain ⟨y10, e9, h⟩ := Option.bind_eq_some_iff.mp h
      refine r_callV_i (av := [(.inl (((2 : Int32) * s) + 1))]) (st := []) (q := 71) (d1 := 0) kc_X12_357 sc_m_0 dX12_logged_68 rfl rfl (Nat.le_of_ble_eq_true rfl) (Nat.le_of_ble_eq_true rfl) (by omega) rfl rfl (t_X12_octet (d := 0) (by omega) (((2 : Int32) * s) + 1) M _ e9) ?_
      refine r_bipush (v := 9) (q := 73) dX12_logged_71 (by decide) rfl ?_
      refine r_icmp_le 79 (q := 76) dX12_logged_73 (by decide) rfl (fun c11 => ?_) (fun c11 => ?_)
      · rw [if_pos c11] at h
        refine r_iinc (v := 1) (q := 82) (L' := [some (.inr 0), some (.inl x1), some (.inl x2), some (.inl (s + 1)), none, none, none, none]) dX12_logged_79 (by decide) (by decide) rfl rfl rfl ?_
        refine r_goto 45 dX12_logged_82 (by decide) ?_
        cases h
        have hk := kb _ rfl
        exact hk
      · rw [if_neg c11] at h
        refine r_bipush (v := (-3)) (q := 78) dX12_logged_76 (by decide) rfl ?_
        cases h
        have hk := ke _ rfl
        exact r_ret dX12_logged_78 rfl hk
noncomputable def X12_logged_l98 (x1 : Int32) (x2 : Int32) (s : (Int32 × Int32 × Int32 × Int32 × mm_M)) : Option ((Int32 × Int32 × Int32 × Int32 × mm_M) ⊕ (Int32 × Int32 × Int32 × mm_M)) := if (s.2.2.2.2 0 6) ≤ s.2.2.2.1 then some (.inr (s.1, s.2.1, s.2.2.1, s.2.2.2.2)) else (X12_liesFrom s.2.2.2.1 x1 s.2.2.2.2).bind fun y16 => if y16.1 ≤ 0 then some (.inl ((s.1 ||| ((1 : Int32) <<< (s.2.2.2.1 &&& 31))), (s.2.1 ||| ((1 : Int32) <<< ((y16.2 0 57) &&& 31))), (X12_min s.2.2.1 y16.1), (s.2.2.2.1 + 1), y16.2)) else some (.inl (s.1, s.2.1, (X12_min s.2.2.1 y16.1), (s.2.2.2.1 + 1), y16.2))
set_option maxRecDepth 100000 in
set_option maxHeartbeats 400000 in
theorem t_X12_logged_l98 {D : mm_D} {d : Nat} (hd : 2 ≤ d) {Z : Option Int32 → List mm_C → mm_M → Prop} (x1 : Int32) (x2 : Int32) (n : Nat) (s : (Int32 × Int32 × Int32 × Int32 × mm_M)) (r : (Int32 × Int32 × Int32 × mm_M)) (h : mm_loop (X12_logged_l98 x1 x2) n s = some r) (hx : mm_Go jX12_logged D d 0 0 157 [none, none, some (.inl x2), some (.inl r.1), some (.inl r.2.1), some (.inl r.2.2.1), none, none] [] S_m r.2.2.2 Z) : mm_Go jX12_logged D d 0 0 98 [some (.inr 0), some (.inl x1), some (.inl x2), some (.inl s.1), some (.inl s.2.1), some (.inl s.2.2.1), some (.inl s.2.2.2.1), none] [] S_m s.2.2.2.2 Z := by
  refine mm_loop_go (step := X12_logged_l98 x1 x2) (Hd := fun (s : (Int32 × Int32 × Int32 × Int32 × mm_M)) => mm_Go jX12_logged D d 0 0 98 [some (.inr 0), some (.inl x1), some (.inl x2), some (.inl s.1), some (.inl s.2.1), some (.inl s.2.2.1), some (.inl s.2.2.2.1), none] [] S_m s.2.2.2.2 Z) (Ex := fun (r : (Int32 × Int32 × Int32 × mm_M)) => mm_Go jX12_logged D d 0 0 157 [none, none, some (.inl x2), some (.inl r.1), some (.inl r.2.1), some (.inl r.2.2.1), none, none] [] S_m r.2.2.2 Z) ?_ n s r h hx
  intro s o h kb ke
  show mm_Go jX12_logged D d 0 0 98 [some (.inr 0), some (.inl x1), some (.inl x2), some (.inl s.1), some (.inl s.2.1), some (.inl s.2.2.1), some (.inl s.2.2.2.1), none] [] S_m s.2.2.2.2 Z
  unfold X12_logged_l98 at h
  refine r_iload (q := 100) dX12_logged_98 rfl rfl ?_
  refine r_aload_n (q := 101) dX12_logged_100 rfl rfl ?_
  refine r_geti (v := (s.2.2.2.2 0 6)) (q := 104) lk_X12_123 dX12_logged_101 sc_m_0 rfl rfl rfl ?_
  refine r_icmp_ge 157 (q := 107) dX12_logged_104 (by decide) rfl (fun c14 => ?_) (fun c14 => ?_)
  · rw [if_pos c14] at h
    refine r_forget (L' := [none, none, some (.inl x2), some (.inl s.1), some (.inl s.2.1), some (.inl s.2.2.1), none, none]) [false, false, true, true, true, true, false, false] rfl ?_
    cases h
    have hk := ke _ rfl
    exact hk
  · rw [if_neg c14] at h
    refine r_aload_n (q := 108) dX12_logged_107 rfl rfl ?_
    refine r_iload (q := 110) dX12_logged_108 rfl rfl ?_
    refine r_iload_n (q := 111) dX12_logged_110 rfl rfl ?_
    obtain ⟨y16, e15, h⟩ := Option.bind_eq_some_iff.mp h
    refine r_callV_i (av := [(.inl s.2.2.2.1), (.inl x1)]) (st := []) (q := 114) (d1 := 1) kc_X12_416 sc_m_0 dX12_logged_111 rfl rfl (Nat.le_of_ble_eq_true rfl) (Nat.le_of_ble_eq_true rfl) (by omega) rfl rfl (t_X12_liesFrom (d := 1) (by omega) s.2.2.2.1 x1 s.2.2.2.2 _ e15) ?_
    refine r_istore (q := 116) (L' := [some (.inr 0), some (.inl x1), some (.inl x2), some (.inl s.1), some (.inl s.2.1), some (.inl s.2.2.1), some (.inl s.2.2.2.1), some (.inl y16.1)]) dX12_logged_114 (by decide) rfl rfl ?_
    refine r_iload (q := 118) dX12_logged_116 rfl rfl ?_
    refine r_iload (q := 120) dX12_logged_118 rfl rfl ?_
    refine r_callS_i (av := [(.inl s.2.2.1), (.inl y16.1)]) (st := []) (q := 123) (d1 := 0) kc_X12_302 dX12_logged_120 rfl rfl (Nat.le_of_ble_eq_true rfl) (Nat.le_of_ble_eq_true rfl) (by omega) rfl rfl (t_X12_min (d := 0) (by omega) s.2.2.1 y16.1 y16.2 _ rfl) ?_
    refine r_istore (q := 125) (L' := [some (.inr 0), some (.inl x1), some (.inl x2), some (.inl s.1), some (.inl s.2.1), some (.inl (X12_min s.2.2.1 y16.1)), some (.inl s.2.2.2.1), some (.inl y16.1)]) dX12_logged_123 (by decide) rfl rfl ?_
    refine r_iload (q := 127) dX12_logged_125 rfl rfl ?_
    refine r_if_le 133 (q := 130) dX12_logged_127 (by decide) rfl (fun c17 => ?_) (fun c17 => ?_)
    · rw [if_pos c17] at h
      refine r_iload_n (q := 134) dX12_logged_133 rfl rfl ?_
      refine r_iconst (v := 1) (q := 135) dX12_logged_134 (by decide) rfl ?_
      refine r_iload (q := 137) dX12_logged_135 rfl rfl ?_
      refine r_ishl (q := 138) dX12_logged_137 rfl ?_
      refine r_ior (q := 139) dX12_logged_138 rfl ?_
      refine r_istore_n (q := 140) (L' := [some (.inr 0), some (.inl x1), some (.inl x2), some (.inl (s.1 ||| ((1 : Int32) <<< (s.2.2.2.1 &&& 31)))), some (.inl s.2.1), some (.inl (X12_min s.2.2.1 y16.1)), some (.inl s.2.2.2.1), some (.inl y16.1)]) dX12_logged_139 (by decide) rfl rfl ?_
      refine r_iload (q := 142) dX12_logged_140 rfl rfl ?_
      refine r_iconst (v := 1) (q := 143) dX12_logged_142 (by decide) rfl ?_
      refine r_aload_n (q := 144) dX12_logged_143 rfl rfl ?_
      refine r_geti (v := (y16.2 0 57)) (q := 147) lk_X12_413 dX12_logged_144 sc_m_0 rfl rfl rfl ?_
      refine r_ishl (q := 148) dX12_logged_147 rfl ?_
      refine r_ior (q := 149) dX12_logged_148 rfl ?_
      refine r_istore (q := 151) (L' := [some (.inr 0), some (.inl x1), some (.inl x2), some (.inl (s.1 ||| ((1 : Int32) <<< (s.2.2.2.1 &&& 31)))), some (.inl (s.2.1 ||| ((1 : Int32) <<< ((y16.2 0 57) &&& 31)))), some (.inl (X12_min s.2.2.1 y16.1)), some (.inl s.2.2.2.1), some (.inl y16.1)]) dX12_logged_149 (by decide) rfl rfl ?_
      refine r_iinc (v := 1) (q := 154) (L' := [some (.inr 0), some (.inl x1), some (.inl x2), some (.inl (s.1 ||| ((1 : Int32) <<< (s.2.2.2.1 &&& 31)))), some (.inl (s.2.1 ||| ((1 : Int32) <<< ((y16.2 0 57) &&& 31)))), some (.inl (X12_min s.2.2.1 y16.1)), some (.inl (s.2.2.2.1 + 1)), some (.inl y16.1)]) dX12_logged_151 (by decide) (by decide) rfl rfl rfl ?_
      refine r_goto 98 dX12_logged_154 (by decide) ?_
      refine r_forget (L' := [some (.inr 0), some (.inl x1), some (.inl x2), some (.inl (s.1 ||| ((1 : Int32) <<< (s.2.2.2.1 &&& 31)))), some (.inl (s.2.1 ||| ((1 : Int32) <<< ((y16.2 0 57) &&& 31)))), some (.inl (X12_min s.2.2.1 y16.1)), some (.inl (s.2.2.2.1 + 1)), none]) [true, true, true, true, true, true, true, false] rfl ?_
      cases h
      have hk := kb _ rfl
      exact hk
    · rw [if_neg c17] at h
      refine r_goto 151 dX12_logged_130 (by decide) ?_
      refine r_iinc (v := 1) (q := 154) (L' := [some (.inr 0), some (.inl x1), some (.inl x2), some (.inl s.1), some (.inl s.2.1), some (.inl (X12_min s.2.2.1 y16.1)), some (.inl (s.2.2.2.1 + 1)), some (.inl y16.1)]) dX12_logged_151 (by decide) (by decide) rfl rfl rfl ?_
      refine r_goto 98 dX12_logged_154 (by decide) ?_
      refine r_forget (L' := [some (.inr 0), some (.inl x1), some (.inl x2), some (.inl s.1), some (.inl s.2.1), some (.inl (X12_min s.2.2.1 y16.1)), some (.inl (s.2.2.2.1 + 1)), none]) [true, true, true, true, true, true, true, false] rfl ?_
      cases h
      have hk := kb _ rfl
      exact hk
noncomputable def X12_logged (x1 : Int32) (x2 : Int32) (M : mm_M) : Option (Int32 × mm_M) := if (M 0 6) = 0 then some ((-1), M) else if (X12_in x1 1 20) = true then if (X12_in x2 0 2) = true then if ((2 : Int32) * x1) ≤ (M 0 8) then (mm_loop (X12_logged_l45 x1 x2 (mm_U M 0 8 0)) mm_fuel 0).bind fun y12 => (match y12 with | .inl y12r => some y12r | .inr y12s => (mm_loop (X12_logged_l98 x1 x2) mm_fuel (0, 0, 1000000, 0, (mm_U M 0 8 0))).bind fun y18 => if x2 = 0 then some (y18.1, y18.2.2.2) else if x2 = 1 then some (y18.2.1, y18.2.2.2) else some (y18.2.2.1, y18.2.2.2)) else some ((-1), M) else some ((-1), M) else some ((-1), M)
set_option maxRecDepth 100000 in
set_option maxHeartbeats 400000 in
theorem t_X12_logged {d : Nat} (hd : 2 ≤ d) (x1 : Int32) (x2 : Int32) (M : mm_M) (res : (Int32 × mm_M)) (h : X12_logged x1 x2 M = some res) : mm_Meth jX12_logged d 0 0 [(.inr 0), (.inl x1), (.inl x2)] S_m M (mm_Zi res.1 S_m res.2) := by
  refine r_meth (L := [some (.inr 0), some (.inl x1), some (.inl x2), none, none, none, none, none]) rfl (fun D => ?_)
  unfold X12_logged at h
  refine r_aload_n (q := 1) dX12_logged_0 rfl rfl ?_
  refine r_geti (v := (M 0 6)) (q := 4) lk_X12_123 dX12_logged_1 sc_m_0 rfl rfl rfl ?_
  refine r_if_eq 36 (q := 7) dX12_logged_4 (by decide) rfl (fun c1 => ?_) (fun c1 => ?_)
  · rw [if_pos c1] at h
    refine r_iconst (v := (-1)) (q := 37) dX12_logged_36 (by decide) rfl ?_
    cases h
    exact r_ret dX12_logged_37 rfl mm_Zi_rfl
  · rw [if_neg c1] at h
    refine r_iload_n (q := 8) dX12_logged_7 rfl rfl ?_
    refine r_iconst (v := 1) (q := 9) dX12_logged_8 (by decide) rfl ?_
    refine r_bipush (v := 20) (q := 11) dX12_logged_9 (by decide) rfl ?_
    refine r_callS_i (av := [(.inl x1), (.inl 1), (.inl 20)]) (st := []) (q := 14) (d1 := 0) kc_X12_127 dX12_logged_11 rfl rfl (Nat.le_of_ble_eq_true rfl) (Nat.le_of_ble_eq_true rfl) (by omega) rfl rfl (t_X12_in (d := 0) (by omega) x1 1 20 M _ rfl) ?_
    refine r_if_eq 36 (q := 17) dX12_logged_14 (by decide) rfl (fun c2 => ?_) (fun c2 => ?_)
    · rw [if_neg (mm_b0 c2)] at h
      refine r_iconst (v := (-1)) (q := 37) dX12_logged_36 (by decide) rfl ?_
      cases h
      exact r_ret dX12_logged_37 rfl mm_Zi_rfl
    · rw [if_pos (mm_b1 c2)] at h
      refine r_iload_n (q := 18) dX12_logged_17 rfl rfl ?_
      refine r_iconst (v := 0) (q := 19) dX12_logged_18 (by decide) rfl ?_
      refine r_iconst (v := 2) (q := 20) dX12_logged_19 (by decide) rfl ?_
      refine r_callS_i (av := [(.inl x2), (.inl 0), (.inl 2)]) (st := []) (q := 23) (d1 := 0) kc_X12_127 dX12_logged_20 rfl rfl (Nat.le_of_ble_eq_true rfl) (Nat.le_of_ble_eq_true rfl) (by omega) rfl rfl (t_X12_in (d := 0) (by omega) x2 0 2 M _ rfl) ?_
      refine r_if_eq 36 (q := 26) dX12_logged_23 (by decide) rfl (fun c3 => ?_) (fun c3 => ?_)
      · rw [if_neg (mm_b0 c3)] at h
        refine r_iconst (v := (-1)) (q := 37) dX12_logged_36 (by decide) rfl ?_
        cases h
        exact r_ret dX12_logged_37 rfl mm_Zi_rfl
      · rw [if_pos (mm_b1 c3)] at h
        refine r_iconst (v := 2) (q := 27) dX12_logged_26 (by decide) rfl ?_
        refine r_iload_n (q := 28) dX12_logged_27 rfl rfl ?_
        refine r_imul (q := 29) dX12_logged_28 rfl ?_
        refine r_aload_n (q := 30) dX12_logged_29 rfl rfl ?_
        refine r_geti (v := (M 0 8)) (q := 33) lk_X12_138 dX12_logged_30 sc_m_0 rfl rfl rfl ?_
        refine r_icmp_le 38 (q := 36) dX12_logged_33 (by decide) rfl (fun c4 => ?_) (fun c4 => ?_)
        · rw [if_pos c4] at h
          refine r_aload_n (q := 39) dX12_logged_38 rfl rfl ?_
          refine r_iconst (v := 0) (q := 40) dX12_logged_39 (by decide) rfl ?_
          refine r_puti (q := 43) lk_X12_138 ft_9_8 dX12_logged_40 sc_m_0 rfl rfl ?_
          refine r_iconst (v := 0) (q := 44) dX12_logged_43 (by decide) rfl ?_
          refine r_istore_n (q := 45) (L' := [some (.inr 0), some (.inl x1), some (.inl x2), some (.inl 0), none, none, none, none]) dX12_logged_44 (by decide) rfl rfl ?_
          obtain ⟨y12, e13, h⟩ := Option.bind_eq_some_iff.mp h
          refine t_X12_logged_l45 hd x1 x2 (mm_U M 0 8 0) mm_fuel 0 _ e13 ?_
          rcases y12 with y12r | y12s
          · dsimp only at h
            cases h
            exact mm_Zi_rfl
          · dsimp only at h
            show mm_Go jX12_logged _ _ _ _ 85 [some (.inr 0), some (.inl x1), some (.inl x2), none, none, none, none, none] [] S_m (mm_U M 0 8 0) _
            refine r_iconst (v := 0) (q := 86) dX12_logged_85 (by decide) rfl ?_
            refine r_istore_n (q := 87) (L' := [some (.inr 0), some (.inl x1), some (.inl x2), some (.inl 0), none, none, none, none]) dX12_logged_86 (by decide) rfl rfl ?_
            refine r_iconst (v := 0) (q := 88) dX12_logged_87 (by decide) rfl ?_
            refine r_istore (q := 90) (L' := [some (.inr 0), some (.inl x1), some (.inl x2), some (.inl 0), some (.inl 0), none, none, none]) dX12_logged_88 (by decide) rfl rfl ?_
            refine r_ldcw (v := 1000000) (q := 93) dX12_logged_90 ko_X12_372 rfl ?_
            refine r_istore (q := 95) (L' := [some (.inr 0), some (.inl x1), some (.inl x2), some (.inl 0), some (.inl 0), some (.inl 1000000), none, none]) dX12_logged_93 (by decide) rfl rfl ?_
            refine r_iconst (v := 0) (q := 96) dX12_logged_95 (by decide) rfl ?_
            refine r_istore (q := 98) (L' := [some (.inr 0), some (.inl x1), some (.inl x2), some (.inl 0), some (.inl 0), some (.inl 1000000), some (.inl 0), none]) dX12_logged_96 (by decide) rfl rfl ?_
            obtain ⟨y18, e19, h⟩ := Option.bind_eq_some_iff.mp h
            refine t_X12_logged_l98 hd x1 x2 mm_fuel (0, 0, 1000000, 0, (mm_U M 0 8 0)) _ e19 ?_
            show mm_Go jX12_logged _ _ _ _ 157 [none, none, some (.inl x2), some (.inl y18.1), some (.inl y18.2.1), some (.inl y18.2.2.1), none, none] [] S_m y18.2.2.2 _
            refine r_iload_n (q := 158) dX12_logged_157 rfl rfl ?_
            refine r_if_ne 165 (q := 161) dX12_logged_158 (by decide) rfl (fun c20 => ?_) (fun c20 => ?_)
            · rw [if_neg c20] at h
              refine r_iload_n (q := 166) dX12_logged_165 rfl rfl ?_
              refine r_iconst (v := 1) (q := 167) dX12_logged_166 (by decide) rfl ?_
              refine r_icmp_ne 175 (q := 170) dX12_logged_167 (by decide) rfl (fun c21 => ?_) (fun c21 => ?_)
              · rw [if_neg c21] at h
                refine r_iload (q := 177) dX12_logged_175 rfl rfl ?_
                cases h
                exact r_ret dX12_logged_177 rfl mm_Zi_rfl
              · rw [if_pos c21] at h
                refine r_iload (q := 172) dX12_logged_170 rfl rfl ?_
                refine r_goto 177 dX12_logged_172 (by decide) ?_
                cases h
                exact r_ret dX12_logged_177 rfl mm_Zi_rfl
            · rw [if_pos c20] at h
              refine r_iload_n (q := 162) dX12_logged_161 rfl rfl ?_
              refine r_goto 177 dX12_logged_162 (by decide) ?_
              cases h
              exact r_ret dX12_logged_177 rfl mm_Zi_rfl
        · rw [if_neg c4] at h
          refine r_iconst (v := (-1)) (q := 37) dX12_logged_36 (by decide) rfl ?_
          cases h
          exact r_ret dX12_logged_37 rfl mm_Zi_rfl
