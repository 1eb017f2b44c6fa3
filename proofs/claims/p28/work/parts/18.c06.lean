noncomputable def X10_firstApart_j71l3 (x2 : Int32) (x3 : Int32) (x4 : Int32) (x5 : Int32) (z0 : Bool) (M : mm_M) : Option (Int32 ⊕ Int32) := if z0 = true then some (.inr x5) else some (.inl (x5 + 1))
set_option maxRecDepth 100000 in
set_option maxHeartbeats 400000 in
theorem t_X10_firstApart_j71l3 {D : mm_D} {d : Nat} (hd : 1 ≤ d) {Z : Option Int32 → List mm_C → mm_M → Prop} (x2 : Int32) (x3 : Int32) (x4 : Int32) (x5 : Int32) (z0 : Bool) (M : mm_M) (o : Int32 ⊕ Int32) (h : X10_firstApart_j71l3 x2 x3 x4 x5 z0 M = some o) (kb : ∀ s', o = .inl s' → mm_Go jX10_firstApart D d 0 0 3 [some (.inr 31), some (.inr 7), some (.inl x2), some (.inl x3), some (.inl x4), some (.inl s'), none] [] S_c M Z) (ke : ∀ r, o = .inr r → Z (some r) S_c M) : mm_Go jX10_firstApart D d 0 0 71 [some (.inr 31), some (.inr 7), some (.inl x2), some (.inl x3), some (.inl x4), some (.inl x5), none] [(.inl (mm_b z0))] S_c M Z := by
  unfold X10_firstApart_j71l3 at h
  refine r_istore (q := 73) (L' := [some (.inr 31), some (.inr 7), some (.inl x2), some (.inl x3), some (.inl x4), some (.inl x5), some (.inl (mm_b z0))]) dX10_firstApart_71 (by decide) rfl rfl ?_
  refine r_iload (q := 75) dX10_firstApart_73 rfl rfl ?_
  refine r_if_eq 81 (q := 78) dX10_firstApart_75 (by decide) rfl (fun c4 => ?_) (fun c4 => ?_)
  · rw [if_neg (mm_b0 c4)] at h
    refine r_iinc (v := 1) (q := 84) (L' := [some (.inr 31), some (.inr 7), some (.inl x2), some (.inl x3), some (.inl x4), some (.inl (x5 + 1)), some (.inl (mm_b z0))]) dX10_firstApart_81 (by decide) (by decide) rfl rfl rfl ?_
    refine r_goto 3 dX10_firstApart_84 (by decide) ?_
    refine r_forget (L' := [some (.inr 31), some (.inr 7), some (.inl x2), some (.inl x3), some (.inl x4), some (.inl (x5 + 1)), none]) [true, true, true, true, true, true, false] rfl ?_
    cases h
    have hk := kb _ rfl
    exact hk
  · rw [if_pos (mm_b1 c4)] at h
    refine r_iload (q := 80) dX10_firstApart_78 rfl rfl ?_
    cases h
    have hk := ke _ rfl
    exact r_ret dX10_firstApart_80 rfl hk
noncomputable def X10_firstApart_l3 (x2 : Int32) (x3 : Int32) (x4 : Int32) (M : mm_M) (s : Int32) : Option (Int32 ⊕ Int32) := if 8 ≤ s then some (.inr (-1)) else if x4 = 1 then if (X8_answer s x2 M) = (X8_answer s x3 M) then X10_firstApart_j71l3 x2 x3 x4 s false M else X10_firstApart_j71l3 x2 x3 x4 s true M else if (X10_apartBy (X8_behind s x2 M) (X8_behind s x3 M) M) = (x4 - 1) then X10_firstApart_j71l3 x2 x3 x4 s true M else X10_firstApart_j71l3 x2 x3 x4 s false M
set_option maxRecDepth 100000 in
set_option maxHeartbeats 400000 in
theorem t_X10_firstApart_l3 {D : mm_D} {d : Nat} (hd : 1 ≤ d) {Z : Option Int32 → List mm_C → mm_M → Prop} (x2 : Int32) (x3 : Int32) (x4 : Int32) (M : mm_M) (n : Nat) (s : Int32) (r : Int32) (h : mm_loop (X10_firstApart_l3 x2 x3 x4 M) n s = some r) (hx : Z (some r) S_c M) : mm_Go jX10_firstApart D d 0 0 3 [some (.inr 31), some (.inr 7), some (.inl x2), some (.inl x3), some (.inl x4), some (.inl s), none] [] S_c M Z := by
  refine mm_loop_go (step := X10_firstApart_l3 x2 x3 x4 M) (Hd := fun (s : Int32) => mm_Go jX10_firstApart D d 0 0 3 [some (.inr 31), some (.inr 7), some (.inl x2), some (.inl x3), some (.inl x4), some (.inl s), none] [] S_c M Z) (Ex := fun (r : Int32) => Z (some r) S_c M) ?_ n s r h hx
  intro s o h kb ke
  show mm_Go jX10_firstApart D d 0 0 3 [some (.inr 31), some (.inr 7), some (.inl x2), some (.inl x3), some (.inl x4), some (.inl s), none] [] S_c M Z
  unfold X10_firstApart_l3 at h
  refine r_iload (q := 5) dX10_firstApart_3 rfl rfl ?_
  refine r_bipush (v := 8) (q := 7) dX10_firstApart_5 (by decide) rfl ?_
  refine r_icmp_ge 87 (q := 10) dX10_firstApart_7 (by decide) rfl (fun c1 => ?_) (fun c1 => ?_)
  · rw [if_pos c1] at h
    refine r_iconst (v := (-1)) (q := 88) dX10_firstApart_87 (by decide) rfl ?_
    cases h
    have hk := ke _ rfl
    exact r_ret dX10_firstApart_88 rfl hk
  · rw [if_neg c1] at h
    refine r_iload (q := 12) dX10_firstApart_10 rfl rfl ?_
    refine r_iconst (v := 1) (q := 13) dX10_firstApart_12 (by decide) rfl ?_
    refine r_icmp_ne 41 (q := 16) dX10_firstApart_13 (by decide) rfl (fun c2 => ?_) (fun c2 => ?_)
    · rw [if_neg c2] at h
      refine r_aload_n (q := 42) dX10_firstApart_41 rfl rfl ?_
      refine r_aload_n (q := 43) dX10_firstApart_42 rfl rfl ?_
      refine r_iload (q := 45) dX10_firstApart_43 rfl rfl ?_
      refine r_iload_n (q := 46) dX10_firstApart_45 rfl rfl ?_
      refine r_callV_i (av := [(.inl s), (.inl x2)]) (st := [(.inr 31)]) (q := 49) (d1 := 0) kc_X10_37 sc_c_7 dX10_firstApart_46 rfl rfl (Nat.le_of_ble_eq_true rfl) (Nat.le_of_ble_eq_true rfl) (by omega) rfl rfl (t_X8_behind (d := 0) (by omega) s x2 M _ rfl) ?_
      refine r_aload_n (q := 50) dX10_firstApart_49 rfl rfl ?_
      refine r_iload (q := 52) dX10_firstApart_50 rfl rfl ?_
      refine r_iload_n (q := 53) dX10_firstApart_52 rfl rfl ?_
      refine r_callV_i (av := [(.inl s), (.inl x3)]) (st := [(.inl (X8_behind s x2 M)), (.inr 31)]) (q := 56) (d1 := 0) kc_X10_37 sc_c_7 dX10_firstApart_53 rfl rfl (Nat.le_of_ble_eq_true rfl) (Nat.le_of_ble_eq_true rfl) (by omega) rfl rfl (t_X8_behind (d := 0) (by omega) s x3 M _ rfl) ?_
      refine r_callV_i (av := [(.inl (X8_behind s x2 M)), (.inl (X8_behind s x3 M))]) (st := []) (q := 59) (d1 := 0) kc_X10_60 sc_c_31 dX10_firstApart_56 rfl rfl (Nat.le_of_ble_eq_true rfl) (Nat.le_of_ble_eq_true rfl) (by omega) rfl rfl (t_X10_apartBy (d := 0) (by omega) (X8_behind s x2 M) (X8_behind s x3 M) M _ rfl) ?_
      refine r_iload (q := 61) dX10_firstApart_59 rfl rfl ?_
      refine r_iconst (v := 1) (q := 62) dX10_firstApart_61 (by decide) rfl ?_
      refine r_isub (q := 63) dX10_firstApart_62 rfl ?_
      refine r_icmp_ne 70 (q := 66) dX10_firstApart_63 (by decide) rfl (fun c5 => ?_) (fun c5 => ?_)
      · rw [if_neg c5] at h
        refine r_iconst (v := 0) (q := 71) dX10_firstApart_70 (by decide) rfl ?_
        exact t_X10_firstApart_j71l3 hd x2 x3 x4 s false M _ h kb ke
      · rw [if_pos c5] at h
        refine r_iconst (v := 1) (q := 67) dX10_firstApart_66 (by decide) rfl ?_
        refine r_goto 71 dX10_firstApart_67 (by decide) ?_
        exact t_X10_firstApart_j71l3 hd x2 x3 x4 s true M _ h kb ke
    · rw [if_pos c2] at h
      refine r_aload_n (q := 17) dX10_firstApart_16 rfl rfl ?_
      refine r_iload (q := 19) dX10_firstApart_17 rfl rfl ?_
      refine r_iload_n (q := 20) dX10_firstApart_19 rfl rfl ?_
      refine r_callV_i (av := [(.inl s), (.inl x2)]) (st := []) (q := 23) (d1 := 0) kc_X10_57 sc_c_7 dX10_firstApart_20 rfl rfl (Nat.le_of_ble_eq_true rfl) (Nat.le_of_ble_eq_true rfl) (by omega) rfl rfl (t_X8_answer (d := 0) (by omega) s x2 M _ rfl) ?_
      refine r_aload_n (q := 24) dX10_firstApart_23 rfl rfl ?_
      refine r_iload (q := 26) dX10_firstApart_24 rfl rfl ?_
      refine r_iload_n (q := 27) dX10_firstApart_26 rfl rfl ?_
      refine r_callV_i (av := [(.inl s), (.inl x3)]) (st := [(.inl (X8_answer s x2 M))]) (q := 30) (d1 := 0) kc_X10_57 sc_c_7 dX10_firstApart_27 rfl rfl (Nat.le_of_ble_eq_true rfl) (Nat.le_of_ble_eq_true rfl) (by omega) rfl rfl (t_X8_answer (d := 0) (by omega) s x3 M _ rfl) ?_
      refine r_icmp_eq 37 (q := 33) dX10_firstApart_30 (by decide) rfl (fun c3 => ?_) (fun c3 => ?_)
      · rw [if_pos c3] at h
        refine r_iconst (v := 0) (q := 38) dX10_firstApart_37 (by decide) rfl ?_
        refine r_goto 71 dX10_firstApart_38 (by decide) ?_
        exact t_X10_firstApart_j71l3 hd x2 x3 x4 s false M _ h kb ke
      · rw [if_neg c3] at h
        refine r_iconst (v := 1) (q := 34) dX10_firstApart_33 (by decide) rfl ?_
        refine r_goto 71 dX10_firstApart_34 (by decide) ?_
        exact t_X10_firstApart_j71l3 hd x2 x3 x4 s true M _ h kb ke
noncomputable def X10_firstApart (x2 : Int32) (x3 : Int32) (x4 : Int32) (M : mm_M) : Option Int32 := (mm_loop (X10_firstApart_l3 x2 x3 x4 M) mm_fuel 0)
set_option maxRecDepth 100000 in
set_option maxHeartbeats 400000 in
theorem t_X10_firstApart {d : Nat} (hd : 1 ≤ d) (x2 : Int32) (x3 : Int32) (x4 : Int32) (M : mm_M) (res : Int32) (h : X10_firstApart x2 x3 x4 M = some res) : mm_Meth jX10_firstApart d 0 0 [(.inr 31), (.inr 7), (.inl x2), (.inl x3), (.inl x4)] S_c M (mm_Zi res S_c M) := by
  refine r_meth (L := [some (.inr 31), some (.inr 7), some (.inl x2), some (.inl x3), some (.inl x4), none, none]) rfl (fun D => ?_)
  unfold X10_firstApart at h
  refine r_iconst (v := 0) (q := 1) dX10_firstApart_0 (by decide) rfl ?_
  refine r_istore (q := 3) (L' := [some (.inr 31), some (.inr 7), some (.inl x2), some (.inl x3), some (.inl x4), some (.inl 0), none]) dX10_firstApart_1 (by decide) rfl rfl ?_
  exact t_X10_firstApart_l3 hd x2 x3 x4 M mm_fuel 0 _ h mm_Zi_rfl
noncomputable def X10_tellApart_j79l27 (x2 : Bool) (x3 : Int32) (x4 : Int32) (x5 : Int32) (x6 : Int32) (z0 : Bool) (M : mm_M) : Option ((Bool × Int32 × mm_M) ⊕ (Bool × mm_M)) := if z0 = true then (X10_firstApart x5 x6 x3 M).bind fun y9 => if y9 = (-1) then some (.inl (x2, (x4 + 1), M)) else if mm_in x4 100 = true then if mm_in ((x6 * 10) + x5) 100 = true then some (.inl (true, (x4 + 1), (mm_U (mm_U M 34 (Int32.toNatClampNeg x4) x3) 34 (Int32.toNatClampNeg ((x6 * 10) + x5)) x3))) else none else none else some (.inl (x2, (x4 + 1), M))
set_option maxRecDepth 100000 in
set_option maxHeartbeats 400000 in
theorem t_X10_tellApart_j79l27 {D : mm_D} {d : Nat} (hd : 2 ≤ d) {Z : Option Int32 → List mm_C → mm_M → Prop} (x2 : Bool) (x3 : Int32) (x4 : Int32) (x5 : Int32) (x6 : Int32) (z0 : Bool) (M : mm_M) (o : (Bool × Int32 × mm_M) ⊕ (Bool × mm_M)) (h : X10_tellApart_j79l27 x2 x3 x4 x5 x6 z0 M = some o) (kb : ∀ s', o = .inl s' → mm_Go jX10_tellApart D d 0 0 27 [some (.inr 31), some (.inr 7), some (.inl (mm_b s'.1)), some (.inl x3), some (.inl s'.2.1), none, none, none] [] S_c s'.2.2 Z) (ke : ∀ r, o = .inr r → mm_Go jX10_tellApart D d 0 0 130 [some (.inr 31), some (.inr 7), some (.inl (mm_b r.1)), some (.inl x3), none, none, none, none] [] S_c r.2 Z) : mm_Go jX10_tellApart D d 0 0 79 [some (.inr 31), some (.inr 7), some (.inl (mm_b x2)), some (.inl x3), some (.inl x4), some (.inl x5), some (.inl x6), none] [(.inl (mm_b z0))] S_c M Z := by
  unfold X10_tellApart_j79l27 at h
  refine r_istore (q := 81) (L' := [some (.inr 31), some (.inr 7), some (.inl (mm_b x2)), some (.inl x3), some (.inl x4), some (.inl x5), some (.inl x6), some (.inl (mm_b z0))]) dX10_tellApart_79 (by decide) rfl rfl ?_
  refine r_iload (q := 83) dX10_tellApart_81 rfl rfl ?_
  refine r_if_eq 124 (q := 86) dX10_tellApart_83 (by decide) rfl (fun c7 => ?_) (fun c7 => ?_)
  · rw [if_neg (mm_b0 c7)] at h
    refine r_iinc (v := 1) (q := 127) (L' := [some (.inr 31), some (.inr 7), some (.inl (mm_b x2)), some (.inl x3), some (.inl (x4 + 1)), some (.inl x5), some (.inl x6), some (.inl (mm_b z0))]) dX10_tellApart_124 (by decide) (by decide) rfl rfl rfl ?_
    refine r_goto 27 dX10_tellApart_127 (by decide) ?_
    refine r_forget (L' := [some (.inr 31), some (.inr 7), some (.inl (mm_b x2)), some (.inl x3), some (.inl (x4 + 1)), none, none, none]) [true, true, true, true, true, false, false, false] rfl ?_
    cases h
    have hk := kb _ rfl
    exact hk
  · rw [if_pos (mm_b1 c7)] at h
    refine r_aload_n (q := 87) dX10_tellApart_86 rfl rfl ?_
    refine r_aload_n (q := 88) dX10_tellApart_87 rfl rfl ?_
    refine r_iload (q := 90) dX10_tellApart_88 rfl rfl ?_
    refine r_iload (q := 92) dX10_tellApart_90 rfl rfl ?_
    refine r_iload_n (q := 93) dX10_tellApart_92 rfl rfl ?_
    obtain ⟨y9, e8, h⟩ := Option.bind_eq_some_iff.mp h
    refine r_callV_i (av := [(.inr 7), (.inl x5), (.inl x6), (.inl x3)]) (st := []) (q := 96) (d1 := 1) kc_X10_53 sc_c_31 dX10_tellApart_93 rfl rfl (Nat.le_of_ble_eq_true rfl) (Nat.le_of_ble_eq_true rfl) (by omega) rfl rfl (t_X10_firstApart (d := 1) (by omega) x5 x6 x3 M _ e8) ?_
    refine r_iconst (v := (-1)) (q := 97) dX10_tellApart_96 (by decide) rfl ?_
    refine r_icmp_eq 124 (q := 100) dX10_tellApart_97 (by decide) rfl (fun c10 => ?_) (fun c10 => ?_)
    · rw [if_pos c10] at h
      refine r_iinc (v := 1) (q := 127) (L' := [some (.inr 31), some (.inr 7), some (.inl (mm_b x2)), some (.inl x3), some (.inl (x4 + 1)), some (.inl x5), some (.inl x6), some (.inl (mm_b z0))]) dX10_tellApart_124 (by decide) (by decide) rfl rfl rfl ?_
      refine r_goto 27 dX10_tellApart_127 (by decide) ?_
      refine r_forget (L' := [some (.inr 31), some (.inr 7), some (.inl (mm_b x2)), some (.inl x3), some (.inl (x4 + 1)), none, none, none]) [true, true, true, true, true, false, false, false] rfl ?_
      cases h
      have hk := kb _ rfl
      exact hk
    · rw [if_neg c10] at h
      refine r_aload_n (q := 101) dX10_tellApart_100 rfl rfl ?_
      refine r_getr (b := 34) (q := 104) lk_X10_18 dX10_tellApart_101 sc_c_31 rfl rfl ?_
      refine r_iload (q := 106) dX10_tellApart_104 rfl rfl ?_
      refine r_iload_n (q := 107) dX10_tellApart_106 rfl rfl ?_
      obtain ⟨g11, h⟩ := mm_guard h
      refine r_iast (j := (Int32.toNatClampNeg x4)) (q := 108) dX10_tellApart_107 sc_c_34 (mm_vp g11) rfl rfl ?_
      refine r_aload_n (q := 109) dX10_tellApart_108 rfl rfl ?_
      refine r_getr (b := 34) (q := 112) lk_X10_18 dX10_tellApart_109 sc_c_31 rfl rfl ?_
      refine r_iload (q := 114) dX10_tellApart_112 rfl rfl ?_
      refine r_bipush (v := 10) (q := 116) dX10_tellApart_114 (by decide) rfl ?_
      refine r_imul (q := 117) dX10_tellApart_116 rfl ?_
      refine r_iload (q := 119) dX10_tellApart_117 rfl rfl ?_
      refine r_iadd (q := 120) dX10_tellApart_119 rfl ?_
      refine r_iload_n (q := 121) dX10_tellApart_120 rfl rfl ?_
      obtain ⟨g12, h⟩ := mm_guard h
      refine r_iast (j := (Int32.toNatClampNeg ((x6 * 10) + x5))) (q := 122) dX10_tellApart_121 sc_c_34 (mm_vp g12) rfl rfl ?_
      refine r_iconst (v := 1) (q := 123) dX10_tellApart_122 (by decide) rfl ?_
      refine r_istore_n (q := 124) (L' := [some (.inr 31), some (.inr 7), some (.inl 1), some (.inl x3), some (.inl x4), some (.inl x5), some (.inl x6), some (.inl (mm_b z0))]) dX10_tellApart_123 (by decide) rfl rfl ?_
      refine r_iinc (v := 1) (q := 127) (L' := [some (.inr 31), some (.inr 7), some (.inl 1), some (.inl x3), some (.inl (x4 + 1)), some (.inl x5), some (.inl x6), some (.inl (mm_b z0))]) dX10_tellApart_124 (by decide) (by decide) rfl rfl rfl ?_
      refine r_goto 27 dX10_tellApart_127 (by decide) ?_
      refine r_forget (L' := [some (.inr 31), some (.inr 7), some (.inl 1), some (.inl x3), some (.inl (x4 + 1)), none, none, none]) [true, true, true, true, true, false, false, false] rfl ?_
      cases h
      have hk := kb _ rfl
      exact hk
noncomputable def X10_tellApart_j78l27 (x2 : Bool) (x3 : Int32) (x4 : Int32) (x5 : Int32) (x6 : Int32) (M : mm_M) : Option ((Bool × Int32 × mm_M) ⊕ (Bool × mm_M)) := X10_tellApart_j79l27 x2 x3 x4 x5 x6 false M
set_option maxRecDepth 100000 in
set_option maxHeartbeats 400000 in
theorem t_X10_tellApart_j78l27 {D : mm_D} {d : Nat} (hd : 2 ≤ d) {Z : Option Int32 → List mm_C → mm_M → Prop} (x2 : Bool) (x3 : Int32) (x4 : Int32) (x5 : Int32) (x6 : Int32) (M : mm_M) (o : (Bool × Int32 × mm_M) ⊕ (Bool × mm_M)) (h : X10_tellApart_j78l27 x2 x3 x4 x5 x6 M = some o) (kb : ∀ s', o = .inl s' → mm_Go jX10_tellApart D d 0 0 27 [some (.inr 31), some (.inr 7), some (.inl (mm_b s'.1)), some (.inl x3), some (.inl s'.2.1), none, none, none] [] S_c s'.2.2 Z) (ke : ∀ r, o = .inr r → mm_Go jX10_tellApart D d 0 0 130 [some (.inr 31), some (.inr 7), some (.inl (mm_b r.1)), some (.inl x3), none, none, none, none] [] S_c r.2 Z) : mm_Go jX10_tellApart D d 0 0 78 [some (.inr 31), some (.inr 7), some (.inl (mm_b x2)), some (.inl x3), some (.inl x4), some (.inl x5), some (.inl x6), none] [] S_c M Z := by
  unfold X10_tellApart_j78l27 at h
  refine r_iconst (v := 0) (q := 79) dX10_tellApart_78 (by decide) rfl ?_
  exact t_X10_tellApart_j79l27 hd x2 x3 x4 x5 x6 false M _ h kb ke
noncomputable def X10_tellApart_l27 (x3 : Int32) (s : (Bool × Int32 × mm_M)) : Option ((Bool × Int32 × mm_M) ⊕ (Bool × mm_M)) := if 100 ≤ s.2.1 then some (.inr (s.1, s.2.2)) else if (s.2.1 - s.2.1 / 10 * 10) ≤ (s.2.1 / 10) then X10_tellApart_j78l27 s.1 x3 s.2.1 (s.2.1 / 10) (s.2.1 - s.2.1 / 10 * 10) s.2.2 else if (s.2.2 7 0) ≤ (s.2.1 - s.2.1 / 10 * 10) then X10_tellApart_j78l27 s.1 x3 s.2.1 (s.2.1 / 10) (s.2.1 - s.2.1 / 10 * 10) s.2.2 else if mm_in s.2.1 100 = true then if (s.2.2 34 (Int32.toNatClampNeg s.2.1)) = 0 then X10_tellApart_j79l27 s.1 x3 s.2.1 (s.2.1 / 10) (s.2.1 - s.2.1 / 10 * 10) true s.2.2 else X10_tellApart_j78l27 s.1 x3 s.2.1 (s.2.1 / 10) (s.2.1 - s.2.1 / 10 * 10) s.2.2 else none
set_option maxRecDepth 100000 in
set_option maxHeartbeats 400000 in
theorem t_X10_tellApart_l27 {D : mm_D} {d : Nat} (hd : 2 ≤ d) {Z : Option Int32 → List mm_C → mm_M → Prop} (x3 : Int32) (n : Nat) (s : (Bool × Int32 × mm_M)) (r : (Bool × mm_M)) (h : mm_loop (X10_tellApart_l27 x3) n s = some r) (hx : mm_Go jX10_tellApart D d 0 0 130 [some (.inr 31), some (.inr 7), some (.inl (mm_b r.1)), some (.inl x3), none, none, none, none] [] S_c r.2 Z) : mm_Go jX10_tellApart D d 0 0 27 [some (.inr 31), some (.inr 7), some (.inl (mm_b s.1)), some (.inl x3), some (.inl s.2.1), none, none, none] [] S_c s.2.2 Z := by
  refine mm_loop_go (step := X10_tellApart_l27 x3) (Hd := fun (s : (Bool × Int32 × mm_M)) => mm_Go jX10_tellApart D d 0 0 27 [some (.inr 31), some (.inr 7), some (.inl (mm_b s.1)), some (.inl x3), some (.inl s.2.1), none, none, none] [] S_c s.2.2 Z) (Ex := fun (r : (Bool × mm_M)) => mm_Go jX10_tellApart D d 0 0 130 [some (.inr 31), some (.inr 7), some (.inl (mm_b r.1)), some (.inl x3), none, none, none, none] [] S_c r.2 Z) ?_ n s r h hx
  intro s o h kb ke
  show mm_Go jX10_tellApart D d 0 0 27 [some (.inr 31), some (.inr 7), some (.inl (mm_b s.1)), some (.inl x3), some (.inl s.2.1), none, none, none] [] S_c s.2.2 Z
  unfold X10_tellApart_l27 at h
  refine r_iload (q := 29) dX10_tellApart_27 rfl rfl ?_
  refine r_bipush (v := 100) (q := 31) dX10_tellApart_29 (by decide) rfl ?_
  refine r_icmp_ge 130 (q := 34) dX10_tellApart_31 (by decide) rfl (fun c5 => ?_) (fun c5 => ?_)
  · rw [if_pos c5] at h
    refine r_forget (L' := [some (.inr 31), some (.inr 7), some (.inl (mm_b s.1)), some (.inl x3), none, none, none, none]) [true, true, true, true, false, false, false, false] rfl ?_
    cases h
    have hk := ke _ rfl
    exact hk
  · rw [if_neg c5] at h
    refine r_iload (q := 36) dX10_tellApart_34 rfl rfl ?_
    refine r_bipush (v := 10) (q := 38) dX10_tellApart_36 (by decide) rfl ?_
    refine r_idiv (q := 39) dX10_tellApart_38 (by decide) rfl ?_
    refine r_istore (q := 41) (L' := [some (.inr 31), some (.inr 7), some (.inl (mm_b s.1)), some (.inl x3), some (.inl s.2.1), some (.inl (s.2.1 / 10)), none, none]) dX10_tellApart_39 (by decide) rfl rfl ?_
    refine r_iload (q := 43) dX10_tellApart_41 rfl rfl ?_
    refine r_bipush (v := 10) (q := 45) dX10_tellApart_43 (by decide) rfl ?_
    refine r_irem (q := 46) dX10_tellApart_45 (by decide) rfl ?_
    refine r_istore (q := 48) (L' := [some (.inr 31), some (.inr 7), some (.inl (mm_b s.1)), some (.inl x3), some (.inl s.2.1), some (.inl (s.2.1 / 10)), some (.inl (s.2.1 - s.2.1 / 10 * 10)), none]) dX10_tellApart_46 (by decide) rfl rfl ?_
    refine r_iload (q := 50) dX10_tellApart_48 rfl rfl ?_
    refine r_iload (q := 52) dX10_tellApart_50 rfl rfl ?_
    refine r_icmp_ge 78 (q := 55) dX10_tellApart_52 (by decide) rfl (fun c6 => ?_) (fun c6 => ?_)
    · rw [if_pos c6] at h
      exact t_X10_tellApart_j78l27 hd s.1 x3 s.2.1 (s.2.1 / 10) (s.2.1 - s.2.1 / 10 * 10) s.2.2 _ h kb ke
    · rw [if_neg c6] at h
      refine r_iload (q := 57) dX10_tellApart_55 rfl rfl ?_
      refine r_aload_n (q := 58) dX10_tellApart_57 rfl rfl ?_
      refine r_geti (v := (s.2.2 7 0)) (q := 61) lk_X10_49 dX10_tellApart_58 sc_c_7 rfl rfl rfl ?_
      refine r_icmp_ge 78 (q := 64) dX10_tellApart_61 (by decide) rfl (fun c13 => ?_) (fun c13 => ?_)
      · rw [if_pos c13] at h
        exact t_X10_tellApart_j78l27 hd s.1 x3 s.2.1 (s.2.1 / 10) (s.2.1 - s.2.1 / 10 * 10) s.2.2 _ h kb ke
      · rw [if_neg c13] at h
        refine r_aload_n (q := 65) dX10_tellApart_64 rfl rfl ?_
        refine r_getr (b := 34) (q := 68) lk_X10_18 dX10_tellApart_65 sc_c_31 rfl rfl ?_
        refine r_iload (q := 70) dX10_tellApart_68 rfl rfl ?_
        obtain ⟨g14, h⟩ := mm_guard h
        refine r_iald (v := (s.2.2 34 (Int32.toNatClampNeg s.2.1))) (q := 71) dX10_tellApart_70 sc_c_34 (mm_vp g14) rfl rfl ?_
        refine r_if_ne 78 (q := 74) dX10_tellApart_71 (by decide) rfl (fun c15 => ?_) (fun c15 => ?_)
        · rw [if_neg c15] at h
          exact t_X10_tellApart_j78l27 hd s.1 x3 s.2.1 (s.2.1 / 10) (s.2.1 - s.2.1 / 10 * 10) s.2.2 _ h kb ke
        · rw [if_pos c15] at h
          refine r_iconst (v := 1) (q := 75) dX10_tellApart_74 (by decide) rfl ?_
          refine r_goto 79 dX10_tellApart_75 (by decide) ?_
          exact t_X10_tellApart_j79l27 hd s.1 x3 s.2.1 (s.2.1 / 10) (s.2.1 - s.2.1 / 10 * 10) true s.2.2 _ h kb ke
noncomputable def X10_tellApart_l12 (s : (Bool × Int32 × mm_M)) : Option ((Bool × Int32 × mm_M) ⊕ mm_M) := if 10 ≤ s.2.1 then some (.inr s.2.2) else if s.1 = true then (mm_loop (X10_tellApart_l27 s.2.1) mm_fuel (false, 0, s.2.2)).bind fun y16 => some (.inl (y16.1, (s.2.1 + 1), y16.2)) else some (.inr s.2.2)
set_option maxRecDepth 100000 in
set_option maxHeartbeats 400000 in
theorem t_X10_tellApart_l12 {D : mm_D} {d : Nat} (hd : 2 ≤ d) {Z : Option Int32 → List mm_C → mm_M → Prop} (n : Nat) (s : (Bool × Int32 × mm_M)) (r : mm_M) (h : mm_loop (X10_tellApart_l12) n s = some r) (hx : Z none S_c r) : mm_Go jX10_tellApart D d 0 0 12 [some (.inr 31), some (.inr 7), some (.inl (mm_b s.1)), some (.inl s.2.1), none, none, none, none] [] S_c s.2.2 Z := by
  refine mm_loop_go (step := X10_tellApart_l12) (Hd := fun (s : (Bool × Int32 × mm_M)) => mm_Go jX10_tellApart D d 0 0 12 [some (.inr 31), some (.inr 7), some (.inl (mm_b s.1)), some (.inl s.2.1), none, none, none, none] [] S_c s.2.2 Z) (Ex := fun (r : mm_M) => Z none S_c r) ?_ n s r h hx
  intro s o h kb ke
  show mm_Go jX10_tellApart D d 0 0 12 [some (.inr 31), some (.inr 7), some (.inl (mm_b s.1)), some (.inl s.2.1), none, none, none, none] [] S_c s.2.2 Z
  unfold X10_tellApart_l12 at h
  refine r_iload_n (q := 13) dX10_tellApart_12 rfl rfl ?_
  refine r_bipush (v := 10) (q := 15) dX10_tellApart_13 (by decide) rfl ?_
  refine r_icmp_ge 136 (q := 18) dX10_tellApart_15 (by decide) rfl (fun c3 => ?_) (fun c3 => ?_)
  · rw [if_pos c3] at h
    cases h
    have hk := ke _ rfl
    exact r_retv dX10_tellApart_136 rfl hk
  · rw [if_neg c3] at h
    refine r_iload_n (q := 19) dX10_tellApart_18 rfl rfl ?_
    refine r_if_eq 136 (q := 22) dX10_tellApart_19 (by decide) rfl (fun c4 => ?_) (fun c4 => ?_)
    · rw [if_neg (mm_b0 c4)] at h
      cases h
      have hk := ke _ rfl
      exact r_retv dX10_tellApart_136 rfl hk
    · rw [if_pos (mm_b1 c4)] at h
      refine r_iconst (v := 0) (q := 23) dX10_tellApart_22 (by decide) rfl ?_
      refine r_istore_n (q := 24) (L' := [some (.inr 31), some (.inr 7), some (.inl 0), some (.inl s.2.1), none, none, none, none]) dX10_tellApart_23 (by decide) rfl rfl ?_
      refine r_iconst (v := 0) (q := 25) dX10_tellApart_24 (by decide) rfl ?_
      refine r_istore (q := 27) (L' := [some (.inr 31), some (.inr 7), some (.inl 0), some (.inl s.2.1), some (.inl 0), none, none, none]) dX10_tellApart_25 (by decide) rfl rfl ?_
      obtain ⟨y16, e17, h⟩ := Option.bind_eq_some_iff.mp h
      refine t_X10_tellApart_l27 hd s.2.1 mm_fuel (false, 0, s.2.2) _ e17 ?_
      show mm_Go jX10_tellApart _ _ _ _ 130 [some (.inr 31), some (.inr 7), some (.inl (mm_b y16.1)), some (.inl s.2.1), none, none, none, none] [] S_c y16.2 _
      refine r_iinc (v := 1) (q := 133) (L' := [some (.inr 31), some (.inr 7), some (.inl (mm_b y16.1)), some (.inl (s.2.1 + 1)), none, none, none, none]) dX10_tellApart_130 (by decide) (by decide) rfl rfl rfl ?_
      refine r_goto 12 dX10_tellApart_133 (by decide) ?_
      cases h
      have hk := kb _ rfl
      exact hk
noncomputable def X10_tellApart (M : mm_M) : Option mm_M := (J7_fill_53178 34 0 M).bind fun y2 => (mm_loop (X10_tellApart_l12) mm_fuel (true, 1, y2))
set_option maxRecDepth 100000 in
set_option maxHeartbeats 400000 in
theorem t_X10_tellApart {d : Nat} (hd : 2 ≤ d) (M : mm_M) (res : mm_M) (h : X10_tellApart M = some res) : mm_Meth jX10_tellApart d 0 0 [(.inr 31), (.inr 7)] S_c M (mm_Zv S_c res) := by
  refine r_meth (L := [some (.inr 31), some (.inr 7), none, none, none, none, none, none]) rfl (fun D => ?_)
  unfold X10_tellApart at h
  refine r_aload_n (q := 1) dX10_tellApart_0 rfl rfl ?_
  refine r_getr (b := 34) (q := 4) lk_X10_18 dX10_tellApart_1 sc_c_31 rfl rfl ?_
  refine r_iconst (v := 0) (q := 5) dX10_tellApart_4 (by decide) rfl ?_
  obtain ⟨y2, e1, h⟩ := Option.bind_eq_some_iff.mp h
  refine r_callS_v (av := [(.inr 34), (.inl 0)]) (st := []) (q := 8) (d1 := 0) kc_X10_43 dX10_tellApart_5 rfl rfl (Nat.le_of_ble_eq_true rfl) (Nat.le_of_ble_eq_true rfl) (by omega) rfl rfl (t_J7_fill_53178_34 (d := 0) (by omega) 0 M _ e1) ?_
  refine r_iconst (v := 1) (q := 9) dX10_tellApart_8 (by decide) rfl ?_
  refine r_istore_n (q := 10) (L' := [some (.inr 31), some (.inr 7), some (.inl 1), none, none, none, none, none]) dX10_tellApart_9 (by decide) rfl rfl ?_
  refine r_iconst (v := 1) (q := 11) dX10_tellApart_10 (by decide) rfl ?_
  refine r_istore_n (q := 12) (L' := [some (.inr 31), some (.inr 7), some (.inl 1), some (.inl 1), none, none, none, none]) dX10_tellApart_11 (by decide) rfl rfl ?_
  exact t_X10_tellApart_l12 hd mm_fuel (true, 1, y2) _ h mm_Zv_rfl
noncomputable def X10_alike_l5 (x2 : Int32) (M : mm_M) (s : (Int32 × Int32)) : Option ((Int32 × Int32) ⊕ Int32) := if (M 7 0) ≤ s.2 then some (.inr s.1) else if (X10_apartBy x2 s.2 M) = 0 then some (.inl ((s.1 ||| ((1 : Int32) <<< (s.2 &&& 31))), (s.2 + 1))) else some (.inl (s.1, (s.2 + 1)))
set_option maxRecDepth 100000 in
set_option maxHeartbeats 400000 in
theorem t_X10_alike_l5 {D : mm_D} {d : Nat} (hd : 1 ≤ d) {Z : Option Int32 → List mm_C → mm_M → Prop} (x2 : Int32) (M : mm_M) (n : Nat) (s : (Int32 × Int32)) (r : Int32) (h : mm_loop (X10_alike_l5 x2 M) n s = some r) (hx : Z (some r) S_c M) : mm_Go jX10_alike D d 0 0 5 [some (.inr 31), some (.inr 7), some (.inl x2), some (.inl s.1), some (.inl s.2)] [] S_c M Z := by
  refine mm_loop_go (step := X10_alike_l5 x2 M) (Hd := fun (s : (Int32 × Int32)) => mm_Go jX10_alike D d 0 0 5 [some (.inr 31), some (.inr 7), some (.inl x2), some (.inl s.1), some (.inl s.2)] [] S_c M Z) (Ex := fun (r : Int32) => Z (some r) S_c M) ?_ n s r h hx
  intro s o h kb ke
  show mm_Go jX10_alike D d 0 0 5 [some (.inr 31), some (.inr 7), some (.inl x2), some (.inl s.1), some (.inl s.2)] [] S_c M Z
  unfold X10_alike_l5 at h
  refine r_iload (q := 7) dX10_alike_5 rfl rfl ?_
  refine r_aload_n (q := 8) dX10_alike_7 rfl rfl ?_
  refine r_geti (v := (M 7 0)) (q := 11) lk_X10_49 dX10_alike_8 sc_c_7 rfl rfl rfl ?_
  refine r_icmp_ge 37 (q := 14) dX10_alike_11 (by decide) rfl (fun c1 => ?_) (fun c1 => ?_)
  · rw [if_pos c1] at h
    refine r_iload_n (q := 38) dX10_alike_37 rfl rfl ?_
    cases h
    have hk := ke _ rfl
    exact r_ret dX10_alike_38 rfl hk
  · rw [if_neg c1] at h
    refine r_aload_n (q := 15) dX10_alike_14 rfl rfl ?_
    refine r_iload_n (q := 16) dX10_alike_15 rfl rfl ?_
    refine r_iload (q := 18) dX10_alike_16 rfl rfl ?_
    refine r_callV_i (av := [(.inl x2), (.inl s.2)]) (st := []) (q := 21) (d1 := 0) kc_X10_60 sc_c_31 dX10_alike_18 rfl rfl (Nat.le_of_ble_eq_true rfl) (Nat.le_of_ble_eq_true rfl) (by omega) rfl rfl (t_X10_apartBy (d := 0) (by omega) x2 s.2 M _ rfl) ?_
    refine r_if_ne 31 (q := 24) dX10_alike_21 (by decide) rfl (fun c2 => ?_) (fun c2 => ?_)
    · rw [if_neg c2] at h
      refine r_iinc (v := 1) (q := 34) (L' := [some (.inr 31), some (.inr 7), some (.inl x2), some (.inl s.1), some (.inl (s.2 + 1))]) dX10_alike_31 (by decide) (by decide) rfl rfl rfl ?_
      refine r_goto 5 dX10_alike_34 (by decide) ?_
      cases h
      have hk := kb _ rfl
      exact hk
    · rw [if_pos c2] at h
      refine r_iload_n (q := 25) dX10_alike_24 rfl rfl ?_
      refine r_iconst (v := 1) (q := 26) dX10_alike_25 (by decide) rfl ?_
      refine r_iload (q := 28) dX10_alike_26 rfl rfl ?_
      refine r_ishl (q := 29) dX10_alike_28 rfl ?_
      refine r_ior (q := 30) dX10_alike_29 rfl ?_
      refine r_istore_n (q := 31) (L' := [some (.inr 31), some (.inr 7), some (.inl x2), some (.inl (s.1 ||| ((1 : Int32) <<< (s.2 &&& 31)))), some (.inl s.2)]) dX10_alike_30 (by decide) rfl rfl ?_
      refine r_iinc (v := 1) (q := 34) (L' := [some (.inr 31), some (.inr 7), some (.inl x2), some (.inl (s.1 ||| ((1 : Int32) <<< (s.2 &&& 31)))), some (.inl (s.2 + 1))]) dX10_alike_31 (by decide) (by decide) rfl rfl rfl ?_
      refine r_goto 5 dX10_alike_34 (by decide) ?_
      cases h
      have hk := kb _ rfl
      exact hk
noncomputable def X10_alike (x2 : Int32) (M : mm_M) : Option Int32 := (mm_loop (X10_alike_l5 x2 M) mm_fuel (0, 0))
set_option maxRecDepth 100000 in
set_option maxHeartbeats 400000 in
theorem t_X10_alike {d : Nat} (hd : 1 ≤ d) (x2 : Int32) (M : mm_M) (res : Int32) (h : X10_alike x2 M = some res) : mm_Meth jX10_alike d 0 0 [(.inr 31), (.inr 7), (.inl x2)] S_c M (mm_Zi res S_c M) := by
  refine r_meth (L := [some (.inr 31), some (.inr 7), some (.inl x2), none, none]) rfl (fun D => ?_)
  unfold X10_alike at h
  refine r_iconst (v := 0) (q := 1) dX10_alike_0 (by decide) rfl ?_
  refine r_istore_n (q := 2) (L' := [some (.inr 31), some (.inr 7), some (.inl x2), some (.inl 0), none]) dX10_alike_1 (by decide) rfl rfl ?_
  refine r_iconst (v := 0) (q := 3) dX10_alike_2 (by decide) rfl ?_
  refine r_istore (q := 5) (L' := [some (.inr 31), some (.inr 7), some (.inl x2), some (.inl 0), some (.inl 0)]) dX10_alike_3 (by decide) rfl rfl ?_
  exact t_X10_alike_l5 hd x2 M mm_fuel (0, 0) _ h mm_Zi_rfl
noncomputable def X10_countAlike_l4 (M : mm_M) (s : (Int32 × Int32)) : Option ((Int32 × Int32) ⊕ Int32) := if (M 7 0) ≤ s.2 then some (.inr s.1) else (X10_alike s.2 M).bind fun y3 => if (y3 &&& (((1 : Int32) <<< (s.2 &&& 31)) - 1)) = 0 then some (.inl ((s.1 + 1), (s.2 + 1))) else some (.inl (s.1, (s.2 + 1)))
set_option maxRecDepth 100000 in
set_option maxHeartbeats 400000 in
theorem t_X10_countAlike_l4 {D : mm_D} {d : Nat} (hd : 2 ≤ d) {Z : Option Int32 → List mm_C → mm_M → Prop} (M : mm_M) (n : Nat) (s : (Int32 × Int32)) (r : Int32) (h : mm_loop (X10_countAlike_l4 M) n s = some r) (hx : Z (some r) S_c M) : mm_Go jX10_countAlike D d 0 0 4 [some (.inr 31), some (.inr 7), some (.inl s.1), some (.inl s.2), none] [] S_c M Z := by
  refine mm_loop_go (step := X10_countAlike_l4 M) (Hd := fun (s : (Int32 × Int32)) => mm_Go jX10_countAlike D d 0 0 4 [some (.inr 31), some (.inr 7), some (.inl s.1), some (.inl s.2), none] [] S_c M Z) (Ex := fun (r : Int32) => Z (some r) S_c M) ?_ n s r h hx
  intro s o h kb ke
  show mm_Go jX10_countAlike D d 0 0 4 [some (.inr 31), some (.inr 7), some (.inl s.1), some (.inl s.2), none] [] S_c M Z
  unfold X10_countAlike_l4 at h
  refine r_iload_n (q := 5) dX10_countAlike_4 rfl rfl ?_
  refine r_aload_n (q := 6) dX10_countAlike_5 rfl rfl ?_
  refine r_geti (v := (M 7 0)) (q := 9) lk_X10_49 dX10_countAlike_6 sc_c_7 rfl rfl rfl ?_
  refine r_icmp_ge 40 (q := 12) dX10_countAlike_9 (by decide) rfl (fun c1 => ?_) (fun c1 => ?_)
  · rw [if_pos c1] at h
    refine r_iload_n (q := 41) dX10_countAlike_40 rfl rfl ?_
    cases h
    have hk := ke _ rfl
    exact r_ret dX10_countAlike_41 rfl hk
  · rw [if_neg c1] at h
    refine r_iconst (v := 1) (q := 13) dX10_countAlike_12 (by decide) rfl ?_
    refine r_iload_n (q := 14) dX10_countAlike_13 rfl rfl ?_
    refine r_ishl (q := 15) dX10_countAlike_14 rfl ?_
    refine r_iconst (v := 1) (q := 16) dX10_countAlike_15 (by decide) rfl ?_
    refine r_isub (q := 17) dX10_countAlike_16 rfl ?_
    refine r_istore (q := 19) (L' := [some (.inr 31), some (.inr 7), some (.inl s.1), some (.inl s.2), some (.inl (((1 : Int32) <<< (s.2 &&& 31)) - 1))]) dX10_countAlike_17 (by decide) rfl rfl ?_
    refine r_aload_n (q := 20) dX10_countAlike_19 rfl rfl ?_
    refine r_aload_n (q := 21) dX10_countAlike_20 rfl rfl ?_
    refine r_iload_n (q := 22) dX10_countAlike_21 rfl rfl ?_
    obtain ⟨y3, e2, h⟩ := Option.bind_eq_some_iff.mp h
    refine r_callV_i (av := [(.inr 7), (.inl s.2)]) (st := []) (q := 25) (d1 := 1) kc_X10_63 sc_c_31 dX10_countAlike_22 rfl rfl (Nat.le_of_ble_eq_true rfl) (Nat.le_of_ble_eq_true rfl) (by omega) rfl rfl (t_X10_alike (d := 1) (by omega) s.2 M _ e2) ?_
    refine r_iload (q := 27) dX10_countAlike_25 rfl rfl ?_
    refine r_iand (q := 28) dX10_countAlike_27 rfl ?_
    refine r_if_ne 34 (q := 31) dX10_countAlike_28 (by decide) rfl (fun c4 => ?_) (fun c4 => ?_)
    · rw [if_neg c4] at h
      refine r_iinc (v := 1) (q := 37) (L' := [some (.inr 31), some (.inr 7), some (.inl s.1), some (.inl (s.2 + 1)), some (.inl (((1 : Int32) <<< (s.2 &&& 31)) - 1))]) dX10_countAlike_34 (by decide) (by decide) rfl rfl rfl ?_
      refine r_goto 4 dX10_countAlike_37 (by decide) ?_
      refine r_forget (L' := [some (.inr 31), some (.inr 7), some (.inl s.1), some (.inl (s.2 + 1)), none]) [true, true, true, true, false] rfl ?_
      cases h
      have hk := kb _ rfl
      exact hk
    · rw [if_pos c4] at h
      refine r_iinc (v := 1) (q := 34) (L' := [some (.inr 31), some (.inr 7), some (.inl (s.1 + 1)), some (.inl s.2), some (.inl (((1 : Int32) <<< (s.2 &&& 31)) - 1))]) dX10_countAlike_31 (by decide) (by decide) rfl rfl rfl ?_
      refine r_iinc (v := 1) (q := 37) (L' := [some (.inr 31), some (.inr 7), some (.inl (s.1 + 1)), some (.inl (s.2 + 1)), some (.inl (((1 : Int32) <<< (s.2 &&& 31)) - 1))]) dX10_countAlike_34 (by decide) (by decide) rfl rfl rfl ?_
      refine r_goto 4 dX10_countAlike_37 (by decide) ?_
      refine r_forget (L' := [some (.inr 31), some (.inr 7), some (.inl (s.1 + 1)), some (.inl (s.2 + 1)), none]) [true, true, true, true, false] rfl ?_
      cases h
      have hk := kb _ rfl
      exact hk
noncomputable def X10_countAlike (M : mm_M) : Option Int32 := (mm_loop (X10_countAlike_l4 M) mm_fuel (0, 0))
set_option maxRecDepth 100000 in
set_option maxHeartbeats 400000 in
theorem t_X10_countAlike {d : Nat} (hd : 2 ≤ d) (M : mm_M) (res : Int32) (h : X10_countAlike M = some res) : mm_Meth jX10_countAlike d 0 0 [(.inr 31), (.inr 7)] S_c M (mm_Zi res S_c M) := by
  refine r_meth (L := [some (.inr 31), some (.inr 7), none, none, none]) rfl (fun D => ?_)
  unfold X10_countAlike at h
  refine r_iconst (v := 0) (q := 1) dX10_countAlike_0 (by decide) rfl ?_
  refine r_istore_n (q := 2) (L' := [some (.inr 31), some (.inr 7), some (.inl 0), none, none]) dX10_countAlike_1 (by decide) rfl rfl ?_
  refine r_iconst (v := 0) (q := 3) dX10_countAlike_2 (by decide) rfl ?_
  refine r_istore_n (q := 4) (L' := [some (.inr 31), some (.inr 7), some (.inl 0), some (.inl 0), none]) dX10_countAlike_3 (by decide) rfl rfl ?_
  exact t_X10_countAlike_l4 hd M mm_fuel (0, 0) _ h mm_Zi_rfl
noncomputable def X11_classes_j29 (x1 : Int32) (M : mm_M) : Option (Int32 × mm_M) := (X10_tellApart M).bind fun y4 => if x1 = 100 then (X10_countAlike y4).bind fun y7 => some (y7, y4) else (X10_alike x1 y4).bind fun y9 => some (y9, y4)
set_option maxRecDepth 100000 in
set_option maxHeartbeats 400000 in
theorem t_X11_classes_j29 {D : mm_D} {d : Nat} (hd : 3 ≤ d) (x1 : Int32) (M : mm_M) (res : (Int32 × mm_M)) (h : X11_classes_j29 x1 M = some res) : mm_Go jX11_classes D d 0 0 29 [some (.inr 0), some (.inl x1)] [] S_c M (mm_Zi res.1 S_c res.2) := by
  unfold X11_classes_j29 at h
  refine r_aload_n (q := 30) dX11_classes_29 rfl rfl ?_
  refine r_getr (b := 31) (q := 33) lk_X11_76 dX11_classes_30 sc_c_0 rfl rfl ?_
  refine r_aload_n (q := 34) dX11_classes_33 rfl rfl ?_
  refine r_getr (b := 7) (q := 37) lk_X11_42 dX11_classes_34 sc_c_0 rfl rfl ?_
  obtain ⟨y4, e3, h⟩ := Option.bind_eq_some_iff.mp h
  refine r_callV_v (av := [(.inr 7)]) (st := []) (q := 40) (d1 := 2) kc_X11_218 sc_c_31 dX11_classes_37 rfl rfl (Nat.le_of_ble_eq_true rfl) (Nat.le_of_ble_eq_true rfl) (by omega) rfl rfl (t_X10_tellApart (d := 2) (by omega) M _ e3) ?_
  refine r_iload_n (q := 41) dX11_classes_40 rfl rfl ?_
  refine r_bipush (v := 100) (q := 43) dX11_classes_41 (by decide) rfl ?_
  refine r_icmp_ne 60 (q := 46) dX11_classes_43 (by decide) rfl (fun c5 => ?_) (fun c5 => ?_)
  · rw [if_neg c5] at h
    refine r_aload_n (q := 61) dX11_classes_60 rfl rfl ?_
    refine r_getr (b := 31) (q := 64) lk_X11_76 dX11_classes_61 sc_c_0 rfl rfl ?_
    refine r_aload_n (q := 65) dX11_classes_64 rfl rfl ?_
    refine r_getr (b := 7) (q := 68) lk_X11_42 dX11_classes_65 sc_c_0 rfl rfl ?_
    refine r_iload_n (q := 69) dX11_classes_68 rfl rfl ?_
    obtain ⟨y9, e8, h⟩ := Option.bind_eq_some_iff.mp h
    refine r_callV_i (av := [(.inr 7), (.inl x1)]) (st := []) (q := 72) (d1 := 1) kc_X11_226 sc_c_31 dX11_classes_69 rfl rfl (Nat.le_of_ble_eq_true rfl) (Nat.le_of_ble_eq_true rfl) (by omega) rfl rfl (t_X10_alike (d := 1) (by omega) x1 y4 _ e8) ?_
    cases h
    exact r_ret dX11_classes_72 rfl mm_Zi_rfl
  · rw [if_pos c5] at h
    refine r_aload_n (q := 47) dX11_classes_46 rfl rfl ?_
    refine r_getr (b := 31) (q := 50) lk_X11_76 dX11_classes_47 sc_c_0 rfl rfl ?_
    refine r_aload_n (q := 51) dX11_classes_50 rfl rfl ?_
    refine r_getr (b := 7) (q := 54) lk_X11_42 dX11_classes_51 sc_c_0 rfl rfl ?_
    obtain ⟨y7, e6, h⟩ := Option.bind_eq_some_iff.mp h
    refine r_callV_i (av := [(.inr 7)]) (st := []) (q := 57) (d1 := 2) kc_X11_222 sc_c_31 dX11_classes_54 rfl rfl (Nat.le_of_ble_eq_true rfl) (Nat.le_of_ble_eq_true rfl) (by omega) rfl rfl (t_X10_countAlike (d := 2) (by omega) y4 _ e6) ?_
    refine r_goto 72 dX11_classes_57 (by decide) ?_
    cases h
    exact r_ret dX11_classes_72 rfl mm_Zi_rfl
noncomputable def X11_classes (x1 : Int32) (M : mm_M) : Option (Int32 × mm_M) := if (X8_isTold M) = true then if x1 = 100 then X11_classes_j29 x1 M else if (X8_has 7 x1 M) = true then X11_classes_j29 x1 M else some ((-1), M) else some ((-1), M)
set_option maxRecDepth 100000 in
set_option maxHeartbeats 400000 in
theorem t_X11_classes {d : Nat} (hd : 3 ≤ d) (x1 : Int32) (M : mm_M) (res : (Int32 × mm_M)) (h : X11_classes x1 M = some res) : mm_Meth jX11_classes d 0 0 [(.inr 0), (.inl x1)] S_c M (mm_Zi res.1 S_c res.2) := by
  refine r_meth (L := [some (.inr 0), some (.inl x1)]) rfl (fun D => ?_)
  unfold X11_classes at h
  refine r_aload_n (q := 1) dX11_classes_0 rfl rfl ?_
  refine r_getr (b := 7) (q := 4) lk_X11_42 dX11_classes_1 sc_c_0 rfl rfl ?_
  refine r_callV_i (av := []) (st := []) (q := 7) (d1 := 0) kc_X11_144 sc_c_7 dX11_classes_4 rfl rfl (Nat.le_of_ble_eq_true rfl) (Nat.le_of_ble_eq_true rfl) (by omega) rfl rfl (t_X8_isTold (d := 0) (by omega) M _ rfl) ?_
  refine r_if_eq 27 (q := 10) dX11_classes_7 (by decide) rfl (fun c1 => ?_) (fun c1 => ?_)
  · rw [if_neg (mm_b0 c1)] at h
    refine r_iconst (v := (-1)) (q := 28) dX11_classes_27 (by decide) rfl ?_
    cases h
    exact r_ret dX11_classes_28 rfl mm_Zi_rfl
  · rw [if_pos (mm_b1 c1)] at h
    refine r_iload_n (q := 11) dX11_classes_10 rfl rfl ?_
    refine r_bipush (v := 100) (q := 13) dX11_classes_11 (by decide) rfl ?_
    refine r_icmp_eq 29 (q := 16) dX11_classes_13 (by decide) rfl (fun c2 => ?_) (fun c2 => ?_)
    · rw [if_pos c2] at h
      exact t_X11_classes_j29 hd x1 M _ h
    · rw [if_neg c2] at h
      refine r_aload_n (q := 17) dX11_classes_16 rfl rfl ?_
      refine r_getr (b := 7) (q := 20) lk_X11_42 dX11_classes_17 sc_c_0 rfl rfl ?_
      refine r_iload_n (q := 21) dX11_classes_20 rfl rfl ?_
      refine r_callV_i (av := [(.inl x1)]) (st := []) (q := 24) (d1 := 0) kc_X11_87 sc_c_7 dX11_classes_21 rfl rfl (Nat.le_of_ble_eq_true rfl) (Nat.le_of_ble_eq_true rfl) (by omega) rfl rfl (t_X8_has_7 (d := 0) (by omega) x1 M _ rfl) ?_
      refine r_if_ne 29 (q := 27) dX11_classes_24 (by decide) rfl (fun c10 => ?_) (fun c10 => ?_)
      · rw [if_pos (mm_b1 c10)] at h
        exact t_X11_classes_j29 hd x1 M _ h
      · rw [if_neg (mm_b0 c10)] at h
        refine r_iconst (v := (-1)) (q := 28) dX11_classes_27 (by decide) rfl ?_
        cases h
        exact r_ret dX11_classes_28 rfl mm_Zi_rfl
noncomputable def X11_parts (x1 : Int32) (x2 : Int32) (x3 : Int32) (M : mm_M) : Option (Int32 × mm_M) := if (X8_has 7 x1 M) = true then if (X8_has 7 x2 M) = true then if (X11_isZeroOrOne x3) = true then (X10_tellApart M).bind fun y5 => if (X10_apartBy x1 x2 y5) = 0 then some ((-2), y5) else if x3 = 0 then some ((X10_apartBy x1 x2 y5), y5) else (X10_firstApart x1 x2 (X10_apartBy x1 x2 y5) y5).bind fun y9 => some (y9, y5) else some ((-1), M) else some ((-1), M) else some ((-1), M)
set_option maxRecDepth 100000 in
set_option maxHeartbeats 400000 in
theorem t_X11_parts {d : Nat} (hd : 3 ≤ d) (x1 : Int32) (x2 : Int32) (x3 : Int32) (M : mm_M) (res : (Int32 × mm_M)) (h : X11_parts x1 x2 x3 M = some res) : mm_Meth jX11_parts d 0 0 [(.inr 0), (.inl x1), (.inl x2), (.inl x3)] S_c M (mm_Zi res.1 S_c res.2) := by
  refine r_meth (L := [some (.inr 0), some (.inl x1), some (.inl x2), some (.inl x3), none]) rfl (fun D => ?_)
  unfold X11_parts at h
  refine r_aload_n (q := 1) dX11_parts_0 rfl rfl ?_
  refine r_getr (b := 7) (q := 4) lk_X11_42 dX11_parts_1 sc_c_0 rfl rfl ?_
  refine r_iload_n (q := 5) dX11_parts_4 rfl rfl ?_
  refine r_callV_i (av := [(.inl x1)]) (st := []) (q := 8) (d1 := 0) kc_X11_87 sc_c_7 dX11_parts_5 rfl rfl (Nat.le_of_ble_eq_true rfl) (Nat.le_of_ble_eq_true rfl) (by omega) rfl rfl (t_X8_has_7 (d := 0) (by omega) x1 M _ rfl) ?_
  refine r_if_eq 29 (q := 11) dX11_parts_8 (by decide) rfl (fun c1 => ?_) (fun c1 => ?_)
  · rw [if_neg (mm_b0 c1)] at h
    refine r_iconst (v := (-1)) (q := 30) dX11_parts_29 (by decide) rfl ?_
    cases h
    exact r_ret dX11_parts_30 rfl mm_Zi_rfl
  · rw [if_pos (mm_b1 c1)] at h
    refine r_aload_n (q := 12) dX11_parts_11 rfl rfl ?_
    refine r_getr (b := 7) (q := 15) lk_X11_42 dX11_parts_12 sc_c_0 rfl rfl ?_
    refine r_iload_n (q := 16) dX11_parts_15 rfl rfl ?_
    refine r_callV_i (av := [(.inl x2)]) (st := []) (q := 19) (d1 := 0) kc_X11_87 sc_c_7 dX11_parts_16 rfl rfl (Nat.le_of_ble_eq_true rfl) (Nat.le_of_ble_eq_true rfl) (by omega) rfl rfl (t_X8_has_7 (d := 0) (by omega) x2 M _ rfl) ?_
    refine r_if_eq 29 (q := 22) dX11_parts_19 (by decide) rfl (fun c2 => ?_) (fun c2 => ?_)
    · rw [if_neg (mm_b0 c2)] at h
      refine r_iconst (v := (-1)) (q := 30) dX11_parts_29 (by decide) rfl ?_
      cases h
      exact r_ret dX11_parts_30 rfl mm_Zi_rfl
    · rw [if_pos (mm_b1 c2)] at h
      refine r_iload_n (q := 23) dX11_parts_22 rfl rfl ?_
      refine r_callS_i (av := [(.inl x3)]) (st := []) (q := 26) (d1 := 0) kc_X11_179 dX11_parts_23 rfl rfl (Nat.le_of_ble_eq_true rfl) (Nat.le_of_ble_eq_true rfl) (by omega) rfl rfl (t_X11_isZeroOrOne (d := 0) (by omega) x3 M _ rfl) ?_
      refine r_if_ne 31 (q := 29) dX11_parts_26 (by decide) rfl (fun c3 => ?_) (fun c3 => ?_)
      · rw [if_pos (mm_b1 c3)] at h
        refine r_aload_n (q := 32) dX11_parts_31 rfl rfl ?_
        refine r_getr (b := 31) (q := 35) lk_X11_76 dX11_parts_32 sc_c_0 rfl rfl ?_
        refine r_aload_n (q := 36) dX11_parts_35 rfl rfl ?_
        refine r_getr (b := 7) (q := 39) lk_X11_42 dX11_parts_36 sc_c_0 rfl rfl ?_
        obtain ⟨y5, e4, h⟩ := Option.bind_eq_some_iff.mp h
        refine r_callV_v (av := [(.inr 7)]) (st := []) (q := 42) (d1 := 2) kc_X11_218 sc_c_31 dX11_parts_39 rfl rfl (Nat.le_of_ble_eq_true rfl) (Nat.le_of_ble_eq_true rfl) (by omega) rfl rfl (t_X10_tellApart (d := 2) (by omega) M _ e4) ?_
        refine r_aload_n (q := 43) dX11_parts_42 rfl rfl ?_
        refine r_getr (b := 31) (q := 46) lk_X11_76 dX11_parts_43 sc_c_0 rfl rfl ?_
        refine r_iload_n (q := 47) dX11_parts_46 rfl rfl ?_
        refine r_iload_n (q := 48) dX11_parts_47 rfl rfl ?_
        refine r_callV_i (av := [(.inl x1), (.inl x2)]) (st := []) (q := 51) (d1 := 0) kc_X11_229 sc_c_31 dX11_parts_48 rfl rfl (Nat.le_of_ble_eq_true rfl) (Nat.le_of_ble_eq_true rfl) (by omega) rfl rfl (t_X10_apartBy (d := 0) (by omega) x1 x2 y5 _ rfl) ?_
        refine r_istore (q := 53) (L' := [some (.inr 0), some (.inl x1), some (.inl x2), some (.inl x3), some (.inl (X10_apartBy x1 x2 y5))]) dX11_parts_51 (by decide) rfl rfl ?_
        refine r_iload (q := 55) dX11_parts_53 rfl rfl ?_
        refine r_if_ne 61 (q := 58) dX11_parts_55 (by decide) rfl (fun c6 => ?_) (fun c6 => ?_)
        · rw [if_neg c6] at h
          refine r_iload_n (q := 62) dX11_parts_61 rfl rfl ?_
          refine r_if_ne 70 (q := 65) dX11_parts_62 (by decide) rfl (fun c7 => ?_) (fun c7 => ?_)
          · rw [if_neg c7] at h
            refine r_aload_n (q := 71) dX11_parts_70 rfl rfl ?_
            refine r_getr (b := 31) (q := 74) lk_X11_76 dX11_parts_71 sc_c_0 rfl rfl ?_
            refine r_aload_n (q := 75) dX11_parts_74 rfl rfl ?_
            refine r_getr (b := 7) (q := 78) lk_X11_42 dX11_parts_75 sc_c_0 rfl rfl ?_
            refine r_iload_n (q := 79) dX11_parts_78 rfl rfl ?_
            refine r_iload_n (q := 80) dX11_parts_79 rfl rfl ?_
            refine r_iload (q := 82) dX11_parts_80 rfl rfl ?_
            obtain ⟨y9, e8, h⟩ := Option.bind_eq_some_iff.mp h
            refine r_callV_i (av := [(.inr 7), (.inl x1), (.inl x2), (.inl (X10_apartBy x1 x2 y5))]) (st := []) (q := 85) (d1 := 1) kc_X11_232 sc_c_31 dX11_parts_82 rfl rfl (Nat.le_of_ble_eq_true rfl) (Nat.le_of_ble_eq_true rfl) (by omega) rfl rfl (t_X10_firstApart (d := 1) (by omega) x1 x2 (X10_apartBy x1 x2 y5) y5 _ e8) ?_
            cases h
            exact r_ret dX11_parts_85 rfl mm_Zi_rfl
          · rw [if_pos c7] at h
            refine r_iload (q := 67) dX11_parts_65 rfl rfl ?_
            refine r_goto 85 dX11_parts_67 (by decide) ?_
            cases h
            exact r_ret dX11_parts_85 rfl mm_Zi_rfl
        · rw [if_pos c6] at h
          refine r_bipush (v := (-2)) (q := 60) dX11_parts_58 (by decide) rfl ?_
          cases h
          exact r_ret dX11_parts_60 rfl mm_Zi_rfl
      · rw [if_neg (mm_b0 c3)] at h
        refine r_iconst (v := (-1)) (q := 30) dX11_parts_29 (by decide) rfl ?_
        cases h
        exact r_ret dX11_parts_30 rfl mm_Zi_rfl
noncomputable def X5_enter_j26 (x1 : Int32) (x2 : Int32) (x3 : Int32) (z0 : Bool) (M : mm_M) : Option mm_M := if z0 = true then if (M 36 6) < 0 then some M else if 1024 ≤ (M 36 6) then some M else if mm_in x1 1024 = true then if mm_in x1 1024 = true then some (mm_U (mm_U (mm_U (mm_U M 38 (Int32.toNatClampNeg x1) x2) 39 (Int32.toNatClampNeg x1) x3) 37 (Int32.toNatClampNeg (M 36 6)) x1) 36 6 ((M 36 6) + 1)) else none else none else some M
set_option maxRecDepth 100000 in
set_option maxHeartbeats 400000 in
theorem t_X5_enter_j26 {D : mm_D} {d : Nat} (hd : 0 ≤ d) (x1 : Int32) (x2 : Int32) (x3 : Int32) (z0 : Bool) (M : mm_M) (res : mm_M) (h : X5_enter_j26 x1 x2 x3 z0 M = some res) : mm_Go jX5_enter D d 0 0 26 [some (.inr 36), some (.inl x1), some (.inl x2), some (.inl x3), none] [(.inl (mm_b z0))] S_c M (mm_Zv S_c res) := by
  unfold X5_enter_j26 at h
  refine r_istore (q := 28) (L' := [some (.inr 36), some (.inl x1), some (.inl x2), some (.inl x3), some (.inl (mm_b z0))]) dX5_enter_26 (by decide) rfl rfl ?_
  refine r_iload (q := 30) dX5_enter_28 rfl rfl ?_
  refine r_if_eq 84 (q := 33) dX5_enter_30 (by decide) rfl (fun c2 => ?_) (fun c2 => ?_)
  · rw [if_neg (mm_b0 c2)] at h
    cases h
    exact r_retv dX5_enter_84 rfl mm_Zv_rfl
  · rw [if_pos (mm_b1 c2)] at h
    refine r_aload_n (q := 34) dX5_enter_33 rfl rfl ?_
    refine r_geti (v := (M 36 6)) (q := 37) lk_X5_57 dX5_enter_34 sc_c_36 rfl rfl rfl ?_
    refine r_if_lt 84 (q := 40) dX5_enter_37 (by decide) rfl (fun c3 => ?_) (fun c3 => ?_)
    · rw [if_pos c3] at h
      cases h
      exact r_retv dX5_enter_84 rfl mm_Zv_rfl
    · rw [if_neg c3] at h
      refine r_aload_n (q := 41) dX5_enter_40 rfl rfl ?_
      refine r_geti (v := (M 36 6)) (q := 44) lk_X5_57 dX5_enter_41 sc_c_36 rfl rfl rfl ?_
      refine r_sipush (v := 1024) (q := 47) dX5_enter_44 (by decide) rfl ?_
      refine r_icmp_ge 84 (q := 50) dX5_enter_47 (by decide) rfl (fun c4 => ?_) (fun c4 => ?_)
      · rw [if_pos c4] at h
        cases h
        exact r_retv dX5_enter_84 rfl mm_Zv_rfl
      · rw [if_neg c4] at h
        refine r_aload_n (q := 51) dX5_enter_50 rfl rfl ?_
        refine r_getr (b := 38) (q := 54) lk_X5_15 dX5_enter_51 sc_c_36 rfl rfl ?_
        refine r_iload_n (q := 55) dX5_enter_54 rfl rfl ?_
        refine r_iload_n (q := 56) dX5_enter_55 rfl rfl ?_
        obtain ⟨g5, h⟩ := mm_guard h
        refine r_iast (j := (Int32.toNatClampNeg x1)) (q := 57) dX5_enter_56 sc_c_38 (mm_vp g5) rfl rfl ?_
        refine r_aload_n (q := 58) dX5_enter_57 rfl rfl ?_
        refine r_getr (b := 39) (q := 61) lk_X5_18 dX5_enter_58 sc_c_36 rfl rfl ?_
        refine r_iload_n (q := 62) dX5_enter_61 rfl rfl ?_
        refine r_iload_n (q := 63) dX5_enter_62 rfl rfl ?_
        obtain ⟨g6, h⟩ := mm_guard h
        refine r_iast (j := (Int32.toNatClampNeg x1)) (q := 64) dX5_enter_63 sc_c_39 (mm_vp g6) rfl rfl ?_
        refine r_aload_n (q := 65) dX5_enter_64 rfl rfl ?_
        refine r_getr (b := 37) (q := 68) lk_X5_9 dX5_enter_65 sc_c_36 rfl rfl ?_
        refine r_aload_n (q := 69) dX5_enter_68 rfl rfl ?_
        refine r_geti (v := (M 36 6)) (q := 72) lk_X5_57 dX5_enter_69 sc_c_36 rfl rfl rfl ?_
        refine r_iload_n (q := 73) dX5_enter_72 rfl rfl ?_
        refine r_iast (j := (Int32.toNatClampNeg (M 36 6))) (q := 74) dX5_enter_73 sc_c_37 (mm_vp2 (Int32.not_lt.mp c3) (Int32.not_le.mp c4) (by decide)) rfl rfl ?_
        refine r_aload_n (q := 75) dX5_enter_74 rfl rfl ?_
        refine r_dup (q := 76) dX5_enter_75 rfl ?_
        refine r_geti (v := (M 36 6)) (q := 79) lk_X5_57 dX5_enter_76 sc_c_36 rfl rfl rfl ?_
        refine r_iconst (v := 1) (q := 80) dX5_enter_79 (by decide) rfl ?_
        refine r_iadd (q := 81) dX5_enter_80 rfl ?_
        refine r_puti (q := 84) lk_X5_57 ft_3_6 dX5_enter_81 sc_c_36 rfl rfl ?_
        cases h
        exact r_retv dX5_enter_84 rfl mm_Zv_rfl
noncomputable def X5_enter_j25 (x1 : Int32) (x2 : Int32) (x3 : Int32) (M : mm_M) : Option mm_M := X5_enter_j26 x1 x2 x3 false M
set_option maxRecDepth 100000 in
set_option maxHeartbeats 400000 in
theorem t_X5_enter_j25 {D : mm_D} {d : Nat} (hd : 0 ≤ d) (x1 : Int32) (x2 : Int32) (x3 : Int32) (M : mm_M) (res : mm_M) (h : X5_enter_j25 x1 x2 x3 M = some res) : mm_Go jX5_enter D d 0 0 25 [some (.inr 36), some (.inl x1), some (.inl x2), some (.inl x3), none] [] S_c M (mm_Zv S_c res) := by
  unfold X5_enter_j25 at h
  refine r_iconst (v := 0) (q := 26) dX5_enter_25 (by decide) rfl ?_
  exact t_X5_enter_j26 hd x1 x2 x3 false M _ h
noncomputable def X5_enter (x1 : Int32) (x2 : Int32) (x3 : Int32) (M : mm_M) : Option mm_M := if x1 < 0 then X5_enter_j25 x1 x2 x3 M else if 1024 ≤ x1 then X5_enter_j25 x1 x2 x3 M else if (M 38 (Int32.toNatClampNeg x1)) = (-1) then X5_enter_j26 x1 x2 x3 true M else X5_enter_j25 x1 x2 x3 M
set_option maxRecDepth 100000 in
set_option maxHeartbeats 400000 in
theorem t_X5_enter {d : Nat} (hd : 0 ≤ d) (x1 : Int32) (x2 : Int32) (x3 : Int32) (M : mm_M) (res : mm_M) (h : X5_enter x1 x2 x3 M = some res) : mm_Meth jX5_enter d 0 0 [(.inr 36), (.inl x1), (.inl x2), (.inl x3)] S_c M (mm_Zv S_c res) := by
  refine r_meth (L := [some (.inr 36), some (.inl x1), some (.inl x2), some (.inl x3), none]) rfl (fun D => ?_)
  unfold X5_enter at h
  refine r_iload_n (q := 1) dX5_enter_0 rfl rfl ?_
  refine r_if_lt 25 (q := 4) dX5_enter_1 (by decide) rfl (fun c1 => ?_) (fun c1 => ?_)
  · rw [if_pos c1] at h
    exact t_X5_enter_j25 hd x1 x2 x3 M _ h
  · rw [if_neg c1] at h
    refine r_iload_n (q := 5) dX5_enter_4 rfl rfl ?_
    refine r_sipush (v := 1024) (q := 8) dX5_enter_5 (by decide) rfl ?_
    refine r_icmp_ge 25 (q := 11) dX5_enter_8 (by decide) rfl (fun c7 => ?_) (fun c7 => ?_)
    · rw [if_pos c7] at h
      exact t_X5_enter_j25 hd x1 x2 x3 M _ h
    · rw [if_neg c7] at h
      refine r_aload_n (q := 12) dX5_enter_11 rfl rfl ?_
      refine r_getr (b := 38) (q := 15) lk_X5_15 dX5_enter_12 sc_c_36 rfl rfl ?_
      refine r_iload_n (q := 16) dX5_enter_15 rfl rfl ?_
      refine r_iald (v := (M 38 (Int32.toNatClampNeg x1))) (q := 17) dX5_enter_16 sc_c_38 (mm_vp2 (Int32.not_lt.mp c1) (Int32.not_le.mp c7) (by decide)) rfl rfl ?_
      refine r_iconst (v := (-1)) (q := 18) dX5_enter_17 (by decide) rfl ?_
      refine r_icmp_ne 25 (q := 21) dX5_enter_18 (by decide) rfl (fun c8 => ?_) (fun c8 => ?_)
      · rw [if_neg c8] at h
        exact t_X5_enter_j25 hd x1 x2 x3 M _ h
      · rw [if_pos c8] at h
        refine r_iconst (v := 1) (q := 22) dX5_enter_21 (by decide) rfl ?_
        refine r_goto 26 dX5_enter_22 (by decide) ?_
        exact t_X5_enter_j26 hd x1 x2 x3 true M _ h
noncomputable def J6_bitCount_0f7a4 (x0 : Int32) : Int32 := ((((((((x0 - ((Int32.toUInt32 x0 >>> (Int32.toUInt32 (1 : Int32) &&& Int32.toUInt32 31)).toInt32 &&& 1431655765)) &&& 858993459) + ((Int32.toUInt32 (x0 - ((Int32.toUInt32 x0 >>> (Int32.toUInt32 (1 : Int32) &&& Int32.toUInt32 31)).toInt32 &&& 1431655765)) >>> (Int32.toUInt32 (2 : Int32) &&& Int32.toUInt32 31)).toInt32 &&& 858993459)) + (Int32.toUInt32 (((x0 - ((Int32.toUInt32 x0 >>> (Int32.toUInt32 (1 : Int32) &&& Int32.toUInt32 31)).toInt32 &&& 1431655765)) &&& 858993459) + ((Int32.toUInt32 (x0 - ((Int32.toUInt32 x0 >>> (Int32.toUInt32 (1 : Int32) &&& Int32.toUInt32 31)).toInt32 &&& 1431655765)) >>> (Int32.toUInt32 (2 : Int32) &&& Int32.toUInt32 31)).toInt32 &&& 858993459)) >>> (Int32.toUInt32 (4 : Int32) &&& Int32.toUInt32 31)).toInt32) &&& 252645135) + (Int32.toUInt32 (((((x0 - ((Int32.toUInt32 x0 >>> (Int32.toUInt32 (1 : Int32) &&& Int32.toUInt32 31)).toInt32 &&& 1431655765)) &&& 858993459) + ((Int32.toUInt32 (x0 - ((Int32.toUInt32 x0 >>> (Int32.toUInt32 (1 : Int32) &&& Int32.toUInt32 31)).toInt32 &&& 1431655765)) >>> (Int32.toUInt32 (2 : Int32) &&& Int32.toUInt32 31)).toInt32 &&& 858993459)) + (Int32.toUInt32 (((x0 - ((Int32.toUInt32 x0 >>> (Int32.toUInt32 (1 : Int32) &&& Int32.toUInt32 31)).toInt32 &&& 1431655765)) &&& 858993459) + ((Int32.toUInt32 (x0 - ((Int32.toUInt32 x0 >>> (Int32.toUInt32 (1 : Int32) &&& Int32.toUInt32 31)).toInt32 &&& 1431655765)) >>> (Int32.toUInt32 (2 : Int32) &&& Int32.toUInt32 31)).toInt32 &&& 858993459)) >>> (Int32.toUInt32 (4 : Int32) &&& Int32.toUInt32 31)).toInt32) &&& 252645135) >>> (Int32.toUInt32 (8 : Int32) &&& Int32.toUInt32 31)).toInt32) + (Int32.toUInt32 ((((((x0 - ((Int32.toUInt32 x0 >>> (Int32.toUInt32 (1 : Int32) &&& Int32.toUInt32 31)).toInt32 &&& 1431655765)) &&& 858993459) + ((Int32.toUInt32 (x0 - ((Int32.toUInt32 x0 >>> (Int32.toUInt32 (1 : Int32) &&& Int32.toUInt32 31)).toInt32 &&& 1431655765)) >>> (Int32.toUInt32 (2 : Int32) &&& Int32.toUInt32 31)).toInt32 &&& 858993459)) + (Int32.toUInt32 (((x0 - ((Int32.toUInt32 x0 >>> (Int32.toUInt32 (1 : Int32) &&& Int32.toUInt32 31)).toInt32 &&& 1431655765)) &&& 858993459) + ((Int32.toUInt32 (x0 - ((Int32.toUInt32 x0 >>> (Int32.toUInt32 (1 : Int32) &&& Int32.toUInt32 31)).toInt32 &&& 1431655765)) >>> (Int32.toUInt32 (2 : Int32) &&& Int32.toUInt32 31)).toInt32 &&& 858993459)) >>> (Int32.toUInt32 (4 : Int32) &&& Int32.toUInt32 31)).toInt32) &&& 252645135) + (Int32.toUInt32 (((((x0 - ((Int32.toUInt32 x0 >>> (Int32.toUInt32 (1 : Int32) &&& Int32.toUInt32 31)).toInt32 &&& 1431655765)) &&& 858993459) + ((Int32.toUInt32 (x0 - ((Int32.toUInt32 x0 >>> (Int32.toUInt32 (1 : Int32) &&& Int32.toUInt32 31)).toInt32 &&& 1431655765)) >>> (Int32.toUInt32 (2 : Int32) &&& Int32.toUInt32 31)).toInt32 &&& 858993459)) + (Int32.toUInt32 (((x0 - ((Int32.toUInt32 x0 >>> (Int32.toUInt32 (1 : Int32) &&& Int32.toUInt32 31)).toInt32 &&& 1431655765)) &&& 858993459) + ((Int32.toUInt32 (x0 - ((Int32.toUInt32 x0 >>> (Int32.toUInt32 (1 : Int32) &&& Int32.toUInt32 31)).toInt32 &&& 1431655765)) >>> (Int32.toUInt32 (2 : Int32) &&& Int32.toUInt32 31)).toInt32 &&& 858993459)) >>> (Int32.toUInt32 (4 : Int32) &&& Int32.toUInt32 31)).toInt32) &&& 252645135) >>> (Int32.toUInt32 (8 : Int32) &&& Int32.toUInt32 31)).toInt32) >>> (Int32.toUInt32 (16 : Int32) &&& Int32.toUInt32 31)).toInt32) &&& 63)
set_option maxRecDepth 100000 in
set_option maxHeartbeats 400000 in
theorem t_J6_bitCount_0f7a4 {d : Nat} (hd : 0 ≤ d) (x0 : Int32) (M : mm_M) (res : Int32) (h : J6_bitCount_0f7a4 x0 = res) : mm_Meth jJ6_bitCount_0f7a4 d 0 0 [(.inl x0)] S_c M (mm_Zi res S_c M) := by
  refine r_meth (L := [some (.inl x0)]) rfl (fun D => ?_)
  unfold J6_bitCount_0f7a4 at h
  refine r_iload_n (q := 1) dJ6_bitCount_0f7a4_0 rfl rfl ?_
  refine r_iload_n (q := 2) dJ6_bitCount_0f7a4_1 rfl rfl ?_
  refine r_iconst (v := 1) (q := 3) dJ6_bitCount_0f7a4_2 (by decide) rfl ?_
  refine r_iushr (q := 4) dJ6_bitCount_0f7a4_3 rfl ?_
  refine r_ldcw (v := 1431655765) (q := 7) dJ6_bitCount_0f7a4_4 ko_J6_265 rfl ?_
  refine r_iand (q := 8) dJ6_bitCount_0f7a4_7 rfl ?_
  refine r_isub (q := 9) dJ6_bitCount_0f7a4_8 rfl ?_
  refine r_istore_n (q := 10) (L' := [some (.inl (x0 - ((Int32.toUInt32 x0 >>> (Int32.toUInt32 (1 : Int32) &&& Int32.toUInt32 31)).toInt32 &&& 1431655765)))]) dJ6_bitCount_0f7a4_9 (by decide) rfl rfl ?_
  refine r_iload_n (q := 11) dJ6_bitCount_0f7a4_10 rfl rfl ?_
  refine r_ldcw (v := 858993459) (q := 14) dJ6_bitCount_0f7a4_11 ko_J6_266 rfl ?_
  refine r_iand (q := 15) dJ6_bitCount_0f7a4_14 rfl ?_
  refine r_iload_n (q := 16) dJ6_bitCount_0f7a4_15 rfl rfl ?_
  refine r_iconst (v := 2) (q := 17) dJ6_bitCount_0f7a4_16 (by decide) rfl ?_
  refine r_iushr (q := 18) dJ6_bitCount_0f7a4_17 rfl ?_
  refine r_ldcw (v := 858993459) (q := 21) dJ6_bitCount_0f7a4_18 ko_J6_266 rfl ?_
  refine r_iand (q := 22) dJ6_bitCount_0f7a4_21 rfl ?_
  refine r_iadd (q := 23) dJ6_bitCount_0f7a4_22 rfl ?_
  refine r_istore_n (q := 24) (L' := [some (.inl (((x0 - ((Int32.toUInt32 x0 >>> (Int32.toUInt32 (1 : Int32) &&& Int32.toUInt32 31)).toInt32 &&& 1431655765)) &&& 858993459) + ((Int32.toUInt32 (x0 - ((Int32.toUInt32 x0 >>> (Int32.toUInt32 (1 : Int32) &&& Int32.toUInt32 31)).toInt32 &&& 1431655765)) >>> (Int32.toUInt32 (2 : Int32) &&& Int32.toUInt32 31)).toInt32 &&& 858993459)))]) dJ6_bitCount_0f7a4_23 (by decide) rfl rfl ?_
  refine r_iload_n (q := 25) dJ6_bitCount_0f7a4_24 rfl rfl ?_
  refine r_iload_n (q := 26) dJ6_bitCount_0f7a4_25 rfl rfl ?_
  refine r_iconst (v := 4) (q := 27) dJ6_bitCount_0f7a4_26 (by decide) rfl ?_
  refine r_iushr (q := 28) dJ6_bitCount_0f7a4_27 rfl ?_
  refine r_iadd (q := 29) dJ6_bitCount_0f7a4_28 rfl ?_
  refine r_ldcw (v := 252645135) (q := 32) dJ6_bitCount_0f7a4_29 ko_J6_267 rfl ?_
  refine r_iand (q := 33) dJ6_bitCount_0f7a4_32 rfl ?_
  refine r_istore_n (q := 34) (L' := [some (.inl (((((x0 - ((Int32.toUInt32 x0 >>> (Int32.toUInt32 (1 : Int32) &&& Int32.toUInt32 31)).toInt32 &&& 1431655765)) &&& 858993459) + ((Int32.toUInt32 (x0 - ((Int32.toUInt32 x0 >>> (Int32.toUInt32 (1 : Int32) &&& Int32.toUInt32 31)).toInt32 &&& 1431655765)) >>> (Int32.toUInt32 (2 : Int32) &&& Int32.toUInt32 31)).toInt32 &&& 858993459)) + (Int32.toUInt32 (((x0 - ((Int32.toUInt32 x0 >>> (Int32.toUInt32 (1 : Int32) &&& Int32.toUInt32 31)).toInt32 &&& 1431655765)) &&& 858993459) + ((Int32.toUInt32 (x0 - ((Int32.toUInt32 x0 >>> (Int32.toUInt32 (1 : Int32) &&& Int32.toUInt32 31)).toInt32 &&& 1431655765)) >>> (Int32.toUInt32 (2 : Int32) &&& Int32.toUInt32 31)).toInt32 &&& 858993459)) >>> (Int32.toUInt32 (4 : Int32) &&& Int32.toUInt32 31)).toInt32) &&& 252645135))]) dJ6_bitCount_0f7a4_33 (by decide) rfl rfl ?_
  refine r_iload_n (q := 35) dJ6_bitCount_0f7a4_34 rfl rfl ?_
  refine r_iload_n (q := 36) dJ6_bitCount_0f7a4_35 rfl rfl ?_
  refine r_bipush (v := 8) (q := 38) dJ6_bitCount_0f7a4_36 (by decide) rfl ?_
  refine r_iushr (q := 39) dJ6_bitCount_0f7a4_38 rfl ?_
  refine r_iadd (q := 40) dJ6_bitCount_0f7a4_39 rfl ?_
  refine r_istore_n (q := 41) (L' := [some (.inl ((((((x0 - ((Int32.toUInt32 x0 >>> (Int32.toUInt32 (1 : Int32) &&& Int32.toUInt32 31)).toInt32 &&& 1431655765)) &&& 858993459) + ((Int32.toUInt32 (x0 - ((Int32.toUInt32 x0 >>> (Int32.toUInt32 (1 : Int32) &&& Int32.toUInt32 31)).toInt32 &&& 1431655765)) >>> (Int32.toUInt32 (2 : Int32) &&& Int32.toUInt32 31)).toInt32 &&& 858993459)) + (Int32.toUInt32 (((x0 - ((Int32.toUInt32 x0 >>> (Int32.toUInt32 (1 : Int32) &&& Int32.toUInt32 31)).toInt32 &&& 1431655765)) &&& 858993459) + ((Int32.toUInt32 (x0 - ((Int32.toUInt32 x0 >>> (Int32.toUInt32 (1 : Int32) &&& Int32.toUInt32 31)).toInt32 &&& 1431655765)) >>> (Int32.toUInt32 (2 : Int32) &&& Int32.toUInt32 31)).toInt32 &&& 858993459)) >>> (Int32.toUInt32 (4 : Int32) &&& Int32.toUInt32 31)).toInt32) &&& 252645135) + (Int32.toUInt32 (((((x0 - ((Int32.toUInt32 x0 >>> (Int32.toUInt32 (1 : Int32) &&& Int32.toUInt32 31)).toInt32 &&& 1431655765)) &&& 858993459) + ((Int32.toUInt32 (x0 - ((Int32.toUInt32 x0 >>> (Int32.toUInt32 (1 : Int32) &&& Int32.toUInt32 31)).toInt32 &&& 1431655765)) >>> (Int32.toUInt32 (2 : Int32) &&& Int32.toUInt32 31)).toInt32 &&& 858993459)) + (Int32.toUInt32 (((x0 - ((Int32.toUInt32 x0 >>> (Int32.toUInt32 (1 : Int32) &&& Int32.toUInt32 31)).toInt32 &&& 1431655765)) &&& 858993459) + ((Int32.toUInt32 (x0 - ((Int32.toUInt32 x0 >>> (Int32.toUInt32 (1 : Int32) &&& Int32.toUInt32 31)).toInt32 &&& 1431655765)) >>> (Int32.toUInt32 (2 : Int32) &&& Int32.toUInt32 31)).toInt32 &&& 858993459)) >>> (Int32.toUInt32 (4 : Int32) &&& Int32.toUInt32 31)).toInt32) &&& 252645135) >>> (Int32.toUInt32 (8 : Int32) &&& Int32.toUInt32 31)).toInt32))]) dJ6_bitCount_0f7a4_40 (by decide) rfl rfl ?_
  refine r_iload_n (q := 42) dJ6_bitCount_0f7a4_41 rfl rfl ?_
  refine r_iload_n (q := 43) dJ6_bitCount_0f7a4_42 rfl rfl ?_
  refine r_bipush (v := 16) (q := 45) dJ6_bitCount_0f7a4_43 (by decide) rfl ?_
  refine r_iushr (q := 46) dJ6_bitCount_0f7a4_45 rfl ?_
  refine r_iadd (q := 47) dJ6_bitCount_0f7a4_46 rfl ?_
  refine r_istore_n (q := 48) (L' := [some (.inl (((((((x0 - ((Int32.toUInt32 x0 >>> (Int32.toUInt32 (1 : Int32) &&& Int32.toUInt32 31)).toInt32 &&& 1431655765)) &&& 858993459) + ((Int32.toUInt32 (x0 - ((Int32.toUInt32 x0 >>> (Int32.toUInt32 (1 : Int32) &&& Int32.toUInt32 31)).toInt32 &&& 1431655765)) >>> (Int32.toUInt32 (2 : Int32) &&& Int32.toUInt32 31)).toInt32 &&& 858993459)) + (Int32.toUInt32 (((x0 - ((Int32.toUInt32 x0 >>> (Int32.toUInt32 (1 : Int32) &&& Int32.toUInt32 31)).toInt32 &&& 1431655765)) &&& 858993459) + ((Int32.toUInt32 (x0 - ((Int32.toUInt32 x0 >>> (Int32.toUInt32 (1 : Int32) &&& Int32.toUInt32 31)).toInt32 &&& 1431655765)) >>> (Int32.toUInt32 (2 : Int32) &&& Int32.toUInt32 31)).toInt32 &&& 858993459)) >>> (Int32.toUInt32 (4 : Int32) &&& Int32.toUInt32 31)).toInt32) &&& 252645135) + (Int32.toUInt32 (((((x0 - ((Int32.toUInt32 x0 >>> (Int32.toUInt32 (1 : Int32) &&& Int32.toUInt32 31)).toInt32 &&& 1431655765)) &&& 858993459) + ((Int32.toUInt32 (x0 - ((Int32.toUInt32 x0 >>> (Int32.toUInt32 (1 : Int32) &&& Int32.toUInt32 31)).toInt32 &&& 1431655765)) >>> (Int32.toUInt32 (2 : Int32) &&& Int32.toUInt32 31)).toInt32 &&& 858993459)) + (Int32.toUInt32 (((x0 - ((Int32.toUInt32 x0 >>> (Int32.toUInt32 (1 : Int32) &&& Int32.toUInt32 31)).toInt32 &&& 1431655765)) &&& 858993459) + ((Int32.toUInt32 (x0 - ((Int32.toUInt32 x0 >>> (Int32.toUInt32 (1 : Int32) &&& Int32.toUInt32 31)).toInt32 &&& 1431655765)) >>> (Int32.toUInt32 (2 : Int32) &&& Int32.toUInt32 31)).toInt32 &&& 858993459)) >>> (Int32.toUInt32 (4 : Int32) &&& Int32.toUInt32 31)).toInt32) &&& 252645135) >>> (Int32.toUInt32 (8 : Int32) &&& Int32.toUInt32 31)).toInt32) + (Int32.toUInt32 ((((((x0 - ((Int32.toUInt32 x0 >>> (Int32.toUInt32 (1 : Int32) &&& Int32.toUInt32 31)).toInt32 &&& 1431655765)) &&& 858993459) + ((Int32.toUInt32 (x0 - ((Int32.toUInt32 x0 >>> (Int32.toUInt32 (1 : Int32) &&& Int32.toUInt32 31)).toInt32 &&& 1431655765)) >>> (Int32.toUInt32 (2 : Int32) &&& Int32.toUInt32 31)).toInt32 &&& 858993459)) + (Int32.toUInt32 (((x0 - ((Int32.toUInt32 x0 >>> (Int32.toUInt32 (1 : Int32) &&& Int32.toUInt32 31)).toInt32 &&& 1431655765)) &&& 858993459) + ((Int32.toUInt32 (x0 - ((Int32.toUInt32 x0 >>> (Int32.toUInt32 (1 : Int32) &&& Int32.toUInt32 31)).toInt32 &&& 1431655765)) >>> (Int32.toUInt32 (2 : Int32) &&& Int32.toUInt32 31)).toInt32 &&& 858993459)) >>> (Int32.toUInt32 (4 : Int32) &&& Int32.toUInt32 31)).toInt32) &&& 252645135) + (Int32.toUInt32 (((((x0 - ((Int32.toUInt32 x0 >>> (Int32.toUInt32 (1 : Int32) &&& Int32.toUInt32 31)).toInt32 &&& 1431655765)) &&& 858993459) + ((Int32.toUInt32 (x0 - ((Int32.toUInt32 x0 >>> (Int32.toUInt32 (1 : Int32) &&& Int32.toUInt32 31)).toInt32 &&& 1431655765)) >>> (Int32.toUInt32 (2 : Int32) &&& Int32.toUInt32 31)).toInt32 &&& 858993459)) + (Int32.toUInt32 (((x0 - ((Int32.toUInt32 x0 >>> (Int32.toUInt32 (1 : Int32) &&& Int32.toUInt32 31)).toInt32 &&& 1431655765)) &&& 858993459) + ((Int32.toUInt32 (x0 - ((Int32.toUInt32 x0 >>> (Int32.toUInt32 (1 : Int32) &&& Int32.toUInt32 31)).toInt32 &&& 1431655765)) >>> (Int32.toUInt32 (2 : Int32) &&& Int32.toUInt32 31)).toInt32 &&& 858993459)) >>> (Int32.toUInt32 (4 : Int32) &&& Int32.toUInt32 31)).toInt32) &&& 252645135) >>> (Int32.toUInt32 (8 : Int32) &&& Int32.toUInt32 31)).toInt32) >>> (Int32.toUInt32 (16 : Int32) &&& Int32.toUInt32 31)).toInt32))]) dJ6_bitCount_0f7a4_47 (by decide) rfl rfl ?_
  refine r_iload_n (q := 49) dJ6_bitCount_0f7a4_48 rfl rfl ?_
  refine r_bipush (v := 63) (q := 51) dJ6_bitCount_0f7a4_49 (by decide) rfl ?_
  refine r_iand (q := 52) dJ6_bitCount_0f7a4_51 rfl ?_
  subst h
  exact r_ret dJ6_bitCount_0f7a4_52 rfl mm_Zi_rfl
noncomputable def X5_lowest_l2 (x0 : Int32) (s : Int32) : Option (Int32 ⊕ Int32) := if 10 ≤ s then some (.inr (-1)) else if ((x0 >>> (s &&& 31)) &&& 1) = 0 then some (.inl (s + 1)) else some (.inr s)
set_option maxRecDepth 100000 in
set_option maxHeartbeats 400000 in
theorem t_X5_lowest_l2 {D : mm_D} {d : Nat} (hd : 0 ≤ d) {Z : Option Int32 → List mm_C → mm_M → Prop} (x0 : Int32) (M : mm_M) (n : Nat) (s : Int32) (r : Int32) (h : mm_loop (X5_lowest_l2 x0) n s = some r) (hx : Z (some r) S_c M) : mm_Go jX5_lowest D d 0 0 2 [some (.inl x0), some (.inl s)] [] S_c M Z := by
  refine mm_loop_go (step := X5_lowest_l2 x0) (Hd := fun (s : Int32) => mm_Go jX5_lowest D d 0 0 2 [some (.inl x0), some (.inl s)] [] S_c M Z) (Ex := fun (r : Int32) => Z (some r) S_c M) ?_ n s r h hx
  intro s o h kb ke
  show mm_Go jX5_lowest D d 0 0 2 [some (.inl x0), some (.inl s)] [] S_c M Z
  unfold X5_lowest_l2 at h
  refine r_iload_n (q := 3) dX5_lowest_2 rfl rfl ?_
  refine r_bipush (v := 10) (q := 5) dX5_lowest_3 (by decide) rfl ?_
  refine r_icmp_ge 24 (q := 8) dX5_lowest_5 (by decide) rfl (fun c1 => ?_) (fun c1 => ?_)
  · rw [if_pos c1] at h
    refine r_iconst (v := (-1)) (q := 25) dX5_lowest_24 (by decide) rfl ?_
    cases h
    have hk := ke _ rfl
    exact r_ret dX5_lowest_25 rfl hk
  · rw [if_neg c1] at h
    refine r_iload_n (q := 9) dX5_lowest_8 rfl rfl ?_
    refine r_iload_n (q := 10) dX5_lowest_9 rfl rfl ?_
    refine r_ishr (q := 11) dX5_lowest_10 rfl ?_
    refine r_iconst (v := 1) (q := 12) dX5_lowest_11 (by decide) rfl ?_
    refine r_iand (q := 13) dX5_lowest_12 rfl ?_
    refine r_if_eq 18 (q := 16) dX5_lowest_13 (by decide) rfl (fun c2 => ?_) (fun c2 => ?_)
    · rw [if_pos c2] at h
      refine r_iinc (v := 1) (q := 21) (L' := [some (.inl x0), some (.inl (s + 1))]) dX5_lowest_18 (by decide) (by decide) rfl rfl rfl ?_
      refine r_goto 2 dX5_lowest_21 (by decide) ?_
      cases h
      have hk := kb _ rfl
      exact hk
    · rw [if_neg c2] at h
      refine r_iload_n (q := 17) dX5_lowest_16 rfl rfl ?_
      cases h
      have hk := ke _ rfl
      exact r_ret dX5_lowest_17 rfl hk
noncomputable def X5_lowest (x0 : Int32) : Option Int32 := (mm_loop (X5_lowest_l2 x0) mm_fuel 0)
set_option maxRecDepth 100000 in
set_option maxHeartbeats 400000 in
theorem t_X5_lowest {d : Nat} (hd : 0 ≤ d) (x0 : Int32) (M : mm_M) (res : Int32) (h : X5_lowest x0 = some res) : mm_Meth jX5_lowest d 0 0 [(.inl x0)] S_c M (mm_Zi res S_c M) := by
  refine r_meth (L := [some (.inl x0), none]) rfl (fun D => ?_)
  unfold X5_lowest at h
  refine r_iconst (v := 0) (q := 1) dX5_lowest_0 (by decide) rfl ?_
  refine r_istore_n (q := 2) (L' := [some (.inl x0), some (.inl 0)]) dX5_lowest_1 (by decide) rfl rfl ?_
  exact t_X5_lowest_l2 hd x0 M mm_fuel 0 _ h mm_Zi_rfl
noncomputable def X5_image_l5 (x1 : Int32) (x2 : Int32) (M : mm_M) (s : (Int32 × Int32)) : Option ((Int32 × Int32) ⊕ Int32) := if (M 7 0) ≤ s.2 then some (.inr s.1) else if ((x1 >>> (s.2 &&& 31)) &&& 1) = 0 then some (.inl (s.1, (s.2 + 1))) else some (.inl ((s.1 ||| ((1 : Int32) <<< ((X8_behind x2 s.2 M) &&& 31))), (s.2 + 1)))
set_option maxRecDepth 100000 in
set_option maxHeartbeats 400000 in
theorem t_X5_image_l5 {D : mm_D} {d : Nat} (hd : 1 ≤ d) {Z : Option Int32 → List mm_C → mm_M → Prop} (x1 : Int32) (x2 : Int32) (M : mm_M) (n : Nat) (s : (Int32 × Int32)) (r : Int32) (h : mm_loop (X5_image_l5 x1 x2 M) n s = some r) (hx : Z (some r) S_c M) : mm_Go jX5_image D d 0 0 5 [some (.inr 7), some (.inl x1), some (.inl x2), some (.inl s.1), some (.inl s.2)] [] S_c M Z := by
  refine mm_loop_go (step := X5_image_l5 x1 x2 M) (Hd := fun (s : (Int32 × Int32)) => mm_Go jX5_image D d 0 0 5 [some (.inr 7), some (.inl x1), some (.inl x2), some (.inl s.1), some (.inl s.2)] [] S_c M Z) (Ex := fun (r : Int32) => Z (some r) S_c M) ?_ n s r h hx
  intro s o h kb ke
  show mm_Go jX5_image D d 0 0 5 [some (.inr 7), some (.inl x1), some (.inl x2), some (.inl s.1), some (.inl s.2)] [] S_c M Z
  unfold X5_image_l5 at h
  refine r_iload (q := 7) dX5_image_5 rfl rfl ?_
  refine r_aload_n (q := 8) dX5_image_7 rfl rfl ?_
  refine r_geti (v := (M 7 0)) (q := 11) lk_X5_81 dX5_image_8 sc_c_7 rfl rfl rfl ?_
  refine r_icmp_ge 41 (q := 14) dX5_image_11 (by decide) rfl (fun c1 => ?_) (fun c1 => ?_)
  · rw [if_pos c1] at h
    refine r_iload_n (q := 42) dX5_image_41 rfl rfl ?_
    cases h
    have hk := ke _ rfl
    exact r_ret dX5_image_42 rfl hk
  · rw [if_neg c1] at h
    refine r_iload_n (q := 15) dX5_image_14 rfl rfl ?_
    refine r_iload (q := 17) dX5_image_15 rfl rfl ?_
    refine r_ishr (q := 18) dX5_image_17 rfl ?_
    refine r_iconst (v := 1) (q := 19) dX5_image_18 (by decide) rfl ?_
    refine r_iand (q := 20) dX5_image_19 rfl ?_
    refine r_if_eq 35 (q := 23) dX5_image_20 (by decide) rfl (fun c2 => ?_) (fun c2 => ?_)
    · rw [if_pos c2] at h
      refine r_iinc (v := 1) (q := 38) (L' := [some (.inr 7), some (.inl x1), some (.inl x2), some (.inl s.1), some (.inl (s.2 + 1))]) dX5_image_35 (by decide) (by decide) rfl rfl rfl ?_
      refine r_goto 5 dX5_image_38 (by decide) ?_
      cases h
      have hk := kb _ rfl
      exact hk
    · rw [if_neg c2] at h
      refine r_iload_n (q := 24) dX5_image_23 rfl rfl ?_
      refine r_iconst (v := 1) (q := 25) dX5_image_24 (by decide) rfl ?_
      refine r_aload_n (q := 26) dX5_image_25 rfl rfl ?_
      refine r_iload_n (q := 27) dX5_image_26 rfl rfl ?_
      refine r_iload (q := 29) dX5_image_27 rfl rfl ?_
      refine r_callV_i (av := [(.inl x2), (.inl s.2)]) (st := [(.inl 1), (.inl s.1)]) (q := 32) (d1 := 0) kc_X5_84 sc_c_7 dX5_image_29 rfl rfl (Nat.le_of_ble_eq_true rfl) (Nat.le_of_ble_eq_true rfl) (by omega) rfl rfl (t_X8_behind (d := 0) (by omega) x2 s.2 M _ rfl) ?_
      refine r_ishl (q := 33) dX5_image_32 rfl ?_
      refine r_ior (q := 34) dX5_image_33 rfl ?_
      refine r_istore_n (q := 35) (L' := [some (.inr 7), some (.inl x1), some (.inl x2), some (.inl (s.1 ||| ((1 : Int32) <<< ((X8_behind x2 s.2 M) &&& 31)))), some (.inl s.2)]) dX5_image_34 (by decide) rfl rfl ?_
      refine r_iinc (v := 1) (q := 38) (L' := [some (.inr 7), some (.inl x1), some (.inl x2), some (.inl (s.1 ||| ((1 : Int32) <<< ((X8_behind x2 s.2 M) &&& 31)))), some (.inl (s.2 + 1))]) dX5_image_35 (by decide) (by decide) rfl rfl rfl ?_
      refine r_goto 5 dX5_image_38 (by decide) ?_
      cases h
      have hk := kb _ rfl
      exact hk
noncomputable def X5_image (x1 : Int32) (x2 : Int32) (M : mm_M) : Option Int32 := (mm_loop (X5_image_l5 x1 x2 M) mm_fuel (0, 0))
set_option maxRecDepth 100000 in
set_option maxHeartbeats 400000 in
theorem t_X5_image {d : Nat} (hd : 1 ≤ d) (x1 : Int32) (x2 : Int32) (M : mm_M) (res : Int32) (h : X5_image x1 x2 M = some res) : mm_Meth jX5_image d 0 0 [(.inr 7), (.inl x1), (.inl x2)] S_c M (mm_Zi res S_c M) := by
  refine r_meth (L := [some (.inr 7), some (.inl x1), some (.inl x2), none, none]) rfl (fun D => ?_)
  unfold X5_image at h
  refine r_iconst (v := 0) (q := 1) dX5_image_0 (by decide) rfl ?_
  refine r_istore_n (q := 2) (L' := [some (.inr 7), some (.inl x1), some (.inl x2), some (.inl 0), none]) dX5_image_1 (by decide) rfl rfl ?_
  refine r_iconst (v := 0) (q := 3) dX5_image_2 (by decide) rfl ?_
  refine r_istore (q := 5) (L' := [some (.inr 7), some (.inl x1), some (.inl x2), some (.inl 0), some (.inl 0)]) dX5_image_3 (by decide) rfl rfl ?_
  exact t_X5_image_l5 hd x1 x2 M mm_fuel (0, 0) _ h mm_Zi_rfl
noncomputable def X5_meet_j128l99 (x2 : Int32) (x3 : Int32) (x4 : Int32) (x5 : Int32) (z0 : Int32) (M : mm_M) : Option ((Int32 × mm_M) ⊕ mm_M) := (X5_image x4 x5 M).bind fun y13 => if mm_in x4 1024 = true then (X5_enter y13 ((M 38 (Int32.toNatClampNeg x4)) + 1) z0 M).bind fun y16 => some (.inl ((x5 + 1), y16)) else none
set_option maxRecDepth 100000 in
set_option maxHeartbeats 400000 in
theorem t_X5_meet_j128l99 {D : mm_D} {d : Nat} (hd : 2 ≤ d) {Z : Option Int32 → List mm_C → mm_M → Prop} (x2 : Int32) (x3 : Int32) (x4 : Int32) (x5 : Int32) (z0 : Int32) (M : mm_M) (o : (Int32 × mm_M) ⊕ mm_M) (h : X5_meet_j128l99 x2 x3 x4 x5 z0 M = some o) (kb : ∀ s', o = .inl s' → mm_Go jX5_meet D d 0 0 99 [some (.inr 36), some (.inr 7), some (.inl x2), some (.inl x3), some (.inl x4), some (.inl s'.1), none] [] S_c s'.2 Z) (ke : ∀ r, o = .inr r → mm_Go jX5_meet D d 0 0 159 [some (.inr 36), some (.inr 7), some (.inl x2), some (.inl x3), none, none, none] [] S_c r Z) : mm_Go jX5_meet D d 0 0 128 [some (.inr 36), some (.inr 7), some (.inl x2), some (.inl x3), some (.inl x4), some (.inl x5), none] [(.inl z0)] S_c M Z := by
  unfold X5_meet_j128l99 at h
  refine r_istore (q := 130) (L' := [some (.inr 36), some (.inr 7), some (.inl x2), some (.inl x3), some (.inl x4), some (.inl x5), some (.inl z0)]) dX5_meet_128 (by decide) rfl rfl ?_
  refine r_aload_n (q := 131) dX5_meet_130 rfl rfl ?_
  refine r_aload_n (q := 132) dX5_meet_131 rfl rfl ?_
  refine r_iload (q := 134) dX5_meet_132 rfl rfl ?_
  refine r_iload (q := 136) dX5_meet_134 rfl rfl ?_
  obtain ⟨y13, e12, h⟩ := Option.bind_eq_some_iff.mp h
  refine r_callS_i (av := [(.inr 7), (.inl x4), (.inl x5)]) (st := [(.inr 36)]) (q := 139) (d1 := 1) kc_X5_77 dX5_meet_136 rfl rfl (Nat.le_of_ble_eq_true rfl) (Nat.le_of_ble_eq_true rfl) (by omega) rfl rfl (t_X5_image (d := 1) (by omega) x4 x5 M _ e12) ?_
  refine r_aload_n (q := 140) dX5_meet_139 rfl rfl ?_
  refine r_getr (b := 38) (q := 143) lk_X5_15 dX5_meet_140 sc_c_36 rfl rfl ?_
  refine r_iload (q := 145) dX5_meet_143 rfl rfl ?_
  obtain ⟨g14, h⟩ := mm_guard h
  refine r_iald (v := (M 38 (Int32.toNatClampNeg x4))) (q := 146) dX5_meet_145 sc_c_38 (mm_vp g14) rfl rfl ?_
  refine r_iconst (v := 1) (q := 147) dX5_meet_146 (by decide) rfl ?_
  refine r_iadd (q := 148) dX5_meet_147 rfl ?_
  refine r_iload (q := 150) dX5_meet_148 rfl rfl ?_
  obtain ⟨y16, e15, h⟩ := Option.bind_eq_some_iff.mp h
  refine r_callV_v (av := [(.inl y13), (.inl ((M 38 (Int32.toNatClampNeg x4)) + 1)), (.inl z0)]) (st := []) (q := 153) (d1 := 0) kc_X5_65 sc_c_36 dX5_meet_150 rfl rfl (Nat.le_of_ble_eq_true rfl) (Nat.le_of_ble_eq_true rfl) (by omega) rfl rfl (t_X5_enter (d := 0) (by omega) y13 ((M 38 (Int32.toNatClampNeg x4)) + 1) z0 M _ e15) ?_
  refine r_iinc (v := 1) (q := 156) (L' := [some (.inr 36), some (.inr 7), some (.inl x2), some (.inl x3), some (.inl x4), some (.inl (x5 + 1)), some (.inl z0)]) dX5_meet_153 (by decide) (by decide) rfl rfl rfl ?_
  refine r_goto 99 dX5_meet_156 (by decide) ?_
  refine r_forget (L' := [some (.inr 36), some (.inr 7), some (.inl x2), some (.inl x3), some (.inl x4), some (.inl (x5 + 1)), none]) [true, true, true, true, true, true, false] rfl ?_
  cases h
  have hk := kb _ rfl
  exact hk
noncomputable def X5_meet_l99 (x2 : Int32) (x3 : Int32) (x4 : Int32) (s : (Int32 × mm_M)) : Option ((Int32 × mm_M) ⊕ mm_M) := if 8 ≤ s.1 then some (.inr s.2) else if mm_in x4 1024 = true then if (s.2 38 (Int32.toNatClampNeg x4)) = 0 then X5_meet_j128l99 x2 x3 x4 s.1 s.1 s.2 else if mm_in x4 1024 = true then X5_meet_j128l99 x2 x3 x4 s.1 (s.2 39 (Int32.toNatClampNeg x4)) s.2 else none else none
set_option maxRecDepth 100000 in
set_option maxHeartbeats 400000 in
theorem t_X5_meet_l99 {D : mm_D} {d : Nat} (hd : 2 ≤ d) {Z : Option Int32 → List mm_C → mm_M → Prop} (x2 : Int32) (x3 : Int32) (x4 : Int32) (n : Nat) (s : (Int32 × mm_M)) (r : mm_M) (h : mm_loop (X5_meet_l99 x2 x3 x4) n s = some r) (hx : mm_Go jX5_meet D d 0 0 159 [some (.inr 36), some (.inr 7), some (.inl x2), some (.inl x3), none, none, none] [] S_c r Z) : mm_Go jX5_meet D d 0 0 99 [some (.inr 36), some (.inr 7), some (.inl x2), some (.inl x3), some (.inl x4), some (.inl s.1), none] [] S_c s.2 Z := by
  refine mm_loop_go (step := X5_meet_l99 x2 x3 x4) (Hd := fun (s : (Int32 × mm_M)) => mm_Go jX5_meet D d 0 0 99 [some (.inr 36), some (.inr 7), some (.inl x2), some (.inl x3), some (.inl x4), some (.inl s.1), none] [] S_c s.2 Z) (Ex := fun (r : mm_M) => mm_Go jX5_meet D d 0 0 159 [some (.inr 36), some (.inr 7), some (.inl x2), some (.inl x3), none, none, none] [] S_c r Z) ?_ n s r h hx
  intro s o h kb ke
  show mm_Go jX5_meet D d 0 0 99 [some (.inr 36), some (.inr 7), some (.inl x2), some (.inl x3), some (.inl x4), some (.inl s.1), none] [] S_c s.2 Z
  unfold X5_meet_l99 at h
  refine r_iload (q := 101) dX5_meet_99 rfl rfl ?_
  refine r_bipush (v := 8) (q := 103) dX5_meet_101 (by decide) rfl ?_
  refine r_icmp_ge 159 (q := 106) dX5_meet_103 (by decide) rfl (fun c9 => ?_) (fun c9 => ?_)
  · rw [if_pos c9] at h
    refine r_forget (L' := [some (.inr 36), some (.inr 7), some (.inl x2), some (.inl x3), none, none, none]) [true, true, true, true, false, false, false] rfl ?_
    cases h
    have hk := ke _ rfl
    exact hk
  · rw [if_neg c9] at h
    refine r_aload_n (q := 107) dX5_meet_106 rfl rfl ?_
    refine r_getr (b := 38) (q := 110) lk_X5_15 dX5_meet_107 sc_c_36 rfl rfl ?_
    refine r_iload (q := 112) dX5_meet_110 rfl rfl ?_
    obtain ⟨g10, h⟩ := mm_guard h
    refine r_iald (v := (s.2 38 (Int32.toNatClampNeg x4))) (q := 113) dX5_meet_112 sc_c_38 (mm_vp g10) rfl rfl ?_
    refine r_if_ne 121 (q := 116) dX5_meet_113 (by decide) rfl (fun c11 => ?_) (fun c11 => ?_)
    · rw [if_neg c11] at h
      refine r_aload_n (q := 122) dX5_meet_121 rfl rfl ?_
      refine r_getr (b := 39) (q := 125) lk_X5_18 dX5_meet_122 sc_c_36 rfl rfl ?_
      refine r_iload (q := 127) dX5_meet_125 rfl rfl ?_
      obtain ⟨g17, h⟩ := mm_guard h
      refine r_iald (v := (s.2 39 (Int32.toNatClampNeg x4))) (q := 128) dX5_meet_127 sc_c_39 (mm_vp g17) rfl rfl ?_
      exact t_X5_meet_j128l99 hd x2 x3 x4 s.1 (s.2 39 (Int32.toNatClampNeg x4)) s.2 _ h kb ke
    · rw [if_pos c11] at h
      refine r_iload (q := 118) dX5_meet_116 rfl rfl ?_
      refine r_goto 128 dX5_meet_118 (by decide) ?_
      exact t_X5_meet_j128l99 hd x2 x3 x4 s.1 s.1 s.2 _ h kb ke
noncomputable def X5_meet_l25 (x2 : Int32) (s : (Int32 × mm_M)) : Option ((Int32 × mm_M) ⊕ ((Int32 × mm_M) ⊕ (Int32 × mm_M))) := if (s.2 36 6) ≤ s.1 then some (.inr (.inl ((-2), s.2))) else if 1024 ≤ s.1 then some (.inr (.inl ((-2), s.2))) else if mm_in s.1 1024 = true then if (J6_bitCount_0f7a4 ((s.2 37 (Int32.toNatClampNeg s.1)) &&& 1023)) = 1 then some (.inr (.inr (((s.2 37 (Int32.toNatClampNeg s.1)) &&& 1023), s.2))) else (mm_loop (X5_meet_l99 x2 s.1 ((s.2 37 (Int32.toNatClampNeg s.1)) &&& 1023)) mm_fuel (0, s.2)).bind fun y18 => some (.inl ((s.1 + 1), y18)) else none
set_option maxRecDepth 100000 in
set_option maxHeartbeats 400000 in
theorem t_X5_meet_l25 {D : mm_D} {d : Nat} (hd : 2 ≤ d) {Z : Option Int32 → List mm_C → mm_M → Prop} (x2 : Int32) (n : Nat) (s : (Int32 × mm_M)) (r : ((Int32 × mm_M) ⊕ (Int32 × mm_M))) (h : mm_loop (X5_meet_l25 x2) n s = some r) (hx : (Sum.elim (fun (y : (Int32 × mm_M)) => Z (some y.1) S_c y.2) (fun (s : (Int32 × mm_M)) => mm_Go jX5_meet D d 0 0 61 [some (.inr 36), none, some (.inl x2), none, some (.inl s.1), none, none] [] S_c s.2 Z) r)) : mm_Go jX5_meet D d 0 0 25 [some (.inr 36), some (.inr 7), some (.inl x2), some (.inl s.1), none, none, none] [] S_c s.2 Z := by
  refine mm_loop_go (step := X5_meet_l25 x2) (Hd := fun (s : (Int32 × mm_M)) => mm_Go jX5_meet D d 0 0 25 [some (.inr 36), some (.inr 7), some (.inl x2), some (.inl s.1), none, none, none] [] S_c s.2 Z) (Ex := fun (r : ((Int32 × mm_M) ⊕ (Int32 × mm_M))) => (Sum.elim (fun (y : (Int32 × mm_M)) => Z (some y.1) S_c y.2) (fun (s : (Int32 × mm_M)) => mm_Go jX5_meet D d 0 0 61 [some (.inr 36), none, some (.inl x2), none, some (.inl s.1), none, none] [] S_c s.2 Z) r)) ?_ n s r h hx
  intro s o h kb ke
  show mm_Go jX5_meet D d 0 0 25 [some (.inr 36), some (.inr 7), some (.inl x2), some (.inl s.1), none, none, none] [] S_c s.2 Z
  unfold X5_meet_l25 at h
  refine r_iload_n (q := 26) dX5_meet_25 rfl rfl ?_
  refine r_aload_n (q := 27) dX5_meet_26 rfl rfl ?_
  refine r_geti (v := (s.2 36 6)) (q := 30) lk_X5_57 dX5_meet_27 sc_c_36 rfl rfl rfl ?_
  refine r_icmp_ge 165 (q := 33) dX5_meet_30 (by decide) rfl (fun c5 => ?_) (fun c5 => ?_)
  · rw [if_pos c5] at h
    refine r_bipush (v := (-2)) (q := 167) dX5_meet_165 (by decide) rfl ?_
    cases h
    have hk := ke _ rfl
    exact r_ret dX5_meet_167 rfl hk
  · rw [if_neg c5] at h
    refine r_iload_n (q := 34) dX5_meet_33 rfl rfl ?_
    refine r_sipush (v := 1024) (q := 37) dX5_meet_34 (by decide) rfl ?_
    refine r_icmp_ge 165 (q := 40) dX5_meet_37 (by decide) rfl (fun c6 => ?_) (fun c6 => ?_)
    · rw [if_pos c6] at h
      refine r_bipush (v := (-2)) (q := 167) dX5_meet_165 (by decide) rfl ?_
      cases h
      have hk := ke _ rfl
      exact r_ret dX5_meet_167 rfl hk
    · rw [if_neg c6] at h
      refine r_aload_n (q := 41) dX5_meet_40 rfl rfl ?_
      refine r_getr (b := 37) (q := 44) lk_X5_9 dX5_meet_41 sc_c_36 rfl rfl ?_
      refine r_iload_n (q := 45) dX5_meet_44 rfl rfl ?_
      obtain ⟨g7, h⟩ := mm_guard h
      refine r_iald (v := (s.2 37 (Int32.toNatClampNeg s.1))) (q := 46) dX5_meet_45 sc_c_37 (mm_vp g7) rfl rfl ?_
      refine r_sipush (v := 1023) (q := 49) dX5_meet_46 (by decide) rfl ?_
      refine r_iand (q := 50) dX5_meet_49 rfl ?_
      refine r_istore (q := 52) (L' := [some (.inr 36), some (.inr 7), some (.inl x2), some (.inl s.1), some (.inl ((s.2 37 (Int32.toNatClampNeg s.1)) &&& 1023)), none, none]) dX5_meet_50 (by decide) rfl rfl ?_
      refine r_iload (q := 54) dX5_meet_52 rfl rfl ?_
      refine r_callS_i (av := [(.inl ((s.2 37 (Int32.toNatClampNeg s.1)) &&& 1023))]) (st := []) (q := 57) (d1 := 0) kc_X5_69 dX5_meet_54 rfl rfl (Nat.le_of_ble_eq_true rfl) (Nat.le_of_ble_eq_true rfl) (by omega) rfl rfl (t_J6_bitCount_0f7a4 (d := 0) (by omega) ((s.2 37 (Int32.toNatClampNeg s.1)) &&& 1023) s.2 _ rfl) ?_
      refine r_iconst (v := 1) (q := 58) dX5_meet_57 (by decide) rfl ?_
      refine r_icmp_ne 96 (q := 61) dX5_meet_58 (by decide) rfl (fun c8 => ?_) (fun c8 => ?_)
      · rw [if_neg c8] at h
        refine r_iconst (v := 0) (q := 97) dX5_meet_96 (by decide) rfl ?_
        refine r_istore (q := 99) (L' := [some (.inr 36), some (.inr 7), some (.inl x2), some (.inl s.1), some (.inl ((s.2 37 (Int32.toNatClampNeg s.1)) &&& 1023)), some (.inl 0), none]) dX5_meet_97 (by decide) rfl rfl ?_
        obtain ⟨y18, e19, h⟩ := Option.bind_eq_some_iff.mp h
        refine t_X5_meet_l99 hd x2 s.1 ((s.2 37 (Int32.toNatClampNeg s.1)) &&& 1023) mm_fuel (0, s.2) _ e19 ?_
        show mm_Go jX5_meet _ _ _ _ 159 [some (.inr 36), some (.inr 7), some (.inl x2), some (.inl s.1), none, none, none] [] S_c y18 _
        refine r_iinc (v := 1) (q := 162) (L' := [some (.inr 36), some (.inr 7), some (.inl x2), some (.inl (s.1 + 1)), none, none, none]) dX5_meet_159 (by decide) (by decide) rfl rfl rfl ?_
        refine r_goto 25 dX5_meet_162 (by decide) ?_
        cases h
        have hk := kb _ rfl
        exact hk
      · rw [if_pos c8] at h
        refine r_forget (L' := [some (.inr 36), none, some (.inl x2), none, some (.inl ((s.2 37 (Int32.toNatClampNeg s.1)) &&& 1023)), none, none]) [true, false, true, false, true, false, false] rfl ?_
        cases h
        have hk := ke _ rfl
        exact hk
noncomputable def X5_meet (x2 : Int32) (M : mm_M) : Option (Int32 × mm_M) := (J7_fill_53178 38 (-1) M).bind fun y2 => (X5_enter (X8_everyState 7 (mm_U y2 36 6 0)) 0 (-1) (mm_U y2 36 6 0)).bind fun y4 => (mm_loop (X5_meet_l25 x2) mm_fuel (0, y4)).bind fun y20 => (match y20 with | .inl y20r => some y20r | .inr y20s => if x2 = 0 then if mm_in y20s.1 1024 = true then some ((y20s.2 38 (Int32.toNatClampNeg y20s.1)), y20s.2) else none else if x2 = 1 then (X5_lowest y20s.1).bind fun y26 => some (y26, y20s.2) else if mm_in y20s.1 1024 = true then some ((y20s.2 39 (Int32.toNatClampNeg y20s.1)), y20s.2) else none)
set_option maxRecDepth 100000 in
set_option maxHeartbeats 400000 in
theorem t_X5_meet {d : Nat} (hd : 2 ≤ d) (x2 : Int32) (M : mm_M) (res : (Int32 × mm_M)) (h : X5_meet x2 M = some res) : mm_Meth jX5_meet d 0 0 [(.inr 36), (.inr 7), (.inl x2)] S_c M (mm_Zi res.1 S_c res.2) := by
  refine r_meth (L := [some (.inr 36), some (.inr 7), some (.inl x2), none, none, none, none]) rfl (fun D => ?_)
  unfold X5_meet at h
  refine r_aload_n (q := 1) dX5_meet_0 rfl rfl ?_
  refine r_getr (b := 38) (q := 4) lk_X5_15 dX5_meet_1 sc_c_36 rfl rfl ?_
  refine r_iconst (v := (-1)) (q := 5) dX5_meet_4 (by decide) rfl ?_
  obtain ⟨y2, e1, h⟩ := Option.bind_eq_some_iff.mp h
  refine r_callS_v (av := [(.inr 38), (.inl (-1))]) (st := []) (q := 8) (d1 := 0) kc_X5_51 dX5_meet_5 rfl rfl (Nat.le_of_ble_eq_true rfl) (Nat.le_of_ble_eq_true rfl) (by omega) rfl rfl (t_J7_fill_53178_38 (d := 0) (by omega) (-1) M _ e1) ?_
  refine r_aload_n (q := 9) dX5_meet_8 rfl rfl ?_
  refine r_iconst (v := 0) (q := 10) dX5_meet_9 (by decide) rfl ?_
  refine r_puti (q := 13) lk_X5_57 ft_3_6 dX5_meet_10 sc_c_36 rfl rfl ?_
  refine r_aload_n (q := 14) dX5_meet_13 rfl rfl ?_
  refine r_aload_n (q := 15) dX5_meet_14 rfl rfl ?_
  refine r_callV_i (av := []) (st := [(.inr 36)]) (q := 18) (d1 := 0) kc_X5_61 sc_c_7 dX5_meet_15 rfl rfl (Nat.le_of_ble_eq_true rfl) (Nat.le_of_ble_eq_true rfl) (by omega) rfl rfl (t_X8_everyState_7 (d := 0) (by omega) (mm_U y2 36 6 0) _ rfl) ?_
  refine r_iconst (v := 0) (q := 19) dX5_meet_18 (by decide) rfl ?_
  refine r_iconst (v := (-1)) (q := 20) dX5_meet_19 (by decide) rfl ?_
  obtain ⟨y4, e3, h⟩ := Option.bind_eq_some_iff.mp h
  refine r_callV_v (av := [(.inl (X8_everyState 7 (mm_U y2 36 6 0))), (.inl 0), (.inl (-1))]) (st := []) (q := 23) (d1 := 0) kc_X5_65 sc_c_36 dX5_meet_20 rfl rfl (Nat.le_of_ble_eq_true rfl) (Nat.le_of_ble_eq_true rfl) (by omega) rfl rfl (t_X5_enter (d := 0) (by omega) (X8_everyState 7 (mm_U y2 36 6 0)) 0 (-1) (mm_U y2 36 6 0) _ e3) ?_
  refine r_iconst (v := 0) (q := 24) dX5_meet_23 (by decide) rfl ?_
  refine r_istore_n (q := 25) (L' := [some (.inr 36), some (.inr 7), some (.inl x2), some (.inl 0), none, none, none]) dX5_meet_24 (by decide) rfl rfl ?_
  obtain ⟨y20, e21, h⟩ := Option.bind_eq_some_iff.mp h
  refine t_X5_meet_l25 hd x2 mm_fuel (0, y4) _ e21 ?_
  rcases y20 with y20r | y20s
  · dsimp only at h
    cases h
    exact mm_Zi_rfl
  · dsimp only at h
    show mm_Go jX5_meet _ _ _ _ 61 [some (.inr 36), none, some (.inl x2), none, some (.inl y20s.1), none, none] [] S_c y20s.2 _
    refine r_iload_n (q := 62) dX5_meet_61 rfl rfl ?_
    refine r_if_ne 75 (q := 65) dX5_meet_62 (by decide) rfl (fun c22 => ?_) (fun c22 => ?_)
    · rw [if_neg c22] at h
      refine r_iload_n (q := 76) dX5_meet_75 rfl rfl ?_
      refine r_iconst (v := 1) (q := 77) dX5_meet_76 (by decide) rfl ?_
      refine r_icmp_ne 88 (q := 80) dX5_meet_77 (by decide) rfl (fun c24 => ?_) (fun c24 => ?_)
      · rw [if_neg c24] at h
        refine r_aload_n (q := 89) dX5_meet_88 rfl rfl ?_
        refine r_getr (b := 39) (q := 92) lk_X5_18 dX5_meet_89 sc_c_36 rfl rfl ?_
        refine r_iload (q := 94) dX5_meet_92 rfl rfl ?_
        obtain ⟨g27, h⟩ := mm_guard h
        refine r_iald (v := (y20s.2 39 (Int32.toNatClampNeg y20s.1))) (q := 95) dX5_meet_94 sc_c_39 (mm_vp g27) rfl rfl ?_
        cases h
        exact r_ret dX5_meet_95 rfl mm_Zi_rfl
      · rw [if_pos c24] at h
        refine r_iload (q := 82) dX5_meet_80 rfl rfl ?_
        obtain ⟨y26, e25, h⟩ := Option.bind_eq_some_iff.mp h
        refine r_callS_i (av := [(.inl y20s.1)]) (st := []) (q := 85) (d1 := 0) kc_X5_74 dX5_meet_82 rfl rfl (Nat.le_of_ble_eq_true rfl) (Nat.le_of_ble_eq_true rfl) (by omega) rfl rfl (t_X5_lowest (d := 0) (by omega) y20s.1 y20s.2 _ e25) ?_
        refine r_goto 95 dX5_meet_85 (by decide) ?_
        cases h
        exact r_ret dX5_meet_95 rfl mm_Zi_rfl
    · rw [if_pos c22] at h
      refine r_aload_n (q := 66) dX5_meet_65 rfl rfl ?_
      refine r_getr (b := 38) (q := 69) lk_X5_15 dX5_meet_66 sc_c_36 rfl rfl ?_
      refine r_iload (q := 71) dX5_meet_69 rfl rfl ?_
      obtain ⟨g23, h⟩ := mm_guard h
      refine r_iald (v := (y20s.2 38 (Int32.toNatClampNeg y20s.1))) (q := 72) dX5_meet_71 sc_c_38 (mm_vp g23) rfl rfl ?_
      refine r_goto 95 dX5_meet_72 (by decide) ?_
      cases h
      exact r_ret dX5_meet_95 rfl mm_Zi_rfl
noncomputable def X11_known (x1 : Int32) (M : mm_M) : Option (Int32 × mm_M) := if x1 < 0 then some ((-1), M) else if 2 < x1 then some ((-1), M) else if (X8_isTold M) = true then (X5_meet x1 M).bind fun y5 => some (y5.1, y5.2) else some ((-1), M)
set_option maxRecDepth 100000 in
set_option maxHeartbeats 400000 in
theorem t_X11_known {d : Nat} (hd : 3 ≤ d) (x1 : Int32) (M : mm_M) (res : (Int32 × mm_M)) (h : X11_known x1 M = some res) : mm_Meth jX11_known d 0 0 [(.inr 0), (.inl x1)] S_c M (mm_Zi res.1 S_c res.2) := by
  refine r_meth (L := [some (.inr 0), some (.inl x1)]) rfl (fun D => ?_)
  unfold X11_known at h
  refine r_iload_n (q := 1) dX11_known_0 rfl rfl ?_
  refine r_if_lt 19 (q := 4) dX11_known_1 (by decide) rfl (fun c1 => ?_) (fun c1 => ?_)
  · rw [if_pos c1] at h
    refine r_iconst (v := (-1)) (q := 20) dX11_known_19 (by decide) rfl ?_
    cases h
    exact r_ret dX11_known_20 rfl mm_Zi_rfl
  · rw [if_neg c1] at h
    refine r_iload_n (q := 5) dX11_known_4 rfl rfl ?_
    refine r_iconst (v := 2) (q := 6) dX11_known_5 (by decide) rfl ?_
    refine r_icmp_gt 19 (q := 9) dX11_known_6 (by decide) rfl (fun c2 => ?_) (fun c2 => ?_)
    · rw [if_pos c2] at h
      refine r_iconst (v := (-1)) (q := 20) dX11_known_19 (by decide) rfl ?_
      cases h
      exact r_ret dX11_known_20 rfl mm_Zi_rfl
    · rw [if_neg c2] at h
      refine r_aload_n (q := 10) dX11_known_9 rfl rfl ?_
      refine r_getr (b := 7) (q := 13) lk_X11_42 dX11_known_10 sc_c_0 rfl rfl ?_
      refine r_callV_i (av := []) (st := []) (q := 16) (d1 := 0) kc_X11_144 sc_c_7 dX11_known_13 rfl rfl (Nat.le_of_ble_eq_true rfl) (Nat.le_of_ble_eq_true rfl) (by omega) rfl rfl (t_X8_isTold (d := 0) (by omega) M _ rfl) ?_
      refine r_if_ne 21 (q := 19) dX11_known_16 (by decide) rfl (fun c3 => ?_) (fun c3 => ?_)
      · rw [if_pos (mm_b1 c3)] at h
        refine r_aload_n (q := 22) dX11_known_21 rfl rfl ?_
        refine r_getr (b := 36) (q := 25) lk_X11_83 dX11_known_22 sc_c_0 rfl rfl ?_
        refine r_aload_n (q := 26) dX11_known_25 rfl rfl ?_
        refine r_getr (b := 7) (q := 29) lk_X11_42 dX11_known_26 sc_c_0 rfl rfl ?_
        refine r_iload_n (q := 30) dX11_known_29 rfl rfl ?_
        obtain ⟨y5, e4, h⟩ := Option.bind_eq_some_iff.mp h
        refine r_callV_i (av := [(.inr 7), (.inl x1)]) (st := []) (q := 33) (d1 := 2) kc_X11_236 sc_c_36 dX11_known_30 rfl rfl (Nat.le_of_ble_eq_true rfl) (Nat.le_of_ble_eq_true rfl) (by omega) rfl rfl (t_X5_meet (d := 2) (by omega) x1 M _ e4) ?_
        cases h
        exact r_ret dX11_known_33 rfl mm_Zi_rfl
      · rw [if_neg (mm_b0 c3)] at h
        refine r_iconst (v := (-1)) (q := 20) dX11_known_19 (by decide) rfl ?_
        cases h
        exact r_ret dX11_known_20 rfl mm_Zi_rfl
