noncomputable def X1_goThrough_j57l13 (a2 : Nat) (x1 : Int32) (x6 : Int32) (x7 : Int32) (z0 : Int32) (M : mm_M) : Option ((Int32 × mm_M) ⊕ mm_M) := if (X11_isQuestion z0) = true then if mm_in z0 8 = true then mm_let (X6_ask a2 z0 (mm_U M a2 3 ((M a2 3) - (M 3 (Int32.toNatClampNeg z0))))) fun y11 => mm_let (X1_setLetters a2 x7 (mm_U (mm_U y11 29 1 ((y11 29 1) + 1)) 29 2 ((y11 29 2) + (y11 a2 1)))) fun y13 => if mm_in z0 8 = true then mm_let (X1_setQuestion z0 (y13 3 (Int32.toNatClampNeg z0)) y13) fun y16 => (X2_firstNumber 103 99 y16).bind fun y18 => some (.inl ((x6 + 1), (mm_U (mm_U y18.2 a2 3 (if ((y18.2 a2 3) + y18.1) < 9999 then ((y18.2 a2 3) + y18.1) else 9999)) a2 6 ((y18.2 a2 6) + 1)))) else none else none else some (.inl ((x6 + 1), (mm_U M a2 6 ((M a2 6) + 1))))
set_option maxRecDepth 100000 in
set_option maxHeartbeats 400000 in
theorem t_X1_goThrough_j57l13_29_4_7_13_3 {D : mm_D} {d : Nat} (hd : 5 ≤ d) {Z : Option Int32 → List mm_C → mm_M → Prop} (x1 : Int32) (x6 : Int32) (x7 : Int32) (z0 : Int32) (M : mm_M) (o : (Int32 × mm_M) ⊕ mm_M) (h : X1_goThrough_j57l13 4 x1 x6 x7 z0 M = some o) (kb : ∀ s', o = .inl s' → mm_Go jX1_goThrough D d 0 0 13 [some (.inr 29), some (.inl x1), some (.inr 4), some (.inr 7), some (.inr 13), some (.inr 3), some (.inl s'.1), none, none, none] [] S_c s'.2 Z) (ke : ∀ r, o = .inr r → Z none S_c r) : mm_Go jX1_goThrough D d 0 0 57 [some (.inr 29), some (.inl x1), some (.inr 4), some (.inr 7), some (.inr 13), some (.inr 3), some (.inl x6), some (.inl x7), none, none] [(.inl z0)] S_c M Z := by
  unfold X1_goThrough_j57l13 at h
  refine r_istore (q := 59) (L' := [some (.inr 29), some (.inl x1), some (.inr 4), some (.inr 7), some (.inr 13), some (.inr 3), some (.inl x6), some (.inl x7), some (.inl z0), none]) dX1_goThrough_57 (by decide) rfl rfl ?_
  refine r_iload (q := 61) dX1_goThrough_59 rfl rfl ?_
  refine r_callS_i (av := [(.inl z0)]) (st := []) (q := 64) (d1 := 0) kc_X1_41 dX1_goThrough_61 rfl rfl (Nat.le_of_ble_eq_true rfl) (Nat.le_of_ble_eq_true rfl) (by omega) rfl rfl (t_X11_isQuestion (d := 0) (by omega) z0 M _ rfl) ?_
  refine r_if_eq 161 (q := 67) dX1_goThrough_64 (by decide) rfl (fun c8 => ?_) (fun c8 => ?_)
  · rw [if_neg (mm_b0 c8)] at h
    refine r_aload_n (q := 162) dX1_goThrough_161 rfl rfl ?_
    refine r_dup (q := 163) dX1_goThrough_162 rfl ?_
    refine r_geti (v := (M 4 6)) (q := 166) lk_X1_22 dX1_goThrough_163 rfl rfl rfl rfl ?_
    refine r_iconst (v := 1) (q := 167) dX1_goThrough_166 (by decide) rfl ?_
    refine r_iadd (q := 168) dX1_goThrough_167 rfl ?_
    refine r_puti (q := 171) lk_X1_22 ft_4_6 dX1_goThrough_168 rfl rfl rfl ?_
    refine r_iinc (v := 1) (q := 174) (L' := [some (.inr 29), some (.inl x1), some (.inr 4), some (.inr 7), some (.inr 13), some (.inr 3), some (.inl (x6 + 1)), some (.inl x7), some (.inl z0), none]) dX1_goThrough_171 (by decide) (by decide) rfl rfl rfl ?_
    refine r_goto 13 dX1_goThrough_174 (by decide) ?_
    refine r_forget (L' := [some (.inr 29), some (.inl x1), some (.inr 4), some (.inr 7), some (.inr 13), some (.inr 3), some (.inl (x6 + 1)), none, none, none]) [true, true, true, true, true, true, true, false, false, false] rfl ?_
    cases h
    have hk := kb _ rfl
    exact hk
  · rw [if_pos (mm_b1 c8)] at h
    refine r_aload_n (q := 68) dX1_goThrough_67 rfl rfl ?_
    refine r_dup (q := 69) dX1_goThrough_68 rfl ?_
    refine r_geti (v := (M 4 3)) (q := 72) lk_X1_45 dX1_goThrough_69 rfl rfl rfl rfl ?_
    refine r_aload (q := 74) dX1_goThrough_72 rfl rfl ?_
    refine r_iload (q := 76) dX1_goThrough_74 rfl rfl ?_
    obtain ⟨g9, h⟩ := mm_guard h
    refine r_iald (v := (M 3 (Int32.toNatClampNeg z0))) (q := 77) dX1_goThrough_76 sc_c_3 (mm_vp g9) rfl rfl ?_
    refine r_isub (q := 78) dX1_goThrough_77 rfl ?_
    refine r_puti (q := 81) lk_X1_45 ft_4_3 dX1_goThrough_78 rfl rfl rfl ?_
    refine r_aload_n (q := 82) dX1_goThrough_81 rfl rfl ?_
    refine r_aload_n (q := 83) dX1_goThrough_82 rfl rfl ?_
    refine r_iload (q := 85) dX1_goThrough_83 rfl rfl ?_
    obtain ⟨y11, e10, h⟩ := mm_let_elim h
    refine r_callV_v (av := [(.inr 7), (.inl z0)]) (st := []) (q := 88) (d1 := 1) kc_X1_48 rfl dX1_goThrough_85 rfl rfl (Nat.le_of_ble_eq_true rfl) (Nat.le_of_ble_eq_true rfl) (by omega) rfl rfl (t_X6_ask_4_7 (d := 1) (by omega) z0 (mm_U M 4 3 ((M 4 3) - (M 3 (Int32.toNatClampNeg z0)))) _ e10) ?_
    refine r_aload_n (q := 89) dX1_goThrough_88 rfl rfl ?_
    refine r_dup (q := 90) dX1_goThrough_89 rfl ?_
    refine r_geti (v := (y11 29 1)) (q := 93) lk_X1_15 dX1_goThrough_90 sc_c_29 rfl rfl rfl ?_
    refine r_iconst (v := 1) (q := 94) dX1_goThrough_93 (by decide) rfl ?_
    refine r_iadd (q := 95) dX1_goThrough_94 rfl ?_
    refine r_puti (q := 98) lk_X1_15 ft_0_1 dX1_goThrough_95 sc_c_29 rfl rfl ?_
    refine r_aload_n (q := 99) dX1_goThrough_98 rfl rfl ?_
    refine r_dup (q := 100) dX1_goThrough_99 rfl ?_
    refine r_geti (v := (y11 29 2)) (q := 103) lk_X1_19 dX1_goThrough_100 sc_c_29 rfl rfl rfl ?_
    refine r_aload_n (q := 104) dX1_goThrough_103 rfl rfl ?_
    refine r_geti (v := (y11 4 1)) (q := 107) lk_X1_52 dX1_goThrough_104 rfl rfl rfl rfl ?_
    refine r_iadd (q := 108) dX1_goThrough_107 rfl ?_
    refine r_puti (q := 111) lk_X1_19 ft_0_2 dX1_goThrough_108 sc_c_29 rfl rfl ?_
    refine r_aload_n (q := 112) dX1_goThrough_111 rfl rfl ?_
    refine r_aload_n (q := 113) dX1_goThrough_112 rfl rfl ?_
    refine r_iload (q := 115) dX1_goThrough_113 rfl rfl ?_
    obtain ⟨y13, e12, h⟩ := mm_let_elim h
    refine r_callV_v (av := [(.inr 4), (.inl x7)]) (st := []) (q := 118) (d1 := 0) kc_X1_55 sc_c_29 dX1_goThrough_115 rfl rfl (Nat.le_of_ble_eq_true rfl) (Nat.le_of_ble_eq_true rfl) (by omega) rfl rfl (t_X1_setLetters_29_4 (d := 0) (by omega) x7 (mm_U (mm_U y11 29 1 ((y11 29 1) + 1)) 29 2 ((y11 29 2) + (y11 4 1))) _ e12) ?_
    refine r_aload_n (q := 119) dX1_goThrough_118 rfl rfl ?_
    refine r_iload (q := 121) dX1_goThrough_119 rfl rfl ?_
    refine r_aload (q := 123) dX1_goThrough_121 rfl rfl ?_
    refine r_iload (q := 125) dX1_goThrough_123 rfl rfl ?_
    obtain ⟨g14, h⟩ := mm_guard h
    refine r_iald (v := (y13 3 (Int32.toNatClampNeg z0))) (q := 126) dX1_goThrough_125 sc_c_3 (mm_vp g14) rfl rfl ?_
    obtain ⟨y16, e15, h⟩ := mm_let_elim h
    refine r_callV_v (av := [(.inl z0), (.inl (y13 3 (Int32.toNatClampNeg z0)))]) (st := []) (q := 129) (d1 := 0) kc_X1_59 sc_c_29 dX1_goThrough_126 rfl rfl (Nat.le_of_ble_eq_true rfl) (Nat.le_of_ble_eq_true rfl) (by omega) rfl rfl (t_X1_setQuestion (d := 0) (by omega) z0 (y13 3 (Int32.toNatClampNeg z0)) y13 _ e15) ?_
    refine r_aload (q := 131) dX1_goThrough_129 rfl rfl ?_
    refine r_bipush (v := 103) (q := 133) dX1_goThrough_131 (by decide) rfl ?_
    refine r_aload_n (q := 134) dX1_goThrough_133 rfl rfl ?_
    refine r_getr (b := 30) (q := 137) lk_X1_9 dX1_goThrough_134 sc_c_29 rfl rfl ?_
    refine r_bipush (v := 99) (q := 139) dX1_goThrough_137 (by decide) rfl ?_
    obtain ⟨y18, e17, h⟩ := Option.bind_eq_some_iff.mp h
    refine r_callV_i (av := [(.inl 103), (.inr 30), (.inl 99)]) (st := []) (q := 142) (d1 := 3) kc_X1_63 sc_c_13 dX1_goThrough_139 rfl rfl (Nat.le_of_ble_eq_true rfl) (Nat.le_of_ble_eq_true rfl) (by omega) rfl rfl (t_X2_firstNumber (d := 3) (by omega) 103 99 y16 _ e17) ?_
    refine r_istore (q := 144) (L' := [some (.inr 29), some (.inl x1), some (.inr 4), some (.inr 7), some (.inr 13), some (.inr 3), some (.inl x6), some (.inl x7), some (.inl z0), some (.inl y18.1)]) dX1_goThrough_142 (by decide) rfl rfl ?_
    refine r_aload_n (q := 145) dX1_goThrough_144 rfl rfl ?_
    refine r_sipush (v := 9999) (q := 148) dX1_goThrough_145 (by decide) rfl ?_
    refine r_aload_n (q := 149) dX1_goThrough_148 rfl rfl ?_
    refine r_geti (v := (y18.2 4 3)) (q := 152) lk_X1_45 dX1_goThrough_149 rfl rfl rfl rfl ?_
    refine r_iload (q := 154) dX1_goThrough_152 rfl rfl ?_
    refine r_iadd (q := 155) dX1_goThrough_154 rfl ?_
    refine r_mmin (q := 158) kc_X1_69 dX1_goThrough_155 (Nat.le_of_ble_eq_true rfl) rfl ?_
    refine r_puti (q := 161) lk_X1_45 ft_4_3 dX1_goThrough_158 rfl rfl rfl ?_
    refine r_aload_n (q := 162) dX1_goThrough_161 rfl rfl ?_
    refine r_dup (q := 163) dX1_goThrough_162 rfl ?_
    refine r_geti (v := (y18.2 4 6)) (q := 166) lk_X1_22 dX1_goThrough_163 rfl rfl rfl rfl ?_
    refine r_iconst (v := 1) (q := 167) dX1_goThrough_166 (by decide) rfl ?_
    refine r_iadd (q := 168) dX1_goThrough_167 rfl ?_
    refine r_puti (q := 171) lk_X1_22 ft_4_6 dX1_goThrough_168 rfl rfl rfl ?_
    refine r_iinc (v := 1) (q := 174) (L' := [some (.inr 29), some (.inl x1), some (.inr 4), some (.inr 7), some (.inr 13), some (.inr 3), some (.inl (x6 + 1)), some (.inl x7), some (.inl z0), some (.inl y18.1)]) dX1_goThrough_171 (by decide) (by decide) rfl rfl rfl ?_
    refine r_goto 13 dX1_goThrough_174 (by decide) ?_
    refine r_forget (L' := [some (.inr 29), some (.inl x1), some (.inr 4), some (.inr 7), some (.inr 13), some (.inr 3), some (.inl (x6 + 1)), none, none, none]) [true, true, true, true, true, true, true, false, false, false] rfl ?_
    cases h
    have hk := kb _ rfl
    exact hk
set_option maxRecDepth 100000 in
set_option maxHeartbeats 400000 in
theorem t_X1_goThrough_j57l13_29_6_7_13_3 {D : mm_D} {d : Nat} (hd : 5 ≤ d) {Z : Option Int32 → List mm_C → mm_M → Prop} (x1 : Int32) (x6 : Int32) (x7 : Int32) (z0 : Int32) (M : mm_M) (o : (Int32 × mm_M) ⊕ mm_M) (h : X1_goThrough_j57l13 6 x1 x6 x7 z0 M = some o) (kb : ∀ s', o = .inl s' → mm_Go jX1_goThrough D d 0 0 13 [some (.inr 29), some (.inl x1), some (.inr 6), some (.inr 7), some (.inr 13), some (.inr 3), some (.inl s'.1), none, none, none] [] S_c s'.2 Z) (ke : ∀ r, o = .inr r → Z none S_c r) : mm_Go jX1_goThrough D d 0 0 57 [some (.inr 29), some (.inl x1), some (.inr 6), some (.inr 7), some (.inr 13), some (.inr 3), some (.inl x6), some (.inl x7), none, none] [(.inl z0)] S_c M Z := by
  unfold X1_goThrough_j57l13 at h
  refine r_istore (q := 59) (L' := [some (.inr 29), some (.inl x1), some (.inr 6), some (.inr 7), some (.inr 13), some (.inr 3), some (.inl x6), some (.inl x7), some (.inl z0), none]) dX1_goThrough_57 (by decide) rfl rfl ?_
  refine r_iload (q := 61) dX1_goThrough_59 rfl rfl ?_
  refine r_callS_i (av := [(.inl z0)]) (st := []) (q := 64) (d1 := 0) kc_X1_41 dX1_goThrough_61 rfl rfl (Nat.le_of_ble_eq_true rfl) (Nat.le_of_ble_eq_true rfl) (by omega) rfl rfl (t_X11_isQuestion (d := 0) (by omega) z0 M _ rfl) ?_
  refine r_if_eq 161 (q := 67) dX1_goThrough_64 (by decide) rfl (fun c8 => ?_) (fun c8 => ?_)
  · rw [if_neg (mm_b0 c8)] at h
    refine r_aload_n (q := 162) dX1_goThrough_161 rfl rfl ?_
    refine r_dup (q := 163) dX1_goThrough_162 rfl ?_
    refine r_geti (v := (M 6 6)) (q := 166) lk_X1_22 dX1_goThrough_163 rfl rfl rfl rfl ?_
    refine r_iconst (v := 1) (q := 167) dX1_goThrough_166 (by decide) rfl ?_
    refine r_iadd (q := 168) dX1_goThrough_167 rfl ?_
    refine r_puti (q := 171) lk_X1_22 ft_4_6 dX1_goThrough_168 rfl rfl rfl ?_
    refine r_iinc (v := 1) (q := 174) (L' := [some (.inr 29), some (.inl x1), some (.inr 6), some (.inr 7), some (.inr 13), some (.inr 3), some (.inl (x6 + 1)), some (.inl x7), some (.inl z0), none]) dX1_goThrough_171 (by decide) (by decide) rfl rfl rfl ?_
    refine r_goto 13 dX1_goThrough_174 (by decide) ?_
    refine r_forget (L' := [some (.inr 29), some (.inl x1), some (.inr 6), some (.inr 7), some (.inr 13), some (.inr 3), some (.inl (x6 + 1)), none, none, none]) [true, true, true, true, true, true, true, false, false, false] rfl ?_
    cases h
    have hk := kb _ rfl
    exact hk
  · rw [if_pos (mm_b1 c8)] at h
    refine r_aload_n (q := 68) dX1_goThrough_67 rfl rfl ?_
    refine r_dup (q := 69) dX1_goThrough_68 rfl ?_
    refine r_geti (v := (M 6 3)) (q := 72) lk_X1_45 dX1_goThrough_69 rfl rfl rfl rfl ?_
    refine r_aload (q := 74) dX1_goThrough_72 rfl rfl ?_
    refine r_iload (q := 76) dX1_goThrough_74 rfl rfl ?_
    obtain ⟨g9, h⟩ := mm_guard h
    refine r_iald (v := (M 3 (Int32.toNatClampNeg z0))) (q := 77) dX1_goThrough_76 sc_c_3 (mm_vp g9) rfl rfl ?_
    refine r_isub (q := 78) dX1_goThrough_77 rfl ?_
    refine r_puti (q := 81) lk_X1_45 ft_4_3 dX1_goThrough_78 rfl rfl rfl ?_
    refine r_aload_n (q := 82) dX1_goThrough_81 rfl rfl ?_
    refine r_aload_n (q := 83) dX1_goThrough_82 rfl rfl ?_
    refine r_iload (q := 85) dX1_goThrough_83 rfl rfl ?_
    obtain ⟨y11, e10, h⟩ := mm_let_elim h
    refine r_callV_v (av := [(.inr 7), (.inl z0)]) (st := []) (q := 88) (d1 := 1) kc_X1_48 rfl dX1_goThrough_85 rfl rfl (Nat.le_of_ble_eq_true rfl) (Nat.le_of_ble_eq_true rfl) (by omega) rfl rfl (t_X6_ask_6_7 (d := 1) (by omega) z0 (mm_U M 6 3 ((M 6 3) - (M 3 (Int32.toNatClampNeg z0)))) _ e10) ?_
    refine r_aload_n (q := 89) dX1_goThrough_88 rfl rfl ?_
    refine r_dup (q := 90) dX1_goThrough_89 rfl ?_
    refine r_geti (v := (y11 29 1)) (q := 93) lk_X1_15 dX1_goThrough_90 sc_c_29 rfl rfl rfl ?_
    refine r_iconst (v := 1) (q := 94) dX1_goThrough_93 (by decide) rfl ?_
    refine r_iadd (q := 95) dX1_goThrough_94 rfl ?_
    refine r_puti (q := 98) lk_X1_15 ft_0_1 dX1_goThrough_95 sc_c_29 rfl rfl ?_
    refine r_aload_n (q := 99) dX1_goThrough_98 rfl rfl ?_
    refine r_dup (q := 100) dX1_goThrough_99 rfl ?_
    refine r_geti (v := (y11 29 2)) (q := 103) lk_X1_19 dX1_goThrough_100 sc_c_29 rfl rfl rfl ?_
    refine r_aload_n (q := 104) dX1_goThrough_103 rfl rfl ?_
    refine r_geti (v := (y11 6 1)) (q := 107) lk_X1_52 dX1_goThrough_104 rfl rfl rfl rfl ?_
    refine r_iadd (q := 108) dX1_goThrough_107 rfl ?_
    refine r_puti (q := 111) lk_X1_19 ft_0_2 dX1_goThrough_108 sc_c_29 rfl rfl ?_
    refine r_aload_n (q := 112) dX1_goThrough_111 rfl rfl ?_
    refine r_aload_n (q := 113) dX1_goThrough_112 rfl rfl ?_
    refine r_iload (q := 115) dX1_goThrough_113 rfl rfl ?_
    obtain ⟨y13, e12, h⟩ := mm_let_elim h
    refine r_callV_v (av := [(.inr 6), (.inl x7)]) (st := []) (q := 118) (d1 := 0) kc_X1_55 sc_c_29 dX1_goThrough_115 rfl rfl (Nat.le_of_ble_eq_true rfl) (Nat.le_of_ble_eq_true rfl) (by omega) rfl rfl (t_X1_setLetters_29_6 (d := 0) (by omega) x7 (mm_U (mm_U y11 29 1 ((y11 29 1) + 1)) 29 2 ((y11 29 2) + (y11 6 1))) _ e12) ?_
    refine r_aload_n (q := 119) dX1_goThrough_118 rfl rfl ?_
    refine r_iload (q := 121) dX1_goThrough_119 rfl rfl ?_
    refine r_aload (q := 123) dX1_goThrough_121 rfl rfl ?_
    refine r_iload (q := 125) dX1_goThrough_123 rfl rfl ?_
    obtain ⟨g14, h⟩ := mm_guard h
    refine r_iald (v := (y13 3 (Int32.toNatClampNeg z0))) (q := 126) dX1_goThrough_125 sc_c_3 (mm_vp g14) rfl rfl ?_
    obtain ⟨y16, e15, h⟩ := mm_let_elim h
    refine r_callV_v (av := [(.inl z0), (.inl (y13 3 (Int32.toNatClampNeg z0)))]) (st := []) (q := 129) (d1 := 0) kc_X1_59 sc_c_29 dX1_goThrough_126 rfl rfl (Nat.le_of_ble_eq_true rfl) (Nat.le_of_ble_eq_true rfl) (by omega) rfl rfl (t_X1_setQuestion (d := 0) (by omega) z0 (y13 3 (Int32.toNatClampNeg z0)) y13 _ e15) ?_
    refine r_aload (q := 131) dX1_goThrough_129 rfl rfl ?_
    refine r_bipush (v := 103) (q := 133) dX1_goThrough_131 (by decide) rfl ?_
    refine r_aload_n (q := 134) dX1_goThrough_133 rfl rfl ?_
    refine r_getr (b := 30) (q := 137) lk_X1_9 dX1_goThrough_134 sc_c_29 rfl rfl ?_
    refine r_bipush (v := 99) (q := 139) dX1_goThrough_137 (by decide) rfl ?_
    obtain ⟨y18, e17, h⟩ := Option.bind_eq_some_iff.mp h
    refine r_callV_i (av := [(.inl 103), (.inr 30), (.inl 99)]) (st := []) (q := 142) (d1 := 3) kc_X1_63 sc_c_13 dX1_goThrough_139 rfl rfl (Nat.le_of_ble_eq_true rfl) (Nat.le_of_ble_eq_true rfl) (by omega) rfl rfl (t_X2_firstNumber (d := 3) (by omega) 103 99 y16 _ e17) ?_
    refine r_istore (q := 144) (L' := [some (.inr 29), some (.inl x1), some (.inr 6), some (.inr 7), some (.inr 13), some (.inr 3), some (.inl x6), some (.inl x7), some (.inl z0), some (.inl y18.1)]) dX1_goThrough_142 (by decide) rfl rfl ?_
    refine r_aload_n (q := 145) dX1_goThrough_144 rfl rfl ?_
    refine r_sipush (v := 9999) (q := 148) dX1_goThrough_145 (by decide) rfl ?_
    refine r_aload_n (q := 149) dX1_goThrough_148 rfl rfl ?_
    refine r_geti (v := (y18.2 6 3)) (q := 152) lk_X1_45 dX1_goThrough_149 rfl rfl rfl rfl ?_
    refine r_iload (q := 154) dX1_goThrough_152 rfl rfl ?_
    refine r_iadd (q := 155) dX1_goThrough_154 rfl ?_
    refine r_mmin (q := 158) kc_X1_69 dX1_goThrough_155 (Nat.le_of_ble_eq_true rfl) rfl ?_
    refine r_puti (q := 161) lk_X1_45 ft_4_3 dX1_goThrough_158 rfl rfl rfl ?_
    refine r_aload_n (q := 162) dX1_goThrough_161 rfl rfl ?_
    refine r_dup (q := 163) dX1_goThrough_162 rfl ?_
    refine r_geti (v := (y18.2 6 6)) (q := 166) lk_X1_22 dX1_goThrough_163 rfl rfl rfl rfl ?_
    refine r_iconst (v := 1) (q := 167) dX1_goThrough_166 (by decide) rfl ?_
    refine r_iadd (q := 168) dX1_goThrough_167 rfl ?_
    refine r_puti (q := 171) lk_X1_22 ft_4_6 dX1_goThrough_168 rfl rfl rfl ?_
    refine r_iinc (v := 1) (q := 174) (L' := [some (.inr 29), some (.inl x1), some (.inr 6), some (.inr 7), some (.inr 13), some (.inr 3), some (.inl (x6 + 1)), some (.inl x7), some (.inl z0), some (.inl y18.1)]) dX1_goThrough_171 (by decide) (by decide) rfl rfl rfl ?_
    refine r_goto 13 dX1_goThrough_174 (by decide) ?_
    refine r_forget (L' := [some (.inr 29), some (.inl x1), some (.inr 6), some (.inr 7), some (.inr 13), some (.inr 3), some (.inl (x6 + 1)), none, none, none]) [true, true, true, true, true, true, true, false, false, false] rfl ?_
    cases h
    have hk := kb _ rfl
    exact hk
noncomputable def X1_goThrough_l13 (a2 : Nat) (x1 : Int32) (s : (Int32 × mm_M)) : Option ((Int32 × mm_M) ⊕ mm_M) := if x1 ≤ s.1 then some (.inr s.2) else if 9999 ≤ (s.2 a2 6) then some (.inr s.2) else mm_let (X6_draw a2 s.2) fun y4 => if (X8_isTold y4.2) = true then (X1_mostLiked a2 y4.1 y4.2).bind fun y7 => X1_goThrough_j57l13 a2 x1 s.1 y4.1 y7.1 y7.2 else X1_goThrough_j57l13 a2 x1 s.1 y4.1 (-1) y4.2
set_option maxRecDepth 100000 in
set_option maxHeartbeats 400000 in
theorem t_X1_goThrough_l13_29_4_7_13_3 {D : mm_D} {d : Nat} (hd : 5 ≤ d) {Z : Option Int32 → List mm_C → mm_M → Prop} (x1 : Int32) (n : Nat) (s : (Int32 × mm_M)) (r : mm_M) (h : mm_loop (X1_goThrough_l13 4 x1) n s = some r) (hx : Z none S_c r) : mm_Go jX1_goThrough D d 0 0 13 [some (.inr 29), some (.inl x1), some (.inr 4), some (.inr 7), some (.inr 13), some (.inr 3), some (.inl s.1), none, none, none] [] S_c s.2 Z := by
  refine mm_loop_go (step := X1_goThrough_l13 4 x1) (Hd := fun (s : (Int32 × mm_M)) => mm_Go jX1_goThrough D d 0 0 13 [some (.inr 29), some (.inl x1), some (.inr 4), some (.inr 7), some (.inr 13), some (.inr 3), some (.inl s.1), none, none, none] [] S_c s.2 Z) (Ex := fun (r : mm_M) => Z none S_c r) ?_ n s r h hx
  intro s o h kb ke
  show mm_Go jX1_goThrough D d 0 0 13 [some (.inr 29), some (.inl x1), some (.inr 4), some (.inr 7), some (.inr 13), some (.inr 3), some (.inl s.1), none, none, none] [] S_c s.2 Z
  unfold X1_goThrough_l13 at h
  refine r_iload (q := 15) dX1_goThrough_13 rfl rfl ?_
  refine r_iload_n (q := 16) dX1_goThrough_15 rfl rfl ?_
  refine r_icmp_ge 177 (q := 19) dX1_goThrough_16 (by decide) rfl (fun c1 => ?_) (fun c1 => ?_)
  · rw [if_pos c1] at h
    cases h
    have hk := ke _ rfl
    exact r_retv dX1_goThrough_177 rfl hk
  · rw [if_neg c1] at h
    refine r_aload_n (q := 20) dX1_goThrough_19 rfl rfl ?_
    refine r_geti (v := (s.2 4 6)) (q := 23) lk_X1_22 dX1_goThrough_20 rfl rfl rfl rfl ?_
    refine r_sipush (v := 9999) (q := 26) dX1_goThrough_23 (by decide) rfl ?_
    refine r_icmp_ge 177 (q := 29) dX1_goThrough_26 (by decide) rfl (fun c2 => ?_) (fun c2 => ?_)
    · rw [if_pos c2] at h
      cases h
      have hk := ke _ rfl
      exact r_retv dX1_goThrough_177 rfl hk
    · rw [if_neg c2] at h
      refine r_aload_n (q := 30) dX1_goThrough_29 rfl rfl ?_
      obtain ⟨y4, e3, h⟩ := mm_let_elim h
      refine r_callV_i (av := []) (st := []) (q := 33) (d1 := 0) kc_X1_27 rfl dX1_goThrough_30 rfl rfl (Nat.le_of_ble_eq_true rfl) (Nat.le_of_ble_eq_true rfl) (by omega) rfl rfl (t_X6_draw_4 (d := 0) (by omega) s.2 _ e3) ?_
      refine r_istore (q := 35) (L' := [some (.inr 29), some (.inl x1), some (.inr 4), some (.inr 7), some (.inr 13), some (.inr 3), some (.inl s.1), some (.inl y4.1), none, none]) dX1_goThrough_33 (by decide) rfl rfl ?_
      refine r_aload_n (q := 36) dX1_goThrough_35 rfl rfl ?_
      refine r_callV_i (av := []) (st := []) (q := 39) (d1 := 0) kc_X1_31 sc_c_7 dX1_goThrough_36 rfl rfl (Nat.le_of_ble_eq_true rfl) (Nat.le_of_ble_eq_true rfl) (by omega) rfl rfl (t_X8_isTold (d := 0) (by omega) y4.2 _ rfl) ?_
      refine r_if_eq 56 (q := 42) dX1_goThrough_39 (by decide) rfl (fun c5 => ?_) (fun c5 => ?_)
      · rw [if_neg (mm_b0 c5)] at h
        refine r_iconst (v := (-1)) (q := 57) dX1_goThrough_56 (by decide) rfl ?_
        exact t_X1_goThrough_j57l13_29_4_7_13_3 hd x1 s.1 y4.1 (-1) y4.2 _ h kb ke
      · rw [if_pos (mm_b1 c5)] at h
        refine r_aload_n (q := 43) dX1_goThrough_42 rfl rfl ?_
        refine r_aload_n (q := 44) dX1_goThrough_43 rfl rfl ?_
        refine r_iload (q := 46) dX1_goThrough_44 rfl rfl ?_
        refine r_aload (q := 48) dX1_goThrough_46 rfl rfl ?_
        refine r_aload (q := 50) dX1_goThrough_48 rfl rfl ?_
        obtain ⟨y7, e6, h⟩ := Option.bind_eq_some_iff.mp h
        refine r_callV_i (av := [(.inr 4), (.inl y4.1), (.inr 13), (.inr 3)]) (st := []) (q := 53) (d1 := 4) kc_X1_37 sc_c_29 dX1_goThrough_50 rfl rfl (Nat.le_of_ble_eq_true rfl) (Nat.le_of_ble_eq_true rfl) (by omega) rfl rfl (t_X1_mostLiked_29_4_13_3 (d := 4) (by omega) y4.1 y4.2 _ e6) ?_
        refine r_goto 57 dX1_goThrough_53 (by decide) ?_
        exact t_X1_goThrough_j57l13_29_4_7_13_3 hd x1 s.1 y4.1 y7.1 y7.2 _ h kb ke
set_option maxRecDepth 100000 in
set_option maxHeartbeats 400000 in
theorem t_X1_goThrough_l13_29_6_7_13_3 {D : mm_D} {d : Nat} (hd : 5 ≤ d) {Z : Option Int32 → List mm_C → mm_M → Prop} (x1 : Int32) (n : Nat) (s : (Int32 × mm_M)) (r : mm_M) (h : mm_loop (X1_goThrough_l13 6 x1) n s = some r) (hx : Z none S_c r) : mm_Go jX1_goThrough D d 0 0 13 [some (.inr 29), some (.inl x1), some (.inr 6), some (.inr 7), some (.inr 13), some (.inr 3), some (.inl s.1), none, none, none] [] S_c s.2 Z := by
  refine mm_loop_go (step := X1_goThrough_l13 6 x1) (Hd := fun (s : (Int32 × mm_M)) => mm_Go jX1_goThrough D d 0 0 13 [some (.inr 29), some (.inl x1), some (.inr 6), some (.inr 7), some (.inr 13), some (.inr 3), some (.inl s.1), none, none, none] [] S_c s.2 Z) (Ex := fun (r : mm_M) => Z none S_c r) ?_ n s r h hx
  intro s o h kb ke
  show mm_Go jX1_goThrough D d 0 0 13 [some (.inr 29), some (.inl x1), some (.inr 6), some (.inr 7), some (.inr 13), some (.inr 3), some (.inl s.1), none, none, none] [] S_c s.2 Z
  unfold X1_goThrough_l13 at h
  refine r_iload (q := 15) dX1_goThrough_13 rfl rfl ?_
  refine r_iload_n (q := 16) dX1_goThrough_15 rfl rfl ?_
  refine r_icmp_ge 177 (q := 19) dX1_goThrough_16 (by decide) rfl (fun c1 => ?_) (fun c1 => ?_)
  · rw [if_pos c1] at h
    cases h
    have hk := ke _ rfl
    exact r_retv dX1_goThrough_177 rfl hk
  · rw [if_neg c1] at h
    refine r_aload_n (q := 20) dX1_goThrough_19 rfl rfl ?_
    refine r_geti (v := (s.2 6 6)) (q := 23) lk_X1_22 dX1_goThrough_20 rfl rfl rfl rfl ?_
    refine r_sipush (v := 9999) (q := 26) dX1_goThrough_23 (by decide) rfl ?_
    refine r_icmp_ge 177 (q := 29) dX1_goThrough_26 (by decide) rfl (fun c2 => ?_) (fun c2 => ?_)
    · rw [if_pos c2] at h
      cases h
      have hk := ke _ rfl
      exact r_retv dX1_goThrough_177 rfl hk
    · rw [if_neg c2] at h
      refine r_aload_n (q := 30) dX1_goThrough_29 rfl rfl ?_
      obtain ⟨y4, e3, h⟩ := mm_let_elim h
      refine r_callV_i (av := []) (st := []) (q := 33) (d1 := 0) kc_X1_27 rfl dX1_goThrough_30 rfl rfl (Nat.le_of_ble_eq_true rfl) (Nat.le_of_ble_eq_true rfl) (by omega) rfl rfl (t_X6_draw_6 (d := 0) (by omega) s.2 _ e3) ?_
      refine r_istore (q := 35) (L' := [some (.inr 29), some (.inl x1), some (.inr 6), some (.inr 7), some (.inr 13), some (.inr 3), some (.inl s.1), some (.inl y4.1), none, none]) dX1_goThrough_33 (by decide) rfl rfl ?_
      refine r_aload_n (q := 36) dX1_goThrough_35 rfl rfl ?_
      refine r_callV_i (av := []) (st := []) (q := 39) (d1 := 0) kc_X1_31 sc_c_7 dX1_goThrough_36 rfl rfl (Nat.le_of_ble_eq_true rfl) (Nat.le_of_ble_eq_true rfl) (by omega) rfl rfl (t_X8_isTold (d := 0) (by omega) y4.2 _ rfl) ?_
      refine r_if_eq 56 (q := 42) dX1_goThrough_39 (by decide) rfl (fun c5 => ?_) (fun c5 => ?_)
      · rw [if_neg (mm_b0 c5)] at h
        refine r_iconst (v := (-1)) (q := 57) dX1_goThrough_56 (by decide) rfl ?_
        exact t_X1_goThrough_j57l13_29_6_7_13_3 hd x1 s.1 y4.1 (-1) y4.2 _ h kb ke
      · rw [if_pos (mm_b1 c5)] at h
        refine r_aload_n (q := 43) dX1_goThrough_42 rfl rfl ?_
        refine r_aload_n (q := 44) dX1_goThrough_43 rfl rfl ?_
        refine r_iload (q := 46) dX1_goThrough_44 rfl rfl ?_
        refine r_aload (q := 48) dX1_goThrough_46 rfl rfl ?_
        refine r_aload (q := 50) dX1_goThrough_48 rfl rfl ?_
        obtain ⟨y7, e6, h⟩ := Option.bind_eq_some_iff.mp h
        refine r_callV_i (av := [(.inr 6), (.inl y4.1), (.inr 13), (.inr 3)]) (st := []) (q := 53) (d1 := 4) kc_X1_37 sc_c_29 dX1_goThrough_50 rfl rfl (Nat.le_of_ble_eq_true rfl) (Nat.le_of_ble_eq_true rfl) (by omega) rfl rfl (t_X1_mostLiked_29_6_13_3 (d := 4) (by omega) y4.1 y4.2 _ e6) ?_
        refine r_goto 57 dX1_goThrough_53 (by decide) ?_
        exact t_X1_goThrough_j57l13_29_6_7_13_3 hd x1 s.1 y4.1 y7.1 y7.2 _ h kb ke
noncomputable def X1_goThrough (a2 : Nat) (x1 : Int32) (M : mm_M) : Option mm_M := (mm_loop (X1_goThrough_l13 a2 x1) mm_fuel (0, (mm_U (mm_U M 29 1 0) 29 2 0)))
set_option maxRecDepth 100000 in
set_option maxHeartbeats 400000 in
theorem t_X1_goThrough_29_4_7_13_3 {d : Nat} (hd : 5 ≤ d) (x1 : Int32) (M : mm_M) (res : mm_M) (h : X1_goThrough 4 x1 M = some res) : mm_Meth jX1_goThrough d 0 0 [(.inr 29), (.inl x1), (.inr 4), (.inr 7), (.inr 13), (.inr 3)] S_c M (mm_Zv S_c res) := by
  refine r_meth (L := [some (.inr 29), some (.inl x1), some (.inr 4), some (.inr 7), some (.inr 13), some (.inr 3), none, none, none, none]) rfl (fun D => ?_)
  unfold X1_goThrough at h
  refine r_aload_n (q := 1) dX1_goThrough_0 rfl rfl ?_
  refine r_iconst (v := 0) (q := 2) dX1_goThrough_1 (by decide) rfl ?_
  refine r_puti (q := 5) lk_X1_15 ft_0_1 dX1_goThrough_2 sc_c_29 rfl rfl ?_
  refine r_aload_n (q := 6) dX1_goThrough_5 rfl rfl ?_
  refine r_iconst (v := 0) (q := 7) dX1_goThrough_6 (by decide) rfl ?_
  refine r_puti (q := 10) lk_X1_19 ft_0_2 dX1_goThrough_7 sc_c_29 rfl rfl ?_
  refine r_iconst (v := 0) (q := 11) dX1_goThrough_10 (by decide) rfl ?_
  refine r_istore (q := 13) (L' := [some (.inr 29), some (.inl x1), some (.inr 4), some (.inr 7), some (.inr 13), some (.inr 3), some (.inl 0), none, none, none]) dX1_goThrough_11 (by decide) rfl rfl ?_
  exact t_X1_goThrough_l13_29_4_7_13_3 hd x1 mm_fuel (0, (mm_U (mm_U M 29 1 0) 29 2 0)) _ h mm_Zv_rfl
set_option maxRecDepth 100000 in
set_option maxHeartbeats 400000 in
theorem t_X1_goThrough_29_6_7_13_3 {d : Nat} (hd : 5 ≤ d) (x1 : Int32) (M : mm_M) (res : mm_M) (h : X1_goThrough 6 x1 M = some res) : mm_Meth jX1_goThrough d 0 0 [(.inr 29), (.inl x1), (.inr 6), (.inr 7), (.inr 13), (.inr 3)] S_c M (mm_Zv S_c res) := by
  refine r_meth (L := [some (.inr 29), some (.inl x1), some (.inr 6), some (.inr 7), some (.inr 13), some (.inr 3), none, none, none, none]) rfl (fun D => ?_)
  unfold X1_goThrough at h
  refine r_aload_n (q := 1) dX1_goThrough_0 rfl rfl ?_
  refine r_iconst (v := 0) (q := 2) dX1_goThrough_1 (by decide) rfl ?_
  refine r_puti (q := 5) lk_X1_15 ft_0_1 dX1_goThrough_2 sc_c_29 rfl rfl ?_
  refine r_aload_n (q := 6) dX1_goThrough_5 rfl rfl ?_
  refine r_iconst (v := 0) (q := 7) dX1_goThrough_6 (by decide) rfl ?_
  refine r_puti (q := 10) lk_X1_19 ft_0_2 dX1_goThrough_7 sc_c_29 rfl rfl ?_
  refine r_iconst (v := 0) (q := 11) dX1_goThrough_10 (by decide) rfl ?_
  refine r_istore (q := 13) (L' := [some (.inr 29), some (.inl x1), some (.inr 6), some (.inr 7), some (.inr 13), some (.inr 3), some (.inl 0), none, none, none]) dX1_goThrough_11 (by decide) rfl rfl ?_
  exact t_X1_goThrough_l13_29_6_7_13_3 hd x1 mm_fuel (0, (mm_U (mm_U M 29 1 0) 29 2 0)) _ h mm_Zv_rfl
noncomputable def X11_days (x1 : Int32) (M : mm_M) : Option (Int32 × mm_M) := if x1 < 1 then some ((-1), M) else if x1 ≤ 100 then (X1_goThrough 4 x1 M).bind fun y4 => some ((y4 29 1), y4) else some ((-1), M)
set_option maxRecDepth 100000 in
set_option maxHeartbeats 400000 in
theorem t_X11_days {d : Nat} (hd : 6 ≤ d) (x1 : Int32) (M : mm_M) (res : (Int32 × mm_M)) (h : X11_days x1 M = some res) : mm_Meth jX11_days d 0 0 [(.inr 0), (.inl x1)] S_c M (mm_Zi res.1 S_c res.2) := by
  refine r_meth (L := [some (.inr 0), some (.inl x1)]) rfl (fun D => ?_)
  unfold X11_days at h
  refine r_iload_n (q := 1) dX11_days_0 rfl rfl ?_
  refine r_iconst (v := 1) (q := 2) dX11_days_1 (by decide) rfl ?_
  refine r_icmp_lt 11 (q := 5) dX11_days_2 (by decide) rfl (fun c1 => ?_) (fun c1 => ?_)
  · rw [if_pos c1] at h
    refine r_iconst (v := (-1)) (q := 12) dX11_days_11 (by decide) rfl ?_
    cases h
    exact r_ret dX11_days_12 rfl mm_Zi_rfl
  · rw [if_neg c1] at h
    refine r_iload_n (q := 6) dX11_days_5 rfl rfl ?_
    refine r_bipush (v := 100) (q := 8) dX11_days_6 (by decide) rfl ?_
    refine r_icmp_le 13 (q := 11) dX11_days_8 (by decide) rfl (fun c2 => ?_) (fun c2 => ?_)
    · rw [if_pos c2] at h
      refine r_aload_n (q := 14) dX11_days_13 rfl rfl ?_
      refine r_getr (b := 29) (q := 17) lk_X11_69 dX11_days_14 sc_c_0 rfl rfl ?_
      refine r_iload_n (q := 18) dX11_days_17 rfl rfl ?_
      refine r_aload_n (q := 19) dX11_days_18 rfl rfl ?_
      refine r_getr (b := 4) (q := 22) lk_X11_29 dX11_days_19 sc_c_0 rfl rfl ?_
      refine r_aload_n (q := 23) dX11_days_22 rfl rfl ?_
      refine r_getr (b := 7) (q := 26) lk_X11_42 dX11_days_23 sc_c_0 rfl rfl ?_
      refine r_aload_n (q := 27) dX11_days_26 rfl rfl ?_
      refine r_getr (b := 13) (q := 30) lk_X11_52 dX11_days_27 sc_c_0 rfl rfl ?_
      refine r_aload_n (q := 31) dX11_days_30 rfl rfl ?_
      refine r_getr (b := 3) (q := 34) lk_X11_16 dX11_days_31 sc_c_0 rfl rfl ?_
      obtain ⟨y4, e3, h⟩ := Option.bind_eq_some_iff.mp h
      refine r_callV_v (av := [(.inl x1), (.inr 4), (.inr 7), (.inr 13), (.inr 3)]) (st := []) (q := 37) (d1 := 5) kc_X11_165 sc_c_29 dX11_days_34 rfl rfl (Nat.le_of_ble_eq_true rfl) (Nat.le_of_ble_eq_true rfl) (by omega) rfl rfl (t_X1_goThrough_29_4_7_13_3 (d := 5) (by omega) x1 M _ e3) ?_
      refine r_aload_n (q := 38) dX11_days_37 rfl rfl ?_
      refine r_getr (b := 29) (q := 41) lk_X11_69 dX11_days_38 sc_c_0 rfl rfl ?_
      refine r_geti (v := (y4 29 1)) (q := 44) lk_X11_169 dX11_days_41 sc_c_29 rfl rfl rfl ?_
      cases h
      exact r_ret dX11_days_44 rfl mm_Zi_rfl
    · rw [if_neg c2] at h
      refine r_iconst (v := (-1)) (q := 12) dX11_days_11 (by decide) rfl ?_
      cases h
      exact r_ret dX11_days_12 rfl mm_Zi_rfl
noncomputable def X6_copyFrom (a0 : Nat) (a1 : Nat) (M : mm_M) : mm_M := (mm_U (mm_U (mm_U (mm_U (mm_U (mm_U (mm_U (mm_U M a0 0 (M a1 0)) a0 1 (M a1 1)) a0 2 (M a1 2)) a0 3 (M a1 3)) a0 4 (M a1 4)) a0 5 (M a1 5)) a0 6 (M a1 6)) a0 7 (M a1 7))
set_option maxRecDepth 100000 in
set_option maxHeartbeats 400000 in
theorem t_X6_copyFrom_4_5 {d : Nat} (hd : 0 ≤ d) (M : mm_M) (res : mm_M) (h : X6_copyFrom 4 5 M = res) : mm_Meth jX6_copyFrom d 0 0 [(.inr 4), (.inr 5)] S_c M (mm_Zv S_c res) := by
  refine r_meth (L := [some (.inr 4), some (.inr 5)]) rfl (fun D => ?_)
  unfold X6_copyFrom at h
  refine r_aload_n (q := 1) dX6_copyFrom_0 rfl rfl ?_
  refine r_aload_n (q := 2) dX6_copyFrom_1 rfl rfl ?_
  refine r_geti (v := (M 5 0)) (q := 5) lk_X6_21 dX6_copyFrom_2 rfl rfl rfl rfl ?_
  refine r_puti (q := 8) lk_X6_21 ft_4_0 dX6_copyFrom_5 rfl rfl rfl ?_
  refine r_aload_n (q := 9) dX6_copyFrom_8 rfl rfl ?_
  refine r_aload_n (q := 10) dX6_copyFrom_9 rfl rfl ?_
  refine r_geti (v := (M 5 1)) (q := 13) lk_X6_24 dX6_copyFrom_10 rfl rfl rfl rfl ?_
  refine r_puti (q := 16) lk_X6_24 ft_4_1 dX6_copyFrom_13 rfl rfl rfl ?_
  refine r_aload_n (q := 17) dX6_copyFrom_16 rfl rfl ?_
  refine r_aload_n (q := 18) dX6_copyFrom_17 rfl rfl ?_
  refine r_geti (v := (M 5 2)) (q := 21) lk_X6_9 dX6_copyFrom_18 rfl rfl rfl rfl ?_
  refine r_puti (q := 24) lk_X6_9 ft_4_2 dX6_copyFrom_21 rfl rfl rfl ?_
  refine r_aload_n (q := 25) dX6_copyFrom_24 rfl rfl ?_
  refine r_aload_n (q := 26) dX6_copyFrom_25 rfl rfl ?_
  refine r_geti (v := (M 5 3)) (q := 29) lk_X6_15 dX6_copyFrom_26 rfl rfl rfl rfl ?_
  refine r_puti (q := 32) lk_X6_15 ft_4_3 dX6_copyFrom_29 rfl rfl rfl ?_
  refine r_aload_n (q := 33) dX6_copyFrom_32 rfl rfl ?_
  refine r_aload_n (q := 34) dX6_copyFrom_33 rfl rfl ?_
  refine r_geti (v := (M 5 4)) (q := 37) lk_X6_27 dX6_copyFrom_34 rfl rfl rfl rfl ?_
  refine r_puti (q := 40) lk_X6_27 ft_4_4 dX6_copyFrom_37 rfl rfl rfl ?_
  refine r_aload_n (q := 41) dX6_copyFrom_40 rfl rfl ?_
  refine r_aload_n (q := 42) dX6_copyFrom_41 rfl rfl ?_
  refine r_geti (v := (M 5 5)) (q := 45) lk_X6_30 dX6_copyFrom_42 rfl rfl rfl rfl ?_
  refine r_puti (q := 48) lk_X6_30 ft_4_5 dX6_copyFrom_45 rfl rfl rfl ?_
  refine r_aload_n (q := 49) dX6_copyFrom_48 rfl rfl ?_
  refine r_aload_n (q := 50) dX6_copyFrom_49 rfl rfl ?_
  refine r_geti (v := (M 5 6)) (q := 53) lk_X6_33 dX6_copyFrom_50 rfl rfl rfl rfl ?_
  refine r_puti (q := 56) lk_X6_33 ft_4_6 dX6_copyFrom_53 rfl rfl rfl ?_
  refine r_aload_n (q := 57) dX6_copyFrom_56 rfl rfl ?_
  refine r_aload_n (q := 58) dX6_copyFrom_57 rfl rfl ?_
  refine r_geti (v := (M 5 7)) (q := 61) lk_X6_18 dX6_copyFrom_58 rfl rfl rfl rfl ?_
  refine r_puti (q := 64) lk_X6_18 ft_4_7 dX6_copyFrom_61 rfl rfl rfl ?_
  subst h
  exact r_retv dX6_copyFrom_64 rfl mm_Zv_rfl
set_option maxRecDepth 100000 in
set_option maxHeartbeats 400000 in
theorem t_X6_copyFrom_5_4 {d : Nat} (hd : 0 ≤ d) (M : mm_M) (res : mm_M) (h : X6_copyFrom 5 4 M = res) : mm_Meth jX6_copyFrom d 0 0 [(.inr 5), (.inr 4)] S_c M (mm_Zv S_c res) := by
  refine r_meth (L := [some (.inr 5), some (.inr 4)]) rfl (fun D => ?_)
  unfold X6_copyFrom at h
  refine r_aload_n (q := 1) dX6_copyFrom_0 rfl rfl ?_
  refine r_aload_n (q := 2) dX6_copyFrom_1 rfl rfl ?_
  refine r_geti (v := (M 4 0)) (q := 5) lk_X6_21 dX6_copyFrom_2 rfl rfl rfl rfl ?_
  refine r_puti (q := 8) lk_X6_21 ft_4_0 dX6_copyFrom_5 rfl rfl rfl ?_
  refine r_aload_n (q := 9) dX6_copyFrom_8 rfl rfl ?_
  refine r_aload_n (q := 10) dX6_copyFrom_9 rfl rfl ?_
  refine r_geti (v := (M 4 1)) (q := 13) lk_X6_24 dX6_copyFrom_10 rfl rfl rfl rfl ?_
  refine r_puti (q := 16) lk_X6_24 ft_4_1 dX6_copyFrom_13 rfl rfl rfl ?_
  refine r_aload_n (q := 17) dX6_copyFrom_16 rfl rfl ?_
  refine r_aload_n (q := 18) dX6_copyFrom_17 rfl rfl ?_
  refine r_geti (v := (M 4 2)) (q := 21) lk_X6_9 dX6_copyFrom_18 rfl rfl rfl rfl ?_
  refine r_puti (q := 24) lk_X6_9 ft_4_2 dX6_copyFrom_21 rfl rfl rfl ?_
  refine r_aload_n (q := 25) dX6_copyFrom_24 rfl rfl ?_
  refine r_aload_n (q := 26) dX6_copyFrom_25 rfl rfl ?_
  refine r_geti (v := (M 4 3)) (q := 29) lk_X6_15 dX6_copyFrom_26 rfl rfl rfl rfl ?_
  refine r_puti (q := 32) lk_X6_15 ft_4_3 dX6_copyFrom_29 rfl rfl rfl ?_
  refine r_aload_n (q := 33) dX6_copyFrom_32 rfl rfl ?_
  refine r_aload_n (q := 34) dX6_copyFrom_33 rfl rfl ?_
  refine r_geti (v := (M 4 4)) (q := 37) lk_X6_27 dX6_copyFrom_34 rfl rfl rfl rfl ?_
  refine r_puti (q := 40) lk_X6_27 ft_4_4 dX6_copyFrom_37 rfl rfl rfl ?_
  refine r_aload_n (q := 41) dX6_copyFrom_40 rfl rfl ?_
  refine r_aload_n (q := 42) dX6_copyFrom_41 rfl rfl ?_
  refine r_geti (v := (M 4 5)) (q := 45) lk_X6_30 dX6_copyFrom_42 rfl rfl rfl rfl ?_
  refine r_puti (q := 48) lk_X6_30 ft_4_5 dX6_copyFrom_45 rfl rfl rfl ?_
  refine r_aload_n (q := 49) dX6_copyFrom_48 rfl rfl ?_
  refine r_aload_n (q := 50) dX6_copyFrom_49 rfl rfl ?_
  refine r_geti (v := (M 4 6)) (q := 53) lk_X6_33 dX6_copyFrom_50 rfl rfl rfl rfl ?_
  refine r_puti (q := 56) lk_X6_33 ft_4_6 dX6_copyFrom_53 rfl rfl rfl ?_
  refine r_aload_n (q := 57) dX6_copyFrom_56 rfl rfl ?_
  refine r_aload_n (q := 58) dX6_copyFrom_57 rfl rfl ?_
  refine r_geti (v := (M 4 7)) (q := 61) lk_X6_18 dX6_copyFrom_58 rfl rfl rfl rfl ?_
  refine r_puti (q := 64) lk_X6_18 ft_4_7 dX6_copyFrom_61 rfl rfl rfl ?_
  subst h
  exact r_retv dX6_copyFrom_64 rfl mm_Zv_rfl
set_option maxRecDepth 100000 in
set_option maxHeartbeats 400000 in
theorem t_X6_copyFrom_6_4 {d : Nat} (hd : 0 ≤ d) (M : mm_M) (res : mm_M) (h : X6_copyFrom 6 4 M = res) : mm_Meth jX6_copyFrom d 0 0 [(.inr 6), (.inr 4)] S_c M (mm_Zv S_c res) := by
  refine r_meth (L := [some (.inr 6), some (.inr 4)]) rfl (fun D => ?_)
  unfold X6_copyFrom at h
  refine r_aload_n (q := 1) dX6_copyFrom_0 rfl rfl ?_
  refine r_aload_n (q := 2) dX6_copyFrom_1 rfl rfl ?_
  refine r_geti (v := (M 4 0)) (q := 5) lk_X6_21 dX6_copyFrom_2 rfl rfl rfl rfl ?_
  refine r_puti (q := 8) lk_X6_21 ft_4_0 dX6_copyFrom_5 rfl rfl rfl ?_
  refine r_aload_n (q := 9) dX6_copyFrom_8 rfl rfl ?_
  refine r_aload_n (q := 10) dX6_copyFrom_9 rfl rfl ?_
  refine r_geti (v := (M 4 1)) (q := 13) lk_X6_24 dX6_copyFrom_10 rfl rfl rfl rfl ?_
  refine r_puti (q := 16) lk_X6_24 ft_4_1 dX6_copyFrom_13 rfl rfl rfl ?_
  refine r_aload_n (q := 17) dX6_copyFrom_16 rfl rfl ?_
  refine r_aload_n (q := 18) dX6_copyFrom_17 rfl rfl ?_
  refine r_geti (v := (M 4 2)) (q := 21) lk_X6_9 dX6_copyFrom_18 rfl rfl rfl rfl ?_
  refine r_puti (q := 24) lk_X6_9 ft_4_2 dX6_copyFrom_21 rfl rfl rfl ?_
  refine r_aload_n (q := 25) dX6_copyFrom_24 rfl rfl ?_
  refine r_aload_n (q := 26) dX6_copyFrom_25 rfl rfl ?_
  refine r_geti (v := (M 4 3)) (q := 29) lk_X6_15 dX6_copyFrom_26 rfl rfl rfl rfl ?_
  refine r_puti (q := 32) lk_X6_15 ft_4_3 dX6_copyFrom_29 rfl rfl rfl ?_
  refine r_aload_n (q := 33) dX6_copyFrom_32 rfl rfl ?_
  refine r_aload_n (q := 34) dX6_copyFrom_33 rfl rfl ?_
  refine r_geti (v := (M 4 4)) (q := 37) lk_X6_27 dX6_copyFrom_34 rfl rfl rfl rfl ?_
  refine r_puti (q := 40) lk_X6_27 ft_4_4 dX6_copyFrom_37 rfl rfl rfl ?_
  refine r_aload_n (q := 41) dX6_copyFrom_40 rfl rfl ?_
  refine r_aload_n (q := 42) dX6_copyFrom_41 rfl rfl ?_
  refine r_geti (v := (M 4 5)) (q := 45) lk_X6_30 dX6_copyFrom_42 rfl rfl rfl rfl ?_
  refine r_puti (q := 48) lk_X6_30 ft_4_5 dX6_copyFrom_45 rfl rfl rfl ?_
  refine r_aload_n (q := 49) dX6_copyFrom_48 rfl rfl ?_
  refine r_aload_n (q := 50) dX6_copyFrom_49 rfl rfl ?_
  refine r_geti (v := (M 4 6)) (q := 53) lk_X6_33 dX6_copyFrom_50 rfl rfl rfl rfl ?_
  refine r_puti (q := 56) lk_X6_33 ft_4_6 dX6_copyFrom_53 rfl rfl rfl ?_
  refine r_aload_n (q := 57) dX6_copyFrom_56 rfl rfl ?_
  refine r_aload_n (q := 58) dX6_copyFrom_57 rfl rfl ?_
  refine r_geti (v := (M 4 7)) (q := 61) lk_X6_18 dX6_copyFrom_58 rfl rfl rfl rfl ?_
  refine r_puti (q := 64) lk_X6_18 ft_4_7 dX6_copyFrom_61 rfl rfl rfl ?_
  subst h
  exact r_retv dX6_copyFrom_64 rfl mm_Zv_rfl
noncomputable def X11_tried (x1 : Int32) (x2 : Int32) (M : mm_M) : Option (Int32 × mm_M) := if x1 < 1 then some ((-1), M) else if 100 < x1 then some ((-1), M) else if x2 < 0 then some ((-1), M) else if x2 ≤ 5 then mm_let (X6_copyFrom 6 4 M) fun y6 => (X1_goThrough 6 x1 y6).bind fun y8 => if x2 = 0 then some ((y8 29 1), y8) else if x2 = 1 then some ((y8 29 2), y8) else if x2 = 2 then some ((y8 6 3), y8) else if x2 = 3 then some ((y8 6 0), y8) else if x2 = 4 then some ((y8 6 1), y8) else some ((y8 6 2), y8) else some ((-1), M)
set_option maxRecDepth 100000 in
set_option maxHeartbeats 400000 in
theorem t_X11_tried {d : Nat} (hd : 6 ≤ d) (x1 : Int32) (x2 : Int32) (M : mm_M) (res : (Int32 × mm_M)) (h : X11_tried x1 x2 M = some res) : mm_Meth jX11_tried d 0 0 [(.inr 0), (.inl x1), (.inl x2)] S_c M (mm_Zi res.1 S_c res.2) := by
  refine r_meth (L := [some (.inr 0), some (.inl x1), some (.inl x2)]) rfl (fun D => ?_)
  unfold X11_tried at h
  refine r_iload_n (q := 1) dX11_tried_0 rfl rfl ?_
  refine r_iconst (v := 1) (q := 2) dX11_tried_1 (by decide) rfl ?_
  refine r_icmp_lt 20 (q := 5) dX11_tried_2 (by decide) rfl (fun c1 => ?_) (fun c1 => ?_)
  · rw [if_pos c1] at h
    refine r_iconst (v := (-1)) (q := 21) dX11_tried_20 (by decide) rfl ?_
    cases h
    exact r_ret dX11_tried_21 rfl mm_Zi_rfl
  · rw [if_neg c1] at h
    refine r_iload_n (q := 6) dX11_tried_5 rfl rfl ?_
    refine r_bipush (v := 100) (q := 8) dX11_tried_6 (by decide) rfl ?_
    refine r_icmp_gt 20 (q := 11) dX11_tried_8 (by decide) rfl (fun c2 => ?_) (fun c2 => ?_)
    · rw [if_pos c2] at h
      refine r_iconst (v := (-1)) (q := 21) dX11_tried_20 (by decide) rfl ?_
      cases h
      exact r_ret dX11_tried_21 rfl mm_Zi_rfl
    · rw [if_neg c2] at h
      refine r_iload_n (q := 12) dX11_tried_11 rfl rfl ?_
      refine r_if_lt 20 (q := 15) dX11_tried_12 (by decide) rfl (fun c3 => ?_) (fun c3 => ?_)
      · rw [if_pos c3] at h
        refine r_iconst (v := (-1)) (q := 21) dX11_tried_20 (by decide) rfl ?_
        cases h
        exact r_ret dX11_tried_21 rfl mm_Zi_rfl
      · rw [if_neg c3] at h
        refine r_iload_n (q := 16) dX11_tried_15 rfl rfl ?_
        refine r_iconst (v := 5) (q := 17) dX11_tried_16 (by decide) rfl ?_
        refine r_icmp_le 22 (q := 20) dX11_tried_17 (by decide) rfl (fun c4 => ?_) (fun c4 => ?_)
        · rw [if_pos c4] at h
          refine r_aload_n (q := 23) dX11_tried_22 rfl rfl ?_
          refine r_getr (b := 6) (q := 26) lk_X11_36 dX11_tried_23 sc_c_0 rfl rfl ?_
          refine r_aload_n (q := 27) dX11_tried_26 rfl rfl ?_
          refine r_getr (b := 4) (q := 30) lk_X11_29 dX11_tried_27 sc_c_0 rfl rfl ?_
          obtain ⟨y6, e5, h⟩ := mm_let_elim h
          refine r_callV_v (av := [(.inr 4)]) (st := []) (q := 33) (d1 := 0) kc_X11_172 sc_c_6 dX11_tried_30 rfl rfl (Nat.le_of_ble_eq_true rfl) (Nat.le_of_ble_eq_true rfl) (by omega) rfl rfl (t_X6_copyFrom_6_4 (d := 0) (by omega) M _ e5) ?_
          refine r_aload_n (q := 34) dX11_tried_33 rfl rfl ?_
          refine r_getr (b := 29) (q := 37) lk_X11_69 dX11_tried_34 sc_c_0 rfl rfl ?_
          refine r_iload_n (q := 38) dX11_tried_37 rfl rfl ?_
          refine r_aload_n (q := 39) dX11_tried_38 rfl rfl ?_
          refine r_getr (b := 6) (q := 42) lk_X11_36 dX11_tried_39 sc_c_0 rfl rfl ?_
          refine r_aload_n (q := 43) dX11_tried_42 rfl rfl ?_
          refine r_getr (b := 7) (q := 46) lk_X11_42 dX11_tried_43 sc_c_0 rfl rfl ?_
          refine r_aload_n (q := 47) dX11_tried_46 rfl rfl ?_
          refine r_getr (b := 13) (q := 50) lk_X11_52 dX11_tried_47 sc_c_0 rfl rfl ?_
          refine r_aload_n (q := 51) dX11_tried_50 rfl rfl ?_
          refine r_getr (b := 3) (q := 54) lk_X11_16 dX11_tried_51 sc_c_0 rfl rfl ?_
          obtain ⟨y8, e7, h⟩ := Option.bind_eq_some_iff.mp h
          refine r_callV_v (av := [(.inl x1), (.inr 6), (.inr 7), (.inr 13), (.inr 3)]) (st := []) (q := 57) (d1 := 5) kc_X11_165 sc_c_29 dX11_tried_54 rfl rfl (Nat.le_of_ble_eq_true rfl) (Nat.le_of_ble_eq_true rfl) (by omega) rfl rfl (t_X1_goThrough_29_6_7_13_3 (d := 5) (by omega) x1 y6 _ e7) ?_
          refine r_iload_n (q := 58) dX11_tried_57 rfl rfl ?_
          by_cases c9 : x2 = 0
          · rw [if_pos c9] at h
            refine mm_tableIn (off := 34) 92 dX11_tried_58 (by rw [c9]; decide) (by rw [c9]; decide) (by rw [c9]; rfl) (by decide) ?_
            refine r_aload_n (q := 93) dX11_tried_92 rfl rfl ?_
            refine r_getr (b := 29) (q := 96) lk_X11_69 dX11_tried_93 sc_c_0 rfl rfl ?_
            refine r_geti (v := (y8 29 1)) (q := 99) lk_X11_169 dX11_tried_96 sc_c_29 rfl rfl rfl ?_
            cases h
            exact r_ret dX11_tried_99 rfl mm_Zi_rfl
          · rw [if_neg c9] at h
            by_cases c10 : x2 = 1
            · rw [if_pos c10] at h
              refine mm_tableIn (off := 42) 100 dX11_tried_58 (by rw [c10]; decide) (by rw [c10]; decide) (by rw [c10]; rfl) (by decide) ?_
              refine r_aload_n (q := 101) dX11_tried_100 rfl rfl ?_
              refine r_getr (b := 29) (q := 104) lk_X11_69 dX11_tried_101 sc_c_0 rfl rfl ?_
              refine r_geti (v := (y8 29 2)) (q := 107) lk_X11_176 dX11_tried_104 sc_c_29 rfl rfl rfl ?_
              cases h
              exact r_ret dX11_tried_107 rfl mm_Zi_rfl
            · rw [if_neg c10] at h
              by_cases c11 : x2 = 2
              · rw [if_pos c11] at h
                refine mm_tableIn (off := 50) 108 dX11_tried_58 (by rw [c11]; decide) (by rw [c11]; decide) (by rw [c11]; rfl) (by decide) ?_
                refine r_aload_n (q := 109) dX11_tried_108 rfl rfl ?_
                refine r_getr (b := 6) (q := 112) lk_X11_36 dX11_tried_109 sc_c_0 rfl rfl ?_
                refine r_geti (v := (y8 6 3)) (q := 115) lk_X11_98 dX11_tried_112 sc_c_6 rfl rfl rfl ?_
                cases h
                exact r_ret dX11_tried_115 rfl mm_Zi_rfl
              · rw [if_neg c11] at h
                by_cases c12 : x2 = 3
                · rw [if_pos c12] at h
                  refine mm_tableIn (off := 58) 116 dX11_tried_58 (by rw [c12]; decide) (by rw [c12]; decide) (by rw [c12]; rfl) (by decide) ?_
                  refine r_aload_n (q := 117) dX11_tried_116 rfl rfl ?_
                  refine r_getr (b := 6) (q := 120) lk_X11_36 dX11_tried_117 sc_c_0 rfl rfl ?_
                  refine r_geti (v := (y8 6 0)) (q := 123) lk_X11_91 dX11_tried_120 sc_c_6 rfl rfl rfl ?_
                  cases h
                  exact r_ret dX11_tried_123 rfl mm_Zi_rfl
                · rw [if_neg c12] at h
                  by_cases c13 : x2 = 4
                  · rw [if_pos c13] at h
                    refine mm_tableIn (off := 66) 124 dX11_tried_58 (by rw [c13]; decide) (by rw [c13]; decide) (by rw [c13]; rfl) (by decide) ?_
                    refine r_aload_n (q := 125) dX11_tried_124 rfl rfl ?_
                    refine r_getr (b := 6) (q := 128) lk_X11_36 dX11_tried_125 sc_c_0 rfl rfl ?_
                    refine r_geti (v := (y8 6 1)) (q := 131) lk_X11_135 dX11_tried_128 sc_c_6 rfl rfl rfl ?_
                    cases h
                    exact r_ret dX11_tried_131 rfl mm_Zi_rfl
                  · rw [if_neg c13] at h
                    have nc9 : (x2).toInt ≠ 0 := fun e => c9 (Int32.toInt_inj.mp (e.trans (by decide)))
                    have nc10 : (x2).toInt ≠ 1 := fun e => c10 (Int32.toInt_inj.mp (e.trans (by decide)))
                    have nc11 : (x2).toInt ≠ 2 := fun e => c11 (Int32.toInt_inj.mp (e.trans (by decide)))
                    have nc12 : (x2).toInt ≠ 3 := fun e => c12 (Int32.toInt_inj.mp (e.trans (by decide)))
                    have nc13 : (x2).toInt ≠ 4 := fun e => c13 (Int32.toInt_inj.mp (e.trans (by decide)))
                    refine mm_tableOut 132 dX11_tried_58 (by omega) (by decide) ?_
                    refine r_aload_n (q := 133) dX11_tried_132 rfl rfl ?_
                    refine r_getr (b := 6) (q := 136) lk_X11_36 dX11_tried_133 sc_c_0 rfl rfl ?_
                    refine r_geti (v := (y8 6 2)) (q := 139) lk_X11_138 dX11_tried_136 sc_c_6 rfl rfl rfl ?_
                    cases h
                    exact r_ret dX11_tried_139 rfl mm_Zi_rfl
        · rw [if_neg c4] at h
          refine r_iconst (v := (-1)) (q := 21) dX11_tried_20 (by decide) rfl ?_
          cases h
          exact r_ret dX11_tried_21 rfl mm_Zi_rfl
noncomputable def X11_isZeroOrOne (x0 : Int32) : Bool := if x0 = 0 then true else if x0 = 1 then true else false
set_option maxRecDepth 100000 in
set_option maxHeartbeats 400000 in
theorem t_X11_isZeroOrOne {d : Nat} (hd : 0 ≤ d) (x0 : Int32) (M : mm_M) (res : Bool) (h : X11_isZeroOrOne x0 = res) : mm_Meth jX11_isZeroOrOne d 0 0 [(.inl x0)] S_c M (mm_Zi (mm_b res) S_c M) := by
  refine r_meth (L := [some (.inl x0)]) rfl (fun D => ?_)
  unfold X11_isZeroOrOne at h
  refine r_iload_n (q := 1) dX11_isZeroOrOne_0 rfl rfl ?_
  refine r_if_eq 9 (q := 4) dX11_isZeroOrOne_1 (by decide) rfl (fun c1 => ?_) (fun c1 => ?_)
  · rw [if_pos c1] at h
    refine r_iconst (v := 1) (q := 10) dX11_isZeroOrOne_9 (by decide) rfl ?_
    refine r_goto 14 dX11_isZeroOrOne_10 (by decide) ?_
    subst h
    exact r_retb dX11_isZeroOrOne_14 rfl (Or.inr rfl) mm_Zi_rfl
  · rw [if_neg c1] at h
    refine r_iload_n (q := 5) dX11_isZeroOrOne_4 rfl rfl ?_
    refine r_iconst (v := 1) (q := 6) dX11_isZeroOrOne_5 (by decide) rfl ?_
    refine r_icmp_ne 13 (q := 9) dX11_isZeroOrOne_6 (by decide) rfl (fun c2 => ?_) (fun c2 => ?_)
    · rw [if_neg c2] at h
      refine r_iconst (v := 0) (q := 14) dX11_isZeroOrOne_13 (by decide) rfl ?_
      subst h
      exact r_retb dX11_isZeroOrOne_14 rfl (Or.inl rfl) mm_Zi_rfl
    · rw [if_pos c2] at h
      refine r_iconst (v := 1) (q := 10) dX11_isZeroOrOne_9 (by decide) rfl ?_
      refine r_goto 14 dX11_isZeroOrOne_10 (by decide) ?_
      subst h
      exact r_retb dX11_isZeroOrOne_14 rfl (Or.inr rfl) mm_Zi_rfl
noncomputable def X11_askedAt (x1 : Int32) (x2 : Int32) (x3 : Int32) (M : mm_M) : Int32 := if (X11_isQuestion x1) = true then if (X8_has 7 x2 M) = true then if (X11_isZeroOrOne x3) = true then if x3 = 0 then (X8_answer x1 x2 M) else (X8_behind x1 x2 M) else (-1) else (-1) else (-1)
set_option maxRecDepth 100000 in
set_option maxHeartbeats 400000 in
theorem t_X11_askedAt {d : Nat} (hd : 1 ≤ d) (x1 : Int32) (x2 : Int32) (x3 : Int32) (M : mm_M) (res : Int32) (h : X11_askedAt x1 x2 x3 M = res) : mm_Meth jX11_askedAt d 0 0 [(.inr 0), (.inl x1), (.inl x2), (.inl x3)] S_c M (mm_Zi res S_c M) := by
  refine r_meth (L := [some (.inr 0), some (.inl x1), some (.inl x2), some (.inl x3)]) rfl (fun D => ?_)
  unfold X11_askedAt at h
  refine r_iload_n (q := 1) dX11_askedAt_0 rfl rfl ?_
  refine r_callS_i (av := [(.inl x1)]) (st := []) (q := 4) (d1 := 0) kc_X11_95 dX11_askedAt_1 rfl rfl (Nat.le_of_ble_eq_true rfl) (Nat.le_of_ble_eq_true rfl) (by omega) rfl rfl (t_X11_isQuestion (d := 0) (by omega) x1 M _ rfl) ?_
  refine r_if_eq 25 (q := 7) dX11_askedAt_4 (by decide) rfl (fun c1 => ?_) (fun c1 => ?_)
  · rw [if_neg (mm_b0 c1)] at h
    refine r_iconst (v := (-1)) (q := 26) dX11_askedAt_25 (by decide) rfl ?_
    subst h
    exact r_ret dX11_askedAt_26 rfl mm_Zi_rfl
  · rw [if_pos (mm_b1 c1)] at h
    refine r_aload_n (q := 8) dX11_askedAt_7 rfl rfl ?_
    refine r_getr (b := 7) (q := 11) lk_X11_42 dX11_askedAt_8 sc_c_0 rfl rfl ?_
    refine r_iload_n (q := 12) dX11_askedAt_11 rfl rfl ?_
    refine r_callV_i (av := [(.inl x2)]) (st := []) (q := 15) (d1 := 0) kc_X11_87 sc_c_7 dX11_askedAt_12 rfl rfl (Nat.le_of_ble_eq_true rfl) (Nat.le_of_ble_eq_true rfl) (by omega) rfl rfl (t_X8_has_7 (d := 0) (by omega) x2 M _ rfl) ?_
    refine r_if_eq 25 (q := 18) dX11_askedAt_15 (by decide) rfl (fun c2 => ?_) (fun c2 => ?_)
    · rw [if_neg (mm_b0 c2)] at h
      refine r_iconst (v := (-1)) (q := 26) dX11_askedAt_25 (by decide) rfl ?_
      subst h
      exact r_ret dX11_askedAt_26 rfl mm_Zi_rfl
    · rw [if_pos (mm_b1 c2)] at h
      refine r_iload_n (q := 19) dX11_askedAt_18 rfl rfl ?_
      refine r_callS_i (av := [(.inl x3)]) (st := []) (q := 22) (d1 := 0) kc_X11_179 dX11_askedAt_19 rfl rfl (Nat.le_of_ble_eq_true rfl) (Nat.le_of_ble_eq_true rfl) (by omega) rfl rfl (t_X11_isZeroOrOne (d := 0) (by omega) x3 M _ rfl) ?_
      refine r_if_ne 27 (q := 25) dX11_askedAt_22 (by decide) rfl (fun c3 => ?_) (fun c3 => ?_)
      · rw [if_pos (mm_b1 c3)] at h
        refine r_iload_n (q := 28) dX11_askedAt_27 rfl rfl ?_
        refine r_if_ne 43 (q := 31) dX11_askedAt_28 (by decide) rfl (fun c4 => ?_) (fun c4 => ?_)
        · rw [if_neg c4] at h
          refine r_aload_n (q := 44) dX11_askedAt_43 rfl rfl ?_
          refine r_getr (b := 7) (q := 47) lk_X11_42 dX11_askedAt_44 sc_c_0 rfl rfl ?_
          refine r_iload_n (q := 48) dX11_askedAt_47 rfl rfl ?_
          refine r_iload_n (q := 49) dX11_askedAt_48 rfl rfl ?_
          refine r_callV_i (av := [(.inl x1), (.inl x2)]) (st := []) (q := 52) (d1 := 0) kc_X11_186 sc_c_7 dX11_askedAt_49 rfl rfl (Nat.le_of_ble_eq_true rfl) (Nat.le_of_ble_eq_true rfl) (by omega) rfl rfl (t_X8_behind (d := 0) (by omega) x1 x2 M _ rfl) ?_
          subst h
          exact r_ret dX11_askedAt_52 rfl mm_Zi_rfl
        · rw [if_pos c4] at h
          refine r_aload_n (q := 32) dX11_askedAt_31 rfl rfl ?_
          refine r_getr (b := 7) (q := 35) lk_X11_42 dX11_askedAt_32 sc_c_0 rfl rfl ?_
          refine r_iload_n (q := 36) dX11_askedAt_35 rfl rfl ?_
          refine r_iload_n (q := 37) dX11_askedAt_36 rfl rfl ?_
          refine r_callV_i (av := [(.inl x1), (.inl x2)]) (st := []) (q := 40) (d1 := 0) kc_X11_182 sc_c_7 dX11_askedAt_37 rfl rfl (Nat.le_of_ble_eq_true rfl) (Nat.le_of_ble_eq_true rfl) (by omega) rfl rfl (t_X8_answer (d := 0) (by omega) x1 x2 M _ rfl) ?_
          refine r_goto 52 dX11_askedAt_40 (by decide) ?_
          subst h
          exact r_ret dX11_askedAt_52 rfl mm_Zi_rfl
      · rw [if_neg (mm_b0 c3)] at h
        refine r_iconst (v := (-1)) (q := 26) dX11_askedAt_25 (by decide) rfl ?_
        subst h
        exact r_ret dX11_askedAt_26 rfl mm_Zi_rfl
noncomputable def X8_keepsAnswer (x1 : Int32) (x2 : Int32) (x3 : Int32) (M : mm_M) : Bool := if (X8_answer x2 (X8_behind x1 x3 M) M) = (X8_answer x2 x3 M) then true else false
set_option maxRecDepth 100000 in
set_option maxHeartbeats 400000 in
theorem t_X8_keepsAnswer {d : Nat} (hd : 1 ≤ d) (x1 : Int32) (x2 : Int32) (x3 : Int32) (M : mm_M) (res : Bool) (h : X8_keepsAnswer x1 x2 x3 M = res) : mm_Meth jX8_keepsAnswer d 0 0 [(.inr 7), (.inl x1), (.inl x2), (.inl x3)] S_c M (mm_Zi (mm_b res) S_c M) := by
  refine r_meth (L := [some (.inr 7), some (.inl x1), some (.inl x2), some (.inl x3)]) rfl (fun D => ?_)
  unfold X8_keepsAnswer at h
  refine r_aload_n (q := 1) dX8_keepsAnswer_0 rfl rfl ?_
  refine r_iload_n (q := 2) dX8_keepsAnswer_1 rfl rfl ?_
  refine r_aload_n (q := 3) dX8_keepsAnswer_2 rfl rfl ?_
  refine r_iload_n (q := 4) dX8_keepsAnswer_3 rfl rfl ?_
  refine r_iload_n (q := 5) dX8_keepsAnswer_4 rfl rfl ?_
  refine r_callV_i (av := [(.inl x1), (.inl x3)]) (st := [(.inl x2), (.inr 7)]) (q := 8) (d1 := 0) kc_X8_26 sc_c_7 dX8_keepsAnswer_5 rfl rfl (Nat.le_of_ble_eq_true rfl) (Nat.le_of_ble_eq_true rfl) (by omega) rfl rfl (t_X8_behind (d := 0) (by omega) x1 x3 M _ rfl) ?_
  refine r_callV_i (av := [(.inl x2), (.inl (X8_behind x1 x3 M))]) (st := []) (q := 11) (d1 := 0) kc_X8_30 sc_c_7 dX8_keepsAnswer_8 rfl rfl (Nat.le_of_ble_eq_true rfl) (Nat.le_of_ble_eq_true rfl) (by omega) rfl rfl (t_X8_answer (d := 0) (by omega) x2 (X8_behind x1 x3 M) M _ rfl) ?_
  refine r_aload_n (q := 12) dX8_keepsAnswer_11 rfl rfl ?_
  refine r_iload_n (q := 13) dX8_keepsAnswer_12 rfl rfl ?_
  refine r_iload_n (q := 14) dX8_keepsAnswer_13 rfl rfl ?_
  refine r_callV_i (av := [(.inl x2), (.inl x3)]) (st := [(.inl (X8_answer x2 (X8_behind x1 x3 M) M))]) (q := 17) (d1 := 0) kc_X8_30 sc_c_7 dX8_keepsAnswer_14 rfl rfl (Nat.le_of_ble_eq_true rfl) (Nat.le_of_ble_eq_true rfl) (by omega) rfl rfl (t_X8_answer (d := 0) (by omega) x2 x3 M _ rfl) ?_
  refine r_icmp_ne 24 (q := 20) dX8_keepsAnswer_17 (by decide) rfl (fun c1 => ?_) (fun c1 => ?_)
  · rw [if_neg c1] at h
    refine r_iconst (v := 0) (q := 25) dX8_keepsAnswer_24 (by decide) rfl ?_
    subst h
    exact r_retb dX8_keepsAnswer_25 rfl (Or.inl rfl) mm_Zi_rfl
  · rw [if_pos c1] at h
    refine r_iconst (v := 1) (q := 21) dX8_keepsAnswer_20 (by decide) rfl ?_
    refine r_goto 25 dX8_keepsAnswer_21 (by decide) ?_
    subst h
    exact r_retb dX8_keepsAnswer_25 rfl (Or.inr rfl) mm_Zi_rfl
noncomputable def X8_maySwap_j47l9 (x1 : Int32) (x2 : Int32) (x3 : Int32) (z0 : Bool) (M : mm_M) : Option (Int32 ⊕ Bool) := if z0 = true then if (X8_keepsAnswer x1 x2 x3 M) = true then if (X8_keepsAnswer x2 x1 x3 M) = true then some (.inl (x3 + 1)) else some (.inr false) else some (.inr false) else some (.inr false)
set_option maxRecDepth 100000 in
set_option maxHeartbeats 400000 in
theorem t_X8_maySwap_j47l9 {D : mm_D} {d : Nat} (hd : 2 ≤ d) {Z : Option Int32 → List mm_C → mm_M → Prop} (x1 : Int32) (x2 : Int32) (x3 : Int32) (z0 : Bool) (M : mm_M) (o : Int32 ⊕ Bool) (h : X8_maySwap_j47l9 x1 x2 x3 z0 M = some o) (kb : ∀ s', o = .inl s' → mm_Go jX8_maySwap D d 0 0 9 [some (.inr 7), some (.inl x1), some (.inl x2), some (.inl s'), none] [] S_c M Z) (ke : ∀ r, o = .inr r → Z (some (mm_b r)) S_c M) : mm_Go jX8_maySwap D d 0 0 47 [some (.inr 7), some (.inl x1), some (.inl x2), some (.inl x3), none] [(.inl (mm_b z0))] S_c M Z := by
  unfold X8_maySwap_j47l9 at h
  refine r_istore (q := 49) (L' := [some (.inr 7), some (.inl x1), some (.inl x2), some (.inl x3), some (.inl (mm_b z0))]) dX8_maySwap_47 (by decide) rfl rfl ?_
  refine r_iload (q := 51) dX8_maySwap_49 rfl rfl ?_
  refine r_if_eq 74 (q := 54) dX8_maySwap_51 (by decide) rfl (fun c4 => ?_) (fun c4 => ?_)
  · rw [if_neg (mm_b0 c4)] at h
    refine r_iconst (v := 0) (q := 75) dX8_maySwap_74 (by decide) rfl ?_
    cases h
    have hk := ke _ rfl
    exact r_retb dX8_maySwap_75 rfl (Or.inl rfl) hk
  · rw [if_pos (mm_b1 c4)] at h
    refine r_aload_n (q := 55) dX8_maySwap_54 rfl rfl ?_
    refine r_iload_n (q := 56) dX8_maySwap_55 rfl rfl ?_
    refine r_iload_n (q := 57) dX8_maySwap_56 rfl rfl ?_
    refine r_iload_n (q := 58) dX8_maySwap_57 rfl rfl ?_
    refine r_callV_i (av := [(.inl x1), (.inl x2), (.inl x3)]) (st := []) (q := 61) (d1 := 1) kc_X8_33 sc_c_7 dX8_maySwap_58 rfl rfl (Nat.le_of_ble_eq_true rfl) (Nat.le_of_ble_eq_true rfl) (by omega) rfl rfl (t_X8_keepsAnswer (d := 1) (by omega) x1 x2 x3 M _ rfl) ?_
    refine r_if_eq 74 (q := 64) dX8_maySwap_61 (by decide) rfl (fun c5 => ?_) (fun c5 => ?_)
    · rw [if_neg (mm_b0 c5)] at h
      refine r_iconst (v := 0) (q := 75) dX8_maySwap_74 (by decide) rfl ?_
      cases h
      have hk := ke _ rfl
      exact r_retb dX8_maySwap_75 rfl (Or.inl rfl) hk
    · rw [if_pos (mm_b1 c5)] at h
      refine r_aload_n (q := 65) dX8_maySwap_64 rfl rfl ?_
      refine r_iload_n (q := 66) dX8_maySwap_65 rfl rfl ?_
      refine r_iload_n (q := 67) dX8_maySwap_66 rfl rfl ?_
      refine r_iload_n (q := 68) dX8_maySwap_67 rfl rfl ?_
      refine r_callV_i (av := [(.inl x2), (.inl x1), (.inl x3)]) (st := []) (q := 71) (d1 := 1) kc_X8_33 sc_c_7 dX8_maySwap_68 rfl rfl (Nat.le_of_ble_eq_true rfl) (Nat.le_of_ble_eq_true rfl) (by omega) rfl rfl (t_X8_keepsAnswer (d := 1) (by omega) x2 x1 x3 M _ rfl) ?_
      refine r_if_ne 76 (q := 74) dX8_maySwap_71 (by decide) rfl (fun c6 => ?_) (fun c6 => ?_)
      · rw [if_pos (mm_b1 c6)] at h
        refine r_iinc (v := 1) (q := 79) (L' := [some (.inr 7), some (.inl x1), some (.inl x2), some (.inl (x3 + 1)), some (.inl (mm_b z0))]) dX8_maySwap_76 (by decide) (by decide) rfl rfl rfl ?_
        refine r_goto 9 dX8_maySwap_79 (by decide) ?_
        refine r_forget (L' := [some (.inr 7), some (.inl x1), some (.inl x2), some (.inl (x3 + 1)), none]) [true, true, true, true, false] rfl ?_
        cases h
        have hk := kb _ rfl
        exact hk
      · rw [if_neg (mm_b0 c6)] at h
        refine r_iconst (v := 0) (q := 75) dX8_maySwap_74 (by decide) rfl ?_
        cases h
        have hk := ke _ rfl
        exact r_retb dX8_maySwap_75 rfl (Or.inl rfl) hk
noncomputable def X8_maySwap_l9 (x1 : Int32) (x2 : Int32) (M : mm_M) (s : Int32) : Option (Int32 ⊕ Bool) := if (M 7 0) ≤ s then some (.inr true) else if (X8_behind x2 (X8_behind x1 s M) M) = (X8_behind x1 (X8_behind x2 s M) M) then X8_maySwap_j47l9 x1 x2 s true M else X8_maySwap_j47l9 x1 x2 s false M
set_option maxRecDepth 100000 in
set_option maxHeartbeats 400000 in
theorem t_X8_maySwap_l9 {D : mm_D} {d : Nat} (hd : 2 ≤ d) {Z : Option Int32 → List mm_C → mm_M → Prop} (x1 : Int32) (x2 : Int32) (M : mm_M) (n : Nat) (s : Int32) (r : Bool) (h : mm_loop (X8_maySwap_l9 x1 x2 M) n s = some r) (hx : Z (some (mm_b r)) S_c M) : mm_Go jX8_maySwap D d 0 0 9 [some (.inr 7), some (.inl x1), some (.inl x2), some (.inl s), none] [] S_c M Z := by
  refine mm_loop_go (step := X8_maySwap_l9 x1 x2 M) (Hd := fun (s : Int32) => mm_Go jX8_maySwap D d 0 0 9 [some (.inr 7), some (.inl x1), some (.inl x2), some (.inl s), none] [] S_c M Z) (Ex := fun (r : Bool) => Z (some (mm_b r)) S_c M) ?_ n s r h hx
  intro s o h kb ke
  show mm_Go jX8_maySwap D d 0 0 9 [some (.inr 7), some (.inl x1), some (.inl x2), some (.inl s), none] [] S_c M Z
  unfold X8_maySwap_l9 at h
  refine r_iload_n (q := 10) dX8_maySwap_9 rfl rfl ?_
  refine r_aload_n (q := 11) dX8_maySwap_10 rfl rfl ?_
  refine r_geti (v := (M 7 0)) (q := 14) lk_X8_18 dX8_maySwap_11 sc_c_7 rfl rfl rfl ?_
  refine r_icmp_ge 82 (q := 17) dX8_maySwap_14 (by decide) rfl (fun c2 => ?_) (fun c2 => ?_)
  · rw [if_pos c2] at h
    refine r_iconst (v := 1) (q := 83) dX8_maySwap_82 (by decide) rfl ?_
    cases h
    have hk := ke _ rfl
    exact r_retb dX8_maySwap_83 rfl (Or.inr rfl) hk
  · rw [if_neg c2] at h
    refine r_aload_n (q := 18) dX8_maySwap_17 rfl rfl ?_
    refine r_iload_n (q := 19) dX8_maySwap_18 rfl rfl ?_
    refine r_aload_n (q := 20) dX8_maySwap_19 rfl rfl ?_
    refine r_iload_n (q := 21) dX8_maySwap_20 rfl rfl ?_
    refine r_iload_n (q := 22) dX8_maySwap_21 rfl rfl ?_
    refine r_callV_i (av := [(.inl x1), (.inl s)]) (st := [(.inl x2), (.inr 7)]) (q := 25) (d1 := 0) kc_X8_26 sc_c_7 dX8_maySwap_22 rfl rfl (Nat.le_of_ble_eq_true rfl) (Nat.le_of_ble_eq_true rfl) (by omega) rfl rfl (t_X8_behind (d := 0) (by omega) x1 s M _ rfl) ?_
    refine r_callV_i (av := [(.inl x2), (.inl (X8_behind x1 s M))]) (st := []) (q := 28) (d1 := 0) kc_X8_26 sc_c_7 dX8_maySwap_25 rfl rfl (Nat.le_of_ble_eq_true rfl) (Nat.le_of_ble_eq_true rfl) (by omega) rfl rfl (t_X8_behind (d := 0) (by omega) x2 (X8_behind x1 s M) M _ rfl) ?_
    refine r_aload_n (q := 29) dX8_maySwap_28 rfl rfl ?_
    refine r_iload_n (q := 30) dX8_maySwap_29 rfl rfl ?_
    refine r_aload_n (q := 31) dX8_maySwap_30 rfl rfl ?_
    refine r_iload_n (q := 32) dX8_maySwap_31 rfl rfl ?_
    refine r_iload_n (q := 33) dX8_maySwap_32 rfl rfl ?_
    refine r_callV_i (av := [(.inl x2), (.inl s)]) (st := [(.inl x1), (.inr 7), (.inl (X8_behind x2 (X8_behind x1 s M) M))]) (q := 36) (d1 := 0) kc_X8_26 sc_c_7 dX8_maySwap_33 rfl rfl (Nat.le_of_ble_eq_true rfl) (Nat.le_of_ble_eq_true rfl) (by omega) rfl rfl (t_X8_behind (d := 0) (by omega) x2 s M _ rfl) ?_
    refine r_callV_i (av := [(.inl x1), (.inl (X8_behind x2 s M))]) (st := [(.inl (X8_behind x2 (X8_behind x1 s M) M))]) (q := 39) (d1 := 0) kc_X8_26 sc_c_7 dX8_maySwap_36 rfl rfl (Nat.le_of_ble_eq_true rfl) (Nat.le_of_ble_eq_true rfl) (by omega) rfl rfl (t_X8_behind (d := 0) (by omega) x1 (X8_behind x2 s M) M _ rfl) ?_
    refine r_icmp_ne 46 (q := 42) dX8_maySwap_39 (by decide) rfl (fun c3 => ?_) (fun c3 => ?_)
    · rw [if_neg c3] at h
      refine r_iconst (v := 0) (q := 47) dX8_maySwap_46 (by decide) rfl ?_
      exact t_X8_maySwap_j47l9 hd x1 x2 s false M _ h kb ke
    · rw [if_pos c3] at h
      refine r_iconst (v := 1) (q := 43) dX8_maySwap_42 (by decide) rfl ?_
      refine r_goto 47 dX8_maySwap_43 (by decide) ?_
      exact t_X8_maySwap_j47l9 hd x1 x2 s true M _ h kb ke
noncomputable def X8_maySwap (x1 : Int32) (x2 : Int32) (M : mm_M) : Option Bool := if x1 = x2 then some true else (mm_loop (X8_maySwap_l9 x1 x2 M) mm_fuel 0)
set_option maxRecDepth 100000 in
set_option maxHeartbeats 400000 in
theorem t_X8_maySwap {d : Nat} (hd : 2 ≤ d) (x1 : Int32) (x2 : Int32) (M : mm_M) (res : Bool) (h : X8_maySwap x1 x2 M = some res) : mm_Meth jX8_maySwap d 0 0 [(.inr 7), (.inl x1), (.inl x2)] S_c M (mm_Zi (mm_b res) S_c M) := by
  refine r_meth (L := [some (.inr 7), some (.inl x1), some (.inl x2), none, none]) rfl (fun D => ?_)
  unfold X8_maySwap at h
  refine r_iload_n (q := 1) dX8_maySwap_0 rfl rfl ?_
  refine r_iload_n (q := 2) dX8_maySwap_1 rfl rfl ?_
  refine r_icmp_ne 7 (q := 5) dX8_maySwap_2 (by decide) rfl (fun c1 => ?_) (fun c1 => ?_)
  · rw [if_neg c1] at h
    refine r_iconst (v := 0) (q := 8) dX8_maySwap_7 (by decide) rfl ?_
    refine r_istore_n (q := 9) (L' := [some (.inr 7), some (.inl x1), some (.inl x2), some (.inl 0), none]) dX8_maySwap_8 (by decide) rfl rfl ?_
    exact t_X8_maySwap_l9 hd x1 x2 M mm_fuel 0 _ h mm_Zi_rfl
  · rw [if_pos c1] at h
    refine r_iconst (v := 1) (q := 6) dX8_maySwap_5 (by decide) rfl ?_
    cases h
    exact r_retb dX8_maySwap_6 rfl (Or.inr rfl) mm_Zi_rfl
noncomputable def X11_changePlaces (x1 : Int32) (x2 : Int32) (M : mm_M) : Option Int32 := if (X11_isQuestion x1) = true then if (X11_isQuestion x2) = true then if (X8_isTold M) = true then (X8_maySwap x1 x2 M).bind fun y5 => if y5 = true then some 1 else some 0 else some (-1) else some (-1) else some (-1)
set_option maxRecDepth 100000 in
set_option maxHeartbeats 400000 in
theorem t_X11_changePlaces {d : Nat} (hd : 3 ≤ d) (x1 : Int32) (x2 : Int32) (M : mm_M) (res : Int32) (h : X11_changePlaces x1 x2 M = some res) : mm_Meth jX11_changePlaces d 0 0 [(.inr 0), (.inl x1), (.inl x2)] S_c M (mm_Zi res S_c M) := by
  refine r_meth (L := [some (.inr 0), some (.inl x1), some (.inl x2)]) rfl (fun D => ?_)
  unfold X11_changePlaces at h
  refine r_iload_n (q := 1) dX11_changePlaces_0 rfl rfl ?_
  refine r_callS_i (av := [(.inl x1)]) (st := []) (q := 4) (d1 := 0) kc_X11_95 dX11_changePlaces_1 rfl rfl (Nat.le_of_ble_eq_true rfl) (Nat.le_of_ble_eq_true rfl) (by omega) rfl rfl (t_X11_isQuestion (d := 0) (by omega) x1 M _ rfl) ?_
  refine r_if_eq 24 (q := 7) dX11_changePlaces_4 (by decide) rfl (fun c1 => ?_) (fun c1 => ?_)
  · rw [if_neg (mm_b0 c1)] at h
    refine r_iconst (v := (-1)) (q := 25) dX11_changePlaces_24 (by decide) rfl ?_
    cases h
    exact r_ret dX11_changePlaces_25 rfl mm_Zi_rfl
  · rw [if_pos (mm_b1 c1)] at h
    refine r_iload_n (q := 8) dX11_changePlaces_7 rfl rfl ?_
    refine r_callS_i (av := [(.inl x2)]) (st := []) (q := 11) (d1 := 0) kc_X11_95 dX11_changePlaces_8 rfl rfl (Nat.le_of_ble_eq_true rfl) (Nat.le_of_ble_eq_true rfl) (by omega) rfl rfl (t_X11_isQuestion (d := 0) (by omega) x2 M _ rfl) ?_
    refine r_if_eq 24 (q := 14) dX11_changePlaces_11 (by decide) rfl (fun c2 => ?_) (fun c2 => ?_)
    · rw [if_neg (mm_b0 c2)] at h
      refine r_iconst (v := (-1)) (q := 25) dX11_changePlaces_24 (by decide) rfl ?_
      cases h
      exact r_ret dX11_changePlaces_25 rfl mm_Zi_rfl
    · rw [if_pos (mm_b1 c2)] at h
      refine r_aload_n (q := 15) dX11_changePlaces_14 rfl rfl ?_
      refine r_getr (b := 7) (q := 18) lk_X11_42 dX11_changePlaces_15 sc_c_0 rfl rfl ?_
      refine r_callV_i (av := []) (st := []) (q := 21) (d1 := 0) kc_X11_144 sc_c_7 dX11_changePlaces_18 rfl rfl (Nat.le_of_ble_eq_true rfl) (Nat.le_of_ble_eq_true rfl) (by omega) rfl rfl (t_X8_isTold (d := 0) (by omega) M _ rfl) ?_
      refine r_if_ne 26 (q := 24) dX11_changePlaces_21 (by decide) rfl (fun c3 => ?_) (fun c3 => ?_)
      · rw [if_pos (mm_b1 c3)] at h
        refine r_aload_n (q := 27) dX11_changePlaces_26 rfl rfl ?_
        refine r_getr (b := 7) (q := 30) lk_X11_42 dX11_changePlaces_27 sc_c_0 rfl rfl ?_
        refine r_iload_n (q := 31) dX11_changePlaces_30 rfl rfl ?_
        refine r_iload_n (q := 32) dX11_changePlaces_31 rfl rfl ?_
        obtain ⟨y5, e4, h⟩ := Option.bind_eq_some_iff.mp h
        refine r_callV_i (av := [(.inl x1), (.inl x2)]) (st := []) (q := 35) (d1 := 2) kc_X11_189 sc_c_7 dX11_changePlaces_32 rfl rfl (Nat.le_of_ble_eq_true rfl) (Nat.le_of_ble_eq_true rfl) (by omega) rfl rfl (t_X8_maySwap (d := 2) (by omega) x1 x2 M _ e4) ?_
        refine r_if_eq 42 (q := 38) dX11_changePlaces_35 (by decide) rfl (fun c6 => ?_) (fun c6 => ?_)
        · rw [if_neg (mm_b0 c6)] at h
          refine r_iconst (v := 0) (q := 43) dX11_changePlaces_42 (by decide) rfl ?_
          cases h
          exact r_ret dX11_changePlaces_43 rfl mm_Zi_rfl
        · rw [if_pos (mm_b1 c6)] at h
          refine r_iconst (v := 1) (q := 39) dX11_changePlaces_38 (by decide) rfl ?_
          refine r_goto 43 dX11_changePlaces_39 (by decide) ?_
          cases h
          exact r_ret dX11_changePlaces_43 rfl mm_Zi_rfl
      · rw [if_neg (mm_b0 c3)] at h
        refine r_iconst (v := (-1)) (q := 25) dX11_changePlaces_24 (by decide) rfl ?_
        cases h
        exact r_ret dX11_changePlaces_25 rfl mm_Zi_rfl
noncomputable def X7_isBelow_l3 (x2 : Int32) (x3 : Int32) (M : mm_M) (s : Int32) : Option (Int32 ⊕ Bool) := if x2 ≤ s then some (.inr true) else (X7_byteAt s M).bind fun y3 => if y3 < x3 then some (.inl (s + 1)) else some (.inr false)
set_option maxRecDepth 100000 in
set_option maxHeartbeats 400000 in
theorem t_X7_isBelow_l3 {D : mm_D} {d : Nat} (hd : 1 ≤ d) {Z : Option Int32 → List mm_C → mm_M → Prop} (x2 : Int32) (x3 : Int32) (M : mm_M) (n : Nat) (s : Int32) (r : Bool) (h : mm_loop (X7_isBelow_l3 x2 x3 M) n s = some r) (hx : Z (some (mm_b r)) S_c M) : mm_Go jX7_isBelow D d 0 0 3 [some (.inr 1), none, some (.inl x2), some (.inl x3), some (.inl s)] [] S_c M Z := by
  refine mm_loop_go (step := X7_isBelow_l3 x2 x3 M) (Hd := fun (s : Int32) => mm_Go jX7_isBelow D d 0 0 3 [some (.inr 1), none, some (.inl x2), some (.inl x3), some (.inl s)] [] S_c M Z) (Ex := fun (r : Bool) => Z (some (mm_b r)) S_c M) ?_ n s r h hx
  intro s o h kb ke
  show mm_Go jX7_isBelow D d 0 0 3 [some (.inr 1), none, some (.inl x2), some (.inl x3), some (.inl s)] [] S_c M Z
  unfold X7_isBelow_l3 at h
  refine r_iload (q := 5) dX7_isBelow_3 rfl rfl ?_
  refine r_iload_n (q := 6) dX7_isBelow_5 rfl rfl ?_
  refine r_icmp_ge 27 (q := 9) dX7_isBelow_6 (by decide) rfl (fun c1 => ?_) (fun c1 => ?_)
  · rw [if_pos c1] at h
    refine r_iconst (v := 1) (q := 28) dX7_isBelow_27 (by decide) rfl ?_
    cases h
    have hk := ke _ rfl
    exact r_retb dX7_isBelow_28 rfl (Or.inr rfl) hk
  · rw [if_neg c1] at h
    refine r_aload_n (q := 10) dX7_isBelow_9 rfl rfl ?_
    refine r_iload (q := 12) dX7_isBelow_10 rfl rfl ?_
    obtain ⟨y3, e2, h⟩ := Option.bind_eq_some_iff.mp h
    refine r_callV_i (av := [(.inl s)]) (st := []) (q := 15) (d1 := 0) kc_X7_19 sc_c_1 dX7_isBelow_12 rfl rfl (Nat.le_of_ble_eq_true rfl) (Nat.le_of_ble_eq_true rfl) (by omega) rfl rfl (t_X7_byteAt (d := 0) (by omega) s M _ e2) ?_
    refine r_iload_n (q := 16) dX7_isBelow_15 rfl rfl ?_
    refine r_icmp_lt 21 (q := 19) dX7_isBelow_16 (by decide) rfl (fun c4 => ?_) (fun c4 => ?_)
    · rw [if_pos c4] at h
      refine r_iinc (v := 1) (q := 24) (L' := [some (.inr 1), none, some (.inl x2), some (.inl x3), some (.inl (s + 1))]) dX7_isBelow_21 (by decide) (by decide) rfl rfl rfl ?_
      refine r_goto 3 dX7_isBelow_24 (by decide) ?_
      cases h
      have hk := kb _ rfl
      exact hk
    · rw [if_neg c4] at h
      refine r_iconst (v := 0) (q := 20) dX7_isBelow_19 (by decide) rfl ?_
      cases h
      have hk := ke _ rfl
      exact r_retb dX7_isBelow_20 rfl (Or.inl rfl) hk
noncomputable def X7_isBelow (x1 : Int32) (x2 : Int32) (x3 : Int32) (M : mm_M) : Option Bool := (mm_loop (X7_isBelow_l3 x2 x3 M) mm_fuel x1)
set_option maxRecDepth 100000 in
set_option maxHeartbeats 400000 in
theorem t_X7_isBelow {d : Nat} (hd : 1 ≤ d) (x1 : Int32) (x2 : Int32) (x3 : Int32) (M : mm_M) (res : Bool) (h : X7_isBelow x1 x2 x3 M = some res) : mm_Meth jX7_isBelow d 0 0 [(.inr 1), (.inl x1), (.inl x2), (.inl x3)] S_c M (mm_Zi (mm_b res) S_c M) := by
  refine r_meth (L := [some (.inr 1), some (.inl x1), some (.inl x2), some (.inl x3), none]) rfl (fun D => ?_)
  unfold X7_isBelow at h
  refine r_iload_n (q := 1) dX7_isBelow_0 rfl rfl ?_
  refine r_istore (q := 3) (L' := [some (.inr 1), some (.inl x1), some (.inl x2), some (.inl x3), some (.inl x1)]) dX7_isBelow_1 (by decide) rfl rfl ?_
  refine r_forget (L' := [some (.inr 1), none, some (.inl x2), some (.inl x3), some (.inl x1)]) [true, false, true, true, true] rfl ?_
  exact t_X7_isBelow_l3 hd x2 x3 M mm_fuel x1 _ h mm_Zi_rfl
noncomputable def X5_orderForms_j85l40 (x3 : Int32) (x4 : Int32) (x5 : Int32) (M : mm_M) : Option ((Int32 × mm_M) ⊕ mm_M) := if mm_in x4 10 = true then if mm_in x4 10 = true then some (.inl ((x5 + 1), (mm_U M 42 (Int32.toNatClampNeg x4) ((M 42 (Int32.toNatClampNeg x4)) ||| ((1 : Int32) <<< (x5 &&& 31)))))) else none else none
set_option maxRecDepth 100000 in
set_option maxHeartbeats 400000 in
theorem t_X5_orderForms_j85l40 {D : mm_D} {d : Nat} (hd : 3 ≤ d) {Z : Option Int32 → List mm_C → mm_M → Prop} (x3 : Int32) (x4 : Int32) (x5 : Int32) (M : mm_M) (o : (Int32 × mm_M) ⊕ mm_M) (h : X5_orderForms_j85l40 x3 x4 x5 M = some o) (kb : ∀ s', o = .inl s' → mm_Go jX5_orderForms D d 0 0 40 [some (.inr 36), some (.inr 7), some (.inr 1), some (.inl x3), some (.inl x4), some (.inl s'.1)] [] S_c s'.2 Z) (ke : ∀ r, o = .inr r → mm_Go jX5_orderForms D d 0 0 105 [some (.inr 36), some (.inr 7), some (.inr 1), some (.inl x3), some (.inl x4), none] [] S_c r Z) : mm_Go jX5_orderForms D d 0 0 85 [some (.inr 36), some (.inr 7), some (.inr 1), some (.inl x3), some (.inl x4), some (.inl x5)] [] S_c M Z := by
  unfold X5_orderForms_j85l40 at h
  refine r_aload_n (q := 86) dX5_orderForms_85 rfl rfl ?_
  refine r_getr (b := 42) (q := 89) lk_X5_27 dX5_orderForms_86 sc_c_36 rfl rfl ?_
  refine r_iload (q := 91) dX5_orderForms_89 rfl rfl ?_
  refine r_dup2 (q := 92) dX5_orderForms_91 rfl ?_
  obtain ⟨g11, h⟩ := mm_guard h
  refine r_iald (v := (M 42 (Int32.toNatClampNeg x4))) (q := 93) dX5_orderForms_92 sc_c_42 (mm_vp g11) rfl rfl ?_
  refine r_iconst (v := 1) (q := 94) dX5_orderForms_93 (by decide) rfl ?_
  refine r_iload (q := 96) dX5_orderForms_94 rfl rfl ?_
  refine r_ishl (q := 97) dX5_orderForms_96 rfl ?_
  refine r_ior (q := 98) dX5_orderForms_97 rfl ?_
  obtain ⟨g12, h⟩ := mm_guard h
  refine r_iast (j := (Int32.toNatClampNeg x4)) (q := 99) dX5_orderForms_98 sc_c_42 (mm_vp g12) rfl rfl ?_
  refine r_iinc (v := 1) (q := 102) (L' := [some (.inr 36), some (.inr 7), some (.inr 1), some (.inl x3), some (.inl x4), some (.inl (x5 + 1))]) dX5_orderForms_99 (by decide) (by decide) rfl rfl rfl ?_
  refine r_goto 40 dX5_orderForms_102 (by decide) ?_
  cases h
  have hk := kb _ rfl
  exact hk
noncomputable def X5_orderForms_l40 (x3 : Int32) (x4 : Int32) (s : (Int32 × mm_M)) : Option ((Int32 × mm_M) ⊕ mm_M) := if x4 ≤ s.1 then some (.inr s.2) else if mm_in s.1 10 = true then if mm_in x4 10 = true then if (s.2 41 (Int32.toNatClampNeg s.1)) = (s.2 41 (Int32.toNatClampNeg x4)) then X5_orderForms_j85l40 x3 x4 s.1 s.2 else if mm_in s.1 10 = true then if mm_in x4 10 = true then (X8_maySwap (s.2 41 (Int32.toNatClampNeg s.1)) (s.2 41 (Int32.toNatClampNeg x4)) s.2).bind fun y16 => if y16 = true then some (.inl ((s.1 + 1), s.2)) else X5_orderForms_j85l40 x3 x4 s.1 s.2 else none else none else none else none
set_option maxRecDepth 100000 in
set_option maxHeartbeats 400000 in
theorem t_X5_orderForms_l40 {D : mm_D} {d : Nat} (hd : 3 ≤ d) {Z : Option Int32 → List mm_C → mm_M → Prop} (x3 : Int32) (x4 : Int32) (n : Nat) (s : (Int32 × mm_M)) (r : mm_M) (h : mm_loop (X5_orderForms_l40 x3 x4) n s = some r) (hx : mm_Go jX5_orderForms D d 0 0 105 [some (.inr 36), some (.inr 7), some (.inr 1), some (.inl x3), some (.inl x4), none] [] S_c r Z) : mm_Go jX5_orderForms D d 0 0 40 [some (.inr 36), some (.inr 7), some (.inr 1), some (.inl x3), some (.inl x4), some (.inl s.1)] [] S_c s.2 Z := by
  refine mm_loop_go (step := X5_orderForms_l40 x3 x4) (Hd := fun (s : (Int32 × mm_M)) => mm_Go jX5_orderForms D d 0 0 40 [some (.inr 36), some (.inr 7), some (.inr 1), some (.inl x3), some (.inl x4), some (.inl s.1)] [] S_c s.2 Z) (Ex := fun (r : mm_M) => mm_Go jX5_orderForms D d 0 0 105 [some (.inr 36), some (.inr 7), some (.inr 1), some (.inl x3), some (.inl x4), none] [] S_c r Z) ?_ n s r h hx
  intro s o h kb ke
  show mm_Go jX5_orderForms D d 0 0 40 [some (.inr 36), some (.inr 7), some (.inr 1), some (.inl x3), some (.inl x4), some (.inl s.1)] [] S_c s.2 Z
  unfold X5_orderForms_l40 at h
  refine r_iload (q := 42) dX5_orderForms_40 rfl rfl ?_
  refine r_iload (q := 44) dX5_orderForms_42 rfl rfl ?_
  refine r_icmp_ge 105 (q := 47) dX5_orderForms_44 (by decide) rfl (fun c7 => ?_) (fun c7 => ?_)
  · rw [if_pos c7] at h
    refine r_forget (L' := [some (.inr 36), some (.inr 7), some (.inr 1), some (.inl x3), some (.inl x4), none]) [true, true, true, true, true, false] rfl ?_
    cases h
    have hk := ke _ rfl
    exact hk
  · rw [if_neg c7] at h
    refine r_aload_n (q := 48) dX5_orderForms_47 rfl rfl ?_
    refine r_getr (b := 41) (q := 51) lk_X5_24 dX5_orderForms_48 sc_c_36 rfl rfl ?_
    refine r_iload (q := 53) dX5_orderForms_51 rfl rfl ?_
    obtain ⟨g8, h⟩ := mm_guard h
    refine r_iald (v := (s.2 41 (Int32.toNatClampNeg s.1))) (q := 54) dX5_orderForms_53 sc_c_41 (mm_vp g8) rfl rfl ?_
    refine r_aload_n (q := 55) dX5_orderForms_54 rfl rfl ?_
    refine r_getr (b := 41) (q := 58) lk_X5_24 dX5_orderForms_55 sc_c_36 rfl rfl ?_
    refine r_iload (q := 60) dX5_orderForms_58 rfl rfl ?_
    obtain ⟨g9, h⟩ := mm_guard h
    refine r_iald (v := (s.2 41 (Int32.toNatClampNeg x4))) (q := 61) dX5_orderForms_60 sc_c_41 (mm_vp g9) rfl rfl ?_
    refine r_icmp_eq 85 (q := 64) dX5_orderForms_61 (by decide) rfl (fun c10 => ?_) (fun c10 => ?_)
    · rw [if_pos c10] at h
      exact t_X5_orderForms_j85l40 hd x3 x4 s.1 s.2 _ h kb ke
    · rw [if_neg c10] at h
      refine r_aload_n (q := 65) dX5_orderForms_64 rfl rfl ?_
      refine r_aload_n (q := 66) dX5_orderForms_65 rfl rfl ?_
      refine r_getr (b := 41) (q := 69) lk_X5_24 dX5_orderForms_66 sc_c_36 rfl rfl ?_
      refine r_iload (q := 71) dX5_orderForms_69 rfl rfl ?_
      obtain ⟨g13, h⟩ := mm_guard h
      refine r_iald (v := (s.2 41 (Int32.toNatClampNeg s.1))) (q := 72) dX5_orderForms_71 sc_c_41 (mm_vp g13) rfl rfl ?_
      refine r_aload_n (q := 73) dX5_orderForms_72 rfl rfl ?_
      refine r_getr (b := 41) (q := 76) lk_X5_24 dX5_orderForms_73 sc_c_36 rfl rfl ?_
      refine r_iload (q := 78) dX5_orderForms_76 rfl rfl ?_
      obtain ⟨g14, h⟩ := mm_guard h
      refine r_iald (v := (s.2 41 (Int32.toNatClampNeg x4))) (q := 79) dX5_orderForms_78 sc_c_41 (mm_vp g14) rfl rfl ?_
      obtain ⟨y16, e15, h⟩ := Option.bind_eq_some_iff.mp h
      refine r_callV_i (av := [(.inl (s.2 41 (Int32.toNatClampNeg s.1))), (.inl (s.2 41 (Int32.toNatClampNeg x4)))]) (st := []) (q := 82) (d1 := 2) kc_X5_36 sc_c_7 dX5_orderForms_79 rfl rfl (Nat.le_of_ble_eq_true rfl) (Nat.le_of_ble_eq_true rfl) (by omega) rfl rfl (t_X8_maySwap (d := 2) (by omega) (s.2 41 (Int32.toNatClampNeg s.1)) (s.2 41 (Int32.toNatClampNeg x4)) s.2 _ e15) ?_
      refine r_if_ne 99 (q := 85) dX5_orderForms_82 (by decide) rfl (fun c17 => ?_) (fun c17 => ?_)
      · rw [if_pos (mm_b1 c17)] at h
        refine r_iinc (v := 1) (q := 102) (L' := [some (.inr 36), some (.inr 7), some (.inr 1), some (.inl x3), some (.inl x4), some (.inl (s.1 + 1))]) dX5_orderForms_99 (by decide) (by decide) rfl rfl rfl ?_
        refine r_goto 40 dX5_orderForms_102 (by decide) ?_
        cases h
        have hk := kb _ rfl
        exact hk
      · rw [if_neg (mm_b0 c17)] at h
        exact t_X5_orderForms_j85l40 hd x3 x4 s.1 s.2 _ h kb ke
noncomputable def X5_orderForms_l3 (x3 : Int32) (s : (Int32 × mm_M)) : Option ((Int32 × mm_M) ⊕ mm_M) := if x3 ≤ s.1 then some (.inr s.2) else if 10 ≤ s.1 then some (.inr s.2) else (X7_byteAt s.1 s.2).bind fun y4 => if mm_in s.1 10 = true then if mm_in s.1 10 = true then (mm_loop (X5_orderForms_l40 x3 s.1) mm_fuel (0, (mm_U (mm_U s.2 41 (Int32.toNatClampNeg s.1) y4) 42 (Int32.toNatClampNeg s.1) 0))).bind fun y18 => some (.inl ((s.1 + 1), y18)) else none else none
set_option maxRecDepth 100000 in
set_option maxHeartbeats 400000 in
theorem t_X5_orderForms_l3 {D : mm_D} {d : Nat} (hd : 3 ≤ d) {Z : Option Int32 → List mm_C → mm_M → Prop} (x3 : Int32) (n : Nat) (s : (Int32 × mm_M)) (r : mm_M) (h : mm_loop (X5_orderForms_l3 x3) n s = some r) (hx : Z none S_c r) : mm_Go jX5_orderForms D d 0 0 3 [some (.inr 36), some (.inr 7), some (.inr 1), some (.inl x3), some (.inl s.1), none] [] S_c s.2 Z := by
  refine mm_loop_go (step := X5_orderForms_l3 x3) (Hd := fun (s : (Int32 × mm_M)) => mm_Go jX5_orderForms D d 0 0 3 [some (.inr 36), some (.inr 7), some (.inr 1), some (.inl x3), some (.inl s.1), none] [] S_c s.2 Z) (Ex := fun (r : mm_M) => Z none S_c r) ?_ n s r h hx
  intro s o h kb ke
  show mm_Go jX5_orderForms D d 0 0 3 [some (.inr 36), some (.inr 7), some (.inr 1), some (.inl x3), some (.inl s.1), none] [] S_c s.2 Z
  unfold X5_orderForms_l3 at h
  refine r_iload (q := 5) dX5_orderForms_3 rfl rfl ?_
  refine r_iload_n (q := 6) dX5_orderForms_5 rfl rfl ?_
  refine r_icmp_ge 111 (q := 9) dX5_orderForms_6 (by decide) rfl (fun c1 => ?_) (fun c1 => ?_)
  · rw [if_pos c1] at h
    cases h
    have hk := ke _ rfl
    exact r_retv dX5_orderForms_111 rfl hk
  · rw [if_neg c1] at h
    refine r_iload (q := 11) dX5_orderForms_9 rfl rfl ?_
    refine r_bipush (v := 10) (q := 13) dX5_orderForms_11 (by decide) rfl ?_
    refine r_icmp_ge 111 (q := 16) dX5_orderForms_13 (by decide) rfl (fun c2 => ?_) (fun c2 => ?_)
    · rw [if_pos c2] at h
      cases h
      have hk := ke _ rfl
      exact r_retv dX5_orderForms_111 rfl hk
    · rw [if_neg c2] at h
      refine r_aload_n (q := 17) dX5_orderForms_16 rfl rfl ?_
      refine r_getr (b := 41) (q := 20) lk_X5_24 dX5_orderForms_17 sc_c_36 rfl rfl ?_
      refine r_iload (q := 22) dX5_orderForms_20 rfl rfl ?_
      refine r_aload_n (q := 23) dX5_orderForms_22 rfl rfl ?_
      refine r_iload (q := 25) dX5_orderForms_23 rfl rfl ?_
      obtain ⟨y4, e3, h⟩ := Option.bind_eq_some_iff.mp h
      refine r_callV_i (av := [(.inl s.1)]) (st := [(.inl s.1), (.inr 41)]) (q := 28) (d1 := 0) kc_X5_30 sc_c_1 dX5_orderForms_25 rfl rfl (Nat.le_of_ble_eq_true rfl) (Nat.le_of_ble_eq_true rfl) (by omega) rfl rfl (t_X7_byteAt (d := 0) (by omega) s.1 s.2 _ e3) ?_
      obtain ⟨g5, h⟩ := mm_guard h
      refine r_iast (j := (Int32.toNatClampNeg s.1)) (q := 29) dX5_orderForms_28 sc_c_41 (mm_vp g5) rfl rfl ?_
      refine r_aload_n (q := 30) dX5_orderForms_29 rfl rfl ?_
      refine r_getr (b := 42) (q := 33) lk_X5_27 dX5_orderForms_30 sc_c_36 rfl rfl ?_
      refine r_iload (q := 35) dX5_orderForms_33 rfl rfl ?_
      refine r_iconst (v := 0) (q := 36) dX5_orderForms_35 (by decide) rfl ?_
      obtain ⟨g6, h⟩ := mm_guard h
      refine r_iast (j := (Int32.toNatClampNeg s.1)) (q := 37) dX5_orderForms_36 sc_c_42 (mm_vp g6) rfl rfl ?_
      refine r_iconst (v := 0) (q := 38) dX5_orderForms_37 (by decide) rfl ?_
      refine r_istore (q := 40) (L' := [some (.inr 36), some (.inr 7), some (.inr 1), some (.inl x3), some (.inl s.1), some (.inl 0)]) dX5_orderForms_38 (by decide) rfl rfl ?_
      obtain ⟨y18, e19, h⟩ := Option.bind_eq_some_iff.mp h
      refine t_X5_orderForms_l40 hd x3 s.1 mm_fuel (0, (mm_U (mm_U s.2 41 (Int32.toNatClampNeg s.1) y4) 42 (Int32.toNatClampNeg s.1) 0)) _ e19 ?_
      show mm_Go jX5_orderForms _ _ _ _ 105 [some (.inr 36), some (.inr 7), some (.inr 1), some (.inl x3), some (.inl s.1), none] [] S_c y18 _
      refine r_iinc (v := 1) (q := 108) (L' := [some (.inr 36), some (.inr 7), some (.inr 1), some (.inl x3), some (.inl (s.1 + 1)), none]) dX5_orderForms_105 (by decide) (by decide) rfl rfl rfl ?_
      refine r_goto 3 dX5_orderForms_108 (by decide) ?_
      cases h
      have hk := kb _ rfl
      exact hk
noncomputable def X5_orderForms (x3 : Int32) (M : mm_M) : Option mm_M := (mm_loop (X5_orderForms_l3 x3) mm_fuel (0, M))
set_option maxRecDepth 100000 in
set_option maxHeartbeats 400000 in
theorem t_X5_orderForms {d : Nat} (hd : 3 ≤ d) (x3 : Int32) (M : mm_M) (res : mm_M) (h : X5_orderForms x3 M = some res) : mm_Meth jX5_orderForms d 0 0 [(.inr 36), (.inr 7), (.inr 1), (.inl x3)] S_c M (mm_Zv S_c res) := by
  refine r_meth (L := [some (.inr 36), some (.inr 7), some (.inr 1), some (.inl x3), none, none]) rfl (fun D => ?_)
  unfold X5_orderForms at h
  refine r_iconst (v := 0) (q := 1) dX5_orderForms_0 (by decide) rfl ?_
  refine r_istore (q := 3) (L' := [some (.inr 36), some (.inr 7), some (.inr 1), some (.inl x3), some (.inl 0), none]) dX5_orderForms_1 (by decide) rfl rfl ?_
  exact t_X5_orderForms_l3 hd x3 mm_fuel (0, M) _ h mm_Zv_rfl
noncomputable def X5_countForms_l52 (x2 : Int32) (x3 : Int32) (x4 : Int32) (s : (Int32 × mm_M)) : Option ((Int32 × mm_M) ⊕ mm_M) := if x2 ≤ s.1 then some (.inr s.2) else if mm_in x4 1024 = true then if (s.2 38 (Int32.toNatClampNeg x4)) = 0 then some (.inr s.2) else if (x4 ||| ((1 : Int32) <<< (s.1 &&& 31))) = x4 then some (.inl ((s.1 + 1), s.2)) else if mm_in s.1 10 = true then if ((s.2 42 (Int32.toNatClampNeg s.1)) &&& (x4 ^^^ (-1))) = 0 then if 1024 ≤ (x4 ||| ((1 : Int32) <<< (s.1 &&& 31))) then some (.inl ((s.1 + 1), s.2)) else if mm_in (x4 ||| ((1 : Int32) <<< (s.1 &&& 31))) 1024 = true then if mm_in x4 1024 = true then if mm_in (x4 ||| ((1 : Int32) <<< (s.1 &&& 31))) 1024 = true then some (.inl ((s.1 + 1), (mm_U s.2 38 (Int32.toNatClampNeg (x4 ||| ((1 : Int32) <<< (s.1 &&& 31)))) ((s.2 38 (Int32.toNatClampNeg (x4 ||| ((1 : Int32) <<< (s.1 &&& 31))))) + (s.2 38 (Int32.toNatClampNeg x4)))))) else none else none else none else some (.inl ((s.1 + 1), s.2)) else none else none
set_option maxRecDepth 100000 in
set_option maxHeartbeats 400000 in
theorem t_X5_countForms_l52 {D : mm_D} {d : Nat} (hd : 1 ≤ d) {Z : Option Int32 → List mm_C → mm_M → Prop} (x2 : Int32) (x3 : Int32) (x4 : Int32) (n : Nat) (s : (Int32 × mm_M)) (r : mm_M) (h : mm_loop (X5_countForms_l52 x2 x3 x4) n s = some r) (hx : mm_Go jX5_countForms D d 0 0 130 [some (.inr 36), none, some (.inl x2), some (.inl x3), some (.inl x4), none, none] [] S_c r Z) : mm_Go jX5_countForms D d 0 0 52 [some (.inr 36), none, some (.inl x2), some (.inl x3), some (.inl x4), some (.inl s.1), none] [] S_c s.2 Z := by
  refine mm_loop_go (step := X5_countForms_l52 x2 x3 x4) (Hd := fun (s : (Int32 × mm_M)) => mm_Go jX5_countForms D d 0 0 52 [some (.inr 36), none, some (.inl x2), some (.inl x3), some (.inl x4), some (.inl s.1), none] [] S_c s.2 Z) (Ex := fun (r : mm_M) => mm_Go jX5_countForms D d 0 0 130 [some (.inr 36), none, some (.inl x2), some (.inl x3), some (.inl x4), none, none] [] S_c r Z) ?_ n s r h hx
  intro s o h kb ke
  show mm_Go jX5_countForms D d 0 0 52 [some (.inr 36), none, some (.inl x2), some (.inl x3), some (.inl x4), some (.inl s.1), none] [] S_c s.2 Z
  unfold X5_countForms_l52 at h
  refine r_iload (q := 54) dX5_countForms_52 rfl rfl ?_
  refine r_iload_n (q := 55) dX5_countForms_54 rfl rfl ?_
  refine r_icmp_ge 130 (q := 58) dX5_countForms_55 (by decide) rfl (fun c5 => ?_) (fun c5 => ?_)
  · rw [if_pos c5] at h
    refine r_forget (L' := [some (.inr 36), none, some (.inl x2), some (.inl x3), some (.inl x4), none, none]) [true, false, true, true, true, false, false] rfl ?_
    cases h
    have hk := ke _ rfl
    exact hk
  · rw [if_neg c5] at h
    refine r_aload_n (q := 59) dX5_countForms_58 rfl rfl ?_
    refine r_getr (b := 38) (q := 62) lk_X5_15 dX5_countForms_59 sc_c_36 rfl rfl ?_
    refine r_iload (q := 64) dX5_countForms_62 rfl rfl ?_
    obtain ⟨g6, h⟩ := mm_guard h
    refine r_iald (v := (s.2 38 (Int32.toNatClampNeg x4))) (q := 65) dX5_countForms_64 sc_c_38 (mm_vp g6) rfl rfl ?_
    refine r_if_eq 130 (q := 68) dX5_countForms_65 (by decide) rfl (fun c7 => ?_) (fun c7 => ?_)
    · rw [if_pos c7] at h
      refine r_forget (L' := [some (.inr 36), none, some (.inl x2), some (.inl x3), some (.inl x4), none, none]) [true, false, true, true, true, false, false] rfl ?_
      cases h
      have hk := ke _ rfl
      exact hk
    · rw [if_neg c7] at h
      refine r_iload (q := 70) dX5_countForms_68 rfl rfl ?_
      refine r_iconst (v := 1) (q := 71) dX5_countForms_70 (by decide) rfl ?_
      refine r_iload (q := 73) dX5_countForms_71 rfl rfl ?_
      refine r_ishl (q := 74) dX5_countForms_73 rfl ?_
      refine r_ior (q := 75) dX5_countForms_74 rfl ?_
      refine r_istore (q := 77) (L' := [some (.inr 36), none, some (.inl x2), some (.inl x3), some (.inl x4), some (.inl s.1), some (.inl (x4 ||| ((1 : Int32) <<< (s.1 &&& 31))))]) dX5_countForms_75 (by decide) rfl rfl ?_
      refine r_iload (q := 79) dX5_countForms_77 rfl rfl ?_
      refine r_iload (q := 81) dX5_countForms_79 rfl rfl ?_
      refine r_icmp_eq 124 (q := 84) dX5_countForms_81 (by decide) rfl (fun c8 => ?_) (fun c8 => ?_)
      · rw [if_pos c8] at h
        refine r_iinc (v := 1) (q := 127) (L' := [some (.inr 36), none, some (.inl x2), some (.inl x3), some (.inl x4), some (.inl (s.1 + 1)), some (.inl (x4 ||| ((1 : Int32) <<< (s.1 &&& 31))))]) dX5_countForms_124 (by decide) (by decide) rfl rfl rfl ?_
        refine r_goto 52 dX5_countForms_127 (by decide) ?_
        refine r_forget (L' := [some (.inr 36), none, some (.inl x2), some (.inl x3), some (.inl x4), some (.inl (s.1 + 1)), none]) [true, false, true, true, true, true, false] rfl ?_
        cases h
        have hk := kb _ rfl
        exact hk
      · rw [if_neg c8] at h
        refine r_aload_n (q := 85) dX5_countForms_84 rfl rfl ?_
        refine r_getr (b := 42) (q := 88) lk_X5_27 dX5_countForms_85 sc_c_36 rfl rfl ?_
        refine r_iload (q := 90) dX5_countForms_88 rfl rfl ?_
        obtain ⟨g9, h⟩ := mm_guard h
        refine r_iald (v := (s.2 42 (Int32.toNatClampNeg s.1))) (q := 91) dX5_countForms_90 sc_c_42 (mm_vp g9) rfl rfl ?_
        refine r_iload (q := 93) dX5_countForms_91 rfl rfl ?_
        refine r_iconst (v := (-1)) (q := 94) dX5_countForms_93 (by decide) rfl ?_
        refine r_ixor (q := 95) dX5_countForms_94 rfl ?_
        refine r_iand (q := 96) dX5_countForms_95 rfl ?_
        refine r_if_ne 124 (q := 99) dX5_countForms_96 (by decide) rfl (fun c10 => ?_) (fun c10 => ?_)
        · rw [if_neg c10] at h
          refine r_iinc (v := 1) (q := 127) (L' := [some (.inr 36), none, some (.inl x2), some (.inl x3), some (.inl x4), some (.inl (s.1 + 1)), some (.inl (x4 ||| ((1 : Int32) <<< (s.1 &&& 31))))]) dX5_countForms_124 (by decide) (by decide) rfl rfl rfl ?_
          refine r_goto 52 dX5_countForms_127 (by decide) ?_
          refine r_forget (L' := [some (.inr 36), none, some (.inl x2), some (.inl x3), some (.inl x4), some (.inl (s.1 + 1)), none]) [true, false, true, true, true, true, false] rfl ?_
          cases h
          have hk := kb _ rfl
          exact hk
        · rw [if_pos c10] at h
          refine r_iload (q := 101) dX5_countForms_99 rfl rfl ?_
          refine r_sipush (v := 1024) (q := 104) dX5_countForms_101 (by decide) rfl ?_
          refine r_icmp_ge 124 (q := 107) dX5_countForms_104 (by decide) rfl (fun c11 => ?_) (fun c11 => ?_)
          · rw [if_pos c11] at h
            refine r_iinc (v := 1) (q := 127) (L' := [some (.inr 36), none, some (.inl x2), some (.inl x3), some (.inl x4), some (.inl (s.1 + 1)), some (.inl (x4 ||| ((1 : Int32) <<< (s.1 &&& 31))))]) dX5_countForms_124 (by decide) (by decide) rfl rfl rfl ?_
            refine r_goto 52 dX5_countForms_127 (by decide) ?_
            refine r_forget (L' := [some (.inr 36), none, some (.inl x2), some (.inl x3), some (.inl x4), some (.inl (s.1 + 1)), none]) [true, false, true, true, true, true, false] rfl ?_
            cases h
            have hk := kb _ rfl
            exact hk
          · rw [if_neg c11] at h
            refine r_aload_n (q := 108) dX5_countForms_107 rfl rfl ?_
            refine r_getr (b := 38) (q := 111) lk_X5_15 dX5_countForms_108 sc_c_36 rfl rfl ?_
            refine r_iload (q := 113) dX5_countForms_111 rfl rfl ?_
            refine r_dup2 (q := 114) dX5_countForms_113 rfl ?_
            obtain ⟨g12, h⟩ := mm_guard h
            refine r_iald (v := (s.2 38 (Int32.toNatClampNeg (x4 ||| ((1 : Int32) <<< (s.1 &&& 31)))))) (q := 115) dX5_countForms_114 sc_c_38 (mm_vp g12) rfl rfl ?_
            refine r_aload_n (q := 116) dX5_countForms_115 rfl rfl ?_
            refine r_getr (b := 38) (q := 119) lk_X5_15 dX5_countForms_116 sc_c_36 rfl rfl ?_
            refine r_iload (q := 121) dX5_countForms_119 rfl rfl ?_
            obtain ⟨g13, h⟩ := mm_guard h
            refine r_iald (v := (s.2 38 (Int32.toNatClampNeg x4))) (q := 122) dX5_countForms_121 sc_c_38 (mm_vp g13) rfl rfl ?_
            refine r_iadd (q := 123) dX5_countForms_122 rfl ?_
            obtain ⟨g14, h⟩ := mm_guard h
            refine r_iast (j := (Int32.toNatClampNeg (x4 ||| ((1 : Int32) <<< (s.1 &&& 31))))) (q := 124) dX5_countForms_123 sc_c_38 (mm_vp g14) rfl rfl ?_
            refine r_iinc (v := 1) (q := 127) (L' := [some (.inr 36), none, some (.inl x2), some (.inl x3), some (.inl x4), some (.inl (s.1 + 1)), some (.inl (x4 ||| ((1 : Int32) <<< (s.1 &&& 31))))]) dX5_countForms_124 (by decide) (by decide) rfl rfl rfl ?_
            refine r_goto 52 dX5_countForms_127 (by decide) ?_
            refine r_forget (L' := [some (.inr 36), none, some (.inl x2), some (.inl x3), some (.inl x4), some (.inl (s.1 + 1)), none]) [true, false, true, true, true, true, false] rfl ?_
            cases h
            have hk := kb _ rfl
            exact hk
noncomputable def X5_countForms_l35 (x2 : Int32) (x3 : Int32) (s : (Int32 × mm_M)) : Option ((Int32 × mm_M) ⊕ mm_M) := if x3 ≤ s.1 then some (.inr s.2) else if 1024 ≤ s.1 then some (.inr s.2) else (mm_loop (X5_countForms_l52 x2 x3 s.1) mm_fuel (0, s.2)).bind fun y15 => some (.inl ((s.1 + 1), y15))
set_option maxRecDepth 100000 in
set_option maxHeartbeats 400000 in
theorem t_X5_countForms_l35 {D : mm_D} {d : Nat} (hd : 1 ≤ d) {Z : Option Int32 → List mm_C → mm_M → Prop} (x2 : Int32) (x3 : Int32) (n : Nat) (s : (Int32 × mm_M)) (r : mm_M) (h : mm_loop (X5_countForms_l35 x2 x3) n s = some r) (hx : mm_Go jX5_countForms D d 0 0 136 [some (.inr 36), none, none, some (.inl x3), none, none, none] [] S_c r Z) : mm_Go jX5_countForms D d 0 0 35 [some (.inr 36), none, some (.inl x2), some (.inl x3), some (.inl s.1), none, none] [] S_c s.2 Z := by
  refine mm_loop_go (step := X5_countForms_l35 x2 x3) (Hd := fun (s : (Int32 × mm_M)) => mm_Go jX5_countForms D d 0 0 35 [some (.inr 36), none, some (.inl x2), some (.inl x3), some (.inl s.1), none, none] [] S_c s.2 Z) (Ex := fun (r : mm_M) => mm_Go jX5_countForms D d 0 0 136 [some (.inr 36), none, none, some (.inl x3), none, none, none] [] S_c r Z) ?_ n s r h hx
  intro s o h kb ke
  show mm_Go jX5_countForms D d 0 0 35 [some (.inr 36), none, some (.inl x2), some (.inl x3), some (.inl s.1), none, none] [] S_c s.2 Z
  unfold X5_countForms_l35 at h
  refine r_iload (q := 37) dX5_countForms_35 rfl rfl ?_
  refine r_iload_n (q := 38) dX5_countForms_37 rfl rfl ?_
  refine r_icmp_ge 136 (q := 41) dX5_countForms_38 (by decide) rfl (fun c3 => ?_) (fun c3 => ?_)
  · rw [if_pos c3] at h
    refine r_forget (L' := [some (.inr 36), none, none, some (.inl x3), none, none, none]) [true, false, false, true, false, false, false] rfl ?_
    cases h
    have hk := ke _ rfl
    exact hk
  · rw [if_neg c3] at h
    refine r_iload (q := 43) dX5_countForms_41 rfl rfl ?_
    refine r_sipush (v := 1024) (q := 46) dX5_countForms_43 (by decide) rfl ?_
    refine r_icmp_ge 136 (q := 49) dX5_countForms_46 (by decide) rfl (fun c4 => ?_) (fun c4 => ?_)
    · rw [if_pos c4] at h
      refine r_forget (L' := [some (.inr 36), none, none, some (.inl x3), none, none, none]) [true, false, false, true, false, false, false] rfl ?_
      cases h
      have hk := ke _ rfl
      exact hk
    · rw [if_neg c4] at h
      refine r_iconst (v := 0) (q := 50) dX5_countForms_49 (by decide) rfl ?_
      refine r_istore (q := 52) (L' := [some (.inr 36), none, some (.inl x2), some (.inl x3), some (.inl s.1), some (.inl 0), none]) dX5_countForms_50 (by decide) rfl rfl ?_
      obtain ⟨y15, e16, h⟩ := Option.bind_eq_some_iff.mp h
      refine t_X5_countForms_l52 hd x2 x3 s.1 mm_fuel (0, s.2) _ e16 ?_
      show mm_Go jX5_countForms _ _ _ _ 130 [some (.inr 36), none, some (.inl x2), some (.inl x3), some (.inl s.1), none, none] [] S_c y15 _
      refine r_iinc (v := 1) (q := 133) (L' := [some (.inr 36), none, some (.inl x2), some (.inl x3), some (.inl (s.1 + 1)), none, none]) dX5_countForms_130 (by decide) (by decide) rfl rfl rfl ?_
      refine r_goto 35 dX5_countForms_133 (by decide) ?_
      cases h
      have hk := kb _ rfl
      exact hk
noncomputable def X5_countForms_j136 (x3 : Int32) (M : mm_M) : Option (Int32 × mm_M) := if 1024 ≤ x3 then some (0, M) else if mm_in x3 1024 = true then some ((M 38 (Int32.toNatClampNeg x3)), M) else none
set_option maxRecDepth 100000 in
set_option maxHeartbeats 400000 in
theorem t_X5_countForms_j136 {D : mm_D} {d : Nat} (hd : 1 ≤ d) (x3 : Int32) (M : mm_M) (res : (Int32 × mm_M)) (h : X5_countForms_j136 x3 M = some res) : mm_Go jX5_countForms D d 0 0 136 [some (.inr 36), none, none, some (.inl x3), none, none, none] [] S_c M (mm_Zi res.1 S_c res.2) := by
  unfold X5_countForms_j136 at h
  refine r_iload_n (q := 137) dX5_countForms_136 rfl rfl ?_
  refine r_sipush (v := 1024) (q := 140) dX5_countForms_137 (by decide) rfl ?_
  refine r_icmp_ge 152 (q := 143) dX5_countForms_140 (by decide) rfl (fun c19 => ?_) (fun c19 => ?_)
  · rw [if_pos c19] at h
    refine r_iconst (v := 0) (q := 153) dX5_countForms_152 (by decide) rfl ?_
    cases h
    exact r_ret dX5_countForms_153 rfl mm_Zi_rfl
  · rw [if_neg c19] at h
    refine r_aload_n (q := 144) dX5_countForms_143 rfl rfl ?_
    refine r_getr (b := 38) (q := 147) lk_X5_15 dX5_countForms_144 sc_c_36 rfl rfl ?_
    refine r_iload_n (q := 148) dX5_countForms_147 rfl rfl ?_
    obtain ⟨g20, h⟩ := mm_guard h
    refine r_iald (v := (M 38 (Int32.toNatClampNeg x3))) (q := 149) dX5_countForms_148 sc_c_38 (mm_vp g20) rfl rfl ?_
    refine r_goto 153 dX5_countForms_149 (by decide) ?_
    cases h
    exact r_ret dX5_countForms_153 rfl mm_Zi_rfl
noncomputable def X5_countForms (x1 : Int32) (M : mm_M) : Option (Int32 × mm_M) := (J7_fill_53178 38 0 M).bind fun y2 => (mm_loop (X5_countForms_l35 (if 0 < (if 10 < x1 then 10 else x1) then (if 10 < x1 then 10 else x1) else 0) (((1 : Int32) <<< ((if 0 < (if 10 < x1 then 10 else x1) then (if 10 < x1 then 10 else x1) else 0) &&& 31)) - 1)) mm_fuel (0, (mm_U y2 38 0 1))).bind fun y17 => X5_countForms_j136 (((1 : Int32) <<< ((if 0 < (if 10 < x1 then 10 else x1) then (if 10 < x1 then 10 else x1) else 0) &&& 31)) - 1) y17
set_option maxRecDepth 100000 in
set_option maxHeartbeats 400000 in
theorem t_X5_countForms {d : Nat} (hd : 1 ≤ d) (x1 : Int32) (M : mm_M) (res : (Int32 × mm_M)) (h : X5_countForms x1 M = some res) : mm_Meth jX5_countForms d 0 0 [(.inr 36), (.inl x1)] S_c M (mm_Zi res.1 S_c res.2) := by
  refine r_meth (L := [some (.inr 36), some (.inl x1), none, none, none, none, none]) rfl (fun D => ?_)
  unfold X5_countForms at h
  refine r_iconst (v := 0) (q := 1) dX5_countForms_0 (by decide) rfl ?_
  refine r_iload_n (q := 2) dX5_countForms_1 rfl rfl ?_
  refine r_bipush (v := 10) (q := 4) dX5_countForms_2 (by decide) rfl ?_
  refine r_mmin (q := 7) kc_X5_42 dX5_countForms_4 (Nat.le_of_ble_eq_true rfl) rfl ?_
  refine r_mmax (q := 10) kc_X5_48 dX5_countForms_7 (Nat.le_of_ble_eq_true rfl) rfl ?_
  refine r_istore_n (q := 11) (L' := [some (.inr 36), some (.inl x1), some (.inl (if 0 < (if 10 < x1 then 10 else x1) then (if 10 < x1 then 10 else x1) else 0)), none, none, none, none]) dX5_countForms_10 (by decide) rfl rfl ?_
  refine r_iconst (v := 1) (q := 12) dX5_countForms_11 (by decide) rfl ?_
  refine r_iload_n (q := 13) dX5_countForms_12 rfl rfl ?_
  refine r_ishl (q := 14) dX5_countForms_13 rfl ?_
  refine r_iconst (v := 1) (q := 15) dX5_countForms_14 (by decide) rfl ?_
  refine r_isub (q := 16) dX5_countForms_15 rfl ?_
  refine r_istore_n (q := 17) (L' := [some (.inr 36), some (.inl x1), some (.inl (if 0 < (if 10 < x1 then 10 else x1) then (if 10 < x1 then 10 else x1) else 0)), some (.inl (((1 : Int32) <<< ((if 0 < (if 10 < x1 then 10 else x1) then (if 10 < x1 then 10 else x1) else 0) &&& 31)) - 1)), none, none, none]) dX5_countForms_16 (by decide) rfl rfl ?_
  refine r_aload_n (q := 18) dX5_countForms_17 rfl rfl ?_
  refine r_getr (b := 38) (q := 21) lk_X5_15 dX5_countForms_18 sc_c_36 rfl rfl ?_
  refine r_iconst (v := 0) (q := 22) dX5_countForms_21 (by decide) rfl ?_
  obtain ⟨y2, e1, h⟩ := Option.bind_eq_some_iff.mp h
  refine r_callS_v (av := [(.inr 38), (.inl 0)]) (st := []) (q := 25) (d1 := 0) kc_X5_51 dX5_countForms_22 rfl rfl (Nat.le_of_ble_eq_true rfl) (Nat.le_of_ble_eq_true rfl) (by omega) rfl rfl (t_J7_fill_53178_38 (d := 0) (by omega) 0 M _ e1) ?_
  refine r_aload_n (q := 26) dX5_countForms_25 rfl rfl ?_
  refine r_getr (b := 38) (q := 29) lk_X5_15 dX5_countForms_26 sc_c_36 rfl rfl ?_
  refine r_iconst (v := 0) (q := 30) dX5_countForms_29 (by decide) rfl ?_
  refine r_iconst (v := 1) (q := 31) dX5_countForms_30 (by decide) rfl ?_
  refine r_iast (j := 0) (q := 32) dX5_countForms_31 sc_c_38 (mm_vp (by decide)) rfl rfl ?_
  refine r_iconst (v := 0) (q := 33) dX5_countForms_32 (by decide) rfl ?_
  refine r_istore (q := 35) (L' := [some (.inr 36), some (.inl x1), some (.inl (if 0 < (if 10 < x1 then 10 else x1) then (if 10 < x1 then 10 else x1) else 0)), some (.inl (((1 : Int32) <<< ((if 0 < (if 10 < x1 then 10 else x1) then (if 10 < x1 then 10 else x1) else 0) &&& 31)) - 1)), some (.inl 0), none, none]) dX5_countForms_33 (by decide) rfl rfl ?_
  refine r_forget (L' := [some (.inr 36), none, some (.inl (if 0 < (if 10 < x1 then 10 else x1) then (if 10 < x1 then 10 else x1) else 0)), some (.inl (((1 : Int32) <<< ((if 0 < (if 10 < x1 then 10 else x1) then (if 10 < x1 then 10 else x1) else 0) &&& 31)) - 1)), some (.inl 0), none, none]) [true, false, true, true, true, false, false] rfl ?_
  obtain ⟨y17, e18, h⟩ := Option.bind_eq_some_iff.mp h
  refine t_X5_countForms_l35 hd (if 0 < (if 10 < x1 then 10 else x1) then (if 10 < x1 then 10 else x1) else 0) (((1 : Int32) <<< ((if 0 < (if 10 < x1 then 10 else x1) then (if 10 < x1 then 10 else x1) else 0) &&& 31)) - 1) mm_fuel (0, (mm_U y2 38 0 1)) _ e18 ?_
  show mm_Go jX5_countForms _ _ _ _ 136 [some (.inr 36), none, none, some (.inl (((1 : Int32) <<< ((if 0 < (if 10 < x1 then 10 else x1) then (if 10 < x1 then 10 else x1) else 0) &&& 31)) - 1)), none, none, none] [] S_c y17 _
  exact t_X5_countForms_j136 hd (((1 : Int32) <<< ((if 0 < (if 10 < x1 then 10 else x1) then (if 10 < x1 then 10 else x1) else 0) &&& 31)) - 1) y17 _ h
