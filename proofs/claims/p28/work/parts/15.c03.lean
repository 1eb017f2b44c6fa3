noncomputable def X11_look_j27 (x1 : Int32) (x2 : Int32) (z0 : Bool) (M : mm_M) : Option (Int32 × mm_M) := if z0 = true then if (X11_isOnTape x1 60 M) = true then if (X8_isTold M) = true then (X11_readRow x1 M).bind fun y7 => if y7.1 = 0 then if 100 ≤ x2 then (X11_lookAlong x2 y7.2).bind fun y11 => some (y11, y7.2) else if x2 < (y7.2 27 1) then (X11_lookAlong x2 y7.2).bind fun y14 => some (y14, y7.2) else some ((-4), y7.2) else some (y7.1, y7.2) else some ((-1), M) else some ((-1), M) else some ((-1), M)
set_option maxRecDepth 100000 in
set_option maxHeartbeats 400000 in
theorem t_X11_look_j27 {D : mm_D} {d : Nat} (hd : 65 ≤ d) (x1 : Int32) (x2 : Int32) (z0 : Bool) (M : mm_M) (res : (Int32 × mm_M)) (h : X11_look_j27 x1 x2 z0 M = some res) : mm_Go jX11_look D d 0 0 27 [some (.inr 0), some (.inl x1), some (.inl x2), none, none] [(.inl (mm_b z0))] S_c M (mm_Zi res.1 S_c res.2) := by
  unfold X11_look_j27 at h
  refine r_istore_n (q := 28) (L' := [some (.inr 0), some (.inl x1), some (.inl x2), some (.inl (mm_b z0)), none]) dX11_look_27 (by decide) rfl rfl ?_
  refine r_iload_n (q := 29) dX11_look_28 rfl rfl ?_
  refine r_if_eq 52 (q := 32) dX11_look_29 (by decide) rfl (fun c3 => ?_) (fun c3 => ?_)
  · rw [if_neg (mm_b0 c3)] at h
    refine r_iconst (v := (-1)) (q := 53) dX11_look_52 (by decide) rfl ?_
    cases h
    exact r_ret dX11_look_53 rfl mm_Zi_rfl
  · rw [if_pos (mm_b1 c3)] at h
    refine r_aload_n (q := 33) dX11_look_32 rfl rfl ?_
    refine r_iload_n (q := 34) dX11_look_33 rfl rfl ?_
    refine r_bipush (v := 60) (q := 36) dX11_look_34 (by decide) rfl ?_
    refine r_callV_i (av := [(.inl x1), (.inl 60)]) (st := []) (q := 39) (d1 := 0) kc_X11_108 sc_c_0 dX11_look_36 rfl rfl (Nat.le_of_ble_eq_true rfl) (Nat.le_of_ble_eq_true rfl) (by omega) rfl rfl (t_X11_isOnTape (d := 0) (by omega) x1 60 M _ rfl) ?_
    refine r_if_eq 52 (q := 42) dX11_look_39 (by decide) rfl (fun c4 => ?_) (fun c4 => ?_)
    · rw [if_neg (mm_b0 c4)] at h
      refine r_iconst (v := (-1)) (q := 53) dX11_look_52 (by decide) rfl ?_
      cases h
      exact r_ret dX11_look_53 rfl mm_Zi_rfl
    · rw [if_pos (mm_b1 c4)] at h
      refine r_aload_n (q := 43) dX11_look_42 rfl rfl ?_
      refine r_getr (b := 7) (q := 46) lk_X11_42 dX11_look_43 sc_c_0 rfl rfl ?_
      refine r_callV_i (av := []) (st := []) (q := 49) (d1 := 0) kc_X11_144 sc_c_7 dX11_look_46 rfl rfl (Nat.le_of_ble_eq_true rfl) (Nat.le_of_ble_eq_true rfl) (by omega) rfl rfl (t_X8_isTold (d := 0) (by omega) M _ rfl) ?_
      refine r_if_ne 54 (q := 52) dX11_look_49 (by decide) rfl (fun c5 => ?_) (fun c5 => ?_)
      · rw [if_pos (mm_b1 c5)] at h
        refine r_aload_n (q := 55) dX11_look_54 rfl rfl ?_
        refine r_iload_n (q := 56) dX11_look_55 rfl rfl ?_
        obtain ⟨y7, e6, h⟩ := Option.bind_eq_some_iff.mp h
        refine r_callV_i (av := [(.inl x1)]) (st := []) (q := 59) (d1 := 64) kc_X11_148 sc_c_0 dX11_look_56 rfl rfl (Nat.le_of_ble_eq_true rfl) (Nat.le_of_ble_eq_true rfl) (by omega) rfl rfl (t_X11_readRow (d := 64) (by omega) x1 M _ e6) ?_
        refine r_istore (q := 61) (L' := [some (.inr 0), some (.inl x1), some (.inl x2), some (.inl (mm_b z0)), some (.inl y7.1)]) dX11_look_59 (by decide) rfl rfl ?_
        refine r_iload (q := 63) dX11_look_61 rfl rfl ?_
        refine r_if_eq 69 (q := 66) dX11_look_63 (by decide) rfl (fun c8 => ?_) (fun c8 => ?_)
        · rw [if_pos c8] at h
          refine r_iload_n (q := 70) dX11_look_69 rfl rfl ?_
          refine r_bipush (v := 100) (q := 72) dX11_look_70 (by decide) rfl ?_
          refine r_icmp_ge 89 (q := 75) dX11_look_72 (by decide) rfl (fun c9 => ?_) (fun c9 => ?_)
          · rw [if_pos c9] at h
            refine r_aload_n (q := 90) dX11_look_89 rfl rfl ?_
            refine r_iload_n (q := 91) dX11_look_90 rfl rfl ?_
            obtain ⟨y11, e10, h⟩ := Option.bind_eq_some_iff.mp h
            refine r_callV_i (av := [(.inl x2)]) (st := []) (q := 94) (d1 := 1) kc_X11_162 sc_c_0 dX11_look_91 rfl rfl (Nat.le_of_ble_eq_true rfl) (Nat.le_of_ble_eq_true rfl) (by omega) rfl rfl (t_X11_lookAlong (d := 1) (by omega) x2 y7.2 _ e10) ?_
            cases h
            exact r_ret dX11_look_94 rfl mm_Zi_rfl
          · rw [if_neg c9] at h
            refine r_iload_n (q := 76) dX11_look_75 rfl rfl ?_
            refine r_aload_n (q := 77) dX11_look_76 rfl rfl ?_
            refine r_getr (b := 27) (q := 80) lk_X11_62 dX11_look_77 sc_c_0 rfl rfl ?_
            refine r_geti (v := (y7.2 27 1)) (q := 83) lk_X11_152 dX11_look_80 sc_c_27 rfl rfl rfl ?_
            refine r_icmp_lt 89 (q := 86) dX11_look_83 (by decide) rfl (fun c12 => ?_) (fun c12 => ?_)
            · rw [if_pos c12] at h
              refine r_aload_n (q := 90) dX11_look_89 rfl rfl ?_
              refine r_iload_n (q := 91) dX11_look_90 rfl rfl ?_
              obtain ⟨y14, e13, h⟩ := Option.bind_eq_some_iff.mp h
              refine r_callV_i (av := [(.inl x2)]) (st := []) (q := 94) (d1 := 1) kc_X11_162 sc_c_0 dX11_look_91 rfl rfl (Nat.le_of_ble_eq_true rfl) (Nat.le_of_ble_eq_true rfl) (by omega) rfl rfl (t_X11_lookAlong (d := 1) (by omega) x2 y7.2 _ e13) ?_
              cases h
              exact r_ret dX11_look_94 rfl mm_Zi_rfl
            · rw [if_neg c12] at h
              refine r_bipush (v := (-4)) (q := 88) dX11_look_86 (by decide) rfl ?_
              cases h
              exact r_ret dX11_look_88 rfl mm_Zi_rfl
        · rw [if_neg c8] at h
          refine r_iload (q := 68) dX11_look_66 rfl rfl ?_
          cases h
          exact r_ret dX11_look_68 rfl mm_Zi_rfl
      · rw [if_neg (mm_b0 c5)] at h
        refine r_iconst (v := (-1)) (q := 53) dX11_look_52 (by decide) rfl ?_
        cases h
        exact r_ret dX11_look_53 rfl mm_Zi_rfl
noncomputable def X11_look_j26 (x1 : Int32) (x2 : Int32) (M : mm_M) : Option (Int32 × mm_M) := X11_look_j27 x1 x2 false M
set_option maxRecDepth 100000 in
set_option maxHeartbeats 400000 in
theorem t_X11_look_j26 {D : mm_D} {d : Nat} (hd : 65 ≤ d) (x1 : Int32) (x2 : Int32) (M : mm_M) (res : (Int32 × mm_M)) (h : X11_look_j26 x1 x2 M = some res) : mm_Go jX11_look D d 0 0 26 [some (.inr 0), some (.inl x1), some (.inl x2), none, none] [] S_c M (mm_Zi res.1 S_c res.2) := by
  unfold X11_look_j26 at h
  refine r_iconst (v := 0) (q := 27) dX11_look_26 (by decide) rfl ?_
  exact t_X11_look_j27 hd x1 x2 false M _ h
noncomputable def X11_look_j22 (x1 : Int32) (x2 : Int32) (M : mm_M) : Option (Int32 × mm_M) := X11_look_j27 x1 x2 true M
set_option maxRecDepth 100000 in
set_option maxHeartbeats 400000 in
theorem t_X11_look_j22 {D : mm_D} {d : Nat} (hd : 65 ≤ d) (x1 : Int32) (x2 : Int32) (M : mm_M) (res : (Int32 × mm_M)) (h : X11_look_j22 x1 x2 M = some res) : mm_Go jX11_look D d 0 0 22 [some (.inr 0), some (.inl x1), some (.inl x2), none, none] [] S_c M (mm_Zi res.1 S_c res.2) := by
  unfold X11_look_j22 at h
  refine r_iconst (v := 1) (q := 23) dX11_look_22 (by decide) rfl ?_
  refine r_goto 27 dX11_look_23 (by decide) ?_
  exact t_X11_look_j27 hd x1 x2 true M _ h
noncomputable def X11_look_j10 (x1 : Int32) (x2 : Int32) (M : mm_M) : Option (Int32 × mm_M) := if x2 < 100 then X11_look_j26 x1 x2 M else if 104 < x2 then X11_look_j26 x1 x2 M else X11_look_j22 x1 x2 M
set_option maxRecDepth 100000 in
set_option maxHeartbeats 400000 in
theorem t_X11_look_j10 {D : mm_D} {d : Nat} (hd : 65 ≤ d) (x1 : Int32) (x2 : Int32) (M : mm_M) (res : (Int32 × mm_M)) (h : X11_look_j10 x1 x2 M = some res) : mm_Go jX11_look D d 0 0 10 [some (.inr 0), some (.inl x1), some (.inl x2), none, none] [] S_c M (mm_Zi res.1 S_c res.2) := by
  unfold X11_look_j10 at h
  refine r_iload_n (q := 11) dX11_look_10 rfl rfl ?_
  refine r_bipush (v := 100) (q := 13) dX11_look_11 (by decide) rfl ?_
  refine r_icmp_lt 26 (q := 16) dX11_look_13 (by decide) rfl (fun c2 => ?_) (fun c2 => ?_)
  · rw [if_pos c2] at h
    exact t_X11_look_j26 hd x1 x2 M _ h
  · rw [if_neg c2] at h
    refine r_iload_n (q := 17) dX11_look_16 rfl rfl ?_
    refine r_bipush (v := 104) (q := 19) dX11_look_17 (by decide) rfl ?_
    refine r_icmp_gt 26 (q := 22) dX11_look_19 (by decide) rfl (fun c15 => ?_) (fun c15 => ?_)
    · rw [if_pos c15] at h
      exact t_X11_look_j26 hd x1 x2 M _ h
    · rw [if_neg c15] at h
      exact t_X11_look_j22 hd x1 x2 M _ h
noncomputable def X11_look (x1 : Int32) (x2 : Int32) (M : mm_M) : Option (Int32 × mm_M) := if x2 < 0 then X11_look_j10 x1 x2 M else if x2 < 40 then X11_look_j22 x1 x2 M else X11_look_j10 x1 x2 M
set_option maxRecDepth 100000 in
set_option maxHeartbeats 400000 in
theorem t_X11_look {d : Nat} (hd : 65 ≤ d) (x1 : Int32) (x2 : Int32) (M : mm_M) (res : (Int32 × mm_M)) (h : X11_look x1 x2 M = some res) : mm_Meth jX11_look d 0 0 [(.inr 0), (.inl x1), (.inl x2)] S_c M (mm_Zi res.1 S_c res.2) := by
  refine r_meth (L := [some (.inr 0), some (.inl x1), some (.inl x2), none, none]) rfl (fun D => ?_)
  unfold X11_look at h
  refine r_iload_n (q := 1) dX11_look_0 rfl rfl ?_
  refine r_if_lt 10 (q := 4) dX11_look_1 (by decide) rfl (fun c1 => ?_) (fun c1 => ?_)
  · rw [if_pos c1] at h
    exact t_X11_look_j10 hd x1 x2 M _ h
  · rw [if_neg c1] at h
    refine r_iload_n (q := 5) dX11_look_4 rfl rfl ?_
    refine r_bipush (v := 40) (q := 7) dX11_look_5 (by decide) rfl ?_
    refine r_icmp_lt 22 (q := 10) dX11_look_7 (by decide) rfl (fun c16 => ?_) (fun c16 => ?_)
    · rw [if_pos c16] at h
      exact t_X11_look_j22 hd x1 x2 M _ h
    · rw [if_neg c16] at h
      exact t_X11_look_j10 hd x1 x2 M _ h
noncomputable def X6_draw (a0 : Nat) (M : mm_M) : (Int32 × mm_M) := ((((((25173 : Int32) * (M a0 7)) + 13849) &&& 65535) - ((((25173 : Int32) * (M a0 7)) + 13849) &&& 65535) / 10 * 10), (mm_U M a0 7 ((((25173 : Int32) * (M a0 7)) + 13849) &&& 65535)))
set_option maxRecDepth 100000 in
set_option maxHeartbeats 400000 in
theorem t_X6_draw_4 {d : Nat} (hd : 0 ≤ d) (M : mm_M) (res : (Int32 × mm_M)) (h : X6_draw 4 M = res) : mm_Meth jX6_draw d 0 0 [(.inr 4)] S_c M (mm_Zi res.1 S_c res.2) := by
  refine r_meth (L := [some (.inr 4)]) rfl (fun D => ?_)
  unfold X6_draw at h
  refine r_aload_n (q := 1) dX6_draw_0 rfl rfl ?_
  refine r_sipush (v := 25173) (q := 4) dX6_draw_1 (by decide) rfl ?_
  refine r_aload_n (q := 5) dX6_draw_4 rfl rfl ?_
  refine r_geti (v := (M 4 7)) (q := 8) lk_X6_18 dX6_draw_5 rfl rfl rfl rfl ?_
  refine r_imul (q := 9) dX6_draw_8 rfl ?_
  refine r_sipush (v := 13849) (q := 12) dX6_draw_9 (by decide) rfl ?_
  refine r_iadd (q := 13) dX6_draw_12 rfl ?_
  refine r_ldc (v := 65535) (q := 15) dX6_draw_13 ko_X6_51 rfl ?_
  refine r_iand (q := 16) dX6_draw_15 rfl ?_
  refine r_puti (q := 19) lk_X6_18 ft_4_7 dX6_draw_16 rfl rfl rfl ?_
  refine r_aload_n (q := 20) dX6_draw_19 rfl rfl ?_
  refine r_geti (v := ((((25173 : Int32) * (M 4 7)) + 13849) &&& 65535)) (q := 23) lk_X6_18 dX6_draw_20 rfl rfl rfl rfl ?_
  refine r_bipush (v := 10) (q := 25) dX6_draw_23 (by decide) rfl ?_
  refine r_irem (q := 26) dX6_draw_25 (by decide) rfl ?_
  subst h
  exact r_ret dX6_draw_26 rfl mm_Zi_rfl
set_option maxRecDepth 100000 in
set_option maxHeartbeats 400000 in
theorem t_X6_draw_6 {d : Nat} (hd : 0 ≤ d) (M : mm_M) (res : (Int32 × mm_M)) (h : X6_draw 6 M = res) : mm_Meth jX6_draw d 0 0 [(.inr 6)] S_c M (mm_Zi res.1 S_c res.2) := by
  refine r_meth (L := [some (.inr 6)]) rfl (fun D => ?_)
  unfold X6_draw at h
  refine r_aload_n (q := 1) dX6_draw_0 rfl rfl ?_
  refine r_sipush (v := 25173) (q := 4) dX6_draw_1 (by decide) rfl ?_
  refine r_aload_n (q := 5) dX6_draw_4 rfl rfl ?_
  refine r_geti (v := (M 6 7)) (q := 8) lk_X6_18 dX6_draw_5 rfl rfl rfl rfl ?_
  refine r_imul (q := 9) dX6_draw_8 rfl ?_
  refine r_sipush (v := 13849) (q := 12) dX6_draw_9 (by decide) rfl ?_
  refine r_iadd (q := 13) dX6_draw_12 rfl ?_
  refine r_ldc (v := 65535) (q := 15) dX6_draw_13 ko_X6_51 rfl ?_
  refine r_iand (q := 16) dX6_draw_15 rfl ?_
  refine r_puti (q := 19) lk_X6_18 ft_4_7 dX6_draw_16 rfl rfl rfl ?_
  refine r_aload_n (q := 20) dX6_draw_19 rfl rfl ?_
  refine r_geti (v := ((((25173 : Int32) * (M 6 7)) + 13849) &&& 65535)) (q := 23) lk_X6_18 dX6_draw_20 rfl rfl rfl rfl ?_
  refine r_bipush (v := 10) (q := 25) dX6_draw_23 (by decide) rfl ?_
  refine r_irem (q := 26) dX6_draw_25 (by decide) rfl ?_
  subst h
  exact r_ret dX6_draw_26 rfl mm_Zi_rfl
noncomputable def X1_setLetters (a1 : Nat) (x2 : Int32) (M : mm_M) : mm_M := (mm_U (mm_U (mm_U (mm_U (mm_U (mm_U (mm_U M 30 1 (M a1 1)) 30 2 (M a1 2)) 30 4 (M a1 3)) 30 5 ((M a1 4) - (M a1 4) / 100 * 100)) 30 6 ((M a1 5) - (M a1 5) / 100 * 100)) 30 7 ((M a1 6) - (M a1 6) / 100 * 100)) 30 8 x2)
set_option maxRecDepth 100000 in
set_option maxHeartbeats 400000 in
theorem t_X1_setLetters_29_4 {d : Nat} (hd : 0 ≤ d) (x2 : Int32) (M : mm_M) (res : mm_M) (h : X1_setLetters 4 x2 M = res) : mm_Meth jX1_setLetters d 0 0 [(.inr 29), (.inr 4), (.inl x2)] S_c M (mm_Zv S_c res) := by
  refine r_meth (L := [some (.inr 29), some (.inr 4), some (.inl x2)]) rfl (fun D => ?_)
  unfold X1_setLetters at h
  refine r_aload_n (q := 1) dX1_setLetters_0 rfl rfl ?_
  refine r_getr (b := 30) (q := 4) lk_X1_9 dX1_setLetters_1 sc_c_29 rfl rfl ?_
  refine r_iconst (v := 1) (q := 5) dX1_setLetters_4 (by decide) rfl ?_
  refine r_aload_n (q := 6) dX1_setLetters_5 rfl rfl ?_
  refine r_geti (v := (M 4 1)) (q := 9) lk_X1_52 dX1_setLetters_6 rfl rfl rfl rfl ?_
  refine r_iast (j := 1) (q := 10) dX1_setLetters_9 sc_c_30 (mm_vp (by decide)) rfl rfl ?_
  refine r_aload_n (q := 11) dX1_setLetters_10 rfl rfl ?_
  refine r_getr (b := 30) (q := 14) lk_X1_9 dX1_setLetters_11 sc_c_29 rfl rfl ?_
  refine r_iconst (v := 2) (q := 15) dX1_setLetters_14 (by decide) rfl ?_
  refine r_aload_n (q := 16) dX1_setLetters_15 rfl rfl ?_
  refine r_geti (v := (M 4 2)) (q := 19) lk_X1_79 dX1_setLetters_16 rfl rfl rfl rfl ?_
  refine r_iast (j := 2) (q := 20) dX1_setLetters_19 sc_c_30 (mm_vp (by decide)) rfl rfl ?_
  refine r_aload_n (q := 21) dX1_setLetters_20 rfl rfl ?_
  refine r_getr (b := 30) (q := 24) lk_X1_9 dX1_setLetters_21 sc_c_29 rfl rfl ?_
  refine r_iconst (v := 4) (q := 25) dX1_setLetters_24 (by decide) rfl ?_
  refine r_aload_n (q := 26) dX1_setLetters_25 rfl rfl ?_
  refine r_geti (v := (M 4 3)) (q := 29) lk_X1_45 dX1_setLetters_26 rfl rfl rfl rfl ?_
  refine r_iast (j := 4) (q := 30) dX1_setLetters_29 sc_c_30 (mm_vp (by decide)) rfl rfl ?_
  refine r_aload_n (q := 31) dX1_setLetters_30 rfl rfl ?_
  refine r_getr (b := 30) (q := 34) lk_X1_9 dX1_setLetters_31 sc_c_29 rfl rfl ?_
  refine r_iconst (v := 5) (q := 35) dX1_setLetters_34 (by decide) rfl ?_
  refine r_aload_n (q := 36) dX1_setLetters_35 rfl rfl ?_
  refine r_geti (v := (M 4 4)) (q := 39) lk_X1_82 dX1_setLetters_36 rfl rfl rfl rfl ?_
  refine r_bipush (v := 100) (q := 41) dX1_setLetters_39 (by decide) rfl ?_
  refine r_irem (q := 42) dX1_setLetters_41 (by decide) rfl ?_
  refine r_iast (j := 5) (q := 43) dX1_setLetters_42 sc_c_30 (mm_vp (by decide)) rfl rfl ?_
  refine r_aload_n (q := 44) dX1_setLetters_43 rfl rfl ?_
  refine r_getr (b := 30) (q := 47) lk_X1_9 dX1_setLetters_44 sc_c_29 rfl rfl ?_
  refine r_bipush (v := 6) (q := 49) dX1_setLetters_47 (by decide) rfl ?_
  refine r_aload_n (q := 50) dX1_setLetters_49 rfl rfl ?_
  refine r_geti (v := (M 4 5)) (q := 53) lk_X1_85 dX1_setLetters_50 rfl rfl rfl rfl ?_
  refine r_bipush (v := 100) (q := 55) dX1_setLetters_53 (by decide) rfl ?_
  refine r_irem (q := 56) dX1_setLetters_55 (by decide) rfl ?_
  refine r_iast (j := 6) (q := 57) dX1_setLetters_56 sc_c_30 (mm_vp (by decide)) rfl rfl ?_
  refine r_aload_n (q := 58) dX1_setLetters_57 rfl rfl ?_
  refine r_getr (b := 30) (q := 61) lk_X1_9 dX1_setLetters_58 sc_c_29 rfl rfl ?_
  refine r_bipush (v := 7) (q := 63) dX1_setLetters_61 (by decide) rfl ?_
  refine r_aload_n (q := 64) dX1_setLetters_63 rfl rfl ?_
  refine r_geti (v := (M 4 6)) (q := 67) lk_X1_22 dX1_setLetters_64 rfl rfl rfl rfl ?_
  refine r_bipush (v := 100) (q := 69) dX1_setLetters_67 (by decide) rfl ?_
  refine r_irem (q := 70) dX1_setLetters_69 (by decide) rfl ?_
  refine r_iast (j := 7) (q := 71) dX1_setLetters_70 sc_c_30 (mm_vp (by decide)) rfl rfl ?_
  refine r_aload_n (q := 72) dX1_setLetters_71 rfl rfl ?_
  refine r_getr (b := 30) (q := 75) lk_X1_9 dX1_setLetters_72 sc_c_29 rfl rfl ?_
  refine r_bipush (v := 8) (q := 77) dX1_setLetters_75 (by decide) rfl ?_
  refine r_iload_n (q := 78) dX1_setLetters_77 rfl rfl ?_
  refine r_iast (j := 8) (q := 79) dX1_setLetters_78 sc_c_30 (mm_vp (by decide)) rfl rfl ?_
  subst h
  exact r_retv dX1_setLetters_79 rfl mm_Zv_rfl
set_option maxRecDepth 100000 in
set_option maxHeartbeats 400000 in
theorem t_X1_setLetters_29_6 {d : Nat} (hd : 0 ≤ d) (x2 : Int32) (M : mm_M) (res : mm_M) (h : X1_setLetters 6 x2 M = res) : mm_Meth jX1_setLetters d 0 0 [(.inr 29), (.inr 6), (.inl x2)] S_c M (mm_Zv S_c res) := by
  refine r_meth (L := [some (.inr 29), some (.inr 6), some (.inl x2)]) rfl (fun D => ?_)
  unfold X1_setLetters at h
  refine r_aload_n (q := 1) dX1_setLetters_0 rfl rfl ?_
  refine r_getr (b := 30) (q := 4) lk_X1_9 dX1_setLetters_1 sc_c_29 rfl rfl ?_
  refine r_iconst (v := 1) (q := 5) dX1_setLetters_4 (by decide) rfl ?_
  refine r_aload_n (q := 6) dX1_setLetters_5 rfl rfl ?_
  refine r_geti (v := (M 6 1)) (q := 9) lk_X1_52 dX1_setLetters_6 rfl rfl rfl rfl ?_
  refine r_iast (j := 1) (q := 10) dX1_setLetters_9 sc_c_30 (mm_vp (by decide)) rfl rfl ?_
  refine r_aload_n (q := 11) dX1_setLetters_10 rfl rfl ?_
  refine r_getr (b := 30) (q := 14) lk_X1_9 dX1_setLetters_11 sc_c_29 rfl rfl ?_
  refine r_iconst (v := 2) (q := 15) dX1_setLetters_14 (by decide) rfl ?_
  refine r_aload_n (q := 16) dX1_setLetters_15 rfl rfl ?_
  refine r_geti (v := (M 6 2)) (q := 19) lk_X1_79 dX1_setLetters_16 rfl rfl rfl rfl ?_
  refine r_iast (j := 2) (q := 20) dX1_setLetters_19 sc_c_30 (mm_vp (by decide)) rfl rfl ?_
  refine r_aload_n (q := 21) dX1_setLetters_20 rfl rfl ?_
  refine r_getr (b := 30) (q := 24) lk_X1_9 dX1_setLetters_21 sc_c_29 rfl rfl ?_
  refine r_iconst (v := 4) (q := 25) dX1_setLetters_24 (by decide) rfl ?_
  refine r_aload_n (q := 26) dX1_setLetters_25 rfl rfl ?_
  refine r_geti (v := (M 6 3)) (q := 29) lk_X1_45 dX1_setLetters_26 rfl rfl rfl rfl ?_
  refine r_iast (j := 4) (q := 30) dX1_setLetters_29 sc_c_30 (mm_vp (by decide)) rfl rfl ?_
  refine r_aload_n (q := 31) dX1_setLetters_30 rfl rfl ?_
  refine r_getr (b := 30) (q := 34) lk_X1_9 dX1_setLetters_31 sc_c_29 rfl rfl ?_
  refine r_iconst (v := 5) (q := 35) dX1_setLetters_34 (by decide) rfl ?_
  refine r_aload_n (q := 36) dX1_setLetters_35 rfl rfl ?_
  refine r_geti (v := (M 6 4)) (q := 39) lk_X1_82 dX1_setLetters_36 rfl rfl rfl rfl ?_
  refine r_bipush (v := 100) (q := 41) dX1_setLetters_39 (by decide) rfl ?_
  refine r_irem (q := 42) dX1_setLetters_41 (by decide) rfl ?_
  refine r_iast (j := 5) (q := 43) dX1_setLetters_42 sc_c_30 (mm_vp (by decide)) rfl rfl ?_
  refine r_aload_n (q := 44) dX1_setLetters_43 rfl rfl ?_
  refine r_getr (b := 30) (q := 47) lk_X1_9 dX1_setLetters_44 sc_c_29 rfl rfl ?_
  refine r_bipush (v := 6) (q := 49) dX1_setLetters_47 (by decide) rfl ?_
  refine r_aload_n (q := 50) dX1_setLetters_49 rfl rfl ?_
  refine r_geti (v := (M 6 5)) (q := 53) lk_X1_85 dX1_setLetters_50 rfl rfl rfl rfl ?_
  refine r_bipush (v := 100) (q := 55) dX1_setLetters_53 (by decide) rfl ?_
  refine r_irem (q := 56) dX1_setLetters_55 (by decide) rfl ?_
  refine r_iast (j := 6) (q := 57) dX1_setLetters_56 sc_c_30 (mm_vp (by decide)) rfl rfl ?_
  refine r_aload_n (q := 58) dX1_setLetters_57 rfl rfl ?_
  refine r_getr (b := 30) (q := 61) lk_X1_9 dX1_setLetters_58 sc_c_29 rfl rfl ?_
  refine r_bipush (v := 7) (q := 63) dX1_setLetters_61 (by decide) rfl ?_
  refine r_aload_n (q := 64) dX1_setLetters_63 rfl rfl ?_
  refine r_geti (v := (M 6 6)) (q := 67) lk_X1_22 dX1_setLetters_64 rfl rfl rfl rfl ?_
  refine r_bipush (v := 100) (q := 69) dX1_setLetters_67 (by decide) rfl ?_
  refine r_irem (q := 70) dX1_setLetters_69 (by decide) rfl ?_
  refine r_iast (j := 7) (q := 71) dX1_setLetters_70 sc_c_30 (mm_vp (by decide)) rfl rfl ?_
  refine r_aload_n (q := 72) dX1_setLetters_71 rfl rfl ?_
  refine r_getr (b := 30) (q := 75) lk_X1_9 dX1_setLetters_72 sc_c_29 rfl rfl ?_
  refine r_bipush (v := 8) (q := 77) dX1_setLetters_75 (by decide) rfl ?_
  refine r_iload_n (q := 78) dX1_setLetters_77 rfl rfl ?_
  refine r_iast (j := 8) (q := 79) dX1_setLetters_78 sc_c_30 (mm_vp (by decide)) rfl rfl ?_
  subst h
  exact r_retv dX1_setLetters_79 rfl mm_Zv_rfl
noncomputable def X1_setQuestion (x1 : Int32) (x2 : Int32) (M : mm_M) : mm_M := (mm_U (mm_U M 30 0 x1) 30 3 x2)
set_option maxRecDepth 100000 in
set_option maxHeartbeats 400000 in
theorem t_X1_setQuestion {d : Nat} (hd : 0 ≤ d) (x1 : Int32) (x2 : Int32) (M : mm_M) (res : mm_M) (h : X1_setQuestion x1 x2 M = res) : mm_Meth jX1_setQuestion d 0 0 [(.inr 29), (.inl x1), (.inl x2)] S_c M (mm_Zv S_c res) := by
  refine r_meth (L := [some (.inr 29), some (.inl x1), some (.inl x2)]) rfl (fun D => ?_)
  unfold X1_setQuestion at h
  refine r_aload_n (q := 1) dX1_setQuestion_0 rfl rfl ?_
  refine r_getr (b := 30) (q := 4) lk_X1_9 dX1_setQuestion_1 sc_c_29 rfl rfl ?_
  refine r_iconst (v := 0) (q := 5) dX1_setQuestion_4 (by decide) rfl ?_
  refine r_iload_n (q := 6) dX1_setQuestion_5 rfl rfl ?_
  refine r_iast (j := 0) (q := 7) dX1_setQuestion_6 sc_c_30 (mm_vp (by decide)) rfl rfl ?_
  refine r_aload_n (q := 8) dX1_setQuestion_7 rfl rfl ?_
  refine r_getr (b := 30) (q := 11) lk_X1_9 dX1_setQuestion_8 sc_c_29 rfl rfl ?_
  refine r_iconst (v := 3) (q := 12) dX1_setQuestion_11 (by decide) rfl ?_
  refine r_iload_n (q := 13) dX1_setQuestion_12 rfl rfl ?_
  refine r_iast (j := 3) (q := 14) dX1_setQuestion_13 sc_c_30 (mm_vp (by decide)) rfl rfl ?_
  subst h
  exact r_retv dX1_setQuestion_14 rfl mm_Zv_rfl
noncomputable def X2_pop (M : mm_M) : Option (Int32 × mm_M) := if (M 13 8) ≤ 0 then some (0, M) else if (M 13 8) ≤ 64 then if mm_in ((M 13 8) - 1) 64 = true then some ((M 19 (Int32.toNatClampNeg ((M 13 8) - 1))), (mm_U M 13 8 ((M 13 8) - 1))) else none else some (0, M)
set_option maxRecDepth 100000 in
set_option maxHeartbeats 400000 in
theorem t_X2_pop {d : Nat} (hd : 0 ≤ d) (M : mm_M) (res : (Int32 × mm_M)) (h : X2_pop M = some res) : mm_Meth jX2_pop d 0 0 [(.inr 13)] S_c M (mm_Zi res.1 S_c res.2) := by
  refine r_meth (L := [some (.inr 13)]) rfl (fun D => ?_)
  unfold X2_pop at h
  refine r_aload_n (q := 1) dX2_pop_0 rfl rfl ?_
  refine r_geti (v := (M 13 8)) (q := 4) lk_X2_58 dX2_pop_1 sc_c_13 rfl rfl rfl ?_
  refine r_if_le 16 (q := 7) dX2_pop_4 (by decide) rfl (fun c1 => ?_) (fun c1 => ?_)
  · rw [if_pos c1] at h
    refine r_iconst (v := 0) (q := 17) dX2_pop_16 (by decide) rfl ?_
    cases h
    exact r_ret dX2_pop_17 rfl mm_Zi_rfl
  · rw [if_neg c1] at h
    refine r_aload_n (q := 8) dX2_pop_7 rfl rfl ?_
    refine r_geti (v := (M 13 8)) (q := 11) lk_X2_58 dX2_pop_8 sc_c_13 rfl rfl rfl ?_
    refine r_bipush (v := 64) (q := 13) dX2_pop_11 (by decide) rfl ?_
    refine r_icmp_le 18 (q := 16) dX2_pop_13 (by decide) rfl (fun c2 => ?_) (fun c2 => ?_)
    · rw [if_pos c2] at h
      refine r_aload_n (q := 19) dX2_pop_18 rfl rfl ?_
      refine r_dup (q := 20) dX2_pop_19 rfl ?_
      refine r_geti (v := (M 13 8)) (q := 23) lk_X2_58 dX2_pop_20 sc_c_13 rfl rfl rfl ?_
      refine r_iconst (v := 1) (q := 24) dX2_pop_23 (by decide) rfl ?_
      refine r_isub (q := 25) dX2_pop_24 rfl ?_
      refine r_puti (q := 28) lk_X2_58 ft_1_8 dX2_pop_25 sc_c_13 rfl rfl ?_
      refine r_aload_n (q := 29) dX2_pop_28 rfl rfl ?_
      refine r_getr (b := 19) (q := 32) lk_X2_27 dX2_pop_29 sc_c_13 rfl rfl ?_
      refine r_aload_n (q := 33) dX2_pop_32 rfl rfl ?_
      refine r_geti (v := ((M 13 8) - 1)) (q := 36) lk_X2_58 dX2_pop_33 sc_c_13 rfl rfl rfl ?_
      obtain ⟨g3, h⟩ := mm_guard h
      refine r_iald (v := (M 19 (Int32.toNatClampNeg ((M 13 8) - 1)))) (q := 37) dX2_pop_36 sc_c_19 (mm_vp g3) rfl rfl ?_
      cases h
      exact r_ret dX2_pop_37 rfl mm_Zi_rfl
    · rw [if_neg c2] at h
      refine r_iconst (v := 0) (q := 17) dX2_pop_16 (by decide) rfl ?_
      cases h
      exact r_ret dX2_pop_17 rfl mm_Zi_rfl
noncomputable def X2_push (x1 : Int32) (M : mm_M) : mm_M := if (M 13 8) < 0 then M else if 64 ≤ (M 13 8) then M else (mm_U (mm_U M 19 (Int32.toNatClampNeg (M 13 8)) x1) 13 8 ((M 13 8) + 1))
set_option maxRecDepth 100000 in
set_option maxHeartbeats 400000 in
theorem t_X2_push {d : Nat} (hd : 0 ≤ d) (x1 : Int32) (M : mm_M) (res : mm_M) (h : X2_push x1 M = res) : mm_Meth jX2_push d 0 0 [(.inr 13), (.inl x1)] S_c M (mm_Zv S_c res) := by
  refine r_meth (L := [some (.inr 13), some (.inl x1)]) rfl (fun D => ?_)
  unfold X2_push at h
  refine r_aload_n (q := 1) dX2_push_0 rfl rfl ?_
  refine r_geti (v := (M 13 8)) (q := 4) lk_X2_58 dX2_push_1 sc_c_13 rfl rfl rfl ?_
  refine r_if_lt 36 (q := 7) dX2_push_4 (by decide) rfl (fun c1 => ?_) (fun c1 => ?_)
  · rw [if_pos c1] at h
    subst h
    exact r_retv dX2_push_36 rfl mm_Zv_rfl
  · rw [if_neg c1] at h
    refine r_aload_n (q := 8) dX2_push_7 rfl rfl ?_
    refine r_geti (v := (M 13 8)) (q := 11) lk_X2_58 dX2_push_8 sc_c_13 rfl rfl rfl ?_
    refine r_bipush (v := 64) (q := 13) dX2_push_11 (by decide) rfl ?_
    refine r_icmp_ge 36 (q := 16) dX2_push_13 (by decide) rfl (fun c2 => ?_) (fun c2 => ?_)
    · rw [if_pos c2] at h
      subst h
      exact r_retv dX2_push_36 rfl mm_Zv_rfl
    · rw [if_neg c2] at h
      refine r_aload_n (q := 17) dX2_push_16 rfl rfl ?_
      refine r_getr (b := 19) (q := 20) lk_X2_27 dX2_push_17 sc_c_13 rfl rfl ?_
      refine r_aload_n (q := 21) dX2_push_20 rfl rfl ?_
      refine r_geti (v := (M 13 8)) (q := 24) lk_X2_58 dX2_push_21 sc_c_13 rfl rfl rfl ?_
      refine r_iload_n (q := 25) dX2_push_24 rfl rfl ?_
      refine r_iast (j := (Int32.toNatClampNeg (M 13 8))) (q := 26) dX2_push_25 sc_c_19 (mm_vp2 (Int32.not_lt.mp c1) (Int32.not_le.mp c2) (by decide)) rfl rfl ?_
      refine r_aload_n (q := 27) dX2_push_26 rfl rfl ?_
      refine r_dup (q := 28) dX2_push_27 rfl ?_
      refine r_geti (v := (M 13 8)) (q := 31) lk_X2_58 dX2_push_28 sc_c_13 rfl rfl rfl ?_
      refine r_iconst (v := 1) (q := 32) dX2_push_31 (by decide) rfl ?_
      refine r_iadd (q := 33) dX2_push_32 rfl ?_
      refine r_puti (q := 36) lk_X2_58 ft_1_8 dX2_push_33 sc_c_13 rfl rfl ?_
      subst h
      exact r_retv dX2_push_36 rfl mm_Zv_rfl
noncomputable def X2_join (x1 : Int32) (x2 : Int32) (x3 : Int32) (M : mm_M) : (Int32 × mm_M) := if x1 = 37 then if x3 = 0 then (0, (mm_U M 13 9 1)) else if x1 = 47 then ((x2 / x3), M) else ((x2 - x2 / x3 * x3), M) else if x1 = 42 then ((x2 * x3), M) else if x1 = 43 then ((x2 + x3), M) else if x1 = 45 then ((x2 - x3), M) else if x1 = 47 then if x3 = 0 then (0, (mm_U M 13 9 1)) else if x1 = 47 then ((x2 / x3), M) else ((x2 - x2 / x3 * x3), M) else if x1 = 60 then if x3 ≤ x2 then (0, M) else (1, M) else if x1 = 62 then if x2 ≤ x3 then (0, M) else (1, M) else if x2 = x3 then (1, M) else (0, M)
set_option maxRecDepth 100000 in
set_option maxHeartbeats 400000 in
theorem t_X2_join {d : Nat} (hd : 0 ≤ d) (x1 : Int32) (x2 : Int32) (x3 : Int32) (M : mm_M) (res : (Int32 × mm_M)) (h : X2_join x1 x2 x3 M = res) : mm_Meth jX2_join d 0 0 [(.inr 13), (.inl x1), (.inl x2), (.inl x3)] S_c M (mm_Zi res.1 S_c res.2) := by
  refine r_meth (L := [some (.inr 13), some (.inl x1), some (.inl x2), some (.inl x3)]) rfl (fun D => ?_)
  unfold X2_join at h
  refine r_iload_n (q := 1) dX2_join_0 rfl rfl ?_
  by_cases c1 : x1 = 37
  · rw [if_pos c1] at h
    refine mm_lookup (off := 79) 80 dX2_join_1 (by decide) (by rw [c1]; decide) (by decide) ?_
    refine r_iload_n (q := 81) dX2_join_80 rfl rfl ?_
    refine r_if_ne 91 (q := 84) dX2_join_81 (by decide) rfl (fun c8 => ?_) (fun c8 => ?_)
    · rw [if_neg c8] at h
      refine r_iload_n (q := 92) dX2_join_91 rfl rfl ?_
      refine r_bipush (v := 47) (q := 94) dX2_join_92 (by decide) rfl ?_
      refine r_icmp_ne 103 (q := 97) dX2_join_94 (by decide) rfl (fun c9 => ?_) (fun c9 => ?_)
      · rw [if_neg c9] at h
        refine r_iload_n (q := 104) dX2_join_103 rfl rfl ?_
        refine r_iload_n (q := 105) dX2_join_104 rfl rfl ?_
        refine r_irem (q := 106) dX2_join_105 c8 rfl ?_
        subst h
        exact r_ret dX2_join_106 rfl mm_Zi_rfl
      · rw [if_pos c9] at h
        refine r_iload_n (q := 98) dX2_join_97 rfl rfl ?_
        refine r_iload_n (q := 99) dX2_join_98 rfl rfl ?_
        refine r_idiv (q := 100) dX2_join_99 c8 rfl ?_
        refine r_goto 106 dX2_join_100 (by decide) ?_
        subst h
        exact r_ret dX2_join_106 rfl mm_Zi_rfl
    · rw [if_pos c8] at h
      refine r_aload_n (q := 85) dX2_join_84 rfl rfl ?_
      refine r_iconst (v := 1) (q := 86) dX2_join_85 (by decide) rfl ?_
      refine r_putb (q := 89) lk_X2_45 ft_1_9 dX2_join_86 sc_c_13 rfl (Or.inr rfl) rfl ?_
      refine r_iconst (v := 0) (q := 90) dX2_join_89 (by decide) rfl ?_
      subst h
      exact r_ret dX2_join_90 rfl mm_Zi_rfl
  · rw [if_neg c1] at h
    by_cases c2 : x1 = 42
    · rw [if_pos c2] at h
      refine mm_lookup (off := 75) 76 dX2_join_1 (by decide) (by rw [c2]; decide) (by decide) ?_
      refine r_iload_n (q := 77) dX2_join_76 rfl rfl ?_
      refine r_iload_n (q := 78) dX2_join_77 rfl rfl ?_
      refine r_imul (q := 79) dX2_join_78 rfl ?_
      subst h
      exact r_ret dX2_join_79 rfl mm_Zi_rfl
    · rw [if_neg c2] at h
      by_cases c3 : x1 = 43
      · rw [if_pos c3] at h
        refine mm_lookup (off := 67) 68 dX2_join_1 (by decide) (by rw [c3]; decide) (by decide) ?_
        refine r_iload_n (q := 69) dX2_join_68 rfl rfl ?_
        refine r_iload_n (q := 70) dX2_join_69 rfl rfl ?_
        refine r_iadd (q := 71) dX2_join_70 rfl ?_
        subst h
        exact r_ret dX2_join_71 rfl mm_Zi_rfl
      · rw [if_neg c3] at h
        by_cases c4 : x1 = 45
        · rw [if_pos c4] at h
          refine mm_lookup (off := 71) 72 dX2_join_1 (by decide) (by rw [c4]; decide) (by decide) ?_
          refine r_iload_n (q := 73) dX2_join_72 rfl rfl ?_
          refine r_iload_n (q := 74) dX2_join_73 rfl rfl ?_
          refine r_isub (q := 75) dX2_join_74 rfl ?_
          subst h
          exact r_ret dX2_join_75 rfl mm_Zi_rfl
        · rw [if_neg c4] at h
          by_cases c5 : x1 = 47
          · rw [if_pos c5] at h
            refine mm_lookup (off := 79) 80 dX2_join_1 (by decide) (by rw [c5]; decide) (by decide) ?_
            refine r_iload_n (q := 81) dX2_join_80 rfl rfl ?_
            refine r_if_ne 91 (q := 84) dX2_join_81 (by decide) rfl (fun c10 => ?_) (fun c10 => ?_)
            · rw [if_neg c10] at h
              refine r_iload_n (q := 92) dX2_join_91 rfl rfl ?_
              refine r_bipush (v := 47) (q := 94) dX2_join_92 (by decide) rfl ?_
              refine r_icmp_ne 103 (q := 97) dX2_join_94 (by decide) rfl (fun c11 => ?_) (fun c11 => ?_)
              · rw [if_neg c11] at h
                refine r_iload_n (q := 104) dX2_join_103 rfl rfl ?_
                refine r_iload_n (q := 105) dX2_join_104 rfl rfl ?_
                refine r_irem (q := 106) dX2_join_105 c10 rfl ?_
                subst h
                exact r_ret dX2_join_106 rfl mm_Zi_rfl
              · rw [if_pos c11] at h
                refine r_iload_n (q := 98) dX2_join_97 rfl rfl ?_
                refine r_iload_n (q := 99) dX2_join_98 rfl rfl ?_
                refine r_idiv (q := 100) dX2_join_99 c10 rfl ?_
                refine r_goto 106 dX2_join_100 (by decide) ?_
                subst h
                exact r_ret dX2_join_106 rfl mm_Zi_rfl
            · rw [if_pos c10] at h
              refine r_aload_n (q := 85) dX2_join_84 rfl rfl ?_
              refine r_iconst (v := 1) (q := 86) dX2_join_85 (by decide) rfl ?_
              refine r_putb (q := 89) lk_X2_45 ft_1_9 dX2_join_86 sc_c_13 rfl (Or.inr rfl) rfl ?_
              refine r_iconst (v := 0) (q := 90) dX2_join_89 (by decide) rfl ?_
              subst h
              exact r_ret dX2_join_90 rfl mm_Zi_rfl
          · rw [if_neg c5] at h
            by_cases c6 : x1 = 60
            · rw [if_pos c6] at h
              refine mm_lookup (off := 106) 107 dX2_join_1 (by decide) (by rw [c6]; decide) (by decide) ?_
              refine r_iload_n (q := 108) dX2_join_107 rfl rfl ?_
              refine r_iload_n (q := 109) dX2_join_108 rfl rfl ?_
              refine r_icmp_ge 116 (q := 112) dX2_join_109 (by decide) rfl (fun c12 => ?_) (fun c12 => ?_)
              · rw [if_pos c12] at h
                refine r_iconst (v := 0) (q := 117) dX2_join_116 (by decide) rfl ?_
                subst h
                exact r_ret dX2_join_117 rfl mm_Zi_rfl
              · rw [if_neg c12] at h
                refine r_iconst (v := 1) (q := 113) dX2_join_112 (by decide) rfl ?_
                refine r_goto 117 dX2_join_113 (by decide) ?_
                subst h
                exact r_ret dX2_join_117 rfl mm_Zi_rfl
            · rw [if_neg c6] at h
              by_cases c7 : x1 = 62
              · rw [if_pos c7] at h
                refine mm_lookup (off := 117) 118 dX2_join_1 (by decide) (by rw [c7]; decide) (by decide) ?_
                refine r_iload_n (q := 119) dX2_join_118 rfl rfl ?_
                refine r_iload_n (q := 120) dX2_join_119 rfl rfl ?_
                refine r_icmp_le 127 (q := 123) dX2_join_120 (by decide) rfl (fun c13 => ?_) (fun c13 => ?_)
                · rw [if_pos c13] at h
                  refine r_iconst (v := 0) (q := 128) dX2_join_127 (by decide) rfl ?_
                  subst h
                  exact r_ret dX2_join_128 rfl mm_Zi_rfl
                · rw [if_neg c13] at h
                  refine r_iconst (v := 1) (q := 124) dX2_join_123 (by decide) rfl ?_
                  refine r_goto 128 dX2_join_124 (by decide) ?_
                  subst h
                  exact r_ret dX2_join_128 rfl mm_Zi_rfl
              · rw [if_neg c7] at h
                refine mm_lookup (off := 128) 129 dX2_join_1 (by decide) (by rw [lv_osw c1 (show (37 : Int32).toInt = 37 from by decide), lv_osw c2 (show (42 : Int32).toInt = 42 from by decide), lv_osw c3 (show (43 : Int32).toInt = 43 from by decide), lv_osw c4 (show (45 : Int32).toInt = 45 from by decide), lv_osw c5 (show (47 : Int32).toInt = 47 from by decide), lv_osw c6 (show (60 : Int32).toInt = 60 from by decide), lv_osw c7 (show (62 : Int32).toInt = 62 from by decide)]; rfl) (by decide) ?_
                refine r_iload_n (q := 130) dX2_join_129 rfl rfl ?_
                refine r_iload_n (q := 131) dX2_join_130 rfl rfl ?_
                refine r_icmp_ne 138 (q := 134) dX2_join_131 (by decide) rfl (fun c14 => ?_) (fun c14 => ?_)
                · rw [if_neg c14] at h
                  refine r_iconst (v := 0) (q := 139) dX2_join_138 (by decide) rfl ?_
                  subst h
                  exact r_ret dX2_join_139 rfl mm_Zi_rfl
                · rw [if_pos c14] at h
                  refine r_iconst (v := 1) (q := 135) dX2_join_134 (by decide) rfl ?_
                  refine r_goto 139 dX2_join_135 (by decide) ?_
                  subst h
                  exact r_ret dX2_join_139 rfl mm_Zi_rfl
noncomputable def X2_reckon_j177l16 (x3 : Int32) (x4 : Int32) (x5 : Int32) (z0 : Bool) (z1 : Bool) (M : mm_M) : Option ((Int32 × mm_M) ⊕ (Int32 × mm_M)) := if (mm_b z0) = (mm_b z1) then mm_let (X2_push x5 M) fun y35 => some (.inl (((if x3 < (x4 - 1) then (x4 - 1) else x3) + 1), y35)) else some (.inl ((x3 + 1), M))
set_option maxRecDepth 100000 in
set_option maxHeartbeats 400000 in
theorem t_X2_reckon_j177l16 {D : mm_D} {d : Nat} (hd : 1 ≤ d) {Z : Option Int32 → List mm_C → mm_M → Prop} (x3 : Int32) (x4 : Int32) (x5 : Int32) (z0 : Bool) (z1 : Bool) (M : mm_M) (o : (Int32 × mm_M) ⊕ (Int32 × mm_M)) (h : X2_reckon_j177l16 x3 x4 x5 z0 z1 M = some o) (kb : ∀ s', o = .inl s' → mm_Go jX2_reckon D d 0 0 16 [some (.inr 13), none, some (.inr 30), some (.inl s'.1), none, none, none] [] S_c s'.2 Z) (ke : ∀ r, o = .inr r → Z (some r.1) S_c r.2) : mm_Go jX2_reckon D d 0 0 177 [some (.inr 13), none, some (.inr 30), some (.inl x3), some (.inl x4), some (.inl x5), none] [(.inl (mm_b z1)), (.inl (mm_b z0))] S_c M Z := by
  unfold X2_reckon_j177l16 at h
  refine r_icmp_ne 224 (q := 180) dX2_reckon_177 (by decide) rfl (fun c33 => ?_) (fun c33 => ?_)
  · rw [if_neg c33] at h
    refine r_iinc (v := 1) (q := 227) (L' := [some (.inr 13), none, some (.inr 30), some (.inl (x3 + 1)), some (.inl x4), some (.inl x5), none]) dX2_reckon_224 (by decide) (by decide) rfl rfl rfl ?_
    refine r_goto 16 dX2_reckon_227 (by decide) ?_
    refine r_forget (L' := [some (.inr 13), none, some (.inr 30), some (.inl (x3 + 1)), none, none, none]) [true, false, true, true, false, false, false] rfl ?_
    cases h
    have hk := kb _ rfl
    exact hk
  · rw [if_pos c33] at h
    refine r_aload_n (q := 181) dX2_reckon_180 rfl rfl ?_
    refine r_iload (q := 183) dX2_reckon_181 rfl rfl ?_
    obtain ⟨y35, e34, h⟩ := mm_let_elim h
    refine r_callV_v (av := [(.inl x5)]) (st := []) (q := 186) (d1 := 0) kc_X2_65 sc_c_13 dX2_reckon_183 rfl rfl (Nat.le_of_ble_eq_true rfl) (Nat.le_of_ble_eq_true rfl) (by omega) rfl rfl (t_X2_push (d := 0) (by omega) x5 M _ e34) ?_
    refine r_iload_n (q := 187) dX2_reckon_186 rfl rfl ?_
    refine r_iload (q := 189) dX2_reckon_187 rfl rfl ?_
    refine r_iconst (v := 1) (q := 190) dX2_reckon_189 (by decide) rfl ?_
    refine r_isub (q := 191) dX2_reckon_190 rfl ?_
    refine r_mmax (q := 194) kc_X2_55 dX2_reckon_191 (Nat.le_of_ble_eq_true rfl) rfl ?_
    refine r_istore_n (q := 195) (L' := [some (.inr 13), none, some (.inr 30), some (.inl (if x3 < (x4 - 1) then (x4 - 1) else x3)), some (.inl x4), some (.inl x5), none]) dX2_reckon_194 (by decide) rfl rfl ?_
    refine r_goto 224 dX2_reckon_195 (by decide) ?_
    refine r_iinc (v := 1) (q := 227) (L' := [some (.inr 13), none, some (.inr 30), some (.inl ((if x3 < (x4 - 1) then (x4 - 1) else x3) + 1)), some (.inl x4), some (.inl x5), none]) dX2_reckon_224 (by decide) (by decide) rfl rfl rfl ?_
    refine r_goto 16 dX2_reckon_227 (by decide) ?_
    refine r_forget (L' := [some (.inr 13), none, some (.inr 30), some (.inl ((if x3 < (x4 - 1) then (x4 - 1) else x3) + 1)), none, none, none]) [true, false, true, true, false, false, false] rfl ?_
    cases h
    have hk := kb _ rfl
    exact hk
noncomputable def X2_reckon_j162l16 (x3 : Int32) (x4 : Int32) (x5 : Int32) (z0 : Bool) (M : mm_M) : Option ((Int32 × mm_M) ⊕ (Int32 × mm_M)) := if mm_in x3 256 = true then if (M 17 (Int32.toNatClampNeg x3)) = 4 then X2_reckon_j177l16 x3 x4 x5 z0 true M else X2_reckon_j177l16 x3 x4 x5 z0 false M else none
set_option maxRecDepth 100000 in
set_option maxHeartbeats 400000 in
theorem t_X2_reckon_j162l16 {D : mm_D} {d : Nat} (hd : 1 ≤ d) {Z : Option Int32 → List mm_C → mm_M → Prop} (x3 : Int32) (x4 : Int32) (x5 : Int32) (z0 : Bool) (M : mm_M) (o : (Int32 × mm_M) ⊕ (Int32 × mm_M)) (h : X2_reckon_j162l16 x3 x4 x5 z0 M = some o) (kb : ∀ s', o = .inl s' → mm_Go jX2_reckon D d 0 0 16 [some (.inr 13), none, some (.inr 30), some (.inl s'.1), none, none, none] [] S_c s'.2 Z) (ke : ∀ r, o = .inr r → Z (some r.1) S_c r.2) : mm_Go jX2_reckon D d 0 0 162 [some (.inr 13), none, some (.inr 30), some (.inl x3), some (.inl x4), some (.inl x5), none] [(.inl (mm_b z0))] S_c M Z := by
  unfold X2_reckon_j162l16 at h
  refine r_aload_n (q := 163) dX2_reckon_162 rfl rfl ?_
  refine r_getr (b := 17) (q := 166) lk_X2_21 dX2_reckon_163 sc_c_13 rfl rfl ?_
  refine r_iload_n (q := 167) dX2_reckon_166 rfl rfl ?_
  obtain ⟨g31, h⟩ := mm_guard h
  refine r_iald (v := (M 17 (Int32.toNatClampNeg x3))) (q := 168) dX2_reckon_167 sc_c_17 (mm_vp g31) rfl rfl ?_
  refine r_iconst (v := 4) (q := 169) dX2_reckon_168 (by decide) rfl ?_
  refine r_icmp_ne 176 (q := 172) dX2_reckon_169 (by decide) rfl (fun c32 => ?_) (fun c32 => ?_)
  · rw [if_neg c32] at h
    refine r_iconst (v := 0) (q := 177) dX2_reckon_176 (by decide) rfl ?_
    exact t_X2_reckon_j177l16 hd x3 x4 x5 z0 false M _ h kb ke
  · rw [if_pos c32] at h
    refine r_iconst (v := 1) (q := 173) dX2_reckon_172 (by decide) rfl ?_
    refine r_goto 177 dX2_reckon_173 (by decide) ?_
    exact t_X2_reckon_j177l16 hd x3 x4 x5 z0 true M _ h kb ke
noncomputable def X2_reckon_l16 (s : (Int32 × mm_M)) : Option ((Int32 × mm_M) ⊕ (Int32 × mm_M)) := if (s.2 13 4) ≤ s.1 then some (.inr (0, s.2)) else if 256 ≤ s.1 then some (.inr (0, s.2)) else if (s.2 13 9) = 0 then if mm_in s.1 256 = true then if mm_in s.1 256 = true then if (s.2 17 (Int32.toNatClampNeg s.1)) = 0 then (X2_pop s.2).bind fun y13 => some (.inr (y13.1, y13.2)) else if (s.2 17 (Int32.toNatClampNeg s.1)) = 1 then mm_let (X2_push (s.2 18 (Int32.toNatClampNeg s.1)) s.2) fun y15 => some (.inl ((s.1 + 1), y15)) else if (s.2 17 (Int32.toNatClampNeg s.1)) = 2 then if (s.2 18 (Int32.toNatClampNeg s.1)) < 0 then mm_let (X2_push 0 s.2) fun y18 => some (.inl ((s.1 + 1), y18)) else if 9 ≤ (s.2 18 (Int32.toNatClampNeg s.1)) then mm_let (X2_push 0 s.2) fun y21 => some (.inl ((s.1 + 1), y21)) else mm_let (X2_push (s.2 30 (Int32.toNatClampNeg (s.2 18 (Int32.toNatClampNeg s.1)))) s.2) fun y23 => some (.inl ((s.1 + 1), y23)) else if (s.2 17 (Int32.toNatClampNeg s.1)) = 3 then (X2_pop s.2).bind fun y25 => mm_let (X2_push ((1 : Int32) - y25.1) y25.2) fun y27 => some (.inl ((s.1 + 1), y27)) else if (s.2 17 (Int32.toNatClampNeg s.1)) = 4 then (X2_pop s.2).bind fun y29 => if y29.1 = 0 then X2_reckon_j162l16 s.1 (s.2 18 (Int32.toNatClampNeg s.1)) y29.1 false y29.2 else X2_reckon_j162l16 s.1 (s.2 18 (Int32.toNatClampNeg s.1)) y29.1 true y29.2 else if (s.2 17 (Int32.toNatClampNeg s.1)) = 5 then (X2_pop s.2).bind fun y37 => if y37.1 = 0 then X2_reckon_j162l16 s.1 (s.2 18 (Int32.toNatClampNeg s.1)) y37.1 false y37.2 else X2_reckon_j162l16 s.1 (s.2 18 (Int32.toNatClampNeg s.1)) y37.1 true y37.2 else (X2_pop s.2).bind fun y40 => if mm_in s.1 256 = true then (X2_pop y40.2).bind fun y43 => mm_let (X2_join (y40.2 17 (Int32.toNatClampNeg s.1)) y43.1 y40.1 y43.2) fun y45 => mm_let (X2_push y45.1 y45.2) fun y47 => some (.inl ((s.1 + 1), y47)) else none else none else none else some (.inr (0, s.2))
set_option maxRecDepth 100000 in
set_option maxHeartbeats 400000 in
theorem t_X2_reckon_l16 {D : mm_D} {d : Nat} (hd : 1 ≤ d) {Z : Option Int32 → List mm_C → mm_M → Prop} (n : Nat) (s : (Int32 × mm_M)) (r : (Int32 × mm_M)) (h : mm_loop (X2_reckon_l16) n s = some r) (hx : Z (some r.1) S_c r.2) : mm_Go jX2_reckon D d 0 0 16 [some (.inr 13), none, some (.inr 30), some (.inl s.1), none, none, none] [] S_c s.2 Z := by
  refine mm_loop_go (step := X2_reckon_l16) (Hd := fun (s : (Int32 × mm_M)) => mm_Go jX2_reckon D d 0 0 16 [some (.inr 13), none, some (.inr 30), some (.inl s.1), none, none, none] [] S_c s.2 Z) (Ex := fun (r : (Int32 × mm_M)) => Z (some r.1) S_c r.2) ?_ n s r h hx
  intro s o h kb ke
  show mm_Go jX2_reckon D d 0 0 16 [some (.inr 13), none, some (.inr 30), some (.inl s.1), none, none, none] [] S_c s.2 Z
  unfold X2_reckon_l16 at h
  refine r_iload_n (q := 17) dX2_reckon_16 rfl rfl ?_
  refine r_aload_n (q := 18) dX2_reckon_17 rfl rfl ?_
  refine r_geti (v := (s.2 13 4)) (q := 21) lk_X2_34 dX2_reckon_18 sc_c_13 rfl rfl rfl ?_
  refine r_icmp_ge 230 (q := 24) dX2_reckon_21 (by decide) rfl (fun c1 => ?_) (fun c1 => ?_)
  · rw [if_pos c1] at h
    refine r_iconst (v := 0) (q := 231) dX2_reckon_230 (by decide) rfl ?_
    cases h
    have hk := ke _ rfl
    exact r_ret dX2_reckon_231 rfl hk
  · rw [if_neg c1] at h
    refine r_iload_n (q := 25) dX2_reckon_24 rfl rfl ?_
    refine r_sipush (v := 256) (q := 28) dX2_reckon_25 (by decide) rfl ?_
    refine r_icmp_ge 230 (q := 31) dX2_reckon_28 (by decide) rfl (fun c2 => ?_) (fun c2 => ?_)
    · rw [if_pos c2] at h
      refine r_iconst (v := 0) (q := 231) dX2_reckon_230 (by decide) rfl ?_
      cases h
      have hk := ke _ rfl
      exact r_ret dX2_reckon_231 rfl hk
    · rw [if_neg c2] at h
      refine r_aload_n (q := 32) dX2_reckon_31 rfl rfl ?_
      refine r_geti (v := (s.2 13 9)) (q := 35) lk_X2_45 dX2_reckon_32 sc_c_13 rfl rfl rfl ?_
      refine r_if_ne 230 (q := 38) dX2_reckon_35 (by decide) rfl (fun c3 => ?_) (fun c3 => ?_)
      · rw [if_neg c3] at h
        refine r_iconst (v := 0) (q := 231) dX2_reckon_230 (by decide) rfl ?_
        cases h
        have hk := ke _ rfl
        exact r_ret dX2_reckon_231 rfl hk
      · rw [if_pos c3] at h
        refine r_aload_n (q := 39) dX2_reckon_38 rfl rfl ?_
        refine r_getr (b := 18) (q := 42) lk_X2_24 dX2_reckon_39 sc_c_13 rfl rfl ?_
        refine r_iload_n (q := 43) dX2_reckon_42 rfl rfl ?_
        obtain ⟨g4, h⟩ := mm_guard h
        refine r_iald (v := (s.2 18 (Int32.toNatClampNeg s.1))) (q := 44) dX2_reckon_43 sc_c_18 (mm_vp g4) rfl rfl ?_
        refine r_istore (q := 46) (L' := [some (.inr 13), none, some (.inr 30), some (.inl s.1), some (.inl (s.2 18 (Int32.toNatClampNeg s.1))), none, none]) dX2_reckon_44 (by decide) rfl rfl ?_
        refine r_aload_n (q := 47) dX2_reckon_46 rfl rfl ?_
        refine r_getr (b := 17) (q := 50) lk_X2_21 dX2_reckon_47 sc_c_13 rfl rfl ?_
        refine r_iload_n (q := 51) dX2_reckon_50 rfl rfl ?_
        obtain ⟨g5, h⟩ := mm_guard h
        refine r_iald (v := (s.2 17 (Int32.toNatClampNeg s.1))) (q := 52) dX2_reckon_51 sc_c_17 (mm_vp g5) rfl rfl ?_
        by_cases c6 : (s.2 17 (Int32.toNatClampNeg s.1)) = 0
        · rw [if_pos c6] at h
          refine mm_tableIn (off := 40) 92 dX2_reckon_52 (by rw [c6]; decide) (by rw [c6]; decide) (by rw [c6]; rfl) (by decide) ?_
          refine r_aload_n (q := 93) dX2_reckon_92 rfl rfl ?_
          obtain ⟨y13, e12, h⟩ := Option.bind_eq_some_iff.mp h
          refine r_callV_i (av := []) (st := []) (q := 96) (d1 := 0) kc_X2_61 sc_c_13 dX2_reckon_93 rfl rfl (Nat.le_of_ble_eq_true rfl) (Nat.le_of_ble_eq_true rfl) (by omega) rfl rfl (t_X2_pop (d := 0) (by omega) s.2 _ e12) ?_
          cases h
          have hk := ke _ rfl
          exact r_ret dX2_reckon_96 rfl hk
        · rw [if_neg c6] at h
          by_cases c7 : (s.2 17 (Int32.toNatClampNeg s.1)) = 1
          · rw [if_pos c7] at h
            refine mm_tableIn (off := 45) 97 dX2_reckon_52 (by rw [c7]; decide) (by rw [c7]; decide) (by rw [c7]; rfl) (by decide) ?_
            refine r_aload_n (q := 98) dX2_reckon_97 rfl rfl ?_
            refine r_iload (q := 100) dX2_reckon_98 rfl rfl ?_
            obtain ⟨y15, e14, h⟩ := mm_let_elim h
            refine r_callV_v (av := [(.inl (s.2 18 (Int32.toNatClampNeg s.1)))]) (st := []) (q := 103) (d1 := 0) kc_X2_65 sc_c_13 dX2_reckon_100 rfl rfl (Nat.le_of_ble_eq_true rfl) (Nat.le_of_ble_eq_true rfl) (by omega) rfl rfl (t_X2_push (d := 0) (by omega) (s.2 18 (Int32.toNatClampNeg s.1)) s.2 _ e14) ?_
            refine r_goto 224 dX2_reckon_103 (by decide) ?_
            refine r_iinc (v := 1) (q := 227) (L' := [some (.inr 13), none, some (.inr 30), some (.inl (s.1 + 1)), some (.inl (s.2 18 (Int32.toNatClampNeg s.1))), none, none]) dX2_reckon_224 (by decide) (by decide) rfl rfl rfl ?_
            refine r_goto 16 dX2_reckon_227 (by decide) ?_
            refine r_forget (L' := [some (.inr 13), none, some (.inr 30), some (.inl (s.1 + 1)), none, none, none]) [true, false, true, true, false, false, false] rfl ?_
            cases h
            have hk := kb _ rfl
            exact hk
          · rw [if_neg c7] at h
            by_cases c8 : (s.2 17 (Int32.toNatClampNeg s.1)) = 2
            · rw [if_pos c8] at h
              refine mm_tableIn (off := 54) 106 dX2_reckon_52 (by rw [c8]; decide) (by rw [c8]; decide) (by rw [c8]; rfl) (by decide) ?_
              refine r_aload_n (q := 107) dX2_reckon_106 rfl rfl ?_
              refine r_iload (q := 109) dX2_reckon_107 rfl rfl ?_
              refine r_if_lt 126 (q := 112) dX2_reckon_109 (by decide) rfl (fun c16 => ?_) (fun c16 => ?_)
              · rw [if_pos c16] at h
                refine r_iconst (v := 0) (q := 127) dX2_reckon_126 (by decide) rfl ?_
                obtain ⟨y18, e17, h⟩ := mm_let_elim h
                refine r_callV_v (av := [(.inl 0)]) (st := []) (q := 130) (d1 := 0) kc_X2_65 sc_c_13 dX2_reckon_127 rfl rfl (Nat.le_of_ble_eq_true rfl) (Nat.le_of_ble_eq_true rfl) (by omega) rfl rfl (t_X2_push (d := 0) (by omega) 0 s.2 _ e17) ?_
                refine r_goto 224 dX2_reckon_130 (by decide) ?_
                refine r_iinc (v := 1) (q := 227) (L' := [some (.inr 13), none, some (.inr 30), some (.inl (s.1 + 1)), some (.inl (s.2 18 (Int32.toNatClampNeg s.1))), none, none]) dX2_reckon_224 (by decide) (by decide) rfl rfl rfl ?_
                refine r_goto 16 dX2_reckon_227 (by decide) ?_
                refine r_forget (L' := [some (.inr 13), none, some (.inr 30), some (.inl (s.1 + 1)), none, none, none]) [true, false, true, true, false, false, false] rfl ?_
                cases h
                have hk := kb _ rfl
                exact hk
              · rw [if_neg c16] at h
                refine r_iload (q := 114) dX2_reckon_112 rfl rfl ?_
                refine r_aload_n (q := 115) dX2_reckon_114 rfl rfl ?_
                refine r_alen (v := 9) (q := 116) dX2_reckon_115 sc_c_30 rfl rfl ?_
                refine r_icmp_ge 126 (q := 119) dX2_reckon_116 (by decide) rfl (fun c19 => ?_) (fun c19 => ?_)
                · rw [if_pos c19] at h
                  refine r_iconst (v := 0) (q := 127) dX2_reckon_126 (by decide) rfl ?_
                  obtain ⟨y21, e20, h⟩ := mm_let_elim h
                  refine r_callV_v (av := [(.inl 0)]) (st := []) (q := 130) (d1 := 0) kc_X2_65 sc_c_13 dX2_reckon_127 rfl rfl (Nat.le_of_ble_eq_true rfl) (Nat.le_of_ble_eq_true rfl) (by omega) rfl rfl (t_X2_push (d := 0) (by omega) 0 s.2 _ e20) ?_
                  refine r_goto 224 dX2_reckon_130 (by decide) ?_
                  refine r_iinc (v := 1) (q := 227) (L' := [some (.inr 13), none, some (.inr 30), some (.inl (s.1 + 1)), some (.inl (s.2 18 (Int32.toNatClampNeg s.1))), none, none]) dX2_reckon_224 (by decide) (by decide) rfl rfl rfl ?_
                  refine r_goto 16 dX2_reckon_227 (by decide) ?_
                  refine r_forget (L' := [some (.inr 13), none, some (.inr 30), some (.inl (s.1 + 1)), none, none, none]) [true, false, true, true, false, false, false] rfl ?_
                  cases h
                  have hk := kb _ rfl
                  exact hk
                · rw [if_neg c19] at h
                  refine r_aload_n (q := 120) dX2_reckon_119 rfl rfl ?_
                  refine r_iload (q := 122) dX2_reckon_120 rfl rfl ?_
                  refine r_iald (v := (s.2 30 (Int32.toNatClampNeg (s.2 18 (Int32.toNatClampNeg s.1))))) (q := 123) dX2_reckon_122 sc_c_30 (mm_vp2 (Int32.not_lt.mp c16) (Int32.not_le.mp c19) (by decide)) rfl rfl ?_
                  refine r_goto 127 dX2_reckon_123 (by decide) ?_
                  obtain ⟨y23, e22, h⟩ := mm_let_elim h
                  refine r_callV_v (av := [(.inl (s.2 30 (Int32.toNatClampNeg (s.2 18 (Int32.toNatClampNeg s.1)))))]) (st := []) (q := 130) (d1 := 0) kc_X2_65 sc_c_13 dX2_reckon_127 rfl rfl (Nat.le_of_ble_eq_true rfl) (Nat.le_of_ble_eq_true rfl) (by omega) rfl rfl (t_X2_push (d := 0) (by omega) (s.2 30 (Int32.toNatClampNeg (s.2 18 (Int32.toNatClampNeg s.1)))) s.2 _ e22) ?_
                  refine r_goto 224 dX2_reckon_130 (by decide) ?_
                  refine r_iinc (v := 1) (q := 227) (L' := [some (.inr 13), none, some (.inr 30), some (.inl (s.1 + 1)), some (.inl (s.2 18 (Int32.toNatClampNeg s.1))), none, none]) dX2_reckon_224 (by decide) (by decide) rfl rfl rfl ?_
                  refine r_goto 16 dX2_reckon_227 (by decide) ?_
                  refine r_forget (L' := [some (.inr 13), none, some (.inr 30), some (.inl (s.1 + 1)), none, none, none]) [true, false, true, true, false, false, false] rfl ?_
                  cases h
                  have hk := kb _ rfl
                  exact hk
            · rw [if_neg c8] at h
              by_cases c9 : (s.2 17 (Int32.toNatClampNeg s.1)) = 3
              · rw [if_pos c9] at h
                refine mm_tableIn (off := 81) 133 dX2_reckon_52 (by rw [c9]; decide) (by rw [c9]; decide) (by rw [c9]; rfl) (by decide) ?_
                refine r_aload_n (q := 134) dX2_reckon_133 rfl rfl ?_
                refine r_iconst (v := 1) (q := 135) dX2_reckon_134 (by decide) rfl ?_
                refine r_aload_n (q := 136) dX2_reckon_135 rfl rfl ?_
                obtain ⟨y25, e24, h⟩ := Option.bind_eq_some_iff.mp h
                refine r_callV_i (av := []) (st := [(.inl 1), (.inr 13)]) (q := 139) (d1 := 0) kc_X2_61 sc_c_13 dX2_reckon_136 rfl rfl (Nat.le_of_ble_eq_true rfl) (Nat.le_of_ble_eq_true rfl) (by omega) rfl rfl (t_X2_pop (d := 0) (by omega) s.2 _ e24) ?_
                refine r_isub (q := 140) dX2_reckon_139 rfl ?_
                obtain ⟨y27, e26, h⟩ := mm_let_elim h
                refine r_callV_v (av := [(.inl ((1 : Int32) - y25.1))]) (st := []) (q := 143) (d1 := 0) kc_X2_65 sc_c_13 dX2_reckon_140 rfl rfl (Nat.le_of_ble_eq_true rfl) (Nat.le_of_ble_eq_true rfl) (by omega) rfl rfl (t_X2_push (d := 0) (by omega) ((1 : Int32) - y25.1) y25.2 _ e26) ?_
                refine r_goto 224 dX2_reckon_143 (by decide) ?_
                refine r_iinc (v := 1) (q := 227) (L' := [some (.inr 13), none, some (.inr 30), some (.inl (s.1 + 1)), some (.inl (s.2 18 (Int32.toNatClampNeg s.1))), none, none]) dX2_reckon_224 (by decide) (by decide) rfl rfl rfl ?_
                refine r_goto 16 dX2_reckon_227 (by decide) ?_
                refine r_forget (L' := [some (.inr 13), none, some (.inr 30), some (.inl (s.1 + 1)), none, none, none]) [true, false, true, true, false, false, false] rfl ?_
                cases h
                have hk := kb _ rfl
                exact hk
              · rw [if_neg c9] at h
                by_cases c10 : (s.2 17 (Int32.toNatClampNeg s.1)) = 4
                · rw [if_pos c10] at h
                  refine mm_tableIn (off := 94) 146 dX2_reckon_52 (by rw [c10]; decide) (by rw [c10]; decide) (by rw [c10]; rfl) (by decide) ?_
                  refine r_aload_n (q := 147) dX2_reckon_146 rfl rfl ?_
                  obtain ⟨y29, e28, h⟩ := Option.bind_eq_some_iff.mp h
                  refine r_callV_i (av := []) (st := []) (q := 150) (d1 := 0) kc_X2_61 sc_c_13 dX2_reckon_147 rfl rfl (Nat.le_of_ble_eq_true rfl) (Nat.le_of_ble_eq_true rfl) (by omega) rfl rfl (t_X2_pop (d := 0) (by omega) s.2 _ e28) ?_
                  refine r_istore (q := 152) (L' := [some (.inr 13), none, some (.inr 30), some (.inl s.1), some (.inl (s.2 18 (Int32.toNatClampNeg s.1))), some (.inl y29.1), none]) dX2_reckon_150 (by decide) rfl rfl ?_
                  refine r_iload (q := 154) dX2_reckon_152 rfl rfl ?_
                  refine r_if_eq 161 (q := 157) dX2_reckon_154 (by decide) rfl (fun c30 => ?_) (fun c30 => ?_)
                  · rw [if_pos c30] at h
                    refine r_iconst (v := 0) (q := 162) dX2_reckon_161 (by decide) rfl ?_
                    exact t_X2_reckon_j162l16 hd s.1 (s.2 18 (Int32.toNatClampNeg s.1)) y29.1 false y29.2 _ h kb ke
                  · rw [if_neg c30] at h
                    refine r_iconst (v := 1) (q := 158) dX2_reckon_157 (by decide) rfl ?_
                    refine r_goto 162 dX2_reckon_158 (by decide) ?_
                    exact t_X2_reckon_j162l16 hd s.1 (s.2 18 (Int32.toNatClampNeg s.1)) y29.1 true y29.2 _ h kb ke
                · rw [if_neg c10] at h
                  by_cases c11 : (s.2 17 (Int32.toNatClampNeg s.1)) = 5
                  · rw [if_pos c11] at h
                    refine mm_tableIn (off := 94) 146 dX2_reckon_52 (by rw [c11]; decide) (by rw [c11]; decide) (by rw [c11]; rfl) (by decide) ?_
                    refine r_aload_n (q := 147) dX2_reckon_146 rfl rfl ?_
                    obtain ⟨y37, e36, h⟩ := Option.bind_eq_some_iff.mp h
                    refine r_callV_i (av := []) (st := []) (q := 150) (d1 := 0) kc_X2_61 sc_c_13 dX2_reckon_147 rfl rfl (Nat.le_of_ble_eq_true rfl) (Nat.le_of_ble_eq_true rfl) (by omega) rfl rfl (t_X2_pop (d := 0) (by omega) s.2 _ e36) ?_
                    refine r_istore (q := 152) (L' := [some (.inr 13), none, some (.inr 30), some (.inl s.1), some (.inl (s.2 18 (Int32.toNatClampNeg s.1))), some (.inl y37.1), none]) dX2_reckon_150 (by decide) rfl rfl ?_
                    refine r_iload (q := 154) dX2_reckon_152 rfl rfl ?_
                    refine r_if_eq 161 (q := 157) dX2_reckon_154 (by decide) rfl (fun c38 => ?_) (fun c38 => ?_)
                    · rw [if_pos c38] at h
                      refine r_iconst (v := 0) (q := 162) dX2_reckon_161 (by decide) rfl ?_
                      exact t_X2_reckon_j162l16 hd s.1 (s.2 18 (Int32.toNatClampNeg s.1)) y37.1 false y37.2 _ h kb ke
                    · rw [if_neg c38] at h
                      refine r_iconst (v := 1) (q := 158) dX2_reckon_157 (by decide) rfl ?_
                      refine r_goto 162 dX2_reckon_158 (by decide) ?_
                      exact t_X2_reckon_j162l16 hd s.1 (s.2 18 (Int32.toNatClampNeg s.1)) y37.1 true y37.2 _ h kb ke
                  · rw [if_neg c11] at h
                    have nc6 : ((s.2 17 (Int32.toNatClampNeg s.1))).toInt ≠ 0 := fun e => c6 (Int32.toInt_inj.mp (e.trans (by decide)))
                    have nc7 : ((s.2 17 (Int32.toNatClampNeg s.1))).toInt ≠ 1 := fun e => c7 (Int32.toInt_inj.mp (e.trans (by decide)))
                    have nc8 : ((s.2 17 (Int32.toNatClampNeg s.1))).toInt ≠ 2 := fun e => c8 (Int32.toInt_inj.mp (e.trans (by decide)))
                    have nc9 : ((s.2 17 (Int32.toNatClampNeg s.1))).toInt ≠ 3 := fun e => c9 (Int32.toInt_inj.mp (e.trans (by decide)))
                    have nc10 : ((s.2 17 (Int32.toNatClampNeg s.1))).toInt ≠ 4 := fun e => c10 (Int32.toInt_inj.mp (e.trans (by decide)))
                    have nc11 : ((s.2 17 (Int32.toNatClampNeg s.1))).toInt ≠ 5 := fun e => c11 (Int32.toInt_inj.mp (e.trans (by decide)))
                    refine mm_tableOut 198 dX2_reckon_52 (by omega) (by decide) ?_
                    refine r_aload_n (q := 199) dX2_reckon_198 rfl rfl ?_
                    obtain ⟨y40, e39, h⟩ := Option.bind_eq_some_iff.mp h
                    refine r_callV_i (av := []) (st := []) (q := 202) (d1 := 0) kc_X2_61 sc_c_13 dX2_reckon_199 rfl rfl (Nat.le_of_ble_eq_true rfl) (Nat.le_of_ble_eq_true rfl) (by omega) rfl rfl (t_X2_pop (d := 0) (by omega) s.2 _ e39) ?_
                    refine r_istore (q := 204) (L' := [some (.inr 13), none, some (.inr 30), some (.inl s.1), some (.inl (s.2 18 (Int32.toNatClampNeg s.1))), none, some (.inl y40.1)]) dX2_reckon_202 (by decide) rfl rfl ?_
                    refine r_aload_n (q := 205) dX2_reckon_204 rfl rfl ?_
                    refine r_aload_n (q := 206) dX2_reckon_205 rfl rfl ?_
                    refine r_aload_n (q := 207) dX2_reckon_206 rfl rfl ?_
                    refine r_getr (b := 17) (q := 210) lk_X2_21 dX2_reckon_207 sc_c_13 rfl rfl ?_
                    refine r_iload_n (q := 211) dX2_reckon_210 rfl rfl ?_
                    obtain ⟨g41, h⟩ := mm_guard h
                    refine r_iald (v := (y40.2 17 (Int32.toNatClampNeg s.1))) (q := 212) dX2_reckon_211 sc_c_17 (mm_vp g41) rfl rfl ?_
                    refine r_aload_n (q := 213) dX2_reckon_212 rfl rfl ?_
                    obtain ⟨y43, e42, h⟩ := Option.bind_eq_some_iff.mp h
                    refine r_callV_i (av := []) (st := [(.inl (y40.2 17 (Int32.toNatClampNeg s.1))), (.inr 13), (.inr 13)]) (q := 216) (d1 := 0) kc_X2_61 sc_c_13 dX2_reckon_213 rfl rfl (Nat.le_of_ble_eq_true rfl) (Nat.le_of_ble_eq_true rfl) (by omega) rfl rfl (t_X2_pop (d := 0) (by omega) y40.2 _ e42) ?_
                    refine r_iload (q := 218) dX2_reckon_216 rfl rfl ?_
                    obtain ⟨y45, e44, h⟩ := mm_let_elim h
                    refine r_callV_i (av := [(.inl (y40.2 17 (Int32.toNatClampNeg s.1))), (.inl y43.1), (.inl y40.1)]) (st := [(.inr 13)]) (q := 221) (d1 := 0) kc_X2_69 sc_c_13 dX2_reckon_218 rfl rfl (Nat.le_of_ble_eq_true rfl) (Nat.le_of_ble_eq_true rfl) (by omega) rfl rfl (t_X2_join (d := 0) (by omega) (y40.2 17 (Int32.toNatClampNeg s.1)) y43.1 y40.1 y43.2 _ e44) ?_
                    obtain ⟨y47, e46, h⟩ := mm_let_elim h
                    refine r_callV_v (av := [(.inl y45.1)]) (st := []) (q := 224) (d1 := 0) kc_X2_65 sc_c_13 dX2_reckon_221 rfl rfl (Nat.le_of_ble_eq_true rfl) (Nat.le_of_ble_eq_true rfl) (by omega) rfl rfl (t_X2_push (d := 0) (by omega) y45.1 y45.2 _ e46) ?_
                    refine r_iinc (v := 1) (q := 227) (L' := [some (.inr 13), none, some (.inr 30), some (.inl (s.1 + 1)), some (.inl (s.2 18 (Int32.toNatClampNeg s.1))), none, some (.inl y40.1)]) dX2_reckon_224 (by decide) (by decide) rfl rfl rfl ?_
                    refine r_goto 16 dX2_reckon_227 (by decide) ?_
                    refine r_forget (L' := [some (.inr 13), none, some (.inr 30), some (.inl (s.1 + 1)), none, none, none]) [true, false, true, true, false, false, false] rfl ?_
                    cases h
                    have hk := kb _ rfl
                    exact hk
noncomputable def X2_reckon (x1 : Int32) (M : mm_M) : Option (Int32 × mm_M) := (mm_loop (X2_reckon_l16) mm_fuel ((if 0 < x1 then x1 else 0), (mm_U (mm_U M 13 8 0) 13 9 0)))
set_option maxRecDepth 100000 in
set_option maxHeartbeats 400000 in
theorem t_X2_reckon {d : Nat} (hd : 1 ≤ d) (x1 : Int32) (M : mm_M) (res : (Int32 × mm_M)) (h : X2_reckon x1 M = some res) : mm_Meth jX2_reckon d 0 0 [(.inr 13), (.inl x1), (.inr 30)] S_c M (mm_Zi res.1 S_c res.2) := by
  refine r_meth (L := [some (.inr 13), some (.inl x1), some (.inr 30), none, none, none, none]) rfl (fun D => ?_)
  unfold X2_reckon at h
  refine r_aload_n (q := 1) dX2_reckon_0 rfl rfl ?_
  refine r_iconst (v := 0) (q := 2) dX2_reckon_1 (by decide) rfl ?_
  refine r_puti (q := 5) lk_X2_58 ft_1_8 dX2_reckon_2 sc_c_13 rfl rfl ?_
  refine r_aload_n (q := 6) dX2_reckon_5 rfl rfl ?_
  refine r_iconst (v := 0) (q := 7) dX2_reckon_6 (by decide) rfl ?_
  refine r_putb (q := 10) lk_X2_45 ft_1_9 dX2_reckon_7 sc_c_13 rfl (Or.inl rfl) rfl ?_
  refine r_iconst (v := 0) (q := 11) dX2_reckon_10 (by decide) rfl ?_
  refine r_iload_n (q := 12) dX2_reckon_11 rfl rfl ?_
  refine r_mmax (q := 15) kc_X2_55 dX2_reckon_12 (Nat.le_of_ble_eq_true rfl) rfl ?_
  refine r_istore_n (q := 16) (L' := [some (.inr 13), some (.inl x1), some (.inr 30), some (.inl (if 0 < x1 then x1 else 0)), none, none, none]) dX2_reckon_15 (by decide) rfl rfl ?_
  refine r_forget (L' := [some (.inr 13), none, some (.inr 30), some (.inl (if 0 < x1 then x1 else 0)), none, none, none]) [true, false, true, true, false, false, false] rfl ?_
  exact t_X2_reckon_l16 hd mm_fuel ((if 0 < x1 then x1 else 0), (mm_U (mm_U M 13 8 0) 13 9 0)) _ h mm_Zi_rfl
noncomputable def X2_isHeld_j15 (x1 : Int32) (z0 : Bool) (M : mm_M) : Option (Bool × mm_M) := if z0 = true then if mm_in x1 16 = true then (X2_reckon (M 16 (Int32.toNatClampNeg x1)) M).bind fun y5 => if y5.1 = 0 then some (false, y5.2) else if (y5.2 13 9) = 0 then some (true, y5.2) else some (false, y5.2) else none else some (false, M)
set_option maxRecDepth 100000 in
set_option maxHeartbeats 400000 in
theorem t_X2_isHeld_j15 {D : mm_D} {d : Nat} (hd : 2 ≤ d) (x1 : Int32) (z0 : Bool) (M : mm_M) (res : (Bool × mm_M)) (h : X2_isHeld_j15 x1 z0 M = some res) : mm_Go jX2_isHeld D d 0 0 15 [some (.inr 13), some (.inl x1), some (.inr 30), none] [(.inl (mm_b z0))] S_c M (mm_Zi (mm_b res.1) S_c res.2) := by
  unfold X2_isHeld_j15 at h
  refine r_istore_n (q := 16) (L' := [some (.inr 13), some (.inl x1), some (.inr 30), some (.inl (mm_b z0))]) dX2_isHeld_15 (by decide) rfl rfl ?_
  refine r_iload_n (q := 17) dX2_isHeld_16 rfl rfl ?_
  refine r_if_eq 45 (q := 20) dX2_isHeld_17 (by decide) rfl (fun c2 => ?_) (fun c2 => ?_)
  · rw [if_neg (mm_b0 c2)] at h
    refine r_iconst (v := 0) (q := 46) dX2_isHeld_45 (by decide) rfl ?_
    cases h
    exact r_retb dX2_isHeld_46 rfl (Or.inl rfl) mm_Zi_rfl
  · rw [if_pos (mm_b1 c2)] at h
    refine r_aload_n (q := 21) dX2_isHeld_20 rfl rfl ?_
    refine r_aload_n (q := 22) dX2_isHeld_21 rfl rfl ?_
    refine r_getr (b := 16) (q := 25) lk_X2_18 dX2_isHeld_22 sc_c_13 rfl rfl ?_
    refine r_iload_n (q := 26) dX2_isHeld_25 rfl rfl ?_
    obtain ⟨g3, h⟩ := mm_guard h
    refine r_iald (v := (M 16 (Int32.toNatClampNeg x1))) (q := 27) dX2_isHeld_26 sc_c_16 (mm_vp g3) rfl rfl ?_
    refine r_aload_n (q := 28) dX2_isHeld_27 rfl rfl ?_
    obtain ⟨y5, e4, h⟩ := Option.bind_eq_some_iff.mp h
    refine r_callV_i (av := [(.inl (M 16 (Int32.toNatClampNeg x1))), (.inr 30)]) (st := []) (q := 31) (d1 := 1) kc_X2_41 sc_c_13 dX2_isHeld_28 rfl rfl (Nat.le_of_ble_eq_true rfl) (Nat.le_of_ble_eq_true rfl) (by omega) rfl rfl (t_X2_reckon (d := 1) (by omega) (M 16 (Int32.toNatClampNeg x1)) M _ e4) ?_
    refine r_if_eq 45 (q := 34) dX2_isHeld_31 (by decide) rfl (fun c6 => ?_) (fun c6 => ?_)
    · rw [if_pos c6] at h
      refine r_iconst (v := 0) (q := 46) dX2_isHeld_45 (by decide) rfl ?_
      cases h
      exact r_retb dX2_isHeld_46 rfl (Or.inl rfl) mm_Zi_rfl
    · rw [if_neg c6] at h
      refine r_aload_n (q := 35) dX2_isHeld_34 rfl rfl ?_
      refine r_geti (v := (y5.2 13 9)) (q := 38) lk_X2_45 dX2_isHeld_35 sc_c_13 rfl rfl rfl ?_
      refine r_if_ne 45 (q := 41) dX2_isHeld_38 (by decide) rfl (fun c7 => ?_) (fun c7 => ?_)
      · rw [if_neg c7] at h
        refine r_iconst (v := 0) (q := 46) dX2_isHeld_45 (by decide) rfl ?_
        cases h
        exact r_retb dX2_isHeld_46 rfl (Or.inl rfl) mm_Zi_rfl
      · rw [if_pos c7] at h
        refine r_iconst (v := 1) (q := 42) dX2_isHeld_41 (by decide) rfl ?_
        refine r_goto 46 dX2_isHeld_42 (by decide) ?_
        cases h
        exact r_retb dX2_isHeld_46 rfl (Or.inr rfl) mm_Zi_rfl
noncomputable def X2_isHeld_j14 (x1 : Int32) (M : mm_M) : Option (Bool × mm_M) := X2_isHeld_j15 x1 false M
set_option maxRecDepth 100000 in
set_option maxHeartbeats 400000 in
theorem t_X2_isHeld_j14 {D : mm_D} {d : Nat} (hd : 2 ≤ d) (x1 : Int32) (M : mm_M) (res : (Bool × mm_M)) (h : X2_isHeld_j14 x1 M = some res) : mm_Go jX2_isHeld D d 0 0 14 [some (.inr 13), some (.inl x1), some (.inr 30), none] [] S_c M (mm_Zi (mm_b res.1) S_c res.2) := by
  unfold X2_isHeld_j14 at h
  refine r_iconst (v := 0) (q := 15) dX2_isHeld_14 (by decide) rfl ?_
  exact t_X2_isHeld_j15 hd x1 false M _ h
noncomputable def X2_isHeld (x1 : Int32) (M : mm_M) : Option (Bool × mm_M) := if x1 < 0 then X2_isHeld_j14 x1 M else if 16 ≤ x1 then X2_isHeld_j14 x1 M else X2_isHeld_j15 x1 true M
set_option maxRecDepth 100000 in
set_option maxHeartbeats 400000 in
theorem t_X2_isHeld {d : Nat} (hd : 2 ≤ d) (x1 : Int32) (M : mm_M) (res : (Bool × mm_M)) (h : X2_isHeld x1 M = some res) : mm_Meth jX2_isHeld d 0 0 [(.inr 13), (.inl x1), (.inr 30)] S_c M (mm_Zi (mm_b res.1) S_c res.2) := by
  refine r_meth (L := [some (.inr 13), some (.inl x1), some (.inr 30), none]) rfl (fun D => ?_)
  unfold X2_isHeld at h
  refine r_iload_n (q := 1) dX2_isHeld_0 rfl rfl ?_
  refine r_if_lt 14 (q := 4) dX2_isHeld_1 (by decide) rfl (fun c1 => ?_) (fun c1 => ?_)
  · rw [if_pos c1] at h
    exact t_X2_isHeld_j14 hd x1 M _ h
  · rw [if_neg c1] at h
    refine r_iload_n (q := 5) dX2_isHeld_4 rfl rfl ?_
    refine r_bipush (v := 16) (q := 7) dX2_isHeld_5 (by decide) rfl ?_
    refine r_icmp_ge 14 (q := 10) dX2_isHeld_7 (by decide) rfl (fun c8 => ?_) (fun c8 => ?_)
    · rw [if_pos c8] at h
      exact t_X2_isHeld_j14 hd x1 M _ h
    · rw [if_neg c8] at h
      refine r_iconst (v := 1) (q := 11) dX2_isHeld_10 (by decide) rfl ?_
      refine r_goto 15 dX2_isHeld_11 (by decide) ?_
      exact t_X2_isHeld_j15 hd x1 true M _ h
noncomputable def X2_firstNumber_l3 (x1 : Int32) (x3 : Int32) (s : (Int32 × mm_M)) : Option ((Int32 × mm_M) ⊕ ((Int32 × mm_M) ⊕ (Int32 × mm_M))) := if (s.2 13 0) ≤ s.1 then some (.inr (.inl (0, s.2))) else if 16 ≤ s.1 then some (.inr (.inl (0, s.2))) else if mm_in s.1 16 = true then if (s.2 14 (Int32.toNatClampNeg s.1)) = x1 then (X2_isHeld s.1 s.2).bind fun y6 => if y6.1 = true then some (.inr (.inr (s.1, y6.2))) else some (.inl ((s.1 + 1), y6.2)) else some (.inl ((s.1 + 1), s.2)) else none
set_option maxRecDepth 100000 in
set_option maxHeartbeats 400000 in
theorem t_X2_firstNumber_l3 {D : mm_D} {d : Nat} (hd : 3 ≤ d) {Z : Option Int32 → List mm_C → mm_M → Prop} (x1 : Int32) (x3 : Int32) (n : Nat) (s : (Int32 × mm_M)) (r : ((Int32 × mm_M) ⊕ (Int32 × mm_M))) (h : mm_loop (X2_firstNumber_l3 x1 x3) n s = some r) (hx : (Sum.elim (fun (y : (Int32 × mm_M)) => Z (some y.1) S_c y.2) (fun (s : (Int32 × mm_M)) => mm_Go jX2_firstNumber D d 0 0 40 [some (.inr 13), none, some (.inr 30), some (.inl x3), some (.inl s.1), none] [] S_c s.2 Z) r)) : mm_Go jX2_firstNumber D d 0 0 3 [some (.inr 13), some (.inl x1), some (.inr 30), some (.inl x3), some (.inl s.1), none] [] S_c s.2 Z := by
  refine mm_loop_go (step := X2_firstNumber_l3 x1 x3) (Hd := fun (s : (Int32 × mm_M)) => mm_Go jX2_firstNumber D d 0 0 3 [some (.inr 13), some (.inl x1), some (.inr 30), some (.inl x3), some (.inl s.1), none] [] S_c s.2 Z) (Ex := fun (r : ((Int32 × mm_M) ⊕ (Int32 × mm_M))) => (Sum.elim (fun (y : (Int32 × mm_M)) => Z (some y.1) S_c y.2) (fun (s : (Int32 × mm_M)) => mm_Go jX2_firstNumber D d 0 0 40 [some (.inr 13), none, some (.inr 30), some (.inl x3), some (.inl s.1), none] [] S_c s.2 Z) r)) ?_ n s r h hx
  intro s o h kb ke
  show mm_Go jX2_firstNumber D d 0 0 3 [some (.inr 13), some (.inl x1), some (.inr 30), some (.inl x3), some (.inl s.1), none] [] S_c s.2 Z
  unfold X2_firstNumber_l3 at h
  refine r_iload (q := 5) dX2_firstNumber_3 rfl rfl ?_
  refine r_aload_n (q := 6) dX2_firstNumber_5 rfl rfl ?_
  refine r_geti (v := (s.2 13 0)) (q := 9) lk_X2_30 dX2_firstNumber_6 sc_c_13 rfl rfl rfl ?_
  refine r_icmp_ge 82 (q := 12) dX2_firstNumber_9 (by decide) rfl (fun c1 => ?_) (fun c1 => ?_)
  · rw [if_pos c1] at h
    refine r_iconst (v := 0) (q := 83) dX2_firstNumber_82 (by decide) rfl ?_
    cases h
    have hk := ke _ rfl
    exact r_ret dX2_firstNumber_83 rfl hk
  · rw [if_neg c1] at h
    refine r_iload (q := 14) dX2_firstNumber_12 rfl rfl ?_
    refine r_bipush (v := 16) (q := 16) dX2_firstNumber_14 (by decide) rfl ?_
    refine r_icmp_ge 82 (q := 19) dX2_firstNumber_16 (by decide) rfl (fun c2 => ?_) (fun c2 => ?_)
    · rw [if_pos c2] at h
      refine r_iconst (v := 0) (q := 83) dX2_firstNumber_82 (by decide) rfl ?_
      cases h
      have hk := ke _ rfl
      exact r_ret dX2_firstNumber_83 rfl hk
    · rw [if_neg c2] at h
      refine r_aload_n (q := 20) dX2_firstNumber_19 rfl rfl ?_
      refine r_getr (b := 14) (q := 23) lk_X2_11 dX2_firstNumber_20 sc_c_13 rfl rfl ?_
      refine r_iload (q := 25) dX2_firstNumber_23 rfl rfl ?_
      obtain ⟨g3, h⟩ := mm_guard h
      refine r_iald (v := (s.2 14 (Int32.toNatClampNeg s.1))) (q := 26) dX2_firstNumber_25 sc_c_14 (mm_vp g3) rfl rfl ?_
      refine r_iload_n (q := 27) dX2_firstNumber_26 rfl rfl ?_
      refine r_icmp_ne 76 (q := 30) dX2_firstNumber_27 (by decide) rfl (fun c4 => ?_) (fun c4 => ?_)
      · rw [if_neg c4] at h
        refine r_iinc (v := 1) (q := 79) (L' := [some (.inr 13), some (.inl x1), some (.inr 30), some (.inl x3), some (.inl (s.1 + 1)), none]) dX2_firstNumber_76 (by decide) (by decide) rfl rfl rfl ?_
        refine r_goto 3 dX2_firstNumber_79 (by decide) ?_
        cases h
        have hk := kb _ rfl
        exact hk
      · rw [if_pos c4] at h
        refine r_aload_n (q := 31) dX2_firstNumber_30 rfl rfl ?_
        refine r_iload (q := 33) dX2_firstNumber_31 rfl rfl ?_
        refine r_aload_n (q := 34) dX2_firstNumber_33 rfl rfl ?_
        obtain ⟨y6, e5, h⟩ := Option.bind_eq_some_iff.mp h
        refine r_callV_i (av := [(.inl s.1), (.inr 30)]) (st := []) (q := 37) (d1 := 2) kc_X2_37 sc_c_13 dX2_firstNumber_34 rfl rfl (Nat.le_of_ble_eq_true rfl) (Nat.le_of_ble_eq_true rfl) (by omega) rfl rfl (t_X2_isHeld (d := 2) (by omega) s.1 s.2 _ e5) ?_
        refine r_if_eq 76 (q := 40) dX2_firstNumber_37 (by decide) rfl (fun c7 => ?_) (fun c7 => ?_)
        · rw [if_neg (mm_b0 c7)] at h
          refine r_iinc (v := 1) (q := 79) (L' := [some (.inr 13), some (.inl x1), some (.inr 30), some (.inl x3), some (.inl (s.1 + 1)), none]) dX2_firstNumber_76 (by decide) (by decide) rfl rfl rfl ?_
          refine r_goto 3 dX2_firstNumber_79 (by decide) ?_
          cases h
          have hk := kb _ rfl
          exact hk
        · rw [if_pos (mm_b1 c7)] at h
          refine r_forget (L' := [some (.inr 13), none, some (.inr 30), some (.inl x3), some (.inl s.1), none]) [true, false, true, true, true, false] rfl ?_
          cases h
          have hk := ke _ rfl
          exact hk
noncomputable def X2_firstNumber (x1 : Int32) (x3 : Int32) (M : mm_M) : Option (Int32 × mm_M) := (mm_loop (X2_firstNumber_l3 x1 x3) mm_fuel (0, M)).bind fun y8 => (match y8 with | .inl y8r => some y8r | .inr y8s => if mm_in y8s.1 16 = true then (X2_reckon (y8s.2 15 (Int32.toNatClampNeg y8s.1)) y8s.2).bind fun y12 => if (y12.2 13 9) = 0 then some ((if 0 < (if y12.1 < x3 then y12.1 else x3) then (if y12.1 < x3 then y12.1 else x3) else 0), y12.2) else some (0, y12.2) else none)
set_option maxRecDepth 100000 in
set_option maxHeartbeats 400000 in
theorem t_X2_firstNumber {d : Nat} (hd : 3 ≤ d) (x1 : Int32) (x3 : Int32) (M : mm_M) (res : (Int32 × mm_M)) (h : X2_firstNumber x1 x3 M = some res) : mm_Meth jX2_firstNumber d 0 0 [(.inr 13), (.inl x1), (.inr 30), (.inl x3)] S_c M (mm_Zi res.1 S_c res.2) := by
  refine r_meth (L := [some (.inr 13), some (.inl x1), some (.inr 30), some (.inl x3), none, none]) rfl (fun D => ?_)
  unfold X2_firstNumber at h
  refine r_iconst (v := 0) (q := 1) dX2_firstNumber_0 (by decide) rfl ?_
  refine r_istore (q := 3) (L' := [some (.inr 13), some (.inl x1), some (.inr 30), some (.inl x3), some (.inl 0), none]) dX2_firstNumber_1 (by decide) rfl rfl ?_
  obtain ⟨y8, e9, h⟩ := Option.bind_eq_some_iff.mp h
  refine t_X2_firstNumber_l3 hd x1 x3 mm_fuel (0, M) _ e9 ?_
  rcases y8 with y8r | y8s
  · dsimp only at h
    cases h
    exact mm_Zi_rfl
  · dsimp only at h
    show mm_Go jX2_firstNumber _ _ _ _ 40 [some (.inr 13), none, some (.inr 30), some (.inl x3), some (.inl y8s.1), none] [] S_c y8s.2 _
    refine r_aload_n (q := 41) dX2_firstNumber_40 rfl rfl ?_
    refine r_aload_n (q := 42) dX2_firstNumber_41 rfl rfl ?_
    refine r_getr (b := 15) (q := 45) lk_X2_15 dX2_firstNumber_42 sc_c_13 rfl rfl ?_
    refine r_iload (q := 47) dX2_firstNumber_45 rfl rfl ?_
    obtain ⟨g10, h⟩ := mm_guard h
    refine r_iald (v := (y8s.2 15 (Int32.toNatClampNeg y8s.1))) (q := 48) dX2_firstNumber_47 sc_c_15 (mm_vp g10) rfl rfl ?_
    refine r_aload_n (q := 49) dX2_firstNumber_48 rfl rfl ?_
    obtain ⟨y12, e11, h⟩ := Option.bind_eq_some_iff.mp h
    refine r_callV_i (av := [(.inl (y8s.2 15 (Int32.toNatClampNeg y8s.1))), (.inr 30)]) (st := []) (q := 52) (d1 := 1) kc_X2_41 sc_c_13 dX2_firstNumber_49 rfl rfl (Nat.le_of_ble_eq_true rfl) (Nat.le_of_ble_eq_true rfl) (by omega) rfl rfl (t_X2_reckon (d := 1) (by omega) (y8s.2 15 (Int32.toNatClampNeg y8s.1)) y8s.2 _ e11) ?_
    refine r_istore (q := 54) (L' := [some (.inr 13), none, some (.inr 30), some (.inl x3), some (.inl y8s.1), some (.inl y12.1)]) dX2_firstNumber_52 (by decide) rfl rfl ?_
    refine r_aload_n (q := 55) dX2_firstNumber_54 rfl rfl ?_
    refine r_geti (v := (y12.2 13 9)) (q := 58) lk_X2_45 dX2_firstNumber_55 sc_c_13 rfl rfl rfl ?_
    refine r_if_eq 65 (q := 61) dX2_firstNumber_58 (by decide) rfl (fun c13 => ?_) (fun c13 => ?_)
    · rw [if_pos c13] at h
      refine r_iconst (v := 0) (q := 66) dX2_firstNumber_65 (by decide) rfl ?_
      refine r_iload_n (q := 67) dX2_firstNumber_66 rfl rfl ?_
      refine r_iload (q := 69) dX2_firstNumber_67 rfl rfl ?_
      refine r_mmin (q := 72) kc_X2_49 dX2_firstNumber_69 (Nat.le_of_ble_eq_true rfl) rfl ?_
      refine r_mmax (q := 75) kc_X2_55 dX2_firstNumber_72 (Nat.le_of_ble_eq_true rfl) rfl ?_
      cases h
      exact r_ret dX2_firstNumber_75 rfl mm_Zi_rfl
    · rw [if_neg c13] at h
      refine r_iconst (v := 0) (q := 62) dX2_firstNumber_61 (by decide) rfl ?_
      refine r_goto 75 dX2_firstNumber_62 (by decide) ?_
      cases h
      exact r_ret dX2_firstNumber_75 rfl mm_Zi_rfl
noncomputable def X2_holdsAny_l2 (x1 : Int32) (s : (Int32 × mm_M)) : Option ((Int32 × mm_M) ⊕ (Bool × mm_M)) := if (s.2 13 0) ≤ s.1 then some (.inr (false, s.2)) else if 16 ≤ s.1 then some (.inr (false, s.2)) else if mm_in s.1 16 = true then if (s.2 14 (Int32.toNatClampNeg s.1)) = x1 then (X2_isHeld s.1 s.2).bind fun y6 => if y6.1 = true then some (.inr (true, y6.2)) else some (.inl ((s.1 + 1), y6.2)) else some (.inl ((s.1 + 1), s.2)) else none
set_option maxRecDepth 100000 in
set_option maxHeartbeats 400000 in
theorem t_X2_holdsAny_l2 {D : mm_D} {d : Nat} (hd : 3 ≤ d) {Z : Option Int32 → List mm_C → mm_M → Prop} (x1 : Int32) (n : Nat) (s : (Int32 × mm_M)) (r : (Bool × mm_M)) (h : mm_loop (X2_holdsAny_l2 x1) n s = some r) (hx : Z (some (mm_b r.1)) S_c r.2) : mm_Go jX2_holdsAny D d 0 0 2 [some (.inr 13), some (.inl x1), some (.inr 30), some (.inl s.1)] [] S_c s.2 Z := by
  refine mm_loop_go (step := X2_holdsAny_l2 x1) (Hd := fun (s : (Int32 × mm_M)) => mm_Go jX2_holdsAny D d 0 0 2 [some (.inr 13), some (.inl x1), some (.inr 30), some (.inl s.1)] [] S_c s.2 Z) (Ex := fun (r : (Bool × mm_M)) => Z (some (mm_b r.1)) S_c r.2) ?_ n s r h hx
  intro s o h kb ke
  show mm_Go jX2_holdsAny D d 0 0 2 [some (.inr 13), some (.inl x1), some (.inr 30), some (.inl s.1)] [] S_c s.2 Z
  unfold X2_holdsAny_l2 at h
  refine r_iload_n (q := 3) dX2_holdsAny_2 rfl rfl ?_
  refine r_aload_n (q := 4) dX2_holdsAny_3 rfl rfl ?_
  refine r_geti (v := (s.2 13 0)) (q := 7) lk_X2_30 dX2_holdsAny_4 sc_c_13 rfl rfl rfl ?_
  refine r_icmp_ge 43 (q := 10) dX2_holdsAny_7 (by decide) rfl (fun c1 => ?_) (fun c1 => ?_)
  · rw [if_pos c1] at h
    refine r_iconst (v := 0) (q := 44) dX2_holdsAny_43 (by decide) rfl ?_
    cases h
    have hk := ke _ rfl
    exact r_retb dX2_holdsAny_44 rfl (Or.inl rfl) hk
  · rw [if_neg c1] at h
    refine r_iload_n (q := 11) dX2_holdsAny_10 rfl rfl ?_
    refine r_bipush (v := 16) (q := 13) dX2_holdsAny_11 (by decide) rfl ?_
    refine r_icmp_ge 43 (q := 16) dX2_holdsAny_13 (by decide) rfl (fun c2 => ?_) (fun c2 => ?_)
    · rw [if_pos c2] at h
      refine r_iconst (v := 0) (q := 44) dX2_holdsAny_43 (by decide) rfl ?_
      cases h
      have hk := ke _ rfl
      exact r_retb dX2_holdsAny_44 rfl (Or.inl rfl) hk
    · rw [if_neg c2] at h
      refine r_aload_n (q := 17) dX2_holdsAny_16 rfl rfl ?_
      refine r_getr (b := 14) (q := 20) lk_X2_11 dX2_holdsAny_17 sc_c_13 rfl rfl ?_
      refine r_iload_n (q := 21) dX2_holdsAny_20 rfl rfl ?_
      obtain ⟨g3, h⟩ := mm_guard h
      refine r_iald (v := (s.2 14 (Int32.toNatClampNeg s.1))) (q := 22) dX2_holdsAny_21 sc_c_14 (mm_vp g3) rfl rfl ?_
      refine r_iload_n (q := 23) dX2_holdsAny_22 rfl rfl ?_
      refine r_icmp_ne 37 (q := 26) dX2_holdsAny_23 (by decide) rfl (fun c4 => ?_) (fun c4 => ?_)
      · rw [if_neg c4] at h
        refine r_iinc (v := 1) (q := 40) (L' := [some (.inr 13), some (.inl x1), some (.inr 30), some (.inl (s.1 + 1))]) dX2_holdsAny_37 (by decide) (by decide) rfl rfl rfl ?_
        refine r_goto 2 dX2_holdsAny_40 (by decide) ?_
        cases h
        have hk := kb _ rfl
        exact hk
      · rw [if_pos c4] at h
        refine r_aload_n (q := 27) dX2_holdsAny_26 rfl rfl ?_
        refine r_iload_n (q := 28) dX2_holdsAny_27 rfl rfl ?_
        refine r_aload_n (q := 29) dX2_holdsAny_28 rfl rfl ?_
        obtain ⟨y6, e5, h⟩ := Option.bind_eq_some_iff.mp h
        refine r_callV_i (av := [(.inl s.1), (.inr 30)]) (st := []) (q := 32) (d1 := 2) kc_X2_37 sc_c_13 dX2_holdsAny_29 rfl rfl (Nat.le_of_ble_eq_true rfl) (Nat.le_of_ble_eq_true rfl) (by omega) rfl rfl (t_X2_isHeld (d := 2) (by omega) s.1 s.2 _ e5) ?_
        refine r_if_eq 37 (q := 35) dX2_holdsAny_32 (by decide) rfl (fun c7 => ?_) (fun c7 => ?_)
        · rw [if_neg (mm_b0 c7)] at h
          refine r_iinc (v := 1) (q := 40) (L' := [some (.inr 13), some (.inl x1), some (.inr 30), some (.inl (s.1 + 1))]) dX2_holdsAny_37 (by decide) (by decide) rfl rfl rfl ?_
          refine r_goto 2 dX2_holdsAny_40 (by decide) ?_
          cases h
          have hk := kb _ rfl
          exact hk
        · rw [if_pos (mm_b1 c7)] at h
          refine r_iconst (v := 1) (q := 36) dX2_holdsAny_35 (by decide) rfl ?_
          cases h
          have hk := ke _ rfl
          exact r_retb dX2_holdsAny_36 rfl (Or.inr rfl) hk
noncomputable def X2_holdsAny (x1 : Int32) (M : mm_M) : Option (Bool × mm_M) := (mm_loop (X2_holdsAny_l2 x1) mm_fuel (0, M))
set_option maxRecDepth 100000 in
set_option maxHeartbeats 400000 in
theorem t_X2_holdsAny {d : Nat} (hd : 3 ≤ d) (x1 : Int32) (M : mm_M) (res : (Bool × mm_M)) (h : X2_holdsAny x1 M = some res) : mm_Meth jX2_holdsAny d 0 0 [(.inr 13), (.inl x1), (.inr 30)] S_c M (mm_Zi (mm_b res.1) S_c res.2) := by
  refine r_meth (L := [some (.inr 13), some (.inl x1), some (.inr 30), none]) rfl (fun D => ?_)
  unfold X2_holdsAny at h
  refine r_iconst (v := 0) (q := 1) dX2_holdsAny_0 (by decide) rfl ?_
  refine r_istore_n (q := 2) (L' := [some (.inr 13), some (.inl x1), some (.inr 30), some (.inl 0)]) dX2_holdsAny_1 (by decide) rfl rfl ?_
  exact t_X2_holdsAny_l2 hd x1 mm_fuel (0, M) _ h mm_Zi_rfl
noncomputable def X1_mostLiked_l15 (a1 : Nat) (s : (Int32 × Int32 × Int32 × mm_M)) : Option ((Int32 × Int32 × Int32 × mm_M) ⊕ (Int32 × mm_M)) := if 8 ≤ s.2.2.1 then some (.inr (s.1, s.2.2.2)) else if 8 ≤ s.2.2.1 then some (.inr (s.1, s.2.2.2)) else if mm_in s.2.2.1 8 = true then if (s.2.2.2 a1 3) < (s.2.2.2 3 (Int32.toNatClampNeg s.2.2.1)) then some (.inl (s.1, s.2.1, (s.2.2.1 + 1), s.2.2.2)) else if mm_in s.2.2.1 8 = true then mm_let (X1_setQuestion s.2.2.1 (s.2.2.2 3 (Int32.toNatClampNeg s.2.2.1)) s.2.2.2) fun y9 => (X2_firstNumber 101 9999 y9).bind fun y11 => if y11.1 ≤ s.2.1 then some (.inl (s.1, s.2.1, (s.2.2.1 + 1), y11.2)) else (X2_holdsAny 120 y11.2).bind fun y14 => if y14.1 = true then some (.inl (s.1, s.2.1, (s.2.2.1 + 1), y14.2)) else some (.inl (s.2.2.1, y11.1, (s.2.2.1 + 1), y14.2)) else none else none
set_option maxRecDepth 100000 in
set_option maxHeartbeats 400000 in
theorem t_X1_mostLiked_l15_29_4_13_3 {D : mm_D} {d : Nat} (hd : 4 ≤ d) {Z : Option Int32 → List mm_C → mm_M → Prop} (n : Nat) (s : (Int32 × Int32 × Int32 × mm_M)) (r : (Int32 × mm_M)) (h : mm_loop (X1_mostLiked_l15 4) n s = some r) (hx : Z (some r.1) S_c r.2) : mm_Go jX1_mostLiked D d 0 0 15 [some (.inr 29), some (.inr 4), none, some (.inr 13), some (.inr 3), some (.inl s.1), some (.inl s.2.1), some (.inl s.2.2.1), none] [] S_c s.2.2.2 Z := by
  refine mm_loop_go (step := X1_mostLiked_l15 4) (Hd := fun (s : (Int32 × Int32 × Int32 × mm_M)) => mm_Go jX1_mostLiked D d 0 0 15 [some (.inr 29), some (.inr 4), none, some (.inr 13), some (.inr 3), some (.inl s.1), some (.inl s.2.1), some (.inl s.2.2.1), none] [] S_c s.2.2.2 Z) (Ex := fun (r : (Int32 × mm_M)) => Z (some r.1) S_c r.2) ?_ n s r h hx
  intro s o h kb ke
  show mm_Go jX1_mostLiked D d 0 0 15 [some (.inr 29), some (.inr 4), none, some (.inr 13), some (.inr 3), some (.inl s.1), some (.inl s.2.1), some (.inl s.2.2.1), none] [] S_c s.2.2.2 Z
  unfold X1_mostLiked_l15 at h
  refine r_iload (q := 17) dX1_mostLiked_15 rfl rfl ?_
  refine r_bipush (v := 8) (q := 19) dX1_mostLiked_17 (by decide) rfl ?_
  refine r_icmp_ge 102 (q := 22) dX1_mostLiked_19 (by decide) rfl (fun c3 => ?_) (fun c3 => ?_)
  · rw [if_pos c3] at h
    refine r_iload (q := 104) dX1_mostLiked_102 rfl rfl ?_
    cases h
    have hk := ke _ rfl
    exact r_ret dX1_mostLiked_104 rfl hk
  · rw [if_neg c3] at h
    refine r_iload (q := 24) dX1_mostLiked_22 rfl rfl ?_
    refine r_aload (q := 26) dX1_mostLiked_24 rfl rfl ?_
    refine r_alen (v := 8) (q := 27) dX1_mostLiked_26 sc_c_3 rfl rfl ?_
    refine r_icmp_ge 102 (q := 30) dX1_mostLiked_27 (by decide) rfl (fun c4 => ?_) (fun c4 => ?_)
    · rw [if_pos c4] at h
      refine r_iload (q := 104) dX1_mostLiked_102 rfl rfl ?_
      cases h
      have hk := ke _ rfl
      exact r_ret dX1_mostLiked_104 rfl hk
    · rw [if_neg c4] at h
      refine r_aload (q := 32) dX1_mostLiked_30 rfl rfl ?_
      refine r_iload (q := 34) dX1_mostLiked_32 rfl rfl ?_
      obtain ⟨g5, h⟩ := mm_guard h
      refine r_iald (v := (s.2.2.2 3 (Int32.toNatClampNeg s.2.2.1))) (q := 35) dX1_mostLiked_34 sc_c_3 (mm_vp g5) rfl rfl ?_
      refine r_aload_n (q := 36) dX1_mostLiked_35 rfl rfl ?_
      refine r_geti (v := (s.2.2.2 4 3)) (q := 39) lk_X1_45 dX1_mostLiked_36 rfl rfl rfl rfl ?_
      refine r_icmp_gt 96 (q := 42) dX1_mostLiked_39 (by decide) rfl (fun c6 => ?_) (fun c6 => ?_)
      · rw [if_pos c6] at h
        refine r_iinc (v := 1) (q := 99) (L' := [some (.inr 29), some (.inr 4), none, some (.inr 13), some (.inr 3), some (.inl s.1), some (.inl s.2.1), some (.inl (s.2.2.1 + 1)), none]) dX1_mostLiked_96 (by decide) (by decide) rfl rfl rfl ?_
        refine r_goto 15 dX1_mostLiked_99 (by decide) ?_
        cases h
        have hk := kb _ rfl
        exact hk
      · rw [if_neg c6] at h
        refine r_aload_n (q := 43) dX1_mostLiked_42 rfl rfl ?_
        refine r_iload (q := 45) dX1_mostLiked_43 rfl rfl ?_
        refine r_aload (q := 47) dX1_mostLiked_45 rfl rfl ?_
        refine r_iload (q := 49) dX1_mostLiked_47 rfl rfl ?_
        obtain ⟨g7, h⟩ := mm_guard h
        refine r_iald (v := (s.2.2.2 3 (Int32.toNatClampNeg s.2.2.1))) (q := 50) dX1_mostLiked_49 sc_c_3 (mm_vp g7) rfl rfl ?_
        obtain ⟨y9, e8, h⟩ := mm_let_elim h
        refine r_callV_v (av := [(.inl s.2.2.1), (.inl (s.2.2.2 3 (Int32.toNatClampNeg s.2.2.1)))]) (st := []) (q := 53) (d1 := 0) kc_X1_59 sc_c_29 dX1_mostLiked_50 rfl rfl (Nat.le_of_ble_eq_true rfl) (Nat.le_of_ble_eq_true rfl) (by omega) rfl rfl (t_X1_setQuestion (d := 0) (by omega) s.2.2.1 (s.2.2.2 3 (Int32.toNatClampNeg s.2.2.1)) s.2.2.2 _ e8) ?_
        refine r_aload_n (q := 54) dX1_mostLiked_53 rfl rfl ?_
        refine r_bipush (v := 101) (q := 56) dX1_mostLiked_54 (by decide) rfl ?_
        refine r_aload_n (q := 57) dX1_mostLiked_56 rfl rfl ?_
        refine r_getr (b := 30) (q := 60) lk_X1_9 dX1_mostLiked_57 sc_c_29 rfl rfl ?_
        refine r_sipush (v := 9999) (q := 63) dX1_mostLiked_60 (by decide) rfl ?_
        obtain ⟨y11, e10, h⟩ := Option.bind_eq_some_iff.mp h
        refine r_callV_i (av := [(.inl 101), (.inr 30), (.inl 9999)]) (st := []) (q := 66) (d1 := 3) kc_X1_63 sc_c_13 dX1_mostLiked_63 rfl rfl (Nat.le_of_ble_eq_true rfl) (Nat.le_of_ble_eq_true rfl) (by omega) rfl rfl (t_X2_firstNumber (d := 3) (by omega) 101 9999 y9 _ e10) ?_
        refine r_istore (q := 68) (L' := [some (.inr 29), some (.inr 4), none, some (.inr 13), some (.inr 3), some (.inl s.1), some (.inl s.2.1), some (.inl s.2.2.1), some (.inl y11.1)]) dX1_mostLiked_66 (by decide) rfl rfl ?_
        refine r_iload (q := 70) dX1_mostLiked_68 rfl rfl ?_
        refine r_iload (q := 72) dX1_mostLiked_70 rfl rfl ?_
        refine r_icmp_le 96 (q := 75) dX1_mostLiked_72 (by decide) rfl (fun c12 => ?_) (fun c12 => ?_)
        · rw [if_pos c12] at h
          refine r_iinc (v := 1) (q := 99) (L' := [some (.inr 29), some (.inr 4), none, some (.inr 13), some (.inr 3), some (.inl s.1), some (.inl s.2.1), some (.inl (s.2.2.1 + 1)), some (.inl y11.1)]) dX1_mostLiked_96 (by decide) (by decide) rfl rfl rfl ?_
          refine r_goto 15 dX1_mostLiked_99 (by decide) ?_
          refine r_forget (L' := [some (.inr 29), some (.inr 4), none, some (.inr 13), some (.inr 3), some (.inl s.1), some (.inl s.2.1), some (.inl (s.2.2.1 + 1)), none]) [true, true, false, true, true, true, true, true, false] rfl ?_
          cases h
          have hk := kb _ rfl
          exact hk
        · rw [if_neg c12] at h
          refine r_aload_n (q := 76) dX1_mostLiked_75 rfl rfl ?_
          refine r_bipush (v := 120) (q := 78) dX1_mostLiked_76 (by decide) rfl ?_
          refine r_aload_n (q := 79) dX1_mostLiked_78 rfl rfl ?_
          refine r_getr (b := 30) (q := 82) lk_X1_9 dX1_mostLiked_79 sc_c_29 rfl rfl ?_
          obtain ⟨y14, e13, h⟩ := Option.bind_eq_some_iff.mp h
          refine r_callV_i (av := [(.inl 120), (.inr 30)]) (st := []) (q := 85) (d1 := 3) kc_X1_75 sc_c_13 dX1_mostLiked_82 rfl rfl (Nat.le_of_ble_eq_true rfl) (Nat.le_of_ble_eq_true rfl) (by omega) rfl rfl (t_X2_holdsAny (d := 3) (by omega) 120 y11.2 _ e13) ?_
          refine r_if_ne 96 (q := 88) dX1_mostLiked_85 (by decide) rfl (fun c15 => ?_) (fun c15 => ?_)
          · rw [if_pos (mm_b1 c15)] at h
            refine r_iinc (v := 1) (q := 99) (L' := [some (.inr 29), some (.inr 4), none, some (.inr 13), some (.inr 3), some (.inl s.1), some (.inl s.2.1), some (.inl (s.2.2.1 + 1)), some (.inl y11.1)]) dX1_mostLiked_96 (by decide) (by decide) rfl rfl rfl ?_
            refine r_goto 15 dX1_mostLiked_99 (by decide) ?_
            refine r_forget (L' := [some (.inr 29), some (.inr 4), none, some (.inr 13), some (.inr 3), some (.inl s.1), some (.inl s.2.1), some (.inl (s.2.2.1 + 1)), none]) [true, true, false, true, true, true, true, true, false] rfl ?_
            cases h
            have hk := kb _ rfl
            exact hk
          · rw [if_neg (mm_b0 c15)] at h
            refine r_iload (q := 90) dX1_mostLiked_88 rfl rfl ?_
            refine r_istore (q := 92) (L' := [some (.inr 29), some (.inr 4), none, some (.inr 13), some (.inr 3), some (.inl s.2.2.1), some (.inl s.2.1), some (.inl s.2.2.1), some (.inl y11.1)]) dX1_mostLiked_90 (by decide) rfl rfl ?_
            refine r_iload (q := 94) dX1_mostLiked_92 rfl rfl ?_
            refine r_istore (q := 96) (L' := [some (.inr 29), some (.inr 4), none, some (.inr 13), some (.inr 3), some (.inl s.2.2.1), some (.inl y11.1), some (.inl s.2.2.1), some (.inl y11.1)]) dX1_mostLiked_94 (by decide) rfl rfl ?_
            refine r_iinc (v := 1) (q := 99) (L' := [some (.inr 29), some (.inr 4), none, some (.inr 13), some (.inr 3), some (.inl s.2.2.1), some (.inl y11.1), some (.inl (s.2.2.1 + 1)), some (.inl y11.1)]) dX1_mostLiked_96 (by decide) (by decide) rfl rfl rfl ?_
            refine r_goto 15 dX1_mostLiked_99 (by decide) ?_
            refine r_forget (L' := [some (.inr 29), some (.inr 4), none, some (.inr 13), some (.inr 3), some (.inl s.2.2.1), some (.inl y11.1), some (.inl (s.2.2.1 + 1)), none]) [true, true, false, true, true, true, true, true, false] rfl ?_
            cases h
            have hk := kb _ rfl
            exact hk
set_option maxRecDepth 100000 in
set_option maxHeartbeats 400000 in
theorem t_X1_mostLiked_l15_29_6_13_3 {D : mm_D} {d : Nat} (hd : 4 ≤ d) {Z : Option Int32 → List mm_C → mm_M → Prop} (n : Nat) (s : (Int32 × Int32 × Int32 × mm_M)) (r : (Int32 × mm_M)) (h : mm_loop (X1_mostLiked_l15 6) n s = some r) (hx : Z (some r.1) S_c r.2) : mm_Go jX1_mostLiked D d 0 0 15 [some (.inr 29), some (.inr 6), none, some (.inr 13), some (.inr 3), some (.inl s.1), some (.inl s.2.1), some (.inl s.2.2.1), none] [] S_c s.2.2.2 Z := by
  refine mm_loop_go (step := X1_mostLiked_l15 6) (Hd := fun (s : (Int32 × Int32 × Int32 × mm_M)) => mm_Go jX1_mostLiked D d 0 0 15 [some (.inr 29), some (.inr 6), none, some (.inr 13), some (.inr 3), some (.inl s.1), some (.inl s.2.1), some (.inl s.2.2.1), none] [] S_c s.2.2.2 Z) (Ex := fun (r : (Int32 × mm_M)) => Z (some r.1) S_c r.2) ?_ n s r h hx
  intro s o h kb ke
  show mm_Go jX1_mostLiked D d 0 0 15 [some (.inr 29), some (.inr 6), none, some (.inr 13), some (.inr 3), some (.inl s.1), some (.inl s.2.1), some (.inl s.2.2.1), none] [] S_c s.2.2.2 Z
  unfold X1_mostLiked_l15 at h
  refine r_iload (q := 17) dX1_mostLiked_15 rfl rfl ?_
  refine r_bipush (v := 8) (q := 19) dX1_mostLiked_17 (by decide) rfl ?_
  refine r_icmp_ge 102 (q := 22) dX1_mostLiked_19 (by decide) rfl (fun c3 => ?_) (fun c3 => ?_)
  · rw [if_pos c3] at h
    refine r_iload (q := 104) dX1_mostLiked_102 rfl rfl ?_
    cases h
    have hk := ke _ rfl
    exact r_ret dX1_mostLiked_104 rfl hk
  · rw [if_neg c3] at h
    refine r_iload (q := 24) dX1_mostLiked_22 rfl rfl ?_
    refine r_aload (q := 26) dX1_mostLiked_24 rfl rfl ?_
    refine r_alen (v := 8) (q := 27) dX1_mostLiked_26 sc_c_3 rfl rfl ?_
    refine r_icmp_ge 102 (q := 30) dX1_mostLiked_27 (by decide) rfl (fun c4 => ?_) (fun c4 => ?_)
    · rw [if_pos c4] at h
      refine r_iload (q := 104) dX1_mostLiked_102 rfl rfl ?_
      cases h
      have hk := ke _ rfl
      exact r_ret dX1_mostLiked_104 rfl hk
    · rw [if_neg c4] at h
      refine r_aload (q := 32) dX1_mostLiked_30 rfl rfl ?_
      refine r_iload (q := 34) dX1_mostLiked_32 rfl rfl ?_
      obtain ⟨g5, h⟩ := mm_guard h
      refine r_iald (v := (s.2.2.2 3 (Int32.toNatClampNeg s.2.2.1))) (q := 35) dX1_mostLiked_34 sc_c_3 (mm_vp g5) rfl rfl ?_
      refine r_aload_n (q := 36) dX1_mostLiked_35 rfl rfl ?_
      refine r_geti (v := (s.2.2.2 6 3)) (q := 39) lk_X1_45 dX1_mostLiked_36 rfl rfl rfl rfl ?_
      refine r_icmp_gt 96 (q := 42) dX1_mostLiked_39 (by decide) rfl (fun c6 => ?_) (fun c6 => ?_)
      · rw [if_pos c6] at h
        refine r_iinc (v := 1) (q := 99) (L' := [some (.inr 29), some (.inr 6), none, some (.inr 13), some (.inr 3), some (.inl s.1), some (.inl s.2.1), some (.inl (s.2.2.1 + 1)), none]) dX1_mostLiked_96 (by decide) (by decide) rfl rfl rfl ?_
        refine r_goto 15 dX1_mostLiked_99 (by decide) ?_
        cases h
        have hk := kb _ rfl
        exact hk
      · rw [if_neg c6] at h
        refine r_aload_n (q := 43) dX1_mostLiked_42 rfl rfl ?_
        refine r_iload (q := 45) dX1_mostLiked_43 rfl rfl ?_
        refine r_aload (q := 47) dX1_mostLiked_45 rfl rfl ?_
        refine r_iload (q := 49) dX1_mostLiked_47 rfl rfl ?_
        obtain ⟨g7, h⟩ := mm_guard h
        refine r_iald (v := (s.2.2.2 3 (Int32.toNatClampNeg s.2.2.1))) (q := 50) dX1_mostLiked_49 sc_c_3 (mm_vp g7) rfl rfl ?_
        obtain ⟨y9, e8, h⟩ := mm_let_elim h
        refine r_callV_v (av := [(.inl s.2.2.1), (.inl (s.2.2.2 3 (Int32.toNatClampNeg s.2.2.1)))]) (st := []) (q := 53) (d1 := 0) kc_X1_59 sc_c_29 dX1_mostLiked_50 rfl rfl (Nat.le_of_ble_eq_true rfl) (Nat.le_of_ble_eq_true rfl) (by omega) rfl rfl (t_X1_setQuestion (d := 0) (by omega) s.2.2.1 (s.2.2.2 3 (Int32.toNatClampNeg s.2.2.1)) s.2.2.2 _ e8) ?_
        refine r_aload_n (q := 54) dX1_mostLiked_53 rfl rfl ?_
        refine r_bipush (v := 101) (q := 56) dX1_mostLiked_54 (by decide) rfl ?_
        refine r_aload_n (q := 57) dX1_mostLiked_56 rfl rfl ?_
        refine r_getr (b := 30) (q := 60) lk_X1_9 dX1_mostLiked_57 sc_c_29 rfl rfl ?_
        refine r_sipush (v := 9999) (q := 63) dX1_mostLiked_60 (by decide) rfl ?_
        obtain ⟨y11, e10, h⟩ := Option.bind_eq_some_iff.mp h
        refine r_callV_i (av := [(.inl 101), (.inr 30), (.inl 9999)]) (st := []) (q := 66) (d1 := 3) kc_X1_63 sc_c_13 dX1_mostLiked_63 rfl rfl (Nat.le_of_ble_eq_true rfl) (Nat.le_of_ble_eq_true rfl) (by omega) rfl rfl (t_X2_firstNumber (d := 3) (by omega) 101 9999 y9 _ e10) ?_
        refine r_istore (q := 68) (L' := [some (.inr 29), some (.inr 6), none, some (.inr 13), some (.inr 3), some (.inl s.1), some (.inl s.2.1), some (.inl s.2.2.1), some (.inl y11.1)]) dX1_mostLiked_66 (by decide) rfl rfl ?_
        refine r_iload (q := 70) dX1_mostLiked_68 rfl rfl ?_
        refine r_iload (q := 72) dX1_mostLiked_70 rfl rfl ?_
        refine r_icmp_le 96 (q := 75) dX1_mostLiked_72 (by decide) rfl (fun c12 => ?_) (fun c12 => ?_)
        · rw [if_pos c12] at h
          refine r_iinc (v := 1) (q := 99) (L' := [some (.inr 29), some (.inr 6), none, some (.inr 13), some (.inr 3), some (.inl s.1), some (.inl s.2.1), some (.inl (s.2.2.1 + 1)), some (.inl y11.1)]) dX1_mostLiked_96 (by decide) (by decide) rfl rfl rfl ?_
          refine r_goto 15 dX1_mostLiked_99 (by decide) ?_
          refine r_forget (L' := [some (.inr 29), some (.inr 6), none, some (.inr 13), some (.inr 3), some (.inl s.1), some (.inl s.2.1), some (.inl (s.2.2.1 + 1)), none]) [true, true, false, true, true, true, true, true, false] rfl ?_
          cases h
          have hk := kb _ rfl
          exact hk
        · rw [if_neg c12] at h
          refine r_aload_n (q := 76) dX1_mostLiked_75 rfl rfl ?_
          refine r_bipush (v := 120) (q := 78) dX1_mostLiked_76 (by decide) rfl ?_
          refine r_aload_n (q := 79) dX1_mostLiked_78 rfl rfl ?_
          refine r_getr (b := 30) (q := 82) lk_X1_9 dX1_mostLiked_79 sc_c_29 rfl rfl ?_
          obtain ⟨y14, e13, h⟩ := Option.bind_eq_some_iff.mp h
          refine r_callV_i (av := [(.inl 120), (.inr 30)]) (st := []) (q := 85) (d1 := 3) kc_X1_75 sc_c_13 dX1_mostLiked_82 rfl rfl (Nat.le_of_ble_eq_true rfl) (Nat.le_of_ble_eq_true rfl) (by omega) rfl rfl (t_X2_holdsAny (d := 3) (by omega) 120 y11.2 _ e13) ?_
          refine r_if_ne 96 (q := 88) dX1_mostLiked_85 (by decide) rfl (fun c15 => ?_) (fun c15 => ?_)
          · rw [if_pos (mm_b1 c15)] at h
            refine r_iinc (v := 1) (q := 99) (L' := [some (.inr 29), some (.inr 6), none, some (.inr 13), some (.inr 3), some (.inl s.1), some (.inl s.2.1), some (.inl (s.2.2.1 + 1)), some (.inl y11.1)]) dX1_mostLiked_96 (by decide) (by decide) rfl rfl rfl ?_
            refine r_goto 15 dX1_mostLiked_99 (by decide) ?_
            refine r_forget (L' := [some (.inr 29), some (.inr 6), none, some (.inr 13), some (.inr 3), some (.inl s.1), some (.inl s.2.1), some (.inl (s.2.2.1 + 1)), none]) [true, true, false, true, true, true, true, true, false] rfl ?_
            cases h
            have hk := kb _ rfl
            exact hk
          · rw [if_neg (mm_b0 c15)] at h
            refine r_iload (q := 90) dX1_mostLiked_88 rfl rfl ?_
            refine r_istore (q := 92) (L' := [some (.inr 29), some (.inr 6), none, some (.inr 13), some (.inr 3), some (.inl s.2.2.1), some (.inl s.2.1), some (.inl s.2.2.1), some (.inl y11.1)]) dX1_mostLiked_90 (by decide) rfl rfl ?_
            refine r_iload (q := 94) dX1_mostLiked_92 rfl rfl ?_
            refine r_istore (q := 96) (L' := [some (.inr 29), some (.inr 6), none, some (.inr 13), some (.inr 3), some (.inl s.2.2.1), some (.inl y11.1), some (.inl s.2.2.1), some (.inl y11.1)]) dX1_mostLiked_94 (by decide) rfl rfl ?_
            refine r_iinc (v := 1) (q := 99) (L' := [some (.inr 29), some (.inr 6), none, some (.inr 13), some (.inr 3), some (.inl s.2.2.1), some (.inl y11.1), some (.inl (s.2.2.1 + 1)), some (.inl y11.1)]) dX1_mostLiked_96 (by decide) (by decide) rfl rfl rfl ?_
            refine r_goto 15 dX1_mostLiked_99 (by decide) ?_
            refine r_forget (L' := [some (.inr 29), some (.inr 6), none, some (.inr 13), some (.inr 3), some (.inl s.2.2.1), some (.inl y11.1), some (.inl (s.2.2.1 + 1)), none]) [true, true, false, true, true, true, true, true, false] rfl ?_
            cases h
            have hk := kb _ rfl
            exact hk
noncomputable def X1_mostLiked (a1 : Nat) (x2 : Int32) (M : mm_M) : Option (Int32 × mm_M) := mm_let (X1_setLetters a1 x2 M) fun y2 => (mm_loop (X1_mostLiked_l15 a1) mm_fuel ((-1), 0, 0, y2))
set_option maxRecDepth 100000 in
set_option maxHeartbeats 400000 in
theorem t_X1_mostLiked_29_4_13_3 {d : Nat} (hd : 4 ≤ d) (x2 : Int32) (M : mm_M) (res : (Int32 × mm_M)) (h : X1_mostLiked 4 x2 M = some res) : mm_Meth jX1_mostLiked d 0 0 [(.inr 29), (.inr 4), (.inl x2), (.inr 13), (.inr 3)] S_c M (mm_Zi res.1 S_c res.2) := by
  refine r_meth (L := [some (.inr 29), some (.inr 4), some (.inl x2), some (.inr 13), some (.inr 3), none, none, none, none]) rfl (fun D => ?_)
  unfold X1_mostLiked at h
  refine r_aload_n (q := 1) dX1_mostLiked_0 rfl rfl ?_
  refine r_aload_n (q := 2) dX1_mostLiked_1 rfl rfl ?_
  refine r_iload_n (q := 3) dX1_mostLiked_2 rfl rfl ?_
  obtain ⟨y2, e1, h⟩ := mm_let_elim h
  refine r_callV_v (av := [(.inr 4), (.inl x2)]) (st := []) (q := 6) (d1 := 0) kc_X1_55 sc_c_29 dX1_mostLiked_3 rfl rfl (Nat.le_of_ble_eq_true rfl) (Nat.le_of_ble_eq_true rfl) (by omega) rfl rfl (t_X1_setLetters_29_4 (d := 0) (by omega) x2 M _ e1) ?_
  refine r_iconst (v := (-1)) (q := 7) dX1_mostLiked_6 (by decide) rfl ?_
  refine r_istore (q := 9) (L' := [some (.inr 29), some (.inr 4), some (.inl x2), some (.inr 13), some (.inr 3), some (.inl (-1)), none, none, none]) dX1_mostLiked_7 (by decide) rfl rfl ?_
  refine r_iconst (v := 0) (q := 10) dX1_mostLiked_9 (by decide) rfl ?_
  refine r_istore (q := 12) (L' := [some (.inr 29), some (.inr 4), some (.inl x2), some (.inr 13), some (.inr 3), some (.inl (-1)), some (.inl 0), none, none]) dX1_mostLiked_10 (by decide) rfl rfl ?_
  refine r_iconst (v := 0) (q := 13) dX1_mostLiked_12 (by decide) rfl ?_
  refine r_istore (q := 15) (L' := [some (.inr 29), some (.inr 4), some (.inl x2), some (.inr 13), some (.inr 3), some (.inl (-1)), some (.inl 0), some (.inl 0), none]) dX1_mostLiked_13 (by decide) rfl rfl ?_
  refine r_forget (L' := [some (.inr 29), some (.inr 4), none, some (.inr 13), some (.inr 3), some (.inl (-1)), some (.inl 0), some (.inl 0), none]) [true, true, false, true, true, true, true, true, false] rfl ?_
  exact t_X1_mostLiked_l15_29_4_13_3 hd mm_fuel ((-1), 0, 0, y2) _ h mm_Zi_rfl
set_option maxRecDepth 100000 in
set_option maxHeartbeats 400000 in
theorem t_X1_mostLiked_29_6_13_3 {d : Nat} (hd : 4 ≤ d) (x2 : Int32) (M : mm_M) (res : (Int32 × mm_M)) (h : X1_mostLiked 6 x2 M = some res) : mm_Meth jX1_mostLiked d 0 0 [(.inr 29), (.inr 6), (.inl x2), (.inr 13), (.inr 3)] S_c M (mm_Zi res.1 S_c res.2) := by
  refine r_meth (L := [some (.inr 29), some (.inr 6), some (.inl x2), some (.inr 13), some (.inr 3), none, none, none, none]) rfl (fun D => ?_)
  unfold X1_mostLiked at h
  refine r_aload_n (q := 1) dX1_mostLiked_0 rfl rfl ?_
  refine r_aload_n (q := 2) dX1_mostLiked_1 rfl rfl ?_
  refine r_iload_n (q := 3) dX1_mostLiked_2 rfl rfl ?_
  obtain ⟨y2, e1, h⟩ := mm_let_elim h
  refine r_callV_v (av := [(.inr 6), (.inl x2)]) (st := []) (q := 6) (d1 := 0) kc_X1_55 sc_c_29 dX1_mostLiked_3 rfl rfl (Nat.le_of_ble_eq_true rfl) (Nat.le_of_ble_eq_true rfl) (by omega) rfl rfl (t_X1_setLetters_29_6 (d := 0) (by omega) x2 M _ e1) ?_
  refine r_iconst (v := (-1)) (q := 7) dX1_mostLiked_6 (by decide) rfl ?_
  refine r_istore (q := 9) (L' := [some (.inr 29), some (.inr 6), some (.inl x2), some (.inr 13), some (.inr 3), some (.inl (-1)), none, none, none]) dX1_mostLiked_7 (by decide) rfl rfl ?_
  refine r_iconst (v := 0) (q := 10) dX1_mostLiked_9 (by decide) rfl ?_
  refine r_istore (q := 12) (L' := [some (.inr 29), some (.inr 6), some (.inl x2), some (.inr 13), some (.inr 3), some (.inl (-1)), some (.inl 0), none, none]) dX1_mostLiked_10 (by decide) rfl rfl ?_
  refine r_iconst (v := 0) (q := 13) dX1_mostLiked_12 (by decide) rfl ?_
  refine r_istore (q := 15) (L' := [some (.inr 29), some (.inr 6), some (.inl x2), some (.inr 13), some (.inr 3), some (.inl (-1)), some (.inl 0), some (.inl 0), none]) dX1_mostLiked_13 (by decide) rfl rfl ?_
  refine r_forget (L' := [some (.inr 29), some (.inr 6), none, some (.inr 13), some (.inr 3), some (.inl (-1)), some (.inl 0), some (.inl 0), none]) [true, true, false, true, true, true, true, true, false] rfl ?_
  exact t_X1_mostLiked_l15_29_6_13_3 hd mm_fuel ((-1), 0, 0, y2) _ h mm_Zi_rfl
