noncomputable def X11_logged_j88 (z0 : Int32) (M : mm_M) : Option (Int32 × mm_M) := mm_let (X7_clear M) fun y13 => some (z0, y13)
set_option maxRecDepth 100000 in
set_option maxHeartbeats 400000 in
theorem t_X11_logged_j88 {D : mm_D} {d : Nat} (hd : 2 ≤ d) (z0 : Int32) (M : mm_M) (res : (Int32 × mm_M)) (h : X11_logged_j88 z0 M = some res) : mm_Go jX11_logged D d 0 0 88 [some (.inr 0), none, none, none, none] [(.inl z0)] S_c M (mm_Zi res.1 S_c res.2) := by
  unfold X11_logged_j88 at h
  refine r_istore (q := 90) (L' := [some (.inr 0), none, none, none, some (.inl z0)]) dX11_logged_88 (by decide) rfl rfl ?_
  refine r_aload_n (q := 91) dX11_logged_90 rfl rfl ?_
  refine r_getr (b := 1) (q := 94) lk_X11_12 dX11_logged_91 sc_c_0 rfl rfl ?_
  obtain ⟨y13, e12, h⟩ := mm_let_elim h
  refine r_callV_v (av := []) (st := []) (q := 97) (d1 := 0) kc_X11_121 sc_c_1 dX11_logged_94 rfl rfl (Nat.le_of_ble_eq_true rfl) (Nat.le_of_ble_eq_true rfl) (by omega) rfl rfl (t_X7_clear (d := 0) (by omega) M _ e12) ?_
  refine r_iload (q := 99) dX11_logged_97 rfl rfl ?_
  cases h
  exact r_ret dX11_logged_99 rfl mm_Zi_rfl
noncomputable def X11_logged_j14 (x1 : Int32) (x2 : Int32) (z0 : Bool) (M : mm_M) : Option (Int32 × mm_M) := if z0 = true then if x1 < 1 then some ((-1), M) else if 20 < x1 then some ((-1), M) else if (M 1 1) < ((2 : Int32) * x1) then some ((-1), M) else if (X8_isTold M) = true then (X7_isLog x1 M).bind fun y8 => if y8 = true then (X5_fitLog x1 x2 M).bind fun y11 => X11_logged_j88 y11 M else X11_logged_j88 (-3) M else some ((-1), M) else some ((-1), M)
set_option maxRecDepth 100000 in
set_option maxHeartbeats 400000 in
theorem t_X11_logged_j14 {D : mm_D} {d : Nat} (hd : 2 ≤ d) (x1 : Int32) (x2 : Int32) (z0 : Bool) (M : mm_M) (res : (Int32 × mm_M)) (h : X11_logged_j14 x1 x2 z0 M = some res) : mm_Go jX11_logged D d 0 0 14 [some (.inr 0), some (.inl x1), some (.inl x2), none, none] [(.inl (mm_b z0))] S_c M (mm_Zi res.1 S_c res.2) := by
  unfold X11_logged_j14 at h
  refine r_istore_n (q := 15) (L' := [some (.inr 0), some (.inl x1), some (.inl x2), some (.inl (mm_b z0)), none]) dX11_logged_14 (by decide) rfl rfl ?_
  refine r_iload_n (q := 16) dX11_logged_15 rfl rfl ?_
  refine r_if_eq 53 (q := 19) dX11_logged_16 (by decide) rfl (fun c2 => ?_) (fun c2 => ?_)
  · rw [if_neg (mm_b0 c2)] at h
    refine r_iconst (v := (-1)) (q := 54) dX11_logged_53 (by decide) rfl ?_
    cases h
    exact r_ret dX11_logged_54 rfl mm_Zi_rfl
  · rw [if_pos (mm_b1 c2)] at h
    refine r_iload_n (q := 20) dX11_logged_19 rfl rfl ?_
    refine r_iconst (v := 1) (q := 21) dX11_logged_20 (by decide) rfl ?_
    refine r_icmp_lt 53 (q := 24) dX11_logged_21 (by decide) rfl (fun c3 => ?_) (fun c3 => ?_)
    · rw [if_pos c3] at h
      refine r_iconst (v := (-1)) (q := 54) dX11_logged_53 (by decide) rfl ?_
      cases h
      exact r_ret dX11_logged_54 rfl mm_Zi_rfl
    · rw [if_neg c3] at h
      refine r_iload_n (q := 25) dX11_logged_24 rfl rfl ?_
      refine r_bipush (v := 20) (q := 27) dX11_logged_25 (by decide) rfl ?_
      refine r_icmp_gt 53 (q := 30) dX11_logged_27 (by decide) rfl (fun c4 => ?_) (fun c4 => ?_)
      · rw [if_pos c4] at h
        refine r_iconst (v := (-1)) (q := 54) dX11_logged_53 (by decide) rfl ?_
        cases h
        exact r_ret dX11_logged_54 rfl mm_Zi_rfl
      · rw [if_neg c4] at h
        refine r_aload_n (q := 31) dX11_logged_30 rfl rfl ?_
        refine r_getr (b := 1) (q := 34) lk_X11_12 dX11_logged_31 sc_c_0 rfl rfl ?_
        refine r_geti (v := (M 1 1)) (q := 37) lk_X11_101 dX11_logged_34 sc_c_1 rfl rfl rfl ?_
        refine r_iconst (v := 2) (q := 38) dX11_logged_37 (by decide) rfl ?_
        refine r_iload_n (q := 39) dX11_logged_38 rfl rfl ?_
        refine r_imul (q := 40) dX11_logged_39 rfl ?_
        refine r_icmp_lt 53 (q := 43) dX11_logged_40 (by decide) rfl (fun c5 => ?_) (fun c5 => ?_)
        · rw [if_pos c5] at h
          refine r_iconst (v := (-1)) (q := 54) dX11_logged_53 (by decide) rfl ?_
          cases h
          exact r_ret dX11_logged_54 rfl mm_Zi_rfl
        · rw [if_neg c5] at h
          refine r_aload_n (q := 44) dX11_logged_43 rfl rfl ?_
          refine r_getr (b := 7) (q := 47) lk_X11_42 dX11_logged_44 sc_c_0 rfl rfl ?_
          refine r_callV_i (av := []) (st := []) (q := 50) (d1 := 0) kc_X11_144 sc_c_7 dX11_logged_47 rfl rfl (Nat.le_of_ble_eq_true rfl) (Nat.le_of_ble_eq_true rfl) (by omega) rfl rfl (t_X8_isTold (d := 0) (by omega) M _ rfl) ?_
          refine r_if_ne 55 (q := 53) dX11_logged_50 (by decide) rfl (fun c6 => ?_) (fun c6 => ?_)
          · rw [if_pos (mm_b1 c6)] at h
            refine r_aload_n (q := 56) dX11_logged_55 rfl rfl ?_
            refine r_getr (b := 1) (q := 59) lk_X11_12 dX11_logged_56 sc_c_0 rfl rfl ?_
            refine r_iload_n (q := 60) dX11_logged_59 rfl rfl ?_
            obtain ⟨y8, e7, h⟩ := Option.bind_eq_some_iff.mp h
            refine r_callV_i (av := [(.inl x1)]) (st := []) (q := 63) (d1 := 1) kc_X11_248 sc_c_1 dX11_logged_60 rfl rfl (Nat.le_of_ble_eq_true rfl) (Nat.le_of_ble_eq_true rfl) (by omega) rfl rfl (t_X7_isLog (d := 1) (by omega) x1 M _ e7) ?_
            refine r_if_eq 86 (q := 66) dX11_logged_63 (by decide) rfl (fun c9 => ?_) (fun c9 => ?_)
            · rw [if_neg (mm_b0 c9)] at h
              refine r_bipush (v := (-3)) (q := 88) dX11_logged_86 (by decide) rfl ?_
              refine r_forget (L' := [some (.inr 0), none, none, none, none]) [true, false, false, false, false] rfl ?_
              exact t_X11_logged_j88 hd (-3) M _ h
            · rw [if_pos (mm_b1 c9)] at h
              refine r_aload_n (q := 67) dX11_logged_66 rfl rfl ?_
              refine r_getr (b := 36) (q := 70) lk_X11_83 dX11_logged_67 sc_c_0 rfl rfl ?_
              refine r_aload_n (q := 71) dX11_logged_70 rfl rfl ?_
              refine r_getr (b := 7) (q := 74) lk_X11_42 dX11_logged_71 sc_c_0 rfl rfl ?_
              refine r_aload_n (q := 75) dX11_logged_74 rfl rfl ?_
              refine r_getr (b := 1) (q := 78) lk_X11_12 dX11_logged_75 sc_c_0 rfl rfl ?_
              refine r_iload_n (q := 79) dX11_logged_78 rfl rfl ?_
              refine r_iload_n (q := 80) dX11_logged_79 rfl rfl ?_
              obtain ⟨y11, e10, h⟩ := Option.bind_eq_some_iff.mp h
              refine r_callV_i (av := [(.inr 7), (.inr 1), (.inl x1), (.inl x2)]) (st := []) (q := 83) (d1 := 1) kc_X11_251 sc_c_36 dX11_logged_80 rfl rfl (Nat.le_of_ble_eq_true rfl) (Nat.le_of_ble_eq_true rfl) (by omega) rfl rfl (t_X5_fitLog (d := 1) (by omega) x1 x2 M _ e10) ?_
              refine r_goto 88 dX11_logged_83 (by decide) ?_
              refine r_forget (L' := [some (.inr 0), none, none, none, none]) [true, false, false, false, false] rfl ?_
              exact t_X11_logged_j88 hd y11 M _ h
          · rw [if_neg (mm_b0 c6)] at h
            refine r_iconst (v := (-1)) (q := 54) dX11_logged_53 (by decide) rfl ?_
            cases h
            exact r_ret dX11_logged_54 rfl mm_Zi_rfl
noncomputable def X11_logged_j13 (x1 : Int32) (x2 : Int32) (M : mm_M) : Option (Int32 × mm_M) := X11_logged_j14 x1 x2 false M
set_option maxRecDepth 100000 in
set_option maxHeartbeats 400000 in
theorem t_X11_logged_j13 {D : mm_D} {d : Nat} (hd : 2 ≤ d) (x1 : Int32) (x2 : Int32) (M : mm_M) (res : (Int32 × mm_M)) (h : X11_logged_j13 x1 x2 M = some res) : mm_Go jX11_logged D d 0 0 13 [some (.inr 0), some (.inl x1), some (.inl x2), none, none] [] S_c M (mm_Zi res.1 S_c res.2) := by
  unfold X11_logged_j13 at h
  refine r_iconst (v := 0) (q := 14) dX11_logged_13 (by decide) rfl ?_
  exact t_X11_logged_j14 hd x1 x2 false M _ h
noncomputable def X11_logged (x1 : Int32) (x2 : Int32) (M : mm_M) : Option (Int32 × mm_M) := if x2 < 0 then X11_logged_j13 x1 x2 M else if 2 < x2 then X11_logged_j13 x1 x2 M else X11_logged_j14 x1 x2 true M
set_option maxRecDepth 100000 in
set_option maxHeartbeats 400000 in
theorem t_X11_logged {d : Nat} (hd : 2 ≤ d) (x1 : Int32) (x2 : Int32) (M : mm_M) (res : (Int32 × mm_M)) (h : X11_logged x1 x2 M = some res) : mm_Meth jX11_logged d 0 0 [(.inr 0), (.inl x1), (.inl x2)] S_c M (mm_Zi res.1 S_c res.2) := by
  refine r_meth (L := [some (.inr 0), some (.inl x1), some (.inl x2), none, none]) rfl (fun D => ?_)
  unfold X11_logged at h
  refine r_iload_n (q := 1) dX11_logged_0 rfl rfl ?_
  refine r_if_lt 13 (q := 4) dX11_logged_1 (by decide) rfl (fun c1 => ?_) (fun c1 => ?_)
  · rw [if_pos c1] at h
    exact t_X11_logged_j13 hd x1 x2 M _ h
  · rw [if_neg c1] at h
    refine r_iload_n (q := 5) dX11_logged_4 rfl rfl ?_
    refine r_iconst (v := 2) (q := 6) dX11_logged_5 (by decide) rfl ?_
    refine r_icmp_gt 13 (q := 9) dX11_logged_6 (by decide) rfl (fun c14 => ?_) (fun c14 => ?_)
    · rw [if_pos c14] at h
      exact t_X11_logged_j13 hd x1 x2 M _ h
    · rw [if_neg c14] at h
      refine r_iconst (v := 1) (q := 10) dX11_logged_9 (by decide) rfl ?_
      refine r_goto 14 dX11_logged_10 (by decide) ?_
      exact t_X11_logged_j14 hd x1 x2 true M _ h
noncomputable def X5_greatestGroup_l14 (x2 : Int32) (x3 : Int32) (s : (Int32 × Int32 × mm_M)) : Option ((Int32 × Int32 × mm_M) ⊕ (Int32 × mm_M)) := if (s.2.2 7 0) ≤ s.2.1 then some (.inr (s.1, s.2.2)) else if ((x2 >>> (s.2.1 &&& 31)) &&& 1) = 0 then some (.inl (s.1, (s.2.1 + 1), s.2.2)) else if (X8_answer x3 s.2.1 s.2.2) < 0 then some (.inl (s.1, (s.2.1 + 1), s.2.2)) else if 9 < (X8_answer x3 s.2.1 s.2.2) then some (.inl (s.1, (s.2.1 + 1), s.2.2)) else if mm_in (X8_answer x3 s.2.1 s.2.2) 10 = true then if mm_in (X8_answer x3 s.2.1 s.2.2) 10 = true then if mm_in (X8_answer x3 s.2.1 s.2.2) 10 = true then some (.inl ((if s.1 < ((s.2.2 40 (Int32.toNatClampNeg (X8_answer x3 s.2.1 s.2.2))) + 1) then ((s.2.2 40 (Int32.toNatClampNeg (X8_answer x3 s.2.1 s.2.2))) + 1) else s.1), (s.2.1 + 1), (mm_U s.2.2 40 (Int32.toNatClampNeg (X8_answer x3 s.2.1 s.2.2)) ((s.2.2 40 (Int32.toNatClampNeg (X8_answer x3 s.2.1 s.2.2))) + 1)))) else none else none else none
set_option maxRecDepth 100000 in
set_option maxHeartbeats 400000 in
theorem t_X5_greatestGroup_l14 {D : mm_D} {d : Nat} (hd : 1 ≤ d) {Z : Option Int32 → List mm_C → mm_M → Prop} (x2 : Int32) (x3 : Int32) (n : Nat) (s : (Int32 × Int32 × mm_M)) (r : (Int32 × mm_M)) (h : mm_loop (X5_greatestGroup_l14 x2 x3) n s = some r) (hx : Z (some r.1) S_c r.2) : mm_Go jX5_greatestGroup D d 0 0 14 [some (.inr 36), some (.inr 7), some (.inl x2), some (.inl x3), some (.inl s.1), some (.inl s.2.1), none] [] S_c s.2.2 Z := by
  refine mm_loop_go (step := X5_greatestGroup_l14 x2 x3) (Hd := fun (s : (Int32 × Int32 × mm_M)) => mm_Go jX5_greatestGroup D d 0 0 14 [some (.inr 36), some (.inr 7), some (.inl x2), some (.inl x3), some (.inl s.1), some (.inl s.2.1), none] [] S_c s.2.2 Z) (Ex := fun (r : (Int32 × mm_M)) => Z (some r.1) S_c r.2) ?_ n s r h hx
  intro s o h kb ke
  show mm_Go jX5_greatestGroup D d 0 0 14 [some (.inr 36), some (.inr 7), some (.inl x2), some (.inl x3), some (.inl s.1), some (.inl s.2.1), none] [] S_c s.2.2 Z
  unfold X5_greatestGroup_l14 at h
  refine r_iload (q := 16) dX5_greatestGroup_14 rfl rfl ?_
  refine r_aload_n (q := 17) dX5_greatestGroup_16 rfl rfl ?_
  refine r_geti (v := (s.2.2 7 0)) (q := 20) lk_X5_81 dX5_greatestGroup_17 sc_c_7 rfl rfl rfl ?_
  refine r_icmp_ge 84 (q := 23) dX5_greatestGroup_20 (by decide) rfl (fun c3 => ?_) (fun c3 => ?_)
  · rw [if_pos c3] at h
    refine r_iload (q := 86) dX5_greatestGroup_84 rfl rfl ?_
    cases h
    have hk := ke _ rfl
    exact r_ret dX5_greatestGroup_86 rfl hk
  · rw [if_neg c3] at h
    refine r_aload_n (q := 24) dX5_greatestGroup_23 rfl rfl ?_
    refine r_iload_n (q := 25) dX5_greatestGroup_24 rfl rfl ?_
    refine r_iload (q := 27) dX5_greatestGroup_25 rfl rfl ?_
    refine r_callV_i (av := [(.inl x3), (.inl s.2.1)]) (st := []) (q := 30) (d1 := 0) kc_X5_113 sc_c_7 dX5_greatestGroup_27 rfl rfl (Nat.le_of_ble_eq_true rfl) (Nat.le_of_ble_eq_true rfl) (by omega) rfl rfl (t_X8_answer (d := 0) (by omega) x3 s.2.1 s.2.2 _ rfl) ?_
    refine r_istore (q := 32) (L' := [some (.inr 36), some (.inr 7), some (.inl x2), some (.inl x3), some (.inl s.1), some (.inl s.2.1), some (.inl (X8_answer x3 s.2.1 s.2.2))]) dX5_greatestGroup_30 (by decide) rfl rfl ?_
    refine r_iload_n (q := 33) dX5_greatestGroup_32 rfl rfl ?_
    refine r_iload (q := 35) dX5_greatestGroup_33 rfl rfl ?_
    refine r_ishr (q := 36) dX5_greatestGroup_35 rfl ?_
    refine r_iconst (v := 1) (q := 37) dX5_greatestGroup_36 (by decide) rfl ?_
    refine r_iand (q := 38) dX5_greatestGroup_37 rfl ?_
    refine r_if_eq 78 (q := 41) dX5_greatestGroup_38 (by decide) rfl (fun c4 => ?_) (fun c4 => ?_)
    · rw [if_pos c4] at h
      refine r_iinc (v := 1) (q := 81) (L' := [some (.inr 36), some (.inr 7), some (.inl x2), some (.inl x3), some (.inl s.1), some (.inl (s.2.1 + 1)), some (.inl (X8_answer x3 s.2.1 s.2.2))]) dX5_greatestGroup_78 (by decide) (by decide) rfl rfl rfl ?_
      refine r_goto 14 dX5_greatestGroup_81 (by decide) ?_
      refine r_forget (L' := [some (.inr 36), some (.inr 7), some (.inl x2), some (.inl x3), some (.inl s.1), some (.inl (s.2.1 + 1)), none]) [true, true, true, true, true, true, false] rfl ?_
      cases h
      have hk := kb _ rfl
      exact hk
    · rw [if_neg c4] at h
      refine r_iload (q := 43) dX5_greatestGroup_41 rfl rfl ?_
      refine r_if_lt 78 (q := 46) dX5_greatestGroup_43 (by decide) rfl (fun c5 => ?_) (fun c5 => ?_)
      · rw [if_pos c5] at h
        refine r_iinc (v := 1) (q := 81) (L' := [some (.inr 36), some (.inr 7), some (.inl x2), some (.inl x3), some (.inl s.1), some (.inl (s.2.1 + 1)), some (.inl (X8_answer x3 s.2.1 s.2.2))]) dX5_greatestGroup_78 (by decide) (by decide) rfl rfl rfl ?_
        refine r_goto 14 dX5_greatestGroup_81 (by decide) ?_
        refine r_forget (L' := [some (.inr 36), some (.inr 7), some (.inl x2), some (.inl x3), some (.inl s.1), some (.inl (s.2.1 + 1)), none]) [true, true, true, true, true, true, false] rfl ?_
        cases h
        have hk := kb _ rfl
        exact hk
      · rw [if_neg c5] at h
        refine r_iload (q := 48) dX5_greatestGroup_46 rfl rfl ?_
        refine r_bipush (v := 9) (q := 50) dX5_greatestGroup_48 (by decide) rfl ?_
        refine r_icmp_gt 78 (q := 53) dX5_greatestGroup_50 (by decide) rfl (fun c6 => ?_) (fun c6 => ?_)
        · rw [if_pos c6] at h
          refine r_iinc (v := 1) (q := 81) (L' := [some (.inr 36), some (.inr 7), some (.inl x2), some (.inl x3), some (.inl s.1), some (.inl (s.2.1 + 1)), some (.inl (X8_answer x3 s.2.1 s.2.2))]) dX5_greatestGroup_78 (by decide) (by decide) rfl rfl rfl ?_
          refine r_goto 14 dX5_greatestGroup_81 (by decide) ?_
          refine r_forget (L' := [some (.inr 36), some (.inr 7), some (.inl x2), some (.inl x3), some (.inl s.1), some (.inl (s.2.1 + 1)), none]) [true, true, true, true, true, true, false] rfl ?_
          cases h
          have hk := kb _ rfl
          exact hk
        · rw [if_neg c6] at h
          refine r_aload_n (q := 54) dX5_greatestGroup_53 rfl rfl ?_
          refine r_getr (b := 40) (q := 57) lk_X5_21 dX5_greatestGroup_54 sc_c_36 rfl rfl ?_
          refine r_iload (q := 59) dX5_greatestGroup_57 rfl rfl ?_
          refine r_dup2 (q := 60) dX5_greatestGroup_59 rfl ?_
          obtain ⟨g7, h⟩ := mm_guard h
          refine r_iald (v := (s.2.2 40 (Int32.toNatClampNeg (X8_answer x3 s.2.1 s.2.2)))) (q := 61) dX5_greatestGroup_60 sc_c_40 (mm_vp g7) rfl rfl ?_
          refine r_iconst (v := 1) (q := 62) dX5_greatestGroup_61 (by decide) rfl ?_
          refine r_iadd (q := 63) dX5_greatestGroup_62 rfl ?_
          obtain ⟨g8, h⟩ := mm_guard h
          refine r_iast (j := (Int32.toNatClampNeg (X8_answer x3 s.2.1 s.2.2))) (q := 64) dX5_greatestGroup_63 sc_c_40 (mm_vp g8) rfl rfl ?_
          refine r_iload (q := 66) dX5_greatestGroup_64 rfl rfl ?_
          refine r_aload_n (q := 67) dX5_greatestGroup_66 rfl rfl ?_
          refine r_getr (b := 40) (q := 70) lk_X5_21 dX5_greatestGroup_67 sc_c_36 rfl rfl ?_
          refine r_iload (q := 72) dX5_greatestGroup_70 rfl rfl ?_
          obtain ⟨g9, h⟩ := mm_guard h
          refine r_iald (v := ((s.2.2 40 (Int32.toNatClampNeg (X8_answer x3 s.2.1 s.2.2))) + 1)) (q := 73) dX5_greatestGroup_72 sc_c_40 (mm_vp g9) mm_U_same rfl ?_
          refine r_mmax (q := 76) kc_X5_48 dX5_greatestGroup_73 (Nat.le_of_ble_eq_true rfl) rfl ?_
          refine r_istore (q := 78) (L' := [some (.inr 36), some (.inr 7), some (.inl x2), some (.inl x3), some (.inl (if s.1 < ((s.2.2 40 (Int32.toNatClampNeg (X8_answer x3 s.2.1 s.2.2))) + 1) then ((s.2.2 40 (Int32.toNatClampNeg (X8_answer x3 s.2.1 s.2.2))) + 1) else s.1)), some (.inl s.2.1), some (.inl (X8_answer x3 s.2.1 s.2.2))]) dX5_greatestGroup_76 (by decide) rfl rfl ?_
          refine r_iinc (v := 1) (q := 81) (L' := [some (.inr 36), some (.inr 7), some (.inl x2), some (.inl x3), some (.inl (if s.1 < ((s.2.2 40 (Int32.toNatClampNeg (X8_answer x3 s.2.1 s.2.2))) + 1) then ((s.2.2 40 (Int32.toNatClampNeg (X8_answer x3 s.2.1 s.2.2))) + 1) else s.1)), some (.inl (s.2.1 + 1)), some (.inl (X8_answer x3 s.2.1 s.2.2))]) dX5_greatestGroup_78 (by decide) (by decide) rfl rfl rfl ?_
          refine r_goto 14 dX5_greatestGroup_81 (by decide) ?_
          refine r_forget (L' := [some (.inr 36), some (.inr 7), some (.inl x2), some (.inl x3), some (.inl (if s.1 < ((s.2.2 40 (Int32.toNatClampNeg (X8_answer x3 s.2.1 s.2.2))) + 1) then ((s.2.2 40 (Int32.toNatClampNeg (X8_answer x3 s.2.1 s.2.2))) + 1) else s.1)), some (.inl (s.2.1 + 1)), none]) [true, true, true, true, true, true, false] rfl ?_
          cases h
          have hk := kb _ rfl
          exact hk
noncomputable def X5_greatestGroup (x2 : Int32) (x3 : Int32) (M : mm_M) : Option (Int32 × mm_M) := (J7_fill_53178 40 0 M).bind fun y2 => (mm_loop (X5_greatestGroup_l14 x2 x3) mm_fuel (0, 0, y2))
set_option maxRecDepth 100000 in
set_option maxHeartbeats 400000 in
theorem t_X5_greatestGroup {d : Nat} (hd : 1 ≤ d) (x2 : Int32) (x3 : Int32) (M : mm_M) (res : (Int32 × mm_M)) (h : X5_greatestGroup x2 x3 M = some res) : mm_Meth jX5_greatestGroup d 0 0 [(.inr 36), (.inr 7), (.inl x2), (.inl x3)] S_c M (mm_Zi res.1 S_c res.2) := by
  refine r_meth (L := [some (.inr 36), some (.inr 7), some (.inl x2), some (.inl x3), none, none, none]) rfl (fun D => ?_)
  unfold X5_greatestGroup at h
  refine r_aload_n (q := 1) dX5_greatestGroup_0 rfl rfl ?_
  refine r_getr (b := 40) (q := 4) lk_X5_21 dX5_greatestGroup_1 sc_c_36 rfl rfl ?_
  refine r_iconst (v := 0) (q := 5) dX5_greatestGroup_4 (by decide) rfl ?_
  obtain ⟨y2, e1, h⟩ := Option.bind_eq_some_iff.mp h
  refine r_callS_v (av := [(.inr 40), (.inl 0)]) (st := []) (q := 8) (d1 := 0) kc_X5_51 dX5_greatestGroup_5 rfl rfl (Nat.le_of_ble_eq_true rfl) (Nat.le_of_ble_eq_true rfl) (by omega) rfl rfl (t_J7_fill_53178_40 (d := 0) (by omega) 0 M _ e1) ?_
  refine r_iconst (v := 0) (q := 9) dX5_greatestGroup_8 (by decide) rfl ?_
  refine r_istore (q := 11) (L' := [some (.inr 36), some (.inr 7), some (.inl x2), some (.inl x3), some (.inl 0), none, none]) dX5_greatestGroup_9 (by decide) rfl rfl ?_
  refine r_iconst (v := 0) (q := 12) dX5_greatestGroup_11 (by decide) rfl ?_
  refine r_istore (q := 14) (L' := [some (.inr 36), some (.inr 7), some (.inl x2), some (.inl x3), some (.inl 0), some (.inl 0), none]) dX5_greatestGroup_12 (by decide) rfl rfl ?_
  exact t_X5_greatestGroup_l14 hd x2 x3 mm_fuel (0, 0, y2) _ h mm_Zi_rfl
noncomputable def X5_bestSplit_l10 (x2 : Int32) (x3 : Int32) (s : (Int32 × Int32 × Int32 × mm_M)) : Option ((Int32 × Int32 × Int32 × mm_M) ⊕ (Int32 × mm_M)) := if 8 ≤ s.2.2.1 then if x3 = 0 then some (.inr (s.1, s.2.2.2)) else some (.inr (s.2.1, s.2.2.2)) else (X5_greatestGroup x2 s.2.2.1 s.2.2.2).bind fun y4 => if s.2.1 ≤ y4.1 then some (.inl (s.1, s.2.1, (s.2.2.1 + 1), y4.2)) else some (.inl (s.2.2.1, y4.1, (s.2.2.1 + 1), y4.2))
set_option maxRecDepth 100000 in
set_option maxHeartbeats 400000 in
theorem t_X5_bestSplit_l10 {D : mm_D} {d : Nat} (hd : 2 ≤ d) {Z : Option Int32 → List mm_C → mm_M → Prop} (x2 : Int32) (x3 : Int32) (n : Nat) (s : (Int32 × Int32 × Int32 × mm_M)) (r : (Int32 × mm_M)) (h : mm_loop (X5_bestSplit_l10 x2 x3) n s = some r) (hx : Z (some r.1) S_c r.2) : mm_Go jX5_bestSplit D d 0 0 10 [some (.inr 36), some (.inr 7), some (.inl x2), some (.inl x3), some (.inl s.1), some (.inl s.2.1), some (.inl s.2.2.1), none] [] S_c s.2.2.2 Z := by
  refine mm_loop_go (step := X5_bestSplit_l10 x2 x3) (Hd := fun (s : (Int32 × Int32 × Int32 × mm_M)) => mm_Go jX5_bestSplit D d 0 0 10 [some (.inr 36), some (.inr 7), some (.inl x2), some (.inl x3), some (.inl s.1), some (.inl s.2.1), some (.inl s.2.2.1), none] [] S_c s.2.2.2 Z) (Ex := fun (r : (Int32 × mm_M)) => Z (some r.1) S_c r.2) ?_ n s r h hx
  intro s o h kb ke
  show mm_Go jX5_bestSplit D d 0 0 10 [some (.inr 36), some (.inr 7), some (.inl x2), some (.inl x3), some (.inl s.1), some (.inl s.2.1), some (.inl s.2.2.1), none] [] S_c s.2.2.2 Z
  unfold X5_bestSplit_l10 at h
  refine r_iload (q := 12) dX5_bestSplit_10 rfl rfl ?_
  refine r_bipush (v := 8) (q := 14) dX5_bestSplit_12 (by decide) rfl ?_
  refine r_icmp_ge 48 (q := 17) dX5_bestSplit_14 (by decide) rfl (fun c1 => ?_) (fun c1 => ?_)
  · rw [if_pos c1] at h
    refine r_iload_n (q := 49) dX5_bestSplit_48 rfl rfl ?_
    refine r_if_ne 57 (q := 52) dX5_bestSplit_49 (by decide) rfl (fun c2 => ?_) (fun c2 => ?_)
    · rw [if_neg c2] at h
      refine r_iload (q := 59) dX5_bestSplit_57 rfl rfl ?_
      cases h
      have hk := ke _ rfl
      exact r_ret dX5_bestSplit_59 rfl hk
    · rw [if_pos c2] at h
      refine r_iload (q := 54) dX5_bestSplit_52 rfl rfl ?_
      refine r_goto 59 dX5_bestSplit_54 (by decide) ?_
      cases h
      have hk := ke _ rfl
      exact r_ret dX5_bestSplit_59 rfl hk
  · rw [if_neg c1] at h
    refine r_aload_n (q := 18) dX5_bestSplit_17 rfl rfl ?_
    refine r_aload_n (q := 19) dX5_bestSplit_18 rfl rfl ?_
    refine r_iload_n (q := 20) dX5_bestSplit_19 rfl rfl ?_
    refine r_iload (q := 22) dX5_bestSplit_20 rfl rfl ?_
    obtain ⟨y4, e3, h⟩ := Option.bind_eq_some_iff.mp h
    refine r_callV_i (av := [(.inr 7), (.inl x2), (.inl s.2.2.1)]) (st := []) (q := 25) (d1 := 1) kc_X5_120 sc_c_36 dX5_bestSplit_22 rfl rfl (Nat.le_of_ble_eq_true rfl) (Nat.le_of_ble_eq_true rfl) (by omega) rfl rfl (t_X5_greatestGroup (d := 1) (by omega) x2 s.2.2.1 s.2.2.2 _ e3) ?_
    refine r_istore (q := 27) (L' := [some (.inr 36), some (.inr 7), some (.inl x2), some (.inl x3), some (.inl s.1), some (.inl s.2.1), some (.inl s.2.2.1), some (.inl y4.1)]) dX5_bestSplit_25 (by decide) rfl rfl ?_
    refine r_iload (q := 29) dX5_bestSplit_27 rfl rfl ?_
    refine r_iload (q := 31) dX5_bestSplit_29 rfl rfl ?_
    refine r_icmp_ge 42 (q := 34) dX5_bestSplit_31 (by decide) rfl (fun c5 => ?_) (fun c5 => ?_)
    · rw [if_pos c5] at h
      refine r_iinc (v := 1) (q := 45) (L' := [some (.inr 36), some (.inr 7), some (.inl x2), some (.inl x3), some (.inl s.1), some (.inl s.2.1), some (.inl (s.2.2.1 + 1)), some (.inl y4.1)]) dX5_bestSplit_42 (by decide) (by decide) rfl rfl rfl ?_
      refine r_goto 10 dX5_bestSplit_45 (by decide) ?_
      refine r_forget (L' := [some (.inr 36), some (.inr 7), some (.inl x2), some (.inl x3), some (.inl s.1), some (.inl s.2.1), some (.inl (s.2.2.1 + 1)), none]) [true, true, true, true, true, true, true, false] rfl ?_
      cases h
      have hk := kb _ rfl
      exact hk
    · rw [if_neg c5] at h
      refine r_iload (q := 36) dX5_bestSplit_34 rfl rfl ?_
      refine r_istore (q := 38) (L' := [some (.inr 36), some (.inr 7), some (.inl x2), some (.inl x3), some (.inl s.2.2.1), some (.inl s.2.1), some (.inl s.2.2.1), some (.inl y4.1)]) dX5_bestSplit_36 (by decide) rfl rfl ?_
      refine r_iload (q := 40) dX5_bestSplit_38 rfl rfl ?_
      refine r_istore (q := 42) (L' := [some (.inr 36), some (.inr 7), some (.inl x2), some (.inl x3), some (.inl s.2.2.1), some (.inl y4.1), some (.inl s.2.2.1), some (.inl y4.1)]) dX5_bestSplit_40 (by decide) rfl rfl ?_
      refine r_iinc (v := 1) (q := 45) (L' := [some (.inr 36), some (.inr 7), some (.inl x2), some (.inl x3), some (.inl s.2.2.1), some (.inl y4.1), some (.inl (s.2.2.1 + 1)), some (.inl y4.1)]) dX5_bestSplit_42 (by decide) (by decide) rfl rfl rfl ?_
      refine r_goto 10 dX5_bestSplit_45 (by decide) ?_
      refine r_forget (L' := [some (.inr 36), some (.inr 7), some (.inl x2), some (.inl x3), some (.inl s.2.2.1), some (.inl y4.1), some (.inl (s.2.2.1 + 1)), none]) [true, true, true, true, true, true, true, false] rfl ?_
      cases h
      have hk := kb _ rfl
      exact hk
noncomputable def X5_bestSplit (x2 : Int32) (x3 : Int32) (M : mm_M) : Option (Int32 × mm_M) := (mm_loop (X5_bestSplit_l10 x2 x3) mm_fuel ((-1), 11, 0, M))
set_option maxRecDepth 100000 in
set_option maxHeartbeats 400000 in
theorem t_X5_bestSplit {d : Nat} (hd : 2 ≤ d) (x2 : Int32) (x3 : Int32) (M : mm_M) (res : (Int32 × mm_M)) (h : X5_bestSplit x2 x3 M = some res) : mm_Meth jX5_bestSplit d 0 0 [(.inr 36), (.inr 7), (.inl x2), (.inl x3)] S_c M (mm_Zi res.1 S_c res.2) := by
  refine r_meth (L := [some (.inr 36), some (.inr 7), some (.inl x2), some (.inl x3), none, none, none, none]) rfl (fun D => ?_)
  unfold X5_bestSplit at h
  refine r_iconst (v := (-1)) (q := 1) dX5_bestSplit_0 (by decide) rfl ?_
  refine r_istore (q := 3) (L' := [some (.inr 36), some (.inr 7), some (.inl x2), some (.inl x3), some (.inl (-1)), none, none, none]) dX5_bestSplit_1 (by decide) rfl rfl ?_
  refine r_bipush (v := 11) (q := 5) dX5_bestSplit_3 (by decide) rfl ?_
  refine r_istore (q := 7) (L' := [some (.inr 36), some (.inr 7), some (.inl x2), some (.inl x3), some (.inl (-1)), some (.inl 11), none, none]) dX5_bestSplit_5 (by decide) rfl rfl ?_
  refine r_iconst (v := 0) (q := 8) dX5_bestSplit_7 (by decide) rfl ?_
  refine r_istore (q := 10) (L' := [some (.inr 36), some (.inr 7), some (.inl x2), some (.inl x3), some (.inl (-1)), some (.inl 11), some (.inl 0), none]) dX5_bestSplit_8 (by decide) rfl rfl ?_
  exact t_X5_bestSplit_l10 hd x2 x3 mm_fuel ((-1), 11, 0, M) _ h mm_Zi_rfl
noncomputable def X11_next (x1 : Int32) (x2 : Int32) (M : mm_M) : Option (Int32 × mm_M) := if (X8_hasAll x1 M) = true then if (X11_isZeroOrOne x2) = true then (X5_bestSplit x1 x2 M).bind fun y4 => some (y4.1, y4.2) else some ((-1), M) else some ((-1), M)
set_option maxRecDepth 100000 in
set_option maxHeartbeats 400000 in
theorem t_X11_next {d : Nat} (hd : 3 ≤ d) (x1 : Int32) (x2 : Int32) (M : mm_M) (res : (Int32 × mm_M)) (h : X11_next x1 x2 M = some res) : mm_Meth jX11_next d 0 0 [(.inr 0), (.inl x1), (.inl x2)] S_c M (mm_Zi res.1 S_c res.2) := by
  refine r_meth (L := [some (.inr 0), some (.inl x1), some (.inl x2)]) rfl (fun D => ?_)
  unfold X11_next at h
  refine r_aload_n (q := 1) dX11_next_0 rfl rfl ?_
  refine r_getr (b := 7) (q := 4) lk_X11_42 dX11_next_1 sc_c_0 rfl rfl ?_
  refine r_iload_n (q := 5) dX11_next_4 rfl rfl ?_
  refine r_callV_i (av := [(.inl x1)]) (st := []) (q := 8) (d1 := 1) kc_X11_239 sc_c_7 dX11_next_5 rfl rfl (Nat.le_of_ble_eq_true rfl) (Nat.le_of_ble_eq_true rfl) (by omega) rfl rfl (t_X8_hasAll (d := 1) (by omega) x1 M _ rfl) ?_
  refine r_if_eq 18 (q := 11) dX11_next_8 (by decide) rfl (fun c1 => ?_) (fun c1 => ?_)
  · rw [if_neg (mm_b0 c1)] at h
    refine r_iconst (v := (-1)) (q := 19) dX11_next_18 (by decide) rfl ?_
    cases h
    exact r_ret dX11_next_19 rfl mm_Zi_rfl
  · rw [if_pos (mm_b1 c1)] at h
    refine r_iload_n (q := 12) dX11_next_11 rfl rfl ?_
    refine r_callS_i (av := [(.inl x2)]) (st := []) (q := 15) (d1 := 0) kc_X11_179 dX11_next_12 rfl rfl (Nat.le_of_ble_eq_true rfl) (Nat.le_of_ble_eq_true rfl) (by omega) rfl rfl (t_X11_isZeroOrOne (d := 0) (by omega) x2 M _ rfl) ?_
    refine r_if_ne 20 (q := 18) dX11_next_15 (by decide) rfl (fun c2 => ?_) (fun c2 => ?_)
    · rw [if_pos (mm_b1 c2)] at h
      refine r_aload_n (q := 21) dX11_next_20 rfl rfl ?_
      refine r_getr (b := 36) (q := 24) lk_X11_83 dX11_next_21 sc_c_0 rfl rfl ?_
      refine r_aload_n (q := 25) dX11_next_24 rfl rfl ?_
      refine r_getr (b := 7) (q := 28) lk_X11_42 dX11_next_25 sc_c_0 rfl rfl ?_
      refine r_iload_n (q := 29) dX11_next_28 rfl rfl ?_
      refine r_iload_n (q := 30) dX11_next_29 rfl rfl ?_
      obtain ⟨y4, e3, h⟩ := Option.bind_eq_some_iff.mp h
      refine r_callV_i (av := [(.inr 7), (.inl x1), (.inl x2)]) (st := []) (q := 33) (d1 := 2) kc_X11_255 sc_c_36 dX11_next_30 rfl rfl (Nat.le_of_ble_eq_true rfl) (Nat.le_of_ble_eq_true rfl) (by omega) rfl rfl (t_X5_bestSplit (d := 2) (by omega) x1 x2 M _ e3) ?_
      cases h
      exact r_ret dX11_next_33 rfl mm_Zi_rfl
    · rw [if_neg (mm_b0 c2)] at h
      refine r_iconst (v := (-1)) (q := 19) dX11_next_18 (by decide) rfl ?_
      cases h
      exact r_ret dX11_next_19 rfl mm_Zi_rfl
noncomputable def X5_commonDivisor_l7 (s : (Int32 × Int32 × Int32)) : Option ((Int32 × Int32 × Int32) ⊕ Int32) := if 250 ≤ s.2.2 then some (.inr s.1) else if s.2.1 ≤ 0 then some (.inr s.1) else if ¬ s.2.1 = 0 then some (.inl (s.2.1, (s.1 - s.1 / s.2.1 * s.2.1), (s.2.2 + 1))) else none
set_option maxRecDepth 100000 in
set_option maxHeartbeats 400000 in
theorem t_X5_commonDivisor_l7 {D : mm_D} {d : Nat} (hd : 0 ≤ d) {Z : Option Int32 → List mm_C → mm_M → Prop} (M : mm_M) (n : Nat) (s : (Int32 × Int32 × Int32)) (r : Int32) (h : mm_loop (X5_commonDivisor_l7) n s = some r) (hx : Z (some r) S_c M) : mm_Go jX5_commonDivisor D d 0 0 7 [none, none, some (.inl s.1), some (.inl s.2.1), some (.inl s.2.2), none] [] S_c M Z := by
  refine mm_loop_go (step := X5_commonDivisor_l7) (Hd := fun (s : (Int32 × Int32 × Int32)) => mm_Go jX5_commonDivisor D d 0 0 7 [none, none, some (.inl s.1), some (.inl s.2.1), some (.inl s.2.2), none] [] S_c M Z) (Ex := fun (r : Int32) => Z (some r) S_c M) ?_ n s r h hx
  intro s o h kb ke
  show mm_Go jX5_commonDivisor D d 0 0 7 [none, none, some (.inl s.1), some (.inl s.2.1), some (.inl s.2.2), none] [] S_c M Z
  unfold X5_commonDivisor_l7 at h
  refine r_iload (q := 9) dX5_commonDivisor_7 rfl rfl ?_
  refine r_sipush (v := 250) (q := 12) dX5_commonDivisor_9 (by decide) rfl ?_
  refine r_icmp_ge 35 (q := 15) dX5_commonDivisor_12 (by decide) rfl (fun c1 => ?_) (fun c1 => ?_)
  · rw [if_pos c1] at h
    refine r_iload_n (q := 36) dX5_commonDivisor_35 rfl rfl ?_
    cases h
    have hk := ke _ rfl
    exact r_ret dX5_commonDivisor_36 rfl hk
  · rw [if_neg c1] at h
    refine r_iload_n (q := 16) dX5_commonDivisor_15 rfl rfl ?_
    refine r_if_le 35 (q := 19) dX5_commonDivisor_16 (by decide) rfl (fun c2 => ?_) (fun c2 => ?_)
    · rw [if_pos c2] at h
      refine r_iload_n (q := 36) dX5_commonDivisor_35 rfl rfl ?_
      cases h
      have hk := ke _ rfl
      exact r_ret dX5_commonDivisor_36 rfl hk
    · rw [if_neg c2] at h
      refine r_iload_n (q := 20) dX5_commonDivisor_19 rfl rfl ?_
      refine r_iload_n (q := 21) dX5_commonDivisor_20 rfl rfl ?_
      obtain ⟨g3, h⟩ := mm_guard h
      refine r_irem (q := 22) dX5_commonDivisor_21 g3 rfl ?_
      refine r_istore (q := 24) (L' := [none, none, some (.inl s.1), some (.inl s.2.1), some (.inl s.2.2), some (.inl (s.1 - s.1 / s.2.1 * s.2.1))]) dX5_commonDivisor_22 (by decide) rfl rfl ?_
      refine r_iload_n (q := 25) dX5_commonDivisor_24 rfl rfl ?_
      refine r_istore_n (q := 26) (L' := [none, none, some (.inl s.2.1), some (.inl s.2.1), some (.inl s.2.2), some (.inl (s.1 - s.1 / s.2.1 * s.2.1))]) dX5_commonDivisor_25 (by decide) rfl rfl ?_
      refine r_iload (q := 28) dX5_commonDivisor_26 rfl rfl ?_
      refine r_istore_n (q := 29) (L' := [none, none, some (.inl s.2.1), some (.inl (s.1 - s.1 / s.2.1 * s.2.1)), some (.inl s.2.2), some (.inl (s.1 - s.1 / s.2.1 * s.2.1))]) dX5_commonDivisor_28 (by decide) rfl rfl ?_
      refine r_iinc (v := 1) (q := 32) (L' := [none, none, some (.inl s.2.1), some (.inl (s.1 - s.1 / s.2.1 * s.2.1)), some (.inl (s.2.2 + 1)), some (.inl (s.1 - s.1 / s.2.1 * s.2.1))]) dX5_commonDivisor_29 (by decide) (by decide) rfl rfl rfl ?_
      refine r_goto 7 dX5_commonDivisor_32 (by decide) ?_
      refine r_forget (L' := [none, none, some (.inl s.2.1), some (.inl (s.1 - s.1 / s.2.1 * s.2.1)), some (.inl (s.2.2 + 1)), none]) [false, false, true, true, true, false] rfl ?_
      cases h
      have hk := kb _ rfl
      exact hk
noncomputable def X5_commonDivisor (x0 : Int32) (x1 : Int32) : Option Int32 := (mm_loop (X5_commonDivisor_l7) mm_fuel (x1, x0, 0))
set_option maxRecDepth 100000 in
set_option maxHeartbeats 400000 in
theorem t_X5_commonDivisor {d : Nat} (hd : 0 ≤ d) (x0 : Int32) (x1 : Int32) (M : mm_M) (res : Int32) (h : X5_commonDivisor x0 x1 = some res) : mm_Meth jX5_commonDivisor d 0 0 [(.inl x0), (.inl x1)] S_c M (mm_Zi res S_c M) := by
  refine r_meth (L := [some (.inl x0), some (.inl x1), none, none, none, none]) rfl (fun D => ?_)
  unfold X5_commonDivisor at h
  refine r_iload_n (q := 1) dX5_commonDivisor_0 rfl rfl ?_
  refine r_istore_n (q := 2) (L' := [some (.inl x0), some (.inl x1), some (.inl x1), none, none, none]) dX5_commonDivisor_1 (by decide) rfl rfl ?_
  refine r_iload_n (q := 3) dX5_commonDivisor_2 rfl rfl ?_
  refine r_istore_n (q := 4) (L' := [some (.inl x0), some (.inl x1), some (.inl x1), some (.inl x0), none, none]) dX5_commonDivisor_3 (by decide) rfl rfl ?_
  refine r_iconst (v := 0) (q := 5) dX5_commonDivisor_4 (by decide) rfl ?_
  refine r_istore (q := 7) (L' := [some (.inl x0), some (.inl x1), some (.inl x1), some (.inl x0), some (.inl 0), none]) dX5_commonDivisor_5 (by decide) rfl rfl ?_
  refine r_forget (L' := [none, none, some (.inl x1), some (.inl x0), some (.inl 0), none]) [false, false, true, true, true, false] rfl ?_
  exact t_X5_commonDivisor_l7 hd M mm_fuel (x1, x0, 0) _ h mm_Zi_rfl
noncomputable def X5_share_l38 (x3 : Int32) (x4 : Int32) (x5 : Int32) (x6 : Int32) (x7 : Int32) (x8 : Int32) (x9 : Int32) (M : mm_M) (s : (Int32 × Int32 × Int32)) : Option ((Int32 × Int32 × Int32) ⊕ Int32) := if x3 ≤ s.2.2 then some (.inr s.2.1) else (X7_byteAt s.2.2 M).bind fun y6 => some (.inl ((X8_behind y6 s.1 M), (X8_answer y6 s.1 M), (s.2.2 + 1)))
set_option maxRecDepth 100000 in
set_option maxHeartbeats 400000 in
theorem t_X5_share_l38 {D : mm_D} {d : Nat} (hd : 1 ≤ d) {Z : Option Int32 → List mm_C → mm_M → Prop} (x3 : Int32) (x4 : Int32) (x5 : Int32) (x6 : Int32) (x7 : Int32) (x8 : Int32) (x9 : Int32) (M : mm_M) (n : Nat) (s : (Int32 × Int32 × Int32)) (r : Int32) (h : mm_loop (X5_share_l38 x3 x4 x5 x6 x7 x8 x9 M) n s = some r) (hx : mm_Go jX5_share D d 0 0 78 [none, some (.inr 7), some (.inr 1), some (.inl x3), some (.inl x4), some (.inl x5), some (.inl x6), some (.inl x7), some (.inl x8), some (.inl x9), none, some (.inl r), none, none] [] S_c M Z) : mm_Go jX5_share D d 0 0 38 [none, some (.inr 7), some (.inr 1), some (.inl x3), some (.inl x4), some (.inl x5), some (.inl x6), some (.inl x7), some (.inl x8), some (.inl x9), some (.inl s.1), some (.inl s.2.1), some (.inl s.2.2), none] [] S_c M Z := by
  refine mm_loop_go (step := X5_share_l38 x3 x4 x5 x6 x7 x8 x9 M) (Hd := fun (s : (Int32 × Int32 × Int32)) => mm_Go jX5_share D d 0 0 38 [none, some (.inr 7), some (.inr 1), some (.inl x3), some (.inl x4), some (.inl x5), some (.inl x6), some (.inl x7), some (.inl x8), some (.inl x9), some (.inl s.1), some (.inl s.2.1), some (.inl s.2.2), none] [] S_c M Z) (Ex := fun (r : Int32) => mm_Go jX5_share D d 0 0 78 [none, some (.inr 7), some (.inr 1), some (.inl x3), some (.inl x4), some (.inl x5), some (.inl x6), some (.inl x7), some (.inl x8), some (.inl x9), none, some (.inl r), none, none] [] S_c M Z) ?_ n s r h hx
  intro s o h kb ke
  show mm_Go jX5_share D d 0 0 38 [none, some (.inr 7), some (.inr 1), some (.inl x3), some (.inl x4), some (.inl x5), some (.inl x6), some (.inl x7), some (.inl x8), some (.inl x9), some (.inl s.1), some (.inl s.2.1), some (.inl s.2.2), none] [] S_c M Z
  unfold X5_share_l38 at h
  refine r_iload (q := 40) dX5_share_38 rfl rfl ?_
  refine r_iload_n (q := 41) dX5_share_40 rfl rfl ?_
  refine r_icmp_ge 78 (q := 44) dX5_share_41 (by decide) rfl (fun c4 => ?_) (fun c4 => ?_)
  · rw [if_pos c4] at h
    refine r_forget (L' := [none, some (.inr 7), some (.inr 1), some (.inl x3), some (.inl x4), some (.inl x5), some (.inl x6), some (.inl x7), some (.inl x8), some (.inl x9), none, some (.inl s.2.1), none, none]) [false, true, true, true, true, true, true, true, true, true, false, true, false, false] rfl ?_
    cases h
    have hk := ke _ rfl
    exact hk
  · rw [if_neg c4] at h
    refine r_aload_n (q := 45) dX5_share_44 rfl rfl ?_
    refine r_iload (q := 47) dX5_share_45 rfl rfl ?_
    obtain ⟨y6, e5, h⟩ := Option.bind_eq_some_iff.mp h
    refine r_callV_i (av := [(.inl s.2.2)]) (st := []) (q := 50) (d1 := 0) kc_X5_30 sc_c_1 dX5_share_47 rfl rfl (Nat.le_of_ble_eq_true rfl) (Nat.le_of_ble_eq_true rfl) (by omega) rfl rfl (t_X7_byteAt (d := 0) (by omega) s.2.2 M _ e5) ?_
    refine r_istore (q := 52) (L' := [none, some (.inr 7), some (.inr 1), some (.inl x3), some (.inl x4), some (.inl x5), some (.inl x6), some (.inl x7), some (.inl x8), some (.inl x9), some (.inl s.1), some (.inl s.2.1), some (.inl s.2.2), some (.inl y6)]) dX5_share_50 (by decide) rfl rfl ?_
    refine r_aload_n (q := 53) dX5_share_52 rfl rfl ?_
    refine r_iload (q := 55) dX5_share_53 rfl rfl ?_
    refine r_iload (q := 57) dX5_share_55 rfl rfl ?_
    refine r_callV_i (av := [(.inl y6), (.inl s.1)]) (st := []) (q := 60) (d1 := 0) kc_X5_113 sc_c_7 dX5_share_57 rfl rfl (Nat.le_of_ble_eq_true rfl) (Nat.le_of_ble_eq_true rfl) (by omega) rfl rfl (t_X8_answer (d := 0) (by omega) y6 s.1 M _ rfl) ?_
    refine r_istore (q := 62) (L' := [none, some (.inr 7), some (.inr 1), some (.inl x3), some (.inl x4), some (.inl x5), some (.inl x6), some (.inl x7), some (.inl x8), some (.inl x9), some (.inl s.1), some (.inl (X8_answer y6 s.1 M)), some (.inl s.2.2), some (.inl y6)]) dX5_share_60 (by decide) rfl rfl ?_
    refine r_aload_n (q := 63) dX5_share_62 rfl rfl ?_
    refine r_iload (q := 65) dX5_share_63 rfl rfl ?_
    refine r_iload (q := 67) dX5_share_65 rfl rfl ?_
    refine r_callV_i (av := [(.inl y6), (.inl s.1)]) (st := []) (q := 70) (d1 := 0) kc_X5_84 sc_c_7 dX5_share_67 rfl rfl (Nat.le_of_ble_eq_true rfl) (Nat.le_of_ble_eq_true rfl) (by omega) rfl rfl (t_X8_behind (d := 0) (by omega) y6 s.1 M _ rfl) ?_
    refine r_istore (q := 72) (L' := [none, some (.inr 7), some (.inr 1), some (.inl x3), some (.inl x4), some (.inl x5), some (.inl x6), some (.inl x7), some (.inl x8), some (.inl x9), some (.inl (X8_behind y6 s.1 M)), some (.inl (X8_answer y6 s.1 M)), some (.inl s.2.2), some (.inl y6)]) dX5_share_70 (by decide) rfl rfl ?_
    refine r_iinc (v := 1) (q := 75) (L' := [none, some (.inr 7), some (.inr 1), some (.inl x3), some (.inl x4), some (.inl x5), some (.inl x6), some (.inl x7), some (.inl x8), some (.inl x9), some (.inl (X8_behind y6 s.1 M)), some (.inl (X8_answer y6 s.1 M)), some (.inl (s.2.2 + 1)), some (.inl y6)]) dX5_share_72 (by decide) (by decide) rfl rfl rfl ?_
    refine r_goto 38 dX5_share_75 (by decide) ?_
    refine r_forget (L' := [none, some (.inr 7), some (.inr 1), some (.inl x3), some (.inl x4), some (.inl x5), some (.inl x6), some (.inl x7), some (.inl x8), some (.inl x9), some (.inl (X8_behind y6 s.1 M)), some (.inl (X8_answer y6 s.1 M)), some (.inl (s.2.2 + 1)), none]) [false, true, true, true, true, true, true, true, true, true, true, true, true, false] rfl ?_
    cases h
    have hk := kb _ rfl
    exact hk
noncomputable def X5_share_l9 (x3 : Int32) (x4 : Int32) (x5 : Int32) (M : mm_M) (s : (Int32 × Int32 × Int32)) : Option ((Int32 × Int32 × Int32) ⊕ (Int32 × Int32)) := if (M 7 0) ≤ s.2.2 then some (.inr (s.1, s.2.1)) else (X7_byteAt (x3 + s.2.2) M).bind fun y3 => (mm_loop (X5_share_l38 x3 x4 x5 s.1 s.2.1 s.2.2 y3 M) mm_fuel (s.2.2, 0, 0)).bind fun y7 => if y7 = x4 then some (.inl ((s.1 + y3), (s.2.1 + y3), (s.2.2 + 1))) else some (.inl ((s.1 + 0), (s.2.1 + y3), (s.2.2 + 1)))
set_option maxRecDepth 100000 in
set_option maxHeartbeats 400000 in
theorem t_X5_share_l9 {D : mm_D} {d : Nat} (hd : 1 ≤ d) {Z : Option Int32 → List mm_C → mm_M → Prop} (x3 : Int32) (x4 : Int32) (x5 : Int32) (M : mm_M) (n : Nat) (s : (Int32 × Int32 × Int32)) (r : (Int32 × Int32)) (h : mm_loop (X5_share_l9 x3 x4 x5 M) n s = some r) (hx : mm_Go jX5_share D d 0 0 109 [none, none, none, none, none, some (.inl x5), some (.inl r.1), some (.inl r.2), none, none, none, none, none, none] [] S_c M Z) : mm_Go jX5_share D d 0 0 9 [none, some (.inr 7), some (.inr 1), some (.inl x3), some (.inl x4), some (.inl x5), some (.inl s.1), some (.inl s.2.1), some (.inl s.2.2), none, none, none, none, none] [] S_c M Z := by
  refine mm_loop_go (step := X5_share_l9 x3 x4 x5 M) (Hd := fun (s : (Int32 × Int32 × Int32)) => mm_Go jX5_share D d 0 0 9 [none, some (.inr 7), some (.inr 1), some (.inl x3), some (.inl x4), some (.inl x5), some (.inl s.1), some (.inl s.2.1), some (.inl s.2.2), none, none, none, none, none] [] S_c M Z) (Ex := fun (r : (Int32 × Int32)) => mm_Go jX5_share D d 0 0 109 [none, none, none, none, none, some (.inl x5), some (.inl r.1), some (.inl r.2), none, none, none, none, none, none] [] S_c M Z) ?_ n s r h hx
  intro s o h kb ke
  show mm_Go jX5_share D d 0 0 9 [none, some (.inr 7), some (.inr 1), some (.inl x3), some (.inl x4), some (.inl x5), some (.inl s.1), some (.inl s.2.1), some (.inl s.2.2), none, none, none, none, none] [] S_c M Z
  unfold X5_share_l9 at h
  refine r_iload (q := 11) dX5_share_9 rfl rfl ?_
  refine r_aload_n (q := 12) dX5_share_11 rfl rfl ?_
  refine r_geti (v := (M 7 0)) (q := 15) lk_X5_81 dX5_share_12 sc_c_7 rfl rfl rfl ?_
  refine r_icmp_ge 109 (q := 18) dX5_share_15 (by decide) rfl (fun c1 => ?_) (fun c1 => ?_)
  · rw [if_pos c1] at h
    refine r_forget (L' := [none, none, none, none, none, some (.inl x5), some (.inl s.1), some (.inl s.2.1), none, none, none, none, none, none]) [false, false, false, false, false, true, true, true, false, false, false, false, false, false] rfl ?_
    cases h
    have hk := ke _ rfl
    exact hk
  · rw [if_neg c1] at h
    refine r_aload_n (q := 19) dX5_share_18 rfl rfl ?_
    refine r_iload_n (q := 20) dX5_share_19 rfl rfl ?_
    refine r_iload (q := 22) dX5_share_20 rfl rfl ?_
    refine r_iadd (q := 23) dX5_share_22 rfl ?_
    obtain ⟨y3, e2, h⟩ := Option.bind_eq_some_iff.mp h
    refine r_callV_i (av := [(.inl (x3 + s.2.2))]) (st := []) (q := 26) (d1 := 0) kc_X5_30 sc_c_1 dX5_share_23 rfl rfl (Nat.le_of_ble_eq_true rfl) (Nat.le_of_ble_eq_true rfl) (by omega) rfl rfl (t_X7_byteAt (d := 0) (by omega) (x3 + s.2.2) M _ e2) ?_
    refine r_istore (q := 28) (L' := [none, some (.inr 7), some (.inr 1), some (.inl x3), some (.inl x4), some (.inl x5), some (.inl s.1), some (.inl s.2.1), some (.inl s.2.2), some (.inl y3), none, none, none, none]) dX5_share_26 (by decide) rfl rfl ?_
    refine r_iload (q := 30) dX5_share_28 rfl rfl ?_
    refine r_istore (q := 32) (L' := [none, some (.inr 7), some (.inr 1), some (.inl x3), some (.inl x4), some (.inl x5), some (.inl s.1), some (.inl s.2.1), some (.inl s.2.2), some (.inl y3), some (.inl s.2.2), none, none, none]) dX5_share_30 (by decide) rfl rfl ?_
    refine r_iconst (v := 0) (q := 33) dX5_share_32 (by decide) rfl ?_
    refine r_istore (q := 35) (L' := [none, some (.inr 7), some (.inr 1), some (.inl x3), some (.inl x4), some (.inl x5), some (.inl s.1), some (.inl s.2.1), some (.inl s.2.2), some (.inl y3), some (.inl s.2.2), some (.inl 0), none, none]) dX5_share_33 (by decide) rfl rfl ?_
    refine r_iconst (v := 0) (q := 36) dX5_share_35 (by decide) rfl ?_
    refine r_istore (q := 38) (L' := [none, some (.inr 7), some (.inr 1), some (.inl x3), some (.inl x4), some (.inl x5), some (.inl s.1), some (.inl s.2.1), some (.inl s.2.2), some (.inl y3), some (.inl s.2.2), some (.inl 0), some (.inl 0), none]) dX5_share_36 (by decide) rfl rfl ?_
    obtain ⟨y7, e8, h⟩ := Option.bind_eq_some_iff.mp h
    refine t_X5_share_l38 hd x3 x4 x5 s.1 s.2.1 s.2.2 y3 M mm_fuel (s.2.2, 0, 0) _ e8 ?_
    show mm_Go jX5_share _ _ _ _ 78 [none, some (.inr 7), some (.inr 1), some (.inl x3), some (.inl x4), some (.inl x5), some (.inl s.1), some (.inl s.2.1), some (.inl s.2.2), some (.inl y3), none, some (.inl y7), none, none] [] S_c M _
    refine r_iload (q := 80) dX5_share_78 rfl rfl ?_
    refine r_iload (q := 82) dX5_share_80 rfl rfl ?_
    refine r_iadd (q := 83) dX5_share_82 rfl ?_
    refine r_istore (q := 85) (L' := [none, some (.inr 7), some (.inr 1), some (.inl x3), some (.inl x4), some (.inl x5), some (.inl s.1), some (.inl (s.2.1 + y3)), some (.inl s.2.2), some (.inl y3), none, some (.inl y7), none, none]) dX5_share_83 (by decide) rfl rfl ?_
    refine r_iload (q := 87) dX5_share_85 rfl rfl ?_
    refine r_iload (q := 89) dX5_share_87 rfl rfl ?_
    refine r_iload (q := 91) dX5_share_89 rfl rfl ?_
    refine r_icmp_ne 99 (q := 94) dX5_share_91 (by decide) rfl (fun c9 => ?_) (fun c9 => ?_)
    · rw [if_neg c9] at h
      refine r_iconst (v := 0) (q := 100) dX5_share_99 (by decide) rfl ?_
      refine r_iadd (q := 101) dX5_share_100 rfl ?_
      refine r_istore (q := 103) (L' := [none, some (.inr 7), some (.inr 1), some (.inl x3), some (.inl x4), some (.inl x5), some (.inl (s.1 + 0)), some (.inl (s.2.1 + y3)), some (.inl s.2.2), some (.inl y3), none, some (.inl y7), none, none]) dX5_share_101 (by decide) rfl rfl ?_
      refine r_iinc (v := 1) (q := 106) (L' := [none, some (.inr 7), some (.inr 1), some (.inl x3), some (.inl x4), some (.inl x5), some (.inl (s.1 + 0)), some (.inl (s.2.1 + y3)), some (.inl (s.2.2 + 1)), some (.inl y3), none, some (.inl y7), none, none]) dX5_share_103 (by decide) (by decide) rfl rfl rfl ?_
      refine r_goto 9 dX5_share_106 (by decide) ?_
      refine r_forget (L' := [none, some (.inr 7), some (.inr 1), some (.inl x3), some (.inl x4), some (.inl x5), some (.inl (s.1 + 0)), some (.inl (s.2.1 + y3)), some (.inl (s.2.2 + 1)), none, none, none, none, none]) [false, true, true, true, true, true, true, true, true, false, false, false, false, false] rfl ?_
      cases h
      have hk := kb _ rfl
      exact hk
    · rw [if_pos c9] at h
      refine r_iload (q := 96) dX5_share_94 rfl rfl ?_
      refine r_goto 100 dX5_share_96 (by decide) ?_
      refine r_iadd (q := 101) dX5_share_100 rfl ?_
      refine r_istore (q := 103) (L' := [none, some (.inr 7), some (.inr 1), some (.inl x3), some (.inl x4), some (.inl x5), some (.inl (s.1 + y3)), some (.inl (s.2.1 + y3)), some (.inl s.2.2), some (.inl y3), none, some (.inl y7), none, none]) dX5_share_101 (by decide) rfl rfl ?_
      refine r_iinc (v := 1) (q := 106) (L' := [none, some (.inr 7), some (.inr 1), some (.inl x3), some (.inl x4), some (.inl x5), some (.inl (s.1 + y3)), some (.inl (s.2.1 + y3)), some (.inl (s.2.2 + 1)), some (.inl y3), none, some (.inl y7), none, none]) dX5_share_103 (by decide) (by decide) rfl rfl rfl ?_
      refine r_goto 9 dX5_share_106 (by decide) ?_
      refine r_forget (L' := [none, some (.inr 7), some (.inr 1), some (.inl x3), some (.inl x4), some (.inl x5), some (.inl (s.1 + y3)), some (.inl (s.2.1 + y3)), some (.inl (s.2.2 + 1)), none, none, none, none, none]) [false, true, true, true, true, true, true, true, true, false, false, false, false, false] rfl ?_
      cases h
      have hk := kb _ rfl
      exact hk
noncomputable def X5_share (x3 : Int32) (x4 : Int32) (x5 : Int32) (M : mm_M) : Option Int32 := (mm_loop (X5_share_l9 x3 x4 x5 M) mm_fuel (0, 0, 0)).bind fun y10 => (X5_commonDivisor y10.1 y10.2).bind fun y13 => if y10.2 ≤ 0 then some (-2) else if 0 < y13 then if x5 = 0 then if ¬ y13 = 0 then some (y10.1 / y13) else none else if ¬ y13 = 0 then some (y10.2 / y13) else none else some (-2)
set_option maxRecDepth 100000 in
set_option maxHeartbeats 400000 in
theorem t_X5_share {d : Nat} (hd : 1 ≤ d) (x3 : Int32) (x4 : Int32) (x5 : Int32) (M : mm_M) (res : Int32) (h : X5_share x3 x4 x5 M = some res) : mm_Meth jX5_share d 0 0 [(.inr 36), (.inr 7), (.inr 1), (.inl x3), (.inl x4), (.inl x5)] S_c M (mm_Zi res S_c M) := by
  refine r_meth (L := [some (.inr 36), some (.inr 7), some (.inr 1), some (.inl x3), some (.inl x4), some (.inl x5), none, none, none, none, none, none, none, none]) rfl (fun D => ?_)
  unfold X5_share at h
  refine r_iconst (v := 0) (q := 1) dX5_share_0 (by decide) rfl ?_
  refine r_istore (q := 3) (L' := [some (.inr 36), some (.inr 7), some (.inr 1), some (.inl x3), some (.inl x4), some (.inl x5), some (.inl 0), none, none, none, none, none, none, none]) dX5_share_1 (by decide) rfl rfl ?_
  refine r_iconst (v := 0) (q := 4) dX5_share_3 (by decide) rfl ?_
  refine r_istore (q := 6) (L' := [some (.inr 36), some (.inr 7), some (.inr 1), some (.inl x3), some (.inl x4), some (.inl x5), some (.inl 0), some (.inl 0), none, none, none, none, none, none]) dX5_share_4 (by decide) rfl rfl ?_
  refine r_iconst (v := 0) (q := 7) dX5_share_6 (by decide) rfl ?_
  refine r_istore (q := 9) (L' := [some (.inr 36), some (.inr 7), some (.inr 1), some (.inl x3), some (.inl x4), some (.inl x5), some (.inl 0), some (.inl 0), some (.inl 0), none, none, none, none, none]) dX5_share_7 (by decide) rfl rfl ?_
  refine r_forget (L' := [none, some (.inr 7), some (.inr 1), some (.inl x3), some (.inl x4), some (.inl x5), some (.inl 0), some (.inl 0), some (.inl 0), none, none, none, none, none]) [false, true, true, true, true, true, true, true, true, false, false, false, false, false] rfl ?_
  obtain ⟨y10, e11, h⟩ := Option.bind_eq_some_iff.mp h
  refine t_X5_share_l9 hd x3 x4 x5 M mm_fuel (0, 0, 0) _ e11 ?_
  show mm_Go jX5_share _ _ _ _ 109 [none, none, none, none, none, some (.inl x5), some (.inl y10.1), some (.inl y10.2), none, none, none, none, none, none] [] S_c M _
  refine r_iload (q := 111) dX5_share_109 rfl rfl ?_
  refine r_iload (q := 113) dX5_share_111 rfl rfl ?_
  obtain ⟨y13, e12, h⟩ := Option.bind_eq_some_iff.mp h
  refine r_callS_i (av := [(.inl y10.1), (.inl y10.2)]) (st := []) (q := 116) (d1 := 0) kc_X5_123 dX5_share_113 rfl rfl (Nat.le_of_ble_eq_true rfl) (Nat.le_of_ble_eq_true rfl) (by omega) rfl rfl (t_X5_commonDivisor (d := 0) (by omega) y10.1 y10.2 M _ e12) ?_
  refine r_istore (q := 118) (L' := [none, none, none, none, none, some (.inl x5), some (.inl y10.1), some (.inl y10.2), some (.inl y13), none, none, none, none, none]) dX5_share_116 (by decide) rfl rfl ?_
  refine r_iload (q := 120) dX5_share_118 rfl rfl ?_
  refine r_if_le 128 (q := 123) dX5_share_120 (by decide) rfl (fun c14 => ?_) (fun c14 => ?_)
  · rw [if_pos c14] at h
    refine r_bipush (v := (-2)) (q := 130) dX5_share_128 (by decide) rfl ?_
    cases h
    exact r_ret dX5_share_130 rfl mm_Zi_rfl
  · rw [if_neg c14] at h
    refine r_iload (q := 125) dX5_share_123 rfl rfl ?_
    refine r_if_gt 131 (q := 128) dX5_share_125 (by decide) rfl (fun c15 => ?_) (fun c15 => ?_)
    · rw [if_pos c15] at h
      refine r_iload (q := 133) dX5_share_131 rfl rfl ?_
      refine r_if_ne 141 (q := 136) dX5_share_133 (by decide) rfl (fun c16 => ?_) (fun c16 => ?_)
      · rw [if_neg c16] at h
        refine r_iload (q := 143) dX5_share_141 rfl rfl ?_
        refine r_iload (q := 145) dX5_share_143 rfl rfl ?_
        obtain ⟨g18, h⟩ := mm_guard h
        refine r_idiv (q := 146) dX5_share_145 g18 rfl ?_
        cases h
        exact r_ret dX5_share_146 rfl mm_Zi_rfl
      · rw [if_pos c16] at h
        refine r_iload (q := 138) dX5_share_136 rfl rfl ?_
        refine r_goto 143 dX5_share_138 (by decide) ?_
        refine r_iload (q := 145) dX5_share_143 rfl rfl ?_
        obtain ⟨g17, h⟩ := mm_guard h
        refine r_idiv (q := 146) dX5_share_145 g17 rfl ?_
        cases h
        exact r_ret dX5_share_146 rfl mm_Zi_rfl
    · rw [if_neg c15] at h
      refine r_bipush (v := (-2)) (q := 130) dX5_share_128 (by decide) rfl ?_
      cases h
      exact r_ret dX5_share_130 rfl mm_Zi_rfl
noncomputable def X11_odds_j142 (z0 : Int32) (M : mm_M) : Option (Int32 × mm_M) := mm_let (X7_clear M) fun y15 => some (z0, y15)
set_option maxRecDepth 100000 in
set_option maxHeartbeats 400000 in
theorem t_X11_odds_j142 {D : mm_D} {d : Nat} (hd : 2 ≤ d) (z0 : Int32) (M : mm_M) (res : (Int32 × mm_M)) (h : X11_odds_j142 z0 M = some res) : mm_Go jX11_odds D d 0 0 142 [some (.inr 0), none, none, none, none, none, none] [(.inl z0)] S_c M (mm_Zi res.1 S_c res.2) := by
  unfold X11_odds_j142 at h
  refine r_istore (q := 144) (L' := [some (.inr 0), none, none, none, none, none, some (.inl z0)]) dX11_odds_142 (by decide) rfl rfl ?_
  refine r_aload_n (q := 145) dX11_odds_144 rfl rfl ?_
  refine r_getr (b := 1) (q := 148) lk_X11_12 dX11_odds_145 sc_c_0 rfl rfl ?_
  obtain ⟨y15, e14, h⟩ := mm_let_elim h
  refine r_callV_v (av := []) (st := []) (q := 151) (d1 := 0) kc_X11_121 sc_c_1 dX11_odds_148 rfl rfl (Nat.le_of_ble_eq_true rfl) (Nat.le_of_ble_eq_true rfl) (by omega) rfl rfl (t_X7_clear (d := 0) (by omega) M _ e14) ?_
  refine r_iload (q := 153) dX11_odds_151 rfl rfl ?_
  cases h
  exact r_ret dX11_odds_153 rfl mm_Zi_rfl
noncomputable def X11_odds_j112 (x1 : Int32) (x2 : Int32) (x3 : Int32) (z0 : Bool) (M : mm_M) : Option (Int32 × mm_M) := if z0 = true then (X5_share x1 x2 x3 M).bind fun y13 => X11_odds_j142 y13 M else X11_odds_j142 (-3) M
set_option maxRecDepth 100000 in
set_option maxHeartbeats 400000 in
theorem t_X11_odds_j112 {D : mm_D} {d : Nat} (hd : 2 ≤ d) (x1 : Int32) (x2 : Int32) (x3 : Int32) (z0 : Bool) (M : mm_M) (res : (Int32 × mm_M)) (h : X11_odds_j112 x1 x2 x3 z0 M = some res) : mm_Go jX11_odds D d 0 0 112 [some (.inr 0), some (.inl x1), some (.inl x2), some (.inl x3), none, none, none] [(.inl (mm_b z0))] S_c M (mm_Zi res.1 S_c res.2) := by
  unfold X11_odds_j112 at h
  refine r_istore (q := 114) (L' := [some (.inr 0), some (.inl x1), some (.inl x2), some (.inl x3), none, some (.inl (mm_b z0)), none]) dX11_odds_112 (by decide) rfl rfl ?_
  refine r_iload (q := 116) dX11_odds_114 rfl rfl ?_
  refine r_if_eq 140 (q := 119) dX11_odds_116 (by decide) rfl (fun c11 => ?_) (fun c11 => ?_)
  · rw [if_neg (mm_b0 c11)] at h
    refine r_bipush (v := (-3)) (q := 142) dX11_odds_140 (by decide) rfl ?_
    refine r_forget (L' := [some (.inr 0), none, none, none, none, none, none]) [true, false, false, false, false, false, false] rfl ?_
    exact t_X11_odds_j142 hd (-3) M _ h
  · rw [if_pos (mm_b1 c11)] at h
    refine r_aload_n (q := 120) dX11_odds_119 rfl rfl ?_
    refine r_getr (b := 36) (q := 123) lk_X11_83 dX11_odds_120 sc_c_0 rfl rfl ?_
    refine r_aload_n (q := 124) dX11_odds_123 rfl rfl ?_
    refine r_getr (b := 7) (q := 127) lk_X11_42 dX11_odds_124 sc_c_0 rfl rfl ?_
    refine r_aload_n (q := 128) dX11_odds_127 rfl rfl ?_
    refine r_getr (b := 1) (q := 131) lk_X11_12 dX11_odds_128 sc_c_0 rfl rfl ?_
    refine r_iload_n (q := 132) dX11_odds_131 rfl rfl ?_
    refine r_iload_n (q := 133) dX11_odds_132 rfl rfl ?_
    refine r_iload_n (q := 134) dX11_odds_133 rfl rfl ?_
    obtain ⟨y13, e12, h⟩ := Option.bind_eq_some_iff.mp h
    refine r_callV_i (av := [(.inr 7), (.inr 1), (.inl x1), (.inl x2), (.inl x3)]) (st := []) (q := 137) (d1 := 1) kc_X11_258 sc_c_36 dX11_odds_134 rfl rfl (Nat.le_of_ble_eq_true rfl) (Nat.le_of_ble_eq_true rfl) (by omega) rfl rfl (t_X5_share (d := 1) (by omega) x1 x2 x3 M _ e12) ?_
    refine r_goto 142 dX11_odds_137 (by decide) ?_
    refine r_forget (L' := [some (.inr 0), none, none, none, none, none, none]) [true, false, false, false, false, false, false] rfl ?_
    exact t_X11_odds_j142 hd y13 M _ h
noncomputable def X11_odds_j111 (x1 : Int32) (x2 : Int32) (x3 : Int32) (M : mm_M) : Option (Int32 × mm_M) := X11_odds_j112 x1 x2 x3 false M
set_option maxRecDepth 100000 in
set_option maxHeartbeats 400000 in
theorem t_X11_odds_j111 {D : mm_D} {d : Nat} (hd : 2 ≤ d) (x1 : Int32) (x2 : Int32) (x3 : Int32) (M : mm_M) (res : (Int32 × mm_M)) (h : X11_odds_j111 x1 x2 x3 M = some res) : mm_Go jX11_odds D d 0 0 111 [some (.inr 0), some (.inl x1), some (.inl x2), some (.inl x3), none, none, none] [] S_c M (mm_Zi res.1 S_c res.2) := by
  unfold X11_odds_j111 at h
  refine r_iconst (v := 0) (q := 112) dX11_odds_111 (by decide) rfl ?_
  exact t_X11_odds_j112 hd x1 x2 x3 false M _ h
noncomputable def X11_odds_j33 (x1 : Int32) (x2 : Int32) (x3 : Int32) (z0 : Bool) (M : mm_M) : Option (Int32 × mm_M) := if z0 = true then if (X8_isTold M) = true then if (x1 + (M 7 0)) ≤ (M 1 1) then (X7_isBelow 0 x1 8 M).bind fun y6 => if y6 = true then (X7_isBelow x1 (x1 + (M 7 0)) 26 M).bind fun y9 => if y9 = true then X11_odds_j112 x1 x2 x3 true M else X11_odds_j111 x1 x2 x3 M else X11_odds_j111 x1 x2 x3 M else some ((-1), M) else some ((-1), M) else some ((-1), M)
set_option maxRecDepth 100000 in
set_option maxHeartbeats 400000 in
theorem t_X11_odds_j33 {D : mm_D} {d : Nat} (hd : 2 ≤ d) (x1 : Int32) (x2 : Int32) (x3 : Int32) (z0 : Bool) (M : mm_M) (res : (Int32 × mm_M)) (h : X11_odds_j33 x1 x2 x3 z0 M = some res) : mm_Go jX11_odds D d 0 0 33 [some (.inr 0), some (.inl x1), some (.inl x2), some (.inl x3), none, none, none] [(.inl (mm_b z0))] S_c M (mm_Zi res.1 S_c res.2) := by
  unfold X11_odds_j33 at h
  refine r_istore (q := 35) (L' := [some (.inr 0), some (.inl x1), some (.inl x2), some (.inl x3), some (.inl (mm_b z0)), none, none]) dX11_odds_33 (by decide) rfl rfl ?_
  refine r_iload (q := 37) dX11_odds_35 rfl rfl ?_
  refine r_if_eq 69 (q := 40) dX11_odds_37 (by decide) rfl (fun c2 => ?_) (fun c2 => ?_)
  · rw [if_neg (mm_b0 c2)] at h
    refine r_iconst (v := (-1)) (q := 70) dX11_odds_69 (by decide) rfl ?_
    cases h
    exact r_ret dX11_odds_70 rfl mm_Zi_rfl
  · rw [if_pos (mm_b1 c2)] at h
    refine r_aload_n (q := 41) dX11_odds_40 rfl rfl ?_
    refine r_getr (b := 7) (q := 44) lk_X11_42 dX11_odds_41 sc_c_0 rfl rfl ?_
    refine r_callV_i (av := []) (st := []) (q := 47) (d1 := 0) kc_X11_144 sc_c_7 dX11_odds_44 rfl rfl (Nat.le_of_ble_eq_true rfl) (Nat.le_of_ble_eq_true rfl) (by omega) rfl rfl (t_X8_isTold (d := 0) (by omega) M _ rfl) ?_
    refine r_if_eq 69 (q := 50) dX11_odds_47 (by decide) rfl (fun c3 => ?_) (fun c3 => ?_)
    · rw [if_neg (mm_b0 c3)] at h
      refine r_iconst (v := (-1)) (q := 70) dX11_odds_69 (by decide) rfl ?_
      cases h
      exact r_ret dX11_odds_70 rfl mm_Zi_rfl
    · rw [if_pos (mm_b1 c3)] at h
      refine r_aload_n (q := 51) dX11_odds_50 rfl rfl ?_
      refine r_getr (b := 1) (q := 54) lk_X11_12 dX11_odds_51 sc_c_0 rfl rfl ?_
      refine r_geti (v := (M 1 1)) (q := 57) lk_X11_101 dX11_odds_54 sc_c_1 rfl rfl rfl ?_
      refine r_iload_n (q := 58) dX11_odds_57 rfl rfl ?_
      refine r_aload_n (q := 59) dX11_odds_58 rfl rfl ?_
      refine r_getr (b := 7) (q := 62) lk_X11_42 dX11_odds_59 sc_c_0 rfl rfl ?_
      refine r_geti (v := (M 7 0)) (q := 65) lk_X11_141 dX11_odds_62 sc_c_7 rfl rfl rfl ?_
      refine r_iadd (q := 66) dX11_odds_65 rfl ?_
      refine r_icmp_ge 71 (q := 69) dX11_odds_66 (by decide) rfl (fun c4 => ?_) (fun c4 => ?_)
      · rw [if_pos c4] at h
        refine r_aload_n (q := 72) dX11_odds_71 rfl rfl ?_
        refine r_getr (b := 1) (q := 75) lk_X11_12 dX11_odds_72 sc_c_0 rfl rfl ?_
        refine r_iconst (v := 0) (q := 76) dX11_odds_75 (by decide) rfl ?_
        refine r_iload_n (q := 77) dX11_odds_76 rfl rfl ?_
        refine r_bipush (v := 8) (q := 79) dX11_odds_77 (by decide) rfl ?_
        obtain ⟨y6, e5, h⟩ := Option.bind_eq_some_iff.mp h
        refine r_callV_i (av := [(.inl 0), (.inl x1), (.inl 8)]) (st := []) (q := 82) (d1 := 1) kc_X11_192 sc_c_1 dX11_odds_79 rfl rfl (Nat.le_of_ble_eq_true rfl) (Nat.le_of_ble_eq_true rfl) (by omega) rfl rfl (t_X7_isBelow (d := 1) (by omega) 0 x1 8 M _ e5) ?_
        refine r_if_eq 111 (q := 85) dX11_odds_82 (by decide) rfl (fun c7 => ?_) (fun c7 => ?_)
        · rw [if_neg (mm_b0 c7)] at h
          refine r_forget (L' := [some (.inr 0), some (.inl x1), some (.inl x2), some (.inl x3), none, none, none]) [true, true, true, true, false, false, false] rfl ?_
          exact t_X11_odds_j111 hd x1 x2 x3 M _ h
        · rw [if_pos (mm_b1 c7)] at h
          refine r_aload_n (q := 86) dX11_odds_85 rfl rfl ?_
          refine r_getr (b := 1) (q := 89) lk_X11_12 dX11_odds_86 sc_c_0 rfl rfl ?_
          refine r_iload_n (q := 90) dX11_odds_89 rfl rfl ?_
          refine r_iload_n (q := 91) dX11_odds_90 rfl rfl ?_
          refine r_aload_n (q := 92) dX11_odds_91 rfl rfl ?_
          refine r_getr (b := 7) (q := 95) lk_X11_42 dX11_odds_92 sc_c_0 rfl rfl ?_
          refine r_geti (v := (M 7 0)) (q := 98) lk_X11_141 dX11_odds_95 sc_c_7 rfl rfl rfl ?_
          refine r_iadd (q := 99) dX11_odds_98 rfl ?_
          refine r_bipush (v := 26) (q := 101) dX11_odds_99 (by decide) rfl ?_
          obtain ⟨y9, e8, h⟩ := Option.bind_eq_some_iff.mp h
          refine r_callV_i (av := [(.inl x1), (.inl (x1 + (M 7 0))), (.inl 26)]) (st := []) (q := 104) (d1 := 1) kc_X11_192 sc_c_1 dX11_odds_101 rfl rfl (Nat.le_of_ble_eq_true rfl) (Nat.le_of_ble_eq_true rfl) (by omega) rfl rfl (t_X7_isBelow (d := 1) (by omega) x1 (x1 + (M 7 0)) 26 M _ e8) ?_
          refine r_if_eq 111 (q := 107) dX11_odds_104 (by decide) rfl (fun c10 => ?_) (fun c10 => ?_)
          · rw [if_neg (mm_b0 c10)] at h
            refine r_forget (L' := [some (.inr 0), some (.inl x1), some (.inl x2), some (.inl x3), none, none, none]) [true, true, true, true, false, false, false] rfl ?_
            exact t_X11_odds_j111 hd x1 x2 x3 M _ h
          · rw [if_pos (mm_b1 c10)] at h
            refine r_iconst (v := 1) (q := 108) dX11_odds_107 (by decide) rfl ?_
            refine r_goto 112 dX11_odds_108 (by decide) ?_
            refine r_forget (L' := [some (.inr 0), some (.inl x1), some (.inl x2), some (.inl x3), none, none, none]) [true, true, true, true, false, false, false] rfl ?_
            exact t_X11_odds_j112 hd x1 x2 x3 true M _ h
      · rw [if_neg c4] at h
        refine r_iconst (v := (-1)) (q := 70) dX11_odds_69 (by decide) rfl ?_
        cases h
        exact r_ret dX11_odds_70 rfl mm_Zi_rfl
noncomputable def X11_odds_j32 (x1 : Int32) (x2 : Int32) (x3 : Int32) (M : mm_M) : Option (Int32 × mm_M) := X11_odds_j33 x1 x2 x3 false M
set_option maxRecDepth 100000 in
set_option maxHeartbeats 400000 in
theorem t_X11_odds_j32 {D : mm_D} {d : Nat} (hd : 2 ≤ d) (x1 : Int32) (x2 : Int32) (x3 : Int32) (M : mm_M) (res : (Int32 × mm_M)) (h : X11_odds_j32 x1 x2 x3 M = some res) : mm_Go jX11_odds D d 0 0 32 [some (.inr 0), some (.inl x1), some (.inl x2), some (.inl x3), none, none, none] [] S_c M (mm_Zi res.1 S_c res.2) := by
  unfold X11_odds_j32 at h
  refine r_iconst (v := 0) (q := 33) dX11_odds_32 (by decide) rfl ?_
  exact t_X11_odds_j33 hd x1 x2 x3 false M _ h
noncomputable def X11_odds (x1 : Int32) (x2 : Int32) (x3 : Int32) (M : mm_M) : Option (Int32 × mm_M) := if x1 < 1 then X11_odds_j32 x1 x2 x3 M else if 20 < x1 then X11_odds_j32 x1 x2 x3 M else if x2 < 0 then X11_odds_j32 x1 x2 x3 M else if 9 < x2 then X11_odds_j32 x1 x2 x3 M else if (X11_isZeroOrOne x3) = true then X11_odds_j33 x1 x2 x3 true M else X11_odds_j32 x1 x2 x3 M
set_option maxRecDepth 100000 in
set_option maxHeartbeats 400000 in
theorem t_X11_odds {d : Nat} (hd : 2 ≤ d) (x1 : Int32) (x2 : Int32) (x3 : Int32) (M : mm_M) (res : (Int32 × mm_M)) (h : X11_odds x1 x2 x3 M = some res) : mm_Meth jX11_odds d 0 0 [(.inr 0), (.inl x1), (.inl x2), (.inl x3)] S_c M (mm_Zi res.1 S_c res.2) := by
  refine r_meth (L := [some (.inr 0), some (.inl x1), some (.inl x2), some (.inl x3), none, none, none]) rfl (fun D => ?_)
  unfold X11_odds at h
  refine r_iload_n (q := 1) dX11_odds_0 rfl rfl ?_
  refine r_iconst (v := 1) (q := 2) dX11_odds_1 (by decide) rfl ?_
  refine r_icmp_lt 32 (q := 5) dX11_odds_2 (by decide) rfl (fun c1 => ?_) (fun c1 => ?_)
  · rw [if_pos c1] at h
    exact t_X11_odds_j32 hd x1 x2 x3 M _ h
  · rw [if_neg c1] at h
    refine r_iload_n (q := 6) dX11_odds_5 rfl rfl ?_
    refine r_bipush (v := 20) (q := 8) dX11_odds_6 (by decide) rfl ?_
    refine r_icmp_gt 32 (q := 11) dX11_odds_8 (by decide) rfl (fun c16 => ?_) (fun c16 => ?_)
    · rw [if_pos c16] at h
      exact t_X11_odds_j32 hd x1 x2 x3 M _ h
    · rw [if_neg c16] at h
      refine r_iload_n (q := 12) dX11_odds_11 rfl rfl ?_
      refine r_if_lt 32 (q := 15) dX11_odds_12 (by decide) rfl (fun c17 => ?_) (fun c17 => ?_)
      · rw [if_pos c17] at h
        exact t_X11_odds_j32 hd x1 x2 x3 M _ h
      · rw [if_neg c17] at h
        refine r_iload_n (q := 16) dX11_odds_15 rfl rfl ?_
        refine r_bipush (v := 9) (q := 18) dX11_odds_16 (by decide) rfl ?_
        refine r_icmp_gt 32 (q := 21) dX11_odds_18 (by decide) rfl (fun c18 => ?_) (fun c18 => ?_)
        · rw [if_pos c18] at h
          exact t_X11_odds_j32 hd x1 x2 x3 M _ h
        · rw [if_neg c18] at h
          refine r_iload_n (q := 22) dX11_odds_21 rfl rfl ?_
          refine r_callS_i (av := [(.inl x3)]) (st := []) (q := 25) (d1 := 0) kc_X11_179 dX11_odds_22 rfl rfl (Nat.le_of_ble_eq_true rfl) (Nat.le_of_ble_eq_true rfl) (by omega) rfl rfl (t_X11_isZeroOrOne (d := 0) (by omega) x3 M _ rfl) ?_
          refine r_if_eq 32 (q := 28) dX11_odds_25 (by decide) rfl (fun c19 => ?_) (fun c19 => ?_)
          · rw [if_neg (mm_b0 c19)] at h
            exact t_X11_odds_j32 hd x1 x2 x3 M _ h
          · rw [if_pos (mm_b1 c19)] at h
            refine r_iconst (v := 1) (q := 29) dX11_odds_28 (by decide) rfl ?_
            refine r_goto 33 dX11_odds_29 (by decide) ?_
            exact t_X11_odds_j33 hd x1 x2 x3 true M _ h
noncomputable def X10_endingAt (x1 : Int32) (x2 : Int32) (M : mm_M) : Int32 := if ((x1 * 9) + x2) < 0 then 0 else if 90 ≤ ((x1 * 9) + x2) then 0 else (M 35 (Int32.toNatClampNeg ((x1 * 9) + x2)))
set_option maxRecDepth 100000 in
set_option maxHeartbeats 400000 in
theorem t_X10_endingAt {d : Nat} (hd : 0 ≤ d) (x1 : Int32) (x2 : Int32) (M : mm_M) (res : Int32) (h : X10_endingAt x1 x2 M = res) : mm_Meth jX10_endingAt d 0 0 [(.inr 31), (.inl x1), (.inl x2)] S_c M (mm_Zi res S_c M) := by
  refine r_meth (L := [some (.inr 31), some (.inl x1), some (.inl x2), none]) rfl (fun D => ?_)
  unfold X10_endingAt at h
  refine r_iload_n (q := 1) dX10_endingAt_0 rfl rfl ?_
  refine r_bipush (v := 9) (q := 3) dX10_endingAt_1 (by decide) rfl ?_
  refine r_imul (q := 4) dX10_endingAt_3 rfl ?_
  refine r_iload_n (q := 5) dX10_endingAt_4 rfl rfl ?_
  refine r_iadd (q := 6) dX10_endingAt_5 rfl ?_
  refine r_istore_n (q := 7) (L' := [some (.inr 31), some (.inl x1), some (.inl x2), some (.inl ((x1 * 9) + x2))]) dX10_endingAt_6 (by decide) rfl rfl ?_
  refine r_iload_n (q := 8) dX10_endingAt_7 rfl rfl ?_
  refine r_if_lt 26 (q := 11) dX10_endingAt_8 (by decide) rfl (fun c1 => ?_) (fun c1 => ?_)
  · rw [if_pos c1] at h
    refine r_iconst (v := 0) (q := 27) dX10_endingAt_26 (by decide) rfl ?_
    subst h
    exact r_ret dX10_endingAt_27 rfl mm_Zi_rfl
  · rw [if_neg c1] at h
    refine r_iload_n (q := 12) dX10_endingAt_11 rfl rfl ?_
    refine r_bipush (v := 90) (q := 14) dX10_endingAt_12 (by decide) rfl ?_
    refine r_icmp_ge 26 (q := 17) dX10_endingAt_14 (by decide) rfl (fun c2 => ?_) (fun c2 => ?_)
    · rw [if_pos c2] at h
      refine r_iconst (v := 0) (q := 27) dX10_endingAt_26 (by decide) rfl ?_
      subst h
      exact r_ret dX10_endingAt_27 rfl mm_Zi_rfl
    · rw [if_neg c2] at h
      refine r_aload_n (q := 18) dX10_endingAt_17 rfl rfl ?_
      refine r_getr (b := 35) (q := 21) lk_X10_21 dX10_endingAt_18 sc_c_31 rfl rfl ?_
      refine r_iload_n (q := 22) dX10_endingAt_21 rfl rfl ?_
      refine r_iald (v := (M 35 (Int32.toNatClampNeg ((x1 * 9) + x2)))) (q := 23) dX10_endingAt_22 sc_c_35 (mm_vp2 (Int32.not_lt.mp c1) (Int32.not_le.mp c2) (by decide)) rfl rfl ?_
      refine r_goto 27 dX10_endingAt_23 (by decide) ?_
      subst h
      exact r_ret dX10_endingAt_27 rfl mm_Zi_rfl
noncomputable def X10_endsIn_j95l18 (x2 : Int32) (x3 : Int32) (x4 : Int32) (x5 : Int32) (x6 : Bool) (x7 : Int32) (x8 : Bool) (x9 : Int32) (M : mm_M) : Option (Int32 ⊕ Bool) := if x6 = true then some (.inl (x7 + 1)) else if x8 = true then some (.inr false) else if (x9 - x9 / 2 * 2) = 0 then some (.inr false) else some (.inl (x7 + 1))
set_option maxRecDepth 100000 in
set_option maxHeartbeats 400000 in
theorem t_X10_endsIn_j95l18 {D : mm_D} {d : Nat} (hd : 1 ≤ d) {Z : Option Int32 → List mm_C → mm_M → Prop} (x2 : Int32) (x3 : Int32) (x4 : Int32) (x5 : Int32) (x6 : Bool) (x7 : Int32) (x8 : Bool) (x9 : Int32) (M : mm_M) (o : Int32 ⊕ Bool) (h : X10_endsIn_j95l18 x2 x3 x4 x5 x6 x7 x8 x9 M = some o) (kb : ∀ s', o = .inl s' → mm_Go jX10_endsIn D d 0 0 18 [some (.inr 31), some (.inr 7), some (.inl x2), some (.inl x3), some (.inl x4), some (.inl x5), some (.inl (mm_b x6)), some (.inl s'), none, none] [] S_c M Z) (ke : ∀ r, o = .inr r → Z (some (mm_b r)) S_c M) : mm_Go jX10_endsIn D d 0 0 95 [some (.inr 31), some (.inr 7), some (.inl x2), some (.inl x3), some (.inl x4), some (.inl x5), some (.inl (mm_b x6)), some (.inl x7), some (.inl (mm_b x8)), some (.inl x9)] [] S_c M Z := by
  unfold X10_endsIn_j95l18 at h
  refine r_iload (q := 97) dX10_endsIn_95 rfl rfl ?_
  refine r_if_ne 114 (q := 100) dX10_endsIn_97 (by decide) rfl (fun c9 => ?_) (fun c9 => ?_)
  · rw [if_pos (mm_b1 c9)] at h
    refine r_iinc (v := 1) (q := 117) (L' := [some (.inr 31), some (.inr 7), some (.inl x2), some (.inl x3), some (.inl x4), some (.inl x5), some (.inl (mm_b x6)), some (.inl (x7 + 1)), some (.inl (mm_b x8)), some (.inl x9)]) dX10_endsIn_114 (by decide) (by decide) rfl rfl rfl ?_
    refine r_goto 18 dX10_endsIn_117 (by decide) ?_
    refine r_forget (L' := [some (.inr 31), some (.inr 7), some (.inl x2), some (.inl x3), some (.inl x4), some (.inl x5), some (.inl (mm_b x6)), some (.inl (x7 + 1)), none, none]) [true, true, true, true, true, true, true, true, false, false] rfl ?_
    cases h
    have hk := kb _ rfl
    exact hk
  · rw [if_neg (mm_b0 c9)] at h
    refine r_iload (q := 102) dX10_endsIn_100 rfl rfl ?_
    refine r_if_ne 112 (q := 105) dX10_endsIn_102 (by decide) rfl (fun c10 => ?_) (fun c10 => ?_)
    · rw [if_pos (mm_b1 c10)] at h
      refine r_iconst (v := 0) (q := 113) dX10_endsIn_112 (by decide) rfl ?_
      cases h
      have hk := ke _ rfl
      exact r_retb dX10_endsIn_113 rfl (Or.inl rfl) hk
    · rw [if_neg (mm_b0 c10)] at h
      refine r_iload (q := 107) dX10_endsIn_105 rfl rfl ?_
      refine r_iconst (v := 2) (q := 108) dX10_endsIn_107 (by decide) rfl ?_
      refine r_irem (q := 109) dX10_endsIn_108 (by decide) rfl ?_
      refine r_if_ne 114 (q := 112) dX10_endsIn_109 (by decide) rfl (fun c11 => ?_) (fun c11 => ?_)
      · rw [if_neg c11] at h
        refine r_iinc (v := 1) (q := 117) (L' := [some (.inr 31), some (.inr 7), some (.inl x2), some (.inl x3), some (.inl x4), some (.inl x5), some (.inl (mm_b x6)), some (.inl (x7 + 1)), some (.inl (mm_b x8)), some (.inl x9)]) dX10_endsIn_114 (by decide) (by decide) rfl rfl rfl ?_
        refine r_goto 18 dX10_endsIn_117 (by decide) ?_
        refine r_forget (L' := [some (.inr 31), some (.inr 7), some (.inl x2), some (.inl x3), some (.inl x4), some (.inl x5), some (.inl (mm_b x6)), some (.inl (x7 + 1)), none, none]) [true, true, true, true, true, true, true, true, false, false] rfl ?_
        cases h
        have hk := kb _ rfl
        exact hk
      · rw [if_pos c11] at h
        refine r_iconst (v := 0) (q := 113) dX10_endsIn_112 (by decide) rfl ?_
        cases h
        have hk := ke _ rfl
        exact r_retb dX10_endsIn_113 rfl (Or.inl rfl) hk
noncomputable def X10_endsIn_j48l18 (x2 : Int32) (x3 : Int32) (x4 : Int32) (x5 : Int32) (x6 : Bool) (x7 : Int32) (z0 : Bool) (M : mm_M) : Option (Int32 ⊕ Bool) := if x6 = true then if x5 = 1 then if z0 = true then some (.inr true) else X10_endsIn_j95l18 x2 x3 x4 x5 x6 x7 z0 (X10_endingAt (X8_behind x7 x2 M) x7 M) M else if (X10_endingAt (X8_behind x7 x2 M) x7 M) = (x5 - 1) then some (.inr true) else X10_endsIn_j95l18 x2 x3 x4 x5 x6 x7 z0 (X10_endingAt (X8_behind x7 x2 M) x7 M) M else X10_endsIn_j95l18 x2 x3 x4 x5 x6 x7 z0 (X10_endingAt (X8_behind x7 x2 M) x7 M) M
set_option maxRecDepth 100000 in
set_option maxHeartbeats 400000 in
theorem t_X10_endsIn_j48l18 {D : mm_D} {d : Nat} (hd : 1 ≤ d) {Z : Option Int32 → List mm_C → mm_M → Prop} (x2 : Int32) (x3 : Int32) (x4 : Int32) (x5 : Int32) (x6 : Bool) (x7 : Int32) (z0 : Bool) (M : mm_M) (o : Int32 ⊕ Bool) (h : X10_endsIn_j48l18 x2 x3 x4 x5 x6 x7 z0 M = some o) (kb : ∀ s', o = .inl s' → mm_Go jX10_endsIn D d 0 0 18 [some (.inr 31), some (.inr 7), some (.inl x2), some (.inl x3), some (.inl x4), some (.inl x5), some (.inl (mm_b x6)), some (.inl s'), none, none] [] S_c M Z) (ke : ∀ r, o = .inr r → Z (some (mm_b r)) S_c M) : mm_Go jX10_endsIn D d 0 0 48 [some (.inr 31), some (.inr 7), some (.inl x2), some (.inl x3), some (.inl x4), some (.inl x5), some (.inl (mm_b x6)), some (.inl x7), none, none] [(.inl (mm_b z0))] S_c M Z := by
  unfold X10_endsIn_j48l18 at h
  refine r_istore (q := 50) (L' := [some (.inr 31), some (.inr 7), some (.inl x2), some (.inl x3), some (.inl x4), some (.inl x5), some (.inl (mm_b x6)), some (.inl x7), some (.inl (mm_b z0)), none]) dX10_endsIn_48 (by decide) rfl rfl ?_
  refine r_aload_n (q := 51) dX10_endsIn_50 rfl rfl ?_
  refine r_aload_n (q := 52) dX10_endsIn_51 rfl rfl ?_
  refine r_iload (q := 54) dX10_endsIn_52 rfl rfl ?_
  refine r_iload_n (q := 55) dX10_endsIn_54 rfl rfl ?_
  refine r_callV_i (av := [(.inl x7), (.inl x2)]) (st := [(.inr 31)]) (q := 58) (d1 := 0) kc_X10_37 sc_c_7 dX10_endsIn_55 rfl rfl (Nat.le_of_ble_eq_true rfl) (Nat.le_of_ble_eq_true rfl) (by omega) rfl rfl (t_X8_behind (d := 0) (by omega) x7 x2 M _ rfl) ?_
  refine r_iload (q := 60) dX10_endsIn_58 rfl rfl ?_
  refine r_callV_i (av := [(.inl (X8_behind x7 x2 M)), (.inl x7)]) (st := []) (q := 63) (d1 := 0) kc_X10_71 sc_c_31 dX10_endsIn_60 rfl rfl (Nat.le_of_ble_eq_true rfl) (Nat.le_of_ble_eq_true rfl) (by omega) rfl rfl (t_X10_endingAt (d := 0) (by omega) (X8_behind x7 x2 M) x7 M _ rfl) ?_
  refine r_istore (q := 65) (L' := [some (.inr 31), some (.inr 7), some (.inl x2), some (.inl x3), some (.inl x4), some (.inl x5), some (.inl (mm_b x6)), some (.inl x7), some (.inl (mm_b z0)), some (.inl (X10_endingAt (X8_behind x7 x2 M) x7 M))]) dX10_endsIn_63 (by decide) rfl rfl ?_
  refine r_iload (q := 67) dX10_endsIn_65 rfl rfl ?_
  refine r_if_eq 95 (q := 70) dX10_endsIn_67 (by decide) rfl (fun c6 => ?_) (fun c6 => ?_)
  · rw [if_neg (mm_b0 c6)] at h
    exact t_X10_endsIn_j95l18 hd x2 x3 x4 x5 x6 x7 z0 (X10_endingAt (X8_behind x7 x2 M) x7 M) M _ h kb ke
  · rw [if_pos (mm_b1 c6)] at h
    refine r_iload (q := 72) dX10_endsIn_70 rfl rfl ?_
    refine r_iconst (v := 1) (q := 73) dX10_endsIn_72 (by decide) rfl ?_
    refine r_icmp_ne 84 (q := 76) dX10_endsIn_73 (by decide) rfl (fun c7 => ?_) (fun c7 => ?_)
    · rw [if_neg c7] at h
      refine r_iload (q := 86) dX10_endsIn_84 rfl rfl ?_
      refine r_iload (q := 88) dX10_endsIn_86 rfl rfl ?_
      refine r_iconst (v := 1) (q := 89) dX10_endsIn_88 (by decide) rfl ?_
      refine r_isub (q := 90) dX10_endsIn_89 rfl ?_
      refine r_icmp_ne 95 (q := 93) dX10_endsIn_90 (by decide) rfl (fun c12 => ?_) (fun c12 => ?_)
      · rw [if_neg c12] at h
        exact t_X10_endsIn_j95l18 hd x2 x3 x4 x5 x6 x7 z0 (X10_endingAt (X8_behind x7 x2 M) x7 M) M _ h kb ke
      · rw [if_pos c12] at h
        refine r_iconst (v := 1) (q := 94) dX10_endsIn_93 (by decide) rfl ?_
        cases h
        have hk := ke _ rfl
        exact r_retb dX10_endsIn_94 rfl (Or.inr rfl) hk
    · rw [if_pos c7] at h
      refine r_iload (q := 78) dX10_endsIn_76 rfl rfl ?_
      refine r_if_eq 95 (q := 81) dX10_endsIn_78 (by decide) rfl (fun c8 => ?_) (fun c8 => ?_)
      · rw [if_neg (mm_b0 c8)] at h
        exact t_X10_endsIn_j95l18 hd x2 x3 x4 x5 x6 x7 z0 (X10_endingAt (X8_behind x7 x2 M) x7 M) M _ h kb ke
      · rw [if_pos (mm_b1 c8)] at h
        refine r_goto 93 dX10_endsIn_81 (by decide) ?_
        refine r_iconst (v := 1) (q := 94) dX10_endsIn_93 (by decide) rfl ?_
        cases h
        have hk := ke _ rfl
        exact r_retb dX10_endsIn_94 rfl (Or.inr rfl) hk
noncomputable def X10_endsIn_l18 (x2 : Int32) (x3 : Int32) (x4 : Int32) (x5 : Int32) (x6 : Bool) (M : mm_M) (s : Int32) : Option (Int32 ⊕ Bool) := if 8 ≤ s then if x6 = true then some (.inr false) else some (.inr true) else if s = x3 then some (.inl (s + 1)) else if (X8_answer s x2 M) = x4 then X10_endsIn_j48l18 x2 x3 x4 x5 x6 s true M else X10_endsIn_j48l18 x2 x3 x4 x5 x6 s false M
set_option maxRecDepth 100000 in
set_option maxHeartbeats 400000 in
theorem t_X10_endsIn_l18 {D : mm_D} {d : Nat} (hd : 1 ≤ d) {Z : Option Int32 → List mm_C → mm_M → Prop} (x2 : Int32) (x3 : Int32) (x4 : Int32) (x5 : Int32) (x6 : Bool) (M : mm_M) (n : Nat) (s : Int32) (r : Bool) (h : mm_loop (X10_endsIn_l18 x2 x3 x4 x5 x6 M) n s = some r) (hx : Z (some (mm_b r)) S_c M) : mm_Go jX10_endsIn D d 0 0 18 [some (.inr 31), some (.inr 7), some (.inl x2), some (.inl x3), some (.inl x4), some (.inl x5), some (.inl (mm_b x6)), some (.inl s), none, none] [] S_c M Z := by
  refine mm_loop_go (step := X10_endsIn_l18 x2 x3 x4 x5 x6 M) (Hd := fun (s : Int32) => mm_Go jX10_endsIn D d 0 0 18 [some (.inr 31), some (.inr 7), some (.inl x2), some (.inl x3), some (.inl x4), some (.inl x5), some (.inl (mm_b x6)), some (.inl s), none, none] [] S_c M Z) (Ex := fun (r : Bool) => Z (some (mm_b r)) S_c M) ?_ n s r h hx
  intro s o h kb ke
  show mm_Go jX10_endsIn D d 0 0 18 [some (.inr 31), some (.inr 7), some (.inl x2), some (.inl x3), some (.inl x4), some (.inl x5), some (.inl (mm_b x6)), some (.inl s), none, none] [] S_c M Z
  unfold X10_endsIn_l18 at h
  refine r_iload (q := 20) dX10_endsIn_18 rfl rfl ?_
  refine r_bipush (v := 8) (q := 22) dX10_endsIn_20 (by decide) rfl ?_
  refine r_icmp_ge 120 (q := 25) dX10_endsIn_22 (by decide) rfl (fun c2 => ?_) (fun c2 => ?_)
  · rw [if_pos c2] at h
    refine r_iload (q := 122) dX10_endsIn_120 rfl rfl ?_
    refine r_if_ne 129 (q := 125) dX10_endsIn_122 (by decide) rfl (fun c3 => ?_) (fun c3 => ?_)
    · rw [if_pos (mm_b1 c3)] at h
      refine r_iconst (v := 0) (q := 130) dX10_endsIn_129 (by decide) rfl ?_
      cases h
      have hk := ke _ rfl
      exact r_retb dX10_endsIn_130 rfl (Or.inl rfl) hk
    · rw [if_neg (mm_b0 c3)] at h
      refine r_iconst (v := 1) (q := 126) dX10_endsIn_125 (by decide) rfl ?_
      refine r_goto 130 dX10_endsIn_126 (by decide) ?_
      cases h
      have hk := ke _ rfl
      exact r_retb dX10_endsIn_130 rfl (Or.inr rfl) hk
  · rw [if_neg c2] at h
    refine r_iload (q := 27) dX10_endsIn_25 rfl rfl ?_
    refine r_iload_n (q := 28) dX10_endsIn_27 rfl rfl ?_
    refine r_icmp_eq 114 (q := 31) dX10_endsIn_28 (by decide) rfl (fun c4 => ?_) (fun c4 => ?_)
    · rw [if_pos c4] at h
      refine r_iinc (v := 1) (q := 117) (L' := [some (.inr 31), some (.inr 7), some (.inl x2), some (.inl x3), some (.inl x4), some (.inl x5), some (.inl (mm_b x6)), some (.inl (s + 1)), none, none]) dX10_endsIn_114 (by decide) (by decide) rfl rfl rfl ?_
      refine r_goto 18 dX10_endsIn_117 (by decide) ?_
      cases h
      have hk := kb _ rfl
      exact hk
    · rw [if_neg c4] at h
      refine r_aload_n (q := 32) dX10_endsIn_31 rfl rfl ?_
      refine r_iload (q := 34) dX10_endsIn_32 rfl rfl ?_
      refine r_iload_n (q := 35) dX10_endsIn_34 rfl rfl ?_
      refine r_callV_i (av := [(.inl s), (.inl x2)]) (st := []) (q := 38) (d1 := 0) kc_X10_57 sc_c_7 dX10_endsIn_35 rfl rfl (Nat.le_of_ble_eq_true rfl) (Nat.le_of_ble_eq_true rfl) (by omega) rfl rfl (t_X8_answer (d := 0) (by omega) s x2 M _ rfl) ?_
      refine r_iload (q := 40) dX10_endsIn_38 rfl rfl ?_
      refine r_icmp_ne 47 (q := 43) dX10_endsIn_40 (by decide) rfl (fun c5 => ?_) (fun c5 => ?_)
      · rw [if_neg c5] at h
        refine r_iconst (v := 0) (q := 48) dX10_endsIn_47 (by decide) rfl ?_
        exact t_X10_endsIn_j48l18 hd x2 x3 x4 x5 x6 s false M _ h kb ke
      · rw [if_pos c5] at h
        refine r_iconst (v := 1) (q := 44) dX10_endsIn_43 (by decide) rfl ?_
        refine r_goto 48 dX10_endsIn_44 (by decide) ?_
        exact t_X10_endsIn_j48l18 hd x2 x3 x4 x5 x6 s true M _ h kb ke
noncomputable def X10_endsIn_j13 (x2 : Int32) (x3 : Int32) (x4 : Int32) (x5 : Int32) (z0 : Bool) (M : mm_M) : Option Bool := (mm_loop (X10_endsIn_l18 x2 x3 x4 x5 z0 M) mm_fuel 0)
set_option maxRecDepth 100000 in
set_option maxHeartbeats 400000 in
theorem t_X10_endsIn_j13 {D : mm_D} {d : Nat} (hd : 1 ≤ d) (x2 : Int32) (x3 : Int32) (x4 : Int32) (x5 : Int32) (z0 : Bool) (M : mm_M) (res : Bool) (h : X10_endsIn_j13 x2 x3 x4 x5 z0 M = some res) : mm_Go jX10_endsIn D d 0 0 13 [some (.inr 31), some (.inr 7), some (.inl x2), some (.inl x3), some (.inl x4), some (.inl x5), none, none, none, none] [(.inl (mm_b z0))] S_c M (mm_Zi (mm_b res) S_c M) := by
  unfold X10_endsIn_j13 at h
  refine r_istore (q := 15) (L' := [some (.inr 31), some (.inr 7), some (.inl x2), some (.inl x3), some (.inl x4), some (.inl x5), some (.inl (mm_b z0)), none, none, none]) dX10_endsIn_13 (by decide) rfl rfl ?_
  refine r_iconst (v := 0) (q := 16) dX10_endsIn_15 (by decide) rfl ?_
  refine r_istore (q := 18) (L' := [some (.inr 31), some (.inr 7), some (.inl x2), some (.inl x3), some (.inl x4), some (.inl x5), some (.inl (mm_b z0)), some (.inl 0), none, none]) dX10_endsIn_16 (by decide) rfl rfl ?_
  exact t_X10_endsIn_l18 hd x2 x3 x4 x5 z0 M mm_fuel 0 _ h mm_Zi_rfl
noncomputable def X10_endsIn (x2 : Int32) (x3 : Int32) (x4 : Int32) (x5 : Int32) (M : mm_M) : Option Bool := if (x5 - x5 / 2 * 2) = 1 then X10_endsIn_j13 x2 x3 x4 x5 true M else X10_endsIn_j13 x2 x3 x4 x5 false M
set_option maxRecDepth 100000 in
set_option maxHeartbeats 400000 in
theorem t_X10_endsIn {d : Nat} (hd : 1 ≤ d) (x2 : Int32) (x3 : Int32) (x4 : Int32) (x5 : Int32) (M : mm_M) (res : Bool) (h : X10_endsIn x2 x3 x4 x5 M = some res) : mm_Meth jX10_endsIn d 0 0 [(.inr 31), (.inr 7), (.inl x2), (.inl x3), (.inl x4), (.inl x5)] S_c M (mm_Zi (mm_b res) S_c M) := by
  refine r_meth (L := [some (.inr 31), some (.inr 7), some (.inl x2), some (.inl x3), some (.inl x4), some (.inl x5), none, none, none, none]) rfl (fun D => ?_)
  unfold X10_endsIn at h
  refine r_iload (q := 2) dX10_endsIn_0 rfl rfl ?_
  refine r_iconst (v := 2) (q := 3) dX10_endsIn_2 (by decide) rfl ?_
  refine r_irem (q := 4) dX10_endsIn_3 (by decide) rfl ?_
  refine r_iconst (v := 1) (q := 5) dX10_endsIn_4 (by decide) rfl ?_
  refine r_icmp_ne 12 (q := 8) dX10_endsIn_5 (by decide) rfl (fun c1 => ?_) (fun c1 => ?_)
  · rw [if_neg c1] at h
    refine r_iconst (v := 0) (q := 13) dX10_endsIn_12 (by decide) rfl ?_
    exact t_X10_endsIn_j13 hd x2 x3 x4 x5 false M _ h
  · rw [if_pos c1] at h
    refine r_iconst (v := 1) (q := 9) dX10_endsIn_8 (by decide) rfl ?_
    refine r_goto 13 dX10_endsIn_9 (by decide) ?_
    exact t_X10_endsIn_j13 hd x2 x3 x4 x5 true M _ h
noncomputable def X10_play_j77l32 (x2 : Int32) (x3 : Int32) (x4 : Bool) (x5 : Int32) (x6 : Int32) (x7 : Int32) (x8 : Int32) (z0 : Bool) (M : mm_M) : Option ((Bool × Int32 × mm_M) ⊕ (Bool × mm_M)) := if z0 = true then (X10_endsIn x7 x8 x3 x5 M).bind fun y9 => if y9 = true then if mm_in x6 90 = true then some (.inl (true, (x6 + 1), (mm_U M 35 (Int32.toNatClampNeg x6) x5))) else none else some (.inl (x4, (x6 + 1), M)) else some (.inl (x4, (x6 + 1), M))
set_option maxRecDepth 100000 in
set_option maxHeartbeats 400000 in
theorem t_X10_play_j77l32 {D : mm_D} {d : Nat} (hd : 2 ≤ d) {Z : Option Int32 → List mm_C → mm_M → Prop} (x2 : Int32) (x3 : Int32) (x4 : Bool) (x5 : Int32) (x6 : Int32) (x7 : Int32) (x8 : Int32) (z0 : Bool) (M : mm_M) (o : (Bool × Int32 × mm_M) ⊕ (Bool × mm_M)) (h : X10_play_j77l32 x2 x3 x4 x5 x6 x7 x8 z0 M = some o) (kb : ∀ s', o = .inl s' → mm_Go jX10_play D d 0 0 32 [some (.inr 31), some (.inr 7), some (.inl x2), some (.inl x3), some (.inl (mm_b s'.1)), some (.inl x5), some (.inl s'.2.1), none, none, none] [] S_c s'.2.2 Z) (ke : ∀ r, o = .inr r → mm_Go jX10_play D d 0 0 117 [some (.inr 31), some (.inr 7), some (.inl x2), some (.inl x3), some (.inl (mm_b r.1)), some (.inl x5), none, none, none, none] [] S_c r.2 Z) : mm_Go jX10_play D d 0 0 77 [some (.inr 31), some (.inr 7), some (.inl x2), some (.inl x3), some (.inl (mm_b x4)), some (.inl x5), some (.inl x6), some (.inl x7), some (.inl x8), none] [(.inl (mm_b z0))] S_c M Z := by
  unfold X10_play_j77l32 at h
  refine r_istore (q := 79) (L' := [some (.inr 31), some (.inr 7), some (.inl x2), some (.inl x3), some (.inl (mm_b x4)), some (.inl x5), some (.inl x6), some (.inl x7), some (.inl x8), some (.inl (mm_b z0))]) dX10_play_77 (by decide) rfl rfl ?_
  refine r_iload (q := 81) dX10_play_79 rfl rfl ?_
  refine r_if_eq 111 (q := 84) dX10_play_81 (by decide) rfl (fun c7 => ?_) (fun c7 => ?_)
  · rw [if_neg (mm_b0 c7)] at h
    refine r_iinc (v := 1) (q := 114) (L' := [some (.inr 31), some (.inr 7), some (.inl x2), some (.inl x3), some (.inl (mm_b x4)), some (.inl x5), some (.inl (x6 + 1)), some (.inl x7), some (.inl x8), some (.inl (mm_b z0))]) dX10_play_111 (by decide) (by decide) rfl rfl rfl ?_
    refine r_goto 32 dX10_play_114 (by decide) ?_
    refine r_forget (L' := [some (.inr 31), some (.inr 7), some (.inl x2), some (.inl x3), some (.inl (mm_b x4)), some (.inl x5), some (.inl (x6 + 1)), none, none, none]) [true, true, true, true, true, true, true, false, false, false] rfl ?_
    cases h
    have hk := kb _ rfl
    exact hk
  · rw [if_pos (mm_b1 c7)] at h
    refine r_aload_n (q := 85) dX10_play_84 rfl rfl ?_
    refine r_aload_n (q := 86) dX10_play_85 rfl rfl ?_
    refine r_iload (q := 88) dX10_play_86 rfl rfl ?_
    refine r_iload (q := 90) dX10_play_88 rfl rfl ?_
    refine r_iload_n (q := 91) dX10_play_90 rfl rfl ?_
    refine r_iload (q := 93) dX10_play_91 rfl rfl ?_
    obtain ⟨y9, e8, h⟩ := Option.bind_eq_some_iff.mp h
    refine r_callV_i (av := [(.inr 7), (.inl x7), (.inl x8), (.inl x3), (.inl x5)]) (st := []) (q := 96) (d1 := 1) kc_X10_67 sc_c_31 dX10_play_93 rfl rfl (Nat.le_of_ble_eq_true rfl) (Nat.le_of_ble_eq_true rfl) (by omega) rfl rfl (t_X10_endsIn (d := 1) (by omega) x7 x8 x3 x5 M _ e8) ?_
    refine r_if_eq 111 (q := 99) dX10_play_96 (by decide) rfl (fun c10 => ?_) (fun c10 => ?_)
    · rw [if_neg (mm_b0 c10)] at h
      refine r_iinc (v := 1) (q := 114) (L' := [some (.inr 31), some (.inr 7), some (.inl x2), some (.inl x3), some (.inl (mm_b x4)), some (.inl x5), some (.inl (x6 + 1)), some (.inl x7), some (.inl x8), some (.inl (mm_b z0))]) dX10_play_111 (by decide) (by decide) rfl rfl rfl ?_
      refine r_goto 32 dX10_play_114 (by decide) ?_
      refine r_forget (L' := [some (.inr 31), some (.inr 7), some (.inl x2), some (.inl x3), some (.inl (mm_b x4)), some (.inl x5), some (.inl (x6 + 1)), none, none, none]) [true, true, true, true, true, true, true, false, false, false] rfl ?_
      cases h
      have hk := kb _ rfl
      exact hk
    · rw [if_pos (mm_b1 c10)] at h
      refine r_aload_n (q := 100) dX10_play_99 rfl rfl ?_
      refine r_getr (b := 35) (q := 103) lk_X10_21 dX10_play_100 sc_c_31 rfl rfl ?_
      refine r_iload (q := 105) dX10_play_103 rfl rfl ?_
      refine r_iload (q := 107) dX10_play_105 rfl rfl ?_
      obtain ⟨g11, h⟩ := mm_guard h
      refine r_iast (j := (Int32.toNatClampNeg x6)) (q := 108) dX10_play_107 sc_c_35 (mm_vp g11) rfl rfl ?_
      refine r_iconst (v := 1) (q := 109) dX10_play_108 (by decide) rfl ?_
      refine r_istore (q := 111) (L' := [some (.inr 31), some (.inr 7), some (.inl x2), some (.inl x3), some (.inl 1), some (.inl x5), some (.inl x6), some (.inl x7), some (.inl x8), some (.inl (mm_b z0))]) dX10_play_109 (by decide) rfl rfl ?_
      refine r_iinc (v := 1) (q := 114) (L' := [some (.inr 31), some (.inr 7), some (.inl x2), some (.inl x3), some (.inl 1), some (.inl x5), some (.inl (x6 + 1)), some (.inl x7), some (.inl x8), some (.inl (mm_b z0))]) dX10_play_111 (by decide) (by decide) rfl rfl rfl ?_
      refine r_goto 32 dX10_play_114 (by decide) ?_
      refine r_forget (L' := [some (.inr 31), some (.inr 7), some (.inl x2), some (.inl x3), some (.inl 1), some (.inl x5), some (.inl (x6 + 1)), none, none, none]) [true, true, true, true, true, true, true, false, false, false] rfl ?_
      cases h
      have hk := kb _ rfl
      exact hk
noncomputable def X10_play_j76l32 (x2 : Int32) (x3 : Int32) (x4 : Bool) (x5 : Int32) (x6 : Int32) (x7 : Int32) (x8 : Int32) (M : mm_M) : Option ((Bool × Int32 × mm_M) ⊕ (Bool × mm_M)) := X10_play_j77l32 x2 x3 x4 x5 x6 x7 x8 false M
set_option maxRecDepth 100000 in
set_option maxHeartbeats 400000 in
theorem t_X10_play_j76l32 {D : mm_D} {d : Nat} (hd : 2 ≤ d) {Z : Option Int32 → List mm_C → mm_M → Prop} (x2 : Int32) (x3 : Int32) (x4 : Bool) (x5 : Int32) (x6 : Int32) (x7 : Int32) (x8 : Int32) (M : mm_M) (o : (Bool × Int32 × mm_M) ⊕ (Bool × mm_M)) (h : X10_play_j76l32 x2 x3 x4 x5 x6 x7 x8 M = some o) (kb : ∀ s', o = .inl s' → mm_Go jX10_play D d 0 0 32 [some (.inr 31), some (.inr 7), some (.inl x2), some (.inl x3), some (.inl (mm_b s'.1)), some (.inl x5), some (.inl s'.2.1), none, none, none] [] S_c s'.2.2 Z) (ke : ∀ r, o = .inr r → mm_Go jX10_play D d 0 0 117 [some (.inr 31), some (.inr 7), some (.inl x2), some (.inl x3), some (.inl (mm_b r.1)), some (.inl x5), none, none, none, none] [] S_c r.2 Z) : mm_Go jX10_play D d 0 0 76 [some (.inr 31), some (.inr 7), some (.inl x2), some (.inl x3), some (.inl (mm_b x4)), some (.inl x5), some (.inl x6), some (.inl x7), some (.inl x8), none] [] S_c M Z := by
  unfold X10_play_j76l32 at h
  refine r_iconst (v := 0) (q := 77) dX10_play_76 (by decide) rfl ?_
  exact t_X10_play_j77l32 hd x2 x3 x4 x5 x6 x7 x8 false M _ h kb ke
noncomputable def X10_play_l32 (x2 : Int32) (x3 : Int32) (x5 : Int32) (s : (Bool × Int32 × mm_M)) : Option ((Bool × Int32 × mm_M) ⊕ (Bool × mm_M)) := if 90 ≤ s.2.1 then some (.inr (s.1, s.2.2)) else if (s.2.2 7 0) ≤ (s.2.1 / 9) then X10_play_j76l32 x2 x3 s.1 x5 s.2.1 (s.2.1 / 9) (s.2.1 - s.2.1 / 9 * 9) s.2.2 else if mm_in s.2.1 90 = true then if (s.2.2 35 (Int32.toNatClampNeg s.2.1)) = 0 then X10_play_j77l32 x2 x3 s.1 x5 s.2.1 (s.2.1 / 9) (s.2.1 - s.2.1 / 9 * 9) true s.2.2 else X10_play_j76l32 x2 x3 s.1 x5 s.2.1 (s.2.1 / 9) (s.2.1 - s.2.1 / 9 * 9) s.2.2 else none
set_option maxRecDepth 100000 in
set_option maxHeartbeats 400000 in
theorem t_X10_play_l32 {D : mm_D} {d : Nat} (hd : 2 ≤ d) {Z : Option Int32 → List mm_C → mm_M → Prop} (x2 : Int32) (x3 : Int32) (x5 : Int32) (n : Nat) (s : (Bool × Int32 × mm_M)) (r : (Bool × mm_M)) (h : mm_loop (X10_play_l32 x2 x3 x5) n s = some r) (hx : mm_Go jX10_play D d 0 0 117 [some (.inr 31), some (.inr 7), some (.inl x2), some (.inl x3), some (.inl (mm_b r.1)), some (.inl x5), none, none, none, none] [] S_c r.2 Z) : mm_Go jX10_play D d 0 0 32 [some (.inr 31), some (.inr 7), some (.inl x2), some (.inl x3), some (.inl (mm_b s.1)), some (.inl x5), some (.inl s.2.1), none, none, none] [] S_c s.2.2 Z := by
  refine mm_loop_go (step := X10_play_l32 x2 x3 x5) (Hd := fun (s : (Bool × Int32 × mm_M)) => mm_Go jX10_play D d 0 0 32 [some (.inr 31), some (.inr 7), some (.inl x2), some (.inl x3), some (.inl (mm_b s.1)), some (.inl x5), some (.inl s.2.1), none, none, none] [] S_c s.2.2 Z) (Ex := fun (r : (Bool × mm_M)) => mm_Go jX10_play D d 0 0 117 [some (.inr 31), some (.inr 7), some (.inl x2), some (.inl x3), some (.inl (mm_b r.1)), some (.inl x5), none, none, none, none] [] S_c r.2 Z) ?_ n s r h hx
  intro s o h kb ke
  show mm_Go jX10_play D d 0 0 32 [some (.inr 31), some (.inr 7), some (.inl x2), some (.inl x3), some (.inl (mm_b s.1)), some (.inl x5), some (.inl s.2.1), none, none, none] [] S_c s.2.2 Z
  unfold X10_play_l32 at h
  refine r_iload (q := 34) dX10_play_32 rfl rfl ?_
  refine r_bipush (v := 90) (q := 36) dX10_play_34 (by decide) rfl ?_
  refine r_icmp_ge 117 (q := 39) dX10_play_36 (by decide) rfl (fun c5 => ?_) (fun c5 => ?_)
  · rw [if_pos c5] at h
    refine r_forget (L' := [some (.inr 31), some (.inr 7), some (.inl x2), some (.inl x3), some (.inl (mm_b s.1)), some (.inl x5), none, none, none, none]) [true, true, true, true, true, true, false, false, false, false] rfl ?_
    cases h
    have hk := ke _ rfl
    exact hk
  · rw [if_neg c5] at h
    refine r_iload (q := 41) dX10_play_39 rfl rfl ?_
    refine r_bipush (v := 9) (q := 43) dX10_play_41 (by decide) rfl ?_
    refine r_idiv (q := 44) dX10_play_43 (by decide) rfl ?_
    refine r_istore (q := 46) (L' := [some (.inr 31), some (.inr 7), some (.inl x2), some (.inl x3), some (.inl (mm_b s.1)), some (.inl x5), some (.inl s.2.1), some (.inl (s.2.1 / 9)), none, none]) dX10_play_44 (by decide) rfl rfl ?_
    refine r_iload (q := 48) dX10_play_46 rfl rfl ?_
    refine r_bipush (v := 9) (q := 50) dX10_play_48 (by decide) rfl ?_
    refine r_irem (q := 51) dX10_play_50 (by decide) rfl ?_
    refine r_istore (q := 53) (L' := [some (.inr 31), some (.inr 7), some (.inl x2), some (.inl x3), some (.inl (mm_b s.1)), some (.inl x5), some (.inl s.2.1), some (.inl (s.2.1 / 9)), some (.inl (s.2.1 - s.2.1 / 9 * 9)), none]) dX10_play_51 (by decide) rfl rfl ?_
    refine r_iload (q := 55) dX10_play_53 rfl rfl ?_
    refine r_aload_n (q := 56) dX10_play_55 rfl rfl ?_
    refine r_geti (v := (s.2.2 7 0)) (q := 59) lk_X10_49 dX10_play_56 sc_c_7 rfl rfl rfl ?_
    refine r_icmp_ge 76 (q := 62) dX10_play_59 (by decide) rfl (fun c6 => ?_) (fun c6 => ?_)
    · rw [if_pos c6] at h
      exact t_X10_play_j76l32 hd x2 x3 s.1 x5 s.2.1 (s.2.1 / 9) (s.2.1 - s.2.1 / 9 * 9) s.2.2 _ h kb ke
    · rw [if_neg c6] at h
      refine r_aload_n (q := 63) dX10_play_62 rfl rfl ?_
      refine r_getr (b := 35) (q := 66) lk_X10_21 dX10_play_63 sc_c_31 rfl rfl ?_
      refine r_iload (q := 68) dX10_play_66 rfl rfl ?_
      obtain ⟨g12, h⟩ := mm_guard h
      refine r_iald (v := (s.2.2 35 (Int32.toNatClampNeg s.2.1))) (q := 69) dX10_play_68 sc_c_35 (mm_vp g12) rfl rfl ?_
      refine r_if_ne 76 (q := 72) dX10_play_69 (by decide) rfl (fun c13 => ?_) (fun c13 => ?_)
      · rw [if_neg c13] at h
        exact t_X10_play_j76l32 hd x2 x3 s.1 x5 s.2.1 (s.2.1 / 9) (s.2.1 - s.2.1 / 9 * 9) s.2.2 _ h kb ke
      · rw [if_pos c13] at h
        refine r_iconst (v := 1) (q := 73) dX10_play_72 (by decide) rfl ?_
        refine r_goto 77 dX10_play_73 (by decide) ?_
        exact t_X10_play_j77l32 hd x2 x3 s.1 x5 s.2.1 (s.2.1 / 9) (s.2.1 - s.2.1 / 9 * 9) true s.2.2 _ h kb ke
noncomputable def X10_play_j123l14 (x2 : Int32) (M : mm_M) : Option ((Bool × Int32 × mm_M) ⊕ (Int32 × mm_M)) := some (.inr ((X10_endingAt x2 8 M), M))
set_option maxRecDepth 100000 in
set_option maxHeartbeats 400000 in
theorem t_X10_play_j123l14 {D : mm_D} {d : Nat} (hd : 2 ≤ d) {Z : Option Int32 → List mm_C → mm_M → Prop} {x3 : Int32} (x2 : Int32) (M : mm_M) (o : (Bool × Int32 × mm_M) ⊕ (Int32 × mm_M)) (h : X10_play_j123l14 x2 M = some o) (kb : ∀ s', o = .inl s' → mm_Go jX10_play D d 0 0 14 [some (.inr 31), some (.inr 7), some (.inl x2), some (.inl x3), some (.inl (mm_b s'.1)), some (.inl s'.2.1), none, none, none, none] [] S_c s'.2.2 Z) (ke : ∀ r, o = .inr r → Z (some r.1) S_c r.2) : mm_Go jX10_play D d 0 0 123 [some (.inr 31), none, some (.inl x2), none, none, none, none, none, none, none] [] S_c M Z := by
  unfold X10_play_j123l14 at h
  refine r_aload_n (q := 124) dX10_play_123 rfl rfl ?_
  refine r_iload_n (q := 125) dX10_play_124 rfl rfl ?_
  refine r_bipush (v := 8) (q := 127) dX10_play_125 (by decide) rfl ?_
  refine r_callV_i (av := [(.inl x2), (.inl 8)]) (st := []) (q := 130) (d1 := 0) kc_X10_71 sc_c_31 dX10_play_127 rfl rfl (Nat.le_of_ble_eq_true rfl) (Nat.le_of_ble_eq_true rfl) (by omega) rfl rfl (t_X10_endingAt (d := 0) (by omega) x2 8 M _ rfl) ?_
  cases h
  have hk := ke _ rfl
  exact r_ret dX10_play_130 rfl hk
noncomputable def X10_play_l14 (x2 : Int32) (x3 : Int32) (s : (Bool × Int32 × mm_M)) : Option ((Bool × Int32 × mm_M) ⊕ (Int32 × mm_M)) := if 90 < s.2.1 then X10_play_j123l14 x2 s.2.2 else if s.1 = true then (mm_loop (X10_play_l32 x2 x3 s.2.1) mm_fuel (false, 0, s.2.2)).bind fun y14 => some (.inl (y14.1, (s.2.1 + 1), y14.2)) else X10_play_j123l14 x2 s.2.2
set_option maxRecDepth 100000 in
set_option maxHeartbeats 400000 in
theorem t_X10_play_l14 {D : mm_D} {d : Nat} (hd : 2 ≤ d) {Z : Option Int32 → List mm_C → mm_M → Prop} (x2 : Int32) (x3 : Int32) (n : Nat) (s : (Bool × Int32 × mm_M)) (r : (Int32 × mm_M)) (h : mm_loop (X10_play_l14 x2 x3) n s = some r) (hx : Z (some r.1) S_c r.2) : mm_Go jX10_play D d 0 0 14 [some (.inr 31), some (.inr 7), some (.inl x2), some (.inl x3), some (.inl (mm_b s.1)), some (.inl s.2.1), none, none, none, none] [] S_c s.2.2 Z := by
  refine mm_loop_go (step := X10_play_l14 x2 x3) (Hd := fun (s : (Bool × Int32 × mm_M)) => mm_Go jX10_play D d 0 0 14 [some (.inr 31), some (.inr 7), some (.inl x2), some (.inl x3), some (.inl (mm_b s.1)), some (.inl s.2.1), none, none, none, none] [] S_c s.2.2 Z) (Ex := fun (r : (Int32 × mm_M)) => Z (some r.1) S_c r.2) ?_ n s r h hx
  intro s o h kb ke
  show mm_Go jX10_play D d 0 0 14 [some (.inr 31), some (.inr 7), some (.inl x2), some (.inl x3), some (.inl (mm_b s.1)), some (.inl s.2.1), none, none, none, none] [] S_c s.2.2 Z
  unfold X10_play_l14 at h
  refine r_iload (q := 16) dX10_play_14 rfl rfl ?_
  refine r_bipush (v := 90) (q := 18) dX10_play_16 (by decide) rfl ?_
  refine r_icmp_gt 123 (q := 21) dX10_play_18 (by decide) rfl (fun c3 => ?_) (fun c3 => ?_)
  · rw [if_pos c3] at h
    refine r_forget (L' := [some (.inr 31), none, some (.inl x2), none, none, none, none, none, none, none]) [true, false, true, false, false, false, false, false, false, false] rfl ?_
    exact t_X10_play_j123l14 hd x2 s.2.2 _ h kb ke
  · rw [if_neg c3] at h
    refine r_iload (q := 23) dX10_play_21 rfl rfl ?_
    refine r_if_eq 123 (q := 26) dX10_play_23 (by decide) rfl (fun c4 => ?_) (fun c4 => ?_)
    · rw [if_neg (mm_b0 c4)] at h
      refine r_forget (L' := [some (.inr 31), none, some (.inl x2), none, none, none, none, none, none, none]) [true, false, true, false, false, false, false, false, false, false] rfl ?_
      exact t_X10_play_j123l14 hd x2 s.2.2 _ h kb ke
    · rw [if_pos (mm_b1 c4)] at h
      refine r_iconst (v := 0) (q := 27) dX10_play_26 (by decide) rfl ?_
      refine r_istore (q := 29) (L' := [some (.inr 31), some (.inr 7), some (.inl x2), some (.inl x3), some (.inl 0), some (.inl s.2.1), none, none, none, none]) dX10_play_27 (by decide) rfl rfl ?_
      refine r_iconst (v := 0) (q := 30) dX10_play_29 (by decide) rfl ?_
      refine r_istore (q := 32) (L' := [some (.inr 31), some (.inr 7), some (.inl x2), some (.inl x3), some (.inl 0), some (.inl s.2.1), some (.inl 0), none, none, none]) dX10_play_30 (by decide) rfl rfl ?_
      obtain ⟨y14, e15, h⟩ := Option.bind_eq_some_iff.mp h
      refine t_X10_play_l32 hd x2 x3 s.2.1 mm_fuel (false, 0, s.2.2) _ e15 ?_
      show mm_Go jX10_play _ _ _ _ 117 [some (.inr 31), some (.inr 7), some (.inl x2), some (.inl x3), some (.inl (mm_b y14.1)), some (.inl s.2.1), none, none, none, none] [] S_c y14.2 _
      refine r_iinc (v := 1) (q := 120) (L' := [some (.inr 31), some (.inr 7), some (.inl x2), some (.inl x3), some (.inl (mm_b y14.1)), some (.inl (s.2.1 + 1)), none, none, none, none]) dX10_play_117 (by decide) (by decide) rfl rfl rfl ?_
      refine r_goto 14 dX10_play_120 (by decide) ?_
      cases h
      have hk := kb _ rfl
      exact hk
noncomputable def X10_play (x2 : Int32) (x3 : Int32) (M : mm_M) : Option (Int32 × mm_M) := (J7_fill_53178 35 0 M).bind fun y2 => (mm_loop (X10_play_l14 x2 x3) mm_fuel (true, 1, y2))
set_option maxRecDepth 100000 in
set_option maxHeartbeats 400000 in
theorem t_X10_play {d : Nat} (hd : 2 ≤ d) (x2 : Int32) (x3 : Int32) (M : mm_M) (res : (Int32 × mm_M)) (h : X10_play x2 x3 M = some res) : mm_Meth jX10_play d 0 0 [(.inr 31), (.inr 7), (.inl x2), (.inl x3)] S_c M (mm_Zi res.1 S_c res.2) := by
  refine r_meth (L := [some (.inr 31), some (.inr 7), some (.inl x2), some (.inl x3), none, none, none, none, none, none]) rfl (fun D => ?_)
  unfold X10_play at h
  refine r_aload_n (q := 1) dX10_play_0 rfl rfl ?_
  refine r_getr (b := 35) (q := 4) lk_X10_21 dX10_play_1 sc_c_31 rfl rfl ?_
  refine r_iconst (v := 0) (q := 5) dX10_play_4 (by decide) rfl ?_
  obtain ⟨y2, e1, h⟩ := Option.bind_eq_some_iff.mp h
  refine r_callS_v (av := [(.inr 35), (.inl 0)]) (st := []) (q := 8) (d1 := 0) kc_X10_43 dX10_play_5 rfl rfl (Nat.le_of_ble_eq_true rfl) (Nat.le_of_ble_eq_true rfl) (by omega) rfl rfl (t_J7_fill_53178_35 (d := 0) (by omega) 0 M _ e1) ?_
  refine r_iconst (v := 1) (q := 9) dX10_play_8 (by decide) rfl ?_
  refine r_istore (q := 11) (L' := [some (.inr 31), some (.inr 7), some (.inl x2), some (.inl x3), some (.inl 1), none, none, none, none, none]) dX10_play_9 (by decide) rfl rfl ?_
  refine r_iconst (v := 1) (q := 12) dX10_play_11 (by decide) rfl ?_
  refine r_istore (q := 14) (L' := [some (.inr 31), some (.inr 7), some (.inl x2), some (.inl x3), some (.inl 1), some (.inl 1), none, none, none, none]) dX10_play_12 (by decide) rfl rfl ?_
  exact t_X10_play_l14 hd x2 x3 mm_fuel (true, 1, y2) _ h mm_Zi_rfl
