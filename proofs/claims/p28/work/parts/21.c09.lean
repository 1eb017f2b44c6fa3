noncomputable def X11_inspectors (x1 : Int32) (x2 : Int32) (x3 : Int32) (M : mm_M) : Option (Int32 × mm_M) := if (X8_has 7 x1 M) = true then if x2 < 0 then some ((-1), M) else if 9 < x2 then some ((-1), M) else if (X11_isZeroOrOne x3) = true then (X10_play x1 x2 M).bind fun y6 => if x3 = 1 then some (y6.1, y6.2) else if y6.1 = 0 then some (y6.1, y6.2) else if (y6.1 - y6.1 / 2 * 2) = 1 then some (1, y6.2) else some (2, y6.2) else some ((-1), M) else some ((-1), M)
set_option maxRecDepth 100000 in
set_option maxHeartbeats 400000 in
theorem t_X11_inspectors {d : Nat} (hd : 3 ≤ d) (x1 : Int32) (x2 : Int32) (x3 : Int32) (M : mm_M) (res : (Int32 × mm_M)) (h : X11_inspectors x1 x2 x3 M = some res) : mm_Meth jX11_inspectors d 0 0 [(.inr 0), (.inl x1), (.inl x2), (.inl x3)] S_c M (mm_Zi res.1 S_c res.2) := by
  refine r_meth (L := [some (.inr 0), some (.inl x1), some (.inl x2), some (.inl x3), none]) rfl (fun D => ?_)
  unfold X11_inspectors at h
  refine r_aload_n (q := 1) dX11_inspectors_0 rfl rfl ?_
  refine r_getr (b := 7) (q := 4) lk_X11_42 dX11_inspectors_1 sc_c_0 rfl rfl ?_
  refine r_iload_n (q := 5) dX11_inspectors_4 rfl rfl ?_
  refine r_callV_i (av := [(.inl x1)]) (st := []) (q := 8) (d1 := 0) kc_X11_87 sc_c_7 dX11_inspectors_5 rfl rfl (Nat.le_of_ble_eq_true rfl) (Nat.le_of_ble_eq_true rfl) (by omega) rfl rfl (t_X8_has_7 (d := 0) (by omega) x1 M _ rfl) ?_
  refine r_if_eq 28 (q := 11) dX11_inspectors_8 (by decide) rfl (fun c1 => ?_) (fun c1 => ?_)
  · rw [if_neg (mm_b0 c1)] at h
    refine r_iconst (v := (-1)) (q := 29) dX11_inspectors_28 (by decide) rfl ?_
    cases h
    exact r_ret dX11_inspectors_29 rfl mm_Zi_rfl
  · rw [if_pos (mm_b1 c1)] at h
    refine r_iload_n (q := 12) dX11_inspectors_11 rfl rfl ?_
    refine r_if_lt 28 (q := 15) dX11_inspectors_12 (by decide) rfl (fun c2 => ?_) (fun c2 => ?_)
    · rw [if_pos c2] at h
      refine r_iconst (v := (-1)) (q := 29) dX11_inspectors_28 (by decide) rfl ?_
      cases h
      exact r_ret dX11_inspectors_29 rfl mm_Zi_rfl
    · rw [if_neg c2] at h
      refine r_iload_n (q := 16) dX11_inspectors_15 rfl rfl ?_
      refine r_bipush (v := 9) (q := 18) dX11_inspectors_16 (by decide) rfl ?_
      refine r_icmp_gt 28 (q := 21) dX11_inspectors_18 (by decide) rfl (fun c3 => ?_) (fun c3 => ?_)
      · rw [if_pos c3] at h
        refine r_iconst (v := (-1)) (q := 29) dX11_inspectors_28 (by decide) rfl ?_
        cases h
        exact r_ret dX11_inspectors_29 rfl mm_Zi_rfl
      · rw [if_neg c3] at h
        refine r_iload_n (q := 22) dX11_inspectors_21 rfl rfl ?_
        refine r_callS_i (av := [(.inl x3)]) (st := []) (q := 25) (d1 := 0) kc_X11_179 dX11_inspectors_22 rfl rfl (Nat.le_of_ble_eq_true rfl) (Nat.le_of_ble_eq_true rfl) (by omega) rfl rfl (t_X11_isZeroOrOne (d := 0) (by omega) x3 M _ rfl) ?_
        refine r_if_ne 30 (q := 28) dX11_inspectors_25 (by decide) rfl (fun c4 => ?_) (fun c4 => ?_)
        · rw [if_pos (mm_b1 c4)] at h
          refine r_aload_n (q := 31) dX11_inspectors_30 rfl rfl ?_
          refine r_getr (b := 31) (q := 34) lk_X11_76 dX11_inspectors_31 sc_c_0 rfl rfl ?_
          refine r_aload_n (q := 35) dX11_inspectors_34 rfl rfl ?_
          refine r_getr (b := 7) (q := 38) lk_X11_42 dX11_inspectors_35 sc_c_0 rfl rfl ?_
          refine r_iload_n (q := 39) dX11_inspectors_38 rfl rfl ?_
          refine r_iload_n (q := 40) dX11_inspectors_39 rfl rfl ?_
          obtain ⟨y6, e5, h⟩ := Option.bind_eq_some_iff.mp h
          refine r_callV_i (av := [(.inr 7), (.inl x1), (.inl x2)]) (st := []) (q := 43) (d1 := 2) kc_X11_262 sc_c_31 dX11_inspectors_40 rfl rfl (Nat.le_of_ble_eq_true rfl) (Nat.le_of_ble_eq_true rfl) (by omega) rfl rfl (t_X10_play (d := 2) (by omega) x1 x2 M _ e5) ?_
          refine r_istore (q := 45) (L' := [some (.inr 0), some (.inl x1), some (.inl x2), some (.inl x3), some (.inl y6.1)]) dX11_inspectors_43 (by decide) rfl rfl ?_
          refine r_iload_n (q := 46) dX11_inspectors_45 rfl rfl ?_
          refine r_iconst (v := 1) (q := 47) dX11_inspectors_46 (by decide) rfl ?_
          refine r_icmp_eq 55 (q := 50) dX11_inspectors_47 (by decide) rfl (fun c7 => ?_) (fun c7 => ?_)
          · rw [if_pos c7] at h
            refine r_iload (q := 57) dX11_inspectors_55 rfl rfl ?_
            cases h
            exact r_ret dX11_inspectors_57 rfl mm_Zi_rfl
          · rw [if_neg c7] at h
            refine r_iload (q := 52) dX11_inspectors_50 rfl rfl ?_
            refine r_if_ne 58 (q := 55) dX11_inspectors_52 (by decide) rfl (fun c8 => ?_) (fun c8 => ?_)
            · rw [if_neg c8] at h
              refine r_iload (q := 60) dX11_inspectors_58 rfl rfl ?_
              refine r_iconst (v := 2) (q := 61) dX11_inspectors_60 (by decide) rfl ?_
              refine r_irem (q := 62) dX11_inspectors_61 (by decide) rfl ?_
              refine r_iconst (v := 1) (q := 63) dX11_inspectors_62 (by decide) rfl ?_
              refine r_icmp_ne 70 (q := 66) dX11_inspectors_63 (by decide) rfl (fun c9 => ?_) (fun c9 => ?_)
              · rw [if_neg c9] at h
                refine r_iconst (v := 2) (q := 71) dX11_inspectors_70 (by decide) rfl ?_
                cases h
                exact r_ret dX11_inspectors_71 rfl mm_Zi_rfl
              · rw [if_pos c9] at h
                refine r_iconst (v := 1) (q := 67) dX11_inspectors_66 (by decide) rfl ?_
                refine r_goto 71 dX11_inspectors_67 (by decide) ?_
                cases h
                exact r_ret dX11_inspectors_71 rfl mm_Zi_rfl
            · rw [if_pos c8] at h
              refine r_iload (q := 57) dX11_inspectors_55 rfl rfl ?_
              cases h
              exact r_ret dX11_inspectors_57 rfl mm_Zi_rfl
        · rw [if_neg (mm_b0 c4)] at h
          refine r_iconst (v := (-1)) (q := 29) dX11_inspectors_28 (by decide) rfl ?_
          cases h
          exact r_ret dX11_inspectors_29 rfl mm_Zi_rfl
noncomputable def X11_together_j45 (x1 : Int32) (x2 : Int32) (x3 : Int32) (z0 : Bool) (M : mm_M) : Int32 := if (X8_keepsAnswer x2 x1 x3 M) = true then ((mm_b z0) + 2) else ((mm_b z0) + 0)
set_option maxRecDepth 100000 in
set_option maxHeartbeats 400000 in
theorem t_X11_together_j45 {D : mm_D} {d : Nat} (hd : 2 ≤ d) (x1 : Int32) (x2 : Int32) (x3 : Int32) (z0 : Bool) (M : mm_M) (res : Int32) (h : X11_together_j45 x1 x2 x3 z0 M = res) : mm_Go jX11_together D d 0 0 45 [some (.inr 0), some (.inl x1), some (.inl x2), some (.inl x3), none, none] [(.inl (mm_b z0))] S_c M (mm_Zi res S_c M) := by
  unfold X11_together_j45 at h
  refine r_istore (q := 47) (L' := [some (.inr 0), some (.inl x1), some (.inl x2), some (.inl x3), some (.inl (mm_b z0)), none]) dX11_together_45 (by decide) rfl rfl ?_
  refine r_aload_n (q := 48) dX11_together_47 rfl rfl ?_
  refine r_getr (b := 7) (q := 51) lk_X11_42 dX11_together_48 sc_c_0 rfl rfl ?_
  refine r_iload_n (q := 52) dX11_together_51 rfl rfl ?_
  refine r_iload_n (q := 53) dX11_together_52 rfl rfl ?_
  refine r_iload_n (q := 54) dX11_together_53 rfl rfl ?_
  refine r_callV_i (av := [(.inl x2), (.inl x1), (.inl x3)]) (st := []) (q := 57) (d1 := 1) kc_X11_265 sc_c_7 dX11_together_54 rfl rfl (Nat.le_of_ble_eq_true rfl) (Nat.le_of_ble_eq_true rfl) (by omega) rfl rfl (t_X8_keepsAnswer (d := 1) (by omega) x2 x1 x3 M _ rfl) ?_
  refine r_if_eq 64 (q := 60) dX11_together_57 (by decide) rfl (fun c5 => ?_) (fun c5 => ?_)
  · rw [if_neg (mm_b0 c5)] at h
    refine r_iconst (v := 0) (q := 65) dX11_together_64 (by decide) rfl ?_
    refine r_istore (q := 67) (L' := [some (.inr 0), some (.inl x1), some (.inl x2), some (.inl x3), some (.inl (mm_b z0)), some (.inl 0)]) dX11_together_65 (by decide) rfl rfl ?_
    refine r_iload (q := 69) dX11_together_67 rfl rfl ?_
    refine r_iload (q := 71) dX11_together_69 rfl rfl ?_
    refine r_iadd (q := 72) dX11_together_71 rfl ?_
    subst h
    exact r_ret dX11_together_72 rfl mm_Zi_rfl
  · rw [if_pos (mm_b1 c5)] at h
    refine r_iconst (v := 2) (q := 61) dX11_together_60 (by decide) rfl ?_
    refine r_goto 65 dX11_together_61 (by decide) ?_
    refine r_istore (q := 67) (L' := [some (.inr 0), some (.inl x1), some (.inl x2), some (.inl x3), some (.inl (mm_b z0)), some (.inl 2)]) dX11_together_65 (by decide) rfl rfl ?_
    refine r_iload (q := 69) dX11_together_67 rfl rfl ?_
    refine r_iload (q := 71) dX11_together_69 rfl rfl ?_
    refine r_iadd (q := 72) dX11_together_71 rfl ?_
    subst h
    exact r_ret dX11_together_72 rfl mm_Zi_rfl
noncomputable def X11_together (x1 : Int32) (x2 : Int32) (x3 : Int32) (M : mm_M) : Int32 := if (X11_isQuestion x1) = true then if (X11_isQuestion x2) = true then if (X8_has 7 x3 M) = true then if (X8_keepsAnswer x1 x2 x3 M) = true then X11_together_j45 x1 x2 x3 true M else X11_together_j45 x1 x2 x3 false M else (-1) else (-1) else (-1)
set_option maxRecDepth 100000 in
set_option maxHeartbeats 400000 in
theorem t_X11_together {d : Nat} (hd : 2 ≤ d) (x1 : Int32) (x2 : Int32) (x3 : Int32) (M : mm_M) (res : Int32) (h : X11_together x1 x2 x3 M = res) : mm_Meth jX11_together d 0 0 [(.inr 0), (.inl x1), (.inl x2), (.inl x3)] S_c M (mm_Zi res S_c M) := by
  refine r_meth (L := [some (.inr 0), some (.inl x1), some (.inl x2), some (.inl x3), none, none]) rfl (fun D => ?_)
  unfold X11_together at h
  refine r_iload_n (q := 1) dX11_together_0 rfl rfl ?_
  refine r_callS_i (av := [(.inl x1)]) (st := []) (q := 4) (d1 := 0) kc_X11_95 dX11_together_1 rfl rfl (Nat.le_of_ble_eq_true rfl) (Nat.le_of_ble_eq_true rfl) (by omega) rfl rfl (t_X11_isQuestion (d := 0) (by omega) x1 M _ rfl) ?_
  refine r_if_eq 25 (q := 7) dX11_together_4 (by decide) rfl (fun c1 => ?_) (fun c1 => ?_)
  · rw [if_neg (mm_b0 c1)] at h
    refine r_iconst (v := (-1)) (q := 26) dX11_together_25 (by decide) rfl ?_
    subst h
    exact r_ret dX11_together_26 rfl mm_Zi_rfl
  · rw [if_pos (mm_b1 c1)] at h
    refine r_iload_n (q := 8) dX11_together_7 rfl rfl ?_
    refine r_callS_i (av := [(.inl x2)]) (st := []) (q := 11) (d1 := 0) kc_X11_95 dX11_together_8 rfl rfl (Nat.le_of_ble_eq_true rfl) (Nat.le_of_ble_eq_true rfl) (by omega) rfl rfl (t_X11_isQuestion (d := 0) (by omega) x2 M _ rfl) ?_
    refine r_if_eq 25 (q := 14) dX11_together_11 (by decide) rfl (fun c2 => ?_) (fun c2 => ?_)
    · rw [if_neg (mm_b0 c2)] at h
      refine r_iconst (v := (-1)) (q := 26) dX11_together_25 (by decide) rfl ?_
      subst h
      exact r_ret dX11_together_26 rfl mm_Zi_rfl
    · rw [if_pos (mm_b1 c2)] at h
      refine r_aload_n (q := 15) dX11_together_14 rfl rfl ?_
      refine r_getr (b := 7) (q := 18) lk_X11_42 dX11_together_15 sc_c_0 rfl rfl ?_
      refine r_iload_n (q := 19) dX11_together_18 rfl rfl ?_
      refine r_callV_i (av := [(.inl x3)]) (st := []) (q := 22) (d1 := 0) kc_X11_87 sc_c_7 dX11_together_19 rfl rfl (Nat.le_of_ble_eq_true rfl) (Nat.le_of_ble_eq_true rfl) (by omega) rfl rfl (t_X8_has_7 (d := 0) (by omega) x3 M _ rfl) ?_
      refine r_if_ne 27 (q := 25) dX11_together_22 (by decide) rfl (fun c3 => ?_) (fun c3 => ?_)
      · rw [if_pos (mm_b1 c3)] at h
        refine r_aload_n (q := 28) dX11_together_27 rfl rfl ?_
        refine r_getr (b := 7) (q := 31) lk_X11_42 dX11_together_28 sc_c_0 rfl rfl ?_
        refine r_iload_n (q := 32) dX11_together_31 rfl rfl ?_
        refine r_iload_n (q := 33) dX11_together_32 rfl rfl ?_
        refine r_iload_n (q := 34) dX11_together_33 rfl rfl ?_
        refine r_callV_i (av := [(.inl x1), (.inl x2), (.inl x3)]) (st := []) (q := 37) (d1 := 1) kc_X11_265 sc_c_7 dX11_together_34 rfl rfl (Nat.le_of_ble_eq_true rfl) (Nat.le_of_ble_eq_true rfl) (by omega) rfl rfl (t_X8_keepsAnswer (d := 1) (by omega) x1 x2 x3 M _ rfl) ?_
        refine r_if_eq 44 (q := 40) dX11_together_37 (by decide) rfl (fun c4 => ?_) (fun c4 => ?_)
        · rw [if_neg (mm_b0 c4)] at h
          refine r_iconst (v := 0) (q := 45) dX11_together_44 (by decide) rfl ?_
          exact t_X11_together_j45 hd x1 x2 x3 false M _ h
        · rw [if_pos (mm_b1 c4)] at h
          refine r_iconst (v := 1) (q := 41) dX11_together_40 (by decide) rfl ?_
          refine r_goto 45 dX11_together_41 (by decide) ?_
          exact t_X11_together_j45 hd x1 x2 x3 true M _ h
      · rw [if_neg (mm_b0 c3)] at h
        refine r_iconst (v := (-1)) (q := 26) dX11_together_25 (by decide) rfl ?_
        subst h
        exact r_ret dX11_together_26 rfl mm_Zi_rfl
noncomputable def X8_loose_l15 (x2 : Int32) (M : mm_M) (s : (Int32 × Int32)) : Option ((Int32 × Int32) ⊕ Int32) := if (M 7 0) ≤ s.2 then some (.inr s.1) else if (X8_behind x2 s.2 M) = s.2 then some (.inl (s.1, (s.2 + 1))) else some (.inl ((s.1 &&& (((1 : Int32) <<< ((X8_behind x2 s.2 M) &&& 31)) ^^^ (-1))), (s.2 + 1)))
set_option maxRecDepth 100000 in
set_option maxHeartbeats 400000 in
theorem t_X8_loose_l15 {D : mm_D} {d : Nat} (hd : 1 ≤ d) {Z : Option Int32 → List mm_C → mm_M → Prop} (x2 : Int32) (M : mm_M) (n : Nat) (s : (Int32 × Int32)) (r : Int32) (h : mm_loop (X8_loose_l15 x2 M) n s = some r) (hx : mm_Go jX8_loose D d 0 0 52 [some (.inr 7), some (.inl r), some (.inl x2), none] [] S_c M Z) : mm_Go jX8_loose D d 0 0 15 [some (.inr 7), some (.inl s.1), some (.inl x2), some (.inl s.2)] [] S_c M Z := by
  refine mm_loop_go (step := X8_loose_l15 x2 M) (Hd := fun (s : (Int32 × Int32)) => mm_Go jX8_loose D d 0 0 15 [some (.inr 7), some (.inl s.1), some (.inl x2), some (.inl s.2)] [] S_c M Z) (Ex := fun (r : Int32) => mm_Go jX8_loose D d 0 0 52 [some (.inr 7), some (.inl r), some (.inl x2), none] [] S_c M Z) ?_ n s r h hx
  intro s o h kb ke
  show mm_Go jX8_loose D d 0 0 15 [some (.inr 7), some (.inl s.1), some (.inl x2), some (.inl s.2)] [] S_c M Z
  unfold X8_loose_l15 at h
  refine r_iload_n (q := 16) dX8_loose_15 rfl rfl ?_
  refine r_aload_n (q := 17) dX8_loose_16 rfl rfl ?_
  refine r_geti (v := (M 7 0)) (q := 20) lk_X8_18 dX8_loose_17 sc_c_7 rfl rfl rfl ?_
  refine r_icmp_ge 52 (q := 23) dX8_loose_20 (by decide) rfl (fun c2 => ?_) (fun c2 => ?_)
  · rw [if_pos c2] at h
    refine r_forget (L' := [some (.inr 7), some (.inl s.1), some (.inl x2), none]) [true, true, true, false] rfl ?_
    cases h
    have hk := ke _ rfl
    exact hk
  · rw [if_neg c2] at h
    refine r_aload_n (q := 24) dX8_loose_23 rfl rfl ?_
    refine r_iload_n (q := 25) dX8_loose_24 rfl rfl ?_
    refine r_iload_n (q := 26) dX8_loose_25 rfl rfl ?_
    refine r_callV_i (av := [(.inl x2), (.inl s.2)]) (st := []) (q := 29) (d1 := 0) kc_X8_26 sc_c_7 dX8_loose_26 rfl rfl (Nat.le_of_ble_eq_true rfl) (Nat.le_of_ble_eq_true rfl) (by omega) rfl rfl (t_X8_behind (d := 0) (by omega) x2 s.2 M _ rfl) ?_
    refine r_iload_n (q := 30) dX8_loose_29 rfl rfl ?_
    refine r_icmp_eq 46 (q := 33) dX8_loose_30 (by decide) rfl (fun c3 => ?_) (fun c3 => ?_)
    · rw [if_pos c3] at h
      refine r_iinc (v := 1) (q := 49) (L' := [some (.inr 7), some (.inl s.1), some (.inl x2), some (.inl (s.2 + 1))]) dX8_loose_46 (by decide) (by decide) rfl rfl rfl ?_
      refine r_goto 15 dX8_loose_49 (by decide) ?_
      cases h
      have hk := kb _ rfl
      exact hk
    · rw [if_neg c3] at h
      refine r_iload_n (q := 34) dX8_loose_33 rfl rfl ?_
      refine r_iconst (v := 1) (q := 35) dX8_loose_34 (by decide) rfl ?_
      refine r_aload_n (q := 36) dX8_loose_35 rfl rfl ?_
      refine r_iload_n (q := 37) dX8_loose_36 rfl rfl ?_
      refine r_iload_n (q := 38) dX8_loose_37 rfl rfl ?_
      refine r_callV_i (av := [(.inl x2), (.inl s.2)]) (st := [(.inl 1), (.inl s.1)]) (q := 41) (d1 := 0) kc_X8_26 sc_c_7 dX8_loose_38 rfl rfl (Nat.le_of_ble_eq_true rfl) (Nat.le_of_ble_eq_true rfl) (by omega) rfl rfl (t_X8_behind (d := 0) (by omega) x2 s.2 M _ rfl) ?_
      refine r_ishl (q := 42) dX8_loose_41 rfl ?_
      refine r_iconst (v := (-1)) (q := 43) dX8_loose_42 (by decide) rfl ?_
      refine r_ixor (q := 44) dX8_loose_43 rfl ?_
      refine r_iand (q := 45) dX8_loose_44 rfl ?_
      refine r_istore_n (q := 46) (L' := [some (.inr 7), some (.inl (s.1 &&& (((1 : Int32) <<< ((X8_behind x2 s.2 M) &&& 31)) ^^^ (-1)))), some (.inl x2), some (.inl s.2)]) dX8_loose_45 (by decide) rfl rfl ?_
      refine r_iinc (v := 1) (q := 49) (L' := [some (.inr 7), some (.inl (s.1 &&& (((1 : Int32) <<< ((X8_behind x2 s.2 M) &&& 31)) ^^^ (-1)))), some (.inl x2), some (.inl (s.2 + 1))]) dX8_loose_46 (by decide) (by decide) rfl rfl rfl ?_
      refine r_goto 15 dX8_loose_49 (by decide) ?_
      cases h
      have hk := kb _ rfl
      exact hk
noncomputable def X8_loose_l7 (M : mm_M) (s : (Int32 × Int32)) : Option ((Int32 × Int32) ⊕ Int32) := if 8 ≤ s.2 then some (.inr s.1) else (mm_loop (X8_loose_l15 s.2 M) mm_fuel (s.1, 0)).bind fun y4 => some (.inl (y4, (s.2 + 1)))
set_option maxRecDepth 100000 in
set_option maxHeartbeats 400000 in
theorem t_X8_loose_l7 {D : mm_D} {d : Nat} (hd : 1 ≤ d) {Z : Option Int32 → List mm_C → mm_M → Prop} (M : mm_M) (n : Nat) (s : (Int32 × Int32)) (r : Int32) (h : mm_loop (X8_loose_l7 M) n s = some r) (hx : Z (some r) S_c M) : mm_Go jX8_loose D d 0 0 7 [some (.inr 7), some (.inl s.1), some (.inl s.2), none] [] S_c M Z := by
  refine mm_loop_go (step := X8_loose_l7 M) (Hd := fun (s : (Int32 × Int32)) => mm_Go jX8_loose D d 0 0 7 [some (.inr 7), some (.inl s.1), some (.inl s.2), none] [] S_c M Z) (Ex := fun (r : Int32) => Z (some r) S_c M) ?_ n s r h hx
  intro s o h kb ke
  show mm_Go jX8_loose D d 0 0 7 [some (.inr 7), some (.inl s.1), some (.inl s.2), none] [] S_c M Z
  unfold X8_loose_l7 at h
  refine r_iload_n (q := 8) dX8_loose_7 rfl rfl ?_
  refine r_bipush (v := 8) (q := 10) dX8_loose_8 (by decide) rfl ?_
  refine r_icmp_ge 58 (q := 13) dX8_loose_10 (by decide) rfl (fun c1 => ?_) (fun c1 => ?_)
  · rw [if_pos c1] at h
    refine r_iload_n (q := 59) dX8_loose_58 rfl rfl ?_
    cases h
    have hk := ke _ rfl
    exact r_ret dX8_loose_59 rfl hk
  · rw [if_neg c1] at h
    refine r_iconst (v := 0) (q := 14) dX8_loose_13 (by decide) rfl ?_
    refine r_istore_n (q := 15) (L' := [some (.inr 7), some (.inl s.1), some (.inl s.2), some (.inl 0)]) dX8_loose_14 (by decide) rfl rfl ?_
    obtain ⟨y4, e5, h⟩ := Option.bind_eq_some_iff.mp h
    refine t_X8_loose_l15 hd s.2 M mm_fuel (s.1, 0) _ e5 ?_
    show mm_Go jX8_loose _ _ _ _ 52 [some (.inr 7), some (.inl y4), some (.inl s.2), none] [] S_c M _
    refine r_iinc (v := 1) (q := 55) (L' := [some (.inr 7), some (.inl y4), some (.inl (s.2 + 1)), none]) dX8_loose_52 (by decide) (by decide) rfl rfl rfl ?_
    refine r_goto 7 dX8_loose_55 (by decide) ?_
    cases h
    have hk := kb _ rfl
    exact hk
noncomputable def X8_loose (M : mm_M) : Option Int32 := (mm_loop (X8_loose_l7 M) mm_fuel ((X8_everyState 7 M), 0))
set_option maxRecDepth 100000 in
set_option maxHeartbeats 400000 in
theorem t_X8_loose {d : Nat} (hd : 1 ≤ d) (M : mm_M) (res : Int32) (h : X8_loose M = some res) : mm_Meth jX8_loose d 0 0 [(.inr 7)] S_c M (mm_Zi res S_c M) := by
  refine r_meth (L := [some (.inr 7), none, none, none]) rfl (fun D => ?_)
  unfold X8_loose at h
  refine r_aload_n (q := 1) dX8_loose_0 rfl rfl ?_
  refine r_callV_i (av := []) (st := []) (q := 4) (d1 := 0) kc_X8_22 sc_c_7 dX8_loose_1 rfl rfl (Nat.le_of_ble_eq_true rfl) (Nat.le_of_ble_eq_true rfl) (by omega) rfl rfl (t_X8_everyState_7 (d := 0) (by omega) M _ rfl) ?_
  refine r_istore_n (q := 5) (L' := [some (.inr 7), some (.inl (X8_everyState 7 M)), none, none]) dX8_loose_4 (by decide) rfl rfl ?_
  refine r_iconst (v := 0) (q := 6) dX8_loose_5 (by decide) rfl ?_
  refine r_istore_n (q := 7) (L' := [some (.inr 7), some (.inl (X8_everyState 7 M)), some (.inl 0), none]) dX8_loose_6 (by decide) rfl rfl ?_
  exact t_X8_loose_l7 hd M mm_fuel ((X8_everyState 7 M), 0) _ h mm_Zi_rfl
noncomputable def X8_ends_l15 (x2 : Int32) (M : mm_M) (s : (Int32 × Int32)) : Option ((Int32 × Int32) ⊕ Int32) := if (M 7 0) ≤ s.2 then some (.inr s.1) else if (X8_behind x2 s.2 M) = s.2 then some (.inl (s.1, (s.2 + 1))) else some (.inl ((s.1 &&& (((1 : Int32) <<< (s.2 &&& 31)) ^^^ (-1))), (s.2 + 1)))
set_option maxRecDepth 100000 in
set_option maxHeartbeats 400000 in
theorem t_X8_ends_l15 {D : mm_D} {d : Nat} (hd : 1 ≤ d) {Z : Option Int32 → List mm_C → mm_M → Prop} (x2 : Int32) (M : mm_M) (n : Nat) (s : (Int32 × Int32)) (r : Int32) (h : mm_loop (X8_ends_l15 x2 M) n s = some r) (hx : mm_Go jX8_ends D d 0 0 47 [some (.inr 7), some (.inl r), some (.inl x2), none] [] S_c M Z) : mm_Go jX8_ends D d 0 0 15 [some (.inr 7), some (.inl s.1), some (.inl x2), some (.inl s.2)] [] S_c M Z := by
  refine mm_loop_go (step := X8_ends_l15 x2 M) (Hd := fun (s : (Int32 × Int32)) => mm_Go jX8_ends D d 0 0 15 [some (.inr 7), some (.inl s.1), some (.inl x2), some (.inl s.2)] [] S_c M Z) (Ex := fun (r : Int32) => mm_Go jX8_ends D d 0 0 47 [some (.inr 7), some (.inl r), some (.inl x2), none] [] S_c M Z) ?_ n s r h hx
  intro s o h kb ke
  show mm_Go jX8_ends D d 0 0 15 [some (.inr 7), some (.inl s.1), some (.inl x2), some (.inl s.2)] [] S_c M Z
  unfold X8_ends_l15 at h
  refine r_iload_n (q := 16) dX8_ends_15 rfl rfl ?_
  refine r_aload_n (q := 17) dX8_ends_16 rfl rfl ?_
  refine r_geti (v := (M 7 0)) (q := 20) lk_X8_18 dX8_ends_17 sc_c_7 rfl rfl rfl ?_
  refine r_icmp_ge 47 (q := 23) dX8_ends_20 (by decide) rfl (fun c2 => ?_) (fun c2 => ?_)
  · rw [if_pos c2] at h
    refine r_forget (L' := [some (.inr 7), some (.inl s.1), some (.inl x2), none]) [true, true, true, false] rfl ?_
    cases h
    have hk := ke _ rfl
    exact hk
  · rw [if_neg c2] at h
    refine r_aload_n (q := 24) dX8_ends_23 rfl rfl ?_
    refine r_iload_n (q := 25) dX8_ends_24 rfl rfl ?_
    refine r_iload_n (q := 26) dX8_ends_25 rfl rfl ?_
    refine r_callV_i (av := [(.inl x2), (.inl s.2)]) (st := []) (q := 29) (d1 := 0) kc_X8_26 sc_c_7 dX8_ends_26 rfl rfl (Nat.le_of_ble_eq_true rfl) (Nat.le_of_ble_eq_true rfl) (by omega) rfl rfl (t_X8_behind (d := 0) (by omega) x2 s.2 M _ rfl) ?_
    refine r_iload_n (q := 30) dX8_ends_29 rfl rfl ?_
    refine r_icmp_eq 41 (q := 33) dX8_ends_30 (by decide) rfl (fun c3 => ?_) (fun c3 => ?_)
    · rw [if_pos c3] at h
      refine r_iinc (v := 1) (q := 44) (L' := [some (.inr 7), some (.inl s.1), some (.inl x2), some (.inl (s.2 + 1))]) dX8_ends_41 (by decide) (by decide) rfl rfl rfl ?_
      refine r_goto 15 dX8_ends_44 (by decide) ?_
      cases h
      have hk := kb _ rfl
      exact hk
    · rw [if_neg c3] at h
      refine r_iload_n (q := 34) dX8_ends_33 rfl rfl ?_
      refine r_iconst (v := 1) (q := 35) dX8_ends_34 (by decide) rfl ?_
      refine r_iload_n (q := 36) dX8_ends_35 rfl rfl ?_
      refine r_ishl (q := 37) dX8_ends_36 rfl ?_
      refine r_iconst (v := (-1)) (q := 38) dX8_ends_37 (by decide) rfl ?_
      refine r_ixor (q := 39) dX8_ends_38 rfl ?_
      refine r_iand (q := 40) dX8_ends_39 rfl ?_
      refine r_istore_n (q := 41) (L' := [some (.inr 7), some (.inl (s.1 &&& (((1 : Int32) <<< (s.2 &&& 31)) ^^^ (-1)))), some (.inl x2), some (.inl s.2)]) dX8_ends_40 (by decide) rfl rfl ?_
      refine r_iinc (v := 1) (q := 44) (L' := [some (.inr 7), some (.inl (s.1 &&& (((1 : Int32) <<< (s.2 &&& 31)) ^^^ (-1)))), some (.inl x2), some (.inl (s.2 + 1))]) dX8_ends_41 (by decide) (by decide) rfl rfl rfl ?_
      refine r_goto 15 dX8_ends_44 (by decide) ?_
      cases h
      have hk := kb _ rfl
      exact hk
noncomputable def X8_ends_l7 (M : mm_M) (s : (Int32 × Int32)) : Option ((Int32 × Int32) ⊕ Int32) := if 8 ≤ s.2 then some (.inr s.1) else (mm_loop (X8_ends_l15 s.2 M) mm_fuel (s.1, 0)).bind fun y4 => some (.inl (y4, (s.2 + 1)))
set_option maxRecDepth 100000 in
set_option maxHeartbeats 400000 in
theorem t_X8_ends_l7 {D : mm_D} {d : Nat} (hd : 1 ≤ d) {Z : Option Int32 → List mm_C → mm_M → Prop} (M : mm_M) (n : Nat) (s : (Int32 × Int32)) (r : Int32) (h : mm_loop (X8_ends_l7 M) n s = some r) (hx : Z (some r) S_c M) : mm_Go jX8_ends D d 0 0 7 [some (.inr 7), some (.inl s.1), some (.inl s.2), none] [] S_c M Z := by
  refine mm_loop_go (step := X8_ends_l7 M) (Hd := fun (s : (Int32 × Int32)) => mm_Go jX8_ends D d 0 0 7 [some (.inr 7), some (.inl s.1), some (.inl s.2), none] [] S_c M Z) (Ex := fun (r : Int32) => Z (some r) S_c M) ?_ n s r h hx
  intro s o h kb ke
  show mm_Go jX8_ends D d 0 0 7 [some (.inr 7), some (.inl s.1), some (.inl s.2), none] [] S_c M Z
  unfold X8_ends_l7 at h
  refine r_iload_n (q := 8) dX8_ends_7 rfl rfl ?_
  refine r_bipush (v := 8) (q := 10) dX8_ends_8 (by decide) rfl ?_
  refine r_icmp_ge 53 (q := 13) dX8_ends_10 (by decide) rfl (fun c1 => ?_) (fun c1 => ?_)
  · rw [if_pos c1] at h
    refine r_iload_n (q := 54) dX8_ends_53 rfl rfl ?_
    cases h
    have hk := ke _ rfl
    exact r_ret dX8_ends_54 rfl hk
  · rw [if_neg c1] at h
    refine r_iconst (v := 0) (q := 14) dX8_ends_13 (by decide) rfl ?_
    refine r_istore_n (q := 15) (L' := [some (.inr 7), some (.inl s.1), some (.inl s.2), some (.inl 0)]) dX8_ends_14 (by decide) rfl rfl ?_
    obtain ⟨y4, e5, h⟩ := Option.bind_eq_some_iff.mp h
    refine t_X8_ends_l15 hd s.2 M mm_fuel (s.1, 0) _ e5 ?_
    show mm_Go jX8_ends _ _ _ _ 47 [some (.inr 7), some (.inl y4), some (.inl s.2), none] [] S_c M _
    refine r_iinc (v := 1) (q := 50) (L' := [some (.inr 7), some (.inl y4), some (.inl (s.2 + 1)), none]) dX8_ends_47 (by decide) (by decide) rfl rfl rfl ?_
    refine r_goto 7 dX8_ends_50 (by decide) ?_
    cases h
    have hk := kb _ rfl
    exact hk
noncomputable def X8_ends (M : mm_M) : Option Int32 := (mm_loop (X8_ends_l7 M) mm_fuel ((X8_everyState 7 M), 0))
set_option maxRecDepth 100000 in
set_option maxHeartbeats 400000 in
theorem t_X8_ends {d : Nat} (hd : 1 ≤ d) (M : mm_M) (res : Int32) (h : X8_ends M = some res) : mm_Meth jX8_ends d 0 0 [(.inr 7)] S_c M (mm_Zi res S_c M) := by
  refine r_meth (L := [some (.inr 7), none, none, none]) rfl (fun D => ?_)
  unfold X8_ends at h
  refine r_aload_n (q := 1) dX8_ends_0 rfl rfl ?_
  refine r_callV_i (av := []) (st := []) (q := 4) (d1 := 0) kc_X8_22 sc_c_7 dX8_ends_1 rfl rfl (Nat.le_of_ble_eq_true rfl) (Nat.le_of_ble_eq_true rfl) (by omega) rfl rfl (t_X8_everyState_7 (d := 0) (by omega) M _ rfl) ?_
  refine r_istore_n (q := 5) (L' := [some (.inr 7), some (.inl (X8_everyState 7 M)), none, none]) dX8_ends_4 (by decide) rfl rfl ?_
  refine r_iconst (v := 0) (q := 6) dX8_ends_5 (by decide) rfl ?_
  refine r_istore_n (q := 7) (L' := [some (.inr 7), some (.inl (X8_everyState 7 M)), some (.inl 0), none]) dX8_ends_6 (by decide) rfl rfl ?_
  exact t_X8_ends_l7 hd M mm_fuel ((X8_everyState 7 M), 0) _ h mm_Zi_rfl
noncomputable def X11_alone (x1 : Int32) (M : mm_M) : Option Int32 := if (X11_isZeroOrOne x1) = true then if (X8_isTold M) = true then if x1 = 0 then (X8_loose M).bind fun y5 => some y5 else (X8_ends M).bind fun y7 => some y7 else some (-1) else some (-1)
set_option maxRecDepth 100000 in
set_option maxHeartbeats 400000 in
theorem t_X11_alone {d : Nat} (hd : 2 ≤ d) (x1 : Int32) (M : mm_M) (res : Int32) (h : X11_alone x1 M = some res) : mm_Meth jX11_alone d 0 0 [(.inr 0), (.inl x1)] S_c M (mm_Zi res S_c M) := by
  refine r_meth (L := [some (.inr 0), some (.inl x1)]) rfl (fun D => ?_)
  unfold X11_alone at h
  refine r_iload_n (q := 1) dX11_alone_0 rfl rfl ?_
  refine r_callS_i (av := [(.inl x1)]) (st := []) (q := 4) (d1 := 0) kc_X11_179 dX11_alone_1 rfl rfl (Nat.le_of_ble_eq_true rfl) (Nat.le_of_ble_eq_true rfl) (by omega) rfl rfl (t_X11_isZeroOrOne (d := 0) (by omega) x1 M _ rfl) ?_
  refine r_if_eq 17 (q := 7) dX11_alone_4 (by decide) rfl (fun c1 => ?_) (fun c1 => ?_)
  · rw [if_neg (mm_b0 c1)] at h
    refine r_iconst (v := (-1)) (q := 18) dX11_alone_17 (by decide) rfl ?_
    cases h
    exact r_ret dX11_alone_18 rfl mm_Zi_rfl
  · rw [if_pos (mm_b1 c1)] at h
    refine r_aload_n (q := 8) dX11_alone_7 rfl rfl ?_
    refine r_getr (b := 7) (q := 11) lk_X11_42 dX11_alone_8 sc_c_0 rfl rfl ?_
    refine r_callV_i (av := []) (st := []) (q := 14) (d1 := 0) kc_X11_144 sc_c_7 dX11_alone_11 rfl rfl (Nat.le_of_ble_eq_true rfl) (Nat.le_of_ble_eq_true rfl) (by omega) rfl rfl (t_X8_isTold (d := 0) (by omega) M _ rfl) ?_
    refine r_if_ne 19 (q := 17) dX11_alone_14 (by decide) rfl (fun c2 => ?_) (fun c2 => ?_)
    · rw [if_pos (mm_b1 c2)] at h
      refine r_iload_n (q := 20) dX11_alone_19 rfl rfl ?_
      refine r_if_ne 33 (q := 23) dX11_alone_20 (by decide) rfl (fun c3 => ?_) (fun c3 => ?_)
      · rw [if_neg c3] at h
        refine r_aload_n (q := 34) dX11_alone_33 rfl rfl ?_
        refine r_getr (b := 7) (q := 37) lk_X11_42 dX11_alone_34 sc_c_0 rfl rfl ?_
        obtain ⟨y7, e6, h⟩ := Option.bind_eq_some_iff.mp h
        refine r_callV_i (av := []) (st := []) (q := 40) (d1 := 1) kc_X11_272 sc_c_7 dX11_alone_37 rfl rfl (Nat.le_of_ble_eq_true rfl) (Nat.le_of_ble_eq_true rfl) (by omega) rfl rfl (t_X8_ends (d := 1) (by omega) M _ e6) ?_
        cases h
        exact r_ret dX11_alone_40 rfl mm_Zi_rfl
      · rw [if_pos c3] at h
        refine r_aload_n (q := 24) dX11_alone_23 rfl rfl ?_
        refine r_getr (b := 7) (q := 27) lk_X11_42 dX11_alone_24 sc_c_0 rfl rfl ?_
        obtain ⟨y5, e4, h⟩ := Option.bind_eq_some_iff.mp h
        refine r_callV_i (av := []) (st := []) (q := 30) (d1 := 1) kc_X11_268 sc_c_7 dX11_alone_27 rfl rfl (Nat.le_of_ble_eq_true rfl) (Nat.le_of_ble_eq_true rfl) (by omega) rfl rfl (t_X8_loose (d := 1) (by omega) M _ e4) ?_
        refine r_goto 40 dX11_alone_30 (by decide) ?_
        cases h
        exact r_ret dX11_alone_40 rfl mm_Zi_rfl
    · rw [if_neg (mm_b0 c2)] at h
      refine r_iconst (v := (-1)) (q := 18) dX11_alone_17 (by decide) rfl ?_
      cases h
      exact r_ret dX11_alone_18 rfl mm_Zi_rfl
noncomputable def X11_seed (x1 : Int32) (M : mm_M) : (Bool × mm_M) := if x1 < 0 then (false, M) else if x1 ≤ 65535 then (true, (mm_U M 4 7 x1)) else (false, M)
set_option maxRecDepth 100000 in
set_option maxHeartbeats 400000 in
theorem t_X11_seed {d : Nat} (hd : 0 ≤ d) (x1 : Int32) (M : mm_M) (res : (Bool × mm_M)) (h : X11_seed x1 M = res) : mm_Meth jX11_seed d 0 0 [(.inr 0), (.inl x1)] S_c M (mm_Zi (mm_b res.1) S_c res.2) := by
  refine r_meth (L := [some (.inr 0), some (.inl x1)]) rfl (fun D => ?_)
  unfold X11_seed at h
  refine r_iload_n (q := 1) dX11_seed_0 rfl rfl ?_
  refine r_if_lt 11 (q := 4) dX11_seed_1 (by decide) rfl (fun c1 => ?_) (fun c1 => ?_)
  · rw [if_pos c1] at h
    refine r_iconst (v := 0) (q := 12) dX11_seed_11 (by decide) rfl ?_
    subst h
    exact r_retb dX11_seed_12 rfl (Or.inl rfl) mm_Zi_rfl
  · rw [if_neg c1] at h
    refine r_iload_n (q := 5) dX11_seed_4 rfl rfl ?_
    refine r_ldcw (v := 65535) (q := 8) dX11_seed_5 ko_X11_275 rfl ?_
    refine r_icmp_le 13 (q := 11) dX11_seed_8 (by decide) rfl (fun c2 => ?_) (fun c2 => ?_)
    · rw [if_pos c2] at h
      refine r_aload_n (q := 14) dX11_seed_13 rfl rfl ?_
      refine r_getr (b := 4) (q := 17) lk_X11_29 dX11_seed_14 sc_c_0 rfl rfl ?_
      refine r_iload_n (q := 18) dX11_seed_17 rfl rfl ?_
      refine r_puti (q := 21) lk_X11_276 ft_4_7 dX11_seed_18 sc_c_4 rfl rfl ?_
      refine r_iconst (v := 1) (q := 22) dX11_seed_21 (by decide) rfl ?_
      subst h
      exact r_retb dX11_seed_22 rfl (Or.inr rfl) mm_Zi_rfl
    · rw [if_neg c2] at h
      refine r_iconst (v := 0) (q := 12) dX11_seed_11 (by decide) rfl ?_
      subst h
      exact r_retb dX11_seed_12 rfl (Or.inl rfl) mm_Zi_rfl
noncomputable def X11_keep (M : mm_M) : (Int32 × mm_M) := mm_let (X6_copyFrom 5 4 M) fun y2 => ((y2 4 6), (mm_U y2 0 5 1))
set_option maxRecDepth 100000 in
set_option maxHeartbeats 400000 in
theorem t_X11_keep {d : Nat} (hd : 1 ≤ d) (M : mm_M) (res : (Int32 × mm_M)) (h : X11_keep M = res) : mm_Meth jX11_keep d 0 0 [(.inr 0)] S_c M (mm_Zi res.1 S_c res.2) := by
  refine r_meth (L := [some (.inr 0)]) rfl (fun D => ?_)
  unfold X11_keep at h
  refine r_aload_n (q := 1) dX11_keep_0 rfl rfl ?_
  refine r_getr (b := 5) (q := 4) lk_X11_33 dX11_keep_1 sc_c_0 rfl rfl ?_
  refine r_aload_n (q := 5) dX11_keep_4 rfl rfl ?_
  refine r_getr (b := 4) (q := 8) lk_X11_29 dX11_keep_5 sc_c_0 rfl rfl ?_
  obtain ⟨y2, e1, h⟩ := mm_let_elim h
  refine r_callV_v (av := [(.inr 4)]) (st := []) (q := 11) (d1 := 0) kc_X11_172 sc_c_5 dX11_keep_8 rfl rfl (Nat.le_of_ble_eq_true rfl) (Nat.le_of_ble_eq_true rfl) (by omega) rfl rfl (t_X6_copyFrom_5_4 (d := 0) (by omega) M _ e1) ?_
  refine r_aload_n (q := 12) dX11_keep_11 rfl rfl ?_
  refine r_iconst (v := 1) (q := 13) dX11_keep_12 (by decide) rfl ?_
  refine r_putb (q := 16) lk_X11_279 ft_8_5 dX11_keep_13 sc_c_0 rfl (Or.inr rfl) rfl ?_
  refine r_aload_n (q := 17) dX11_keep_16 rfl rfl ?_
  refine r_getr (b := 4) (q := 20) lk_X11_29 dX11_keep_17 sc_c_0 rfl rfl ?_
  refine r_geti (v := (y2 4 6)) (q := 23) lk_X11_283 dX11_keep_20 sc_c_4 rfl rfl rfl ?_
  subst h
  exact r_ret dX11_keep_23 rfl mm_Zi_rfl
noncomputable def X11_undo (M : mm_M) : (Bool × mm_M) := if (M 0 5) = 0 then (false, M) else mm_let (X6_copyFrom 4 5 M) fun y3 => if (X8_has 7 (y3 4 0) y3) = true then (true, y3) else (true, (mm_U y3 4 0 0))
set_option maxRecDepth 100000 in
set_option maxHeartbeats 400000 in
theorem t_X11_undo {d : Nat} (hd : 1 ≤ d) (M : mm_M) (res : (Bool × mm_M)) (h : X11_undo M = res) : mm_Meth jX11_undo d 0 0 [(.inr 0)] S_c M (mm_Zi (mm_b res.1) S_c res.2) := by
  refine r_meth (L := [some (.inr 0)]) rfl (fun D => ?_)
  unfold X11_undo at h
  refine r_aload_n (q := 1) dX11_undo_0 rfl rfl ?_
  refine r_geti (v := (M 0 5)) (q := 4) lk_X11_279 dX11_undo_1 sc_c_0 rfl rfl rfl ?_
  refine r_if_ne 9 (q := 7) dX11_undo_4 (by decide) rfl (fun c1 => ?_) (fun c1 => ?_)
  · rw [if_neg c1] at h
    refine r_aload_n (q := 10) dX11_undo_9 rfl rfl ?_
    refine r_getr (b := 4) (q := 13) lk_X11_29 dX11_undo_10 sc_c_0 rfl rfl ?_
    refine r_aload_n (q := 14) dX11_undo_13 rfl rfl ?_
    refine r_getr (b := 5) (q := 17) lk_X11_33 dX11_undo_14 sc_c_0 rfl rfl ?_
    obtain ⟨y3, e2, h⟩ := mm_let_elim h
    refine r_callV_v (av := [(.inr 5)]) (st := []) (q := 20) (d1 := 0) kc_X11_172 sc_c_4 dX11_undo_17 rfl rfl (Nat.le_of_ble_eq_true rfl) (Nat.le_of_ble_eq_true rfl) (by omega) rfl rfl (t_X6_copyFrom_4_5 (d := 0) (by omega) M _ e2) ?_
    refine r_aload_n (q := 21) dX11_undo_20 rfl rfl ?_
    refine r_getr (b := 7) (q := 24) lk_X11_42 dX11_undo_21 sc_c_0 rfl rfl ?_
    refine r_aload_n (q := 25) dX11_undo_24 rfl rfl ?_
    refine r_getr (b := 4) (q := 28) lk_X11_29 dX11_undo_25 sc_c_0 rfl rfl ?_
    refine r_geti (v := (y3 4 0)) (q := 31) lk_X11_91 dX11_undo_28 sc_c_4 rfl rfl rfl ?_
    refine r_callV_i (av := [(.inl (y3 4 0))]) (st := []) (q := 34) (d1 := 0) kc_X11_87 sc_c_7 dX11_undo_31 rfl rfl (Nat.le_of_ble_eq_true rfl) (Nat.le_of_ble_eq_true rfl) (by omega) rfl rfl (t_X8_has_7 (d := 0) (by omega) (y3 4 0) y3 _ rfl) ?_
    refine r_if_ne 45 (q := 37) dX11_undo_34 (by decide) rfl (fun c4 => ?_) (fun c4 => ?_)
    · rw [if_pos (mm_b1 c4)] at h
      refine r_iconst (v := 1) (q := 46) dX11_undo_45 (by decide) rfl ?_
      subst h
      exact r_retb dX11_undo_46 rfl (Or.inr rfl) mm_Zi_rfl
    · rw [if_neg (mm_b0 c4)] at h
      refine r_aload_n (q := 38) dX11_undo_37 rfl rfl ?_
      refine r_getr (b := 4) (q := 41) lk_X11_29 dX11_undo_38 sc_c_0 rfl rfl ?_
      refine r_iconst (v := 0) (q := 42) dX11_undo_41 (by decide) rfl ?_
      refine r_puti (q := 45) lk_X11_91 ft_4_0 dX11_undo_42 sc_c_4 rfl rfl ?_
      refine r_iconst (v := 1) (q := 46) dX11_undo_45 (by decide) rfl ?_
      subst h
      exact r_retb dX11_undo_46 rfl (Or.inr rfl) mm_Zi_rfl
  · rw [if_pos c1] at h
    refine r_iconst (v := 0) (q := 8) dX11_undo_7 (by decide) rfl ?_
    subst h
    exact r_retb dX11_undo_8 rfl (Or.inl rfl) mm_Zi_rfl
noncomputable def X11_check_j75l36 (x1 : Int32) (x2 : Int32) (x3 : Int32) (x4 : Int32) (z0 : Int32) (M : mm_M) : Option ((Int32 × Int32 × mm_M) ⊕ (Int32 × mm_M)) := (X7_byteAt x4 M).bind fun y11 => if y11 = z0 then some (.inl (x3, (x4 + 1), M)) else some (.inl (x4, (x4 + 1), M))
set_option maxRecDepth 100000 in
set_option maxHeartbeats 400000 in
theorem t_X11_check_j75l36 {D : mm_D} {d : Nat} (hd : 1 ≤ d) {Z : Option Int32 → List mm_C → mm_M → Prop} (x1 : Int32) (x2 : Int32) (x3 : Int32) (x4 : Int32) (z0 : Int32) (M : mm_M) (o : (Int32 × Int32 × mm_M) ⊕ (Int32 × mm_M)) (h : X11_check_j75l36 x1 x2 x3 x4 z0 M = some o) (kb : ∀ s', o = .inl s' → mm_Go jX11_check D d 0 0 36 [some (.inr 0), some (.inl x1), some (.inl x2), some (.inl s'.1), some (.inl s'.2.1), none] [] S_c s'.2.2 Z) (ke : ∀ r, o = .inr r → Z (some r.1) S_c r.2) : mm_Go jX11_check D d 0 0 75 [some (.inr 0), some (.inl x1), some (.inl x2), some (.inl x3), some (.inl x4), none] [(.inl z0)] S_c M Z := by
  unfold X11_check_j75l36 at h
  refine r_istore (q := 77) (L' := [some (.inr 0), some (.inl x1), some (.inl x2), some (.inl x3), some (.inl x4), some (.inl z0)]) dX11_check_75 (by decide) rfl rfl ?_
  refine r_aload_n (q := 78) dX11_check_77 rfl rfl ?_
  refine r_getr (b := 1) (q := 81) lk_X11_12 dX11_check_78 sc_c_0 rfl rfl ?_
  refine r_iload (q := 83) dX11_check_81 rfl rfl ?_
  obtain ⟨y11, e10, h⟩ := Option.bind_eq_some_iff.mp h
  refine r_callV_i (av := [(.inl x4)]) (st := []) (q := 86) (d1 := 0) kc_X11_286 sc_c_1 dX11_check_83 rfl rfl (Nat.le_of_ble_eq_true rfl) (Nat.le_of_ble_eq_true rfl) (by omega) rfl rfl (t_X7_byteAt (d := 0) (by omega) x4 M _ e10) ?_
  refine r_iload (q := 88) dX11_check_86 rfl rfl ?_
  refine r_icmp_eq 94 (q := 91) dX11_check_88 (by decide) rfl (fun c12 => ?_) (fun c12 => ?_)
  · rw [if_pos c12] at h
    refine r_iinc (v := 1) (q := 97) (L' := [some (.inr 0), some (.inl x1), some (.inl x2), some (.inl x3), some (.inl (x4 + 1)), some (.inl z0)]) dX11_check_94 (by decide) (by decide) rfl rfl rfl ?_
    refine r_goto 36 dX11_check_97 (by decide) ?_
    refine r_forget (L' := [some (.inr 0), some (.inl x1), some (.inl x2), some (.inl x3), some (.inl (x4 + 1)), none]) [true, true, true, true, true, false] rfl ?_
    cases h
    have hk := kb _ rfl
    exact hk
  · rw [if_neg c12] at h
    refine r_iload (q := 93) dX11_check_91 rfl rfl ?_
    refine r_istore_n (q := 94) (L' := [some (.inr 0), some (.inl x1), some (.inl x2), some (.inl x4), some (.inl x4), some (.inl z0)]) dX11_check_93 (by decide) rfl rfl ?_
    refine r_iinc (v := 1) (q := 97) (L' := [some (.inr 0), some (.inl x1), some (.inl x2), some (.inl x4), some (.inl (x4 + 1)), some (.inl z0)]) dX11_check_94 (by decide) (by decide) rfl rfl rfl ?_
    refine r_goto 36 dX11_check_97 (by decide) ?_
    refine r_forget (L' := [some (.inr 0), some (.inl x1), some (.inl x2), some (.inl x4), some (.inl (x4 + 1)), none]) [true, true, true, true, true, false] rfl ?_
    cases h
    have hk := kb _ rfl
    exact hk
noncomputable def X11_check_l36 (x1 : Int32) (x2 : Int32) (s : (Int32 × Int32 × mm_M)) : Option ((Int32 × Int32 × mm_M) ⊕ (Int32 × mm_M)) := if x2 ≤ s.2.1 then mm_let (X7_clear s.2.2) fun y7 => some (.inr (s.1, y7)) else if s.1 = (-1) then if (X8_has 7 s.2.1 s.2.2) = true then X11_check_j75l36 x1 x2 s.1 s.2.1 (X8_answer x1 s.2.1 s.2.2) s.2.2 else X11_check_j75l36 x1 x2 s.1 s.2.1 255 s.2.2 else mm_let (X7_clear s.2.2) fun y14 => some (.inr (s.1, y14))
set_option maxRecDepth 100000 in
set_option maxHeartbeats 400000 in
theorem t_X11_check_l36 {D : mm_D} {d : Nat} (hd : 1 ≤ d) {Z : Option Int32 → List mm_C → mm_M → Prop} (x1 : Int32) (x2 : Int32) (n : Nat) (s : (Int32 × Int32 × mm_M)) (r : (Int32 × mm_M)) (h : mm_loop (X11_check_l36 x1 x2) n s = some r) (hx : Z (some r.1) S_c r.2) : mm_Go jX11_check D d 0 0 36 [some (.inr 0), some (.inl x1), some (.inl x2), some (.inl s.1), some (.inl s.2.1), none] [] S_c s.2.2 Z := by
  refine mm_loop_go (step := X11_check_l36 x1 x2) (Hd := fun (s : (Int32 × Int32 × mm_M)) => mm_Go jX11_check D d 0 0 36 [some (.inr 0), some (.inl x1), some (.inl x2), some (.inl s.1), some (.inl s.2.1), none] [] S_c s.2.2 Z) (Ex := fun (r : (Int32 × mm_M)) => Z (some r.1) S_c r.2) ?_ n s r h hx
  intro s o h kb ke
  show mm_Go jX11_check D d 0 0 36 [some (.inr 0), some (.inl x1), some (.inl x2), some (.inl s.1), some (.inl s.2.1), none] [] S_c s.2.2 Z
  unfold X11_check_l36 at h
  refine r_iload (q := 38) dX11_check_36 rfl rfl ?_
  refine r_iload_n (q := 39) dX11_check_38 rfl rfl ?_
  refine r_icmp_ge 100 (q := 42) dX11_check_39 (by decide) rfl (fun c5 => ?_) (fun c5 => ?_)
  · rw [if_pos c5] at h
    refine r_aload_n (q := 101) dX11_check_100 rfl rfl ?_
    refine r_getr (b := 1) (q := 104) lk_X11_12 dX11_check_101 sc_c_0 rfl rfl ?_
    obtain ⟨y7, e6, h⟩ := mm_let_elim h
    refine r_callV_v (av := []) (st := []) (q := 107) (d1 := 0) kc_X11_121 sc_c_1 dX11_check_104 rfl rfl (Nat.le_of_ble_eq_true rfl) (Nat.le_of_ble_eq_true rfl) (by omega) rfl rfl (t_X7_clear (d := 0) (by omega) s.2.2 _ e6) ?_
    refine r_iload_n (q := 108) dX11_check_107 rfl rfl ?_
    cases h
    have hk := ke _ rfl
    exact r_ret dX11_check_108 rfl hk
  · rw [if_neg c5] at h
    refine r_iload_n (q := 43) dX11_check_42 rfl rfl ?_
    refine r_iconst (v := (-1)) (q := 44) dX11_check_43 (by decide) rfl ?_
    refine r_icmp_ne 100 (q := 47) dX11_check_44 (by decide) rfl (fun c8 => ?_) (fun c8 => ?_)
    · rw [if_neg c8] at h
      refine r_aload_n (q := 101) dX11_check_100 rfl rfl ?_
      refine r_getr (b := 1) (q := 104) lk_X11_12 dX11_check_101 sc_c_0 rfl rfl ?_
      obtain ⟨y14, e13, h⟩ := mm_let_elim h
      refine r_callV_v (av := []) (st := []) (q := 107) (d1 := 0) kc_X11_121 sc_c_1 dX11_check_104 rfl rfl (Nat.le_of_ble_eq_true rfl) (Nat.le_of_ble_eq_true rfl) (by omega) rfl rfl (t_X7_clear (d := 0) (by omega) s.2.2 _ e13) ?_
      refine r_iload_n (q := 108) dX11_check_107 rfl rfl ?_
      cases h
      have hk := ke _ rfl
      exact r_ret dX11_check_108 rfl hk
    · rw [if_pos c8] at h
      refine r_aload_n (q := 48) dX11_check_47 rfl rfl ?_
      refine r_getr (b := 7) (q := 51) lk_X11_42 dX11_check_48 sc_c_0 rfl rfl ?_
      refine r_iload (q := 53) dX11_check_51 rfl rfl ?_
      refine r_callV_i (av := [(.inl s.2.1)]) (st := []) (q := 56) (d1 := 0) kc_X11_87 sc_c_7 dX11_check_53 rfl rfl (Nat.le_of_ble_eq_true rfl) (Nat.le_of_ble_eq_true rfl) (by omega) rfl rfl (t_X8_has_7 (d := 0) (by omega) s.2.1 s.2.2 _ rfl) ?_
      refine r_if_eq 72 (q := 59) dX11_check_56 (by decide) rfl (fun c9 => ?_) (fun c9 => ?_)
      · rw [if_neg (mm_b0 c9)] at h
        refine r_sipush (v := 255) (q := 75) dX11_check_72 (by decide) rfl ?_
        exact t_X11_check_j75l36 hd x1 x2 s.1 s.2.1 255 s.2.2 _ h kb ke
      · rw [if_pos (mm_b1 c9)] at h
        refine r_aload_n (q := 60) dX11_check_59 rfl rfl ?_
        refine r_getr (b := 7) (q := 63) lk_X11_42 dX11_check_60 sc_c_0 rfl rfl ?_
        refine r_iload_n (q := 64) dX11_check_63 rfl rfl ?_
        refine r_iload (q := 66) dX11_check_64 rfl rfl ?_
        refine r_callV_i (av := [(.inl x1), (.inl s.2.1)]) (st := []) (q := 69) (d1 := 0) kc_X11_182 sc_c_7 dX11_check_66 rfl rfl (Nat.le_of_ble_eq_true rfl) (Nat.le_of_ble_eq_true rfl) (by omega) rfl rfl (t_X8_answer (d := 0) (by omega) x1 s.2.1 s.2.2 _ rfl) ?_
        refine r_goto 75 dX11_check_69 (by decide) ?_
        exact t_X11_check_j75l36 hd x1 x2 s.1 s.2.1 (X8_answer x1 s.2.1 s.2.2) s.2.2 _ h kb ke
noncomputable def X11_check (x1 : Int32) (x2 : Int32) (M : mm_M) : Option (Int32 × mm_M) := if (X11_isQuestion x1) = true then if x2 < 0 then some ((-2), M) else if 10 < x2 then some ((-2), M) else if x2 ≤ (M 1 1) then (mm_loop (X11_check_l36 x1 x2) mm_fuel ((-1), 0, M)) else some ((-2), M) else some ((-2), M)
set_option maxRecDepth 100000 in
set_option maxHeartbeats 400000 in
theorem t_X11_check {d : Nat} (hd : 1 ≤ d) (x1 : Int32) (x2 : Int32) (M : mm_M) (res : (Int32 × mm_M)) (h : X11_check x1 x2 M = some res) : mm_Meth jX11_check d 0 0 [(.inr 0), (.inl x1), (.inl x2)] S_c M (mm_Zi res.1 S_c res.2) := by
  refine r_meth (L := [some (.inr 0), some (.inl x1), some (.inl x2), none, none, none]) rfl (fun D => ?_)
  unfold X11_check at h
  refine r_iload_n (q := 1) dX11_check_0 rfl rfl ?_
  refine r_callS_i (av := [(.inl x1)]) (st := []) (q := 4) (d1 := 0) kc_X11_95 dX11_check_1 rfl rfl (Nat.le_of_ble_eq_true rfl) (Nat.le_of_ble_eq_true rfl) (by omega) rfl rfl (t_X11_isQuestion (d := 0) (by omega) x1 M _ rfl) ?_
  refine r_if_eq 28 (q := 7) dX11_check_4 (by decide) rfl (fun c1 => ?_) (fun c1 => ?_)
  · rw [if_neg (mm_b0 c1)] at h
    refine r_bipush (v := (-2)) (q := 30) dX11_check_28 (by decide) rfl ?_
    cases h
    exact r_ret dX11_check_30 rfl mm_Zi_rfl
  · rw [if_pos (mm_b1 c1)] at h
    refine r_iload_n (q := 8) dX11_check_7 rfl rfl ?_
    refine r_if_lt 28 (q := 11) dX11_check_8 (by decide) rfl (fun c2 => ?_) (fun c2 => ?_)
    · rw [if_pos c2] at h
      refine r_bipush (v := (-2)) (q := 30) dX11_check_28 (by decide) rfl ?_
      cases h
      exact r_ret dX11_check_30 rfl mm_Zi_rfl
    · rw [if_neg c2] at h
      refine r_iload_n (q := 12) dX11_check_11 rfl rfl ?_
      refine r_bipush (v := 10) (q := 14) dX11_check_12 (by decide) rfl ?_
      refine r_icmp_gt 28 (q := 17) dX11_check_14 (by decide) rfl (fun c3 => ?_) (fun c3 => ?_)
      · rw [if_pos c3] at h
        refine r_bipush (v := (-2)) (q := 30) dX11_check_28 (by decide) rfl ?_
        cases h
        exact r_ret dX11_check_30 rfl mm_Zi_rfl
      · rw [if_neg c3] at h
        refine r_aload_n (q := 18) dX11_check_17 rfl rfl ?_
        refine r_getr (b := 1) (q := 21) lk_X11_12 dX11_check_18 sc_c_0 rfl rfl ?_
        refine r_geti (v := (M 1 1)) (q := 24) lk_X11_101 dX11_check_21 sc_c_1 rfl rfl rfl ?_
        refine r_iload_n (q := 25) dX11_check_24 rfl rfl ?_
        refine r_icmp_ge 31 (q := 28) dX11_check_25 (by decide) rfl (fun c4 => ?_) (fun c4 => ?_)
        · rw [if_pos c4] at h
          refine r_iconst (v := (-1)) (q := 32) dX11_check_31 (by decide) rfl ?_
          refine r_istore_n (q := 33) (L' := [some (.inr 0), some (.inl x1), some (.inl x2), some (.inl (-1)), none, none]) dX11_check_32 (by decide) rfl rfl ?_
          refine r_iconst (v := 0) (q := 34) dX11_check_33 (by decide) rfl ?_
          refine r_istore (q := 36) (L' := [some (.inr 0), some (.inl x1), some (.inl x2), some (.inl (-1)), some (.inl 0), none]) dX11_check_34 (by decide) rfl rfl ?_
          exact t_X11_check_l36 hd x1 x2 mm_fuel ((-1), 0, M) _ h mm_Zi_rfl
        · rw [if_neg c4] at h
          refine r_bipush (v := (-2)) (q := 30) dX11_check_28 (by decide) rfl ?_
          cases h
          exact r_ret dX11_check_30 rfl mm_Zi_rfl
noncomputable def X11_count (x1 : Int32) (M : mm_M) : Int32 := if x1 = 0 then (M 4 6) else if x1 = 1 then (M 7 0) else if x1 = 2 then (M 4 0) else if x1 = 3 then (M 4 1) else if x1 = 4 then (M 4 2) else if x1 = 5 then (M 4 3) else if x1 = 6 then (M 4 4) else if x1 = 7 then (M 4 5) else if x1 = 8 then (M 13 0) else if x1 = 9 then (M 1 1) else if x1 = 10 then (M 4 7) else (-1)
set_option maxRecDepth 100000 in
set_option maxHeartbeats 400000 in
theorem t_X11_count {d : Nat} (hd : 0 ≤ d) (x1 : Int32) (M : mm_M) (res : Int32) (h : X11_count x1 M = res) : mm_Meth jX11_count d 0 0 [(.inr 0), (.inl x1)] S_c M (mm_Zi res S_c M) := by
  refine r_meth (L := [some (.inr 0), some (.inl x1)]) rfl (fun D => ?_)
  unfold X11_count at h
  refine r_iload_n (q := 1) dX11_count_0 rfl rfl ?_
  by_cases c1 : x1 = 0
  · rw [if_pos c1] at h
    refine mm_tableIn (off := 59) 60 dX11_count_1 (by rw [c1]; decide) (by rw [c1]; decide) (by rw [c1]; rfl) (by decide) ?_
    refine r_aload_n (q := 61) dX11_count_60 rfl rfl ?_
    refine r_getr (b := 4) (q := 64) lk_X11_29 dX11_count_61 sc_c_0 rfl rfl ?_
    refine r_geti (v := (M 4 6)) (q := 67) lk_X11_283 dX11_count_64 sc_c_4 rfl rfl rfl ?_
    subst h
    exact r_ret dX11_count_67 rfl mm_Zi_rfl
  · rw [if_neg c1] at h
    by_cases c2 : x1 = 1
    · rw [if_pos c2] at h
      refine mm_tableIn (off := 67) 68 dX11_count_1 (by rw [c2]; decide) (by rw [c2]; decide) (by rw [c2]; rfl) (by decide) ?_
      refine r_aload_n (q := 69) dX11_count_68 rfl rfl ?_
      refine r_getr (b := 7) (q := 72) lk_X11_42 dX11_count_69 sc_c_0 rfl rfl ?_
      refine r_geti (v := (M 7 0)) (q := 75) lk_X11_141 dX11_count_72 sc_c_7 rfl rfl rfl ?_
      subst h
      exact r_ret dX11_count_75 rfl mm_Zi_rfl
    · rw [if_neg c2] at h
      by_cases c3 : x1 = 2
      · rw [if_pos c3] at h
        refine mm_tableIn (off := 75) 76 dX11_count_1 (by rw [c3]; decide) (by rw [c3]; decide) (by rw [c3]; rfl) (by decide) ?_
        refine r_aload_n (q := 77) dX11_count_76 rfl rfl ?_
        refine r_getr (b := 4) (q := 80) lk_X11_29 dX11_count_77 sc_c_0 rfl rfl ?_
        refine r_geti (v := (M 4 0)) (q := 83) lk_X11_91 dX11_count_80 sc_c_4 rfl rfl rfl ?_
        subst h
        exact r_ret dX11_count_83 rfl mm_Zi_rfl
      · rw [if_neg c3] at h
        by_cases c4 : x1 = 3
        · rw [if_pos c4] at h
          refine mm_tableIn (off := 83) 84 dX11_count_1 (by rw [c4]; decide) (by rw [c4]; decide) (by rw [c4]; rfl) (by decide) ?_
          refine r_aload_n (q := 85) dX11_count_84 rfl rfl ?_
          refine r_getr (b := 4) (q := 88) lk_X11_29 dX11_count_85 sc_c_0 rfl rfl ?_
          refine r_geti (v := (M 4 1)) (q := 91) lk_X11_135 dX11_count_88 sc_c_4 rfl rfl rfl ?_
          subst h
          exact r_ret dX11_count_91 rfl mm_Zi_rfl
        · rw [if_neg c4] at h
          by_cases c5 : x1 = 4
          · rw [if_pos c5] at h
            refine mm_tableIn (off := 91) 92 dX11_count_1 (by rw [c5]; decide) (by rw [c5]; decide) (by rw [c5]; rfl) (by decide) ?_
            refine r_aload_n (q := 93) dX11_count_92 rfl rfl ?_
            refine r_getr (b := 4) (q := 96) lk_X11_29 dX11_count_93 sc_c_0 rfl rfl ?_
            refine r_geti (v := (M 4 2)) (q := 99) lk_X11_138 dX11_count_96 sc_c_4 rfl rfl rfl ?_
            subst h
            exact r_ret dX11_count_99 rfl mm_Zi_rfl
          · rw [if_neg c5] at h
            by_cases c6 : x1 = 5
            · rw [if_pos c6] at h
              refine mm_tableIn (off := 99) 100 dX11_count_1 (by rw [c6]; decide) (by rw [c6]; decide) (by rw [c6]; rfl) (by decide) ?_
              refine r_aload_n (q := 101) dX11_count_100 rfl rfl ?_
              refine r_getr (b := 4) (q := 104) lk_X11_29 dX11_count_101 sc_c_0 rfl rfl ?_
              refine r_geti (v := (M 4 3)) (q := 107) lk_X11_98 dX11_count_104 sc_c_4 rfl rfl rfl ?_
              subst h
              exact r_ret dX11_count_107 rfl mm_Zi_rfl
            · rw [if_neg c6] at h
              by_cases c7 : x1 = 6
              · rw [if_pos c7] at h
                refine mm_tableIn (off := 107) 108 dX11_count_1 (by rw [c7]; decide) (by rw [c7]; decide) (by rw [c7]; rfl) (by decide) ?_
                refine r_aload_n (q := 109) dX11_count_108 rfl rfl ?_
                refine r_getr (b := 4) (q := 112) lk_X11_29 dX11_count_109 sc_c_0 rfl rfl ?_
                refine r_geti (v := (M 4 4)) (q := 115) lk_X11_289 dX11_count_112 sc_c_4 rfl rfl rfl ?_
                subst h
                exact r_ret dX11_count_115 rfl mm_Zi_rfl
              · rw [if_neg c7] at h
                by_cases c8 : x1 = 7
                · rw [if_pos c8] at h
                  refine mm_tableIn (off := 115) 116 dX11_count_1 (by rw [c8]; decide) (by rw [c8]; decide) (by rw [c8]; rfl) (by decide) ?_
                  refine r_aload_n (q := 117) dX11_count_116 rfl rfl ?_
                  refine r_getr (b := 4) (q := 120) lk_X11_29 dX11_count_117 sc_c_0 rfl rfl ?_
                  refine r_geti (v := (M 4 5)) (q := 123) lk_X11_292 dX11_count_120 sc_c_4 rfl rfl rfl ?_
                  subst h
                  exact r_ret dX11_count_123 rfl mm_Zi_rfl
                · rw [if_neg c8] at h
                  by_cases c9 : x1 = 8
                  · rw [if_pos c9] at h
                    refine mm_tableIn (off := 123) 124 dX11_count_1 (by rw [c9]; decide) (by rw [c9]; decide) (by rw [c9]; rfl) (by decide) ?_
                    refine r_aload_n (q := 125) dX11_count_124 rfl rfl ?_
                    refine r_getr (b := 13) (q := 128) lk_X11_52 dX11_count_125 sc_c_0 rfl rfl ?_
                    refine r_geti (v := (M 13 0)) (q := 131) lk_X11_127 dX11_count_128 sc_c_13 rfl rfl rfl ?_
                    subst h
                    exact r_ret dX11_count_131 rfl mm_Zi_rfl
                  · rw [if_neg c9] at h
                    by_cases c10 : x1 = 9
                    · rw [if_pos c10] at h
                      refine mm_tableIn (off := 131) 132 dX11_count_1 (by rw [c10]; decide) (by rw [c10]; decide) (by rw [c10]; rfl) (by decide) ?_
                      refine r_aload_n (q := 133) dX11_count_132 rfl rfl ?_
                      refine r_getr (b := 1) (q := 136) lk_X11_12 dX11_count_133 sc_c_0 rfl rfl ?_
                      refine r_geti (v := (M 1 1)) (q := 139) lk_X11_101 dX11_count_136 sc_c_1 rfl rfl rfl ?_
                      subst h
                      exact r_ret dX11_count_139 rfl mm_Zi_rfl
                    · rw [if_neg c10] at h
                      by_cases c11 : x1 = 10
                      · rw [if_pos c11] at h
                        refine mm_tableIn (off := 139) 140 dX11_count_1 (by rw [c11]; decide) (by rw [c11]; decide) (by rw [c11]; rfl) (by decide) ?_
                        refine r_aload_n (q := 141) dX11_count_140 rfl rfl ?_
                        refine r_getr (b := 4) (q := 144) lk_X11_29 dX11_count_141 sc_c_0 rfl rfl ?_
                        refine r_geti (v := (M 4 7)) (q := 147) lk_X11_276 dX11_count_144 sc_c_4 rfl rfl rfl ?_
                        subst h
                        exact r_ret dX11_count_147 rfl mm_Zi_rfl
                      · rw [if_neg c11] at h
                        have nc1 : (x1).toInt ≠ 0 := fun e => c1 (Int32.toInt_inj.mp (e.trans (by decide)))
                        have nc2 : (x1).toInt ≠ 1 := fun e => c2 (Int32.toInt_inj.mp (e.trans (by decide)))
                        have nc3 : (x1).toInt ≠ 2 := fun e => c3 (Int32.toInt_inj.mp (e.trans (by decide)))
                        have nc4 : (x1).toInt ≠ 3 := fun e => c4 (Int32.toInt_inj.mp (e.trans (by decide)))
                        have nc5 : (x1).toInt ≠ 4 := fun e => c5 (Int32.toInt_inj.mp (e.trans (by decide)))
                        have nc6 : (x1).toInt ≠ 5 := fun e => c6 (Int32.toInt_inj.mp (e.trans (by decide)))
                        have nc7 : (x1).toInt ≠ 6 := fun e => c7 (Int32.toInt_inj.mp (e.trans (by decide)))
                        have nc8 : (x1).toInt ≠ 7 := fun e => c8 (Int32.toInt_inj.mp (e.trans (by decide)))
                        have nc9 : (x1).toInt ≠ 8 := fun e => c9 (Int32.toInt_inj.mp (e.trans (by decide)))
                        have nc10 : (x1).toInt ≠ 9 := fun e => c10 (Int32.toInt_inj.mp (e.trans (by decide)))
                        have nc11 : (x1).toInt ≠ 10 := fun e => c11 (Int32.toInt_inj.mp (e.trans (by decide)))
                        refine mm_tableOut 148 dX11_count_1 (by omega) (by decide) ?_
                        refine r_iconst (v := (-1)) (q := 149) dX11_count_148 (by decide) rfl ?_
                        subst h
                        exact r_ret dX11_count_149 rfl mm_Zi_rfl
