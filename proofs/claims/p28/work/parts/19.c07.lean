noncomputable def X8_hasAll (x1 : Int32) (M : mm_M) : Bool := if x1 ≤ 0 then false else if (X8_everyState 7 M) < x1 then false else true
set_option maxRecDepth 100000 in
set_option maxHeartbeats 400000 in
theorem t_X8_hasAll {d : Nat} (hd : 1 ≤ d) (x1 : Int32) (M : mm_M) (res : Bool) (h : X8_hasAll x1 M = res) : mm_Meth jX8_hasAll d 0 0 [(.inr 7), (.inl x1)] S_c M (mm_Zi (mm_b res) S_c M) := by
  refine r_meth (L := [some (.inr 7), some (.inl x1)]) rfl (fun D => ?_)
  unfold X8_hasAll at h
  refine r_iload_n (q := 1) dX8_hasAll_0 rfl rfl ?_
  refine r_if_le 16 (q := 4) dX8_hasAll_1 (by decide) rfl (fun c1 => ?_) (fun c1 => ?_)
  · rw [if_pos c1] at h
    refine r_iconst (v := 0) (q := 17) dX8_hasAll_16 (by decide) rfl ?_
    subst h
    exact r_retb dX8_hasAll_17 rfl (Or.inl rfl) mm_Zi_rfl
  · rw [if_neg c1] at h
    refine r_iload_n (q := 5) dX8_hasAll_4 rfl rfl ?_
    refine r_aload_n (q := 6) dX8_hasAll_5 rfl rfl ?_
    refine r_callV_i (av := []) (st := [(.inl x1)]) (q := 9) (d1 := 0) kc_X8_22 sc_c_7 dX8_hasAll_6 rfl rfl (Nat.le_of_ble_eq_true rfl) (Nat.le_of_ble_eq_true rfl) (by omega) rfl rfl (t_X8_everyState_7 (d := 0) (by omega) M _ rfl) ?_
    refine r_icmp_gt 16 (q := 12) dX8_hasAll_9 (by decide) rfl (fun c2 => ?_) (fun c2 => ?_)
    · rw [if_pos c2] at h
      refine r_iconst (v := 0) (q := 17) dX8_hasAll_16 (by decide) rfl ?_
      subst h
      exact r_retb dX8_hasAll_17 rfl (Or.inl rfl) mm_Zi_rfl
    · rw [if_neg c2] at h
      refine r_iconst (v := 1) (q := 13) dX8_hasAll_12 (by decide) rfl ?_
      refine r_goto 17 dX8_hasAll_13 (by decide) ?_
      subst h
      exact r_retb dX8_hasAll_17 rfl (Or.inr rfl) mm_Zi_rfl
noncomputable def X8_telling_l12 (x2 : Int32) (M : mm_M) (s : (Int32 × Int32)) : Option ((Int32 × Int32) ⊕ Int32) := if (M 7 0) ≤ s.2 then some (.inr s.1) else if (X8_behind x2 s.2 M) = s.2 then if (X8_answer x2 s.2 M) = (X8_answer x2 0 M) then some (.inl (s.1, (s.2 + 1))) else some (.inl ((s.1 ||| ((1 : Int32) <<< (x2 &&& 31))), (s.2 + 1))) else some (.inl ((s.1 ||| ((1 : Int32) <<< (x2 &&& 31))), (s.2 + 1)))
set_option maxRecDepth 100000 in
set_option maxHeartbeats 400000 in
theorem t_X8_telling_l12 {D : mm_D} {d : Nat} (hd : 1 ≤ d) {Z : Option Int32 → List mm_C → mm_M → Prop} (x2 : Int32) (M : mm_M) (n : Nat) (s : (Int32 × Int32)) (r : Int32) (h : mm_loop (X8_telling_l12 x2 M) n s = some r) (hx : mm_Go jX8_telling D d 0 0 57 [some (.inr 7), some (.inl r), some (.inl x2), none] [] S_c M Z) : mm_Go jX8_telling D d 0 0 12 [some (.inr 7), some (.inl s.1), some (.inl x2), some (.inl s.2)] [] S_c M Z := by
  refine mm_loop_go (step := X8_telling_l12 x2 M) (Hd := fun (s : (Int32 × Int32)) => mm_Go jX8_telling D d 0 0 12 [some (.inr 7), some (.inl s.1), some (.inl x2), some (.inl s.2)] [] S_c M Z) (Ex := fun (r : Int32) => mm_Go jX8_telling D d 0 0 57 [some (.inr 7), some (.inl r), some (.inl x2), none] [] S_c M Z) ?_ n s r h hx
  intro s o h kb ke
  show mm_Go jX8_telling D d 0 0 12 [some (.inr 7), some (.inl s.1), some (.inl x2), some (.inl s.2)] [] S_c M Z
  unfold X8_telling_l12 at h
  refine r_iload_n (q := 13) dX8_telling_12 rfl rfl ?_
  refine r_aload_n (q := 14) dX8_telling_13 rfl rfl ?_
  refine r_geti (v := (M 7 0)) (q := 17) lk_X8_18 dX8_telling_14 sc_c_7 rfl rfl rfl ?_
  refine r_icmp_ge 57 (q := 20) dX8_telling_17 (by decide) rfl (fun c2 => ?_) (fun c2 => ?_)
  · rw [if_pos c2] at h
    refine r_forget (L' := [some (.inr 7), some (.inl s.1), some (.inl x2), none]) [true, true, true, false] rfl ?_
    cases h
    have hk := ke _ rfl
    exact hk
  · rw [if_neg c2] at h
    refine r_aload_n (q := 21) dX8_telling_20 rfl rfl ?_
    refine r_iload_n (q := 22) dX8_telling_21 rfl rfl ?_
    refine r_iload_n (q := 23) dX8_telling_22 rfl rfl ?_
    refine r_callV_i (av := [(.inl x2), (.inl s.2)]) (st := []) (q := 26) (d1 := 0) kc_X8_26 sc_c_7 dX8_telling_23 rfl rfl (Nat.le_of_ble_eq_true rfl) (Nat.le_of_ble_eq_true rfl) (by omega) rfl rfl (t_X8_behind (d := 0) (by omega) x2 s.2 M _ rfl) ?_
    refine r_iload_n (q := 27) dX8_telling_26 rfl rfl ?_
    refine r_icmp_ne 45 (q := 30) dX8_telling_27 (by decide) rfl (fun c3 => ?_) (fun c3 => ?_)
    · rw [if_neg c3] at h
      refine r_iload_n (q := 46) dX8_telling_45 rfl rfl ?_
      refine r_iconst (v := 1) (q := 47) dX8_telling_46 (by decide) rfl ?_
      refine r_iload_n (q := 48) dX8_telling_47 rfl rfl ?_
      refine r_ishl (q := 49) dX8_telling_48 rfl ?_
      refine r_ior (q := 50) dX8_telling_49 rfl ?_
      refine r_istore_n (q := 51) (L' := [some (.inr 7), some (.inl (s.1 ||| ((1 : Int32) <<< (x2 &&& 31)))), some (.inl x2), some (.inl s.2)]) dX8_telling_50 (by decide) rfl rfl ?_
      refine r_iinc (v := 1) (q := 54) (L' := [some (.inr 7), some (.inl (s.1 ||| ((1 : Int32) <<< (x2 &&& 31)))), some (.inl x2), some (.inl (s.2 + 1))]) dX8_telling_51 (by decide) (by decide) rfl rfl rfl ?_
      refine r_goto 12 dX8_telling_54 (by decide) ?_
      cases h
      have hk := kb _ rfl
      exact hk
    · rw [if_pos c3] at h
      refine r_aload_n (q := 31) dX8_telling_30 rfl rfl ?_
      refine r_iload_n (q := 32) dX8_telling_31 rfl rfl ?_
      refine r_iload_n (q := 33) dX8_telling_32 rfl rfl ?_
      refine r_callV_i (av := [(.inl x2), (.inl s.2)]) (st := []) (q := 36) (d1 := 0) kc_X8_30 sc_c_7 dX8_telling_33 rfl rfl (Nat.le_of_ble_eq_true rfl) (Nat.le_of_ble_eq_true rfl) (by omega) rfl rfl (t_X8_answer (d := 0) (by omega) x2 s.2 M _ rfl) ?_
      refine r_aload_n (q := 37) dX8_telling_36 rfl rfl ?_
      refine r_iload_n (q := 38) dX8_telling_37 rfl rfl ?_
      refine r_iconst (v := 0) (q := 39) dX8_telling_38 (by decide) rfl ?_
      refine r_callV_i (av := [(.inl x2), (.inl 0)]) (st := [(.inl (X8_answer x2 s.2 M))]) (q := 42) (d1 := 0) kc_X8_30 sc_c_7 dX8_telling_39 rfl rfl (Nat.le_of_ble_eq_true rfl) (Nat.le_of_ble_eq_true rfl) (by omega) rfl rfl (t_X8_answer (d := 0) (by omega) x2 0 M _ rfl) ?_
      refine r_icmp_eq 51 (q := 45) dX8_telling_42 (by decide) rfl (fun c4 => ?_) (fun c4 => ?_)
      · rw [if_pos c4] at h
        refine r_iinc (v := 1) (q := 54) (L' := [some (.inr 7), some (.inl s.1), some (.inl x2), some (.inl (s.2 + 1))]) dX8_telling_51 (by decide) (by decide) rfl rfl rfl ?_
        refine r_goto 12 dX8_telling_54 (by decide) ?_
        cases h
        have hk := kb _ rfl
        exact hk
      · rw [if_neg c4] at h
        refine r_iload_n (q := 46) dX8_telling_45 rfl rfl ?_
        refine r_iconst (v := 1) (q := 47) dX8_telling_46 (by decide) rfl ?_
        refine r_iload_n (q := 48) dX8_telling_47 rfl rfl ?_
        refine r_ishl (q := 49) dX8_telling_48 rfl ?_
        refine r_ior (q := 50) dX8_telling_49 rfl ?_
        refine r_istore_n (q := 51) (L' := [some (.inr 7), some (.inl (s.1 ||| ((1 : Int32) <<< (x2 &&& 31)))), some (.inl x2), some (.inl s.2)]) dX8_telling_50 (by decide) rfl rfl ?_
        refine r_iinc (v := 1) (q := 54) (L' := [some (.inr 7), some (.inl (s.1 ||| ((1 : Int32) <<< (x2 &&& 31)))), some (.inl x2), some (.inl (s.2 + 1))]) dX8_telling_51 (by decide) (by decide) rfl rfl rfl ?_
        refine r_goto 12 dX8_telling_54 (by decide) ?_
        cases h
        have hk := kb _ rfl
        exact hk
noncomputable def X8_telling_l4 (M : mm_M) (s : (Int32 × Int32)) : Option ((Int32 × Int32) ⊕ Int32) := if 8 ≤ s.2 then some (.inr s.1) else (mm_loop (X8_telling_l12 s.2 M) mm_fuel (s.1, 0)).bind fun y5 => some (.inl (y5, (s.2 + 1)))
set_option maxRecDepth 100000 in
set_option maxHeartbeats 400000 in
theorem t_X8_telling_l4 {D : mm_D} {d : Nat} (hd : 1 ≤ d) {Z : Option Int32 → List mm_C → mm_M → Prop} (M : mm_M) (n : Nat) (s : (Int32 × Int32)) (r : Int32) (h : mm_loop (X8_telling_l4 M) n s = some r) (hx : Z (some r) S_c M) : mm_Go jX8_telling D d 0 0 4 [some (.inr 7), some (.inl s.1), some (.inl s.2), none] [] S_c M Z := by
  refine mm_loop_go (step := X8_telling_l4 M) (Hd := fun (s : (Int32 × Int32)) => mm_Go jX8_telling D d 0 0 4 [some (.inr 7), some (.inl s.1), some (.inl s.2), none] [] S_c M Z) (Ex := fun (r : Int32) => Z (some r) S_c M) ?_ n s r h hx
  intro s o h kb ke
  show mm_Go jX8_telling D d 0 0 4 [some (.inr 7), some (.inl s.1), some (.inl s.2), none] [] S_c M Z
  unfold X8_telling_l4 at h
  refine r_iload_n (q := 5) dX8_telling_4 rfl rfl ?_
  refine r_bipush (v := 8) (q := 7) dX8_telling_5 (by decide) rfl ?_
  refine r_icmp_ge 63 (q := 10) dX8_telling_7 (by decide) rfl (fun c1 => ?_) (fun c1 => ?_)
  · rw [if_pos c1] at h
    refine r_iload_n (q := 64) dX8_telling_63 rfl rfl ?_
    cases h
    have hk := ke _ rfl
    exact r_ret dX8_telling_64 rfl hk
  · rw [if_neg c1] at h
    refine r_iconst (v := 0) (q := 11) dX8_telling_10 (by decide) rfl ?_
    refine r_istore_n (q := 12) (L' := [some (.inr 7), some (.inl s.1), some (.inl s.2), some (.inl 0)]) dX8_telling_11 (by decide) rfl rfl ?_
    obtain ⟨y5, e6, h⟩ := Option.bind_eq_some_iff.mp h
    refine t_X8_telling_l12 hd s.2 M mm_fuel (s.1, 0) _ e6 ?_
    show mm_Go jX8_telling _ _ _ _ 57 [some (.inr 7), some (.inl y5), some (.inl s.2), none] [] S_c M _
    refine r_iinc (v := 1) (q := 60) (L' := [some (.inr 7), some (.inl y5), some (.inl (s.2 + 1)), none]) dX8_telling_57 (by decide) (by decide) rfl rfl rfl ?_
    refine r_goto 4 dX8_telling_60 (by decide) ?_
    cases h
    have hk := kb _ rfl
    exact hk
noncomputable def X8_telling (M : mm_M) : Option Int32 := (mm_loop (X8_telling_l4 M) mm_fuel (0, 0))
set_option maxRecDepth 100000 in
set_option maxHeartbeats 400000 in
theorem t_X8_telling {d : Nat} (hd : 1 ≤ d) (M : mm_M) (res : Int32) (h : X8_telling M = some res) : mm_Meth jX8_telling d 0 0 [(.inr 7)] S_c M (mm_Zi res S_c M) := by
  refine r_meth (L := [some (.inr 7), none, none, none]) rfl (fun D => ?_)
  unfold X8_telling at h
  refine r_iconst (v := 0) (q := 1) dX8_telling_0 (by decide) rfl ?_
  refine r_istore_n (q := 2) (L' := [some (.inr 7), some (.inl 0), none, none]) dX8_telling_1 (by decide) rfl rfl ?_
  refine r_iconst (v := 0) (q := 3) dX8_telling_2 (by decide) rfl ?_
  refine r_istore_n (q := 4) (L' := [some (.inr 7), some (.inl 0), some (.inl 0), none]) dX8_telling_3 (by decide) rfl rfl ?_
  exact t_X8_telling_l4 hd M mm_fuel (0, 0) _ h mm_Zi_rfl
noncomputable def X5_enterOpen (x1 : Int32) (M : mm_M) : Option mm_M := if (J6_bitCount_0f7a4 x1) = 1 then (X5_enter x1 0 (-1) M).bind fun y3 => some y3 else (X5_enter x1 1024 (-1) M).bind fun y5 => some y5
set_option maxRecDepth 100000 in
set_option maxHeartbeats 400000 in
theorem t_X5_enterOpen {d : Nat} (hd : 1 ≤ d) (x1 : Int32) (M : mm_M) (res : mm_M) (h : X5_enterOpen x1 M = some res) : mm_Meth jX5_enterOpen d 0 0 [(.inr 36), (.inl x1)] S_c M (mm_Zv S_c res) := by
  refine r_meth (L := [some (.inr 36), some (.inl x1)]) rfl (fun D => ?_)
  unfold X5_enterOpen at h
  refine r_aload_n (q := 1) dX5_enterOpen_0 rfl rfl ?_
  refine r_iload_n (q := 2) dX5_enterOpen_1 rfl rfl ?_
  refine r_iload_n (q := 3) dX5_enterOpen_2 rfl rfl ?_
  refine r_callS_i (av := [(.inl x1)]) (st := [(.inl x1), (.inr 36)]) (q := 6) (d1 := 0) kc_X5_69 dX5_enterOpen_3 rfl rfl (Nat.le_of_ble_eq_true rfl) (Nat.le_of_ble_eq_true rfl) (by omega) rfl rfl (t_J6_bitCount_0f7a4 (d := 0) (by omega) x1 M _ rfl) ?_
  refine r_iconst (v := 1) (q := 7) dX5_enterOpen_6 (by decide) rfl ?_
  refine r_icmp_ne 14 (q := 10) dX5_enterOpen_7 (by decide) rfl (fun c1 => ?_) (fun c1 => ?_)
  · rw [if_neg c1] at h
    refine r_sipush (v := 1024) (q := 17) dX5_enterOpen_14 (by decide) rfl ?_
    refine r_iconst (v := (-1)) (q := 18) dX5_enterOpen_17 (by decide) rfl ?_
    obtain ⟨y5, e4, h⟩ := Option.bind_eq_some_iff.mp h
    refine r_callV_v (av := [(.inl x1), (.inl 1024), (.inl (-1))]) (st := []) (q := 21) (d1 := 0) kc_X5_65 sc_c_36 dX5_enterOpen_18 rfl rfl (Nat.le_of_ble_eq_true rfl) (Nat.le_of_ble_eq_true rfl) (by omega) rfl rfl (t_X5_enter (d := 0) (by omega) x1 1024 (-1) M _ e4) ?_
    cases h
    exact r_retv dX5_enterOpen_21 rfl mm_Zv_rfl
  · rw [if_pos c1] at h
    refine r_iconst (v := 0) (q := 11) dX5_enterOpen_10 (by decide) rfl ?_
    refine r_goto 17 dX5_enterOpen_11 (by decide) ?_
    refine r_iconst (v := (-1)) (q := 18) dX5_enterOpen_17 (by decide) rfl ?_
    obtain ⟨y3, e2, h⟩ := Option.bind_eq_some_iff.mp h
    refine r_callV_v (av := [(.inl x1), (.inl 0), (.inl (-1))]) (st := []) (q := 21) (d1 := 0) kc_X5_65 sc_c_36 dX5_enterOpen_18 rfl rfl (Nat.le_of_ble_eq_true rfl) (Nat.le_of_ble_eq_true rfl) (by omega) rfl rfl (t_X5_enter (d := 0) (by omega) x1 0 (-1) M _ e2) ?_
    cases h
    exact r_retv dX5_enterOpen_21 rfl mm_Zv_rfl
noncomputable def X5_split_l11 (x2 : Int32) (x3 : Int32) (s : (Int32 × mm_M)) : Option ((Int32 × mm_M) ⊕ mm_M) := if (s.2 7 0) ≤ s.1 then some (.inr s.2) else if ((x2 >>> (s.1 &&& 31)) &&& 1) = 0 then some (.inl ((s.1 + 1), s.2)) else if (X8_answer x3 s.1 s.2) < 0 then some (.inl ((s.1 + 1), s.2)) else if 9 < (X8_answer x3 s.1 s.2) then some (.inl ((s.1 + 1), s.2)) else if mm_in (X8_answer x3 s.1 s.2) 10 = true then if mm_in (X8_answer x3 s.1 s.2) 10 = true then some (.inl ((s.1 + 1), (mm_U s.2 40 (Int32.toNatClampNeg (X8_answer x3 s.1 s.2)) ((s.2 40 (Int32.toNatClampNeg (X8_answer x3 s.1 s.2))) ||| ((1 : Int32) <<< ((X8_behind x3 s.1 s.2) &&& 31)))))) else none else none
set_option maxRecDepth 100000 in
set_option maxHeartbeats 400000 in
theorem t_X5_split_l11 {D : mm_D} {d : Nat} (hd : 1 ≤ d) {Z : Option Int32 → List mm_C → mm_M → Prop} (x2 : Int32) (x3 : Int32) (n : Nat) (s : (Int32 × mm_M)) (r : mm_M) (h : mm_loop (X5_split_l11 x2 x3) n s = some r) (hx : Z none S_c r) : mm_Go jX5_split D d 0 0 11 [some (.inr 36), some (.inr 7), some (.inl x2), some (.inl x3), some (.inl s.1), none] [] S_c s.2 Z := by
  refine mm_loop_go (step := X5_split_l11 x2 x3) (Hd := fun (s : (Int32 × mm_M)) => mm_Go jX5_split D d 0 0 11 [some (.inr 36), some (.inr 7), some (.inl x2), some (.inl x3), some (.inl s.1), none] [] S_c s.2 Z) (Ex := fun (r : mm_M) => Z none S_c r) ?_ n s r h hx
  intro s o h kb ke
  show mm_Go jX5_split D d 0 0 11 [some (.inr 36), some (.inr 7), some (.inl x2), some (.inl x3), some (.inl s.1), none] [] S_c s.2 Z
  unfold X5_split_l11 at h
  refine r_iload (q := 13) dX5_split_11 rfl rfl ?_
  refine r_aload_n (q := 14) dX5_split_13 rfl rfl ?_
  refine r_geti (v := (s.2 7 0)) (q := 17) lk_X5_81 dX5_split_14 sc_c_7 rfl rfl rfl ?_
  refine r_icmp_ge 75 (q := 20) dX5_split_17 (by decide) rfl (fun c3 => ?_) (fun c3 => ?_)
  · rw [if_pos c3] at h
    cases h
    have hk := ke _ rfl
    exact r_retv dX5_split_75 rfl hk
  · rw [if_neg c3] at h
    refine r_aload_n (q := 21) dX5_split_20 rfl rfl ?_
    refine r_iload_n (q := 22) dX5_split_21 rfl rfl ?_
    refine r_iload (q := 24) dX5_split_22 rfl rfl ?_
    refine r_callV_i (av := [(.inl x3), (.inl s.1)]) (st := []) (q := 27) (d1 := 0) kc_X5_113 sc_c_7 dX5_split_24 rfl rfl (Nat.le_of_ble_eq_true rfl) (Nat.le_of_ble_eq_true rfl) (by omega) rfl rfl (t_X8_answer (d := 0) (by omega) x3 s.1 s.2 _ rfl) ?_
    refine r_istore (q := 29) (L' := [some (.inr 36), some (.inr 7), some (.inl x2), some (.inl x3), some (.inl s.1), some (.inl (X8_answer x3 s.1 s.2))]) dX5_split_27 (by decide) rfl rfl ?_
    refine r_iload_n (q := 30) dX5_split_29 rfl rfl ?_
    refine r_iload (q := 32) dX5_split_30 rfl rfl ?_
    refine r_ishr (q := 33) dX5_split_32 rfl ?_
    refine r_iconst (v := 1) (q := 34) dX5_split_33 (by decide) rfl ?_
    refine r_iand (q := 35) dX5_split_34 rfl ?_
    refine r_if_eq 69 (q := 38) dX5_split_35 (by decide) rfl (fun c4 => ?_) (fun c4 => ?_)
    · rw [if_pos c4] at h
      refine r_iinc (v := 1) (q := 72) (L' := [some (.inr 36), some (.inr 7), some (.inl x2), some (.inl x3), some (.inl (s.1 + 1)), some (.inl (X8_answer x3 s.1 s.2))]) dX5_split_69 (by decide) (by decide) rfl rfl rfl ?_
      refine r_goto 11 dX5_split_72 (by decide) ?_
      refine r_forget (L' := [some (.inr 36), some (.inr 7), some (.inl x2), some (.inl x3), some (.inl (s.1 + 1)), none]) [true, true, true, true, true, false] rfl ?_
      cases h
      have hk := kb _ rfl
      exact hk
    · rw [if_neg c4] at h
      refine r_iload (q := 40) dX5_split_38 rfl rfl ?_
      refine r_if_lt 69 (q := 43) dX5_split_40 (by decide) rfl (fun c5 => ?_) (fun c5 => ?_)
      · rw [if_pos c5] at h
        refine r_iinc (v := 1) (q := 72) (L' := [some (.inr 36), some (.inr 7), some (.inl x2), some (.inl x3), some (.inl (s.1 + 1)), some (.inl (X8_answer x3 s.1 s.2))]) dX5_split_69 (by decide) (by decide) rfl rfl rfl ?_
        refine r_goto 11 dX5_split_72 (by decide) ?_
        refine r_forget (L' := [some (.inr 36), some (.inr 7), some (.inl x2), some (.inl x3), some (.inl (s.1 + 1)), none]) [true, true, true, true, true, false] rfl ?_
        cases h
        have hk := kb _ rfl
        exact hk
      · rw [if_neg c5] at h
        refine r_iload (q := 45) dX5_split_43 rfl rfl ?_
        refine r_bipush (v := 9) (q := 47) dX5_split_45 (by decide) rfl ?_
        refine r_icmp_gt 69 (q := 50) dX5_split_47 (by decide) rfl (fun c6 => ?_) (fun c6 => ?_)
        · rw [if_pos c6] at h
          refine r_iinc (v := 1) (q := 72) (L' := [some (.inr 36), some (.inr 7), some (.inl x2), some (.inl x3), some (.inl (s.1 + 1)), some (.inl (X8_answer x3 s.1 s.2))]) dX5_split_69 (by decide) (by decide) rfl rfl rfl ?_
          refine r_goto 11 dX5_split_72 (by decide) ?_
          refine r_forget (L' := [some (.inr 36), some (.inr 7), some (.inl x2), some (.inl x3), some (.inl (s.1 + 1)), none]) [true, true, true, true, true, false] rfl ?_
          cases h
          have hk := kb _ rfl
          exact hk
        · rw [if_neg c6] at h
          refine r_aload_n (q := 51) dX5_split_50 rfl rfl ?_
          refine r_getr (b := 40) (q := 54) lk_X5_21 dX5_split_51 sc_c_36 rfl rfl ?_
          refine r_iload (q := 56) dX5_split_54 rfl rfl ?_
          refine r_dup2 (q := 57) dX5_split_56 rfl ?_
          obtain ⟨g7, h⟩ := mm_guard h
          refine r_iald (v := (s.2 40 (Int32.toNatClampNeg (X8_answer x3 s.1 s.2)))) (q := 58) dX5_split_57 sc_c_40 (mm_vp g7) rfl rfl ?_
          refine r_iconst (v := 1) (q := 59) dX5_split_58 (by decide) rfl ?_
          refine r_aload_n (q := 60) dX5_split_59 rfl rfl ?_
          refine r_iload_n (q := 61) dX5_split_60 rfl rfl ?_
          refine r_iload (q := 63) dX5_split_61 rfl rfl ?_
          refine r_callV_i (av := [(.inl x3), (.inl s.1)]) (st := [(.inl 1), (.inl (s.2 40 (Int32.toNatClampNeg (X8_answer x3 s.1 s.2)))), (.inl (X8_answer x3 s.1 s.2)), (.inr 40)]) (q := 66) (d1 := 0) kc_X5_84 sc_c_7 dX5_split_63 rfl rfl (Nat.le_of_ble_eq_true rfl) (Nat.le_of_ble_eq_true rfl) (by omega) rfl rfl (t_X8_behind (d := 0) (by omega) x3 s.1 s.2 _ rfl) ?_
          refine r_ishl (q := 67) dX5_split_66 rfl ?_
          refine r_ior (q := 68) dX5_split_67 rfl ?_
          obtain ⟨g8, h⟩ := mm_guard h
          refine r_iast (j := (Int32.toNatClampNeg (X8_answer x3 s.1 s.2))) (q := 69) dX5_split_68 sc_c_40 (mm_vp g8) rfl rfl ?_
          refine r_iinc (v := 1) (q := 72) (L' := [some (.inr 36), some (.inr 7), some (.inl x2), some (.inl x3), some (.inl (s.1 + 1)), some (.inl (X8_answer x3 s.1 s.2))]) dX5_split_69 (by decide) (by decide) rfl rfl rfl ?_
          refine r_goto 11 dX5_split_72 (by decide) ?_
          refine r_forget (L' := [some (.inr 36), some (.inr 7), some (.inl x2), some (.inl x3), some (.inl (s.1 + 1)), none]) [true, true, true, true, true, false] rfl ?_
          cases h
          have hk := kb _ rfl
          exact hk
noncomputable def X5_split (x2 : Int32) (x3 : Int32) (M : mm_M) : Option mm_M := (J7_fill_53178 40 0 M).bind fun y2 => (mm_loop (X5_split_l11 x2 x3) mm_fuel (0, y2))
set_option maxRecDepth 100000 in
set_option maxHeartbeats 400000 in
theorem t_X5_split {d : Nat} (hd : 1 ≤ d) (x2 : Int32) (x3 : Int32) (M : mm_M) (res : mm_M) (h : X5_split x2 x3 M = some res) : mm_Meth jX5_split d 0 0 [(.inr 36), (.inr 7), (.inl x2), (.inl x3)] S_c M (mm_Zv S_c res) := by
  refine r_meth (L := [some (.inr 36), some (.inr 7), some (.inl x2), some (.inl x3), none, none]) rfl (fun D => ?_)
  unfold X5_split at h
  refine r_aload_n (q := 1) dX5_split_0 rfl rfl ?_
  refine r_getr (b := 40) (q := 4) lk_X5_21 dX5_split_1 sc_c_36 rfl rfl ?_
  refine r_iconst (v := 0) (q := 5) dX5_split_4 (by decide) rfl ?_
  obtain ⟨y2, e1, h⟩ := Option.bind_eq_some_iff.mp h
  refine r_callS_v (av := [(.inr 40), (.inl 0)]) (st := []) (q := 8) (d1 := 0) kc_X5_51 dX5_split_5 rfl rfl (Nat.le_of_ble_eq_true rfl) (Nat.le_of_ble_eq_true rfl) (by omega) rfl rfl (t_J7_fill_53178_40 (d := 0) (by omega) 0 M _ e1) ?_
  refine r_iconst (v := 0) (q := 9) dX5_split_8 (by decide) rfl ?_
  refine r_istore (q := 11) (L' := [some (.inr 36), some (.inr 7), some (.inl x2), some (.inl x3), some (.inl 0), none]) dX5_split_9 (by decide) rfl rfl ?_
  exact t_X5_split_l11 hd x2 x3 mm_fuel (0, y2) _ h mm_Zv_rfl
noncomputable def X5_enterGroups_l10 (s : (Int32 × mm_M)) : Option ((Int32 × mm_M) ⊕ mm_M) := if 9 < s.1 then some (.inr s.2) else if mm_in s.1 10 = true then if (s.2 40 (Int32.toNatClampNeg s.1)) = 0 then some (.inl ((s.1 + 1), s.2)) else if mm_in s.1 10 = true then (X5_enterOpen (s.2 40 (Int32.toNatClampNeg s.1)) s.2).bind fun y8 => some (.inl ((s.1 + 1), y8)) else none else none
set_option maxRecDepth 100000 in
set_option maxHeartbeats 400000 in
theorem t_X5_enterGroups_l10 {D : mm_D} {d : Nat} (hd : 2 ≤ d) {Z : Option Int32 → List mm_C → mm_M → Prop} (n : Nat) (s : (Int32 × mm_M)) (r : mm_M) (h : mm_loop (X5_enterGroups_l10) n s = some r) (hx : Z none S_c r) : mm_Go jX5_enterGroups D d 0 0 10 [some (.inr 36), none, none, none, some (.inl s.1)] [] S_c s.2 Z := by
  refine mm_loop_go (step := X5_enterGroups_l10) (Hd := fun (s : (Int32 × mm_M)) => mm_Go jX5_enterGroups D d 0 0 10 [some (.inr 36), none, none, none, some (.inl s.1)] [] S_c s.2 Z) (Ex := fun (r : mm_M) => Z none S_c r) ?_ n s r h hx
  intro s o h kb ke
  show mm_Go jX5_enterGroups D d 0 0 10 [some (.inr 36), none, none, none, some (.inl s.1)] [] S_c s.2 Z
  unfold X5_enterGroups_l10 at h
  refine r_iload (q := 12) dX5_enterGroups_10 rfl rfl ?_
  refine r_bipush (v := 9) (q := 14) dX5_enterGroups_12 (by decide) rfl ?_
  refine r_icmp_gt 44 (q := 17) dX5_enterGroups_14 (by decide) rfl (fun c3 => ?_) (fun c3 => ?_)
  · rw [if_pos c3] at h
    cases h
    have hk := ke _ rfl
    exact r_retv dX5_enterGroups_44 rfl hk
  · rw [if_neg c3] at h
    refine r_aload_n (q := 18) dX5_enterGroups_17 rfl rfl ?_
    refine r_getr (b := 40) (q := 21) lk_X5_21 dX5_enterGroups_18 sc_c_36 rfl rfl ?_
    refine r_iload (q := 23) dX5_enterGroups_21 rfl rfl ?_
    obtain ⟨g4, h⟩ := mm_guard h
    refine r_iald (v := (s.2 40 (Int32.toNatClampNeg s.1))) (q := 24) dX5_enterGroups_23 sc_c_40 (mm_vp g4) rfl rfl ?_
    refine r_if_eq 38 (q := 27) dX5_enterGroups_24 (by decide) rfl (fun c5 => ?_) (fun c5 => ?_)
    · rw [if_pos c5] at h
      refine r_iinc (v := 1) (q := 41) (L' := [some (.inr 36), none, none, none, some (.inl (s.1 + 1))]) dX5_enterGroups_38 (by decide) (by decide) rfl rfl rfl ?_
      refine r_goto 10 dX5_enterGroups_41 (by decide) ?_
      cases h
      have hk := kb _ rfl
      exact hk
    · rw [if_neg c5] at h
      refine r_aload_n (q := 28) dX5_enterGroups_27 rfl rfl ?_
      refine r_aload_n (q := 29) dX5_enterGroups_28 rfl rfl ?_
      refine r_getr (b := 40) (q := 32) lk_X5_21 dX5_enterGroups_29 sc_c_36 rfl rfl ?_
      refine r_iload (q := 34) dX5_enterGroups_32 rfl rfl ?_
      obtain ⟨g6, h⟩ := mm_guard h
      refine r_iald (v := (s.2 40 (Int32.toNatClampNeg s.1))) (q := 35) dX5_enterGroups_34 sc_c_40 (mm_vp g6) rfl rfl ?_
      obtain ⟨y8, e7, h⟩ := Option.bind_eq_some_iff.mp h
      refine r_callV_v (av := [(.inl (s.2 40 (Int32.toNatClampNeg s.1)))]) (st := []) (q := 38) (d1 := 1) kc_X5_102 sc_c_36 dX5_enterGroups_35 rfl rfl (Nat.le_of_ble_eq_true rfl) (Nat.le_of_ble_eq_true rfl) (by omega) rfl rfl (t_X5_enterOpen (d := 1) (by omega) (s.2 40 (Int32.toNatClampNeg s.1)) s.2 _ e7) ?_
      refine r_iinc (v := 1) (q := 41) (L' := [some (.inr 36), none, none, none, some (.inl (s.1 + 1))]) dX5_enterGroups_38 (by decide) (by decide) rfl rfl rfl ?_
      refine r_goto 10 dX5_enterGroups_41 (by decide) ?_
      cases h
      have hk := kb _ rfl
      exact hk
noncomputable def X5_enterGroups (x2 : Int32) (x3 : Int32) (M : mm_M) : Option mm_M := (X5_split x2 x3 M).bind fun y2 => (mm_loop (X5_enterGroups_l10) mm_fuel (0, y2))
set_option maxRecDepth 100000 in
set_option maxHeartbeats 400000 in
theorem t_X5_enterGroups {d : Nat} (hd : 2 ≤ d) (x2 : Int32) (x3 : Int32) (M : mm_M) (res : mm_M) (h : X5_enterGroups x2 x3 M = some res) : mm_Meth jX5_enterGroups d 0 0 [(.inr 36), (.inr 7), (.inl x2), (.inl x3)] S_c M (mm_Zv S_c res) := by
  refine r_meth (L := [some (.inr 36), some (.inr 7), some (.inl x2), some (.inl x3), none]) rfl (fun D => ?_)
  unfold X5_enterGroups at h
  refine r_aload_n (q := 1) dX5_enterGroups_0 rfl rfl ?_
  refine r_aload_n (q := 2) dX5_enterGroups_1 rfl rfl ?_
  refine r_iload_n (q := 3) dX5_enterGroups_2 rfl rfl ?_
  refine r_iload_n (q := 4) dX5_enterGroups_3 rfl rfl ?_
  obtain ⟨y2, e1, h⟩ := Option.bind_eq_some_iff.mp h
  refine r_callV_v (av := [(.inr 7), (.inl x2), (.inl x3)]) (st := []) (q := 7) (d1 := 1) kc_X5_110 sc_c_36 dX5_enterGroups_4 rfl rfl (Nat.le_of_ble_eq_true rfl) (Nat.le_of_ble_eq_true rfl) (by omega) rfl rfl (t_X5_split (d := 1) (by omega) x2 x3 M _ e1) ?_
  refine r_iconst (v := 0) (q := 8) dX5_enterGroups_7 (by decide) rfl ?_
  refine r_istore (q := 10) (L' := [some (.inr 36), some (.inr 7), some (.inl x2), some (.inl x3), some (.inl 0)]) dX5_enterGroups_8 (by decide) rfl rfl ?_
  refine r_forget (L' := [some (.inr 36), none, none, none, some (.inl 0)]) [true, false, false, false, true] rfl ?_
  exact t_X5_enterGroups_l10 hd mm_fuel (0, y2) _ h mm_Zv_rfl
noncomputable def X5_explore_l50 (x3 : Int32) (x4 : Int32) (s : (Int32 × mm_M)) : Option ((Int32 × mm_M) ⊕ mm_M) := if 8 ≤ s.1 then some (.inr s.2) else if mm_in x4 1024 = true then if (s.2 38 (Int32.toNatClampNeg x4)) = 0 then some (.inr s.2) else if (((s.2 36 7) >>> (s.1 &&& 31)) &&& 1) = 0 then some (.inl ((s.1 + 1), s.2)) else (X5_enterGroups x4 s.1 s.2).bind fun y13 => some (.inl ((s.1 + 1), y13)) else none
set_option maxRecDepth 100000 in
set_option maxHeartbeats 400000 in
theorem t_X5_explore_l50 {D : mm_D} {d : Nat} (hd : 3 ≤ d) {Z : Option Int32 → List mm_C → mm_M → Prop} (x3 : Int32) (x4 : Int32) (n : Nat) (s : (Int32 × mm_M)) (r : mm_M) (h : mm_loop (X5_explore_l50 x3 x4) n s = some r) (hx : mm_Go jX5_explore D d 0 0 94 [some (.inr 36), some (.inr 7), none, some (.inl x3), none, none] [] S_c r Z) : mm_Go jX5_explore D d 0 0 50 [some (.inr 36), some (.inr 7), none, some (.inl x3), some (.inl x4), some (.inl s.1)] [] S_c s.2 Z := by
  refine mm_loop_go (step := X5_explore_l50 x3 x4) (Hd := fun (s : (Int32 × mm_M)) => mm_Go jX5_explore D d 0 0 50 [some (.inr 36), some (.inr 7), none, some (.inl x3), some (.inl x4), some (.inl s.1)] [] S_c s.2 Z) (Ex := fun (r : mm_M) => mm_Go jX5_explore D d 0 0 94 [some (.inr 36), some (.inr 7), none, some (.inl x3), none, none] [] S_c r Z) ?_ n s r h hx
  intro s o h kb ke
  show mm_Go jX5_explore D d 0 0 50 [some (.inr 36), some (.inr 7), none, some (.inl x3), some (.inl x4), some (.inl s.1)] [] S_c s.2 Z
  unfold X5_explore_l50 at h
  refine r_iload (q := 52) dX5_explore_50 rfl rfl ?_
  refine r_bipush (v := 8) (q := 54) dX5_explore_52 (by decide) rfl ?_
  refine r_icmp_ge 94 (q := 57) dX5_explore_54 (by decide) rfl (fun c8 => ?_) (fun c8 => ?_)
  · rw [if_pos c8] at h
    refine r_forget (L' := [some (.inr 36), some (.inr 7), none, some (.inl x3), none, none]) [true, true, false, true, false, false] rfl ?_
    cases h
    have hk := ke _ rfl
    exact hk
  · rw [if_neg c8] at h
    refine r_aload_n (q := 58) dX5_explore_57 rfl rfl ?_
    refine r_getr (b := 38) (q := 61) lk_X5_15 dX5_explore_58 sc_c_36 rfl rfl ?_
    refine r_iload (q := 63) dX5_explore_61 rfl rfl ?_
    obtain ⟨g9, h⟩ := mm_guard h
    refine r_iald (v := (s.2 38 (Int32.toNatClampNeg x4))) (q := 64) dX5_explore_63 sc_c_38 (mm_vp g9) rfl rfl ?_
    refine r_if_eq 94 (q := 67) dX5_explore_64 (by decide) rfl (fun c10 => ?_) (fun c10 => ?_)
    · rw [if_pos c10] at h
      refine r_forget (L' := [some (.inr 36), some (.inr 7), none, some (.inl x3), none, none]) [true, true, false, true, false, false] rfl ?_
      cases h
      have hk := ke _ rfl
      exact hk
    · rw [if_neg c10] at h
      refine r_aload_n (q := 68) dX5_explore_67 rfl rfl ?_
      refine r_geti (v := (s.2 36 7)) (q := 71) lk_X5_90 dX5_explore_68 sc_c_36 rfl rfl rfl ?_
      refine r_iload (q := 73) dX5_explore_71 rfl rfl ?_
      refine r_ishr (q := 74) dX5_explore_73 rfl ?_
      refine r_iconst (v := 1) (q := 75) dX5_explore_74 (by decide) rfl ?_
      refine r_iand (q := 76) dX5_explore_75 rfl ?_
      refine r_if_eq 88 (q := 79) dX5_explore_76 (by decide) rfl (fun c11 => ?_) (fun c11 => ?_)
      · rw [if_pos c11] at h
        refine r_iinc (v := 1) (q := 91) (L' := [some (.inr 36), some (.inr 7), none, some (.inl x3), some (.inl x4), some (.inl (s.1 + 1))]) dX5_explore_88 (by decide) (by decide) rfl rfl rfl ?_
        refine r_goto 50 dX5_explore_91 (by decide) ?_
        cases h
        have hk := kb _ rfl
        exact hk
      · rw [if_neg c11] at h
        refine r_aload_n (q := 80) dX5_explore_79 rfl rfl ?_
        refine r_aload_n (q := 81) dX5_explore_80 rfl rfl ?_
        refine r_iload (q := 83) dX5_explore_81 rfl rfl ?_
        refine r_iload (q := 85) dX5_explore_83 rfl rfl ?_
        obtain ⟨y13, e12, h⟩ := Option.bind_eq_some_iff.mp h
        refine r_callV_v (av := [(.inr 7), (.inl x4), (.inl s.1)]) (st := []) (q := 88) (d1 := 2) kc_X5_106 sc_c_36 dX5_explore_85 rfl rfl (Nat.le_of_ble_eq_true rfl) (Nat.le_of_ble_eq_true rfl) (by omega) rfl rfl (t_X5_enterGroups (d := 2) (by omega) x4 s.1 s.2 _ e12) ?_
        refine r_iinc (v := 1) (q := 91) (L' := [some (.inr 36), some (.inr 7), none, some (.inl x3), some (.inl x4), some (.inl (s.1 + 1))]) dX5_explore_88 (by decide) (by decide) rfl rfl rfl ?_
        refine r_goto 50 dX5_explore_91 (by decide) ?_
        cases h
        have hk := kb _ rfl
        exact hk
noncomputable def X5_explore_l20 (s : (Int32 × mm_M)) : Option ((Int32 × mm_M) ⊕ mm_M) := if (s.2 36 6) ≤ s.1 then some (.inr s.2) else if 1024 ≤ s.1 then some (.inr s.2) else if mm_in s.1 1024 = true then (mm_loop (X5_explore_l50 s.1 ((s.2 37 (Int32.toNatClampNeg s.1)) &&& 1023)) mm_fuel (0, s.2)).bind fun y14 => some (.inl ((s.1 + 1), y14)) else none
set_option maxRecDepth 100000 in
set_option maxHeartbeats 400000 in
theorem t_X5_explore_l20 {D : mm_D} {d : Nat} (hd : 3 ≤ d) {Z : Option Int32 → List mm_C → mm_M → Prop} (n : Nat) (s : (Int32 × mm_M)) (r : mm_M) (h : mm_loop (X5_explore_l20) n s = some r) (hx : Z none S_c r) : mm_Go jX5_explore D d 0 0 20 [some (.inr 36), some (.inr 7), none, some (.inl s.1), none, none] [] S_c s.2 Z := by
  refine mm_loop_go (step := X5_explore_l20) (Hd := fun (s : (Int32 × mm_M)) => mm_Go jX5_explore D d 0 0 20 [some (.inr 36), some (.inr 7), none, some (.inl s.1), none, none] [] S_c s.2 Z) (Ex := fun (r : mm_M) => Z none S_c r) ?_ n s r h hx
  intro s o h kb ke
  show mm_Go jX5_explore D d 0 0 20 [some (.inr 36), some (.inr 7), none, some (.inl s.1), none, none] [] S_c s.2 Z
  unfold X5_explore_l20 at h
  refine r_iload_n (q := 21) dX5_explore_20 rfl rfl ?_
  refine r_aload_n (q := 22) dX5_explore_21 rfl rfl ?_
  refine r_geti (v := (s.2 36 6)) (q := 25) lk_X5_57 dX5_explore_22 sc_c_36 rfl rfl rfl ?_
  refine r_icmp_ge 100 (q := 28) dX5_explore_25 (by decide) rfl (fun c5 => ?_) (fun c5 => ?_)
  · rw [if_pos c5] at h
    cases h
    have hk := ke _ rfl
    exact r_retv dX5_explore_100 rfl hk
  · rw [if_neg c5] at h
    refine r_iload_n (q := 29) dX5_explore_28 rfl rfl ?_
    refine r_sipush (v := 1024) (q := 32) dX5_explore_29 (by decide) rfl ?_
    refine r_icmp_ge 100 (q := 35) dX5_explore_32 (by decide) rfl (fun c6 => ?_) (fun c6 => ?_)
    · rw [if_pos c6] at h
      cases h
      have hk := ke _ rfl
      exact r_retv dX5_explore_100 rfl hk
    · rw [if_neg c6] at h
      refine r_aload_n (q := 36) dX5_explore_35 rfl rfl ?_
      refine r_getr (b := 37) (q := 39) lk_X5_9 dX5_explore_36 sc_c_36 rfl rfl ?_
      refine r_iload_n (q := 40) dX5_explore_39 rfl rfl ?_
      obtain ⟨g7, h⟩ := mm_guard h
      refine r_iald (v := (s.2 37 (Int32.toNatClampNeg s.1))) (q := 41) dX5_explore_40 sc_c_37 (mm_vp g7) rfl rfl ?_
      refine r_sipush (v := 1023) (q := 44) dX5_explore_41 (by decide) rfl ?_
      refine r_iand (q := 45) dX5_explore_44 rfl ?_
      refine r_istore (q := 47) (L' := [some (.inr 36), some (.inr 7), none, some (.inl s.1), some (.inl ((s.2 37 (Int32.toNatClampNeg s.1)) &&& 1023)), none]) dX5_explore_45 (by decide) rfl rfl ?_
      refine r_iconst (v := 0) (q := 48) dX5_explore_47 (by decide) rfl ?_
      refine r_istore (q := 50) (L' := [some (.inr 36), some (.inr 7), none, some (.inl s.1), some (.inl ((s.2 37 (Int32.toNatClampNeg s.1)) &&& 1023)), some (.inl 0)]) dX5_explore_48 (by decide) rfl rfl ?_
      obtain ⟨y14, e15, h⟩ := Option.bind_eq_some_iff.mp h
      refine t_X5_explore_l50 hd s.1 ((s.2 37 (Int32.toNatClampNeg s.1)) &&& 1023) mm_fuel (0, s.2) _ e15 ?_
      show mm_Go jX5_explore _ _ _ _ 94 [some (.inr 36), some (.inr 7), none, some (.inl s.1), none, none] [] S_c y14 _
      refine r_iinc (v := 1) (q := 97) (L' := [some (.inr 36), some (.inr 7), none, some (.inl (s.1 + 1)), none, none]) dX5_explore_94 (by decide) (by decide) rfl rfl rfl ?_
      refine r_goto 20 dX5_explore_97 (by decide) ?_
      cases h
      have hk := kb _ rfl
      exact hk
noncomputable def X5_explore (x2 : Int32) (M : mm_M) : Option mm_M := (J7_fill_53178 38 (-1) M).bind fun y2 => (X5_enterOpen x2 (mm_U y2 36 6 0)).bind fun y4 => (mm_loop (X5_explore_l20) mm_fuel (0, y4))
set_option maxRecDepth 100000 in
set_option maxHeartbeats 400000 in
theorem t_X5_explore {d : Nat} (hd : 3 ≤ d) (x2 : Int32) (M : mm_M) (res : mm_M) (h : X5_explore x2 M = some res) : mm_Meth jX5_explore d 0 0 [(.inr 36), (.inr 7), (.inl x2)] S_c M (mm_Zv S_c res) := by
  refine r_meth (L := [some (.inr 36), some (.inr 7), some (.inl x2), none, none, none]) rfl (fun D => ?_)
  unfold X5_explore at h
  refine r_aload_n (q := 1) dX5_explore_0 rfl rfl ?_
  refine r_getr (b := 38) (q := 4) lk_X5_15 dX5_explore_1 sc_c_36 rfl rfl ?_
  refine r_iconst (v := (-1)) (q := 5) dX5_explore_4 (by decide) rfl ?_
  obtain ⟨y2, e1, h⟩ := Option.bind_eq_some_iff.mp h
  refine r_callS_v (av := [(.inr 38), (.inl (-1))]) (st := []) (q := 8) (d1 := 0) kc_X5_51 dX5_explore_5 rfl rfl (Nat.le_of_ble_eq_true rfl) (Nat.le_of_ble_eq_true rfl) (by omega) rfl rfl (t_J7_fill_53178_38 (d := 0) (by omega) (-1) M _ e1) ?_
  refine r_aload_n (q := 9) dX5_explore_8 rfl rfl ?_
  refine r_iconst (v := 0) (q := 10) dX5_explore_9 (by decide) rfl ?_
  refine r_puti (q := 13) lk_X5_57 ft_3_6 dX5_explore_10 sc_c_36 rfl rfl ?_
  refine r_aload_n (q := 14) dX5_explore_13 rfl rfl ?_
  refine r_iload_n (q := 15) dX5_explore_14 rfl rfl ?_
  obtain ⟨y4, e3, h⟩ := Option.bind_eq_some_iff.mp h
  refine r_callV_v (av := [(.inl x2)]) (st := []) (q := 18) (d1 := 1) kc_X5_102 sc_c_36 dX5_explore_15 rfl rfl (Nat.le_of_ble_eq_true rfl) (Nat.le_of_ble_eq_true rfl) (by omega) rfl rfl (t_X5_enterOpen (d := 1) (by omega) x2 (mm_U y2 36 6 0) _ e3) ?_
  refine r_iconst (v := 0) (q := 19) dX5_explore_18 (by decide) rfl ?_
  refine r_istore_n (q := 20) (L' := [some (.inr 36), some (.inr 7), some (.inl x2), some (.inl 0), none, none]) dX5_explore_19 (by decide) rfl rfl ?_
  refine r_forget (L' := [some (.inr 36), some (.inr 7), none, some (.inl 0), none, none]) [true, true, false, true, false, false] rfl ?_
  exact t_X5_explore_l20 hd mm_fuel (0, y4) _ h mm_Zv_rfl
noncomputable def X5_worthOf (x1 : Int32) (M : mm_M) : Int32 := if x1 < 0 then 1024 else if 1024 ≤ x1 then 1024 else (M 38 (Int32.toNatClampNeg x1))
set_option maxRecDepth 100000 in
set_option maxHeartbeats 400000 in
theorem t_X5_worthOf {d : Nat} (hd : 0 ≤ d) (x1 : Int32) (M : mm_M) (res : Int32) (h : X5_worthOf x1 M = res) : mm_Meth jX5_worthOf d 0 0 [(.inr 36), (.inl x1)] S_c M (mm_Zi res S_c M) := by
  refine r_meth (L := [some (.inr 36), some (.inl x1)]) rfl (fun D => ?_)
  unfold X5_worthOf at h
  refine r_iload_n (q := 1) dX5_worthOf_0 rfl rfl ?_
  refine r_if_lt 20 (q := 4) dX5_worthOf_1 (by decide) rfl (fun c1 => ?_) (fun c1 => ?_)
  · rw [if_pos c1] at h
    refine r_sipush (v := 1024) (q := 23) dX5_worthOf_20 (by decide) rfl ?_
    subst h
    exact r_ret dX5_worthOf_23 rfl mm_Zi_rfl
  · rw [if_neg c1] at h
    refine r_iload_n (q := 5) dX5_worthOf_4 rfl rfl ?_
    refine r_sipush (v := 1024) (q := 8) dX5_worthOf_5 (by decide) rfl ?_
    refine r_icmp_ge 20 (q := 11) dX5_worthOf_8 (by decide) rfl (fun c2 => ?_) (fun c2 => ?_)
    · rw [if_pos c2] at h
      refine r_sipush (v := 1024) (q := 23) dX5_worthOf_20 (by decide) rfl ?_
      subst h
      exact r_ret dX5_worthOf_23 rfl mm_Zi_rfl
    · rw [if_neg c2] at h
      refine r_aload_n (q := 12) dX5_worthOf_11 rfl rfl ?_
      refine r_getr (b := 38) (q := 15) lk_X5_15 dX5_worthOf_12 sc_c_36 rfl rfl ?_
      refine r_iload_n (q := 16) dX5_worthOf_15 rfl rfl ?_
      refine r_iald (v := (M 38 (Int32.toNatClampNeg x1))) (q := 17) dX5_worthOf_16 sc_c_38 (mm_vp2 (Int32.not_lt.mp c1) (Int32.not_le.mp c2) (by decide)) rfl rfl ?_
      refine r_goto 23 dX5_worthOf_17 (by decide) ?_
      subst h
      exact r_ret dX5_worthOf_23 rfl mm_Zi_rfl
noncomputable def X5_needsFewer_l10 (x4 : Int32) (M : mm_M) (s : Int32) : Option (Int32 ⊕ (Bool × mm_M)) := if 9 < s then some (.inr (true, M)) else if mm_in s 10 = true then if (M 40 (Int32.toNatClampNeg s)) = 0 then some (.inl (s + 1)) else if mm_in s 10 = true then if (X5_worthOf (M 40 (Int32.toNatClampNeg s)) M) < x4 then some (.inl (s + 1)) else some (.inr (false, M)) else none else none
set_option maxRecDepth 100000 in
set_option maxHeartbeats 400000 in
theorem t_X5_needsFewer_l10 {D : mm_D} {d : Nat} (hd : 2 ≤ d) {Z : Option Int32 → List mm_C → mm_M → Prop} (x4 : Int32) (M : mm_M) (n : Nat) (s : Int32) (r : (Bool × mm_M)) (h : mm_loop (X5_needsFewer_l10 x4 M) n s = some r) (hx : Z (some (mm_b r.1)) S_c r.2) : mm_Go jX5_needsFewer D d 0 0 10 [some (.inr 36), none, none, none, some (.inl x4), some (.inl s)] [] S_c M Z := by
  refine mm_loop_go (step := X5_needsFewer_l10 x4 M) (Hd := fun (s : Int32) => mm_Go jX5_needsFewer D d 0 0 10 [some (.inr 36), none, none, none, some (.inl x4), some (.inl s)] [] S_c M Z) (Ex := fun (r : (Bool × mm_M)) => Z (some (mm_b r.1)) S_c r.2) ?_ n s r h hx
  intro s o h kb ke
  show mm_Go jX5_needsFewer D d 0 0 10 [some (.inr 36), none, none, none, some (.inl x4), some (.inl s)] [] S_c M Z
  unfold X5_needsFewer_l10 at h
  refine r_iload (q := 12) dX5_needsFewer_10 rfl rfl ?_
  refine r_bipush (v := 9) (q := 14) dX5_needsFewer_12 (by decide) rfl ?_
  refine r_icmp_gt 51 (q := 17) dX5_needsFewer_14 (by decide) rfl (fun c3 => ?_) (fun c3 => ?_)
  · rw [if_pos c3] at h
    refine r_iconst (v := 1) (q := 52) dX5_needsFewer_51 (by decide) rfl ?_
    cases h
    have hk := ke _ rfl
    exact r_retb dX5_needsFewer_52 rfl (Or.inr rfl) hk
  · rw [if_neg c3] at h
    refine r_aload_n (q := 18) dX5_needsFewer_17 rfl rfl ?_
    refine r_getr (b := 40) (q := 21) lk_X5_21 dX5_needsFewer_18 sc_c_36 rfl rfl ?_
    refine r_iload (q := 23) dX5_needsFewer_21 rfl rfl ?_
    obtain ⟨g4, h⟩ := mm_guard h
    refine r_iald (v := (M 40 (Int32.toNatClampNeg s))) (q := 24) dX5_needsFewer_23 sc_c_40 (mm_vp g4) rfl rfl ?_
    refine r_if_eq 45 (q := 27) dX5_needsFewer_24 (by decide) rfl (fun c5 => ?_) (fun c5 => ?_)
    · rw [if_pos c5] at h
      refine r_iinc (v := 1) (q := 48) (L' := [some (.inr 36), none, none, none, some (.inl x4), some (.inl (s + 1))]) dX5_needsFewer_45 (by decide) (by decide) rfl rfl rfl ?_
      refine r_goto 10 dX5_needsFewer_48 (by decide) ?_
      cases h
      have hk := kb _ rfl
      exact hk
    · rw [if_neg c5] at h
      refine r_aload_n (q := 28) dX5_needsFewer_27 rfl rfl ?_
      refine r_aload_n (q := 29) dX5_needsFewer_28 rfl rfl ?_
      refine r_getr (b := 40) (q := 32) lk_X5_21 dX5_needsFewer_29 sc_c_36 rfl rfl ?_
      refine r_iload (q := 34) dX5_needsFewer_32 rfl rfl ?_
      obtain ⟨g6, h⟩ := mm_guard h
      refine r_iald (v := (M 40 (Int32.toNatClampNeg s))) (q := 35) dX5_needsFewer_34 sc_c_40 (mm_vp g6) rfl rfl ?_
      refine r_callV_i (av := [(.inl (M 40 (Int32.toNatClampNeg s)))]) (st := []) (q := 38) (d1 := 0) kc_X5_96 sc_c_36 dX5_needsFewer_35 rfl rfl (Nat.le_of_ble_eq_true rfl) (Nat.le_of_ble_eq_true rfl) (by omega) rfl rfl (t_X5_worthOf (d := 0) (by omega) (M 40 (Int32.toNatClampNeg s)) M _ rfl) ?_
      refine r_iload (q := 40) dX5_needsFewer_38 rfl rfl ?_
      refine r_icmp_lt 45 (q := 43) dX5_needsFewer_40 (by decide) rfl (fun c7 => ?_) (fun c7 => ?_)
      · rw [if_pos c7] at h
        refine r_iinc (v := 1) (q := 48) (L' := [some (.inr 36), none, none, none, some (.inl x4), some (.inl (s + 1))]) dX5_needsFewer_45 (by decide) (by decide) rfl rfl rfl ?_
        refine r_goto 10 dX5_needsFewer_48 (by decide) ?_
        cases h
        have hk := kb _ rfl
        exact hk
      · rw [if_neg c7] at h
        refine r_iconst (v := 0) (q := 44) dX5_needsFewer_43 (by decide) rfl ?_
        cases h
        have hk := ke _ rfl
        exact r_retb dX5_needsFewer_44 rfl (Or.inl rfl) hk
noncomputable def X5_needsFewer (x2 : Int32) (x3 : Int32) (x4 : Int32) (M : mm_M) : Option (Bool × mm_M) := (X5_split x2 x3 M).bind fun y2 => (mm_loop (X5_needsFewer_l10 x4 y2) mm_fuel 0)
set_option maxRecDepth 100000 in
set_option maxHeartbeats 400000 in
theorem t_X5_needsFewer {d : Nat} (hd : 2 ≤ d) (x2 : Int32) (x3 : Int32) (x4 : Int32) (M : mm_M) (res : (Bool × mm_M)) (h : X5_needsFewer x2 x3 x4 M = some res) : mm_Meth jX5_needsFewer d 0 0 [(.inr 36), (.inr 7), (.inl x2), (.inl x3), (.inl x4)] S_c M (mm_Zi (mm_b res.1) S_c res.2) := by
  refine r_meth (L := [some (.inr 36), some (.inr 7), some (.inl x2), some (.inl x3), some (.inl x4), none]) rfl (fun D => ?_)
  unfold X5_needsFewer at h
  refine r_aload_n (q := 1) dX5_needsFewer_0 rfl rfl ?_
  refine r_aload_n (q := 2) dX5_needsFewer_1 rfl rfl ?_
  refine r_iload_n (q := 3) dX5_needsFewer_2 rfl rfl ?_
  refine r_iload_n (q := 4) dX5_needsFewer_3 rfl rfl ?_
  obtain ⟨y2, e1, h⟩ := Option.bind_eq_some_iff.mp h
  refine r_callV_v (av := [(.inr 7), (.inl x2), (.inl x3)]) (st := []) (q := 7) (d1 := 1) kc_X5_110 sc_c_36 dX5_needsFewer_4 rfl rfl (Nat.le_of_ble_eq_true rfl) (Nat.le_of_ble_eq_true rfl) (by omega) rfl rfl (t_X5_split (d := 1) (by omega) x2 x3 M _ e1) ?_
  refine r_iconst (v := 0) (q := 8) dX5_needsFewer_7 (by decide) rfl ?_
  refine r_istore (q := 10) (L' := [some (.inr 36), some (.inr 7), some (.inl x2), some (.inl x3), some (.inl x4), some (.inl 0)]) dX5_needsFewer_8 (by decide) rfl rfl ?_
  refine r_forget (L' := [some (.inr 36), none, none, none, some (.inl x4), some (.inl 0)]) [true, false, false, false, true, true] rfl ?_
  exact t_X5_needsFewer_l10 hd x4 y2 mm_fuel 0 _ h mm_Zi_rfl
noncomputable def X5_firstSure_l3 (x2 : Int32) (x3 : Int32) (s : (Int32 × mm_M)) : Option ((Int32 × mm_M) ⊕ (Int32 × mm_M)) := if 8 ≤ s.1 then some (.inr ((-1), s.2)) else if (((s.2 36 7) >>> (s.1 &&& 31)) &&& 1) = 0 then some (.inl ((s.1 + 1), s.2)) else (X5_needsFewer x2 s.1 x3 s.2).bind fun y4 => if y4.1 = true then some (.inr (s.1, y4.2)) else some (.inl ((s.1 + 1), y4.2))
set_option maxRecDepth 100000 in
set_option maxHeartbeats 400000 in
theorem t_X5_firstSure_l3 {D : mm_D} {d : Nat} (hd : 3 ≤ d) {Z : Option Int32 → List mm_C → mm_M → Prop} (x2 : Int32) (x3 : Int32) (n : Nat) (s : (Int32 × mm_M)) (r : (Int32 × mm_M)) (h : mm_loop (X5_firstSure_l3 x2 x3) n s = some r) (hx : Z (some r.1) S_c r.2) : mm_Go jX5_firstSure D d 0 0 3 [some (.inr 36), some (.inr 7), some (.inl x2), some (.inl x3), some (.inl s.1)] [] S_c s.2 Z := by
  refine mm_loop_go (step := X5_firstSure_l3 x2 x3) (Hd := fun (s : (Int32 × mm_M)) => mm_Go jX5_firstSure D d 0 0 3 [some (.inr 36), some (.inr 7), some (.inl x2), some (.inl x3), some (.inl s.1)] [] S_c s.2 Z) (Ex := fun (r : (Int32 × mm_M)) => Z (some r.1) S_c r.2) ?_ n s r h hx
  intro s o h kb ke
  show mm_Go jX5_firstSure D d 0 0 3 [some (.inr 36), some (.inr 7), some (.inl x2), some (.inl x3), some (.inl s.1)] [] S_c s.2 Z
  unfold X5_firstSure_l3 at h
  refine r_iload (q := 5) dX5_firstSure_3 rfl rfl ?_
  refine r_bipush (v := 8) (q := 7) dX5_firstSure_5 (by decide) rfl ?_
  refine r_icmp_ge 43 (q := 10) dX5_firstSure_7 (by decide) rfl (fun c1 => ?_) (fun c1 => ?_)
  · rw [if_pos c1] at h
    refine r_iconst (v := (-1)) (q := 44) dX5_firstSure_43 (by decide) rfl ?_
    cases h
    have hk := ke _ rfl
    exact r_ret dX5_firstSure_44 rfl hk
  · rw [if_neg c1] at h
    refine r_aload_n (q := 11) dX5_firstSure_10 rfl rfl ?_
    refine r_geti (v := (s.2 36 7)) (q := 14) lk_X5_90 dX5_firstSure_11 sc_c_36 rfl rfl rfl ?_
    refine r_iload (q := 16) dX5_firstSure_14 rfl rfl ?_
    refine r_ishr (q := 17) dX5_firstSure_16 rfl ?_
    refine r_iconst (v := 1) (q := 18) dX5_firstSure_17 (by decide) rfl ?_
    refine r_iand (q := 19) dX5_firstSure_18 rfl ?_
    refine r_if_eq 37 (q := 22) dX5_firstSure_19 (by decide) rfl (fun c2 => ?_) (fun c2 => ?_)
    · rw [if_pos c2] at h
      refine r_iinc (v := 1) (q := 40) (L' := [some (.inr 36), some (.inr 7), some (.inl x2), some (.inl x3), some (.inl (s.1 + 1))]) dX5_firstSure_37 (by decide) (by decide) rfl rfl rfl ?_
      refine r_goto 3 dX5_firstSure_40 (by decide) ?_
      cases h
      have hk := kb _ rfl
      exact hk
    · rw [if_neg c2] at h
      refine r_aload_n (q := 23) dX5_firstSure_22 rfl rfl ?_
      refine r_aload_n (q := 24) dX5_firstSure_23 rfl rfl ?_
      refine r_iload_n (q := 25) dX5_firstSure_24 rfl rfl ?_
      refine r_iload (q := 27) dX5_firstSure_25 rfl rfl ?_
      refine r_iload_n (q := 28) dX5_firstSure_27 rfl rfl ?_
      obtain ⟨y4, e3, h⟩ := Option.bind_eq_some_iff.mp h
      refine r_callV_i (av := [(.inr 7), (.inl x2), (.inl s.1), (.inl x3)]) (st := []) (q := 31) (d1 := 2) kc_X5_116 sc_c_36 dX5_firstSure_28 rfl rfl (Nat.le_of_ble_eq_true rfl) (Nat.le_of_ble_eq_true rfl) (by omega) rfl rfl (t_X5_needsFewer (d := 2) (by omega) x2 s.1 x3 s.2 _ e3) ?_
      refine r_if_eq 37 (q := 34) dX5_firstSure_31 (by decide) rfl (fun c5 => ?_) (fun c5 => ?_)
      · rw [if_neg (mm_b0 c5)] at h
        refine r_iinc (v := 1) (q := 40) (L' := [some (.inr 36), some (.inr 7), some (.inl x2), some (.inl x3), some (.inl (s.1 + 1))]) dX5_firstSure_37 (by decide) (by decide) rfl rfl rfl ?_
        refine r_goto 3 dX5_firstSure_40 (by decide) ?_
        cases h
        have hk := kb _ rfl
        exact hk
      · rw [if_pos (mm_b1 c5)] at h
        refine r_iload (q := 36) dX5_firstSure_34 rfl rfl ?_
        cases h
        have hk := ke _ rfl
        exact r_ret dX5_firstSure_36 rfl hk
noncomputable def X5_firstSure (x2 : Int32) (x3 : Int32) (M : mm_M) : Option (Int32 × mm_M) := (mm_loop (X5_firstSure_l3 x2 x3) mm_fuel (0, M))
set_option maxRecDepth 100000 in
set_option maxHeartbeats 400000 in
theorem t_X5_firstSure {d : Nat} (hd : 3 ≤ d) (x2 : Int32) (x3 : Int32) (M : mm_M) (res : (Int32 × mm_M)) (h : X5_firstSure x2 x3 M = some res) : mm_Meth jX5_firstSure d 0 0 [(.inr 36), (.inr 7), (.inl x2), (.inl x3)] S_c M (mm_Zi res.1 S_c res.2) := by
  refine r_meth (L := [some (.inr 36), some (.inr 7), some (.inl x2), some (.inl x3), none]) rfl (fun D => ?_)
  unfold X5_firstSure at h
  refine r_iconst (v := 0) (q := 1) dX5_firstSure_0 (by decide) rfl ?_
  refine r_istore (q := 3) (L' := [some (.inr 36), some (.inr 7), some (.inl x2), some (.inl x3), some (.inl 0)]) dX5_firstSure_1 (by decide) rfl rfl ?_
  exact t_X5_firstSure_l3 hd x2 x3 mm_fuel (0, M) _ h mm_Zi_rfl
noncomputable def X5_makeSure_l47 (x2 : Int32) (x4 : Int32) (s : (Bool × Int32 × mm_M)) : Option ((Bool × Int32 × mm_M) ⊕ (Bool × mm_M)) := if (s.2.2 36 6) ≤ s.2.1 then some (.inr (s.1, s.2.2)) else if 1024 ≤ s.2.1 then some (.inr (s.1, s.2.2)) else if mm_in s.2.1 1024 = true then if mm_in ((s.2.2 37 (Int32.toNatClampNeg s.2.1)) &&& 1023) 1024 = true then if (s.2.2 38 (Int32.toNatClampNeg ((s.2.2 37 (Int32.toNatClampNeg s.2.1)) &&& 1023))) = 1024 then (X5_firstSure ((s.2.2 37 (Int32.toNatClampNeg s.2.1)) &&& 1023) x4 s.2.2).bind fun y14 => if y14.1 = (-1) then some (.inl (s.1, (s.2.1 + 1), y14.2)) else if mm_in ((s.2.2 37 (Int32.toNatClampNeg s.2.1)) &&& 1023) 1024 = true then some (.inl (true, (s.2.1 + 1), (mm_U y14.2 38 (Int32.toNatClampNeg ((s.2.2 37 (Int32.toNatClampNeg s.2.1)) &&& 1023)) x4))) else none else some (.inl (s.1, (s.2.1 + 1), s.2.2)) else none else none
set_option maxRecDepth 100000 in
set_option maxHeartbeats 400000 in
theorem t_X5_makeSure_l47 {D : mm_D} {d : Nat} (hd : 4 ≤ d) {Z : Option Int32 → List mm_C → mm_M → Prop} (x2 : Int32) (x4 : Int32) (n : Nat) (s : (Bool × Int32 × mm_M)) (r : (Bool × mm_M)) (h : mm_loop (X5_makeSure_l47 x2 x4) n s = some r) (hx : mm_Go jX5_makeSure D d 0 0 120 [some (.inr 36), some (.inr 7), some (.inl x2), some (.inl (mm_b r.1)), some (.inl x4), none, none] [] S_c r.2 Z) : mm_Go jX5_makeSure D d 0 0 47 [some (.inr 36), some (.inr 7), some (.inl x2), some (.inl (mm_b s.1)), some (.inl x4), some (.inl s.2.1), none] [] S_c s.2.2 Z := by
  refine mm_loop_go (step := X5_makeSure_l47 x2 x4) (Hd := fun (s : (Bool × Int32 × mm_M)) => mm_Go jX5_makeSure D d 0 0 47 [some (.inr 36), some (.inr 7), some (.inl x2), some (.inl (mm_b s.1)), some (.inl x4), some (.inl s.2.1), none] [] S_c s.2.2 Z) (Ex := fun (r : (Bool × mm_M)) => mm_Go jX5_makeSure D d 0 0 120 [some (.inr 36), some (.inr 7), some (.inl x2), some (.inl (mm_b r.1)), some (.inl x4), none, none] [] S_c r.2 Z) ?_ n s r h hx
  intro s o h kb ke
  show mm_Go jX5_makeSure D d 0 0 47 [some (.inr 36), some (.inr 7), some (.inl x2), some (.inl (mm_b s.1)), some (.inl x4), some (.inl s.2.1), none] [] S_c s.2.2 Z
  unfold X5_makeSure_l47 at h
  refine r_iload (q := 49) dX5_makeSure_47 rfl rfl ?_
  refine r_aload_n (q := 50) dX5_makeSure_49 rfl rfl ?_
  refine r_geti (v := (s.2.2 36 6)) (q := 53) lk_X5_57 dX5_makeSure_50 sc_c_36 rfl rfl rfl ?_
  refine r_icmp_ge 120 (q := 56) dX5_makeSure_53 (by decide) rfl (fun c8 => ?_) (fun c8 => ?_)
  · rw [if_pos c8] at h
    refine r_forget (L' := [some (.inr 36), some (.inr 7), some (.inl x2), some (.inl (mm_b s.1)), some (.inl x4), none, none]) [true, true, true, true, true, false, false] rfl ?_
    cases h
    have hk := ke _ rfl
    exact hk
  · rw [if_neg c8] at h
    refine r_iload (q := 58) dX5_makeSure_56 rfl rfl ?_
    refine r_sipush (v := 1024) (q := 61) dX5_makeSure_58 (by decide) rfl ?_
    refine r_icmp_ge 120 (q := 64) dX5_makeSure_61 (by decide) rfl (fun c9 => ?_) (fun c9 => ?_)
    · rw [if_pos c9] at h
      refine r_forget (L' := [some (.inr 36), some (.inr 7), some (.inl x2), some (.inl (mm_b s.1)), some (.inl x4), none, none]) [true, true, true, true, true, false, false] rfl ?_
      cases h
      have hk := ke _ rfl
      exact hk
    · rw [if_neg c9] at h
      refine r_aload_n (q := 65) dX5_makeSure_64 rfl rfl ?_
      refine r_getr (b := 37) (q := 68) lk_X5_9 dX5_makeSure_65 sc_c_36 rfl rfl ?_
      refine r_iload (q := 70) dX5_makeSure_68 rfl rfl ?_
      obtain ⟨g10, h⟩ := mm_guard h
      refine r_iald (v := (s.2.2 37 (Int32.toNatClampNeg s.2.1))) (q := 71) dX5_makeSure_70 sc_c_37 (mm_vp g10) rfl rfl ?_
      refine r_sipush (v := 1023) (q := 74) dX5_makeSure_71 (by decide) rfl ?_
      refine r_iand (q := 75) dX5_makeSure_74 rfl ?_
      refine r_istore (q := 77) (L' := [some (.inr 36), some (.inr 7), some (.inl x2), some (.inl (mm_b s.1)), some (.inl x4), some (.inl s.2.1), some (.inl ((s.2.2 37 (Int32.toNatClampNeg s.2.1)) &&& 1023))]) dX5_makeSure_75 (by decide) rfl rfl ?_
      refine r_aload_n (q := 78) dX5_makeSure_77 rfl rfl ?_
      refine r_getr (b := 38) (q := 81) lk_X5_15 dX5_makeSure_78 sc_c_36 rfl rfl ?_
      refine r_iload (q := 83) dX5_makeSure_81 rfl rfl ?_
      obtain ⟨g11, h⟩ := mm_guard h
      refine r_iald (v := (s.2.2 38 (Int32.toNatClampNeg ((s.2.2 37 (Int32.toNatClampNeg s.2.1)) &&& 1023)))) (q := 84) dX5_makeSure_83 sc_c_38 (mm_vp g11) rfl rfl ?_
      refine r_sipush (v := 1024) (q := 87) dX5_makeSure_84 (by decide) rfl ?_
      refine r_icmp_ne 114 (q := 90) dX5_makeSure_87 (by decide) rfl (fun c12 => ?_) (fun c12 => ?_)
      · rw [if_neg c12] at h
        refine r_iinc (v := 1) (q := 117) (L' := [some (.inr 36), some (.inr 7), some (.inl x2), some (.inl (mm_b s.1)), some (.inl x4), some (.inl (s.2.1 + 1)), some (.inl ((s.2.2 37 (Int32.toNatClampNeg s.2.1)) &&& 1023))]) dX5_makeSure_114 (by decide) (by decide) rfl rfl rfl ?_
        refine r_goto 47 dX5_makeSure_117 (by decide) ?_
        refine r_forget (L' := [some (.inr 36), some (.inr 7), some (.inl x2), some (.inl (mm_b s.1)), some (.inl x4), some (.inl (s.2.1 + 1)), none]) [true, true, true, true, true, true, false] rfl ?_
        cases h
        have hk := kb _ rfl
        exact hk
      · rw [if_pos c12] at h
        refine r_aload_n (q := 91) dX5_makeSure_90 rfl rfl ?_
        refine r_aload_n (q := 92) dX5_makeSure_91 rfl rfl ?_
        refine r_iload (q := 94) dX5_makeSure_92 rfl rfl ?_
        refine r_iload (q := 96) dX5_makeSure_94 rfl rfl ?_
        obtain ⟨y14, e13, h⟩ := Option.bind_eq_some_iff.mp h
        refine r_callV_i (av := [(.inr 7), (.inl ((s.2.2 37 (Int32.toNatClampNeg s.2.1)) &&& 1023)), (.inl x4)]) (st := []) (q := 99) (d1 := 3) kc_X5_99 sc_c_36 dX5_makeSure_96 rfl rfl (Nat.le_of_ble_eq_true rfl) (Nat.le_of_ble_eq_true rfl) (by omega) rfl rfl (t_X5_firstSure (d := 3) (by omega) ((s.2.2 37 (Int32.toNatClampNeg s.2.1)) &&& 1023) x4 s.2.2 _ e13) ?_
        refine r_iconst (v := (-1)) (q := 100) dX5_makeSure_99 (by decide) rfl ?_
        refine r_icmp_eq 114 (q := 103) dX5_makeSure_100 (by decide) rfl (fun c15 => ?_) (fun c15 => ?_)
        · rw [if_pos c15] at h
          refine r_iinc (v := 1) (q := 117) (L' := [some (.inr 36), some (.inr 7), some (.inl x2), some (.inl (mm_b s.1)), some (.inl x4), some (.inl (s.2.1 + 1)), some (.inl ((s.2.2 37 (Int32.toNatClampNeg s.2.1)) &&& 1023))]) dX5_makeSure_114 (by decide) (by decide) rfl rfl rfl ?_
          refine r_goto 47 dX5_makeSure_117 (by decide) ?_
          refine r_forget (L' := [some (.inr 36), some (.inr 7), some (.inl x2), some (.inl (mm_b s.1)), some (.inl x4), some (.inl (s.2.1 + 1)), none]) [true, true, true, true, true, true, false] rfl ?_
          cases h
          have hk := kb _ rfl
          exact hk
        · rw [if_neg c15] at h
          refine r_aload_n (q := 104) dX5_makeSure_103 rfl rfl ?_
          refine r_getr (b := 38) (q := 107) lk_X5_15 dX5_makeSure_104 sc_c_36 rfl rfl ?_
          refine r_iload (q := 109) dX5_makeSure_107 rfl rfl ?_
          refine r_iload (q := 111) dX5_makeSure_109 rfl rfl ?_
          obtain ⟨g16, h⟩ := mm_guard h
          refine r_iast (j := (Int32.toNatClampNeg ((s.2.2 37 (Int32.toNatClampNeg s.2.1)) &&& 1023))) (q := 112) dX5_makeSure_111 sc_c_38 (mm_vp g16) rfl rfl ?_
          refine r_iconst (v := 1) (q := 113) dX5_makeSure_112 (by decide) rfl ?_
          refine r_istore_n (q := 114) (L' := [some (.inr 36), some (.inr 7), some (.inl x2), some (.inl 1), some (.inl x4), some (.inl s.2.1), some (.inl ((s.2.2 37 (Int32.toNatClampNeg s.2.1)) &&& 1023))]) dX5_makeSure_113 (by decide) rfl rfl ?_
          refine r_iinc (v := 1) (q := 117) (L' := [some (.inr 36), some (.inr 7), some (.inl x2), some (.inl 1), some (.inl x4), some (.inl (s.2.1 + 1)), some (.inl ((s.2.2 37 (Int32.toNatClampNeg s.2.1)) &&& 1023))]) dX5_makeSure_114 (by decide) (by decide) rfl rfl rfl ?_
          refine r_goto 47 dX5_makeSure_117 (by decide) ?_
          refine r_forget (L' := [some (.inr 36), some (.inr 7), some (.inl x2), some (.inl 1), some (.inl x4), some (.inl (s.2.1 + 1)), none]) [true, true, true, true, true, true, false] rfl ?_
          cases h
          have hk := kb _ rfl
          exact hk
noncomputable def X5_makeSure_l19 (x2 : Int32) (s : (Bool × Int32 × mm_M)) : Option ((Bool × Int32 × mm_M) ⊕ mm_M) := if 1024 < s.2.1 then some (.inr s.2.2) else if s.1 = true then if (X5_worthOf x2 s.2.2) = 1024 then (mm_loop (X5_makeSure_l47 x2 s.2.1) mm_fuel (false, 0, s.2.2)).bind fun y17 => some (.inl (y17.1, (s.2.1 + 1), y17.2)) else some (.inr s.2.2) else some (.inr s.2.2)
set_option maxRecDepth 100000 in
set_option maxHeartbeats 400000 in
theorem t_X5_makeSure_l19 {D : mm_D} {d : Nat} (hd : 4 ≤ d) {Z : Option Int32 → List mm_C → mm_M → Prop} (x2 : Int32) (n : Nat) (s : (Bool × Int32 × mm_M)) (r : mm_M) (h : mm_loop (X5_makeSure_l19 x2) n s = some r) (hx : mm_Go jX5_makeSure D d 0 0 126 [some (.inr 36), none, some (.inl x2), none, none, none, none] [] S_c r Z) : mm_Go jX5_makeSure D d 0 0 19 [some (.inr 36), some (.inr 7), some (.inl x2), some (.inl (mm_b s.1)), some (.inl s.2.1), none, none] [] S_c s.2.2 Z := by
  refine mm_loop_go (step := X5_makeSure_l19 x2) (Hd := fun (s : (Bool × Int32 × mm_M)) => mm_Go jX5_makeSure D d 0 0 19 [some (.inr 36), some (.inr 7), some (.inl x2), some (.inl (mm_b s.1)), some (.inl s.2.1), none, none] [] S_c s.2.2 Z) (Ex := fun (r : mm_M) => mm_Go jX5_makeSure D d 0 0 126 [some (.inr 36), none, some (.inl x2), none, none, none, none] [] S_c r Z) ?_ n s r h hx
  intro s o h kb ke
  show mm_Go jX5_makeSure D d 0 0 19 [some (.inr 36), some (.inr 7), some (.inl x2), some (.inl (mm_b s.1)), some (.inl s.2.1), none, none] [] S_c s.2.2 Z
  unfold X5_makeSure_l19 at h
  refine r_iload (q := 21) dX5_makeSure_19 rfl rfl ?_
  refine r_sipush (v := 1024) (q := 24) dX5_makeSure_21 (by decide) rfl ?_
  refine r_icmp_gt 126 (q := 27) dX5_makeSure_24 (by decide) rfl (fun c5 => ?_) (fun c5 => ?_)
  · rw [if_pos c5] at h
    refine r_forget (L' := [some (.inr 36), none, some (.inl x2), none, none, none, none]) [true, false, true, false, false, false, false] rfl ?_
    cases h
    have hk := ke _ rfl
    exact hk
  · rw [if_neg c5] at h
    refine r_iload_n (q := 28) dX5_makeSure_27 rfl rfl ?_
    refine r_if_eq 126 (q := 31) dX5_makeSure_28 (by decide) rfl (fun c6 => ?_) (fun c6 => ?_)
    · rw [if_neg (mm_b0 c6)] at h
      refine r_forget (L' := [some (.inr 36), none, some (.inl x2), none, none, none, none]) [true, false, true, false, false, false, false] rfl ?_
      cases h
      have hk := ke _ rfl
      exact hk
    · rw [if_pos (mm_b1 c6)] at h
      refine r_aload_n (q := 32) dX5_makeSure_31 rfl rfl ?_
      refine r_iload_n (q := 33) dX5_makeSure_32 rfl rfl ?_
      refine r_callV_i (av := [(.inl x2)]) (st := []) (q := 36) (d1 := 0) kc_X5_96 sc_c_36 dX5_makeSure_33 rfl rfl (Nat.le_of_ble_eq_true rfl) (Nat.le_of_ble_eq_true rfl) (by omega) rfl rfl (t_X5_worthOf (d := 0) (by omega) x2 s.2.2 _ rfl) ?_
      refine r_sipush (v := 1024) (q := 39) dX5_makeSure_36 (by decide) rfl ?_
      refine r_icmp_ne 126 (q := 42) dX5_makeSure_39 (by decide) rfl (fun c7 => ?_) (fun c7 => ?_)
      · rw [if_neg c7] at h
        refine r_forget (L' := [some (.inr 36), none, some (.inl x2), none, none, none, none]) [true, false, true, false, false, false, false] rfl ?_
        cases h
        have hk := ke _ rfl
        exact hk
      · rw [if_pos c7] at h
        refine r_iconst (v := 0) (q := 43) dX5_makeSure_42 (by decide) rfl ?_
        refine r_istore_n (q := 44) (L' := [some (.inr 36), some (.inr 7), some (.inl x2), some (.inl 0), some (.inl s.2.1), none, none]) dX5_makeSure_43 (by decide) rfl rfl ?_
        refine r_iconst (v := 0) (q := 45) dX5_makeSure_44 (by decide) rfl ?_
        refine r_istore (q := 47) (L' := [some (.inr 36), some (.inr 7), some (.inl x2), some (.inl 0), some (.inl s.2.1), some (.inl 0), none]) dX5_makeSure_45 (by decide) rfl rfl ?_
        obtain ⟨y17, e18, h⟩ := Option.bind_eq_some_iff.mp h
        refine t_X5_makeSure_l47 hd x2 s.2.1 mm_fuel (false, 0, s.2.2) _ e18 ?_
        show mm_Go jX5_makeSure _ _ _ _ 120 [some (.inr 36), some (.inr 7), some (.inl x2), some (.inl (mm_b y17.1)), some (.inl s.2.1), none, none] [] S_c y17.2 _
        refine r_iinc (v := 1) (q := 123) (L' := [some (.inr 36), some (.inr 7), some (.inl x2), some (.inl (mm_b y17.1)), some (.inl (s.2.1 + 1)), none, none]) dX5_makeSure_120 (by decide) (by decide) rfl rfl rfl ?_
        refine r_goto 19 dX5_makeSure_123 (by decide) ?_
        cases h
        have hk := kb _ rfl
        exact hk
noncomputable def X5_makeSure_j126 (x2 : Int32) (M : mm_M) : Option (Int32 × mm_M) := if (X5_worthOf x2 M) = 1024 then some ((-2), M) else some ((X5_worthOf x2 M), M)
set_option maxRecDepth 100000 in
set_option maxHeartbeats 400000 in
theorem t_X5_makeSure_j126 {D : mm_D} {d : Nat} (hd : 4 ≤ d) (x2 : Int32) (M : mm_M) (res : (Int32 × mm_M)) (h : X5_makeSure_j126 x2 M = some res) : mm_Go jX5_makeSure D d 0 0 126 [some (.inr 36), none, some (.inl x2), none, none, none, none] [] S_c M (mm_Zi res.1 S_c res.2) := by
  unfold X5_makeSure_j126 at h
  refine r_aload_n (q := 127) dX5_makeSure_126 rfl rfl ?_
  refine r_iload_n (q := 128) dX5_makeSure_127 rfl rfl ?_
  refine r_callV_i (av := [(.inl x2)]) (st := []) (q := 131) (d1 := 0) kc_X5_96 sc_c_36 dX5_makeSure_128 rfl rfl (Nat.le_of_ble_eq_true rfl) (Nat.le_of_ble_eq_true rfl) (by omega) rfl rfl (t_X5_worthOf (d := 0) (by omega) x2 M _ rfl) ?_
  refine r_sipush (v := 1024) (q := 134) dX5_makeSure_131 (by decide) rfl ?_
  refine r_icmp_ne 142 (q := 137) dX5_makeSure_134 (by decide) rfl (fun c21 => ?_) (fun c21 => ?_)
  · rw [if_neg c21] at h
    refine r_aload_n (q := 143) dX5_makeSure_142 rfl rfl ?_
    refine r_iload_n (q := 144) dX5_makeSure_143 rfl rfl ?_
    refine r_callV_i (av := [(.inl x2)]) (st := []) (q := 147) (d1 := 0) kc_X5_96 sc_c_36 dX5_makeSure_144 rfl rfl (Nat.le_of_ble_eq_true rfl) (Nat.le_of_ble_eq_true rfl) (by omega) rfl rfl (t_X5_worthOf (d := 0) (by omega) x2 M _ rfl) ?_
    cases h
    exact r_ret dX5_makeSure_147 rfl mm_Zi_rfl
  · rw [if_pos c21] at h
    refine r_bipush (v := (-2)) (q := 139) dX5_makeSure_137 (by decide) rfl ?_
    refine r_goto 147 dX5_makeSure_139 (by decide) ?_
    cases h
    exact r_ret dX5_makeSure_147 rfl mm_Zi_rfl
noncomputable def X5_makeSure (x2 : Int32) (M : mm_M) : Option (Int32 × mm_M) := (X8_telling M).bind fun y2 => (X5_explore x2 (mm_U M 36 7 y2)).bind fun y4 => (mm_loop (X5_makeSure_l19 x2) mm_fuel (true, 1, y4)).bind fun y19 => X5_makeSure_j126 x2 y19
set_option maxRecDepth 100000 in
set_option maxHeartbeats 400000 in
theorem t_X5_makeSure {d : Nat} (hd : 4 ≤ d) (x2 : Int32) (M : mm_M) (res : (Int32 × mm_M)) (h : X5_makeSure x2 M = some res) : mm_Meth jX5_makeSure d 0 0 [(.inr 36), (.inr 7), (.inl x2)] S_c M (mm_Zi res.1 S_c res.2) := by
  refine r_meth (L := [some (.inr 36), some (.inr 7), some (.inl x2), none, none, none, none]) rfl (fun D => ?_)
  unfold X5_makeSure at h
  refine r_aload_n (q := 1) dX5_makeSure_0 rfl rfl ?_
  refine r_aload_n (q := 2) dX5_makeSure_1 rfl rfl ?_
  obtain ⟨y2, e1, h⟩ := Option.bind_eq_some_iff.mp h
  refine r_callV_i (av := []) (st := [(.inr 36)]) (q := 5) (d1 := 1) kc_X5_87 sc_c_7 dX5_makeSure_2 rfl rfl (Nat.le_of_ble_eq_true rfl) (Nat.le_of_ble_eq_true rfl) (by omega) rfl rfl (t_X8_telling (d := 1) (by omega) M _ e1) ?_
  refine r_puti (q := 8) lk_X5_90 ft_3_7 dX5_makeSure_5 sc_c_36 rfl rfl ?_
  refine r_aload_n (q := 9) dX5_makeSure_8 rfl rfl ?_
  refine r_aload_n (q := 10) dX5_makeSure_9 rfl rfl ?_
  refine r_iload_n (q := 11) dX5_makeSure_10 rfl rfl ?_
  obtain ⟨y4, e3, h⟩ := Option.bind_eq_some_iff.mp h
  refine r_callV_v (av := [(.inr 7), (.inl x2)]) (st := []) (q := 14) (d1 := 3) kc_X5_92 sc_c_36 dX5_makeSure_11 rfl rfl (Nat.le_of_ble_eq_true rfl) (Nat.le_of_ble_eq_true rfl) (by omega) rfl rfl (t_X5_explore (d := 3) (by omega) x2 (mm_U M 36 7 y2) _ e3) ?_
  refine r_iconst (v := 1) (q := 15) dX5_makeSure_14 (by decide) rfl ?_
  refine r_istore_n (q := 16) (L' := [some (.inr 36), some (.inr 7), some (.inl x2), some (.inl 1), none, none, none]) dX5_makeSure_15 (by decide) rfl rfl ?_
  refine r_iconst (v := 1) (q := 17) dX5_makeSure_16 (by decide) rfl ?_
  refine r_istore (q := 19) (L' := [some (.inr 36), some (.inr 7), some (.inl x2), some (.inl 1), some (.inl 1), none, none]) dX5_makeSure_17 (by decide) rfl rfl ?_
  obtain ⟨y19, e20, h⟩ := Option.bind_eq_some_iff.mp h
  refine t_X5_makeSure_l19 hd x2 mm_fuel (true, 1, y4) _ e20 ?_
  show mm_Go jX5_makeSure _ _ _ _ 126 [some (.inr 36), none, some (.inl x2), none, none, none, none] [] S_c y19 _
  exact t_X5_makeSure_j126 hd x2 y19 _ h
noncomputable def X11_plan (x1 : Int32) (x2 : Int32) (M : mm_M) : Option (Int32 × mm_M) := if (X8_hasAll x1 M) = true then if (X11_isZeroOrOne x2) = true then (X5_makeSure x1 M).bind fun y4 => if y4.1 < 0 then some (y4.1, y4.2) else if x2 = 0 then some (y4.1, y4.2) else if y4.1 = 0 then some ((-4), y4.2) else (X5_firstSure x1 y4.1 y4.2).bind fun y9 => some (y9.1, y9.2) else some ((-1), M) else some ((-1), M)
set_option maxRecDepth 100000 in
set_option maxHeartbeats 400000 in
theorem t_X11_plan {d : Nat} (hd : 5 ≤ d) (x1 : Int32) (x2 : Int32) (M : mm_M) (res : (Int32 × mm_M)) (h : X11_plan x1 x2 M = some res) : mm_Meth jX11_plan d 0 0 [(.inr 0), (.inl x1), (.inl x2)] S_c M (mm_Zi res.1 S_c res.2) := by
  refine r_meth (L := [some (.inr 0), some (.inl x1), some (.inl x2), none]) rfl (fun D => ?_)
  unfold X11_plan at h
  refine r_aload_n (q := 1) dX11_plan_0 rfl rfl ?_
  refine r_getr (b := 7) (q := 4) lk_X11_42 dX11_plan_1 sc_c_0 rfl rfl ?_
  refine r_iload_n (q := 5) dX11_plan_4 rfl rfl ?_
  refine r_callV_i (av := [(.inl x1)]) (st := []) (q := 8) (d1 := 1) kc_X11_239 sc_c_7 dX11_plan_5 rfl rfl (Nat.le_of_ble_eq_true rfl) (Nat.le_of_ble_eq_true rfl) (by omega) rfl rfl (t_X8_hasAll (d := 1) (by omega) x1 M _ rfl) ?_
  refine r_if_eq 18 (q := 11) dX11_plan_8 (by decide) rfl (fun c1 => ?_) (fun c1 => ?_)
  · rw [if_neg (mm_b0 c1)] at h
    refine r_iconst (v := (-1)) (q := 19) dX11_plan_18 (by decide) rfl ?_
    cases h
    exact r_ret dX11_plan_19 rfl mm_Zi_rfl
  · rw [if_pos (mm_b1 c1)] at h
    refine r_iload_n (q := 12) dX11_plan_11 rfl rfl ?_
    refine r_callS_i (av := [(.inl x2)]) (st := []) (q := 15) (d1 := 0) kc_X11_179 dX11_plan_12 rfl rfl (Nat.le_of_ble_eq_true rfl) (Nat.le_of_ble_eq_true rfl) (by omega) rfl rfl (t_X11_isZeroOrOne (d := 0) (by omega) x2 M _ rfl) ?_
    refine r_if_ne 20 (q := 18) dX11_plan_15 (by decide) rfl (fun c2 => ?_) (fun c2 => ?_)
    · rw [if_pos (mm_b1 c2)] at h
      refine r_aload_n (q := 21) dX11_plan_20 rfl rfl ?_
      refine r_getr (b := 36) (q := 24) lk_X11_83 dX11_plan_21 sc_c_0 rfl rfl ?_
      refine r_aload_n (q := 25) dX11_plan_24 rfl rfl ?_
      refine r_getr (b := 7) (q := 28) lk_X11_42 dX11_plan_25 sc_c_0 rfl rfl ?_
      refine r_iload_n (q := 29) dX11_plan_28 rfl rfl ?_
      obtain ⟨y4, e3, h⟩ := Option.bind_eq_some_iff.mp h
      refine r_callV_i (av := [(.inr 7), (.inl x1)]) (st := []) (q := 32) (d1 := 4) kc_X11_242 sc_c_36 dX11_plan_29 rfl rfl (Nat.le_of_ble_eq_true rfl) (Nat.le_of_ble_eq_true rfl) (by omega) rfl rfl (t_X5_makeSure (d := 4) (by omega) x1 M _ e3) ?_
      refine r_istore_n (q := 33) (L' := [some (.inr 0), some (.inl x1), some (.inl x2), some (.inl y4.1)]) dX11_plan_32 (by decide) rfl rfl ?_
      refine r_iload_n (q := 34) dX11_plan_33 rfl rfl ?_
      refine r_if_lt 41 (q := 37) dX11_plan_34 (by decide) rfl (fun c5 => ?_) (fun c5 => ?_)
      · rw [if_pos c5] at h
        refine r_iload_n (q := 42) dX11_plan_41 rfl rfl ?_
        cases h
        exact r_ret dX11_plan_42 rfl mm_Zi_rfl
      · rw [if_neg c5] at h
        refine r_iload_n (q := 38) dX11_plan_37 rfl rfl ?_
        refine r_if_ne 43 (q := 41) dX11_plan_38 (by decide) rfl (fun c6 => ?_) (fun c6 => ?_)
        · rw [if_neg c6] at h
          refine r_iload_n (q := 44) dX11_plan_43 rfl rfl ?_
          refine r_if_ne 52 (q := 47) dX11_plan_44 (by decide) rfl (fun c7 => ?_) (fun c7 => ?_)
          · rw [if_neg c7] at h
            refine r_aload_n (q := 53) dX11_plan_52 rfl rfl ?_
            refine r_getr (b := 36) (q := 56) lk_X11_83 dX11_plan_53 sc_c_0 rfl rfl ?_
            refine r_aload_n (q := 57) dX11_plan_56 rfl rfl ?_
            refine r_getr (b := 7) (q := 60) lk_X11_42 dX11_plan_57 sc_c_0 rfl rfl ?_
            refine r_iload_n (q := 61) dX11_plan_60 rfl rfl ?_
            refine r_iload_n (q := 62) dX11_plan_61 rfl rfl ?_
            obtain ⟨y9, e8, h⟩ := Option.bind_eq_some_iff.mp h
            refine r_callV_i (av := [(.inr 7), (.inl x1), (.inl y4.1)]) (st := []) (q := 65) (d1 := 3) kc_X11_245 sc_c_36 dX11_plan_62 rfl rfl (Nat.le_of_ble_eq_true rfl) (Nat.le_of_ble_eq_true rfl) (by omega) rfl rfl (t_X5_firstSure (d := 3) (by omega) x1 y4.1 y4.2 _ e8) ?_
            cases h
            exact r_ret dX11_plan_65 rfl mm_Zi_rfl
          · rw [if_pos c7] at h
            refine r_bipush (v := (-4)) (q := 49) dX11_plan_47 (by decide) rfl ?_
            refine r_goto 65 dX11_plan_49 (by decide) ?_
            cases h
            exact r_ret dX11_plan_65 rfl mm_Zi_rfl
        · rw [if_pos c6] at h
          refine r_iload_n (q := 42) dX11_plan_41 rfl rfl ?_
          cases h
          exact r_ret dX11_plan_42 rfl mm_Zi_rfl
    · rw [if_neg (mm_b0 c2)] at h
      refine r_iconst (v := (-1)) (q := 19) dX11_plan_18 (by decide) rfl ?_
      cases h
      exact r_ret dX11_plan_19 rfl mm_Zi_rfl
noncomputable def X7_isLog_l2 (x1 : Int32) (M : mm_M) (s : Int32) : Option (Int32 ⊕ Bool) := if x1 ≤ s then some (.inr true) else (X7_byteAt ((2 : Int32) * s) M).bind fun y3 => if 8 ≤ y3 then some (.inr false) else (X7_byteAt (((2 : Int32) * s) + 1) M).bind fun y6 => if y6 ≤ 9 then some (.inl (s + 1)) else some (.inr false)
set_option maxRecDepth 100000 in
set_option maxHeartbeats 400000 in
theorem t_X7_isLog_l2 {D : mm_D} {d : Nat} (hd : 1 ≤ d) {Z : Option Int32 → List mm_C → mm_M → Prop} (x1 : Int32) (M : mm_M) (n : Nat) (s : Int32) (r : Bool) (h : mm_loop (X7_isLog_l2 x1 M) n s = some r) (hx : Z (some (mm_b r)) S_c M) : mm_Go jX7_isLog D d 0 0 2 [some (.inr 1), some (.inl x1), some (.inl s)] [] S_c M Z := by
  refine mm_loop_go (step := X7_isLog_l2 x1 M) (Hd := fun (s : Int32) => mm_Go jX7_isLog D d 0 0 2 [some (.inr 1), some (.inl x1), some (.inl s)] [] S_c M Z) (Ex := fun (r : Bool) => Z (some (mm_b r)) S_c M) ?_ n s r h hx
  intro s o h kb ke
  show mm_Go jX7_isLog D d 0 0 2 [some (.inr 1), some (.inl x1), some (.inl s)] [] S_c M Z
  unfold X7_isLog_l2 at h
  refine r_iload_n (q := 3) dX7_isLog_2 rfl rfl ?_
  refine r_iload_n (q := 4) dX7_isLog_3 rfl rfl ?_
  refine r_icmp_ge 41 (q := 7) dX7_isLog_4 (by decide) rfl (fun c1 => ?_) (fun c1 => ?_)
  · rw [if_pos c1] at h
    refine r_iconst (v := 1) (q := 42) dX7_isLog_41 (by decide) rfl ?_
    cases h
    have hk := ke _ rfl
    exact r_retb dX7_isLog_42 rfl (Or.inr rfl) hk
  · rw [if_neg c1] at h
    refine r_aload_n (q := 8) dX7_isLog_7 rfl rfl ?_
    refine r_iconst (v := 2) (q := 9) dX7_isLog_8 (by decide) rfl ?_
    refine r_iload_n (q := 10) dX7_isLog_9 rfl rfl ?_
    refine r_imul (q := 11) dX7_isLog_10 rfl ?_
    obtain ⟨y3, e2, h⟩ := Option.bind_eq_some_iff.mp h
    refine r_callV_i (av := [(.inl ((2 : Int32) * s))]) (st := []) (q := 14) (d1 := 0) kc_X7_19 sc_c_1 dX7_isLog_11 rfl rfl (Nat.le_of_ble_eq_true rfl) (Nat.le_of_ble_eq_true rfl) (by omega) rfl rfl (t_X7_byteAt (d := 0) (by omega) ((2 : Int32) * s) M _ e2) ?_
    refine r_bipush (v := 8) (q := 16) dX7_isLog_14 (by decide) rfl ?_
    refine r_icmp_ge 33 (q := 19) dX7_isLog_16 (by decide) rfl (fun c4 => ?_) (fun c4 => ?_)
    · rw [if_pos c4] at h
      refine r_iconst (v := 0) (q := 34) dX7_isLog_33 (by decide) rfl ?_
      cases h
      have hk := ke _ rfl
      exact r_retb dX7_isLog_34 rfl (Or.inl rfl) hk
    · rw [if_neg c4] at h
      refine r_aload_n (q := 20) dX7_isLog_19 rfl rfl ?_
      refine r_iconst (v := 2) (q := 21) dX7_isLog_20 (by decide) rfl ?_
      refine r_iload_n (q := 22) dX7_isLog_21 rfl rfl ?_
      refine r_imul (q := 23) dX7_isLog_22 rfl ?_
      refine r_iconst (v := 1) (q := 24) dX7_isLog_23 (by decide) rfl ?_
      refine r_iadd (q := 25) dX7_isLog_24 rfl ?_
      obtain ⟨y6, e5, h⟩ := Option.bind_eq_some_iff.mp h
      refine r_callV_i (av := [(.inl (((2 : Int32) * s) + 1))]) (st := []) (q := 28) (d1 := 0) kc_X7_19 sc_c_1 dX7_isLog_25 rfl rfl (Nat.le_of_ble_eq_true rfl) (Nat.le_of_ble_eq_true rfl) (by omega) rfl rfl (t_X7_byteAt (d := 0) (by omega) (((2 : Int32) * s) + 1) M _ e5) ?_
      refine r_bipush (v := 9) (q := 30) dX7_isLog_28 (by decide) rfl ?_
      refine r_icmp_le 35 (q := 33) dX7_isLog_30 (by decide) rfl (fun c7 => ?_) (fun c7 => ?_)
      · rw [if_pos c7] at h
        refine r_iinc (v := 1) (q := 38) (L' := [some (.inr 1), some (.inl x1), some (.inl (s + 1))]) dX7_isLog_35 (by decide) (by decide) rfl rfl rfl ?_
        refine r_goto 2 dX7_isLog_38 (by decide) ?_
        cases h
        have hk := kb _ rfl
        exact hk
      · rw [if_neg c7] at h
        refine r_iconst (v := 0) (q := 34) dX7_isLog_33 (by decide) rfl ?_
        cases h
        have hk := ke _ rfl
        exact r_retb dX7_isLog_34 rfl (Or.inl rfl) hk
noncomputable def X7_isLog (x1 : Int32) (M : mm_M) : Option Bool := (mm_loop (X7_isLog_l2 x1 M) mm_fuel 0)
set_option maxRecDepth 100000 in
set_option maxHeartbeats 400000 in
theorem t_X7_isLog {d : Nat} (hd : 1 ≤ d) (x1 : Int32) (M : mm_M) (res : Bool) (h : X7_isLog x1 M = some res) : mm_Meth jX7_isLog d 0 0 [(.inr 1), (.inl x1)] S_c M (mm_Zi (mm_b res) S_c M) := by
  refine r_meth (L := [some (.inr 1), some (.inl x1), none]) rfl (fun D => ?_)
  unfold X7_isLog at h
  refine r_iconst (v := 0) (q := 1) dX7_isLog_0 (by decide) rfl ?_
  refine r_istore_n (q := 2) (L' := [some (.inr 1), some (.inl x1), some (.inl 0)]) dX7_isLog_1 (by decide) rfl rfl ?_
  exact t_X7_isLog_l2 hd x1 M mm_fuel 0 _ h mm_Zi_rfl
noncomputable def X5_fitLog_j71l31 (x3 : Int32) (x4 : Int32) (x5 : Int32) (x6 : Int32) (x7 : Int32) (x8 : Int32) (x9 : Int32) (x10 : Int32) (x11 : Int32) (x12 : Int32) (M : mm_M) : Option ((Int32 × Int32 × Int32) ⊕ (Int32 × Int32)) := some (.inl (x9, (X8_behind x12 x10 M), (x11 + 1)))
set_option maxRecDepth 100000 in
set_option maxHeartbeats 400000 in
theorem t_X5_fitLog_j71l31 {D : mm_D} {d : Nat} (hd : 1 ≤ d) {Z : Option Int32 → List mm_C → mm_M → Prop} (x3 : Int32) (x4 : Int32) (x5 : Int32) (x6 : Int32) (x7 : Int32) (x8 : Int32) (x9 : Int32) (x10 : Int32) (x11 : Int32) (x12 : Int32) (M : mm_M) (o : (Int32 × Int32 × Int32) ⊕ (Int32 × Int32)) (h : X5_fitLog_j71l31 x3 x4 x5 x6 x7 x8 x9 x10 x11 x12 M = some o) (kb : ∀ s', o = .inl s' → mm_Go jX5_fitLog D d 0 0 31 [none, some (.inr 7), some (.inr 1), some (.inl x3), some (.inl x4), some (.inl x5), some (.inl x6), some (.inl x7), some (.inl x8), some (.inl s'.1), some (.inl s'.2.1), some (.inl s'.2.2), none] [] S_c M Z) (ke : ∀ r, o = .inr r → mm_Go jX5_fitLog D d 0 0 87 [none, some (.inr 7), some (.inr 1), some (.inl x3), some (.inl x4), some (.inl x5), some (.inl x6), some (.inl x7), some (.inl x8), some (.inl r.1), some (.inl r.2), none, none] [] S_c M Z) : mm_Go jX5_fitLog D d 0 0 71 [none, some (.inr 7), some (.inr 1), some (.inl x3), some (.inl x4), some (.inl x5), some (.inl x6), some (.inl x7), some (.inl x8), some (.inl x9), some (.inl x10), some (.inl x11), some (.inl x12)] [] S_c M Z := by
  unfold X5_fitLog_j71l31 at h
  refine r_aload_n (q := 72) dX5_fitLog_71 rfl rfl ?_
  refine r_iload (q := 74) dX5_fitLog_72 rfl rfl ?_
  refine r_iload (q := 76) dX5_fitLog_74 rfl rfl ?_
  refine r_callV_i (av := [(.inl x12), (.inl x10)]) (st := []) (q := 79) (d1 := 0) kc_X5_84 sc_c_7 dX5_fitLog_76 rfl rfl (Nat.le_of_ble_eq_true rfl) (Nat.le_of_ble_eq_true rfl) (by omega) rfl rfl (t_X8_behind (d := 0) (by omega) x12 x10 M _ rfl) ?_
  refine r_istore (q := 81) (L' := [none, some (.inr 7), some (.inr 1), some (.inl x3), some (.inl x4), some (.inl x5), some (.inl x6), some (.inl x7), some (.inl x8), some (.inl x9), some (.inl (X8_behind x12 x10 M)), some (.inl x11), some (.inl x12)]) dX5_fitLog_79 (by decide) rfl rfl ?_
  refine r_iinc (v := 1) (q := 84) (L' := [none, some (.inr 7), some (.inr 1), some (.inl x3), some (.inl x4), some (.inl x5), some (.inl x6), some (.inl x7), some (.inl x8), some (.inl x9), some (.inl (X8_behind x12 x10 M)), some (.inl (x11 + 1)), some (.inl x12)]) dX5_fitLog_81 (by decide) (by decide) rfl rfl rfl ?_
  refine r_goto 31 dX5_fitLog_84 (by decide) ?_
  refine r_forget (L' := [none, some (.inr 7), some (.inr 1), some (.inl x3), some (.inl x4), some (.inl x5), some (.inl x6), some (.inl x7), some (.inl x8), some (.inl x9), some (.inl (X8_behind x12 x10 M)), some (.inl (x11 + 1)), none]) [false, true, true, true, true, true, true, true, true, true, true, true, false] rfl ?_
  cases h
  have hk := kb _ rfl
  exact hk
noncomputable def X5_fitLog_l31 (x3 : Int32) (x4 : Int32) (x5 : Int32) (x6 : Int32) (x7 : Int32) (x8 : Int32) (M : mm_M) (s : (Int32 × Int32 × Int32)) : Option ((Int32 × Int32 × Int32) ⊕ (Int32 × Int32)) := if x3 ≤ s.2.2 then some (.inr (s.1, s.2.1)) else (X7_byteAt ((2 : Int32) * s.2.2) M).bind fun y4 => (X7_byteAt (((2 : Int32) * s.2.2) + 1) M).bind fun y6 => if (X8_answer y4 s.2.1 M) = y6 then X5_fitLog_j71l31 x3 x4 x5 x6 x7 x8 s.1 s.2.1 s.2.2 y4 M else X5_fitLog_j71l31 x3 x4 x5 x6 x7 x8 (s.1 + 1) s.2.1 s.2.2 y4 M
set_option maxRecDepth 100000 in
set_option maxHeartbeats 400000 in
theorem t_X5_fitLog_l31 {D : mm_D} {d : Nat} (hd : 1 ≤ d) {Z : Option Int32 → List mm_C → mm_M → Prop} (x3 : Int32) (x4 : Int32) (x5 : Int32) (x6 : Int32) (x7 : Int32) (x8 : Int32) (M : mm_M) (n : Nat) (s : (Int32 × Int32 × Int32)) (r : (Int32 × Int32)) (h : mm_loop (X5_fitLog_l31 x3 x4 x5 x6 x7 x8 M) n s = some r) (hx : mm_Go jX5_fitLog D d 0 0 87 [none, some (.inr 7), some (.inr 1), some (.inl x3), some (.inl x4), some (.inl x5), some (.inl x6), some (.inl x7), some (.inl x8), some (.inl r.1), some (.inl r.2), none, none] [] S_c M Z) : mm_Go jX5_fitLog D d 0 0 31 [none, some (.inr 7), some (.inr 1), some (.inl x3), some (.inl x4), some (.inl x5), some (.inl x6), some (.inl x7), some (.inl x8), some (.inl s.1), some (.inl s.2.1), some (.inl s.2.2), none] [] S_c M Z := by
  refine mm_loop_go (step := X5_fitLog_l31 x3 x4 x5 x6 x7 x8 M) (Hd := fun (s : (Int32 × Int32 × Int32)) => mm_Go jX5_fitLog D d 0 0 31 [none, some (.inr 7), some (.inr 1), some (.inl x3), some (.inl x4), some (.inl x5), some (.inl x6), some (.inl x7), some (.inl x8), some (.inl s.1), some (.inl s.2.1), some (.inl s.2.2), none] [] S_c M Z) (Ex := fun (r : (Int32 × Int32)) => mm_Go jX5_fitLog D d 0 0 87 [none, some (.inr 7), some (.inr 1), some (.inl x3), some (.inl x4), some (.inl x5), some (.inl x6), some (.inl x7), some (.inl x8), some (.inl r.1), some (.inl r.2), none, none] [] S_c M Z) ?_ n s r h hx
  intro s o h kb ke
  show mm_Go jX5_fitLog D d 0 0 31 [none, some (.inr 7), some (.inr 1), some (.inl x3), some (.inl x4), some (.inl x5), some (.inl x6), some (.inl x7), some (.inl x8), some (.inl s.1), some (.inl s.2.1), some (.inl s.2.2), none] [] S_c M Z
  unfold X5_fitLog_l31 at h
  refine r_iload (q := 33) dX5_fitLog_31 rfl rfl ?_
  refine r_iload_n (q := 34) dX5_fitLog_33 rfl rfl ?_
  refine r_icmp_ge 87 (q := 37) dX5_fitLog_34 (by decide) rfl (fun c2 => ?_) (fun c2 => ?_)
  · rw [if_pos c2] at h
    refine r_forget (L' := [none, some (.inr 7), some (.inr 1), some (.inl x3), some (.inl x4), some (.inl x5), some (.inl x6), some (.inl x7), some (.inl x8), some (.inl s.1), some (.inl s.2.1), none, none]) [false, true, true, true, true, true, true, true, true, true, true, false, false] rfl ?_
    cases h
    have hk := ke _ rfl
    exact hk
  · rw [if_neg c2] at h
    refine r_aload_n (q := 38) dX5_fitLog_37 rfl rfl ?_
    refine r_iconst (v := 2) (q := 39) dX5_fitLog_38 (by decide) rfl ?_
    refine r_iload (q := 41) dX5_fitLog_39 rfl rfl ?_
    refine r_imul (q := 42) dX5_fitLog_41 rfl ?_
    obtain ⟨y4, e3, h⟩ := Option.bind_eq_some_iff.mp h
    refine r_callV_i (av := [(.inl ((2 : Int32) * s.2.2))]) (st := []) (q := 45) (d1 := 0) kc_X5_30 sc_c_1 dX5_fitLog_42 rfl rfl (Nat.le_of_ble_eq_true rfl) (Nat.le_of_ble_eq_true rfl) (by omega) rfl rfl (t_X7_byteAt (d := 0) (by omega) ((2 : Int32) * s.2.2) M _ e3) ?_
    refine r_istore (q := 47) (L' := [none, some (.inr 7), some (.inr 1), some (.inl x3), some (.inl x4), some (.inl x5), some (.inl x6), some (.inl x7), some (.inl x8), some (.inl s.1), some (.inl s.2.1), some (.inl s.2.2), some (.inl y4)]) dX5_fitLog_45 (by decide) rfl rfl ?_
    refine r_aload_n (q := 48) dX5_fitLog_47 rfl rfl ?_
    refine r_iload (q := 50) dX5_fitLog_48 rfl rfl ?_
    refine r_iload (q := 52) dX5_fitLog_50 rfl rfl ?_
    refine r_callV_i (av := [(.inl y4), (.inl s.2.1)]) (st := []) (q := 55) (d1 := 0) kc_X5_113 sc_c_7 dX5_fitLog_52 rfl rfl (Nat.le_of_ble_eq_true rfl) (Nat.le_of_ble_eq_true rfl) (by omega) rfl rfl (t_X8_answer (d := 0) (by omega) y4 s.2.1 M _ rfl) ?_
    refine r_aload_n (q := 56) dX5_fitLog_55 rfl rfl ?_
    refine r_iconst (v := 2) (q := 57) dX5_fitLog_56 (by decide) rfl ?_
    refine r_iload (q := 59) dX5_fitLog_57 rfl rfl ?_
    refine r_imul (q := 60) dX5_fitLog_59 rfl ?_
    refine r_iconst (v := 1) (q := 61) dX5_fitLog_60 (by decide) rfl ?_
    refine r_iadd (q := 62) dX5_fitLog_61 rfl ?_
    obtain ⟨y6, e5, h⟩ := Option.bind_eq_some_iff.mp h
    refine r_callV_i (av := [(.inl (((2 : Int32) * s.2.2) + 1))]) (st := [(.inl (X8_answer y4 s.2.1 M))]) (q := 65) (d1 := 0) kc_X5_30 sc_c_1 dX5_fitLog_62 rfl rfl (Nat.le_of_ble_eq_true rfl) (Nat.le_of_ble_eq_true rfl) (by omega) rfl rfl (t_X7_byteAt (d := 0) (by omega) (((2 : Int32) * s.2.2) + 1) M _ e5) ?_
    refine r_icmp_eq 71 (q := 68) dX5_fitLog_65 (by decide) rfl (fun c7 => ?_) (fun c7 => ?_)
    · rw [if_pos c7] at h
      exact t_X5_fitLog_j71l31 hd x3 x4 x5 x6 x7 x8 s.1 s.2.1 s.2.2 y4 M _ h kb ke
    · rw [if_neg c7] at h
      refine r_iinc (v := 1) (q := 71) (L' := [none, some (.inr 7), some (.inr 1), some (.inl x3), some (.inl x4), some (.inl x5), some (.inl x6), some (.inl x7), some (.inl x8), some (.inl (s.1 + 1)), some (.inl s.2.1), some (.inl s.2.2), some (.inl y4)]) dX5_fitLog_68 (by decide) (by decide) rfl rfl rfl ?_
      exact t_X5_fitLog_j71l31 hd x3 x4 x5 x6 x7 x8 (s.1 + 1) s.2.1 s.2.2 y4 M _ h kb ke
noncomputable def X5_fitLog_l12 (x3 : Int32) (x4 : Int32) (M : mm_M) (s : (Int32 × Int32 × Int32 × Int32)) : Option ((Int32 × Int32 × Int32 × Int32) ⊕ (Int32 × Int32 × Int32)) := if (M 7 0) ≤ s.2.2.2 then some (.inr (s.1, s.2.1, s.2.2.1)) else (mm_loop (X5_fitLog_l31 x3 x4 s.1 s.2.1 s.2.2.1 s.2.2.2 M) mm_fuel (0, s.2.2.2, 0)).bind fun y8 => if y8.1 = 0 then some (.inl ((s.1 ||| ((1 : Int32) <<< (s.2.2.2 &&& 31))), (s.2.1 ||| ((1 : Int32) <<< (y8.2 &&& 31))), (if y8.1 < s.2.2.1 then y8.1 else s.2.2.1), (s.2.2.2 + 1))) else some (.inl (s.1, s.2.1, (if y8.1 < s.2.2.1 then y8.1 else s.2.2.1), (s.2.2.2 + 1)))
set_option maxRecDepth 100000 in
set_option maxHeartbeats 400000 in
theorem t_X5_fitLog_l12 {D : mm_D} {d : Nat} (hd : 1 ≤ d) {Z : Option Int32 → List mm_C → mm_M → Prop} (x3 : Int32) (x4 : Int32) (M : mm_M) (n : Nat) (s : (Int32 × Int32 × Int32 × Int32)) (r : (Int32 × Int32 × Int32)) (h : mm_loop (X5_fitLog_l12 x3 x4 M) n s = some r) (hx : mm_Go jX5_fitLog D d 0 0 125 [none, none, none, none, some (.inl x4), some (.inl r.1), some (.inl r.2.1), some (.inl r.2.2), none, none, none, none, none] [] S_c M Z) : mm_Go jX5_fitLog D d 0 0 12 [none, some (.inr 7), some (.inr 1), some (.inl x3), some (.inl x4), some (.inl s.1), some (.inl s.2.1), some (.inl s.2.2.1), some (.inl s.2.2.2), none, none, none, none] [] S_c M Z := by
  refine mm_loop_go (step := X5_fitLog_l12 x3 x4 M) (Hd := fun (s : (Int32 × Int32 × Int32 × Int32)) => mm_Go jX5_fitLog D d 0 0 12 [none, some (.inr 7), some (.inr 1), some (.inl x3), some (.inl x4), some (.inl s.1), some (.inl s.2.1), some (.inl s.2.2.1), some (.inl s.2.2.2), none, none, none, none] [] S_c M Z) (Ex := fun (r : (Int32 × Int32 × Int32)) => mm_Go jX5_fitLog D d 0 0 125 [none, none, none, none, some (.inl x4), some (.inl r.1), some (.inl r.2.1), some (.inl r.2.2), none, none, none, none, none] [] S_c M Z) ?_ n s r h hx
  intro s o h kb ke
  show mm_Go jX5_fitLog D d 0 0 12 [none, some (.inr 7), some (.inr 1), some (.inl x3), some (.inl x4), some (.inl s.1), some (.inl s.2.1), some (.inl s.2.2.1), some (.inl s.2.2.2), none, none, none, none] [] S_c M Z
  unfold X5_fitLog_l12 at h
  refine r_iload (q := 14) dX5_fitLog_12 rfl rfl ?_
  refine r_aload_n (q := 15) dX5_fitLog_14 rfl rfl ?_
  refine r_geti (v := (M 7 0)) (q := 18) lk_X5_81 dX5_fitLog_15 sc_c_7 rfl rfl rfl ?_
  refine r_icmp_ge 125 (q := 21) dX5_fitLog_18 (by decide) rfl (fun c1 => ?_) (fun c1 => ?_)
  · rw [if_pos c1] at h
    refine r_forget (L' := [none, none, none, none, some (.inl x4), some (.inl s.1), some (.inl s.2.1), some (.inl s.2.2.1), none, none, none, none, none]) [false, false, false, false, true, true, true, true, false, false, false, false, false] rfl ?_
    cases h
    have hk := ke _ rfl
    exact hk
  · rw [if_neg c1] at h
    refine r_iconst (v := 0) (q := 22) dX5_fitLog_21 (by decide) rfl ?_
    refine r_istore (q := 24) (L' := [none, some (.inr 7), some (.inr 1), some (.inl x3), some (.inl x4), some (.inl s.1), some (.inl s.2.1), some (.inl s.2.2.1), some (.inl s.2.2.2), some (.inl 0), none, none, none]) dX5_fitLog_22 (by decide) rfl rfl ?_
    refine r_iload (q := 26) dX5_fitLog_24 rfl rfl ?_
    refine r_istore (q := 28) (L' := [none, some (.inr 7), some (.inr 1), some (.inl x3), some (.inl x4), some (.inl s.1), some (.inl s.2.1), some (.inl s.2.2.1), some (.inl s.2.2.2), some (.inl 0), some (.inl s.2.2.2), none, none]) dX5_fitLog_26 (by decide) rfl rfl ?_
    refine r_iconst (v := 0) (q := 29) dX5_fitLog_28 (by decide) rfl ?_
    refine r_istore (q := 31) (L' := [none, some (.inr 7), some (.inr 1), some (.inl x3), some (.inl x4), some (.inl s.1), some (.inl s.2.1), some (.inl s.2.2.1), some (.inl s.2.2.2), some (.inl 0), some (.inl s.2.2.2), some (.inl 0), none]) dX5_fitLog_29 (by decide) rfl rfl ?_
    obtain ⟨y8, e9, h⟩ := Option.bind_eq_some_iff.mp h
    refine t_X5_fitLog_l31 hd x3 x4 s.1 s.2.1 s.2.2.1 s.2.2.2 M mm_fuel (0, s.2.2.2, 0) _ e9 ?_
    show mm_Go jX5_fitLog _ _ _ _ 87 [none, some (.inr 7), some (.inr 1), some (.inl x3), some (.inl x4), some (.inl s.1), some (.inl s.2.1), some (.inl s.2.2.1), some (.inl s.2.2.2), some (.inl y8.1), some (.inl y8.2), none, none] [] S_c M _
    refine r_iload (q := 89) dX5_fitLog_87 rfl rfl ?_
    refine r_if_ne 110 (q := 92) dX5_fitLog_89 (by decide) rfl (fun c10 => ?_) (fun c10 => ?_)
    · rw [if_neg c10] at h
      refine r_iload (q := 112) dX5_fitLog_110 rfl rfl ?_
      refine r_iload (q := 114) dX5_fitLog_112 rfl rfl ?_
      refine r_mmin (q := 117) kc_X5_42 dX5_fitLog_114 (Nat.le_of_ble_eq_true rfl) rfl ?_
      refine r_istore (q := 119) (L' := [none, some (.inr 7), some (.inr 1), some (.inl x3), some (.inl x4), some (.inl s.1), some (.inl s.2.1), some (.inl (if y8.1 < s.2.2.1 then y8.1 else s.2.2.1)), some (.inl s.2.2.2), some (.inl y8.1), some (.inl y8.2), none, none]) dX5_fitLog_117 (by decide) rfl rfl ?_
      refine r_iinc (v := 1) (q := 122) (L' := [none, some (.inr 7), some (.inr 1), some (.inl x3), some (.inl x4), some (.inl s.1), some (.inl s.2.1), some (.inl (if y8.1 < s.2.2.1 then y8.1 else s.2.2.1)), some (.inl (s.2.2.2 + 1)), some (.inl y8.1), some (.inl y8.2), none, none]) dX5_fitLog_119 (by decide) (by decide) rfl rfl rfl ?_
      refine r_goto 12 dX5_fitLog_122 (by decide) ?_
      refine r_forget (L' := [none, some (.inr 7), some (.inr 1), some (.inl x3), some (.inl x4), some (.inl s.1), some (.inl s.2.1), some (.inl (if y8.1 < s.2.2.1 then y8.1 else s.2.2.1)), some (.inl (s.2.2.2 + 1)), none, none, none, none]) [false, true, true, true, true, true, true, true, true, false, false, false, false] rfl ?_
      cases h
      have hk := kb _ rfl
      exact hk
    · rw [if_pos c10] at h
      refine r_iload (q := 94) dX5_fitLog_92 rfl rfl ?_
      refine r_iconst (v := 1) (q := 95) dX5_fitLog_94 (by decide) rfl ?_
      refine r_iload (q := 97) dX5_fitLog_95 rfl rfl ?_
      refine r_ishl (q := 98) dX5_fitLog_97 rfl ?_
      refine r_ior (q := 99) dX5_fitLog_98 rfl ?_
      refine r_istore (q := 101) (L' := [none, some (.inr 7), some (.inr 1), some (.inl x3), some (.inl x4), some (.inl (s.1 ||| ((1 : Int32) <<< (s.2.2.2 &&& 31)))), some (.inl s.2.1), some (.inl s.2.2.1), some (.inl s.2.2.2), some (.inl y8.1), some (.inl y8.2), none, none]) dX5_fitLog_99 (by decide) rfl rfl ?_
      refine r_iload (q := 103) dX5_fitLog_101 rfl rfl ?_
      refine r_iconst (v := 1) (q := 104) dX5_fitLog_103 (by decide) rfl ?_
      refine r_iload (q := 106) dX5_fitLog_104 rfl rfl ?_
      refine r_ishl (q := 107) dX5_fitLog_106 rfl ?_
      refine r_ior (q := 108) dX5_fitLog_107 rfl ?_
      refine r_istore (q := 110) (L' := [none, some (.inr 7), some (.inr 1), some (.inl x3), some (.inl x4), some (.inl (s.1 ||| ((1 : Int32) <<< (s.2.2.2 &&& 31)))), some (.inl (s.2.1 ||| ((1 : Int32) <<< (y8.2 &&& 31)))), some (.inl s.2.2.1), some (.inl s.2.2.2), some (.inl y8.1), some (.inl y8.2), none, none]) dX5_fitLog_108 (by decide) rfl rfl ?_
      refine r_iload (q := 112) dX5_fitLog_110 rfl rfl ?_
      refine r_iload (q := 114) dX5_fitLog_112 rfl rfl ?_
      refine r_mmin (q := 117) kc_X5_42 dX5_fitLog_114 (Nat.le_of_ble_eq_true rfl) rfl ?_
      refine r_istore (q := 119) (L' := [none, some (.inr 7), some (.inr 1), some (.inl x3), some (.inl x4), some (.inl (s.1 ||| ((1 : Int32) <<< (s.2.2.2 &&& 31)))), some (.inl (s.2.1 ||| ((1 : Int32) <<< (y8.2 &&& 31)))), some (.inl (if y8.1 < s.2.2.1 then y8.1 else s.2.2.1)), some (.inl s.2.2.2), some (.inl y8.1), some (.inl y8.2), none, none]) dX5_fitLog_117 (by decide) rfl rfl ?_
      refine r_iinc (v := 1) (q := 122) (L' := [none, some (.inr 7), some (.inr 1), some (.inl x3), some (.inl x4), some (.inl (s.1 ||| ((1 : Int32) <<< (s.2.2.2 &&& 31)))), some (.inl (s.2.1 ||| ((1 : Int32) <<< (y8.2 &&& 31)))), some (.inl (if y8.1 < s.2.2.1 then y8.1 else s.2.2.1)), some (.inl (s.2.2.2 + 1)), some (.inl y8.1), some (.inl y8.2), none, none]) dX5_fitLog_119 (by decide) (by decide) rfl rfl rfl ?_
      refine r_goto 12 dX5_fitLog_122 (by decide) ?_
      refine r_forget (L' := [none, some (.inr 7), some (.inr 1), some (.inl x3), some (.inl x4), some (.inl (s.1 ||| ((1 : Int32) <<< (s.2.2.2 &&& 31)))), some (.inl (s.2.1 ||| ((1 : Int32) <<< (y8.2 &&& 31)))), some (.inl (if y8.1 < s.2.2.1 then y8.1 else s.2.2.1)), some (.inl (s.2.2.2 + 1)), none, none, none, none]) [false, true, true, true, true, true, true, true, true, false, false, false, false] rfl ?_
      cases h
      have hk := kb _ rfl
      exact hk
noncomputable def X5_fitLog (x3 : Int32) (x4 : Int32) (M : mm_M) : Option Int32 := (mm_loop (X5_fitLog_l12 x3 x4 M) mm_fuel (0, 0, x3, 0)).bind fun y11 => if x4 = 0 then some y11.1 else if x4 = 1 then some y11.2.1 else some y11.2.2
set_option maxRecDepth 100000 in
set_option maxHeartbeats 400000 in
theorem t_X5_fitLog {d : Nat} (hd : 1 ≤ d) (x3 : Int32) (x4 : Int32) (M : mm_M) (res : Int32) (h : X5_fitLog x3 x4 M = some res) : mm_Meth jX5_fitLog d 0 0 [(.inr 36), (.inr 7), (.inr 1), (.inl x3), (.inl x4)] S_c M (mm_Zi res S_c M) := by
  refine r_meth (L := [some (.inr 36), some (.inr 7), some (.inr 1), some (.inl x3), some (.inl x4), none, none, none, none, none, none, none, none]) rfl (fun D => ?_)
  unfold X5_fitLog at h
  refine r_iconst (v := 0) (q := 1) dX5_fitLog_0 (by decide) rfl ?_
  refine r_istore (q := 3) (L' := [some (.inr 36), some (.inr 7), some (.inr 1), some (.inl x3), some (.inl x4), some (.inl 0), none, none, none, none, none, none, none]) dX5_fitLog_1 (by decide) rfl rfl ?_
  refine r_iconst (v := 0) (q := 4) dX5_fitLog_3 (by decide) rfl ?_
  refine r_istore (q := 6) (L' := [some (.inr 36), some (.inr 7), some (.inr 1), some (.inl x3), some (.inl x4), some (.inl 0), some (.inl 0), none, none, none, none, none, none]) dX5_fitLog_4 (by decide) rfl rfl ?_
  refine r_iload_n (q := 7) dX5_fitLog_6 rfl rfl ?_
  refine r_istore (q := 9) (L' := [some (.inr 36), some (.inr 7), some (.inr 1), some (.inl x3), some (.inl x4), some (.inl 0), some (.inl 0), some (.inl x3), none, none, none, none, none]) dX5_fitLog_7 (by decide) rfl rfl ?_
  refine r_iconst (v := 0) (q := 10) dX5_fitLog_9 (by decide) rfl ?_
  refine r_istore (q := 12) (L' := [some (.inr 36), some (.inr 7), some (.inr 1), some (.inl x3), some (.inl x4), some (.inl 0), some (.inl 0), some (.inl x3), some (.inl 0), none, none, none, none]) dX5_fitLog_10 (by decide) rfl rfl ?_
  refine r_forget (L' := [none, some (.inr 7), some (.inr 1), some (.inl x3), some (.inl x4), some (.inl 0), some (.inl 0), some (.inl x3), some (.inl 0), none, none, none, none]) [false, true, true, true, true, true, true, true, true, false, false, false, false] rfl ?_
  obtain ⟨y11, e12, h⟩ := Option.bind_eq_some_iff.mp h
  refine t_X5_fitLog_l12 hd x3 x4 M mm_fuel (0, 0, x3, 0) _ e12 ?_
  show mm_Go jX5_fitLog _ _ _ _ 125 [none, none, none, none, some (.inl x4), some (.inl y11.1), some (.inl y11.2.1), some (.inl y11.2.2), none, none, none, none, none] [] S_c M _
  refine r_iload (q := 127) dX5_fitLog_125 rfl rfl ?_
  refine r_if_ne 135 (q := 130) dX5_fitLog_127 (by decide) rfl (fun c13 => ?_) (fun c13 => ?_)
  · rw [if_neg c13] at h
    refine r_iload (q := 137) dX5_fitLog_135 rfl rfl ?_
    refine r_iconst (v := 1) (q := 138) dX5_fitLog_137 (by decide) rfl ?_
    refine r_icmp_ne 146 (q := 141) dX5_fitLog_138 (by decide) rfl (fun c14 => ?_) (fun c14 => ?_)
    · rw [if_neg c14] at h
      refine r_iload (q := 148) dX5_fitLog_146 rfl rfl ?_
      cases h
      exact r_ret dX5_fitLog_148 rfl mm_Zi_rfl
    · rw [if_pos c14] at h
      refine r_iload (q := 143) dX5_fitLog_141 rfl rfl ?_
      refine r_goto 148 dX5_fitLog_143 (by decide) ?_
      cases h
      exact r_ret dX5_fitLog_148 rfl mm_Zi_rfl
  · rw [if_pos c13] at h
    refine r_iload (q := 132) dX5_fitLog_130 rfl rfl ?_
    refine r_goto 148 dX5_fitLog_132 (by decide) ?_
    cases h
    exact r_ret dX5_fitLog_148 rfl mm_Zi_rfl
