noncomputable def X12_greatestBy_l18 (x1 : Int32) (x2 : Int32) (x3 : Int32) (x4 : Int32) (M : mm_M) (s : (Int32 × Int32)) : Option ((Int32 × Int32) ⊕ Int32) := if (M 0 6) ≤ s.2 then some (.inr s.1) else if (X12_has x1 s.2) = true then (X12_answer x2 s.2 M).bind fun y5 => if y5 = x4 then some (.inl ((s.1 + 1), (s.2 + 1))) else some (.inl (s.1, (s.2 + 1))) else some (.inl (s.1, (s.2 + 1)))
set_option maxRecDepth 100000 in
set_option maxHeartbeats 400000 in
theorem t_X12_greatestBy_l18 {D : mm_D} {d : Nat} (hd : 1 ≤ d) {Z : Option Int32 → List mm_C → mm_M → Prop} (x1 : Int32) (x2 : Int32) (x3 : Int32) (x4 : Int32) (M : mm_M) (n : Nat) (s : (Int32 × Int32)) (r : Int32) (h : mm_loop (X12_greatestBy_l18 x1 x2 x3 x4 M) n s = some r) (hx : mm_Go jX12_greatestBy D d 0 0 60 [some (.inr 0), some (.inl x1), some (.inl x2), some (.inl x3), some (.inl x4), some (.inl r), none] [] S_m M Z) : mm_Go jX12_greatestBy D d 0 0 18 [some (.inr 0), some (.inl x1), some (.inl x2), some (.inl x3), some (.inl x4), some (.inl s.1), some (.inl s.2)] [] S_m M Z := by
  refine mm_loop_go (step := X12_greatestBy_l18 x1 x2 x3 x4 M) (Hd := fun (s : (Int32 × Int32)) => mm_Go jX12_greatestBy D d 0 0 18 [some (.inr 0), some (.inl x1), some (.inl x2), some (.inl x3), some (.inl x4), some (.inl s.1), some (.inl s.2)] [] S_m M Z) (Ex := fun (r : Int32) => mm_Go jX12_greatestBy D d 0 0 60 [some (.inr 0), some (.inl x1), some (.inl x2), some (.inl x3), some (.inl x4), some (.inl r), none] [] S_m M Z) ?_ n s r h hx
  intro s o h kb ke
  show mm_Go jX12_greatestBy D d 0 0 18 [some (.inr 0), some (.inl x1), some (.inl x2), some (.inl x3), some (.inl x4), some (.inl s.1), some (.inl s.2)] [] S_m M Z
  unfold X12_greatestBy_l18 at h
  refine r_iload (q := 20) dX12_greatestBy_18 rfl rfl ?_
  refine r_aload_n (q := 21) dX12_greatestBy_20 rfl rfl ?_
  refine r_geti (v := (M 0 6)) (q := 24) lk_X12_123 dX12_greatestBy_21 sc_m_0 rfl rfl rfl ?_
  refine r_icmp_ge 60 (q := 27) dX12_greatestBy_24 (by decide) rfl (fun c2 => ?_) (fun c2 => ?_)
  · rw [if_pos c2] at h
    refine r_forget (L' := [some (.inr 0), some (.inl x1), some (.inl x2), some (.inl x3), some (.inl x4), some (.inl s.1), none]) [true, true, true, true, true, true, false] rfl ?_
    cases h
    have hk := ke _ rfl
    exact hk
  · rw [if_neg c2] at h
    refine r_iload_n (q := 28) dX12_greatestBy_27 rfl rfl ?_
    refine r_iload (q := 30) dX12_greatestBy_28 rfl rfl ?_
    refine r_callS_i (av := [(.inl x1), (.inl s.2)]) (st := []) (q := 33) (d1 := 0) kc_X12_119 dX12_greatestBy_30 rfl rfl (Nat.le_of_ble_eq_true rfl) (Nat.le_of_ble_eq_true rfl) (by omega) rfl rfl (t_X12_has (d := 0) (by omega) x1 s.2 M _ rfl) ?_
    refine r_if_eq 54 (q := 36) dX12_greatestBy_33 (by decide) rfl (fun c3 => ?_) (fun c3 => ?_)
    · rw [if_neg (mm_b0 c3)] at h
      refine r_iinc (v := 1) (q := 57) (L' := [some (.inr 0), some (.inl x1), some (.inl x2), some (.inl x3), some (.inl x4), some (.inl s.1), some (.inl (s.2 + 1))]) dX12_greatestBy_54 (by decide) (by decide) rfl rfl rfl ?_
      refine r_goto 18 dX12_greatestBy_57 (by decide) ?_
      cases h
      have hk := kb _ rfl
      exact hk
    · rw [if_pos (mm_b1 c3)] at h
      refine r_aload_n (q := 37) dX12_greatestBy_36 rfl rfl ?_
      refine r_iload_n (q := 38) dX12_greatestBy_37 rfl rfl ?_
      refine r_iload (q := 40) dX12_greatestBy_38 rfl rfl ?_
      obtain ⟨y5, e4, h⟩ := Option.bind_eq_some_iff.mp h
      refine r_callV_i (av := [(.inl x2), (.inl s.2)]) (st := []) (q := 43) (d1 := 0) kc_X12_299 sc_m_0 dX12_greatestBy_40 rfl rfl (Nat.le_of_ble_eq_true rfl) (Nat.le_of_ble_eq_true rfl) (by omega) rfl rfl (t_X12_answer (d := 0) (by omega) x2 s.2 M _ e4) ?_
      refine r_iload (q := 45) dX12_greatestBy_43 rfl rfl ?_
      refine r_icmp_ne 54 (q := 48) dX12_greatestBy_45 (by decide) rfl (fun c6 => ?_) (fun c6 => ?_)
      · rw [if_neg c6] at h
        refine r_iinc (v := 1) (q := 57) (L' := [some (.inr 0), some (.inl x1), some (.inl x2), some (.inl x3), some (.inl x4), some (.inl s.1), some (.inl (s.2 + 1))]) dX12_greatestBy_54 (by decide) (by decide) rfl rfl rfl ?_
        refine r_goto 18 dX12_greatestBy_57 (by decide) ?_
        cases h
        have hk := kb _ rfl
        exact hk
      · rw [if_pos c6] at h
        refine r_iload (q := 50) dX12_greatestBy_48 rfl rfl ?_
        refine r_iconst (v := 1) (q := 51) dX12_greatestBy_50 (by decide) rfl ?_
        refine r_iadd (q := 52) dX12_greatestBy_51 rfl ?_
        refine r_istore (q := 54) (L' := [some (.inr 0), some (.inl x1), some (.inl x2), some (.inl x3), some (.inl x4), some (.inl (s.1 + 1)), some (.inl s.2)]) dX12_greatestBy_52 (by decide) rfl rfl ?_
        refine r_iinc (v := 1) (q := 57) (L' := [some (.inr 0), some (.inl x1), some (.inl x2), some (.inl x3), some (.inl x4), some (.inl (s.1 + 1)), some (.inl (s.2 + 1))]) dX12_greatestBy_54 (by decide) (by decide) rfl rfl rfl ?_
        refine r_goto 18 dX12_greatestBy_57 (by decide) ?_
        cases h
        have hk := kb _ rfl
        exact hk
noncomputable def X12_greatestBy_l5 (x1 : Int32) (x2 : Int32) (M : mm_M) (s : (Int32 × Int32)) : Option ((Int32 × Int32) ⊕ Int32) := if 10 ≤ s.2 then some (.inr s.1) else (mm_loop (X12_greatestBy_l18 x1 x2 s.1 s.2 M) mm_fuel (0, 0)).bind fun y7 => some (.inl ((X12_max s.1 y7), (s.2 + 1)))
set_option maxRecDepth 100000 in
set_option maxHeartbeats 400000 in
theorem t_X12_greatestBy_l5 {D : mm_D} {d : Nat} (hd : 1 ≤ d) {Z : Option Int32 → List mm_C → mm_M → Prop} (x1 : Int32) (x2 : Int32) (M : mm_M) (n : Nat) (s : (Int32 × Int32)) (r : Int32) (h : mm_loop (X12_greatestBy_l5 x1 x2 M) n s = some r) (hx : Z (some r) S_m M) : mm_Go jX12_greatestBy D d 0 0 5 [some (.inr 0), some (.inl x1), some (.inl x2), some (.inl s.1), some (.inl s.2), none, none] [] S_m M Z := by
  refine mm_loop_go (step := X12_greatestBy_l5 x1 x2 M) (Hd := fun (s : (Int32 × Int32)) => mm_Go jX12_greatestBy D d 0 0 5 [some (.inr 0), some (.inl x1), some (.inl x2), some (.inl s.1), some (.inl s.2), none, none] [] S_m M Z) (Ex := fun (r : Int32) => Z (some r) S_m M) ?_ n s r h hx
  intro s o h kb ke
  show mm_Go jX12_greatestBy D d 0 0 5 [some (.inr 0), some (.inl x1), some (.inl x2), some (.inl s.1), some (.inl s.2), none, none] [] S_m M Z
  unfold X12_greatestBy_l5 at h
  refine r_iload (q := 7) dX12_greatestBy_5 rfl rfl ?_
  refine r_bipush (v := 10) (q := 9) dX12_greatestBy_7 (by decide) rfl ?_
  refine r_icmp_ge 73 (q := 12) dX12_greatestBy_9 (by decide) rfl (fun c1 => ?_) (fun c1 => ?_)
  · rw [if_pos c1] at h
    refine r_iload_n (q := 74) dX12_greatestBy_73 rfl rfl ?_
    cases h
    have hk := ke _ rfl
    exact r_ret dX12_greatestBy_74 rfl hk
  · rw [if_neg c1] at h
    refine r_iconst (v := 0) (q := 13) dX12_greatestBy_12 (by decide) rfl ?_
    refine r_istore (q := 15) (L' := [some (.inr 0), some (.inl x1), some (.inl x2), some (.inl s.1), some (.inl s.2), some (.inl 0), none]) dX12_greatestBy_13 (by decide) rfl rfl ?_
    refine r_iconst (v := 0) (q := 16) dX12_greatestBy_15 (by decide) rfl ?_
    refine r_istore (q := 18) (L' := [some (.inr 0), some (.inl x1), some (.inl x2), some (.inl s.1), some (.inl s.2), some (.inl 0), some (.inl 0)]) dX12_greatestBy_16 (by decide) rfl rfl ?_
    obtain ⟨y7, e8, h⟩ := Option.bind_eq_some_iff.mp h
    refine t_X12_greatestBy_l18 hd x1 x2 s.1 s.2 M mm_fuel (0, 0) _ e8 ?_
    show mm_Go jX12_greatestBy _ _ _ _ 60 [some (.inr 0), some (.inl x1), some (.inl x2), some (.inl s.1), some (.inl s.2), some (.inl y7), none] [] S_m M _
    refine r_iload_n (q := 61) dX12_greatestBy_60 rfl rfl ?_
    refine r_iload (q := 63) dX12_greatestBy_61 rfl rfl ?_
    refine r_callS_i (av := [(.inl s.1), (.inl y7)]) (st := []) (q := 66) (d1 := 0) kc_X12_401 dX12_greatestBy_63 rfl rfl (Nat.le_of_ble_eq_true rfl) (Nat.le_of_ble_eq_true rfl) (by omega) rfl rfl (t_X12_max (d := 0) (by omega) s.1 y7 M _ rfl) ?_
    refine r_istore_n (q := 67) (L' := [some (.inr 0), some (.inl x1), some (.inl x2), some (.inl (X12_max s.1 y7)), some (.inl s.2), some (.inl y7), none]) dX12_greatestBy_66 (by decide) rfl rfl ?_
    refine r_iinc (v := 1) (q := 70) (L' := [some (.inr 0), some (.inl x1), some (.inl x2), some (.inl (X12_max s.1 y7)), some (.inl (s.2 + 1)), some (.inl y7), none]) dX12_greatestBy_67 (by decide) (by decide) rfl rfl rfl ?_
    refine r_goto 5 dX12_greatestBy_70 (by decide) ?_
    refine r_forget (L' := [some (.inr 0), some (.inl x1), some (.inl x2), some (.inl (X12_max s.1 y7)), some (.inl (s.2 + 1)), none, none]) [true, true, true, true, true, false, false] rfl ?_
    cases h
    have hk := kb _ rfl
    exact hk
noncomputable def X12_greatestBy (x1 : Int32) (x2 : Int32) (M : mm_M) : Option Int32 := (mm_loop (X12_greatestBy_l5 x1 x2 M) mm_fuel (0, 0))
set_option maxRecDepth 100000 in
set_option maxHeartbeats 400000 in
theorem t_X12_greatestBy {d : Nat} (hd : 1 ≤ d) (x1 : Int32) (x2 : Int32) (M : mm_M) (res : Int32) (h : X12_greatestBy x1 x2 M = some res) : mm_Meth jX12_greatestBy d 0 0 [(.inr 0), (.inl x1), (.inl x2)] S_m M (mm_Zi res S_m M) := by
  refine r_meth (L := [some (.inr 0), some (.inl x1), some (.inl x2), none, none, none, none]) rfl (fun D => ?_)
  unfold X12_greatestBy at h
  refine r_iconst (v := 0) (q := 1) dX12_greatestBy_0 (by decide) rfl ?_
  refine r_istore_n (q := 2) (L' := [some (.inr 0), some (.inl x1), some (.inl x2), some (.inl 0), none, none, none]) dX12_greatestBy_1 (by decide) rfl rfl ?_
  refine r_iconst (v := 0) (q := 3) dX12_greatestBy_2 (by decide) rfl ?_
  refine r_istore (q := 5) (L' := [some (.inr 0), some (.inl x1), some (.inl x2), some (.inl 0), some (.inl 0), none, none]) dX12_greatestBy_3 (by decide) rfl rfl ?_
  exact t_X12_greatestBy_l5 hd x1 x2 M mm_fuel (0, 0) _ h mm_Zi_rfl
noncomputable def X12_next_l31 (x1 : Int32) (x2 : Int32) (M : mm_M) (s : (Int32 × Int32)) : Option ((Int32 × Int32) ⊕ Int32) := if 8 ≤ s.2 then some (.inr s.1) else (X12_greatestBy x1 s.2 M).bind fun y6 => (X12_greatestBy x1 s.1 M).bind fun y8 => if y8 ≤ y6 then some (.inl (s.1, (s.2 + 1))) else some (.inl (s.2, (s.2 + 1)))
set_option maxRecDepth 100000 in
set_option maxHeartbeats 400000 in
theorem t_X12_next_l31 {D : mm_D} {d : Nat} (hd : 2 ≤ d) {Z : Option Int32 → List mm_C → mm_M → Prop} (x1 : Int32) (x2 : Int32) (M : mm_M) (n : Nat) (s : (Int32 × Int32)) (r : Int32) (h : mm_loop (X12_next_l31 x1 x2 M) n s = some r) (hx : mm_Go jX12_next D d 0 0 63 [some (.inr 0), some (.inl x1), some (.inl x2), some (.inl r), none] [] S_m M Z) : mm_Go jX12_next D d 0 0 31 [some (.inr 0), some (.inl x1), some (.inl x2), some (.inl s.1), some (.inl s.2)] [] S_m M Z := by
  refine mm_loop_go (step := X12_next_l31 x1 x2 M) (Hd := fun (s : (Int32 × Int32)) => mm_Go jX12_next D d 0 0 31 [some (.inr 0), some (.inl x1), some (.inl x2), some (.inl s.1), some (.inl s.2)] [] S_m M Z) (Ex := fun (r : Int32) => mm_Go jX12_next D d 0 0 63 [some (.inr 0), some (.inl x1), some (.inl x2), some (.inl r), none] [] S_m M Z) ?_ n s r h hx
  intro s o h kb ke
  show mm_Go jX12_next D d 0 0 31 [some (.inr 0), some (.inl x1), some (.inl x2), some (.inl s.1), some (.inl s.2)] [] S_m M Z
  unfold X12_next_l31 at h
  refine r_iload (q := 33) dX12_next_31 rfl rfl ?_
  refine r_bipush (v := 8) (q := 35) dX12_next_33 (by decide) rfl ?_
  refine r_icmp_ge 63 (q := 38) dX12_next_35 (by decide) rfl (fun c4 => ?_) (fun c4 => ?_)
  · rw [if_pos c4] at h
    refine r_forget (L' := [some (.inr 0), some (.inl x1), some (.inl x2), some (.inl s.1), none]) [true, true, true, true, false] rfl ?_
    cases h
    have hk := ke _ rfl
    exact hk
  · rw [if_neg c4] at h
    refine r_aload_n (q := 39) dX12_next_38 rfl rfl ?_
    refine r_iload_n (q := 40) dX12_next_39 rfl rfl ?_
    refine r_iload (q := 42) dX12_next_40 rfl rfl ?_
    obtain ⟨y6, e5, h⟩ := Option.bind_eq_some_iff.mp h
    refine r_callV_i (av := [(.inl x1), (.inl s.2)]) (st := []) (q := 45) (d1 := 1) kc_X12_419 sc_m_0 dX12_next_42 rfl rfl (Nat.le_of_ble_eq_true rfl) (Nat.le_of_ble_eq_true rfl) (by omega) rfl rfl (t_X12_greatestBy (d := 1) (by omega) x1 s.2 M _ e5) ?_
    refine r_aload_n (q := 46) dX12_next_45 rfl rfl ?_
    refine r_iload_n (q := 47) dX12_next_46 rfl rfl ?_
    refine r_iload_n (q := 48) dX12_next_47 rfl rfl ?_
    obtain ⟨y8, e7, h⟩ := Option.bind_eq_some_iff.mp h
    refine r_callV_i (av := [(.inl x1), (.inl s.1)]) (st := [(.inl y6)]) (q := 51) (d1 := 1) kc_X12_419 sc_m_0 dX12_next_48 rfl rfl (Nat.le_of_ble_eq_true rfl) (Nat.le_of_ble_eq_true rfl) (by omega) rfl rfl (t_X12_greatestBy (d := 1) (by omega) x1 s.1 M _ e7) ?_
    refine r_icmp_ge 57 (q := 54) dX12_next_51 (by decide) rfl (fun c9 => ?_) (fun c9 => ?_)
    · rw [if_pos c9] at h
      refine r_iinc (v := 1) (q := 60) (L' := [some (.inr 0), some (.inl x1), some (.inl x2), some (.inl s.1), some (.inl (s.2 + 1))]) dX12_next_57 (by decide) (by decide) rfl rfl rfl ?_
      refine r_goto 31 dX12_next_60 (by decide) ?_
      cases h
      have hk := kb _ rfl
      exact hk
    · rw [if_neg c9] at h
      refine r_iload (q := 56) dX12_next_54 rfl rfl ?_
      refine r_istore_n (q := 57) (L' := [some (.inr 0), some (.inl x1), some (.inl x2), some (.inl s.2), some (.inl s.2)]) dX12_next_56 (by decide) rfl rfl ?_
      refine r_iinc (v := 1) (q := 60) (L' := [some (.inr 0), some (.inl x1), some (.inl x2), some (.inl s.2), some (.inl (s.2 + 1))]) dX12_next_57 (by decide) (by decide) rfl rfl rfl ?_
      refine r_goto 31 dX12_next_60 (by decide) ?_
      cases h
      have hk := kb _ rfl
      exact hk
noncomputable def X12_next (x1 : Int32) (x2 : Int32) (M : mm_M) : Option Int32 := if (M 0 6) = 0 then some (-1) else if (X12_areStates x1 M) = true then if (X12_in x2 0 1) = true then (mm_loop (X12_next_l31 x1 x2 M) mm_fuel (0, 1)).bind fun y10 => if x2 = 0 then some y10 else (X12_greatestBy x1 y10 M).bind fun y14 => some y14 else some (-1) else some (-1)
set_option maxRecDepth 100000 in
set_option maxHeartbeats 400000 in
theorem t_X12_next {d : Nat} (hd : 2 ≤ d) (x1 : Int32) (x2 : Int32) (M : mm_M) (res : Int32) (h : X12_next x1 x2 M = some res) : mm_Meth jX12_next d 0 0 [(.inr 0), (.inl x1), (.inl x2)] S_m M (mm_Zi res S_m M) := by
  refine r_meth (L := [some (.inr 0), some (.inl x1), some (.inl x2), none, none]) rfl (fun D => ?_)
  unfold X12_next at h
  refine r_aload_n (q := 1) dX12_next_0 rfl rfl ?_
  refine r_geti (v := (M 0 6)) (q := 4) lk_X12_123 dX12_next_1 sc_m_0 rfl rfl rfl ?_
  refine r_if_eq 24 (q := 7) dX12_next_4 (by decide) rfl (fun c1 => ?_) (fun c1 => ?_)
  · rw [if_pos c1] at h
    refine r_iconst (v := (-1)) (q := 25) dX12_next_24 (by decide) rfl ?_
    cases h
    exact r_ret dX12_next_25 rfl mm_Zi_rfl
  · rw [if_neg c1] at h
    refine r_aload_n (q := 8) dX12_next_7 rfl rfl ?_
    refine r_iload_n (q := 9) dX12_next_8 rfl rfl ?_
    refine r_callV_i (av := [(.inl x1)]) (st := []) (q := 12) (d1 := 0) kc_X12_407 sc_m_0 dX12_next_9 rfl rfl (Nat.le_of_ble_eq_true rfl) (Nat.le_of_ble_eq_true rfl) (by omega) rfl rfl (t_X12_areStates (d := 0) (by omega) x1 M _ rfl) ?_
    refine r_if_eq 24 (q := 15) dX12_next_12 (by decide) rfl (fun c2 => ?_) (fun c2 => ?_)
    · rw [if_neg (mm_b0 c2)] at h
      refine r_iconst (v := (-1)) (q := 25) dX12_next_24 (by decide) rfl ?_
      cases h
      exact r_ret dX12_next_25 rfl mm_Zi_rfl
    · rw [if_pos (mm_b1 c2)] at h
      refine r_iload_n (q := 16) dX12_next_15 rfl rfl ?_
      refine r_iconst (v := 0) (q := 17) dX12_next_16 (by decide) rfl ?_
      refine r_iconst (v := 1) (q := 18) dX12_next_17 (by decide) rfl ?_
      refine r_callS_i (av := [(.inl x2), (.inl 0), (.inl 1)]) (st := []) (q := 21) (d1 := 0) kc_X12_127 dX12_next_18 rfl rfl (Nat.le_of_ble_eq_true rfl) (Nat.le_of_ble_eq_true rfl) (by omega) rfl rfl (t_X12_in (d := 0) (by omega) x2 0 1 M _ rfl) ?_
      refine r_if_ne 26 (q := 24) dX12_next_21 (by decide) rfl (fun c3 => ?_) (fun c3 => ?_)
      · rw [if_pos (mm_b1 c3)] at h
        refine r_iconst (v := 0) (q := 27) dX12_next_26 (by decide) rfl ?_
        refine r_istore_n (q := 28) (L' := [some (.inr 0), some (.inl x1), some (.inl x2), some (.inl 0), none]) dX12_next_27 (by decide) rfl rfl ?_
        refine r_iconst (v := 1) (q := 29) dX12_next_28 (by decide) rfl ?_
        refine r_istore (q := 31) (L' := [some (.inr 0), some (.inl x1), some (.inl x2), some (.inl 0), some (.inl 1)]) dX12_next_29 (by decide) rfl rfl ?_
        obtain ⟨y10, e11, h⟩ := Option.bind_eq_some_iff.mp h
        refine t_X12_next_l31 hd x1 x2 M mm_fuel (0, 1) _ e11 ?_
        show mm_Go jX12_next _ _ _ _ 63 [some (.inr 0), some (.inl x1), some (.inl x2), some (.inl y10), none] [] S_m M _
        refine r_iload_n (q := 64) dX12_next_63 rfl rfl ?_
        refine r_if_ne 71 (q := 67) dX12_next_64 (by decide) rfl (fun c12 => ?_) (fun c12 => ?_)
        · rw [if_neg c12] at h
          refine r_aload_n (q := 72) dX12_next_71 rfl rfl ?_
          refine r_iload_n (q := 73) dX12_next_72 rfl rfl ?_
          refine r_iload_n (q := 74) dX12_next_73 rfl rfl ?_
          obtain ⟨y14, e13, h⟩ := Option.bind_eq_some_iff.mp h
          refine r_callV_i (av := [(.inl x1), (.inl y10)]) (st := []) (q := 77) (d1 := 1) kc_X12_419 sc_m_0 dX12_next_74 rfl rfl (Nat.le_of_ble_eq_true rfl) (Nat.le_of_ble_eq_true rfl) (by omega) rfl rfl (t_X12_greatestBy (d := 1) (by omega) x1 y10 M _ e13) ?_
          cases h
          exact r_ret dX12_next_77 rfl mm_Zi_rfl
        · rw [if_pos c12] at h
          refine r_iload_n (q := 68) dX12_next_67 rfl rfl ?_
          refine r_goto 77 dX12_next_68 (by decide) ?_
          cases h
          exact r_ret dX12_next_77 rfl mm_Zi_rfl
      · rw [if_neg (mm_b0 c3)] at h
        refine r_iconst (v := (-1)) (q := 25) dX12_next_24 (by decide) rfl ?_
        cases h
        exact r_ret dX12_next_25 rfl mm_Zi_rfl
noncomputable def X12_lastFrom_l5 (x2 : Int32) (M : mm_M) (s : (Int32 × Int32)) : Option ((Int32 × Int32) ⊕ Int32) := if (x2 - 1) ≤ s.2 then some (.inr s.1) else (X12_octet s.2 M).bind fun y3 => (X12_behind y3 s.1 M).bind fun y5 => some (.inl (y5, (s.2 + 1)))
set_option maxRecDepth 100000 in
set_option maxHeartbeats 400000 in
theorem t_X12_lastFrom_l5 {D : mm_D} {d : Nat} (hd : 1 ≤ d) {Z : Option Int32 → List mm_C → mm_M → Prop} (x2 : Int32) (M : mm_M) (n : Nat) (s : (Int32 × Int32)) (r : Int32) (h : mm_loop (X12_lastFrom_l5 x2 M) n s = some r) (hx : mm_Go jX12_lastFrom D d 0 0 31 [some (.inr 0), none, some (.inl x2), some (.inl r), none] [] S_m M Z) : mm_Go jX12_lastFrom D d 0 0 5 [some (.inr 0), none, some (.inl x2), some (.inl s.1), some (.inl s.2)] [] S_m M Z := by
  refine mm_loop_go (step := X12_lastFrom_l5 x2 M) (Hd := fun (s : (Int32 × Int32)) => mm_Go jX12_lastFrom D d 0 0 5 [some (.inr 0), none, some (.inl x2), some (.inl s.1), some (.inl s.2)] [] S_m M Z) (Ex := fun (r : Int32) => mm_Go jX12_lastFrom D d 0 0 31 [some (.inr 0), none, some (.inl x2), some (.inl r), none] [] S_m M Z) ?_ n s r h hx
  intro s o h kb ke
  show mm_Go jX12_lastFrom D d 0 0 5 [some (.inr 0), none, some (.inl x2), some (.inl s.1), some (.inl s.2)] [] S_m M Z
  unfold X12_lastFrom_l5 at h
  refine r_iload (q := 7) dX12_lastFrom_5 rfl rfl ?_
  refine r_iload_n (q := 8) dX12_lastFrom_7 rfl rfl ?_
  refine r_iconst (v := 1) (q := 9) dX12_lastFrom_8 (by decide) rfl ?_
  refine r_isub (q := 10) dX12_lastFrom_9 rfl ?_
  refine r_icmp_ge 31 (q := 13) dX12_lastFrom_10 (by decide) rfl (fun c1 => ?_) (fun c1 => ?_)
  · rw [if_pos c1] at h
    refine r_forget (L' := [some (.inr 0), none, some (.inl x2), some (.inl s.1), none]) [true, false, true, true, false] rfl ?_
    cases h
    have hk := ke _ rfl
    exact hk
  · rw [if_neg c1] at h
    refine r_aload_n (q := 14) dX12_lastFrom_13 rfl rfl ?_
    refine r_aload_n (q := 15) dX12_lastFrom_14 rfl rfl ?_
    refine r_iload (q := 17) dX12_lastFrom_15 rfl rfl ?_
    obtain ⟨y3, e2, h⟩ := Option.bind_eq_some_iff.mp h
    refine r_callV_i (av := [(.inl s.2)]) (st := [(.inr 0)]) (q := 20) (d1 := 0) kc_X12_357 sc_m_0 dX12_lastFrom_17 rfl rfl (Nat.le_of_ble_eq_true rfl) (Nat.le_of_ble_eq_true rfl) (by omega) rfl rfl (t_X12_octet (d := 0) (by omega) s.2 M _ e2) ?_
    refine r_iload_n (q := 21) dX12_lastFrom_20 rfl rfl ?_
    obtain ⟨y5, e4, h⟩ := Option.bind_eq_some_iff.mp h
    refine r_callV_i (av := [(.inl y3), (.inl s.1)]) (st := []) (q := 24) (d1 := 0) kc_X12_306 sc_m_0 dX12_lastFrom_21 rfl rfl (Nat.le_of_ble_eq_true rfl) (Nat.le_of_ble_eq_true rfl) (by omega) rfl rfl (t_X12_behind (d := 0) (by omega) y3 s.1 M _ e4) ?_
    refine r_istore_n (q := 25) (L' := [some (.inr 0), none, some (.inl x2), some (.inl y5), some (.inl s.2)]) dX12_lastFrom_24 (by decide) rfl rfl ?_
    refine r_iinc (v := 1) (q := 28) (L' := [some (.inr 0), none, some (.inl x2), some (.inl y5), some (.inl (s.2 + 1))]) dX12_lastFrom_25 (by decide) (by decide) rfl rfl rfl ?_
    refine r_goto 5 dX12_lastFrom_28 (by decide) ?_
    cases h
    have hk := kb _ rfl
    exact hk
noncomputable def X12_lastFrom (x1 : Int32) (x2 : Int32) (M : mm_M) : Option Int32 := (mm_loop (X12_lastFrom_l5 x2 M) mm_fuel (x1, 0)).bind fun y6 => (X12_octet (x2 - 1) M).bind fun y9 => (X12_answer y9 y6 M).bind fun y11 => some y11
set_option maxRecDepth 100000 in
set_option maxHeartbeats 400000 in
theorem t_X12_lastFrom {d : Nat} (hd : 1 ≤ d) (x1 : Int32) (x2 : Int32) (M : mm_M) (res : Int32) (h : X12_lastFrom x1 x2 M = some res) : mm_Meth jX12_lastFrom d 0 0 [(.inr 0), (.inl x1), (.inl x2)] S_m M (mm_Zi res S_m M) := by
  refine r_meth (L := [some (.inr 0), some (.inl x1), some (.inl x2), none, none]) rfl (fun D => ?_)
  unfold X12_lastFrom at h
  refine r_iload_n (q := 1) dX12_lastFrom_0 rfl rfl ?_
  refine r_istore_n (q := 2) (L' := [some (.inr 0), some (.inl x1), some (.inl x2), some (.inl x1), none]) dX12_lastFrom_1 (by decide) rfl rfl ?_
  refine r_iconst (v := 0) (q := 3) dX12_lastFrom_2 (by decide) rfl ?_
  refine r_istore (q := 5) (L' := [some (.inr 0), some (.inl x1), some (.inl x2), some (.inl x1), some (.inl 0)]) dX12_lastFrom_3 (by decide) rfl rfl ?_
  refine r_forget (L' := [some (.inr 0), none, some (.inl x2), some (.inl x1), some (.inl 0)]) [true, false, true, true, true] rfl ?_
  obtain ⟨y6, e7, h⟩ := Option.bind_eq_some_iff.mp h
  refine t_X12_lastFrom_l5 hd x2 M mm_fuel (x1, 0) _ e7 ?_
  show mm_Go jX12_lastFrom _ _ _ _ 31 [some (.inr 0), none, some (.inl x2), some (.inl y6), none] [] S_m M _
  refine r_aload_n (q := 32) dX12_lastFrom_31 rfl rfl ?_
  refine r_aload_n (q := 33) dX12_lastFrom_32 rfl rfl ?_
  refine r_iload_n (q := 34) dX12_lastFrom_33 rfl rfl ?_
  refine r_iconst (v := 1) (q := 35) dX12_lastFrom_34 (by decide) rfl ?_
  refine r_isub (q := 36) dX12_lastFrom_35 rfl ?_
  obtain ⟨y9, e8, h⟩ := Option.bind_eq_some_iff.mp h
  refine r_callV_i (av := [(.inl (x2 - 1))]) (st := [(.inr 0)]) (q := 39) (d1 := 0) kc_X12_357 sc_m_0 dX12_lastFrom_36 rfl rfl (Nat.le_of_ble_eq_true rfl) (Nat.le_of_ble_eq_true rfl) (by omega) rfl rfl (t_X12_octet (d := 0) (by omega) (x2 - 1) M _ e8) ?_
  refine r_iload_n (q := 40) dX12_lastFrom_39 rfl rfl ?_
  obtain ⟨y11, e10, h⟩ := Option.bind_eq_some_iff.mp h
  refine r_callV_i (av := [(.inl y9), (.inl y6)]) (st := []) (q := 43) (d1 := 0) kc_X12_299 sc_m_0 dX12_lastFrom_40 rfl rfl (Nat.le_of_ble_eq_true rfl) (Nat.le_of_ble_eq_true rfl) (by omega) rfl rfl (t_X12_answer (d := 0) (by omega) y9 y6 M _ e10) ?_
  cases h
  exact r_ret dX12_lastFrom_43 rfl mm_Zi_rfl
noncomputable def X12_gcd_l4 (s : (Int32 × Int32)) : Option ((Int32 × Int32) ⊕ Int32) := if s.2 = 0 then some (.inr s.1) else some (.inl (s.2, (s.1 - s.1 / s.2 * s.2)))
set_option maxRecDepth 100000 in
set_option maxHeartbeats 400000 in
theorem t_X12_gcd_l4 {D : mm_D} {d : Nat} (hd : 0 ≤ d) {Z : Option Int32 → List mm_C → mm_M → Prop} (M : mm_M) (n : Nat) (s : (Int32 × Int32)) (r : Int32) (h : mm_loop (X12_gcd_l4) n s = some r) (hx : Z (some r) S_m M) : mm_Go jX12_gcd D d 0 0 4 [none, none, some (.inl s.1), some (.inl s.2), none] [] S_m M Z := by
  refine mm_loop_go (step := X12_gcd_l4) (Hd := fun (s : (Int32 × Int32)) => mm_Go jX12_gcd D d 0 0 4 [none, none, some (.inl s.1), some (.inl s.2), none] [] S_m M Z) (Ex := fun (r : Int32) => Z (some r) S_m M) ?_ n s r h hx
  intro s o h kb ke
  show mm_Go jX12_gcd D d 0 0 4 [none, none, some (.inl s.1), some (.inl s.2), none] [] S_m M Z
  unfold X12_gcd_l4 at h
  refine r_iload_n (q := 5) dX12_gcd_4 rfl rfl ?_
  refine r_if_eq 21 (q := 8) dX12_gcd_5 (by decide) rfl (fun c1 => ?_) (fun c1 => ?_)
  · rw [if_pos c1] at h
    refine r_iload_n (q := 22) dX12_gcd_21 rfl rfl ?_
    cases h
    have hk := ke _ rfl
    exact r_ret dX12_gcd_22 rfl hk
  · rw [if_neg c1] at h
    refine r_iload_n (q := 9) dX12_gcd_8 rfl rfl ?_
    refine r_iload_n (q := 10) dX12_gcd_9 rfl rfl ?_
    refine r_irem (q := 11) dX12_gcd_10 c1 rfl ?_
    refine r_istore (q := 13) (L' := [none, none, some (.inl s.1), some (.inl s.2), some (.inl (s.1 - s.1 / s.2 * s.2))]) dX12_gcd_11 (by decide) rfl rfl ?_
    refine r_iload_n (q := 14) dX12_gcd_13 rfl rfl ?_
    refine r_istore_n (q := 15) (L' := [none, none, some (.inl s.2), some (.inl s.2), some (.inl (s.1 - s.1 / s.2 * s.2))]) dX12_gcd_14 (by decide) rfl rfl ?_
    refine r_iload (q := 17) dX12_gcd_15 rfl rfl ?_
    refine r_istore_n (q := 18) (L' := [none, none, some (.inl s.2), some (.inl (s.1 - s.1 / s.2 * s.2)), some (.inl (s.1 - s.1 / s.2 * s.2))]) dX12_gcd_17 (by decide) rfl rfl ?_
    refine r_goto 4 dX12_gcd_18 (by decide) ?_
    refine r_forget (L' := [none, none, some (.inl s.2), some (.inl (s.1 - s.1 / s.2 * s.2)), none]) [false, false, true, true, false] rfl ?_
    cases h
    have hk := kb _ rfl
    exact hk
noncomputable def X12_gcd (x0 : Int32) (x1 : Int32) : Option Int32 := (mm_loop (X12_gcd_l4) mm_fuel (x0, x1))
set_option maxRecDepth 100000 in
set_option maxHeartbeats 400000 in
theorem t_X12_gcd {d : Nat} (hd : 0 ≤ d) (x0 : Int32) (x1 : Int32) (M : mm_M) (res : Int32) (h : X12_gcd x0 x1 = some res) : mm_Meth jX12_gcd d 0 0 [(.inl x0), (.inl x1)] S_m M (mm_Zi res S_m M) := by
  refine r_meth (L := [some (.inl x0), some (.inl x1), none, none, none]) rfl (fun D => ?_)
  unfold X12_gcd at h
  refine r_iload_n (q := 1) dX12_gcd_0 rfl rfl ?_
  refine r_istore_n (q := 2) (L' := [some (.inl x0), some (.inl x1), some (.inl x0), none, none]) dX12_gcd_1 (by decide) rfl rfl ?_
  refine r_iload_n (q := 3) dX12_gcd_2 rfl rfl ?_
  refine r_istore_n (q := 4) (L' := [some (.inl x0), some (.inl x1), some (.inl x0), some (.inl x1), none]) dX12_gcd_3 (by decide) rfl rfl ?_
  refine r_forget (L' := [none, none, some (.inl x0), some (.inl x1), none]) [false, false, true, true, false] rfl ?_
  exact t_X12_gcd_l4 hd M mm_fuel (x0, x1) _ h mm_Zi_rfl
noncomputable def X12_odds_l59 (x1 : Int32) (x2 : Int32) (x3 : Int32) (M : mm_M) (s : Int32) : Option (Int32 ⊕ ((Int32 × mm_M) ⊕ Unit)) := if x1 ≤ s then some (.inr (.inr ())) else (X12_octet s M).bind fun y8 => if y8 < 8 then some (.inl (s + 1)) else some (.inr (.inl ((-3), M)))
set_option maxRecDepth 100000 in
set_option maxHeartbeats 400000 in
theorem t_X12_odds_l59 {D : mm_D} {d : Nat} (hd : 2 ≤ d) {Z : Option Int32 → List mm_C → mm_M → Prop} (x1 : Int32) (x2 : Int32) (x3 : Int32) (M : mm_M) (n : Nat) (s : Int32) (r : ((Int32 × mm_M) ⊕ Unit)) (h : mm_loop (X12_odds_l59 x1 x2 x3 M) n s = some r) (hx : (Sum.elim (fun (y : (Int32 × mm_M)) => Z (some y.1) S_m y.2) (fun (s : Unit) => mm_Go jX12_odds D d 0 0 85 [some (.inr 0), some (.inl x1), some (.inl x2), some (.inl x3), none, none, none] [] S_m M Z) r)) : mm_Go jX12_odds D d 0 0 59 [some (.inr 0), some (.inl x1), some (.inl x2), some (.inl x3), some (.inl s), none, none] [] S_m M Z := by
  refine mm_loop_go (step := X12_odds_l59 x1 x2 x3 M) (Hd := fun (s : Int32) => mm_Go jX12_odds D d 0 0 59 [some (.inr 0), some (.inl x1), some (.inl x2), some (.inl x3), some (.inl s), none, none] [] S_m M Z) (Ex := fun (r : ((Int32 × mm_M) ⊕ Unit)) => (Sum.elim (fun (y : (Int32 × mm_M)) => Z (some y.1) S_m y.2) (fun (s : Unit) => mm_Go jX12_odds D d 0 0 85 [some (.inr 0), some (.inl x1), some (.inl x2), some (.inl x3), none, none, none] [] S_m M Z) r)) ?_ n s r h hx
  intro s o h kb ke
  show mm_Go jX12_odds D d 0 0 59 [some (.inr 0), some (.inl x1), some (.inl x2), some (.inl x3), some (.inl s), none, none] [] S_m M Z
  unfold X12_odds_l59 at h
  refine r_iload (q := 61) dX12_odds_59 rfl rfl ?_
  refine r_iload_n (q := 62) dX12_odds_61 rfl rfl ?_
  refine r_icmp_ge 85 (q := 65) dX12_odds_62 (by decide) rfl (fun c6 => ?_) (fun c6 => ?_)
  · rw [if_pos c6] at h
    refine r_forget (L' := [some (.inr 0), some (.inl x1), some (.inl x2), some (.inl x3), none, none, none]) [true, true, true, true, false, false, false] rfl ?_
    cases h
    have hk := ke _ rfl
    exact hk
  · rw [if_neg c6] at h
    refine r_aload_n (q := 66) dX12_odds_65 rfl rfl ?_
    refine r_iload (q := 68) dX12_odds_66 rfl rfl ?_
    obtain ⟨y8, e7, h⟩ := Option.bind_eq_some_iff.mp h
    refine r_callV_i (av := [(.inl s)]) (st := []) (q := 71) (d1 := 0) kc_X12_357 sc_m_0 dX12_odds_68 rfl rfl (Nat.le_of_ble_eq_true rfl) (Nat.le_of_ble_eq_true rfl) (by omega) rfl rfl (t_X12_octet (d := 0) (by omega) s M _ e7) ?_
    refine r_bipush (v := 8) (q := 73) dX12_odds_71 (by decide) rfl ?_
    refine r_icmp_lt 79 (q := 76) dX12_odds_73 (by decide) rfl (fun c9 => ?_) (fun c9 => ?_)
    · rw [if_pos c9] at h
      refine r_iinc (v := 1) (q := 82) (L' := [some (.inr 0), some (.inl x1), some (.inl x2), some (.inl x3), some (.inl (s + 1)), none, none]) dX12_odds_79 (by decide) (by decide) rfl rfl rfl ?_
      refine r_goto 59 dX12_odds_82 (by decide) ?_
      cases h
      have hk := kb _ rfl
      exact hk
    · rw [if_neg c9] at h
      refine r_bipush (v := (-3)) (q := 78) dX12_odds_76 (by decide) rfl ?_
      cases h
      have hk := ke _ rfl
      exact r_ret dX12_odds_78 rfl hk
noncomputable def X12_odds_l94 (x1 : Int32) (x2 : Int32) (x3 : Int32) (M : mm_M) (s : (Int32 × Int32 × Int32)) : Option ((Int32 × Int32 × Int32) ⊕ ((Int32 × mm_M) ⊕ (Int32 × Int32))) := if (M 0 6) ≤ s.2.2 then some (.inr (.inr (s.1, s.2.1))) else (X12_octet (x1 + s.2.2) M).bind fun y14 => if y14 ≤ 25 then (X12_octet (x1 + s.2.2) M).bind fun y17 => (X12_lastFrom s.2.2 x1 M).bind fun y19 => if y19 = x2 then (X12_octet (x1 + s.2.2) M).bind fun y22 => some (.inl ((s.1 + y17), (s.2.1 + y22), (s.2.2 + 1))) else some (.inl ((s.1 + y17), s.2.1, (s.2.2 + 1))) else some (.inr (.inl ((-3), M)))
set_option maxRecDepth 100000 in
set_option maxHeartbeats 400000 in
theorem t_X12_odds_l94 {D : mm_D} {d : Nat} (hd : 2 ≤ d) {Z : Option Int32 → List mm_C → mm_M → Prop} (x1 : Int32) (x2 : Int32) (x3 : Int32) (M : mm_M) (n : Nat) (s : (Int32 × Int32 × Int32)) (r : ((Int32 × mm_M) ⊕ (Int32 × Int32))) (h : mm_loop (X12_odds_l94 x1 x2 x3 M) n s = some r) (hx : (Sum.elim (fun (y : (Int32 × mm_M)) => Z (some y.1) S_m y.2) (fun (s : (Int32 × Int32)) => mm_Go jX12_odds D d 0 0 162 [none, none, none, some (.inl x3), some (.inl s.1), some (.inl s.2), none] [] S_m M Z) r)) : mm_Go jX12_odds D d 0 0 94 [some (.inr 0), some (.inl x1), some (.inl x2), some (.inl x3), some (.inl s.1), some (.inl s.2.1), some (.inl s.2.2)] [] S_m M Z := by
  refine mm_loop_go (step := X12_odds_l94 x1 x2 x3 M) (Hd := fun (s : (Int32 × Int32 × Int32)) => mm_Go jX12_odds D d 0 0 94 [some (.inr 0), some (.inl x1), some (.inl x2), some (.inl x3), some (.inl s.1), some (.inl s.2.1), some (.inl s.2.2)] [] S_m M Z) (Ex := fun (r : ((Int32 × mm_M) ⊕ (Int32 × Int32))) => (Sum.elim (fun (y : (Int32 × mm_M)) => Z (some y.1) S_m y.2) (fun (s : (Int32 × Int32)) => mm_Go jX12_odds D d 0 0 162 [none, none, none, some (.inl x3), some (.inl s.1), some (.inl s.2), none] [] S_m M Z) r)) ?_ n s r h hx
  intro s o h kb ke
  show mm_Go jX12_odds D d 0 0 94 [some (.inr 0), some (.inl x1), some (.inl x2), some (.inl x3), some (.inl s.1), some (.inl s.2.1), some (.inl s.2.2)] [] S_m M Z
  unfold X12_odds_l94 at h
  refine r_iload (q := 96) dX12_odds_94 rfl rfl ?_
  refine r_aload_n (q := 97) dX12_odds_96 rfl rfl ?_
  refine r_geti (v := (M 0 6)) (q := 100) lk_X12_123 dX12_odds_97 sc_m_0 rfl rfl rfl ?_
  refine r_icmp_ge 162 (q := 103) dX12_odds_100 (by decide) rfl (fun c12 => ?_) (fun c12 => ?_)
  · rw [if_pos c12] at h
    refine r_forget (L' := [none, none, none, some (.inl x3), some (.inl s.1), some (.inl s.2.1), none]) [false, false, false, true, true, true, false] rfl ?_
    cases h
    have hk := ke _ rfl
    exact hk
  · rw [if_neg c12] at h
    refine r_aload_n (q := 104) dX12_odds_103 rfl rfl ?_
    refine r_iload_n (q := 105) dX12_odds_104 rfl rfl ?_
    refine r_iload (q := 107) dX12_odds_105 rfl rfl ?_
    refine r_iadd (q := 108) dX12_odds_107 rfl ?_
    obtain ⟨y14, e13, h⟩ := Option.bind_eq_some_iff.mp h
    refine r_callV_i (av := [(.inl (x1 + s.2.2))]) (st := []) (q := 111) (d1 := 0) kc_X12_357 sc_m_0 dX12_odds_108 rfl rfl (Nat.le_of_ble_eq_true rfl) (Nat.le_of_ble_eq_true rfl) (by omega) rfl rfl (t_X12_octet (d := 0) (by omega) (x1 + s.2.2) M _ e13) ?_
    refine r_bipush (v := 25) (q := 113) dX12_odds_111 (by decide) rfl ?_
    refine r_icmp_le 119 (q := 116) dX12_odds_113 (by decide) rfl (fun c15 => ?_) (fun c15 => ?_)
    · rw [if_pos c15] at h
      refine r_iload (q := 121) dX12_odds_119 rfl rfl ?_
      refine r_aload_n (q := 122) dX12_odds_121 rfl rfl ?_
      refine r_iload_n (q := 123) dX12_odds_122 rfl rfl ?_
      refine r_iload (q := 125) dX12_odds_123 rfl rfl ?_
      refine r_iadd (q := 126) dX12_odds_125 rfl ?_
      obtain ⟨y17, e16, h⟩ := Option.bind_eq_some_iff.mp h
      refine r_callV_i (av := [(.inl (x1 + s.2.2))]) (st := [(.inl s.1)]) (q := 129) (d1 := 0) kc_X12_357 sc_m_0 dX12_odds_126 rfl rfl (Nat.le_of_ble_eq_true rfl) (Nat.le_of_ble_eq_true rfl) (by omega) rfl rfl (t_X12_octet (d := 0) (by omega) (x1 + s.2.2) M _ e16) ?_
      refine r_iadd (q := 130) dX12_odds_129 rfl ?_
      refine r_istore (q := 132) (L' := [some (.inr 0), some (.inl x1), some (.inl x2), some (.inl x3), some (.inl (s.1 + y17)), some (.inl s.2.1), some (.inl s.2.2)]) dX12_odds_130 (by decide) rfl rfl ?_
      refine r_aload_n (q := 133) dX12_odds_132 rfl rfl ?_
      refine r_iload (q := 135) dX12_odds_133 rfl rfl ?_
      refine r_iload_n (q := 136) dX12_odds_135 rfl rfl ?_
      obtain ⟨y19, e18, h⟩ := Option.bind_eq_some_iff.mp h
      refine r_callV_i (av := [(.inl s.2.2), (.inl x1)]) (st := []) (q := 139) (d1 := 1) kc_X12_422 sc_m_0 dX12_odds_136 rfl rfl (Nat.le_of_ble_eq_true rfl) (Nat.le_of_ble_eq_true rfl) (by omega) rfl rfl (t_X12_lastFrom (d := 1) (by omega) s.2.2 x1 M _ e18) ?_
      refine r_iload_n (q := 140) dX12_odds_139 rfl rfl ?_
      refine r_icmp_ne 156 (q := 143) dX12_odds_140 (by decide) rfl (fun c20 => ?_) (fun c20 => ?_)
      · rw [if_neg c20] at h
        refine r_iinc (v := 1) (q := 159) (L' := [some (.inr 0), some (.inl x1), some (.inl x2), some (.inl x3), some (.inl (s.1 + y17)), some (.inl s.2.1), some (.inl (s.2.2 + 1))]) dX12_odds_156 (by decide) (by decide) rfl rfl rfl ?_
        refine r_goto 94 dX12_odds_159 (by decide) ?_
        cases h
        have hk := kb _ rfl
        exact hk
      · rw [if_pos c20] at h
        refine r_iload (q := 145) dX12_odds_143 rfl rfl ?_
        refine r_aload_n (q := 146) dX12_odds_145 rfl rfl ?_
        refine r_iload_n (q := 147) dX12_odds_146 rfl rfl ?_
        refine r_iload (q := 149) dX12_odds_147 rfl rfl ?_
        refine r_iadd (q := 150) dX12_odds_149 rfl ?_
        obtain ⟨y22, e21, h⟩ := Option.bind_eq_some_iff.mp h
        refine r_callV_i (av := [(.inl (x1 + s.2.2))]) (st := [(.inl s.2.1)]) (q := 153) (d1 := 0) kc_X12_357 sc_m_0 dX12_odds_150 rfl rfl (Nat.le_of_ble_eq_true rfl) (Nat.le_of_ble_eq_true rfl) (by omega) rfl rfl (t_X12_octet (d := 0) (by omega) (x1 + s.2.2) M _ e21) ?_
        refine r_iadd (q := 154) dX12_odds_153 rfl ?_
        refine r_istore (q := 156) (L' := [some (.inr 0), some (.inl x1), some (.inl x2), some (.inl x3), some (.inl (s.1 + y17)), some (.inl (s.2.1 + y22)), some (.inl s.2.2)]) dX12_odds_154 (by decide) rfl rfl ?_
        refine r_iinc (v := 1) (q := 159) (L' := [some (.inr 0), some (.inl x1), some (.inl x2), some (.inl x3), some (.inl (s.1 + y17)), some (.inl (s.2.1 + y22)), some (.inl (s.2.2 + 1))]) dX12_odds_156 (by decide) (by decide) rfl rfl rfl ?_
        refine r_goto 94 dX12_odds_159 (by decide) ?_
        cases h
        have hk := kb _ rfl
        exact hk
    · rw [if_neg c15] at h
      refine r_bipush (v := (-3)) (q := 118) dX12_odds_116 (by decide) rfl ?_
      cases h
      have hk := ke _ rfl
      exact r_ret dX12_odds_118 rfl hk
noncomputable def X12_odds (x1 : Int32) (x2 : Int32) (x3 : Int32) (M : mm_M) : Option (Int32 × mm_M) := if (M 0 6) = 0 then some ((-1), M) else if (X12_in x1 1 20) = true then if (X12_in x2 0 9) = true then if (X12_in x3 0 1) = true then if (x1 + (M 0 6)) ≤ (M 0 8) then (mm_loop (X12_odds_l59 x1 x2 x3 (mm_U M 0 8 0)) mm_fuel 0).bind fun y10 => (match y10 with | .inl y10r => some y10r | .inr y10s => (mm_loop (X12_odds_l94 x1 x2 x3 (mm_U M 0 8 0)) mm_fuel (0, 0, 0)).bind fun y23 => (match y23 with | .inl y23r => some y23r | .inr y23s => if y23s.1 = 0 then some ((-2), (mm_U M 0 8 0)) else if x3 = 0 then (X12_gcd y23s.1 y23s.2).bind fun y28 => if ¬ y28 = 0 then some ((y23s.2 / y28), (mm_U M 0 8 0)) else none else (X12_gcd y23s.1 y23s.2).bind fun y31 => if ¬ y31 = 0 then some ((y23s.1 / y31), (mm_U M 0 8 0)) else none)) else some ((-1), M) else some ((-1), M) else some ((-1), M) else some ((-1), M)
set_option maxRecDepth 100000 in
set_option maxHeartbeats 400000 in
theorem t_X12_odds {d : Nat} (hd : 2 ≤ d) (x1 : Int32) (x2 : Int32) (x3 : Int32) (M : mm_M) (res : (Int32 × mm_M)) (h : X12_odds x1 x2 x3 M = some res) : mm_Meth jX12_odds d 0 0 [(.inr 0), (.inl x1), (.inl x2), (.inl x3)] S_m M (mm_Zi res.1 S_m res.2) := by
  refine r_meth (L := [some (.inr 0), some (.inl x1), some (.inl x2), some (.inl x3), none, none, none]) rfl (fun D => ?_)
  unfold X12_odds at h
  refine r_aload_n (q := 1) dX12_odds_0 rfl rfl ?_
  refine r_geti (v := (M 0 6)) (q := 4) lk_X12_123 dX12_odds_1 sc_m_0 rfl rfl rfl ?_
  refine r_if_eq 49 (q := 7) dX12_odds_4 (by decide) rfl (fun c1 => ?_) (fun c1 => ?_)
  · rw [if_pos c1] at h
    refine r_iconst (v := (-1)) (q := 50) dX12_odds_49 (by decide) rfl ?_
    cases h
    exact r_ret dX12_odds_50 rfl mm_Zi_rfl
  · rw [if_neg c1] at h
    refine r_iload_n (q := 8) dX12_odds_7 rfl rfl ?_
    refine r_iconst (v := 1) (q := 9) dX12_odds_8 (by decide) rfl ?_
    refine r_bipush (v := 20) (q := 11) dX12_odds_9 (by decide) rfl ?_
    refine r_callS_i (av := [(.inl x1), (.inl 1), (.inl 20)]) (st := []) (q := 14) (d1 := 0) kc_X12_127 dX12_odds_11 rfl rfl (Nat.le_of_ble_eq_true rfl) (Nat.le_of_ble_eq_true rfl) (by omega) rfl rfl (t_X12_in (d := 0) (by omega) x1 1 20 M _ rfl) ?_
    refine r_if_eq 49 (q := 17) dX12_odds_14 (by decide) rfl (fun c2 => ?_) (fun c2 => ?_)
    · rw [if_neg (mm_b0 c2)] at h
      refine r_iconst (v := (-1)) (q := 50) dX12_odds_49 (by decide) rfl ?_
      cases h
      exact r_ret dX12_odds_50 rfl mm_Zi_rfl
    · rw [if_pos (mm_b1 c2)] at h
      refine r_iload_n (q := 18) dX12_odds_17 rfl rfl ?_
      refine r_iconst (v := 0) (q := 19) dX12_odds_18 (by decide) rfl ?_
      refine r_bipush (v := 9) (q := 21) dX12_odds_19 (by decide) rfl ?_
      refine r_callS_i (av := [(.inl x2), (.inl 0), (.inl 9)]) (st := []) (q := 24) (d1 := 0) kc_X12_127 dX12_odds_21 rfl rfl (Nat.le_of_ble_eq_true rfl) (Nat.le_of_ble_eq_true rfl) (by omega) rfl rfl (t_X12_in (d := 0) (by omega) x2 0 9 M _ rfl) ?_
      refine r_if_eq 49 (q := 27) dX12_odds_24 (by decide) rfl (fun c3 => ?_) (fun c3 => ?_)
      · rw [if_neg (mm_b0 c3)] at h
        refine r_iconst (v := (-1)) (q := 50) dX12_odds_49 (by decide) rfl ?_
        cases h
        exact r_ret dX12_odds_50 rfl mm_Zi_rfl
      · rw [if_pos (mm_b1 c3)] at h
        refine r_iload_n (q := 28) dX12_odds_27 rfl rfl ?_
        refine r_iconst (v := 0) (q := 29) dX12_odds_28 (by decide) rfl ?_
        refine r_iconst (v := 1) (q := 30) dX12_odds_29 (by decide) rfl ?_
        refine r_callS_i (av := [(.inl x3), (.inl 0), (.inl 1)]) (st := []) (q := 33) (d1 := 0) kc_X12_127 dX12_odds_30 rfl rfl (Nat.le_of_ble_eq_true rfl) (Nat.le_of_ble_eq_true rfl) (by omega) rfl rfl (t_X12_in (d := 0) (by omega) x3 0 1 M _ rfl) ?_
        refine r_if_eq 49 (q := 36) dX12_odds_33 (by decide) rfl (fun c4 => ?_) (fun c4 => ?_)
        · rw [if_neg (mm_b0 c4)] at h
          refine r_iconst (v := (-1)) (q := 50) dX12_odds_49 (by decide) rfl ?_
          cases h
          exact r_ret dX12_odds_50 rfl mm_Zi_rfl
        · rw [if_pos (mm_b1 c4)] at h
          refine r_iload_n (q := 37) dX12_odds_36 rfl rfl ?_
          refine r_aload_n (q := 38) dX12_odds_37 rfl rfl ?_
          refine r_geti (v := (M 0 6)) (q := 41) lk_X12_123 dX12_odds_38 sc_m_0 rfl rfl rfl ?_
          refine r_iadd (q := 42) dX12_odds_41 rfl ?_
          refine r_aload_n (q := 43) dX12_odds_42 rfl rfl ?_
          refine r_geti (v := (M 0 8)) (q := 46) lk_X12_138 dX12_odds_43 sc_m_0 rfl rfl rfl ?_
          refine r_icmp_le 51 (q := 49) dX12_odds_46 (by decide) rfl (fun c5 => ?_) (fun c5 => ?_)
          · rw [if_pos c5] at h
            refine r_aload_n (q := 52) dX12_odds_51 rfl rfl ?_
            refine r_iconst (v := 0) (q := 53) dX12_odds_52 (by decide) rfl ?_
            refine r_puti (q := 56) lk_X12_138 ft_9_8 dX12_odds_53 sc_m_0 rfl rfl ?_
            refine r_iconst (v := 0) (q := 57) dX12_odds_56 (by decide) rfl ?_
            refine r_istore (q := 59) (L' := [some (.inr 0), some (.inl x1), some (.inl x2), some (.inl x3), some (.inl 0), none, none]) dX12_odds_57 (by decide) rfl rfl ?_
            obtain ⟨y10, e11, h⟩ := Option.bind_eq_some_iff.mp h
            refine t_X12_odds_l59 hd x1 x2 x3 (mm_U M 0 8 0) mm_fuel 0 _ e11 ?_
            rcases y10 with y10r | y10s
            · dsimp only at h
              cases h
              exact mm_Zi_rfl
            · dsimp only at h
              show mm_Go jX12_odds _ _ _ _ 85 [some (.inr 0), some (.inl x1), some (.inl x2), some (.inl x3), none, none, none] [] S_m (mm_U M 0 8 0) _
              refine r_iconst (v := 0) (q := 86) dX12_odds_85 (by decide) rfl ?_
              refine r_istore (q := 88) (L' := [some (.inr 0), some (.inl x1), some (.inl x2), some (.inl x3), some (.inl 0), none, none]) dX12_odds_86 (by decide) rfl rfl ?_
              refine r_iconst (v := 0) (q := 89) dX12_odds_88 (by decide) rfl ?_
              refine r_istore (q := 91) (L' := [some (.inr 0), some (.inl x1), some (.inl x2), some (.inl x3), some (.inl 0), some (.inl 0), none]) dX12_odds_89 (by decide) rfl rfl ?_
              refine r_iconst (v := 0) (q := 92) dX12_odds_91 (by decide) rfl ?_
              refine r_istore (q := 94) (L' := [some (.inr 0), some (.inl x1), some (.inl x2), some (.inl x3), some (.inl 0), some (.inl 0), some (.inl 0)]) dX12_odds_92 (by decide) rfl rfl ?_
              obtain ⟨y23, e24, h⟩ := Option.bind_eq_some_iff.mp h
              refine t_X12_odds_l94 hd x1 x2 x3 (mm_U M 0 8 0) mm_fuel (0, 0, 0) _ e24 ?_
              rcases y23 with y23r | y23s
              · dsimp only at h
                cases h
                exact mm_Zi_rfl
              · dsimp only at h
                show mm_Go jX12_odds _ _ _ _ 162 [none, none, none, some (.inl x3), some (.inl y23s.1), some (.inl y23s.2), none] [] S_m (mm_U M 0 8 0) _
                refine r_iload (q := 164) dX12_odds_162 rfl rfl ?_
                refine r_if_ne 170 (q := 167) dX12_odds_164 (by decide) rfl (fun c25 => ?_) (fun c25 => ?_)
                · rw [if_neg c25] at h
                  refine r_iload_n (q := 171) dX12_odds_170 rfl rfl ?_
                  refine r_if_ne 187 (q := 174) dX12_odds_171 (by decide) rfl (fun c26 => ?_) (fun c26 => ?_)
                  · rw [if_neg c26] at h
                    refine r_iload (q := 189) dX12_odds_187 rfl rfl ?_
                    refine r_iload (q := 191) dX12_odds_189 rfl rfl ?_
                    refine r_iload (q := 193) dX12_odds_191 rfl rfl ?_
                    obtain ⟨y31, e30, h⟩ := Option.bind_eq_some_iff.mp h
                    refine r_callS_i (av := [(.inl y23s.1), (.inl y23s.2)]) (st := [(.inl y23s.1)]) (q := 196) (d1 := 0) kc_X12_425 dX12_odds_193 rfl rfl (Nat.le_of_ble_eq_true rfl) (Nat.le_of_ble_eq_true rfl) (by omega) rfl rfl (t_X12_gcd (d := 0) (by omega) y23s.1 y23s.2 (mm_U M 0 8 0) _ e30) ?_
                    obtain ⟨g32, h⟩ := mm_guard h
                    refine r_idiv (q := 197) dX12_odds_196 g32 rfl ?_
                    cases h
                    exact r_ret dX12_odds_197 rfl mm_Zi_rfl
                  · rw [if_pos c26] at h
                    refine r_iload (q := 176) dX12_odds_174 rfl rfl ?_
                    refine r_iload (q := 178) dX12_odds_176 rfl rfl ?_
                    refine r_iload (q := 180) dX12_odds_178 rfl rfl ?_
                    obtain ⟨y28, e27, h⟩ := Option.bind_eq_some_iff.mp h
                    refine r_callS_i (av := [(.inl y23s.1), (.inl y23s.2)]) (st := [(.inl y23s.2)]) (q := 183) (d1 := 0) kc_X12_425 dX12_odds_180 rfl rfl (Nat.le_of_ble_eq_true rfl) (Nat.le_of_ble_eq_true rfl) (by omega) rfl rfl (t_X12_gcd (d := 0) (by omega) y23s.1 y23s.2 (mm_U M 0 8 0) _ e27) ?_
                    obtain ⟨g29, h⟩ := mm_guard h
                    refine r_idiv (q := 184) dX12_odds_183 g29 rfl ?_
                    refine r_goto 197 dX12_odds_184 (by decide) ?_
                    cases h
                    exact r_ret dX12_odds_197 rfl mm_Zi_rfl
                · rw [if_pos c25] at h
                  refine r_bipush (v := (-2)) (q := 169) dX12_odds_167 (by decide) rfl ?_
                  cases h
                  exact r_ret dX12_odds_169 rfl mm_Zi_rfl
          · rw [if_neg c5] at h
            refine r_iconst (v := (-1)) (q := 50) dX12_odds_49 (by decide) rfl ?_
            cases h
            exact r_ret dX12_odds_50 rfl mm_Zi_rfl
noncomputable def X12_at (x0 : Int32) (x1 : Int32) : Int32 := (((9 : Int32) * x0) + x1)
set_option maxRecDepth 100000 in
set_option maxHeartbeats 400000 in
theorem t_X12_at {d : Nat} (hd : 0 ≤ d) (x0 : Int32) (x1 : Int32) (M : mm_M) (res : Int32) (h : X12_at x0 x1 = res) : mm_Meth jX12_at d 0 0 [(.inl x0), (.inl x1)] S_m M (mm_Zi res S_m M) := by
  refine r_meth (L := [some (.inl x0), some (.inl x1)]) rfl (fun D => ?_)
  unfold X12_at at h
  refine r_bipush (v := 9) (q := 2) dX12_at_0 (by decide) rfl ?_
  refine r_iload_n (q := 3) dX12_at_2 rfl rfl ?_
  refine r_imul (q := 4) dX12_at_3 rfl ?_
  refine r_iload_n (q := 5) dX12_at_4 rfl rfl ?_
  refine r_iadd (q := 6) dX12_at_5 rfl ?_
  subst h
  exact r_ret dX12_at_6 rfl mm_Zi_rfl
noncomputable def X12_wins_j35l3 (x1 : Int32) (x2 : Int32) (x3 : Int32) (x4 : Int32) (x5 : Int32) (z0 : Bool) (M : mm_M) : Option (Int32 ⊕ Bool) := if x4 = 1 then if z0 = true then some (.inr true) else some (.inl (x5 + 1)) else if z0 = true then some (.inl (x5 + 1)) else (X12_behind x5 x1 M).bind fun y10 => if mm_in (X12_at y10 x5) 90 = true then if (M 36 (Int32.toNatClampNeg (X12_at y10 x5))) = (x4 - 1) then some (.inr true) else some (.inl (x5 + 1)) else none
set_option maxRecDepth 100000 in
set_option maxHeartbeats 400000 in
theorem t_X12_wins_j35l3 {D : mm_D} {d : Nat} (hd : 1 ≤ d) {Z : Option Int32 → List mm_C → mm_M → Prop} (x1 : Int32) (x2 : Int32) (x3 : Int32) (x4 : Int32) (x5 : Int32) (z0 : Bool) (M : mm_M) (o : Int32 ⊕ Bool) (h : X12_wins_j35l3 x1 x2 x3 x4 x5 z0 M = some o) (kb : ∀ s', o = .inl s' → mm_Go jX12_wins D d 0 0 3 [some (.inr 0), some (.inl x1), some (.inl x2), some (.inl x3), some (.inl x4), some (.inl s'), none] [] S_m M Z) (ke : ∀ r, o = .inr r → Z (some (mm_b r)) S_m M) : mm_Go jX12_wins D d 0 0 35 [some (.inr 0), some (.inl x1), some (.inl x2), some (.inl x3), some (.inl x4), some (.inl x5), none] [(.inl (mm_b z0))] S_m M Z := by
  unfold X12_wins_j35l3 at h
  refine r_istore (q := 37) (L' := [some (.inr 0), some (.inl x1), some (.inl x2), some (.inl x3), some (.inl x4), some (.inl x5), some (.inl (mm_b z0))]) dX12_wins_35 (by decide) rfl rfl ?_
  refine r_iload (q := 39) dX12_wins_37 rfl rfl ?_
  refine r_iconst (v := 1) (q := 40) dX12_wins_39 (by decide) rfl ?_
  refine r_icmp_ne 51 (q := 43) dX12_wins_40 (by decide) rfl (fun c6 => ?_) (fun c6 => ?_)
  · rw [if_neg c6] at h
    refine r_iload (q := 53) dX12_wins_51 rfl rfl ?_
    refine r_if_ne 82 (q := 56) dX12_wins_53 (by decide) rfl (fun c8 => ?_) (fun c8 => ?_)
    · rw [if_pos (mm_b1 c8)] at h
      refine r_iinc (v := 1) (q := 85) (L' := [some (.inr 0), some (.inl x1), some (.inl x2), some (.inl x3), some (.inl x4), some (.inl (x5 + 1)), some (.inl (mm_b z0))]) dX12_wins_82 (by decide) (by decide) rfl rfl rfl ?_
      refine r_goto 3 dX12_wins_85 (by decide) ?_
      refine r_forget (L' := [some (.inr 0), some (.inl x1), some (.inl x2), some (.inl x3), some (.inl x4), some (.inl (x5 + 1)), none]) [true, true, true, true, true, true, false] rfl ?_
      cases h
      have hk := kb _ rfl
      exact hk
    · rw [if_neg (mm_b0 c8)] at h
      refine r_aload_n (q := 57) dX12_wins_56 rfl rfl ?_
      refine r_getr (b := 36) (q := 60) lk_X12_116 dX12_wins_57 sc_m_0 rfl rfl ?_
      refine r_aload_n (q := 61) dX12_wins_60 rfl rfl ?_
      refine r_iload (q := 63) dX12_wins_61 rfl rfl ?_
      refine r_iload_n (q := 64) dX12_wins_63 rfl rfl ?_
      obtain ⟨y10, e9, h⟩ := Option.bind_eq_some_iff.mp h
      refine r_callV_i (av := [(.inl x5), (.inl x1)]) (st := [(.inr 36)]) (q := 67) (d1 := 0) kc_X12_306 sc_m_0 dX12_wins_64 rfl rfl (Nat.le_of_ble_eq_true rfl) (Nat.le_of_ble_eq_true rfl) (by omega) rfl rfl (t_X12_behind (d := 0) (by omega) x5 x1 M _ e9) ?_
      refine r_iload (q := 69) dX12_wins_67 rfl rfl ?_
      refine r_callS_i (av := [(.inl y10), (.inl x5)]) (st := [(.inr 36)]) (q := 72) (d1 := 0) kc_X12_428 dX12_wins_69 rfl rfl (Nat.le_of_ble_eq_true rfl) (Nat.le_of_ble_eq_true rfl) (by omega) rfl rfl (t_X12_at (d := 0) (by omega) y10 x5 M _ rfl) ?_
      obtain ⟨g11, h⟩ := mm_guard h
      refine r_iald (v := (M 36 (Int32.toNatClampNeg (X12_at y10 x5)))) (q := 73) dX12_wins_72 sc_m_36 (mm_vp g11) rfl rfl ?_
      refine r_iload (q := 75) dX12_wins_73 rfl rfl ?_
      refine r_iconst (v := 1) (q := 76) dX12_wins_75 (by decide) rfl ?_
      refine r_isub (q := 77) dX12_wins_76 rfl ?_
      refine r_icmp_ne 82 (q := 80) dX12_wins_77 (by decide) rfl (fun c12 => ?_) (fun c12 => ?_)
      · rw [if_neg c12] at h
        refine r_iinc (v := 1) (q := 85) (L' := [some (.inr 0), some (.inl x1), some (.inl x2), some (.inl x3), some (.inl x4), some (.inl (x5 + 1)), some (.inl (mm_b z0))]) dX12_wins_82 (by decide) (by decide) rfl rfl rfl ?_
        refine r_goto 3 dX12_wins_85 (by decide) ?_
        refine r_forget (L' := [some (.inr 0), some (.inl x1), some (.inl x2), some (.inl x3), some (.inl x4), some (.inl (x5 + 1)), none]) [true, true, true, true, true, true, false] rfl ?_
        cases h
        have hk := kb _ rfl
        exact hk
      · rw [if_pos c12] at h
        refine r_iconst (v := 1) (q := 81) dX12_wins_80 (by decide) rfl ?_
        cases h
        have hk := ke _ rfl
        exact r_retb dX12_wins_81 rfl (Or.inr rfl) hk
  · rw [if_pos c6] at h
    refine r_iload (q := 45) dX12_wins_43 rfl rfl ?_
    refine r_if_eq 82 (q := 48) dX12_wins_45 (by decide) rfl (fun c7 => ?_) (fun c7 => ?_)
    · rw [if_neg (mm_b0 c7)] at h
      refine r_iinc (v := 1) (q := 85) (L' := [some (.inr 0), some (.inl x1), some (.inl x2), some (.inl x3), some (.inl x4), some (.inl (x5 + 1)), some (.inl (mm_b z0))]) dX12_wins_82 (by decide) (by decide) rfl rfl rfl ?_
      refine r_goto 3 dX12_wins_85 (by decide) ?_
      refine r_forget (L' := [some (.inr 0), some (.inl x1), some (.inl x2), some (.inl x3), some (.inl x4), some (.inl (x5 + 1)), none]) [true, true, true, true, true, true, false] rfl ?_
      cases h
      have hk := kb _ rfl
      exact hk
    · rw [if_pos (mm_b1 c7)] at h
      refine r_goto 80 dX12_wins_48 (by decide) ?_
      refine r_iconst (v := 1) (q := 81) dX12_wins_80 (by decide) rfl ?_
      cases h
      have hk := ke _ rfl
      exact r_retb dX12_wins_81 rfl (Or.inr rfl) hk
noncomputable def X12_wins_l3 (x1 : Int32) (x2 : Int32) (x3 : Int32) (x4 : Int32) (M : mm_M) (s : Int32) : Option (Int32 ⊕ Bool) := if 8 ≤ s then some (.inr false) else if s = x2 then some (.inl (s + 1)) else (X12_answer s x1 M).bind fun y4 => if y4 = x3 then X12_wins_j35l3 x1 x2 x3 x4 s true M else X12_wins_j35l3 x1 x2 x3 x4 s false M
set_option maxRecDepth 100000 in
set_option maxHeartbeats 400000 in
theorem t_X12_wins_l3 {D : mm_D} {d : Nat} (hd : 1 ≤ d) {Z : Option Int32 → List mm_C → mm_M → Prop} (x1 : Int32) (x2 : Int32) (x3 : Int32) (x4 : Int32) (M : mm_M) (n : Nat) (s : Int32) (r : Bool) (h : mm_loop (X12_wins_l3 x1 x2 x3 x4 M) n s = some r) (hx : Z (some (mm_b r)) S_m M) : mm_Go jX12_wins D d 0 0 3 [some (.inr 0), some (.inl x1), some (.inl x2), some (.inl x3), some (.inl x4), some (.inl s), none] [] S_m M Z := by
  refine mm_loop_go (step := X12_wins_l3 x1 x2 x3 x4 M) (Hd := fun (s : Int32) => mm_Go jX12_wins D d 0 0 3 [some (.inr 0), some (.inl x1), some (.inl x2), some (.inl x3), some (.inl x4), some (.inl s), none] [] S_m M Z) (Ex := fun (r : Bool) => Z (some (mm_b r)) S_m M) ?_ n s r h hx
  intro s o h kb ke
  show mm_Go jX12_wins D d 0 0 3 [some (.inr 0), some (.inl x1), some (.inl x2), some (.inl x3), some (.inl x4), some (.inl s), none] [] S_m M Z
  unfold X12_wins_l3 at h
  refine r_iload (q := 5) dX12_wins_3 rfl rfl ?_
  refine r_bipush (v := 8) (q := 7) dX12_wins_5 (by decide) rfl ?_
  refine r_icmp_ge 88 (q := 10) dX12_wins_7 (by decide) rfl (fun c1 => ?_) (fun c1 => ?_)
  · rw [if_pos c1] at h
    refine r_iconst (v := 0) (q := 89) dX12_wins_88 (by decide) rfl ?_
    cases h
    have hk := ke _ rfl
    exact r_retb dX12_wins_89 rfl (Or.inl rfl) hk
  · rw [if_neg c1] at h
    refine r_iload (q := 12) dX12_wins_10 rfl rfl ?_
    refine r_iload_n (q := 13) dX12_wins_12 rfl rfl ?_
    refine r_icmp_ne 19 (q := 16) dX12_wins_13 (by decide) rfl (fun c2 => ?_) (fun c2 => ?_)
    · rw [if_neg c2] at h
      refine r_aload_n (q := 20) dX12_wins_19 rfl rfl ?_
      refine r_iload (q := 22) dX12_wins_20 rfl rfl ?_
      refine r_iload_n (q := 23) dX12_wins_22 rfl rfl ?_
      obtain ⟨y4, e3, h⟩ := Option.bind_eq_some_iff.mp h
      refine r_callV_i (av := [(.inl s), (.inl x1)]) (st := []) (q := 26) (d1 := 0) kc_X12_299 sc_m_0 dX12_wins_23 rfl rfl (Nat.le_of_ble_eq_true rfl) (Nat.le_of_ble_eq_true rfl) (by omega) rfl rfl (t_X12_answer (d := 0) (by omega) s x1 M _ e3) ?_
      refine r_iload_n (q := 27) dX12_wins_26 rfl rfl ?_
      refine r_icmp_ne 34 (q := 30) dX12_wins_27 (by decide) rfl (fun c5 => ?_) (fun c5 => ?_)
      · rw [if_neg c5] at h
        refine r_iconst (v := 0) (q := 35) dX12_wins_34 (by decide) rfl ?_
        exact t_X12_wins_j35l3 hd x1 x2 x3 x4 s false M _ h kb ke
      · rw [if_pos c5] at h
        refine r_iconst (v := 1) (q := 31) dX12_wins_30 (by decide) rfl ?_
        refine r_goto 35 dX12_wins_31 (by decide) ?_
        exact t_X12_wins_j35l3 hd x1 x2 x3 x4 s true M _ h kb ke
    · rw [if_pos c2] at h
      refine r_goto 82 dX12_wins_16 (by decide) ?_
      refine r_iinc (v := 1) (q := 85) (L' := [some (.inr 0), some (.inl x1), some (.inl x2), some (.inl x3), some (.inl x4), some (.inl (s + 1)), none]) dX12_wins_82 (by decide) (by decide) rfl rfl rfl ?_
      refine r_goto 3 dX12_wins_85 (by decide) ?_
      cases h
      have hk := kb _ rfl
      exact hk
noncomputable def X12_wins (x1 : Int32) (x2 : Int32) (x3 : Int32) (x4 : Int32) (M : mm_M) : Option Bool := (mm_loop (X12_wins_l3 x1 x2 x3 x4 M) mm_fuel 0)
set_option maxRecDepth 100000 in
set_option maxHeartbeats 400000 in
theorem t_X12_wins {d : Nat} (hd : 1 ≤ d) (x1 : Int32) (x2 : Int32) (x3 : Int32) (x4 : Int32) (M : mm_M) (res : Bool) (h : X12_wins x1 x2 x3 x4 M = some res) : mm_Meth jX12_wins d 0 0 [(.inr 0), (.inl x1), (.inl x2), (.inl x3), (.inl x4)] S_m M (mm_Zi (mm_b res) S_m M) := by
  refine r_meth (L := [some (.inr 0), some (.inl x1), some (.inl x2), some (.inl x3), some (.inl x4), none, none]) rfl (fun D => ?_)
  unfold X12_wins at h
  refine r_iconst (v := 0) (q := 1) dX12_wins_0 (by decide) rfl ?_
  refine r_istore (q := 3) (L' := [some (.inr 0), some (.inl x1), some (.inl x2), some (.inl x3), some (.inl x4), some (.inl 0), none]) dX12_wins_1 (by decide) rfl rfl ?_
  exact t_X12_wins_l3 hd x1 x2 x3 x4 M mm_fuel 0 _ h mm_Zi_rfl
noncomputable def X12_loses_l3 (x1 : Int32) (x2 : Int32) (x3 : Int32) (M : mm_M) (s : Int32) : Option (Int32 ⊕ Bool) := if 8 ≤ s then some (.inr true) else if s = x2 then some (.inl (s + 1)) else (X12_answer s x1 M).bind fun y4 => if y4 = x3 then some (.inr false) else (X12_behind s x1 M).bind fun y7 => if mm_in (X12_at y7 s) 90 = true then if (M 35 (Int32.toNatClampNeg (X12_at y7 s))) = 0 then some (.inr false) else some (.inl (s + 1)) else none
set_option maxRecDepth 100000 in
set_option maxHeartbeats 400000 in
theorem t_X12_loses_l3 {D : mm_D} {d : Nat} (hd : 1 ≤ d) {Z : Option Int32 → List mm_C → mm_M → Prop} (x1 : Int32) (x2 : Int32) (x3 : Int32) (M : mm_M) (n : Nat) (s : Int32) (r : Bool) (h : mm_loop (X12_loses_l3 x1 x2 x3 M) n s = some r) (hx : Z (some (mm_b r)) S_m M) : mm_Go jX12_loses D d 0 0 3 [some (.inr 0), some (.inl x1), some (.inl x2), some (.inl x3), some (.inl s)] [] S_m M Z := by
  refine mm_loop_go (step := X12_loses_l3 x1 x2 x3 M) (Hd := fun (s : Int32) => mm_Go jX12_loses D d 0 0 3 [some (.inr 0), some (.inl x1), some (.inl x2), some (.inl x3), some (.inl s)] [] S_m M Z) (Ex := fun (r : Bool) => Z (some (mm_b r)) S_m M) ?_ n s r h hx
  intro s o h kb ke
  show mm_Go jX12_loses D d 0 0 3 [some (.inr 0), some (.inl x1), some (.inl x2), some (.inl x3), some (.inl s)] [] S_m M Z
  unfold X12_loses_l3 at h
  refine r_iload (q := 5) dX12_loses_3 rfl rfl ?_
  refine r_bipush (v := 8) (q := 7) dX12_loses_5 (by decide) rfl ?_
  refine r_icmp_ge 58 (q := 10) dX12_loses_7 (by decide) rfl (fun c1 => ?_) (fun c1 => ?_)
  · rw [if_pos c1] at h
    refine r_iconst (v := 1) (q := 59) dX12_loses_58 (by decide) rfl ?_
    cases h
    have hk := ke _ rfl
    exact r_retb dX12_loses_59 rfl (Or.inr rfl) hk
  · rw [if_neg c1] at h
    refine r_iload (q := 12) dX12_loses_10 rfl rfl ?_
    refine r_iload_n (q := 13) dX12_loses_12 rfl rfl ?_
    refine r_icmp_ne 19 (q := 16) dX12_loses_13 (by decide) rfl (fun c2 => ?_) (fun c2 => ?_)
    · rw [if_neg c2] at h
      refine r_aload_n (q := 20) dX12_loses_19 rfl rfl ?_
      refine r_iload (q := 22) dX12_loses_20 rfl rfl ?_
      refine r_iload_n (q := 23) dX12_loses_22 rfl rfl ?_
      obtain ⟨y4, e3, h⟩ := Option.bind_eq_some_iff.mp h
      refine r_callV_i (av := [(.inl s), (.inl x1)]) (st := []) (q := 26) (d1 := 0) kc_X12_299 sc_m_0 dX12_loses_23 rfl rfl (Nat.le_of_ble_eq_true rfl) (Nat.le_of_ble_eq_true rfl) (by omega) rfl rfl (t_X12_answer (d := 0) (by omega) s x1 M _ e3) ?_
      refine r_iload_n (q := 27) dX12_loses_26 rfl rfl ?_
      refine r_icmp_eq 50 (q := 30) dX12_loses_27 (by decide) rfl (fun c5 => ?_) (fun c5 => ?_)
      · rw [if_pos c5] at h
        refine r_iconst (v := 0) (q := 51) dX12_loses_50 (by decide) rfl ?_
        cases h
        have hk := ke _ rfl
        exact r_retb dX12_loses_51 rfl (Or.inl rfl) hk
      · rw [if_neg c5] at h
        refine r_aload_n (q := 31) dX12_loses_30 rfl rfl ?_
        refine r_getr (b := 35) (q := 34) lk_X12_113 dX12_loses_31 sc_m_0 rfl rfl ?_
        refine r_aload_n (q := 35) dX12_loses_34 rfl rfl ?_
        refine r_iload (q := 37) dX12_loses_35 rfl rfl ?_
        refine r_iload_n (q := 38) dX12_loses_37 rfl rfl ?_
        obtain ⟨y7, e6, h⟩ := Option.bind_eq_some_iff.mp h
        refine r_callV_i (av := [(.inl s), (.inl x1)]) (st := [(.inr 35)]) (q := 41) (d1 := 0) kc_X12_306 sc_m_0 dX12_loses_38 rfl rfl (Nat.le_of_ble_eq_true rfl) (Nat.le_of_ble_eq_true rfl) (by omega) rfl rfl (t_X12_behind (d := 0) (by omega) s x1 M _ e6) ?_
        refine r_iload (q := 43) dX12_loses_41 rfl rfl ?_
        refine r_callS_i (av := [(.inl y7), (.inl s)]) (st := [(.inr 35)]) (q := 46) (d1 := 0) kc_X12_428 dX12_loses_43 rfl rfl (Nat.le_of_ble_eq_true rfl) (Nat.le_of_ble_eq_true rfl) (by omega) rfl rfl (t_X12_at (d := 0) (by omega) y7 s M _ rfl) ?_
        obtain ⟨g8, h⟩ := mm_guard h
        refine r_iald (v := (M 35 (Int32.toNatClampNeg (X12_at y7 s)))) (q := 47) dX12_loses_46 sc_m_35 (mm_vp g8) rfl rfl ?_
        refine r_if_ne 52 (q := 50) dX12_loses_47 (by decide) rfl (fun c9 => ?_) (fun c9 => ?_)
        · rw [if_neg c9] at h
          refine r_iinc (v := 1) (q := 55) (L' := [some (.inr 0), some (.inl x1), some (.inl x2), some (.inl x3), some (.inl (s + 1))]) dX12_loses_52 (by decide) (by decide) rfl rfl rfl ?_
          refine r_goto 3 dX12_loses_55 (by decide) ?_
          cases h
          have hk := kb _ rfl
          exact hk
        · rw [if_pos c9] at h
          refine r_iconst (v := 0) (q := 51) dX12_loses_50 (by decide) rfl ?_
          cases h
          have hk := ke _ rfl
          exact r_retb dX12_loses_51 rfl (Or.inl rfl) hk
    · rw [if_pos c2] at h
      refine r_goto 52 dX12_loses_16 (by decide) ?_
      refine r_iinc (v := 1) (q := 55) (L' := [some (.inr 0), some (.inl x1), some (.inl x2), some (.inl x3), some (.inl (s + 1))]) dX12_loses_52 (by decide) (by decide) rfl rfl rfl ?_
      refine r_goto 3 dX12_loses_55 (by decide) ?_
      cases h
      have hk := kb _ rfl
      exact hk
noncomputable def X12_loses (x1 : Int32) (x2 : Int32) (x3 : Int32) (M : mm_M) : Option Bool := (mm_loop (X12_loses_l3 x1 x2 x3 M) mm_fuel 0)
set_option maxRecDepth 100000 in
set_option maxHeartbeats 400000 in
theorem t_X12_loses {d : Nat} (hd : 1 ≤ d) (x1 : Int32) (x2 : Int32) (x3 : Int32) (M : mm_M) (res : Bool) (h : X12_loses x1 x2 x3 M = some res) : mm_Meth jX12_loses d 0 0 [(.inr 0), (.inl x1), (.inl x2), (.inl x3)] S_m M (mm_Zi (mm_b res) S_m M) := by
  refine r_meth (L := [some (.inr 0), some (.inl x1), some (.inl x2), some (.inl x3), none]) rfl (fun D => ?_)
  unfold X12_loses at h
  refine r_iconst (v := 0) (q := 1) dX12_loses_0 (by decide) rfl ?_
  refine r_istore (q := 3) (L' := [some (.inr 0), some (.inl x1), some (.inl x2), some (.inl x3), some (.inl 0)]) dX12_loses_1 (by decide) rfl rfl ?_
  exact t_X12_loses_l3 hd x1 x2 x3 M mm_fuel 0 _ h mm_Zi_rfl
noncomputable def X12_laysGame_l2 (x1 : Int32) (s : (Int32 × mm_M)) : Option ((Int32 × mm_M) ⊕ mm_M) := if 90 ≤ s.1 then some (.inr s.2) else if mm_in s.1 90 = true then if mm_in s.1 90 = true then some (.inl ((s.1 + 1), (mm_U (mm_U s.2 35 (Int32.toNatClampNeg s.1) 0) 36 (Int32.toNatClampNeg s.1) 0))) else none else none
set_option maxRecDepth 100000 in
set_option maxHeartbeats 400000 in
theorem t_X12_laysGame_l2 {D : mm_D} {d : Nat} (hd : 2 ≤ d) {Z : Option Int32 → List mm_C → mm_M → Prop} (x1 : Int32) (n : Nat) (s : (Int32 × mm_M)) (r : mm_M) (h : mm_loop (X12_laysGame_l2 x1) n s = some r) (hx : mm_Go jX12_laysGame D d 0 0 28 [some (.inr 0), some (.inl x1), none, none] [] S_m r Z) : mm_Go jX12_laysGame D d 0 0 2 [some (.inr 0), some (.inl x1), some (.inl s.1), none] [] S_m s.2 Z := by
  refine mm_loop_go (step := X12_laysGame_l2 x1) (Hd := fun (s : (Int32 × mm_M)) => mm_Go jX12_laysGame D d 0 0 2 [some (.inr 0), some (.inl x1), some (.inl s.1), none] [] S_m s.2 Z) (Ex := fun (r : mm_M) => mm_Go jX12_laysGame D d 0 0 28 [some (.inr 0), some (.inl x1), none, none] [] S_m r Z) ?_ n s r h hx
  intro s o h kb ke
  show mm_Go jX12_laysGame D d 0 0 2 [some (.inr 0), some (.inl x1), some (.inl s.1), none] [] S_m s.2 Z
  unfold X12_laysGame_l2 at h
  refine r_iload_n (q := 3) dX12_laysGame_2 rfl rfl ?_
  refine r_bipush (v := 90) (q := 5) dX12_laysGame_3 (by decide) rfl ?_
  refine r_icmp_ge 28 (q := 8) dX12_laysGame_5 (by decide) rfl (fun c1 => ?_) (fun c1 => ?_)
  · rw [if_pos c1] at h
    refine r_forget (L' := [some (.inr 0), some (.inl x1), none, none]) [true, true, false, false] rfl ?_
    cases h
    have hk := ke _ rfl
    exact hk
  · rw [if_neg c1] at h
    refine r_aload_n (q := 9) dX12_laysGame_8 rfl rfl ?_
    refine r_getr (b := 35) (q := 12) lk_X12_113 dX12_laysGame_9 sc_m_0 rfl rfl ?_
    refine r_iload_n (q := 13) dX12_laysGame_12 rfl rfl ?_
    refine r_iconst (v := 0) (q := 14) dX12_laysGame_13 (by decide) rfl ?_
    obtain ⟨g2, h⟩ := mm_guard h
    refine r_iast (j := (Int32.toNatClampNeg s.1)) (q := 15) dX12_laysGame_14 sc_m_35 (mm_vp g2) rfl rfl ?_
    refine r_aload_n (q := 16) dX12_laysGame_15 rfl rfl ?_
    refine r_getr (b := 36) (q := 19) lk_X12_116 dX12_laysGame_16 sc_m_0 rfl rfl ?_
    refine r_iload_n (q := 20) dX12_laysGame_19 rfl rfl ?_
    refine r_iconst (v := 0) (q := 21) dX12_laysGame_20 (by decide) rfl ?_
    obtain ⟨g3, h⟩ := mm_guard h
    refine r_iast (j := (Int32.toNatClampNeg s.1)) (q := 22) dX12_laysGame_21 sc_m_36 (mm_vp g3) rfl rfl ?_
    refine r_iinc (v := 1) (q := 25) (L' := [some (.inr 0), some (.inl x1), some (.inl (s.1 + 1)), none]) dX12_laysGame_22 (by decide) (by decide) rfl rfl rfl ?_
    refine r_goto 2 dX12_laysGame_25 (by decide) ?_
    cases h
    have hk := kb _ rfl
    exact hk
noncomputable def X12_laysGame_j101l38 (x1 : Int32) (x2 : Int32) (x3 : Int32) (M : mm_M) : Option ((Int32 × mm_M) ⊕ mm_M) := if (x2 - x2 / 2 * 2) = 0 then (X12_loses (x3 / 9) (x3 - x3 / 9 * 9) x1 M).bind fun y19 => if y19 = true then if mm_in x3 90 = true then some (.inl ((x3 + 1), (mm_U M 36 (Int32.toNatClampNeg x3) x2))) else none else some (.inl ((x3 + 1), M)) else some (.inl ((x3 + 1), M))
set_option maxRecDepth 100000 in
set_option maxHeartbeats 400000 in
theorem t_X12_laysGame_j101l38 {D : mm_D} {d : Nat} (hd : 2 ≤ d) {Z : Option Int32 → List mm_C → mm_M → Prop} (x1 : Int32) (x2 : Int32) (x3 : Int32) (M : mm_M) (o : (Int32 × mm_M) ⊕ mm_M) (h : X12_laysGame_j101l38 x1 x2 x3 M = some o) (kb : ∀ s', o = .inl s' → mm_Go jX12_laysGame D d 0 0 38 [some (.inr 0), some (.inl x1), some (.inl x2), some (.inl s'.1)] [] S_m s'.2 Z) (ke : ∀ r, o = .inr r → mm_Go jX12_laysGame D d 0 0 136 [some (.inr 0), some (.inl x1), some (.inl x2), none] [] S_m r Z) : mm_Go jX12_laysGame D d 0 0 101 [some (.inr 0), some (.inl x1), some (.inl x2), some (.inl x3)] [] S_m M Z := by
  unfold X12_laysGame_j101l38 at h
  refine r_iload_n (q := 102) dX12_laysGame_101 rfl rfl ?_
  refine r_iconst (v := 2) (q := 103) dX12_laysGame_102 (by decide) rfl ?_
  refine r_irem (q := 104) dX12_laysGame_103 (by decide) rfl ?_
  refine r_if_ne 130 (q := 107) dX12_laysGame_104 (by decide) rfl (fun c17 => ?_) (fun c17 => ?_)
  · rw [if_neg c17] at h
    refine r_iinc (v := 1) (q := 133) (L' := [some (.inr 0), some (.inl x1), some (.inl x2), some (.inl (x3 + 1))]) dX12_laysGame_130 (by decide) (by decide) rfl rfl rfl ?_
    refine r_goto 38 dX12_laysGame_133 (by decide) ?_
    cases h
    have hk := kb _ rfl
    exact hk
  · rw [if_pos c17] at h
    refine r_aload_n (q := 108) dX12_laysGame_107 rfl rfl ?_
    refine r_iload_n (q := 109) dX12_laysGame_108 rfl rfl ?_
    refine r_bipush (v := 9) (q := 111) dX12_laysGame_109 (by decide) rfl ?_
    refine r_idiv (q := 112) dX12_laysGame_111 (by decide) rfl ?_
    refine r_iload_n (q := 113) dX12_laysGame_112 rfl rfl ?_
    refine r_bipush (v := 9) (q := 115) dX12_laysGame_113 (by decide) rfl ?_
    refine r_irem (q := 116) dX12_laysGame_115 (by decide) rfl ?_
    refine r_iload_n (q := 117) dX12_laysGame_116 rfl rfl ?_
    obtain ⟨y19, e18, h⟩ := Option.bind_eq_some_iff.mp h
    refine r_callV_i (av := [(.inl (x3 / 9)), (.inl (x3 - x3 / 9 * 9)), (.inl x1)]) (st := []) (q := 120) (d1 := 1) kc_X12_435 sc_m_0 dX12_laysGame_117 rfl rfl (Nat.le_of_ble_eq_true rfl) (Nat.le_of_ble_eq_true rfl) (by omega) rfl rfl (t_X12_loses (d := 1) (by omega) (x3 / 9) (x3 - x3 / 9 * 9) x1 M _ e18) ?_
    refine r_if_eq 130 (q := 123) dX12_laysGame_120 (by decide) rfl (fun c20 => ?_) (fun c20 => ?_)
    · rw [if_neg (mm_b0 c20)] at h
      refine r_iinc (v := 1) (q := 133) (L' := [some (.inr 0), some (.inl x1), some (.inl x2), some (.inl (x3 + 1))]) dX12_laysGame_130 (by decide) (by decide) rfl rfl rfl ?_
      refine r_goto 38 dX12_laysGame_133 (by decide) ?_
      cases h
      have hk := kb _ rfl
      exact hk
    · rw [if_pos (mm_b1 c20)] at h
      refine r_aload_n (q := 124) dX12_laysGame_123 rfl rfl ?_
      refine r_getr (b := 36) (q := 127) lk_X12_116 dX12_laysGame_124 sc_m_0 rfl rfl ?_
      refine r_iload_n (q := 128) dX12_laysGame_127 rfl rfl ?_
      refine r_iload_n (q := 129) dX12_laysGame_128 rfl rfl ?_
      obtain ⟨g21, h⟩ := mm_guard h
      refine r_iast (j := (Int32.toNatClampNeg x3)) (q := 130) dX12_laysGame_129 sc_m_36 (mm_vp g21) rfl rfl ?_
      refine r_iinc (v := 1) (q := 133) (L' := [some (.inr 0), some (.inl x1), some (.inl x2), some (.inl (x3 + 1))]) dX12_laysGame_130 (by decide) (by decide) rfl rfl rfl ?_
      refine r_goto 38 dX12_laysGame_133 (by decide) ?_
      cases h
      have hk := kb _ rfl
      exact hk
noncomputable def X12_laysGame_l38 (x1 : Int32) (x2 : Int32) (s : (Int32 × mm_M)) : Option ((Int32 × mm_M) ⊕ mm_M) := if ((9 : Int32) * (s.2 0 6)) ≤ s.1 then some (.inr s.2) else if mm_in s.1 90 = true then if (s.2 35 (Int32.toNatClampNeg s.1)) = 0 then if mm_in s.1 90 = true then if (s.2 36 (Int32.toNatClampNeg s.1)) = 0 then if (x2 - x2 / 2 * 2) = 1 then (X12_wins (s.1 / 9) (s.1 - s.1 / 9 * 9) x1 x2 s.2).bind fun y14 => if y14 = true then if mm_in s.1 90 = true then X12_laysGame_j101l38 x1 x2 s.1 (mm_U s.2 35 (Int32.toNatClampNeg s.1) x2) else none else X12_laysGame_j101l38 x1 x2 s.1 s.2 else X12_laysGame_j101l38 x1 x2 s.1 s.2 else some (.inl ((s.1 + 1), s.2)) else none else some (.inl ((s.1 + 1), s.2)) else none
set_option maxRecDepth 100000 in
set_option maxHeartbeats 400000 in
theorem t_X12_laysGame_l38 {D : mm_D} {d : Nat} (hd : 2 ≤ d) {Z : Option Int32 → List mm_C → mm_M → Prop} (x1 : Int32) (x2 : Int32) (n : Nat) (s : (Int32 × mm_M)) (r : mm_M) (h : mm_loop (X12_laysGame_l38 x1 x2) n s = some r) (hx : mm_Go jX12_laysGame D d 0 0 136 [some (.inr 0), some (.inl x1), some (.inl x2), none] [] S_m r Z) : mm_Go jX12_laysGame D d 0 0 38 [some (.inr 0), some (.inl x1), some (.inl x2), some (.inl s.1)] [] S_m s.2 Z := by
  refine mm_loop_go (step := X12_laysGame_l38 x1 x2) (Hd := fun (s : (Int32 × mm_M)) => mm_Go jX12_laysGame D d 0 0 38 [some (.inr 0), some (.inl x1), some (.inl x2), some (.inl s.1)] [] S_m s.2 Z) (Ex := fun (r : mm_M) => mm_Go jX12_laysGame D d 0 0 136 [some (.inr 0), some (.inl x1), some (.inl x2), none] [] S_m r Z) ?_ n s r h hx
  intro s o h kb ke
  show mm_Go jX12_laysGame D d 0 0 38 [some (.inr 0), some (.inl x1), some (.inl x2), some (.inl s.1)] [] S_m s.2 Z
  unfold X12_laysGame_l38 at h
  refine r_iload_n (q := 39) dX12_laysGame_38 rfl rfl ?_
  refine r_bipush (v := 9) (q := 41) dX12_laysGame_39 (by decide) rfl ?_
  refine r_aload_n (q := 42) dX12_laysGame_41 rfl rfl ?_
  refine r_geti (v := (s.2 0 6)) (q := 45) lk_X12_123 dX12_laysGame_42 sc_m_0 rfl rfl rfl ?_
  refine r_imul (q := 46) dX12_laysGame_45 rfl ?_
  refine r_icmp_ge 136 (q := 49) dX12_laysGame_46 (by decide) rfl (fun c7 => ?_) (fun c7 => ?_)
  · rw [if_pos c7] at h
    refine r_forget (L' := [some (.inr 0), some (.inl x1), some (.inl x2), none]) [true, true, true, false] rfl ?_
    cases h
    have hk := ke _ rfl
    exact hk
  · rw [if_neg c7] at h
    refine r_aload_n (q := 50) dX12_laysGame_49 rfl rfl ?_
    refine r_getr (b := 35) (q := 53) lk_X12_113 dX12_laysGame_50 sc_m_0 rfl rfl ?_
    refine r_iload_n (q := 54) dX12_laysGame_53 rfl rfl ?_
    obtain ⟨g8, h⟩ := mm_guard h
    refine r_iald (v := (s.2 35 (Int32.toNatClampNeg s.1))) (q := 55) dX12_laysGame_54 sc_m_35 (mm_vp g8) rfl rfl ?_
    refine r_if_ne 130 (q := 58) dX12_laysGame_55 (by decide) rfl (fun c9 => ?_) (fun c9 => ?_)
    · rw [if_neg c9] at h
      refine r_iinc (v := 1) (q := 133) (L' := [some (.inr 0), some (.inl x1), some (.inl x2), some (.inl (s.1 + 1))]) dX12_laysGame_130 (by decide) (by decide) rfl rfl rfl ?_
      refine r_goto 38 dX12_laysGame_133 (by decide) ?_
      cases h
      have hk := kb _ rfl
      exact hk
    · rw [if_pos c9] at h
      refine r_aload_n (q := 59) dX12_laysGame_58 rfl rfl ?_
      refine r_getr (b := 36) (q := 62) lk_X12_116 dX12_laysGame_59 sc_m_0 rfl rfl ?_
      refine r_iload_n (q := 63) dX12_laysGame_62 rfl rfl ?_
      obtain ⟨g10, h⟩ := mm_guard h
      refine r_iald (v := (s.2 36 (Int32.toNatClampNeg s.1))) (q := 64) dX12_laysGame_63 sc_m_36 (mm_vp g10) rfl rfl ?_
      refine r_if_eq 70 (q := 67) dX12_laysGame_64 (by decide) rfl (fun c11 => ?_) (fun c11 => ?_)
      · rw [if_pos c11] at h
        refine r_iload_n (q := 71) dX12_laysGame_70 rfl rfl ?_
        refine r_iconst (v := 2) (q := 72) dX12_laysGame_71 (by decide) rfl ?_
        refine r_irem (q := 73) dX12_laysGame_72 (by decide) rfl ?_
        refine r_iconst (v := 1) (q := 74) dX12_laysGame_73 (by decide) rfl ?_
        refine r_icmp_ne 101 (q := 77) dX12_laysGame_74 (by decide) rfl (fun c12 => ?_) (fun c12 => ?_)
        · rw [if_neg c12] at h
          exact t_X12_laysGame_j101l38 hd x1 x2 s.1 s.2 _ h kb ke
        · rw [if_pos c12] at h
          refine r_aload_n (q := 78) dX12_laysGame_77 rfl rfl ?_
          refine r_iload_n (q := 79) dX12_laysGame_78 rfl rfl ?_
          refine r_bipush (v := 9) (q := 81) dX12_laysGame_79 (by decide) rfl ?_
          refine r_idiv (q := 82) dX12_laysGame_81 (by decide) rfl ?_
          refine r_iload_n (q := 83) dX12_laysGame_82 rfl rfl ?_
          refine r_bipush (v := 9) (q := 85) dX12_laysGame_83 (by decide) rfl ?_
          refine r_irem (q := 86) dX12_laysGame_85 (by decide) rfl ?_
          refine r_iload_n (q := 87) dX12_laysGame_86 rfl rfl ?_
          refine r_iload_n (q := 88) dX12_laysGame_87 rfl rfl ?_
          obtain ⟨y14, e13, h⟩ := Option.bind_eq_some_iff.mp h
          refine r_callV_i (av := [(.inl (s.1 / 9)), (.inl (s.1 - s.1 / 9 * 9)), (.inl x1), (.inl x2)]) (st := []) (q := 91) (d1 := 1) kc_X12_431 sc_m_0 dX12_laysGame_88 rfl rfl (Nat.le_of_ble_eq_true rfl) (Nat.le_of_ble_eq_true rfl) (by omega) rfl rfl (t_X12_wins (d := 1) (by omega) (s.1 / 9) (s.1 - s.1 / 9 * 9) x1 x2 s.2 _ e13) ?_
          refine r_if_eq 101 (q := 94) dX12_laysGame_91 (by decide) rfl (fun c15 => ?_) (fun c15 => ?_)
          · rw [if_neg (mm_b0 c15)] at h
            exact t_X12_laysGame_j101l38 hd x1 x2 s.1 s.2 _ h kb ke
          · rw [if_pos (mm_b1 c15)] at h
            refine r_aload_n (q := 95) dX12_laysGame_94 rfl rfl ?_
            refine r_getr (b := 35) (q := 98) lk_X12_113 dX12_laysGame_95 sc_m_0 rfl rfl ?_
            refine r_iload_n (q := 99) dX12_laysGame_98 rfl rfl ?_
            refine r_iload_n (q := 100) dX12_laysGame_99 rfl rfl ?_
            obtain ⟨g16, h⟩ := mm_guard h
            refine r_iast (j := (Int32.toNatClampNeg s.1)) (q := 101) dX12_laysGame_100 sc_m_35 (mm_vp g16) rfl rfl ?_
            exact t_X12_laysGame_j101l38 hd x1 x2 s.1 (mm_U s.2 35 (Int32.toNatClampNeg s.1) x2) _ h kb ke
      · rw [if_neg c11] at h
        refine r_goto 130 dX12_laysGame_67 (by decide) ?_
        refine r_iinc (v := 1) (q := 133) (L' := [some (.inr 0), some (.inl x1), some (.inl x2), some (.inl (s.1 + 1))]) dX12_laysGame_130 (by decide) (by decide) rfl rfl rfl ?_
        refine r_goto 38 dX12_laysGame_133 (by decide) ?_
        cases h
        have hk := kb _ rfl
        exact hk
noncomputable def X12_laysGame_l30 (x1 : Int32) (s : (Int32 × mm_M)) : Option ((Int32 × mm_M) ⊕ mm_M) := if 92 ≤ s.1 then some (.inr s.2) else (mm_loop (X12_laysGame_l38 x1 s.1) mm_fuel (0, s.2)).bind fun y22 => some (.inl ((s.1 + 1), y22))
set_option maxRecDepth 100000 in
set_option maxHeartbeats 400000 in
theorem t_X12_laysGame_l30 {D : mm_D} {d : Nat} (hd : 2 ≤ d) {Z : Option Int32 → List mm_C → mm_M → Prop} (x1 : Int32) (n : Nat) (s : (Int32 × mm_M)) (r : mm_M) (h : mm_loop (X12_laysGame_l30 x1) n s = some r) (hx : Z none S_m r) : mm_Go jX12_laysGame D d 0 0 30 [some (.inr 0), some (.inl x1), some (.inl s.1), none] [] S_m s.2 Z := by
  refine mm_loop_go (step := X12_laysGame_l30 x1) (Hd := fun (s : (Int32 × mm_M)) => mm_Go jX12_laysGame D d 0 0 30 [some (.inr 0), some (.inl x1), some (.inl s.1), none] [] S_m s.2 Z) (Ex := fun (r : mm_M) => Z none S_m r) ?_ n s r h hx
  intro s o h kb ke
  show mm_Go jX12_laysGame D d 0 0 30 [some (.inr 0), some (.inl x1), some (.inl s.1), none] [] S_m s.2 Z
  unfold X12_laysGame_l30 at h
  refine r_iload_n (q := 31) dX12_laysGame_30 rfl rfl ?_
  refine r_bipush (v := 92) (q := 33) dX12_laysGame_31 (by decide) rfl ?_
  refine r_icmp_ge 142 (q := 36) dX12_laysGame_33 (by decide) rfl (fun c6 => ?_) (fun c6 => ?_)
  · rw [if_pos c6] at h
    cases h
    have hk := ke _ rfl
    exact r_retv dX12_laysGame_142 rfl hk
  · rw [if_neg c6] at h
    refine r_iconst (v := 0) (q := 37) dX12_laysGame_36 (by decide) rfl ?_
    refine r_istore_n (q := 38) (L' := [some (.inr 0), some (.inl x1), some (.inl s.1), some (.inl 0)]) dX12_laysGame_37 (by decide) rfl rfl ?_
    obtain ⟨y22, e23, h⟩ := Option.bind_eq_some_iff.mp h
    refine t_X12_laysGame_l38 hd x1 s.1 mm_fuel (0, s.2) _ e23 ?_
    show mm_Go jX12_laysGame _ _ _ _ 136 [some (.inr 0), some (.inl x1), some (.inl s.1), none] [] S_m y22 _
    refine r_iinc (v := 1) (q := 139) (L' := [some (.inr 0), some (.inl x1), some (.inl (s.1 + 1)), none]) dX12_laysGame_136 (by decide) (by decide) rfl rfl rfl ?_
    refine r_goto 30 dX12_laysGame_139 (by decide) ?_
    cases h
    have hk := kb _ rfl
    exact hk
noncomputable def X12_laysGame (x1 : Int32) (M : mm_M) : Option mm_M := (mm_loop (X12_laysGame_l2 x1) mm_fuel (0, M)).bind fun y4 => (mm_loop (X12_laysGame_l30 x1) mm_fuel (1, y4))
set_option maxRecDepth 100000 in
set_option maxHeartbeats 400000 in
theorem t_X12_laysGame {d : Nat} (hd : 2 ≤ d) (x1 : Int32) (M : mm_M) (res : mm_M) (h : X12_laysGame x1 M = some res) : mm_Meth jX12_laysGame d 0 0 [(.inr 0), (.inl x1)] S_m M (mm_Zv S_m res) := by
  refine r_meth (L := [some (.inr 0), some (.inl x1), none, none]) rfl (fun D => ?_)
  unfold X12_laysGame at h
  refine r_iconst (v := 0) (q := 1) dX12_laysGame_0 (by decide) rfl ?_
  refine r_istore_n (q := 2) (L' := [some (.inr 0), some (.inl x1), some (.inl 0), none]) dX12_laysGame_1 (by decide) rfl rfl ?_
  obtain ⟨y4, e5, h⟩ := Option.bind_eq_some_iff.mp h
  refine t_X12_laysGame_l2 hd x1 mm_fuel (0, M) _ e5 ?_
  show mm_Go jX12_laysGame _ _ _ _ 28 [some (.inr 0), some (.inl x1), none, none] [] S_m y4 _
  refine r_iconst (v := 1) (q := 29) dX12_laysGame_28 (by decide) rfl ?_
  refine r_istore_n (q := 30) (L' := [some (.inr 0), some (.inl x1), some (.inl 1), none]) dX12_laysGame_29 (by decide) rfl rfl ?_
  exact t_X12_laysGame_l30 hd x1 mm_fuel (1, y4) _ h mm_Zv_rfl
noncomputable def X12_inspectors (x1 : Int32) (x2 : Int32) (x3 : Int32) (M : mm_M) : Option (Int32 × mm_M) := if (X12_isState x1 M) = true then if (X12_in x2 0 9) = true then if (X12_in x3 0 1) = true then (X12_laysGame x2 M).bind fun y5 => if x3 = 1 then if mm_in (X12_at x1 8) 90 = true then if mm_in (X12_at x1 8) 90 = true then some (((y5 35 (Int32.toNatClampNeg (X12_at x1 8))) + (y5 36 (Int32.toNatClampNeg (X12_at x1 8)))), y5) else none else none else if mm_in (X12_at x1 8) 90 = true then if (y5 35 (Int32.toNatClampNeg (X12_at x1 8))) = 0 then if mm_in (X12_at x1 8) 90 = true then if (y5 36 (Int32.toNatClampNeg (X12_at x1 8))) = 0 then some (0, y5) else some (2, y5) else none else some (1, y5) else none else some ((-1), M) else some ((-1), M) else some ((-1), M)
set_option maxRecDepth 100000 in
set_option maxHeartbeats 400000 in
theorem t_X12_inspectors {d : Nat} (hd : 3 ≤ d) (x1 : Int32) (x2 : Int32) (x3 : Int32) (M : mm_M) (res : (Int32 × mm_M)) (h : X12_inspectors x1 x2 x3 M = some res) : mm_Meth jX12_inspectors d 0 0 [(.inr 0), (.inl x1), (.inl x2), (.inl x3)] S_m M (mm_Zi res.1 S_m res.2) := by
  refine r_meth (L := [some (.inr 0), some (.inl x1), some (.inl x2), some (.inl x3), none]) rfl (fun D => ?_)
  unfold X12_inspectors at h
  refine r_aload_n (q := 1) dX12_inspectors_0 rfl rfl ?_
  refine r_iload_n (q := 2) dX12_inspectors_1 rfl rfl ?_
  refine r_callV_i (av := [(.inl x1)]) (st := []) (q := 5) (d1 := 1) kc_X12_131 sc_m_0 dX12_inspectors_2 rfl rfl (Nat.le_of_ble_eq_true rfl) (Nat.le_of_ble_eq_true rfl) (by omega) rfl rfl (t_X12_isState (d := 1) (by omega) x1 M _ rfl) ?_
  refine r_if_eq 27 (q := 8) dX12_inspectors_5 (by decide) rfl (fun c1 => ?_) (fun c1 => ?_)
  · rw [if_neg (mm_b0 c1)] at h
    refine r_iconst (v := (-1)) (q := 28) dX12_inspectors_27 (by decide) rfl ?_
    cases h
    exact r_ret dX12_inspectors_28 rfl mm_Zi_rfl
  · rw [if_pos (mm_b1 c1)] at h
    refine r_iload_n (q := 9) dX12_inspectors_8 rfl rfl ?_
    refine r_iconst (v := 0) (q := 10) dX12_inspectors_9 (by decide) rfl ?_
    refine r_bipush (v := 9) (q := 12) dX12_inspectors_10 (by decide) rfl ?_
    refine r_callS_i (av := [(.inl x2), (.inl 0), (.inl 9)]) (st := []) (q := 15) (d1 := 0) kc_X12_127 dX12_inspectors_12 rfl rfl (Nat.le_of_ble_eq_true rfl) (Nat.le_of_ble_eq_true rfl) (by omega) rfl rfl (t_X12_in (d := 0) (by omega) x2 0 9 M _ rfl) ?_
    refine r_if_eq 27 (q := 18) dX12_inspectors_15 (by decide) rfl (fun c2 => ?_) (fun c2 => ?_)
    · rw [if_neg (mm_b0 c2)] at h
      refine r_iconst (v := (-1)) (q := 28) dX12_inspectors_27 (by decide) rfl ?_
      cases h
      exact r_ret dX12_inspectors_28 rfl mm_Zi_rfl
    · rw [if_pos (mm_b1 c2)] at h
      refine r_iload_n (q := 19) dX12_inspectors_18 rfl rfl ?_
      refine r_iconst (v := 0) (q := 20) dX12_inspectors_19 (by decide) rfl ?_
      refine r_iconst (v := 1) (q := 21) dX12_inspectors_20 (by decide) rfl ?_
      refine r_callS_i (av := [(.inl x3), (.inl 0), (.inl 1)]) (st := []) (q := 24) (d1 := 0) kc_X12_127 dX12_inspectors_21 rfl rfl (Nat.le_of_ble_eq_true rfl) (Nat.le_of_ble_eq_true rfl) (by omega) rfl rfl (t_X12_in (d := 0) (by omega) x3 0 1 M _ rfl) ?_
      refine r_if_ne 29 (q := 27) dX12_inspectors_24 (by decide) rfl (fun c3 => ?_) (fun c3 => ?_)
      · rw [if_pos (mm_b1 c3)] at h
        refine r_aload_n (q := 30) dX12_inspectors_29 rfl rfl ?_
        refine r_iload_n (q := 31) dX12_inspectors_30 rfl rfl ?_
        obtain ⟨y5, e4, h⟩ := Option.bind_eq_some_iff.mp h
        refine r_callV_v (av := [(.inl x2)]) (st := []) (q := 34) (d1 := 2) kc_X12_438 sc_m_0 dX12_inspectors_31 rfl rfl (Nat.le_of_ble_eq_true rfl) (Nat.le_of_ble_eq_true rfl) (by omega) rfl rfl (t_X12_laysGame (d := 2) (by omega) x2 M _ e4) ?_
        refine r_iload_n (q := 35) dX12_inspectors_34 rfl rfl ?_
        refine r_bipush (v := 8) (q := 37) dX12_inspectors_35 (by decide) rfl ?_
        refine r_callS_i (av := [(.inl x1), (.inl 8)]) (st := []) (q := 40) (d1 := 0) kc_X12_428 dX12_inspectors_37 rfl rfl (Nat.le_of_ble_eq_true rfl) (Nat.le_of_ble_eq_true rfl) (by omega) rfl rfl (t_X12_at (d := 0) (by omega) x1 8 y5 _ rfl) ?_
        refine r_istore (q := 42) (L' := [some (.inr 0), some (.inl x1), some (.inl x2), some (.inl x3), some (.inl (X12_at x1 8))]) dX12_inspectors_40 (by decide) rfl rfl ?_
        refine r_iload_n (q := 43) dX12_inspectors_42 rfl rfl ?_
        refine r_iconst (v := 1) (q := 44) dX12_inspectors_43 (by decide) rfl ?_
        refine r_icmp_ne 63 (q := 47) dX12_inspectors_44 (by decide) rfl (fun c6 => ?_) (fun c6 => ?_)
        · rw [if_neg c6] at h
          refine r_aload_n (q := 64) dX12_inspectors_63 rfl rfl ?_
          refine r_getr (b := 35) (q := 67) lk_X12_113 dX12_inspectors_64 sc_m_0 rfl rfl ?_
          refine r_iload (q := 69) dX12_inspectors_67 rfl rfl ?_
          obtain ⟨g9, h⟩ := mm_guard h
          refine r_iald (v := (y5 35 (Int32.toNatClampNeg (X12_at x1 8)))) (q := 70) dX12_inspectors_69 sc_m_35 (mm_vp g9) rfl rfl ?_
          refine r_if_eq 77 (q := 73) dX12_inspectors_70 (by decide) rfl (fun c10 => ?_) (fun c10 => ?_)
          · rw [if_pos c10] at h
            refine r_aload_n (q := 78) dX12_inspectors_77 rfl rfl ?_
            refine r_getr (b := 36) (q := 81) lk_X12_116 dX12_inspectors_78 sc_m_0 rfl rfl ?_
            refine r_iload (q := 83) dX12_inspectors_81 rfl rfl ?_
            obtain ⟨g11, h⟩ := mm_guard h
            refine r_iald (v := (y5 36 (Int32.toNatClampNeg (X12_at x1 8)))) (q := 84) dX12_inspectors_83 sc_m_36 (mm_vp g11) rfl rfl ?_
            refine r_if_eq 91 (q := 87) dX12_inspectors_84 (by decide) rfl (fun c12 => ?_) (fun c12 => ?_)
            · rw [if_pos c12] at h
              refine r_iconst (v := 0) (q := 92) dX12_inspectors_91 (by decide) rfl ?_
              cases h
              exact r_ret dX12_inspectors_92 rfl mm_Zi_rfl
            · rw [if_neg c12] at h
              refine r_iconst (v := 2) (q := 88) dX12_inspectors_87 (by decide) rfl ?_
              refine r_goto 92 dX12_inspectors_88 (by decide) ?_
              cases h
              exact r_ret dX12_inspectors_92 rfl mm_Zi_rfl
          · rw [if_neg c10] at h
            refine r_iconst (v := 1) (q := 74) dX12_inspectors_73 (by decide) rfl ?_
            refine r_goto 92 dX12_inspectors_74 (by decide) ?_
            cases h
            exact r_ret dX12_inspectors_92 rfl mm_Zi_rfl
        · rw [if_pos c6] at h
          refine r_aload_n (q := 48) dX12_inspectors_47 rfl rfl ?_
          refine r_getr (b := 35) (q := 51) lk_X12_113 dX12_inspectors_48 sc_m_0 rfl rfl ?_
          refine r_iload (q := 53) dX12_inspectors_51 rfl rfl ?_
          obtain ⟨g7, h⟩ := mm_guard h
          refine r_iald (v := (y5 35 (Int32.toNatClampNeg (X12_at x1 8)))) (q := 54) dX12_inspectors_53 sc_m_35 (mm_vp g7) rfl rfl ?_
          refine r_aload_n (q := 55) dX12_inspectors_54 rfl rfl ?_
          refine r_getr (b := 36) (q := 58) lk_X12_116 dX12_inspectors_55 sc_m_0 rfl rfl ?_
          refine r_iload (q := 60) dX12_inspectors_58 rfl rfl ?_
          obtain ⟨g8, h⟩ := mm_guard h
          refine r_iald (v := (y5 36 (Int32.toNatClampNeg (X12_at x1 8)))) (q := 61) dX12_inspectors_60 sc_m_36 (mm_vp g8) rfl rfl ?_
          refine r_iadd (q := 62) dX12_inspectors_61 rfl ?_
          cases h
          exact r_ret dX12_inspectors_62 rfl mm_Zi_rfl
      · rw [if_neg (mm_b0 c3)] at h
        refine r_iconst (v := (-1)) (q := 28) dX12_inspectors_27 (by decide) rfl ?_
        cases h
        exact r_ret dX12_inspectors_28 rfl mm_Zi_rfl
noncomputable def X12_together_j88 (x5 : Bool) (z0 : Bool) (M : mm_M) : Option Int32 := if x5 = true then some ((mm_b z0) + 2) else some ((mm_b z0) + 0)
set_option maxRecDepth 100000 in
set_option maxHeartbeats 400000 in
theorem t_X12_together_j88 {D : mm_D} {d : Nat} (hd : 2 ≤ d) (x5 : Bool) (z0 : Bool) (M : mm_M) (res : Int32) (h : X12_together_j88 x5 z0 M = some res) : mm_Go jX12_together D d 0 0 88 [none, none, none, none, none, some (.inl (mm_b x5))] [(.inl (mm_b z0))] S_m M (mm_Zi res S_m M) := by
  unfold X12_together_j88 at h
  refine r_iload (q := 90) dX12_together_88 rfl rfl ?_
  refine r_if_eq 97 (q := 93) dX12_together_90 (by decide) rfl (fun c19 => ?_) (fun c19 => ?_)
  · rw [if_neg (mm_b0 c19)] at h
    refine r_iconst (v := 0) (q := 98) dX12_together_97 (by decide) rfl ?_
    refine r_iadd (q := 99) dX12_together_98 rfl ?_
    cases h
    exact r_ret dX12_together_99 rfl mm_Zi_rfl
  · rw [if_pos (mm_b1 c19)] at h
    refine r_iconst (v := 2) (q := 94) dX12_together_93 (by decide) rfl ?_
    refine r_goto 98 dX12_together_94 (by decide) ?_
    refine r_iadd (q := 99) dX12_together_98 rfl ?_
    cases h
    exact r_ret dX12_together_99 rfl mm_Zi_rfl
noncomputable def X12_together_j76 (x4 : Bool) (z0 : Bool) (M : mm_M) : Option Int32 := if x4 = true then X12_together_j88 z0 true M else X12_together_j88 z0 false M
set_option maxRecDepth 100000 in
set_option maxHeartbeats 400000 in
theorem t_X12_together_j76 {D : mm_D} {d : Nat} (hd : 2 ≤ d) (x4 : Bool) (z0 : Bool) (M : mm_M) (res : Int32) (h : X12_together_j76 x4 z0 M = some res) : mm_Go jX12_together D d 0 0 76 [none, none, none, none, some (.inl (mm_b x4)), none] [(.inl (mm_b z0))] S_m M (mm_Zi res S_m M) := by
  unfold X12_together_j76 at h
  refine r_istore (q := 78) (L' := [none, none, none, none, some (.inl (mm_b x4)), some (.inl (mm_b z0))]) dX12_together_76 (by decide) rfl rfl ?_
  refine r_iload (q := 80) dX12_together_78 rfl rfl ?_
  refine r_if_eq 87 (q := 83) dX12_together_80 (by decide) rfl (fun c18 => ?_) (fun c18 => ?_)
  · rw [if_neg (mm_b0 c18)] at h
    refine r_iconst (v := 0) (q := 88) dX12_together_87 (by decide) rfl ?_
    refine r_forget (L' := [none, none, none, none, none, some (.inl (mm_b z0))]) [false, false, false, false, false, true] rfl ?_
    exact t_X12_together_j88 hd z0 false M _ h
  · rw [if_pos (mm_b1 c18)] at h
    refine r_iconst (v := 1) (q := 84) dX12_together_83 (by decide) rfl ?_
    refine r_goto 88 dX12_together_84 (by decide) ?_
    refine r_forget (L' := [none, none, none, none, none, some (.inl (mm_b z0))]) [false, false, false, false, false, true] rfl ?_
    exact t_X12_together_j88 hd z0 true M _ h
noncomputable def X12_together_j49 (x1 : Int32) (x2 : Int32) (x3 : Int32) (z0 : Bool) (M : mm_M) : Option Int32 := (X12_behind x2 x3 M).bind fun y12 => (X12_answer x1 y12 M).bind fun y14 => (X12_answer x1 x3 M).bind fun y16 => if y14 = y16 then X12_together_j76 z0 true M else X12_together_j76 z0 false M
set_option maxRecDepth 100000 in
set_option maxHeartbeats 400000 in
theorem t_X12_together_j49 {D : mm_D} {d : Nat} (hd : 2 ≤ d) (x1 : Int32) (x2 : Int32) (x3 : Int32) (z0 : Bool) (M : mm_M) (res : Int32) (h : X12_together_j49 x1 x2 x3 z0 M = some res) : mm_Go jX12_together D d 0 0 49 [some (.inr 0), some (.inl x1), some (.inl x2), some (.inl x3), none, none] [(.inl (mm_b z0))] S_m M (mm_Zi res S_m M) := by
  unfold X12_together_j49 at h
  refine r_istore (q := 51) (L' := [some (.inr 0), some (.inl x1), some (.inl x2), some (.inl x3), some (.inl (mm_b z0)), none]) dX12_together_49 (by decide) rfl rfl ?_
  refine r_aload_n (q := 52) dX12_together_51 rfl rfl ?_
  refine r_iload_n (q := 53) dX12_together_52 rfl rfl ?_
  refine r_aload_n (q := 54) dX12_together_53 rfl rfl ?_
  refine r_iload_n (q := 55) dX12_together_54 rfl rfl ?_
  refine r_iload_n (q := 56) dX12_together_55 rfl rfl ?_
  obtain ⟨y12, e11, h⟩ := Option.bind_eq_some_iff.mp h
  refine r_callV_i (av := [(.inl x2), (.inl x3)]) (st := [(.inl x1), (.inr 0)]) (q := 59) (d1 := 0) kc_X12_306 sc_m_0 dX12_together_56 rfl rfl (Nat.le_of_ble_eq_true rfl) (Nat.le_of_ble_eq_true rfl) (by omega) rfl rfl (t_X12_behind (d := 0) (by omega) x2 x3 M _ e11) ?_
  obtain ⟨y14, e13, h⟩ := Option.bind_eq_some_iff.mp h
  refine r_callV_i (av := [(.inl x1), (.inl y12)]) (st := []) (q := 62) (d1 := 0) kc_X12_299 sc_m_0 dX12_together_59 rfl rfl (Nat.le_of_ble_eq_true rfl) (Nat.le_of_ble_eq_true rfl) (by omega) rfl rfl (t_X12_answer (d := 0) (by omega) x1 y12 M _ e13) ?_
  refine r_aload_n (q := 63) dX12_together_62 rfl rfl ?_
  refine r_iload_n (q := 64) dX12_together_63 rfl rfl ?_
  refine r_iload_n (q := 65) dX12_together_64 rfl rfl ?_
  obtain ⟨y16, e15, h⟩ := Option.bind_eq_some_iff.mp h
  refine r_callV_i (av := [(.inl x1), (.inl x3)]) (st := [(.inl y14)]) (q := 68) (d1 := 0) kc_X12_299 sc_m_0 dX12_together_65 rfl rfl (Nat.le_of_ble_eq_true rfl) (Nat.le_of_ble_eq_true rfl) (by omega) rfl rfl (t_X12_answer (d := 0) (by omega) x1 x3 M _ e15) ?_
  refine r_icmp_ne 75 (q := 71) dX12_together_68 (by decide) rfl (fun c17 => ?_) (fun c17 => ?_)
  · rw [if_neg c17] at h
    refine r_iconst (v := 0) (q := 76) dX12_together_75 (by decide) rfl ?_
    refine r_forget (L' := [none, none, none, none, some (.inl (mm_b z0)), none]) [false, false, false, false, true, false] rfl ?_
    exact t_X12_together_j76 hd z0 false M _ h
  · rw [if_pos c17] at h
    refine r_iconst (v := 1) (q := 72) dX12_together_71 (by decide) rfl ?_
    refine r_goto 76 dX12_together_72 (by decide) ?_
    refine r_forget (L' := [none, none, none, none, some (.inl (mm_b z0)), none]) [false, false, false, false, true, false] rfl ?_
    exact t_X12_together_j76 hd z0 true M _ h
noncomputable def X12_together (x1 : Int32) (x2 : Int32) (x3 : Int32) (M : mm_M) : Option Int32 := if (X12_isQuestion x1) = true then if (X12_isQuestion x2) = true then if (X12_isState x3 M) = true then (X12_behind x1 x3 M).bind fun y5 => (X12_answer x2 y5 M).bind fun y7 => (X12_answer x2 x3 M).bind fun y9 => if y7 = y9 then X12_together_j49 x1 x2 x3 true M else X12_together_j49 x1 x2 x3 false M else some (-1) else some (-1) else some (-1)
set_option maxRecDepth 100000 in
set_option maxHeartbeats 400000 in
theorem t_X12_together {d : Nat} (hd : 2 ≤ d) (x1 : Int32) (x2 : Int32) (x3 : Int32) (M : mm_M) (res : Int32) (h : X12_together x1 x2 x3 M = some res) : mm_Meth jX12_together d 0 0 [(.inr 0), (.inl x1), (.inl x2), (.inl x3)] S_m M (mm_Zi res S_m M) := by
  refine r_meth (L := [some (.inr 0), some (.inl x1), some (.inl x2), some (.inl x3), none, none]) rfl (fun D => ?_)
  unfold X12_together at h
  refine r_iload_n (q := 1) dX12_together_0 rfl rfl ?_
  refine r_callS_i (av := [(.inl x1)]) (st := []) (q := 4) (d1 := 1) kc_X12_135 dX12_together_1 rfl rfl (Nat.le_of_ble_eq_true rfl) (Nat.le_of_ble_eq_true rfl) (by omega) rfl rfl (t_X12_isQuestion (d := 1) (by omega) x1 M _ rfl) ?_
  refine r_if_eq 22 (q := 7) dX12_together_4 (by decide) rfl (fun c1 => ?_) (fun c1 => ?_)
  · rw [if_neg (mm_b0 c1)] at h
    refine r_iconst (v := (-1)) (q := 23) dX12_together_22 (by decide) rfl ?_
    cases h
    exact r_ret dX12_together_23 rfl mm_Zi_rfl
  · rw [if_pos (mm_b1 c1)] at h
    refine r_iload_n (q := 8) dX12_together_7 rfl rfl ?_
    refine r_callS_i (av := [(.inl x2)]) (st := []) (q := 11) (d1 := 1) kc_X12_135 dX12_together_8 rfl rfl (Nat.le_of_ble_eq_true rfl) (Nat.le_of_ble_eq_true rfl) (by omega) rfl rfl (t_X12_isQuestion (d := 1) (by omega) x2 M _ rfl) ?_
    refine r_if_eq 22 (q := 14) dX12_together_11 (by decide) rfl (fun c2 => ?_) (fun c2 => ?_)
    · rw [if_neg (mm_b0 c2)] at h
      refine r_iconst (v := (-1)) (q := 23) dX12_together_22 (by decide) rfl ?_
      cases h
      exact r_ret dX12_together_23 rfl mm_Zi_rfl
    · rw [if_pos (mm_b1 c2)] at h
      refine r_aload_n (q := 15) dX12_together_14 rfl rfl ?_
      refine r_iload_n (q := 16) dX12_together_15 rfl rfl ?_
      refine r_callV_i (av := [(.inl x3)]) (st := []) (q := 19) (d1 := 1) kc_X12_131 sc_m_0 dX12_together_16 rfl rfl (Nat.le_of_ble_eq_true rfl) (Nat.le_of_ble_eq_true rfl) (by omega) rfl rfl (t_X12_isState (d := 1) (by omega) x3 M _ rfl) ?_
      refine r_if_ne 24 (q := 22) dX12_together_19 (by decide) rfl (fun c3 => ?_) (fun c3 => ?_)
      · rw [if_pos (mm_b1 c3)] at h
        refine r_aload_n (q := 25) dX12_together_24 rfl rfl ?_
        refine r_iload_n (q := 26) dX12_together_25 rfl rfl ?_
        refine r_aload_n (q := 27) dX12_together_26 rfl rfl ?_
        refine r_iload_n (q := 28) dX12_together_27 rfl rfl ?_
        refine r_iload_n (q := 29) dX12_together_28 rfl rfl ?_
        obtain ⟨y5, e4, h⟩ := Option.bind_eq_some_iff.mp h
        refine r_callV_i (av := [(.inl x1), (.inl x3)]) (st := [(.inl x2), (.inr 0)]) (q := 32) (d1 := 0) kc_X12_306 sc_m_0 dX12_together_29 rfl rfl (Nat.le_of_ble_eq_true rfl) (Nat.le_of_ble_eq_true rfl) (by omega) rfl rfl (t_X12_behind (d := 0) (by omega) x1 x3 M _ e4) ?_
        obtain ⟨y7, e6, h⟩ := Option.bind_eq_some_iff.mp h
        refine r_callV_i (av := [(.inl x2), (.inl y5)]) (st := []) (q := 35) (d1 := 0) kc_X12_299 sc_m_0 dX12_together_32 rfl rfl (Nat.le_of_ble_eq_true rfl) (Nat.le_of_ble_eq_true rfl) (by omega) rfl rfl (t_X12_answer (d := 0) (by omega) x2 y5 M _ e6) ?_
        refine r_aload_n (q := 36) dX12_together_35 rfl rfl ?_
        refine r_iload_n (q := 37) dX12_together_36 rfl rfl ?_
        refine r_iload_n (q := 38) dX12_together_37 rfl rfl ?_
        obtain ⟨y9, e8, h⟩ := Option.bind_eq_some_iff.mp h
        refine r_callV_i (av := [(.inl x2), (.inl x3)]) (st := [(.inl y7)]) (q := 41) (d1 := 0) kc_X12_299 sc_m_0 dX12_together_38 rfl rfl (Nat.le_of_ble_eq_true rfl) (Nat.le_of_ble_eq_true rfl) (by omega) rfl rfl (t_X12_answer (d := 0) (by omega) x2 x3 M _ e8) ?_
        refine r_icmp_ne 48 (q := 44) dX12_together_41 (by decide) rfl (fun c10 => ?_) (fun c10 => ?_)
        · rw [if_neg c10] at h
          refine r_iconst (v := 0) (q := 49) dX12_together_48 (by decide) rfl ?_
          exact t_X12_together_j49 hd x1 x2 x3 false M _ h
        · rw [if_pos c10] at h
          refine r_iconst (v := 1) (q := 45) dX12_together_44 (by decide) rfl ?_
          refine r_goto 49 dX12_together_45 (by decide) ?_
          exact t_X12_together_j49 hd x1 x2 x3 true M _ h
      · rw [if_neg (mm_b0 c3)] at h
        refine r_iconst (v := (-1)) (q := 23) dX12_together_22 (by decide) rfl ?_
        cases h
        exact r_ret dX12_together_23 rfl mm_Zi_rfl
