noncomputable def X12_min (x0 : Int32) (x1 : Int32) : Int32 := if x1 ≤ x0 then x1 else x0
set_option maxRecDepth 100000 in
set_option maxHeartbeats 400000 in
theorem t_X12_min {d : Nat} (hd : 0 ≤ d) (x0 : Int32) (x1 : Int32) (M : mm_M) (res : Int32) (h : X12_min x0 x1 = res) : mm_Meth jX12_min d 0 0 [(.inl x0), (.inl x1)] S_m M (mm_Zi res S_m M) := by
  refine r_meth (L := [some (.inl x0), some (.inl x1)]) rfl (fun D => ?_)
  unfold X12_min at h
  refine r_iload_n (q := 1) dX12_min_0 rfl rfl ?_
  refine r_iload_n (q := 2) dX12_min_1 rfl rfl ?_
  refine r_icmp_ge 9 (q := 5) dX12_min_2 (by decide) rfl (fun c1 => ?_) (fun c1 => ?_)
  · rw [if_pos c1] at h
    refine r_iload_n (q := 10) dX12_min_9 rfl rfl ?_
    subst h
    exact r_ret dX12_min_10 rfl mm_Zi_rfl
  · rw [if_neg c1] at h
    refine r_iload_n (q := 6) dX12_min_5 rfl rfl ?_
    refine r_goto 10 dX12_min_6 (by decide) ?_
    subst h
    exact r_ret dX12_min_10 rfl mm_Zi_rfl
noncomputable def X12_behind (x1 : Int32) (x2 : Int32) (M : mm_M) : Option Int32 := if mm_in (((10 : Int32) * x1) + x2) 80 = true then some (M 6 (Int32.toNatClampNeg (((10 : Int32) * x1) + x2))) else none
set_option maxRecDepth 100000 in
set_option maxHeartbeats 400000 in
theorem t_X12_behind {d : Nat} (hd : 0 ≤ d) (x1 : Int32) (x2 : Int32) (M : mm_M) (res : Int32) (h : X12_behind x1 x2 M = some res) : mm_Meth jX12_behind d 0 0 [(.inr 0), (.inl x1), (.inl x2)] S_m M (mm_Zi res S_m M) := by
  refine r_meth (L := [some (.inr 0), some (.inl x1), some (.inl x2)]) rfl (fun D => ?_)
  unfold X12_behind at h
  refine r_aload_n (q := 1) dX12_behind_0 rfl rfl ?_
  refine r_getr (b := 6) (q := 4) lk_X12_25 dX12_behind_1 sc_m_0 rfl rfl ?_
  refine r_bipush (v := 10) (q := 6) dX12_behind_4 (by decide) rfl ?_
  refine r_iload_n (q := 7) dX12_behind_6 rfl rfl ?_
  refine r_imul (q := 8) dX12_behind_7 rfl ?_
  refine r_iload_n (q := 9) dX12_behind_8 rfl rfl ?_
  refine r_iadd (q := 10) dX12_behind_9 rfl ?_
  obtain ⟨g1, h⟩ := mm_guard h
  refine r_iald (v := (M 6 (Int32.toNatClampNeg (((10 : Int32) * x1) + x2)))) (q := 11) dX12_behind_10 sc_m_6 (mm_vp g1) rfl rfl ?_
  cases h
  exact r_ret dX12_behind_11 rfl mm_Zi_rfl
noncomputable def X12_asks (x1 : Int32) (M : mm_M) : Option mm_M := (X12_answer x1 (M 1 0) M).bind fun y2 => (X12_behind x1 (M 1 0) (mm_U (mm_U (mm_U (mm_U M 1 4 (X12_min 9999 ((M 1 4) + 1))) 1 5 (X12_min 99999 ((M 1 5) + y2))) 1 1 y2) 1 2 x1)).bind fun y4 => some (mm_U (mm_U (mm_U (mm_U (mm_U (mm_U M 1 4 (X12_min 9999 ((M 1 4) + 1))) 1 5 (X12_min 99999 ((M 1 5) + y2))) 1 1 y2) 1 2 x1) 1 0 y4) 0 45 ((M 0 45) + y2))
set_option maxRecDepth 100000 in
set_option maxHeartbeats 400000 in
theorem t_X12_asks {d : Nat} (hd : 1 ≤ d) (x1 : Int32) (M : mm_M) (res : mm_M) (h : X12_asks x1 M = some res) : mm_Meth jX12_asks d 0 0 [(.inr 0), (.inl x1)] S_m M (mm_Zv S_m res) := by
  refine r_meth (L := [some (.inr 0), some (.inl x1), none]) rfl (fun D => ?_)
  unfold X12_asks at h
  refine r_aload_n (q := 1) dX12_asks_0 rfl rfl ?_
  refine r_iload_n (q := 2) dX12_asks_1 rfl rfl ?_
  refine r_aload_n (q := 3) dX12_asks_2 rfl rfl ?_
  refine r_getr (b := 1) (q := 6) lk_X12_7 dX12_asks_3 sc_m_0 rfl rfl ?_
  refine r_iconst (v := 0) (q := 7) dX12_asks_6 (by decide) rfl ?_
  refine r_iald (v := (M 1 0)) (q := 8) dX12_asks_7 sc_m_1 (mm_vp (by decide)) rfl rfl ?_
  obtain ⟨y2, e1, h⟩ := Option.bind_eq_some_iff.mp h
  refine r_callV_i (av := [(.inl x1), (.inl (M 1 0))]) (st := []) (q := 11) (d1 := 0) kc_X12_299 sc_m_0 dX12_asks_8 rfl rfl (Nat.le_of_ble_eq_true rfl) (Nat.le_of_ble_eq_true rfl) (by omega) rfl rfl (t_X12_answer (d := 0) (by omega) x1 (M 1 0) M _ e1) ?_
  refine r_istore_n (q := 12) (L' := [some (.inr 0), some (.inl x1), some (.inl y2)]) dX12_asks_11 (by decide) rfl rfl ?_
  refine r_aload_n (q := 13) dX12_asks_12 rfl rfl ?_
  refine r_getr (b := 1) (q := 16) lk_X12_7 dX12_asks_13 sc_m_0 rfl rfl ?_
  refine r_iconst (v := 4) (q := 17) dX12_asks_16 (by decide) rfl ?_
  refine r_sipush (v := 9999) (q := 20) dX12_asks_17 (by decide) rfl ?_
  refine r_aload_n (q := 21) dX12_asks_20 rfl rfl ?_
  refine r_getr (b := 1) (q := 24) lk_X12_7 dX12_asks_21 sc_m_0 rfl rfl ?_
  refine r_iconst (v := 4) (q := 25) dX12_asks_24 (by decide) rfl ?_
  refine r_iald (v := (M 1 4)) (q := 26) dX12_asks_25 sc_m_1 (mm_vp (by decide)) rfl rfl ?_
  refine r_iconst (v := 1) (q := 27) dX12_asks_26 (by decide) rfl ?_
  refine r_iadd (q := 28) dX12_asks_27 rfl ?_
  refine r_callS_i (av := [(.inl 9999), (.inl ((M 1 4) + 1))]) (st := [(.inl 4), (.inr 1)]) (q := 31) (d1 := 0) kc_X12_302 dX12_asks_28 rfl rfl (Nat.le_of_ble_eq_true rfl) (Nat.le_of_ble_eq_true rfl) (by omega) rfl rfl (t_X12_min (d := 0) (by omega) 9999 ((M 1 4) + 1) M _ rfl) ?_
  refine r_iast (j := 4) (q := 32) dX12_asks_31 sc_m_1 (mm_vp (by decide)) rfl rfl ?_
  refine r_aload_n (q := 33) dX12_asks_32 rfl rfl ?_
  refine r_getr (b := 1) (q := 36) lk_X12_7 dX12_asks_33 sc_m_0 rfl rfl ?_
  refine r_iconst (v := 5) (q := 37) dX12_asks_36 (by decide) rfl ?_
  refine r_ldcw (v := 99999) (q := 40) dX12_asks_37 ko_X12_305 rfl ?_
  refine r_aload_n (q := 41) dX12_asks_40 rfl rfl ?_
  refine r_getr (b := 1) (q := 44) lk_X12_7 dX12_asks_41 sc_m_0 rfl rfl ?_
  refine r_iconst (v := 5) (q := 45) dX12_asks_44 (by decide) rfl ?_
  refine r_iald (v := (M 1 5)) (q := 46) dX12_asks_45 sc_m_1 (mm_vp (by decide)) rfl rfl ?_
  refine r_iload_n (q := 47) dX12_asks_46 rfl rfl ?_
  refine r_iadd (q := 48) dX12_asks_47 rfl ?_
  refine r_callS_i (av := [(.inl 99999), (.inl ((M 1 5) + y2))]) (st := [(.inl 5), (.inr 1)]) (q := 51) (d1 := 0) kc_X12_302 dX12_asks_48 rfl rfl (Nat.le_of_ble_eq_true rfl) (Nat.le_of_ble_eq_true rfl) (by omega) rfl rfl (t_X12_min (d := 0) (by omega) 99999 ((M 1 5) + y2) (mm_U M 1 4 (X12_min 9999 ((M 1 4) + 1))) _ rfl) ?_
  refine r_iast (j := 5) (q := 52) dX12_asks_51 sc_m_1 (mm_vp (by decide)) rfl rfl ?_
  refine r_aload_n (q := 53) dX12_asks_52 rfl rfl ?_
  refine r_getr (b := 1) (q := 56) lk_X12_7 dX12_asks_53 sc_m_0 rfl rfl ?_
  refine r_iconst (v := 1) (q := 57) dX12_asks_56 (by decide) rfl ?_
  refine r_iload_n (q := 58) dX12_asks_57 rfl rfl ?_
  refine r_iast (j := 1) (q := 59) dX12_asks_58 sc_m_1 (mm_vp (by decide)) rfl rfl ?_
  refine r_aload_n (q := 60) dX12_asks_59 rfl rfl ?_
  refine r_getr (b := 1) (q := 63) lk_X12_7 dX12_asks_60 sc_m_0 rfl rfl ?_
  refine r_iconst (v := 2) (q := 64) dX12_asks_63 (by decide) rfl ?_
  refine r_iload_n (q := 65) dX12_asks_64 rfl rfl ?_
  refine r_iast (j := 2) (q := 66) dX12_asks_65 sc_m_1 (mm_vp (by decide)) rfl rfl ?_
  refine r_aload_n (q := 67) dX12_asks_66 rfl rfl ?_
  refine r_getr (b := 1) (q := 70) lk_X12_7 dX12_asks_67 sc_m_0 rfl rfl ?_
  refine r_iconst (v := 0) (q := 71) dX12_asks_70 (by decide) rfl ?_
  refine r_aload_n (q := 72) dX12_asks_71 rfl rfl ?_
  refine r_iload_n (q := 73) dX12_asks_72 rfl rfl ?_
  refine r_aload_n (q := 74) dX12_asks_73 rfl rfl ?_
  refine r_getr (b := 1) (q := 77) lk_X12_7 dX12_asks_74 sc_m_0 rfl rfl ?_
  refine r_iconst (v := 0) (q := 78) dX12_asks_77 (by decide) rfl ?_
  refine r_iald (v := (M 1 0)) (q := 79) dX12_asks_78 sc_m_1 (mm_vp (by decide)) rfl rfl ?_
  obtain ⟨y4, e3, h⟩ := Option.bind_eq_some_iff.mp h
  refine r_callV_i (av := [(.inl x1), (.inl (M 1 0))]) (st := [(.inl 0), (.inr 1)]) (q := 82) (d1 := 0) kc_X12_306 sc_m_0 dX12_asks_79 rfl rfl (Nat.le_of_ble_eq_true rfl) (Nat.le_of_ble_eq_true rfl) (by omega) rfl rfl (t_X12_behind (d := 0) (by omega) x1 (M 1 0) (mm_U (mm_U (mm_U (mm_U M 1 4 (X12_min 9999 ((M 1 4) + 1))) 1 5 (X12_min 99999 ((M 1 5) + y2))) 1 1 y2) 1 2 x1) _ e3) ?_
  refine r_iast (j := 0) (q := 83) dX12_asks_82 sc_m_1 (mm_vp (by decide)) rfl rfl ?_
  refine r_aload_n (q := 84) dX12_asks_83 rfl rfl ?_
  refine r_aload_n (q := 85) dX12_asks_84 rfl rfl ?_
  refine r_geti (v := (M 0 45)) (q := 88) lk_X12_309 dX12_asks_85 sc_m_0 rfl rfl rfl ?_
  refine r_iload_n (q := 89) dX12_asks_88 rfl rfl ?_
  refine r_iadd (q := 90) dX12_asks_89 rfl ?_
  refine r_puti (q := 93) lk_X12_309 ft_9_45 dX12_asks_90 sc_m_0 rfl rfl ?_
  cases h
  exact r_retv dX12_asks_93 rfl mm_Zv_rfl
noncomputable def X12_census_l42 (s : (Int32 × mm_M)) : Option ((Int32 × mm_M) ⊕ (Int32 × mm_M)) := if (s.2 0 41) ≤ s.1 then some (.inr ((s.2 1 1), s.2)) else if mm_in s.1 40 = true then (X12_asks (s.2 23 (Int32.toNatClampNeg s.1)) s.2).bind fun y10 => some (.inl ((s.1 + 1), y10)) else none
set_option maxRecDepth 100000 in
set_option maxHeartbeats 400000 in
theorem t_X12_census_l42 {D : mm_D} {d : Nat} (hd : 4 ≤ d) {Z : Option Int32 → List mm_C → mm_M → Prop} (n : Nat) (s : (Int32 × mm_M)) (r : (Int32 × mm_M)) (h : mm_loop (X12_census_l42) n s = some r) (hx : Z (some r.1) S_m r.2) : mm_Go jX12_census D d 0 0 42 [some (.inr 0), none, some (.inl s.1)] [] S_m s.2 Z := by
  refine mm_loop_go (step := X12_census_l42) (Hd := fun (s : (Int32 × mm_M)) => mm_Go jX12_census D d 0 0 42 [some (.inr 0), none, some (.inl s.1)] [] S_m s.2 Z) (Ex := fun (r : (Int32 × mm_M)) => Z (some r.1) S_m r.2) ?_ n s r h hx
  intro s o h kb ke
  show mm_Go jX12_census D d 0 0 42 [some (.inr 0), none, some (.inl s.1)] [] S_m s.2 Z
  unfold X12_census_l42 at h
  refine r_iload_n (q := 43) dX12_census_42 rfl rfl ?_
  refine r_aload_n (q := 44) dX12_census_43 rfl rfl ?_
  refine r_geti (v := (s.2 0 41)) (q := 47) lk_X12_284 dX12_census_44 sc_m_0 rfl rfl rfl ?_
  refine r_icmp_ge 66 (q := 50) dX12_census_47 (by decide) rfl (fun c7 => ?_) (fun c7 => ?_)
  · rw [if_pos c7] at h
    refine r_aload_n (q := 67) dX12_census_66 rfl rfl ?_
    refine r_getr (b := 1) (q := 70) lk_X12_7 dX12_census_67 sc_m_0 rfl rfl ?_
    refine r_iconst (v := 1) (q := 71) dX12_census_70 (by decide) rfl ?_
    refine r_iald (v := (s.2 1 1)) (q := 72) dX12_census_71 sc_m_1 (mm_vp (by decide)) rfl rfl ?_
    cases h
    have hk := ke _ rfl
    exact r_ret dX12_census_72 rfl hk
  · rw [if_neg c7] at h
    refine r_aload_n (q := 51) dX12_census_50 rfl rfl ?_
    refine r_aload_n (q := 52) dX12_census_51 rfl rfl ?_
    refine r_getr (b := 23) (q := 55) lk_X12_77 dX12_census_52 sc_m_0 rfl rfl ?_
    refine r_iload_n (q := 56) dX12_census_55 rfl rfl ?_
    obtain ⟨g8, h⟩ := mm_guard h
    refine r_iald (v := (s.2 23 (Int32.toNatClampNeg s.1))) (q := 57) dX12_census_56 sc_m_23 (mm_vp g8) rfl rfl ?_
    obtain ⟨y10, e9, h⟩ := Option.bind_eq_some_iff.mp h
    refine r_callV_v (av := [(.inl (s.2 23 (Int32.toNatClampNeg s.1)))]) (st := []) (q := 60) (d1 := 1) kc_X12_315 sc_m_0 dX12_census_57 rfl rfl (Nat.le_of_ble_eq_true rfl) (Nat.le_of_ble_eq_true rfl) (by omega) rfl rfl (t_X12_asks (d := 1) (by omega) (s.2 23 (Int32.toNatClampNeg s.1)) s.2 _ e9) ?_
    refine r_iinc (v := 1) (q := 63) (L' := [some (.inr 0), none, some (.inl (s.1 + 1))]) dX12_census_60 (by decide) (by decide) rfl rfl rfl ?_
    refine r_goto 42 dX12_census_63 (by decide) ?_
    cases h
    have hk := kb _ rfl
    exact hk
noncomputable def X12_census (x1 : Int32) (M : mm_M) : Option (Int32 × mm_M) := if (M 0 6) = 0 then some ((-1), M) else if (X12_in x1 1 60) = true then if x1 ≤ (M 0 8) then (X12_readsCensus x1 M).bind fun y5 => if y5.1 = true then (mm_loop (X12_census_l42) mm_fuel (0, y5.2)) else some ((y5.2 0 11), y5.2) else some ((-1), M) else some ((-1), M)
set_option maxRecDepth 100000 in
set_option maxHeartbeats 400000 in
theorem t_X12_census {d : Nat} (hd : 4 ≤ d) (x1 : Int32) (M : mm_M) (res : (Int32 × mm_M)) (h : X12_census x1 M = some res) : mm_Meth jX12_census d 0 0 [(.inr 0), (.inl x1)] S_m M (mm_Zi res.1 S_m res.2) := by
  refine r_meth (L := [some (.inr 0), some (.inl x1), none]) rfl (fun D => ?_)
  unfold X12_census at h
  refine r_aload_n (q := 1) dX12_census_0 rfl rfl ?_
  refine r_geti (v := (M 0 6)) (q := 4) lk_X12_123 dX12_census_1 sc_m_0 rfl rfl rfl ?_
  refine r_if_eq 25 (q := 7) dX12_census_4 (by decide) rfl (fun c1 => ?_) (fun c1 => ?_)
  · rw [if_pos c1] at h
    refine r_iconst (v := (-1)) (q := 26) dX12_census_25 (by decide) rfl ?_
    cases h
    exact r_ret dX12_census_26 rfl mm_Zi_rfl
  · rw [if_neg c1] at h
    refine r_iload_n (q := 8) dX12_census_7 rfl rfl ?_
    refine r_iconst (v := 1) (q := 9) dX12_census_8 (by decide) rfl ?_
    refine r_bipush (v := 60) (q := 11) dX12_census_9 (by decide) rfl ?_
    refine r_callS_i (av := [(.inl x1), (.inl 1), (.inl 60)]) (st := []) (q := 14) (d1 := 0) kc_X12_127 dX12_census_11 rfl rfl (Nat.le_of_ble_eq_true rfl) (Nat.le_of_ble_eq_true rfl) (by omega) rfl rfl (t_X12_in (d := 0) (by omega) x1 1 60 M _ rfl) ?_
    refine r_if_eq 25 (q := 17) dX12_census_14 (by decide) rfl (fun c2 => ?_) (fun c2 => ?_)
    · rw [if_neg (mm_b0 c2)] at h
      refine r_iconst (v := (-1)) (q := 26) dX12_census_25 (by decide) rfl ?_
      cases h
      exact r_ret dX12_census_26 rfl mm_Zi_rfl
    · rw [if_pos (mm_b1 c2)] at h
      refine r_iload_n (q := 18) dX12_census_17 rfl rfl ?_
      refine r_aload_n (q := 19) dX12_census_18 rfl rfl ?_
      refine r_geti (v := (M 0 8)) (q := 22) lk_X12_138 dX12_census_19 sc_m_0 rfl rfl rfl ?_
      refine r_icmp_le 27 (q := 25) dX12_census_22 (by decide) rfl (fun c3 => ?_) (fun c3 => ?_)
      · rw [if_pos c3] at h
        refine r_aload_n (q := 28) dX12_census_27 rfl rfl ?_
        refine r_iload_n (q := 29) dX12_census_28 rfl rfl ?_
        obtain ⟨y5, e4, h⟩ := Option.bind_eq_some_iff.mp h
        refine r_callV_i (av := [(.inl x1)]) (st := []) (q := 32) (d1 := 3) kc_X12_312 sc_m_0 dX12_census_29 rfl rfl (Nat.le_of_ble_eq_true rfl) (Nat.le_of_ble_eq_true rfl) (by omega) rfl rfl (t_X12_readsCensus (d := 3) (by omega) x1 M _ e4) ?_
        refine r_if_ne 40 (q := 35) dX12_census_32 (by decide) rfl (fun c6 => ?_) (fun c6 => ?_)
        · rw [if_pos (mm_b1 c6)] at h
          refine r_iconst (v := 0) (q := 41) dX12_census_40 (by decide) rfl ?_
          refine r_istore_n (q := 42) (L' := [some (.inr 0), some (.inl x1), some (.inl 0)]) dX12_census_41 (by decide) rfl rfl ?_
          refine r_forget (L' := [some (.inr 0), none, some (.inl 0)]) [true, false, true] rfl ?_
          exact t_X12_census_l42 hd mm_fuel (0, y5.2) _ h mm_Zi_rfl
        · rw [if_neg (mm_b0 c6)] at h
          refine r_aload_n (q := 36) dX12_census_35 rfl rfl ?_
          refine r_geti (v := (y5.2 0 11)) (q := 39) lk_X12_155 dX12_census_36 sc_m_0 rfl rfl rfl ?_
          cases h
          exact r_ret dX12_census_39 rfl mm_Zi_rfl
      · rw [if_neg c3] at h
        refine r_iconst (v := (-1)) (q := 26) dX12_census_25 (by decide) rfl ?_
        cases h
        exact r_ret dX12_census_26 rfl mm_Zi_rfl
noncomputable def X12_copies_l2 (a0 : Nat) (a1 : Nat) (s : (Int32 × mm_M)) : Option ((Int32 × mm_M) ⊕ mm_M) := if 8 ≤ s.1 then some (.inr s.2) else if mm_in s.1 8 = true then if mm_in s.1 8 = true then some (.inl ((s.1 + 1), (mm_U s.2 a1 (Int32.toNatClampNeg s.1) (s.2 a0 (Int32.toNatClampNeg s.1))))) else none else none
set_option maxRecDepth 100000 in
set_option maxHeartbeats 400000 in
theorem t_X12_copies_l2_1_2 {D : mm_D} {d : Nat} (hd : 0 ≤ d) {Z : Option Int32 → List mm_C → mm_M → Prop} (n : Nat) (s : (Int32 × mm_M)) (r : mm_M) (h : mm_loop (X12_copies_l2 1 2) n s = some r) (hx : Z none S_m r) : mm_Go jX12_copies D d 0 0 2 [some (.inr 1), some (.inr 2), some (.inl s.1)] [] S_m s.2 Z := by
  refine mm_loop_go (step := X12_copies_l2 1 2) (Hd := fun (s : (Int32 × mm_M)) => mm_Go jX12_copies D d 0 0 2 [some (.inr 1), some (.inr 2), some (.inl s.1)] [] S_m s.2 Z) (Ex := fun (r : mm_M) => Z none S_m r) ?_ n s r h hx
  intro s o h kb ke
  show mm_Go jX12_copies D d 0 0 2 [some (.inr 1), some (.inr 2), some (.inl s.1)] [] S_m s.2 Z
  unfold X12_copies_l2 at h
  refine r_iload_n (q := 3) dX12_copies_2 rfl rfl ?_
  refine r_bipush (v := 8) (q := 5) dX12_copies_3 (by decide) rfl ?_
  refine r_icmp_ge 20 (q := 8) dX12_copies_5 (by decide) rfl (fun c1 => ?_) (fun c1 => ?_)
  · rw [if_pos c1] at h
    cases h
    have hk := ke _ rfl
    exact r_retv dX12_copies_20 rfl hk
  · rw [if_neg c1] at h
    refine r_aload_n (q := 9) dX12_copies_8 rfl rfl ?_
    refine r_iload_n (q := 10) dX12_copies_9 rfl rfl ?_
    refine r_aload_n (q := 11) dX12_copies_10 rfl rfl ?_
    refine r_iload_n (q := 12) dX12_copies_11 rfl rfl ?_
    obtain ⟨g2, h⟩ := mm_guard h
    refine r_iald (v := (s.2 1 (Int32.toNatClampNeg s.1))) (q := 13) dX12_copies_12 rfl (mm_vp g2) rfl rfl ?_
    obtain ⟨g3, h⟩ := mm_guard h
    refine r_iast (j := (Int32.toNatClampNeg s.1)) (q := 14) dX12_copies_13 rfl (mm_vp g3) rfl rfl ?_
    refine r_iinc (v := 1) (q := 17) (L' := [some (.inr 1), some (.inr 2), some (.inl (s.1 + 1))]) dX12_copies_14 (by decide) (by decide) rfl rfl rfl ?_
    refine r_goto 2 dX12_copies_17 (by decide) ?_
    cases h
    have hk := kb _ rfl
    exact hk
set_option maxRecDepth 100000 in
set_option maxHeartbeats 400000 in
theorem t_X12_copies_l2_1_3 {D : mm_D} {d : Nat} (hd : 0 ≤ d) {Z : Option Int32 → List mm_C → mm_M → Prop} (n : Nat) (s : (Int32 × mm_M)) (r : mm_M) (h : mm_loop (X12_copies_l2 1 3) n s = some r) (hx : Z none S_m r) : mm_Go jX12_copies D d 0 0 2 [some (.inr 1), some (.inr 3), some (.inl s.1)] [] S_m s.2 Z := by
  refine mm_loop_go (step := X12_copies_l2 1 3) (Hd := fun (s : (Int32 × mm_M)) => mm_Go jX12_copies D d 0 0 2 [some (.inr 1), some (.inr 3), some (.inl s.1)] [] S_m s.2 Z) (Ex := fun (r : mm_M) => Z none S_m r) ?_ n s r h hx
  intro s o h kb ke
  show mm_Go jX12_copies D d 0 0 2 [some (.inr 1), some (.inr 3), some (.inl s.1)] [] S_m s.2 Z
  unfold X12_copies_l2 at h
  refine r_iload_n (q := 3) dX12_copies_2 rfl rfl ?_
  refine r_bipush (v := 8) (q := 5) dX12_copies_3 (by decide) rfl ?_
  refine r_icmp_ge 20 (q := 8) dX12_copies_5 (by decide) rfl (fun c1 => ?_) (fun c1 => ?_)
  · rw [if_pos c1] at h
    cases h
    have hk := ke _ rfl
    exact r_retv dX12_copies_20 rfl hk
  · rw [if_neg c1] at h
    refine r_aload_n (q := 9) dX12_copies_8 rfl rfl ?_
    refine r_iload_n (q := 10) dX12_copies_9 rfl rfl ?_
    refine r_aload_n (q := 11) dX12_copies_10 rfl rfl ?_
    refine r_iload_n (q := 12) dX12_copies_11 rfl rfl ?_
    obtain ⟨g2, h⟩ := mm_guard h
    refine r_iald (v := (s.2 1 (Int32.toNatClampNeg s.1))) (q := 13) dX12_copies_12 rfl (mm_vp g2) rfl rfl ?_
    obtain ⟨g3, h⟩ := mm_guard h
    refine r_iast (j := (Int32.toNatClampNeg s.1)) (q := 14) dX12_copies_13 rfl (mm_vp g3) rfl rfl ?_
    refine r_iinc (v := 1) (q := 17) (L' := [some (.inr 1), some (.inr 3), some (.inl (s.1 + 1))]) dX12_copies_14 (by decide) (by decide) rfl rfl rfl ?_
    refine r_goto 2 dX12_copies_17 (by decide) ?_
    cases h
    have hk := kb _ rfl
    exact hk
set_option maxRecDepth 100000 in
set_option maxHeartbeats 400000 in
theorem t_X12_copies_l2_2_1 {D : mm_D} {d : Nat} (hd : 0 ≤ d) {Z : Option Int32 → List mm_C → mm_M → Prop} (n : Nat) (s : (Int32 × mm_M)) (r : mm_M) (h : mm_loop (X12_copies_l2 2 1) n s = some r) (hx : Z none S_m r) : mm_Go jX12_copies D d 0 0 2 [some (.inr 2), some (.inr 1), some (.inl s.1)] [] S_m s.2 Z := by
  refine mm_loop_go (step := X12_copies_l2 2 1) (Hd := fun (s : (Int32 × mm_M)) => mm_Go jX12_copies D d 0 0 2 [some (.inr 2), some (.inr 1), some (.inl s.1)] [] S_m s.2 Z) (Ex := fun (r : mm_M) => Z none S_m r) ?_ n s r h hx
  intro s o h kb ke
  show mm_Go jX12_copies D d 0 0 2 [some (.inr 2), some (.inr 1), some (.inl s.1)] [] S_m s.2 Z
  unfold X12_copies_l2 at h
  refine r_iload_n (q := 3) dX12_copies_2 rfl rfl ?_
  refine r_bipush (v := 8) (q := 5) dX12_copies_3 (by decide) rfl ?_
  refine r_icmp_ge 20 (q := 8) dX12_copies_5 (by decide) rfl (fun c1 => ?_) (fun c1 => ?_)
  · rw [if_pos c1] at h
    cases h
    have hk := ke _ rfl
    exact r_retv dX12_copies_20 rfl hk
  · rw [if_neg c1] at h
    refine r_aload_n (q := 9) dX12_copies_8 rfl rfl ?_
    refine r_iload_n (q := 10) dX12_copies_9 rfl rfl ?_
    refine r_aload_n (q := 11) dX12_copies_10 rfl rfl ?_
    refine r_iload_n (q := 12) dX12_copies_11 rfl rfl ?_
    obtain ⟨g2, h⟩ := mm_guard h
    refine r_iald (v := (s.2 2 (Int32.toNatClampNeg s.1))) (q := 13) dX12_copies_12 rfl (mm_vp g2) rfl rfl ?_
    obtain ⟨g3, h⟩ := mm_guard h
    refine r_iast (j := (Int32.toNatClampNeg s.1)) (q := 14) dX12_copies_13 rfl (mm_vp g3) rfl rfl ?_
    refine r_iinc (v := 1) (q := 17) (L' := [some (.inr 2), some (.inr 1), some (.inl (s.1 + 1))]) dX12_copies_14 (by decide) (by decide) rfl rfl rfl ?_
    refine r_goto 2 dX12_copies_17 (by decide) ?_
    cases h
    have hk := kb _ rfl
    exact hk
set_option maxRecDepth 100000 in
set_option maxHeartbeats 400000 in
theorem t_X12_copies_l2_3_1 {D : mm_D} {d : Nat} (hd : 0 ≤ d) {Z : Option Int32 → List mm_C → mm_M → Prop} (n : Nat) (s : (Int32 × mm_M)) (r : mm_M) (h : mm_loop (X12_copies_l2 3 1) n s = some r) (hx : Z none S_m r) : mm_Go jX12_copies D d 0 0 2 [some (.inr 3), some (.inr 1), some (.inl s.1)] [] S_m s.2 Z := by
  refine mm_loop_go (step := X12_copies_l2 3 1) (Hd := fun (s : (Int32 × mm_M)) => mm_Go jX12_copies D d 0 0 2 [some (.inr 3), some (.inr 1), some (.inl s.1)] [] S_m s.2 Z) (Ex := fun (r : mm_M) => Z none S_m r) ?_ n s r h hx
  intro s o h kb ke
  show mm_Go jX12_copies D d 0 0 2 [some (.inr 3), some (.inr 1), some (.inl s.1)] [] S_m s.2 Z
  unfold X12_copies_l2 at h
  refine r_iload_n (q := 3) dX12_copies_2 rfl rfl ?_
  refine r_bipush (v := 8) (q := 5) dX12_copies_3 (by decide) rfl ?_
  refine r_icmp_ge 20 (q := 8) dX12_copies_5 (by decide) rfl (fun c1 => ?_) (fun c1 => ?_)
  · rw [if_pos c1] at h
    cases h
    have hk := ke _ rfl
    exact r_retv dX12_copies_20 rfl hk
  · rw [if_neg c1] at h
    refine r_aload_n (q := 9) dX12_copies_8 rfl rfl ?_
    refine r_iload_n (q := 10) dX12_copies_9 rfl rfl ?_
    refine r_aload_n (q := 11) dX12_copies_10 rfl rfl ?_
    refine r_iload_n (q := 12) dX12_copies_11 rfl rfl ?_
    obtain ⟨g2, h⟩ := mm_guard h
    refine r_iald (v := (s.2 3 (Int32.toNatClampNeg s.1))) (q := 13) dX12_copies_12 rfl (mm_vp g2) rfl rfl ?_
    obtain ⟨g3, h⟩ := mm_guard h
    refine r_iast (j := (Int32.toNatClampNeg s.1)) (q := 14) dX12_copies_13 rfl (mm_vp g3) rfl rfl ?_
    refine r_iinc (v := 1) (q := 17) (L' := [some (.inr 3), some (.inr 1), some (.inl (s.1 + 1))]) dX12_copies_14 (by decide) (by decide) rfl rfl rfl ?_
    refine r_goto 2 dX12_copies_17 (by decide) ?_
    cases h
    have hk := kb _ rfl
    exact hk
noncomputable def X12_copies (a0 : Nat) (a1 : Nat) (M : mm_M) : Option mm_M := (mm_loop (X12_copies_l2 a0 a1) mm_fuel (0, M))
set_option maxRecDepth 100000 in
set_option maxHeartbeats 400000 in
theorem t_X12_copies_1_2 {d : Nat} (hd : 0 ≤ d) (M : mm_M) (res : mm_M) (h : X12_copies 1 2 M = some res) : mm_Meth jX12_copies d 0 0 [(.inr 1), (.inr 2)] S_m M (mm_Zv S_m res) := by
  refine r_meth (L := [some (.inr 1), some (.inr 2), none]) rfl (fun D => ?_)
  unfold X12_copies at h
  refine r_iconst (v := 0) (q := 1) dX12_copies_0 (by decide) rfl ?_
  refine r_istore_n (q := 2) (L' := [some (.inr 1), some (.inr 2), some (.inl 0)]) dX12_copies_1 (by decide) rfl rfl ?_
  exact t_X12_copies_l2_1_2 hd mm_fuel (0, M) _ h mm_Zv_rfl
set_option maxRecDepth 100000 in
set_option maxHeartbeats 400000 in
theorem t_X12_copies_1_3 {d : Nat} (hd : 0 ≤ d) (M : mm_M) (res : mm_M) (h : X12_copies 1 3 M = some res) : mm_Meth jX12_copies d 0 0 [(.inr 1), (.inr 3)] S_m M (mm_Zv S_m res) := by
  refine r_meth (L := [some (.inr 1), some (.inr 3), none]) rfl (fun D => ?_)
  unfold X12_copies at h
  refine r_iconst (v := 0) (q := 1) dX12_copies_0 (by decide) rfl ?_
  refine r_istore_n (q := 2) (L' := [some (.inr 1), some (.inr 3), some (.inl 0)]) dX12_copies_1 (by decide) rfl rfl ?_
  exact t_X12_copies_l2_1_3 hd mm_fuel (0, M) _ h mm_Zv_rfl
set_option maxRecDepth 100000 in
set_option maxHeartbeats 400000 in
theorem t_X12_copies_2_1 {d : Nat} (hd : 0 ≤ d) (M : mm_M) (res : mm_M) (h : X12_copies 2 1 M = some res) : mm_Meth jX12_copies d 0 0 [(.inr 2), (.inr 1)] S_m M (mm_Zv S_m res) := by
  refine r_meth (L := [some (.inr 2), some (.inr 1), none]) rfl (fun D => ?_)
  unfold X12_copies at h
  refine r_iconst (v := 0) (q := 1) dX12_copies_0 (by decide) rfl ?_
  refine r_istore_n (q := 2) (L' := [some (.inr 2), some (.inr 1), some (.inl 0)]) dX12_copies_1 (by decide) rfl rfl ?_
  exact t_X12_copies_l2_2_1 hd mm_fuel (0, M) _ h mm_Zv_rfl
set_option maxRecDepth 100000 in
set_option maxHeartbeats 400000 in
theorem t_X12_copies_3_1 {d : Nat} (hd : 0 ≤ d) (M : mm_M) (res : mm_M) (h : X12_copies 3 1 M = some res) : mm_Meth jX12_copies d 0 0 [(.inr 3), (.inr 1)] S_m M (mm_Zv S_m res) := by
  refine r_meth (L := [some (.inr 3), some (.inr 1), none]) rfl (fun D => ?_)
  unfold X12_copies at h
  refine r_iconst (v := 0) (q := 1) dX12_copies_0 (by decide) rfl ?_
  refine r_istore_n (q := 2) (L' := [some (.inr 3), some (.inr 1), some (.inl 0)]) dX12_copies_1 (by decide) rfl rfl ?_
  exact t_X12_copies_l2_3_1 hd mm_fuel (0, M) _ h mm_Zv_rfl
noncomputable def X12_looks_l30 (x1 : Int32) (s : (Int32 × mm_M)) : Option ((Int32 × mm_M) ⊕ mm_M) := if (s.2 0 41) ≤ s.1 then some (.inr s.2) else if mm_in s.1 40 = true then (X12_asks (s.2 23 (Int32.toNatClampNeg s.1)) s.2).bind fun y6 => if s.1 = x1 then some (.inl ((s.1 + 1), (mm_U (mm_U y6 0 47 ((y6 0 47) ||| ((1 : Int32) <<< ((y6 1 0) &&& 31)))) 0 46 (y6 1 1)))) else some (.inl ((s.1 + 1), (mm_U y6 0 47 ((y6 0 47) ||| ((1 : Int32) <<< ((y6 1 0) &&& 31)))))) else none
set_option maxRecDepth 100000 in
set_option maxHeartbeats 400000 in
theorem t_X12_looks_l30 {D : mm_D} {d : Nat} (hd : 2 ≤ d) {Z : Option Int32 → List mm_C → mm_M → Prop} (x1 : Int32) (n : Nat) (s : (Int32 × mm_M)) (r : mm_M) (h : mm_loop (X12_looks_l30 x1) n s = some r) (hx : Z none S_m r) : mm_Go jX12_looks D d 0 0 30 [some (.inr 0), some (.inl x1), some (.inl s.1)] [] S_m s.2 Z := by
  refine mm_loop_go (step := X12_looks_l30 x1) (Hd := fun (s : (Int32 × mm_M)) => mm_Go jX12_looks D d 0 0 30 [some (.inr 0), some (.inl x1), some (.inl s.1)] [] S_m s.2 Z) (Ex := fun (r : mm_M) => Z none S_m r) ?_ n s r h hx
  intro s o h kb ke
  show mm_Go jX12_looks D d 0 0 30 [some (.inr 0), some (.inl x1), some (.inl s.1)] [] S_m s.2 Z
  unfold X12_looks_l30 at h
  refine r_iload_n (q := 31) dX12_looks_30 rfl rfl ?_
  refine r_aload_n (q := 32) dX12_looks_31 rfl rfl ?_
  refine r_geti (v := (s.2 0 41)) (q := 35) lk_X12_284 dX12_looks_32 sc_m_0 rfl rfl rfl ?_
  refine r_icmp_ge 86 (q := 38) dX12_looks_35 (by decide) rfl (fun c3 => ?_) (fun c3 => ?_)
  · rw [if_pos c3] at h
    cases h
    have hk := ke _ rfl
    exact r_retv dX12_looks_86 rfl hk
  · rw [if_neg c3] at h
    refine r_aload_n (q := 39) dX12_looks_38 rfl rfl ?_
    refine r_aload_n (q := 40) dX12_looks_39 rfl rfl ?_
    refine r_getr (b := 23) (q := 43) lk_X12_77 dX12_looks_40 sc_m_0 rfl rfl ?_
    refine r_iload_n (q := 44) dX12_looks_43 rfl rfl ?_
    obtain ⟨g4, h⟩ := mm_guard h
    refine r_iald (v := (s.2 23 (Int32.toNatClampNeg s.1))) (q := 45) dX12_looks_44 sc_m_23 (mm_vp g4) rfl rfl ?_
    obtain ⟨y6, e5, h⟩ := Option.bind_eq_some_iff.mp h
    refine r_callV_v (av := [(.inl (s.2 23 (Int32.toNatClampNeg s.1)))]) (st := []) (q := 48) (d1 := 1) kc_X12_315 sc_m_0 dX12_looks_45 rfl rfl (Nat.le_of_ble_eq_true rfl) (Nat.le_of_ble_eq_true rfl) (by omega) rfl rfl (t_X12_asks (d := 1) (by omega) (s.2 23 (Int32.toNatClampNeg s.1)) s.2 _ e5) ?_
    refine r_aload_n (q := 49) dX12_looks_48 rfl rfl ?_
    refine r_aload_n (q := 50) dX12_looks_49 rfl rfl ?_
    refine r_geti (v := (y6 0 47)) (q := 53) lk_X12_322 dX12_looks_50 sc_m_0 rfl rfl rfl ?_
    refine r_iconst (v := 1) (q := 54) dX12_looks_53 (by decide) rfl ?_
    refine r_aload_n (q := 55) dX12_looks_54 rfl rfl ?_
    refine r_getr (b := 1) (q := 58) lk_X12_7 dX12_looks_55 sc_m_0 rfl rfl ?_
    refine r_iconst (v := 0) (q := 59) dX12_looks_58 (by decide) rfl ?_
    refine r_iald (v := (y6 1 0)) (q := 60) dX12_looks_59 sc_m_1 (mm_vp (by decide)) rfl rfl ?_
    refine r_ishl (q := 61) dX12_looks_60 rfl ?_
    refine r_ior (q := 62) dX12_looks_61 rfl ?_
    refine r_puti (q := 65) lk_X12_322 ft_9_47 dX12_looks_62 sc_m_0 rfl rfl ?_
    refine r_iload_n (q := 66) dX12_looks_65 rfl rfl ?_
    refine r_iload_n (q := 67) dX12_looks_66 rfl rfl ?_
    refine r_icmp_ne 80 (q := 70) dX12_looks_67 (by decide) rfl (fun c7 => ?_) (fun c7 => ?_)
    · rw [if_neg c7] at h
      refine r_iinc (v := 1) (q := 83) (L' := [some (.inr 0), some (.inl x1), some (.inl (s.1 + 1))]) dX12_looks_80 (by decide) (by decide) rfl rfl rfl ?_
      refine r_goto 30 dX12_looks_83 (by decide) ?_
      cases h
      have hk := kb _ rfl
      exact hk
    · rw [if_pos c7] at h
      refine r_aload_n (q := 71) dX12_looks_70 rfl rfl ?_
      refine r_aload_n (q := 72) dX12_looks_71 rfl rfl ?_
      refine r_getr (b := 1) (q := 75) lk_X12_7 dX12_looks_72 sc_m_0 rfl rfl ?_
      refine r_iconst (v := 1) (q := 76) dX12_looks_75 (by decide) rfl ?_
      refine r_iald (v := (y6 1 1)) (q := 77) dX12_looks_76 sc_m_1 (mm_vp (by decide)) rfl rfl ?_
      refine r_puti (q := 80) lk_X12_325 ft_9_46 dX12_looks_77 sc_m_0 rfl rfl ?_
      refine r_iinc (v := 1) (q := 83) (L' := [some (.inr 0), some (.inl x1), some (.inl (s.1 + 1))]) dX12_looks_80 (by decide) (by decide) rfl rfl rfl ?_
      refine r_goto 30 dX12_looks_83 (by decide) ?_
      cases h
      have hk := kb _ rfl
      exact hk
noncomputable def X12_looks (x1 : Int32) (M : mm_M) : Option mm_M := (X12_copies 1 2 M).bind fun y2 => (mm_loop (X12_looks_l30 x1) mm_fuel (0, (mm_U (mm_U y2 0 45 0) 0 47 ((1 : Int32) <<< ((y2 1 0) &&& 31)))))
set_option maxRecDepth 100000 in
set_option maxHeartbeats 400000 in
theorem t_X12_looks {d : Nat} (hd : 2 ≤ d) (x1 : Int32) (M : mm_M) (res : mm_M) (h : X12_looks x1 M = some res) : mm_Meth jX12_looks d 0 0 [(.inr 0), (.inl x1)] S_m M (mm_Zv S_m res) := by
  refine r_meth (L := [some (.inr 0), some (.inl x1), none]) rfl (fun D => ?_)
  unfold X12_looks at h
  refine r_aload_n (q := 1) dX12_looks_0 rfl rfl ?_
  refine r_getr (b := 1) (q := 4) lk_X12_7 dX12_looks_1 sc_m_0 rfl rfl ?_
  refine r_aload_n (q := 5) dX12_looks_4 rfl rfl ?_
  refine r_getr (b := 2) (q := 8) lk_X12_13 dX12_looks_5 sc_m_0 rfl rfl ?_
  obtain ⟨y2, e1, h⟩ := Option.bind_eq_some_iff.mp h
  refine r_callS_v (av := [(.inr 1), (.inr 2)]) (st := []) (q := 11) (d1 := 0) kc_X12_318 dX12_looks_8 rfl rfl (Nat.le_of_ble_eq_true rfl) (Nat.le_of_ble_eq_true rfl) (by omega) rfl rfl (t_X12_copies_1_2 (d := 0) (by omega) M _ e1) ?_
  refine r_aload_n (q := 12) dX12_looks_11 rfl rfl ?_
  refine r_iconst (v := 0) (q := 13) dX12_looks_12 (by decide) rfl ?_
  refine r_puti (q := 16) lk_X12_309 ft_9_45 dX12_looks_13 sc_m_0 rfl rfl ?_
  refine r_aload_n (q := 17) dX12_looks_16 rfl rfl ?_
  refine r_iconst (v := 1) (q := 18) dX12_looks_17 (by decide) rfl ?_
  refine r_aload_n (q := 19) dX12_looks_18 rfl rfl ?_
  refine r_getr (b := 1) (q := 22) lk_X12_7 dX12_looks_19 sc_m_0 rfl rfl ?_
  refine r_iconst (v := 0) (q := 23) dX12_looks_22 (by decide) rfl ?_
  refine r_iald (v := (y2 1 0)) (q := 24) dX12_looks_23 sc_m_1 (mm_vp (by decide)) rfl rfl ?_
  refine r_ishl (q := 25) dX12_looks_24 rfl ?_
  refine r_puti (q := 28) lk_X12_322 ft_9_47 dX12_looks_25 sc_m_0 rfl rfl ?_
  refine r_iconst (v := 0) (q := 29) dX12_looks_28 (by decide) rfl ?_
  refine r_istore_n (q := 30) (L' := [some (.inr 0), some (.inl x1), some (.inl 0)]) dX12_looks_29 (by decide) rfl rfl ?_
  exact t_X12_looks_l30 hd x1 mm_fuel (0, (mm_U (mm_U y2 0 45 0) 0 47 ((1 : Int32) <<< ((y2 1 0) &&& 31)))) _ h mm_Zv_rfl
noncomputable def X12_look_j38 (x1 : Int32) (x2 : Int32) (M : mm_M) : Option (Int32 × mm_M) := if x1 ≤ (M 0 8) then (X12_readsCensus x1 M).bind fun y6 => if y6.1 = true then (X12_looks x2 y6.2).bind fun y9 => (X12_copies 2 1 y9).bind fun y11 => if x2 = 100 then some ((y9 1 1), y11) else if x2 = 101 then some ((y9 1 0), y11) else if x2 = 102 then some ((y11 0 45), y11) else if x2 = 103 then some ((y11 0 41), y11) else if x2 = 104 then some ((y11 0 47), y11) else if (y11 0 41) ≤ x2 then some ((-4), y11) else some ((y11 0 46), y11) else some ((y6.2 0 11), y6.2) else some ((-1), M)
set_option maxRecDepth 100000 in
set_option maxHeartbeats 400000 in
theorem t_X12_look_j38 {D : mm_D} {d : Nat} (hd : 4 ≤ d) (x1 : Int32) (x2 : Int32) (M : mm_M) (res : (Int32 × mm_M)) (h : X12_look_j38 x1 x2 M = some res) : mm_Go jX12_look D d 0 0 38 [some (.inr 0), some (.inl x1), some (.inl x2), none, none] [] S_m M (mm_Zi res.1 S_m res.2) := by
  unfold X12_look_j38 at h
  refine r_iload_n (q := 39) dX12_look_38 rfl rfl ?_
  refine r_aload_n (q := 40) dX12_look_39 rfl rfl ?_
  refine r_geti (v := (M 0 8)) (q := 43) lk_X12_138 dX12_look_40 sc_m_0 rfl rfl rfl ?_
  refine r_icmp_le 48 (q := 46) dX12_look_43 (by decide) rfl (fun c4 => ?_) (fun c4 => ?_)
  · rw [if_pos c4] at h
    refine r_aload_n (q := 49) dX12_look_48 rfl rfl ?_
    refine r_iload_n (q := 50) dX12_look_49 rfl rfl ?_
    obtain ⟨y6, e5, h⟩ := Option.bind_eq_some_iff.mp h
    refine r_callV_i (av := [(.inl x1)]) (st := []) (q := 53) (d1 := 3) kc_X12_312 sc_m_0 dX12_look_50 rfl rfl (Nat.le_of_ble_eq_true rfl) (Nat.le_of_ble_eq_true rfl) (by omega) rfl rfl (t_X12_readsCensus (d := 3) (by omega) x1 M _ e5) ?_
    refine r_if_ne 61 (q := 56) dX12_look_53 (by decide) rfl (fun c7 => ?_) (fun c7 => ?_)
    · rw [if_pos (mm_b1 c7)] at h
      refine r_aload_n (q := 62) dX12_look_61 rfl rfl ?_
      refine r_iload_n (q := 63) dX12_look_62 rfl rfl ?_
      obtain ⟨y9, e8, h⟩ := Option.bind_eq_some_iff.mp h
      refine r_callV_v (av := [(.inl x2)]) (st := []) (q := 66) (d1 := 2) kc_X12_328 sc_m_0 dX12_look_63 rfl rfl (Nat.le_of_ble_eq_true rfl) (Nat.le_of_ble_eq_true rfl) (by omega) rfl rfl (t_X12_looks (d := 2) (by omega) x2 y6.2 _ e8) ?_
      refine r_aload_n (q := 67) dX12_look_66 rfl rfl ?_
      refine r_getr (b := 1) (q := 70) lk_X12_7 dX12_look_67 sc_m_0 rfl rfl ?_
      refine r_iconst (v := 1) (q := 71) dX12_look_70 (by decide) rfl ?_
      refine r_iald (v := (y9 1 1)) (q := 72) dX12_look_71 sc_m_1 (mm_vp (by decide)) rfl rfl ?_
      refine r_istore_n (q := 73) (L' := [some (.inr 0), some (.inl x1), some (.inl x2), some (.inl (y9 1 1)), none]) dX12_look_72 (by decide) rfl rfl ?_
      refine r_aload_n (q := 74) dX12_look_73 rfl rfl ?_
      refine r_getr (b := 1) (q := 77) lk_X12_7 dX12_look_74 sc_m_0 rfl rfl ?_
      refine r_iconst (v := 0) (q := 78) dX12_look_77 (by decide) rfl ?_
      refine r_iald (v := (y9 1 0)) (q := 79) dX12_look_78 sc_m_1 (mm_vp (by decide)) rfl rfl ?_
      refine r_istore (q := 81) (L' := [some (.inr 0), some (.inl x1), some (.inl x2), some (.inl (y9 1 1)), some (.inl (y9 1 0))]) dX12_look_79 (by decide) rfl rfl ?_
      refine r_aload_n (q := 82) dX12_look_81 rfl rfl ?_
      refine r_getr (b := 2) (q := 85) lk_X12_13 dX12_look_82 sc_m_0 rfl rfl ?_
      refine r_aload_n (q := 86) dX12_look_85 rfl rfl ?_
      refine r_getr (b := 1) (q := 89) lk_X12_7 dX12_look_86 sc_m_0 rfl rfl ?_
      obtain ⟨y11, e10, h⟩ := Option.bind_eq_some_iff.mp h
      refine r_callS_v (av := [(.inr 2), (.inr 1)]) (st := []) (q := 92) (d1 := 0) kc_X12_318 dX12_look_89 rfl rfl (Nat.le_of_ble_eq_true rfl) (Nat.le_of_ble_eq_true rfl) (by omega) rfl rfl (t_X12_copies_2_1 (d := 0) (by omega) y9 _ e10) ?_
      refine r_iload_n (q := 93) dX12_look_92 rfl rfl ?_
      by_cases c12 : x2 = 100
      · rw [if_pos c12] at h
        refine mm_tableIn (off := 35) 128 dX12_look_93 (by rw [c12]; decide) (by rw [c12]; decide) (by rw [c12]; rfl) (by decide) ?_
        refine r_iload_n (q := 129) dX12_look_128 rfl rfl ?_
        cases h
        exact r_ret dX12_look_129 rfl mm_Zi_rfl
      · rw [if_neg c12] at h
        by_cases c13 : x2 = 101
        · rw [if_pos c13] at h
          refine mm_tableIn (off := 37) 130 dX12_look_93 (by rw [c13]; decide) (by rw [c13]; decide) (by rw [c13]; rfl) (by decide) ?_
          refine r_iload (q := 132) dX12_look_130 rfl rfl ?_
          cases h
          exact r_ret dX12_look_132 rfl mm_Zi_rfl
        · rw [if_neg c13] at h
          by_cases c14 : x2 = 102
          · rw [if_pos c14] at h
            refine mm_tableIn (off := 40) 133 dX12_look_93 (by rw [c14]; decide) (by rw [c14]; decide) (by rw [c14]; rfl) (by decide) ?_
            refine r_aload_n (q := 134) dX12_look_133 rfl rfl ?_
            refine r_geti (v := (y11 0 45)) (q := 137) lk_X12_309 dX12_look_134 sc_m_0 rfl rfl rfl ?_
            cases h
            exact r_ret dX12_look_137 rfl mm_Zi_rfl
          · rw [if_neg c14] at h
            by_cases c15 : x2 = 103
            · rw [if_pos c15] at h
              refine mm_tableIn (off := 45) 138 dX12_look_93 (by rw [c15]; decide) (by rw [c15]; decide) (by rw [c15]; rfl) (by decide) ?_
              refine r_aload_n (q := 139) dX12_look_138 rfl rfl ?_
              refine r_geti (v := (y11 0 41)) (q := 142) lk_X12_284 dX12_look_139 sc_m_0 rfl rfl rfl ?_
              cases h
              exact r_ret dX12_look_142 rfl mm_Zi_rfl
            · rw [if_neg c15] at h
              by_cases c16 : x2 = 104
              · rw [if_pos c16] at h
                refine mm_tableIn (off := 50) 143 dX12_look_93 (by rw [c16]; decide) (by rw [c16]; decide) (by rw [c16]; rfl) (by decide) ?_
                refine r_aload_n (q := 144) dX12_look_143 rfl rfl ?_
                refine r_geti (v := (y11 0 47)) (q := 147) lk_X12_322 dX12_look_144 sc_m_0 rfl rfl rfl ?_
                cases h
                exact r_ret dX12_look_147 rfl mm_Zi_rfl
              · rw [if_neg c16] at h
                have nc12 : (x2).toInt ≠ 100 := fun e => c12 (Int32.toInt_inj.mp (e.trans (by decide)))
                have nc13 : (x2).toInt ≠ 101 := fun e => c13 (Int32.toInt_inj.mp (e.trans (by decide)))
                have nc14 : (x2).toInt ≠ 102 := fun e => c14 (Int32.toInt_inj.mp (e.trans (by decide)))
                have nc15 : (x2).toInt ≠ 103 := fun e => c15 (Int32.toInt_inj.mp (e.trans (by decide)))
                have nc16 : (x2).toInt ≠ 104 := fun e => c16 (Int32.toInt_inj.mp (e.trans (by decide)))
                refine mm_tableOut 148 dX12_look_93 (by omega) (by decide) ?_
                refine r_iload_n (q := 149) dX12_look_148 rfl rfl ?_
                refine r_aload_n (q := 150) dX12_look_149 rfl rfl ?_
                refine r_geti (v := (y11 0 41)) (q := 153) lk_X12_284 dX12_look_150 sc_m_0 rfl rfl rfl ?_
                refine r_icmp_ge 163 (q := 156) dX12_look_153 (by decide) rfl (fun c17 => ?_) (fun c17 => ?_)
                · rw [if_pos c17] at h
                  refine r_bipush (v := (-4)) (q := 165) dX12_look_163 (by decide) rfl ?_
                  cases h
                  exact r_ret dX12_look_165 rfl mm_Zi_rfl
                · rw [if_neg c17] at h
                  refine r_aload_n (q := 157) dX12_look_156 rfl rfl ?_
                  refine r_geti (v := (y11 0 46)) (q := 160) lk_X12_325 dX12_look_157 sc_m_0 rfl rfl rfl ?_
                  refine r_goto 165 dX12_look_160 (by decide) ?_
                  cases h
                  exact r_ret dX12_look_165 rfl mm_Zi_rfl
    · rw [if_neg (mm_b0 c7)] at h
      refine r_aload_n (q := 57) dX12_look_56 rfl rfl ?_
      refine r_geti (v := (y6.2 0 11)) (q := 60) lk_X12_155 dX12_look_57 sc_m_0 rfl rfl rfl ?_
      cases h
      exact r_ret dX12_look_60 rfl mm_Zi_rfl
  · rw [if_neg c4] at h
    refine r_iconst (v := (-1)) (q := 47) dX12_look_46 (by decide) rfl ?_
    cases h
    exact r_ret dX12_look_47 rfl mm_Zi_rfl
noncomputable def X12_look (x1 : Int32) (x2 : Int32) (M : mm_M) : Option (Int32 × mm_M) := if (M 0 6) = 0 then some ((-1), M) else if (X12_in x1 1 60) = true then if (X12_in x2 0 39) = true then X12_look_j38 x1 x2 M else if (X12_in x2 100 104) = true then X12_look_j38 x1 x2 M else some ((-1), M) else some ((-1), M)
set_option maxRecDepth 100000 in
set_option maxHeartbeats 400000 in
theorem t_X12_look {d : Nat} (hd : 4 ≤ d) (x1 : Int32) (x2 : Int32) (M : mm_M) (res : (Int32 × mm_M)) (h : X12_look x1 x2 M = some res) : mm_Meth jX12_look d 0 0 [(.inr 0), (.inl x1), (.inl x2)] S_m M (mm_Zi res.1 S_m res.2) := by
  refine r_meth (L := [some (.inr 0), some (.inl x1), some (.inl x2), none, none]) rfl (fun D => ?_)
  unfold X12_look at h
  refine r_aload_n (q := 1) dX12_look_0 rfl rfl ?_
  refine r_geti (v := (M 0 6)) (q := 4) lk_X12_123 dX12_look_1 sc_m_0 rfl rfl rfl ?_
  refine r_if_eq 46 (q := 7) dX12_look_4 (by decide) rfl (fun c1 => ?_) (fun c1 => ?_)
  · rw [if_pos c1] at h
    refine r_iconst (v := (-1)) (q := 47) dX12_look_46 (by decide) rfl ?_
    cases h
    exact r_ret dX12_look_47 rfl mm_Zi_rfl
  · rw [if_neg c1] at h
    refine r_iload_n (q := 8) dX12_look_7 rfl rfl ?_
    refine r_iconst (v := 1) (q := 9) dX12_look_8 (by decide) rfl ?_
    refine r_bipush (v := 60) (q := 11) dX12_look_9 (by decide) rfl ?_
    refine r_callS_i (av := [(.inl x1), (.inl 1), (.inl 60)]) (st := []) (q := 14) (d1 := 0) kc_X12_127 dX12_look_11 rfl rfl (Nat.le_of_ble_eq_true rfl) (Nat.le_of_ble_eq_true rfl) (by omega) rfl rfl (t_X12_in (d := 0) (by omega) x1 1 60 M _ rfl) ?_
    refine r_if_eq 46 (q := 17) dX12_look_14 (by decide) rfl (fun c2 => ?_) (fun c2 => ?_)
    · rw [if_neg (mm_b0 c2)] at h
      refine r_iconst (v := (-1)) (q := 47) dX12_look_46 (by decide) rfl ?_
      cases h
      exact r_ret dX12_look_47 rfl mm_Zi_rfl
    · rw [if_pos (mm_b1 c2)] at h
      refine r_iload_n (q := 18) dX12_look_17 rfl rfl ?_
      refine r_iconst (v := 0) (q := 19) dX12_look_18 (by decide) rfl ?_
      refine r_bipush (v := 39) (q := 21) dX12_look_19 (by decide) rfl ?_
      refine r_callS_i (av := [(.inl x2), (.inl 0), (.inl 39)]) (st := []) (q := 24) (d1 := 0) kc_X12_127 dX12_look_21 rfl rfl (Nat.le_of_ble_eq_true rfl) (Nat.le_of_ble_eq_true rfl) (by omega) rfl rfl (t_X12_in (d := 0) (by omega) x2 0 39 M _ rfl) ?_
      refine r_if_ne 38 (q := 27) dX12_look_24 (by decide) rfl (fun c3 => ?_) (fun c3 => ?_)
      · rw [if_pos (mm_b1 c3)] at h
        exact t_X12_look_j38 hd x1 x2 M _ h
      · rw [if_neg (mm_b0 c3)] at h
        refine r_iload_n (q := 28) dX12_look_27 rfl rfl ?_
        refine r_bipush (v := 100) (q := 30) dX12_look_28 (by decide) rfl ?_
        refine r_bipush (v := 104) (q := 32) dX12_look_30 (by decide) rfl ?_
        refine r_callS_i (av := [(.inl x2), (.inl 100), (.inl 104)]) (st := []) (q := 35) (d1 := 0) kc_X12_127 dX12_look_32 rfl rfl (Nat.le_of_ble_eq_true rfl) (Nat.le_of_ble_eq_true rfl) (by omega) rfl rfl (t_X12_in (d := 0) (by omega) x2 100 104 M _ rfl) ?_
        refine r_if_eq 46 (q := 38) dX12_look_35 (by decide) rfl (fun c18 => ?_) (fun c18 => ?_)
        · rw [if_neg (mm_b0 c18)] at h
          refine r_iconst (v := (-1)) (q := 47) dX12_look_46 (by decide) rfl ?_
          cases h
          exact r_ret dX12_look_47 rfl mm_Zi_rfl
        · rw [if_pos (mm_b1 c18)] at h
          exact t_X12_look_j38 hd x1 x2 M _ h
noncomputable def X12_feels (x1 : Int32) (x2 : Int32) (x3 : Int32) (M : mm_M) : Option mm_M := if mm_in x1 8 = true then some (mm_U (mm_U (mm_U (mm_U (mm_U (mm_U (mm_U (mm_U (mm_U M 20 0 x1) 20 1 (M 1 1)) 20 2 x2) 20 3 (M 4 (Int32.toNatClampNeg x1))) 20 4 (M 1 3)) 20 5 ((M 1 4) - (M 1 4) / 100 * 100)) 20 6 ((M 1 5) - (M 1 5) / 100 * 100)) 20 7 ((M 1 6) - (M 1 6) / 100 * 100)) 20 8 x3) else none
set_option maxRecDepth 100000 in
set_option maxHeartbeats 400000 in
theorem t_X12_feels {d : Nat} (hd : 0 ≤ d) (x1 : Int32) (x2 : Int32) (x3 : Int32) (M : mm_M) (res : mm_M) (h : X12_feels x1 x2 x3 M = some res) : mm_Meth jX12_feels d 0 0 [(.inr 0), (.inl x1), (.inl x2), (.inl x3)] S_m M (mm_Zv S_m res) := by
  refine r_meth (L := [some (.inr 0), some (.inl x1), some (.inl x2), some (.inl x3)]) rfl (fun D => ?_)
  unfold X12_feels at h
  refine r_aload_n (q := 1) dX12_feels_0 rfl rfl ?_
  refine r_getr (b := 20) (q := 4) lk_X12_68 dX12_feels_1 sc_m_0 rfl rfl ?_
  refine r_iconst (v := 0) (q := 5) dX12_feels_4 (by decide) rfl ?_
  refine r_iload_n (q := 6) dX12_feels_5 rfl rfl ?_
  refine r_iast (j := 0) (q := 7) dX12_feels_6 sc_m_20 (mm_vp (by decide)) rfl rfl ?_
  refine r_aload_n (q := 8) dX12_feels_7 rfl rfl ?_
  refine r_getr (b := 20) (q := 11) lk_X12_68 dX12_feels_8 sc_m_0 rfl rfl ?_
  refine r_iconst (v := 1) (q := 12) dX12_feels_11 (by decide) rfl ?_
  refine r_aload_n (q := 13) dX12_feels_12 rfl rfl ?_
  refine r_getr (b := 1) (q := 16) lk_X12_7 dX12_feels_13 sc_m_0 rfl rfl ?_
  refine r_iconst (v := 1) (q := 17) dX12_feels_16 (by decide) rfl ?_
  refine r_iald (v := (M 1 1)) (q := 18) dX12_feels_17 sc_m_1 (mm_vp (by decide)) rfl rfl ?_
  refine r_iast (j := 1) (q := 19) dX12_feels_18 sc_m_20 (mm_vp (by decide)) rfl rfl ?_
  refine r_aload_n (q := 20) dX12_feels_19 rfl rfl ?_
  refine r_getr (b := 20) (q := 23) lk_X12_68 dX12_feels_20 sc_m_0 rfl rfl ?_
  refine r_iconst (v := 2) (q := 24) dX12_feels_23 (by decide) rfl ?_
  refine r_iload_n (q := 25) dX12_feels_24 rfl rfl ?_
  refine r_iast (j := 2) (q := 26) dX12_feels_25 sc_m_20 (mm_vp (by decide)) rfl rfl ?_
  refine r_aload_n (q := 27) dX12_feels_26 rfl rfl ?_
  refine r_getr (b := 20) (q := 30) lk_X12_68 dX12_feels_27 sc_m_0 rfl rfl ?_
  refine r_iconst (v := 3) (q := 31) dX12_feels_30 (by decide) rfl ?_
  refine r_aload_n (q := 32) dX12_feels_31 rfl rfl ?_
  refine r_getr (b := 4) (q := 35) lk_X12_19 dX12_feels_32 sc_m_0 rfl rfl ?_
  refine r_iload_n (q := 36) dX12_feels_35 rfl rfl ?_
  obtain ⟨g1, h⟩ := mm_guard h
  refine r_iald (v := (M 4 (Int32.toNatClampNeg x1))) (q := 37) dX12_feels_36 sc_m_4 (mm_vp g1) rfl rfl ?_
  refine r_iast (j := 3) (q := 38) dX12_feels_37 sc_m_20 (mm_vp (by decide)) rfl rfl ?_
  refine r_aload_n (q := 39) dX12_feels_38 rfl rfl ?_
  refine r_getr (b := 20) (q := 42) lk_X12_68 dX12_feels_39 sc_m_0 rfl rfl ?_
  refine r_iconst (v := 4) (q := 43) dX12_feels_42 (by decide) rfl ?_
  refine r_aload_n (q := 44) dX12_feels_43 rfl rfl ?_
  refine r_getr (b := 1) (q := 47) lk_X12_7 dX12_feels_44 sc_m_0 rfl rfl ?_
  refine r_iconst (v := 3) (q := 48) dX12_feels_47 (by decide) rfl ?_
  refine r_iald (v := (M 1 3)) (q := 49) dX12_feels_48 sc_m_1 (mm_vp (by decide)) rfl rfl ?_
  refine r_iast (j := 4) (q := 50) dX12_feels_49 sc_m_20 (mm_vp (by decide)) rfl rfl ?_
  refine r_aload_n (q := 51) dX12_feels_50 rfl rfl ?_
  refine r_getr (b := 20) (q := 54) lk_X12_68 dX12_feels_51 sc_m_0 rfl rfl ?_
  refine r_iconst (v := 5) (q := 55) dX12_feels_54 (by decide) rfl ?_
  refine r_aload_n (q := 56) dX12_feels_55 rfl rfl ?_
  refine r_getr (b := 1) (q := 59) lk_X12_7 dX12_feels_56 sc_m_0 rfl rfl ?_
  refine r_iconst (v := 4) (q := 60) dX12_feels_59 (by decide) rfl ?_
  refine r_iald (v := (M 1 4)) (q := 61) dX12_feels_60 sc_m_1 (mm_vp (by decide)) rfl rfl ?_
  refine r_bipush (v := 100) (q := 63) dX12_feels_61 (by decide) rfl ?_
  refine r_irem (q := 64) dX12_feels_63 (by decide) rfl ?_
  refine r_iast (j := 5) (q := 65) dX12_feels_64 sc_m_20 (mm_vp (by decide)) rfl rfl ?_
  refine r_aload_n (q := 66) dX12_feels_65 rfl rfl ?_
  refine r_getr (b := 20) (q := 69) lk_X12_68 dX12_feels_66 sc_m_0 rfl rfl ?_
  refine r_bipush (v := 6) (q := 71) dX12_feels_69 (by decide) rfl ?_
  refine r_aload_n (q := 72) dX12_feels_71 rfl rfl ?_
  refine r_getr (b := 1) (q := 75) lk_X12_7 dX12_feels_72 sc_m_0 rfl rfl ?_
  refine r_iconst (v := 5) (q := 76) dX12_feels_75 (by decide) rfl ?_
  refine r_iald (v := (M 1 5)) (q := 77) dX12_feels_76 sc_m_1 (mm_vp (by decide)) rfl rfl ?_
  refine r_bipush (v := 100) (q := 79) dX12_feels_77 (by decide) rfl ?_
  refine r_irem (q := 80) dX12_feels_79 (by decide) rfl ?_
  refine r_iast (j := 6) (q := 81) dX12_feels_80 sc_m_20 (mm_vp (by decide)) rfl rfl ?_
  refine r_aload_n (q := 82) dX12_feels_81 rfl rfl ?_
  refine r_getr (b := 20) (q := 85) lk_X12_68 dX12_feels_82 sc_m_0 rfl rfl ?_
  refine r_bipush (v := 7) (q := 87) dX12_feels_85 (by decide) rfl ?_
  refine r_aload_n (q := 88) dX12_feels_87 rfl rfl ?_
  refine r_getr (b := 1) (q := 91) lk_X12_7 dX12_feels_88 sc_m_0 rfl rfl ?_
  refine r_bipush (v := 6) (q := 93) dX12_feels_91 (by decide) rfl ?_
  refine r_iald (v := (M 1 6)) (q := 94) dX12_feels_93 sc_m_1 (mm_vp (by decide)) rfl rfl ?_
  refine r_bipush (v := 100) (q := 96) dX12_feels_94 (by decide) rfl ?_
  refine r_irem (q := 97) dX12_feels_96 (by decide) rfl ?_
  refine r_iast (j := 7) (q := 98) dX12_feels_97 sc_m_20 (mm_vp (by decide)) rfl rfl ?_
  refine r_aload_n (q := 99) dX12_feels_98 rfl rfl ?_
  refine r_getr (b := 20) (q := 102) lk_X12_68 dX12_feels_99 sc_m_0 rfl rfl ?_
  refine r_bipush (v := 8) (q := 104) dX12_feels_102 (by decide) rfl ?_
  refine r_iload_n (q := 105) dX12_feels_104 rfl rfl ?_
  refine r_iast (j := 8) (q := 106) dX12_feels_105 sc_m_20 (mm_vp (by decide)) rfl rfl ?_
  cases h
  exact r_retv dX12_feels_106 rfl mm_Zv_rfl
noncomputable def X12_reckon (x0 : Int32) (x1 : Int32) (x2 : Int32) : Option Int32 := if x0 = 2 then some (x1 + x2) else if x0 = 3 then some (x1 - x2) else if x0 = 4 then some (x1 * x2) else if x0 = 5 then if ¬ x2 = 0 then some (x1 / x2) else none else if x0 = 6 then if ¬ x2 = 0 then some (x1 - x1 / x2 * x2) else none else if x0 = 7 then if x2 ≤ x1 then some 0 else some 1 else if x0 = 8 then if x1 ≤ x2 then some 0 else some 1 else if x1 = x2 then some 1 else some 0
set_option maxRecDepth 100000 in
set_option maxHeartbeats 400000 in
theorem t_X12_reckon {d : Nat} (hd : 0 ≤ d) (x0 : Int32) (x1 : Int32) (x2 : Int32) (M : mm_M) (res : Int32) (h : X12_reckon x0 x1 x2 = some res) : mm_Meth jX12_reckon d 0 0 [(.inl x0), (.inl x1), (.inl x2)] S_m M (mm_Zi res S_m M) := by
  refine r_meth (L := [some (.inl x0), some (.inl x1), some (.inl x2)]) rfl (fun D => ?_)
  unfold X12_reckon at h
  refine r_iload_n (q := 1) dX12_reckon_0 rfl rfl ?_
  by_cases c1 : x0 = 2
  · rw [if_pos c1] at h
    refine mm_tableIn (off := 43) 44 dX12_reckon_1 (by rw [c1]; decide) (by rw [c1]; decide) (by rw [c1]; rfl) (by decide) ?_
    refine r_iload_n (q := 45) dX12_reckon_44 rfl rfl ?_
    refine r_iload_n (q := 46) dX12_reckon_45 rfl rfl ?_
    refine r_iadd (q := 47) dX12_reckon_46 rfl ?_
    cases h
    exact r_ret dX12_reckon_47 rfl mm_Zi_rfl
  · rw [if_neg c1] at h
    by_cases c2 : x0 = 3
    · rw [if_pos c2] at h
      refine mm_tableIn (off := 47) 48 dX12_reckon_1 (by rw [c2]; decide) (by rw [c2]; decide) (by rw [c2]; rfl) (by decide) ?_
      refine r_iload_n (q := 49) dX12_reckon_48 rfl rfl ?_
      refine r_iload_n (q := 50) dX12_reckon_49 rfl rfl ?_
      refine r_isub (q := 51) dX12_reckon_50 rfl ?_
      cases h
      exact r_ret dX12_reckon_51 rfl mm_Zi_rfl
    · rw [if_neg c2] at h
      by_cases c3 : x0 = 4
      · rw [if_pos c3] at h
        refine mm_tableIn (off := 51) 52 dX12_reckon_1 (by rw [c3]; decide) (by rw [c3]; decide) (by rw [c3]; rfl) (by decide) ?_
        refine r_iload_n (q := 53) dX12_reckon_52 rfl rfl ?_
        refine r_iload_n (q := 54) dX12_reckon_53 rfl rfl ?_
        refine r_imul (q := 55) dX12_reckon_54 rfl ?_
        cases h
        exact r_ret dX12_reckon_55 rfl mm_Zi_rfl
      · rw [if_neg c3] at h
        by_cases c4 : x0 = 5
        · rw [if_pos c4] at h
          refine mm_tableIn (off := 55) 56 dX12_reckon_1 (by rw [c4]; decide) (by rw [c4]; decide) (by rw [c4]; rfl) (by decide) ?_
          refine r_iload_n (q := 57) dX12_reckon_56 rfl rfl ?_
          refine r_iload_n (q := 58) dX12_reckon_57 rfl rfl ?_
          obtain ⟨g8, h⟩ := mm_guard h
          refine r_idiv (q := 59) dX12_reckon_58 g8 rfl ?_
          cases h
          exact r_ret dX12_reckon_59 rfl mm_Zi_rfl
        · rw [if_neg c4] at h
          by_cases c5 : x0 = 6
          · rw [if_pos c5] at h
            refine mm_tableIn (off := 59) 60 dX12_reckon_1 (by rw [c5]; decide) (by rw [c5]; decide) (by rw [c5]; rfl) (by decide) ?_
            refine r_iload_n (q := 61) dX12_reckon_60 rfl rfl ?_
            refine r_iload_n (q := 62) dX12_reckon_61 rfl rfl ?_
            obtain ⟨g9, h⟩ := mm_guard h
            refine r_irem (q := 63) dX12_reckon_62 g9 rfl ?_
            cases h
            exact r_ret dX12_reckon_63 rfl mm_Zi_rfl
          · rw [if_neg c5] at h
            by_cases c6 : x0 = 7
            · rw [if_pos c6] at h
              refine mm_tableIn (off := 63) 64 dX12_reckon_1 (by rw [c6]; decide) (by rw [c6]; decide) (by rw [c6]; rfl) (by decide) ?_
              refine r_iload_n (q := 65) dX12_reckon_64 rfl rfl ?_
              refine r_iload_n (q := 66) dX12_reckon_65 rfl rfl ?_
              refine r_icmp_ge 73 (q := 69) dX12_reckon_66 (by decide) rfl (fun c10 => ?_) (fun c10 => ?_)
              · rw [if_pos c10] at h
                refine r_iconst (v := 0) (q := 74) dX12_reckon_73 (by decide) rfl ?_
                cases h
                exact r_ret dX12_reckon_74 rfl mm_Zi_rfl
              · rw [if_neg c10] at h
                refine r_iconst (v := 1) (q := 70) dX12_reckon_69 (by decide) rfl ?_
                refine r_goto 74 dX12_reckon_70 (by decide) ?_
                cases h
                exact r_ret dX12_reckon_74 rfl mm_Zi_rfl
            · rw [if_neg c6] at h
              by_cases c7 : x0 = 8
              · rw [if_pos c7] at h
                refine mm_tableIn (off := 74) 75 dX12_reckon_1 (by rw [c7]; decide) (by rw [c7]; decide) (by rw [c7]; rfl) (by decide) ?_
                refine r_iload_n (q := 76) dX12_reckon_75 rfl rfl ?_
                refine r_iload_n (q := 77) dX12_reckon_76 rfl rfl ?_
                refine r_icmp_le 84 (q := 80) dX12_reckon_77 (by decide) rfl (fun c11 => ?_) (fun c11 => ?_)
                · rw [if_pos c11] at h
                  refine r_iconst (v := 0) (q := 85) dX12_reckon_84 (by decide) rfl ?_
                  cases h
                  exact r_ret dX12_reckon_85 rfl mm_Zi_rfl
                · rw [if_neg c11] at h
                  refine r_iconst (v := 1) (q := 81) dX12_reckon_80 (by decide) rfl ?_
                  refine r_goto 85 dX12_reckon_81 (by decide) ?_
                  cases h
                  exact r_ret dX12_reckon_85 rfl mm_Zi_rfl
              · rw [if_neg c7] at h
                have nc1 : (x0).toInt ≠ 2 := fun e => c1 (Int32.toInt_inj.mp (e.trans (by decide)))
                have nc2 : (x0).toInt ≠ 3 := fun e => c2 (Int32.toInt_inj.mp (e.trans (by decide)))
                have nc3 : (x0).toInt ≠ 4 := fun e => c3 (Int32.toInt_inj.mp (e.trans (by decide)))
                have nc4 : (x0).toInt ≠ 5 := fun e => c4 (Int32.toInt_inj.mp (e.trans (by decide)))
                have nc5 : (x0).toInt ≠ 6 := fun e => c5 (Int32.toInt_inj.mp (e.trans (by decide)))
                have nc6 : (x0).toInt ≠ 7 := fun e => c6 (Int32.toInt_inj.mp (e.trans (by decide)))
                have nc7 : (x0).toInt ≠ 8 := fun e => c7 (Int32.toInt_inj.mp (e.trans (by decide)))
                refine mm_tableOut 86 dX12_reckon_1 (by omega) (by decide) ?_
                refine r_iload_n (q := 87) dX12_reckon_86 rfl rfl ?_
                refine r_iload_n (q := 88) dX12_reckon_87 rfl rfl ?_
                refine r_icmp_ne 95 (q := 91) dX12_reckon_88 (by decide) rfl (fun c12 => ?_) (fun c12 => ?_)
                · rw [if_neg c12] at h
                  refine r_iconst (v := 0) (q := 96) dX12_reckon_95 (by decide) rfl ?_
                  cases h
                  exact r_ret dX12_reckon_96 rfl mm_Zi_rfl
                · rw [if_pos c12] at h
                  refine r_iconst (v := 1) (q := 92) dX12_reckon_91 (by decide) rfl ?_
                  refine r_goto 96 dX12_reckon_92 (by decide) ?_
                  cases h
                  exact r_ret dX12_reckon_96 rfl mm_Zi_rfl
noncomputable def X12_reckonsTo_j63l16 (x2 : Int32) (x3 : Int32) (x4 : Int32) (x5 : Int32) (x6 : Int32) (x7 : Int32) (M : mm_M) : Option ((Int32 × Int32 × mm_M) ⊕ (Int32 × mm_M)) := if x6 = 0 then if mm_in x3 260 = true then some (.inl ((x3 + 1), x5, (mm_U M 19 (Int32.toNatClampNeg x3) x7))) else none else if mm_in x7 9 = true then if mm_in x3 260 = true then some (.inl ((x3 + 1), x5, (mm_U M 19 (Int32.toNatClampNeg x3) (M 20 (Int32.toNatClampNeg x7))))) else none else none
set_option maxRecDepth 100000 in
set_option maxHeartbeats 400000 in
theorem t_X12_reckonsTo_j63l16 {D : mm_D} {d : Nat} (hd : 1 ≤ d) {Z : Option Int32 → List mm_C → mm_M → Prop} (x2 : Int32) (x3 : Int32) (x4 : Int32) (x5 : Int32) (x6 : Int32) (x7 : Int32) (M : mm_M) (o : (Int32 × Int32 × mm_M) ⊕ (Int32 × mm_M)) (h : X12_reckonsTo_j63l16 x2 x3 x4 x5 x6 x7 M = some o) (kb : ∀ s', o = .inl s' → mm_Go jX12_reckonsTo D d 0 0 16 [some (.inr 0), none, some (.inl x2), some (.inl s'.1), some (.inl x4), some (.inl s'.2.1), none, none] [] S_m s'.2.2 Z) (ke : ∀ r, o = .inr r → Z (some r.1) S_m r.2) : mm_Go jX12_reckonsTo D d 0 0 63 [some (.inr 0), none, some (.inl x2), some (.inl x3), some (.inl x4), some (.inl x5), some (.inl x6), some (.inl x7)] [] S_m M Z := by
  unfold X12_reckonsTo_j63l16 at h
  refine r_aload_n (q := 64) dX12_reckonsTo_63 rfl rfl ?_
  refine r_getr (b := 19) (q := 67) lk_X12_65 dX12_reckonsTo_64 sc_m_0 rfl rfl ?_
  refine r_iload_n (q := 68) dX12_reckonsTo_67 rfl rfl ?_
  refine r_iload (q := 70) dX12_reckonsTo_68 rfl rfl ?_
  refine r_if_ne 78 (q := 73) dX12_reckonsTo_70 (by decide) rfl (fun c5 => ?_) (fun c5 => ?_)
  · rw [if_neg c5] at h
    refine r_aload_n (q := 79) dX12_reckonsTo_78 rfl rfl ?_
    refine r_getr (b := 20) (q := 82) lk_X12_68 dX12_reckonsTo_79 sc_m_0 rfl rfl ?_
    refine r_iload (q := 84) dX12_reckonsTo_82 rfl rfl ?_
    obtain ⟨g7, h⟩ := mm_guard h
    refine r_iald (v := (M 20 (Int32.toNatClampNeg x7))) (q := 85) dX12_reckonsTo_84 sc_m_20 (mm_vp g7) rfl rfl ?_
    obtain ⟨g8, h⟩ := mm_guard h
    refine r_iast (j := (Int32.toNatClampNeg x3)) (q := 86) dX12_reckonsTo_85 sc_m_19 (mm_vp g8) rfl rfl ?_
    refine r_iload_n (q := 87) dX12_reckonsTo_86 rfl rfl ?_
    refine r_iconst (v := 1) (q := 88) dX12_reckonsTo_87 (by decide) rfl ?_
    refine r_iadd (q := 89) dX12_reckonsTo_88 rfl ?_
    refine r_istore_n (q := 90) (L' := [some (.inr 0), none, some (.inl x2), some (.inl (x3 + 1)), some (.inl x4), some (.inl x5), some (.inl x6), some (.inl x7)]) dX12_reckonsTo_89 (by decide) rfl rfl ?_
    refine r_goto 230 dX12_reckonsTo_90 (by decide) ?_
    refine r_goto 16 dX12_reckonsTo_230 (by decide) ?_
    refine r_forget (L' := [some (.inr 0), none, some (.inl x2), some (.inl (x3 + 1)), some (.inl x4), some (.inl x5), none, none]) [true, false, true, true, true, true, false, false] rfl ?_
    cases h
    have hk := kb _ rfl
    exact hk
  · rw [if_pos c5] at h
    refine r_iload (q := 75) dX12_reckonsTo_73 rfl rfl ?_
    refine r_goto 85 dX12_reckonsTo_75 (by decide) ?_
    obtain ⟨g6, h⟩ := mm_guard h
    refine r_iast (j := (Int32.toNatClampNeg x3)) (q := 86) dX12_reckonsTo_85 sc_m_19 (mm_vp g6) rfl rfl ?_
    refine r_iload_n (q := 87) dX12_reckonsTo_86 rfl rfl ?_
    refine r_iconst (v := 1) (q := 88) dX12_reckonsTo_87 (by decide) rfl ?_
    refine r_iadd (q := 89) dX12_reckonsTo_88 rfl ?_
    refine r_istore_n (q := 90) (L' := [some (.inr 0), none, some (.inl x2), some (.inl (x3 + 1)), some (.inl x4), some (.inl x5), some (.inl x6), some (.inl x7)]) dX12_reckonsTo_89 (by decide) rfl rfl ?_
    refine r_goto 230 dX12_reckonsTo_90 (by decide) ?_
    refine r_goto 16 dX12_reckonsTo_230 (by decide) ?_
    refine r_forget (L' := [some (.inr 0), none, some (.inl x2), some (.inl (x3 + 1)), some (.inl x4), some (.inl x5), none, none]) [true, false, true, true, true, true, false, false] rfl ?_
    cases h
    have hk := kb _ rfl
    exact hk
noncomputable def X12_reckonsTo_j155l16 (x2 : Int32) (x3 : Int32) (x4 : Int32) (x5 : Int32) (x7 : Int32) (z0 : Int32) (z1 : Bool) (M : mm_M) : Option ((Int32 × Int32 × mm_M) ⊕ (Int32 × mm_M)) := if z0 = (mm_b z1) then some (.inl (x3, (x4 + x7), M)) else some (.inl ((x3 - 1), x5, M))
set_option maxRecDepth 100000 in
set_option maxHeartbeats 400000 in
theorem t_X12_reckonsTo_j155l16 {D : mm_D} {d : Nat} (hd : 1 ≤ d) {Z : Option Int32 → List mm_C → mm_M → Prop} (x2 : Int32) (x3 : Int32) (x4 : Int32) (x5 : Int32) (x7 : Int32) (z0 : Int32) (z1 : Bool) (M : mm_M) (o : (Int32 × Int32 × mm_M) ⊕ (Int32 × mm_M)) (h : X12_reckonsTo_j155l16 x2 x3 x4 x5 x7 z0 z1 M = some o) (kb : ∀ s', o = .inl s' → mm_Go jX12_reckonsTo D d 0 0 16 [some (.inr 0), none, some (.inl x2), some (.inl s'.1), some (.inl x4), some (.inl s'.2.1), none, none] [] S_m s'.2.2 Z) (ke : ∀ r, o = .inr r → Z (some r.1) S_m r.2) : mm_Go jX12_reckonsTo D d 0 0 155 [some (.inr 0), none, some (.inl x2), some (.inl x3), some (.inl x4), some (.inl x5), none, some (.inl x7)] [(.inl (mm_b z1)), (.inl z0)] S_m M Z := by
  unfold X12_reckonsTo_j155l16 at h
  refine r_icmp_ne 168 (q := 158) dX12_reckonsTo_155 (by decide) rfl (fun c16 => ?_) (fun c16 => ?_)
  · rw [if_neg c16] at h
    refine r_iload_n (q := 169) dX12_reckonsTo_168 rfl rfl ?_
    refine r_iconst (v := 1) (q := 170) dX12_reckonsTo_169 (by decide) rfl ?_
    refine r_isub (q := 171) dX12_reckonsTo_170 rfl ?_
    refine r_istore_n (q := 172) (L' := [some (.inr 0), none, some (.inl x2), some (.inl (x3 - 1)), some (.inl x4), some (.inl x5), none, some (.inl x7)]) dX12_reckonsTo_171 (by decide) rfl rfl ?_
    refine r_goto 230 dX12_reckonsTo_172 (by decide) ?_
    refine r_goto 16 dX12_reckonsTo_230 (by decide) ?_
    refine r_forget (L' := [some (.inr 0), none, some (.inl x2), some (.inl (x3 - 1)), some (.inl x4), some (.inl x5), none, none]) [true, false, true, true, true, true, false, false] rfl ?_
    cases h
    have hk := kb _ rfl
    exact hk
  · rw [if_pos c16] at h
    refine r_iload (q := 160) dX12_reckonsTo_158 rfl rfl ?_
    refine r_iload (q := 162) dX12_reckonsTo_160 rfl rfl ?_
    refine r_iadd (q := 163) dX12_reckonsTo_162 rfl ?_
    refine r_istore (q := 165) (L' := [some (.inr 0), none, some (.inl x2), some (.inl x3), some (.inl x4), some (.inl (x4 + x7)), none, some (.inl x7)]) dX12_reckonsTo_163 (by decide) rfl rfl ?_
    refine r_goto 230 dX12_reckonsTo_165 (by decide) ?_
    refine r_goto 16 dX12_reckonsTo_230 (by decide) ?_
    refine r_forget (L' := [some (.inr 0), none, some (.inl x2), some (.inl x3), some (.inl x4), some (.inl (x4 + x7)), none, none]) [true, false, true, true, true, true, false, false] rfl ?_
    cases h
    have hk := kb _ rfl
    exact hk
noncomputable def X12_reckonsTo_j135l16 (x2 : Int32) (x3 : Int32) (x4 : Int32) (x5 : Int32) (x6 : Int32) (x7 : Int32) (M : mm_M) : Option ((Int32 × Int32 × mm_M) ⊕ (Int32 × mm_M)) := if mm_in (x3 - 1) 260 = true then if x6 = 12 then X12_reckonsTo_j155l16 x2 x3 x4 x5 x7 (M 19 (Int32.toNatClampNeg (x3 - 1))) true M else X12_reckonsTo_j155l16 x2 x3 x4 x5 x7 (M 19 (Int32.toNatClampNeg (x3 - 1))) false M else none
set_option maxRecDepth 100000 in
set_option maxHeartbeats 400000 in
theorem t_X12_reckonsTo_j135l16 {D : mm_D} {d : Nat} (hd : 1 ≤ d) {Z : Option Int32 → List mm_C → mm_M → Prop} (x2 : Int32) (x3 : Int32) (x4 : Int32) (x5 : Int32) (x6 : Int32) (x7 : Int32) (M : mm_M) (o : (Int32 × Int32 × mm_M) ⊕ (Int32 × mm_M)) (h : X12_reckonsTo_j135l16 x2 x3 x4 x5 x6 x7 M = some o) (kb : ∀ s', o = .inl s' → mm_Go jX12_reckonsTo D d 0 0 16 [some (.inr 0), none, some (.inl x2), some (.inl s'.1), some (.inl x4), some (.inl s'.2.1), none, none] [] S_m s'.2.2 Z) (ke : ∀ r, o = .inr r → Z (some r.1) S_m r.2) : mm_Go jX12_reckonsTo D d 0 0 135 [some (.inr 0), none, some (.inl x2), some (.inl x3), some (.inl x4), some (.inl x5), some (.inl x6), some (.inl x7)] [] S_m M Z := by
  unfold X12_reckonsTo_j135l16 at h
  refine r_aload_n (q := 136) dX12_reckonsTo_135 rfl rfl ?_
  refine r_getr (b := 19) (q := 139) lk_X12_65 dX12_reckonsTo_136 sc_m_0 rfl rfl ?_
  refine r_iload_n (q := 140) dX12_reckonsTo_139 rfl rfl ?_
  refine r_iconst (v := 1) (q := 141) dX12_reckonsTo_140 (by decide) rfl ?_
  refine r_isub (q := 142) dX12_reckonsTo_141 rfl ?_
  obtain ⟨g14, h⟩ := mm_guard h
  refine r_iald (v := (M 19 (Int32.toNatClampNeg (x3 - 1)))) (q := 143) dX12_reckonsTo_142 sc_m_19 (mm_vp g14) rfl rfl ?_
  refine r_iload (q := 145) dX12_reckonsTo_143 rfl rfl ?_
  refine r_bipush (v := 12) (q := 147) dX12_reckonsTo_145 (by decide) rfl ?_
  refine r_icmp_ne 154 (q := 150) dX12_reckonsTo_147 (by decide) rfl (fun c15 => ?_) (fun c15 => ?_)
  · rw [if_neg c15] at h
    refine r_iconst (v := 0) (q := 155) dX12_reckonsTo_154 (by decide) rfl ?_
    refine r_forget (L' := [some (.inr 0), none, some (.inl x2), some (.inl x3), some (.inl x4), some (.inl x5), none, some (.inl x7)]) [true, false, true, true, true, true, false, true] rfl ?_
    exact t_X12_reckonsTo_j155l16 hd x2 x3 x4 x5 x7 (M 19 (Int32.toNatClampNeg (x3 - 1))) false M _ h kb ke
  · rw [if_pos c15] at h
    refine r_iconst (v := 1) (q := 151) dX12_reckonsTo_150 (by decide) rfl ?_
    refine r_goto 155 dX12_reckonsTo_151 (by decide) ?_
    refine r_forget (L' := [some (.inr 0), none, some (.inl x2), some (.inl x3), some (.inl x4), some (.inl x5), none, some (.inl x7)]) [true, false, true, true, true, true, false, true] rfl ?_
    exact t_X12_reckonsTo_j155l16 hd x2 x3 x4 x5 x7 (M 19 (Int32.toNatClampNeg (x3 - 1))) true M _ h kb ke
noncomputable def X12_reckonsTo_j203l16 (x2 : Int32) (x3 : Int32) (x4 : Int32) (x5 : Int32) (x6 : Int32) (M : mm_M) : Option ((Int32 × Int32 × mm_M) ⊕ (Int32 × mm_M)) := if mm_in (x3 - 1) 260 = true then if mm_in x3 260 = true then (X12_reckon x6 (M 19 (Int32.toNatClampNeg (x3 - 1))) (M 19 (Int32.toNatClampNeg x3))).bind fun y24 => if mm_in (x3 - 1) 260 = true then some (.inl (x3, x5, (mm_U M 19 (Int32.toNatClampNeg (x3 - 1)) y24))) else none else none else none
set_option maxRecDepth 100000 in
set_option maxHeartbeats 400000 in
theorem t_X12_reckonsTo_j203l16 {D : mm_D} {d : Nat} (hd : 1 ≤ d) {Z : Option Int32 → List mm_C → mm_M → Prop} (x2 : Int32) (x3 : Int32) (x4 : Int32) (x5 : Int32) (x6 : Int32) (M : mm_M) (o : (Int32 × Int32 × mm_M) ⊕ (Int32 × mm_M)) (h : X12_reckonsTo_j203l16 x2 x3 x4 x5 x6 M = some o) (kb : ∀ s', o = .inl s' → mm_Go jX12_reckonsTo D d 0 0 16 [some (.inr 0), none, some (.inl x2), some (.inl s'.1), some (.inl x4), some (.inl s'.2.1), none, none] [] S_m s'.2.2 Z) (ke : ∀ r, o = .inr r → Z (some r.1) S_m r.2) : mm_Go jX12_reckonsTo D d 0 0 203 [some (.inr 0), none, some (.inl x2), some (.inl x3), some (.inl x4), some (.inl x5), some (.inl x6), none] [] S_m M Z := by
  unfold X12_reckonsTo_j203l16 at h
  refine r_aload_n (q := 204) dX12_reckonsTo_203 rfl rfl ?_
  refine r_getr (b := 19) (q := 207) lk_X12_65 dX12_reckonsTo_204 sc_m_0 rfl rfl ?_
  refine r_iload_n (q := 208) dX12_reckonsTo_207 rfl rfl ?_
  refine r_iconst (v := 1) (q := 209) dX12_reckonsTo_208 (by decide) rfl ?_
  refine r_isub (q := 210) dX12_reckonsTo_209 rfl ?_
  refine r_iload (q := 212) dX12_reckonsTo_210 rfl rfl ?_
  refine r_aload_n (q := 213) dX12_reckonsTo_212 rfl rfl ?_
  refine r_getr (b := 19) (q := 216) lk_X12_65 dX12_reckonsTo_213 sc_m_0 rfl rfl ?_
  refine r_iload_n (q := 217) dX12_reckonsTo_216 rfl rfl ?_
  refine r_iconst (v := 1) (q := 218) dX12_reckonsTo_217 (by decide) rfl ?_
  refine r_isub (q := 219) dX12_reckonsTo_218 rfl ?_
  obtain ⟨g21, h⟩ := mm_guard h
  refine r_iald (v := (M 19 (Int32.toNatClampNeg (x3 - 1)))) (q := 220) dX12_reckonsTo_219 sc_m_19 (mm_vp g21) rfl rfl ?_
  refine r_aload_n (q := 221) dX12_reckonsTo_220 rfl rfl ?_
  refine r_getr (b := 19) (q := 224) lk_X12_65 dX12_reckonsTo_221 sc_m_0 rfl rfl ?_
  refine r_iload_n (q := 225) dX12_reckonsTo_224 rfl rfl ?_
  obtain ⟨g22, h⟩ := mm_guard h
  refine r_iald (v := (M 19 (Int32.toNatClampNeg x3))) (q := 226) dX12_reckonsTo_225 sc_m_19 (mm_vp g22) rfl rfl ?_
  obtain ⟨y24, e23, h⟩ := Option.bind_eq_some_iff.mp h
  refine r_callS_i (av := [(.inl x6), (.inl (M 19 (Int32.toNatClampNeg (x3 - 1)))), (.inl (M 19 (Int32.toNatClampNeg x3)))]) (st := [(.inl (x3 - 1)), (.inr 19)]) (q := 229) (d1 := 0) kc_X12_241 dX12_reckonsTo_226 rfl rfl (Nat.le_of_ble_eq_true rfl) (Nat.le_of_ble_eq_true rfl) (by omega) rfl rfl (t_X12_reckon (d := 0) (by omega) x6 (M 19 (Int32.toNatClampNeg (x3 - 1))) (M 19 (Int32.toNatClampNeg x3)) M _ e23) ?_
  obtain ⟨g25, h⟩ := mm_guard h
  refine r_iast (j := (Int32.toNatClampNeg (x3 - 1))) (q := 230) dX12_reckonsTo_229 sc_m_19 (mm_vp g25) rfl rfl ?_
  refine r_goto 16 dX12_reckonsTo_230 (by decide) ?_
  refine r_forget (L' := [some (.inr 0), none, some (.inl x2), some (.inl x3), some (.inl x4), some (.inl x5), none, none]) [true, false, true, true, true, true, false, false] rfl ?_
  cases h
  have hk := kb _ rfl
  exact hk
noncomputable def X12_reckonsTo_j192l16 (x2 : Int32) (x3 : Int32) (x4 : Int32) (x5 : Int32) (x6 : Int32) (M : mm_M) : Option ((Int32 × Int32 × mm_M) ⊕ (Int32 × mm_M)) := if mm_in x3 260 = true then if (M 19 (Int32.toNatClampNeg x3)) = 0 then some (.inr (0, M)) else X12_reckonsTo_j203l16 x2 x3 x4 x5 x6 M else none
set_option maxRecDepth 100000 in
set_option maxHeartbeats 400000 in
theorem t_X12_reckonsTo_j192l16 {D : mm_D} {d : Nat} (hd : 1 ≤ d) {Z : Option Int32 → List mm_C → mm_M → Prop} (x2 : Int32) (x3 : Int32) (x4 : Int32) (x5 : Int32) (x6 : Int32) (M : mm_M) (o : (Int32 × Int32 × mm_M) ⊕ (Int32 × mm_M)) (h : X12_reckonsTo_j192l16 x2 x3 x4 x5 x6 M = some o) (kb : ∀ s', o = .inl s' → mm_Go jX12_reckonsTo D d 0 0 16 [some (.inr 0), none, some (.inl x2), some (.inl s'.1), some (.inl x4), some (.inl s'.2.1), none, none] [] S_m s'.2.2 Z) (ke : ∀ r, o = .inr r → Z (some r.1) S_m r.2) : mm_Go jX12_reckonsTo D d 0 0 192 [some (.inr 0), none, some (.inl x2), some (.inl x3), some (.inl x4), some (.inl x5), some (.inl x6), none] [] S_m M Z := by
  unfold X12_reckonsTo_j192l16 at h
  refine r_aload_n (q := 193) dX12_reckonsTo_192 rfl rfl ?_
  refine r_getr (b := 19) (q := 196) lk_X12_65 dX12_reckonsTo_193 sc_m_0 rfl rfl ?_
  refine r_iload_n (q := 197) dX12_reckonsTo_196 rfl rfl ?_
  obtain ⟨g19, h⟩ := mm_guard h
  refine r_iald (v := (M 19 (Int32.toNatClampNeg x3))) (q := 198) dX12_reckonsTo_197 sc_m_19 (mm_vp g19) rfl rfl ?_
  refine r_if_ne 203 (q := 201) dX12_reckonsTo_198 (by decide) rfl (fun c20 => ?_) (fun c20 => ?_)
  · rw [if_neg c20] at h
    exact t_X12_reckonsTo_j203l16 hd x2 x3 x4 x5 x6 M _ h kb ke
  · rw [if_pos c20] at h
    refine r_iconst (v := 0) (q := 202) dX12_reckonsTo_201 (by decide) rfl ?_
    cases h
    have hk := ke _ rfl
    exact r_ret dX12_reckonsTo_202 rfl hk
noncomputable def X12_reckonsTo_l16 (x2 : Int32) (x4 : Int32) (s : (Int32 × Int32 × mm_M)) : Option ((Int32 × Int32 × mm_M) ⊕ (Int32 × mm_M)) := if x2 ≤ s.2.1 then some (.inr ((s.2.2 19 0), s.2.2)) else if mm_in s.2.1 260 = true then if mm_in s.2.1 260 = true then if ((s.2.2 14 (Int32.toNatClampNeg s.2.1)) / 1048576) = 0 then X12_reckonsTo_j63l16 x2 s.1 x4 (s.2.1 + 1) ((s.2.2 14 (Int32.toNatClampNeg s.2.1)) / 1048576) ((s.2.2 14 (Int32.toNatClampNeg s.2.1)) - (s.2.2 14 (Int32.toNatClampNeg s.2.1)) / 1048576 * 1048576) s.2.2 else if ((s.2.2 14 (Int32.toNatClampNeg s.2.1)) / 1048576) = 1 then X12_reckonsTo_j63l16 x2 s.1 x4 (s.2.1 + 1) ((s.2.2 14 (Int32.toNatClampNeg s.2.1)) / 1048576) ((s.2.2 14 (Int32.toNatClampNeg s.2.1)) - (s.2.2 14 (Int32.toNatClampNeg s.2.1)) / 1048576 * 1048576) s.2.2 else if ((s.2.2 14 (Int32.toNatClampNeg s.2.1)) / 1048576) = 10 then if mm_in (s.1 - 1) 260 = true then if mm_in (s.1 - 1) 260 = true then some (.inl (s.1, (s.2.1 + 1), (mm_U s.2.2 19 (Int32.toNatClampNeg (s.1 - 1)) ((1 : Int32) - (s.2.2 19 (Int32.toNatClampNeg (s.1 - 1))))))) else none else none else if ((s.2.2 14 (Int32.toNatClampNeg s.2.1)) / 1048576) = 11 then X12_reckonsTo_j135l16 x2 s.1 x4 (s.2.1 + 1) ((s.2.2 14 (Int32.toNatClampNeg s.2.1)) / 1048576) ((s.2.2 14 (Int32.toNatClampNeg s.2.1)) - (s.2.2 14 (Int32.toNatClampNeg s.2.1)) / 1048576 * 1048576) s.2.2 else if ((s.2.2 14 (Int32.toNatClampNeg s.2.1)) / 1048576) = 12 then X12_reckonsTo_j135l16 x2 s.1 x4 (s.2.1 + 1) ((s.2.2 14 (Int32.toNatClampNeg s.2.1)) / 1048576) ((s.2.2 14 (Int32.toNatClampNeg s.2.1)) - (s.2.2 14 (Int32.toNatClampNeg s.2.1)) / 1048576 * 1048576) s.2.2 else if ((s.2.2 14 (Int32.toNatClampNeg s.2.1)) / 1048576) = 5 then X12_reckonsTo_j192l16 x2 (s.1 - 1) x4 (s.2.1 + 1) ((s.2.2 14 (Int32.toNatClampNeg s.2.1)) / 1048576) s.2.2 else if ((s.2.2 14 (Int32.toNatClampNeg s.2.1)) / 1048576) = 6 then X12_reckonsTo_j192l16 x2 (s.1 - 1) x4 (s.2.1 + 1) ((s.2.2 14 (Int32.toNatClampNeg s.2.1)) / 1048576) s.2.2 else X12_reckonsTo_j203l16 x2 (s.1 - 1) x4 (s.2.1 + 1) ((s.2.2 14 (Int32.toNatClampNeg s.2.1)) / 1048576) s.2.2 else none else none
set_option maxRecDepth 100000 in
set_option maxHeartbeats 400000 in
theorem t_X12_reckonsTo_l16 {D : mm_D} {d : Nat} (hd : 1 ≤ d) {Z : Option Int32 → List mm_C → mm_M → Prop} (x2 : Int32) (x4 : Int32) (n : Nat) (s : (Int32 × Int32 × mm_M)) (r : (Int32 × mm_M)) (h : mm_loop (X12_reckonsTo_l16 x2 x4) n s = some r) (hx : Z (some r.1) S_m r.2) : mm_Go jX12_reckonsTo D d 0 0 16 [some (.inr 0), none, some (.inl x2), some (.inl s.1), some (.inl x4), some (.inl s.2.1), none, none] [] S_m s.2.2 Z := by
  refine mm_loop_go (step := X12_reckonsTo_l16 x2 x4) (Hd := fun (s : (Int32 × Int32 × mm_M)) => mm_Go jX12_reckonsTo D d 0 0 16 [some (.inr 0), none, some (.inl x2), some (.inl s.1), some (.inl x4), some (.inl s.2.1), none, none] [] S_m s.2.2 Z) (Ex := fun (r : (Int32 × mm_M)) => Z (some r.1) S_m r.2) ?_ n s r h hx
  intro s o h kb ke
  show mm_Go jX12_reckonsTo D d 0 0 16 [some (.inr 0), none, some (.inl x2), some (.inl s.1), some (.inl x4), some (.inl s.2.1), none, none] [] S_m s.2.2 Z
  unfold X12_reckonsTo_l16 at h
  refine r_iload (q := 18) dX12_reckonsTo_16 rfl rfl ?_
  refine r_iload_n (q := 19) dX12_reckonsTo_18 rfl rfl ?_
  refine r_icmp_ge 233 (q := 22) dX12_reckonsTo_19 (by decide) rfl (fun c1 => ?_) (fun c1 => ?_)
  · rw [if_pos c1] at h
    refine r_aload_n (q := 234) dX12_reckonsTo_233 rfl rfl ?_
    refine r_getr (b := 19) (q := 237) lk_X12_65 dX12_reckonsTo_234 sc_m_0 rfl rfl ?_
    refine r_iconst (v := 0) (q := 238) dX12_reckonsTo_237 (by decide) rfl ?_
    refine r_iald (v := (s.2.2 19 0)) (q := 239) dX12_reckonsTo_238 sc_m_19 (mm_vp (by decide)) rfl rfl ?_
    cases h
    have hk := ke _ rfl
    exact r_ret dX12_reckonsTo_239 rfl hk
  · rw [if_neg c1] at h
    refine r_aload_n (q := 23) dX12_reckonsTo_22 rfl rfl ?_
    refine r_getr (b := 14) (q := 26) lk_X12_50 dX12_reckonsTo_23 sc_m_0 rfl rfl ?_
    refine r_iload (q := 28) dX12_reckonsTo_26 rfl rfl ?_
    obtain ⟨g2, h⟩ := mm_guard h
    refine r_iald (v := (s.2.2 14 (Int32.toNatClampNeg s.2.1))) (q := 29) dX12_reckonsTo_28 sc_m_14 (mm_vp g2) rfl rfl ?_
    refine r_ldc (v := 1048576) (q := 31) dX12_reckonsTo_29 ko_X12_171 rfl ?_
    refine r_idiv (q := 32) dX12_reckonsTo_31 (by decide) rfl ?_
    refine r_istore (q := 34) (L' := [some (.inr 0), none, some (.inl x2), some (.inl s.1), some (.inl x4), some (.inl s.2.1), some (.inl ((s.2.2 14 (Int32.toNatClampNeg s.2.1)) / 1048576)), none]) dX12_reckonsTo_32 (by decide) rfl rfl ?_
    refine r_aload_n (q := 35) dX12_reckonsTo_34 rfl rfl ?_
    refine r_getr (b := 14) (q := 38) lk_X12_50 dX12_reckonsTo_35 sc_m_0 rfl rfl ?_
    refine r_iload (q := 40) dX12_reckonsTo_38 rfl rfl ?_
    obtain ⟨g3, h⟩ := mm_guard h
    refine r_iald (v := (s.2.2 14 (Int32.toNatClampNeg s.2.1))) (q := 41) dX12_reckonsTo_40 sc_m_14 (mm_vp g3) rfl rfl ?_
    refine r_ldc (v := 1048576) (q := 43) dX12_reckonsTo_41 ko_X12_171 rfl ?_
    refine r_irem (q := 44) dX12_reckonsTo_43 (by decide) rfl ?_
    refine r_istore (q := 46) (L' := [some (.inr 0), none, some (.inl x2), some (.inl s.1), some (.inl x4), some (.inl s.2.1), some (.inl ((s.2.2 14 (Int32.toNatClampNeg s.2.1)) / 1048576)), some (.inl ((s.2.2 14 (Int32.toNatClampNeg s.2.1)) - (s.2.2 14 (Int32.toNatClampNeg s.2.1)) / 1048576 * 1048576))]) dX12_reckonsTo_44 (by decide) rfl rfl ?_
    refine r_iload (q := 48) dX12_reckonsTo_46 rfl rfl ?_
    refine r_iconst (v := 1) (q := 49) dX12_reckonsTo_48 (by decide) rfl ?_
    refine r_iadd (q := 50) dX12_reckonsTo_49 rfl ?_
    refine r_istore (q := 52) (L' := [some (.inr 0), none, some (.inl x2), some (.inl s.1), some (.inl x4), some (.inl (s.2.1 + 1)), some (.inl ((s.2.2 14 (Int32.toNatClampNeg s.2.1)) / 1048576)), some (.inl ((s.2.2 14 (Int32.toNatClampNeg s.2.1)) - (s.2.2 14 (Int32.toNatClampNeg s.2.1)) / 1048576 * 1048576))]) dX12_reckonsTo_50 (by decide) rfl rfl ?_
    refine r_iload (q := 54) dX12_reckonsTo_52 rfl rfl ?_
    refine r_if_eq 63 (q := 57) dX12_reckonsTo_54 (by decide) rfl (fun c4 => ?_) (fun c4 => ?_)
    · rw [if_pos c4] at h
      exact t_X12_reckonsTo_j63l16 hd x2 s.1 x4 (s.2.1 + 1) ((s.2.2 14 (Int32.toNatClampNeg s.2.1)) / 1048576) ((s.2.2 14 (Int32.toNatClampNeg s.2.1)) - (s.2.2 14 (Int32.toNatClampNeg s.2.1)) / 1048576 * 1048576) s.2.2 _ h kb ke
    · rw [if_neg c4] at h
      refine r_iload (q := 59) dX12_reckonsTo_57 rfl rfl ?_
      refine r_iconst (v := 1) (q := 60) dX12_reckonsTo_59 (by decide) rfl ?_
      refine r_icmp_ne 93 (q := 63) dX12_reckonsTo_60 (by decide) rfl (fun c9 => ?_) (fun c9 => ?_)
      · rw [if_neg c9] at h
        refine r_iload (q := 95) dX12_reckonsTo_93 rfl rfl ?_
        refine r_bipush (v := 10) (q := 97) dX12_reckonsTo_95 (by decide) rfl ?_
        refine r_icmp_ne 121 (q := 100) dX12_reckonsTo_97 (by decide) rfl (fun c10 => ?_) (fun c10 => ?_)
        · rw [if_neg c10] at h
          refine r_iload (q := 123) dX12_reckonsTo_121 rfl rfl ?_
          refine r_bipush (v := 11) (q := 125) dX12_reckonsTo_123 (by decide) rfl ?_
          refine r_icmp_eq 135 (q := 128) dX12_reckonsTo_125 (by decide) rfl (fun c13 => ?_) (fun c13 => ?_)
          · rw [if_pos c13] at h
            exact t_X12_reckonsTo_j135l16 hd x2 s.1 x4 (s.2.1 + 1) ((s.2.2 14 (Int32.toNatClampNeg s.2.1)) / 1048576) ((s.2.2 14 (Int32.toNatClampNeg s.2.1)) - (s.2.2 14 (Int32.toNatClampNeg s.2.1)) / 1048576 * 1048576) s.2.2 _ h kb ke
          · rw [if_neg c13] at h
            refine r_iload (q := 130) dX12_reckonsTo_128 rfl rfl ?_
            refine r_bipush (v := 12) (q := 132) dX12_reckonsTo_130 (by decide) rfl ?_
            refine r_icmp_ne 175 (q := 135) dX12_reckonsTo_132 (by decide) rfl (fun c17 => ?_) (fun c17 => ?_)
            · rw [if_neg c17] at h
              refine r_iload_n (q := 176) dX12_reckonsTo_175 rfl rfl ?_
              refine r_iconst (v := 1) (q := 177) dX12_reckonsTo_176 (by decide) rfl ?_
              refine r_isub (q := 178) dX12_reckonsTo_177 rfl ?_
              refine r_istore_n (q := 179) (L' := [some (.inr 0), none, some (.inl x2), some (.inl (s.1 - 1)), some (.inl x4), some (.inl (s.2.1 + 1)), some (.inl ((s.2.2 14 (Int32.toNatClampNeg s.2.1)) / 1048576)), some (.inl ((s.2.2 14 (Int32.toNatClampNeg s.2.1)) - (s.2.2 14 (Int32.toNatClampNeg s.2.1)) / 1048576 * 1048576))]) dX12_reckonsTo_178 (by decide) rfl rfl ?_
              refine r_iload (q := 181) dX12_reckonsTo_179 rfl rfl ?_
              refine r_iconst (v := 5) (q := 182) dX12_reckonsTo_181 (by decide) rfl ?_
              refine r_icmp_eq 192 (q := 185) dX12_reckonsTo_182 (by decide) rfl (fun c18 => ?_) (fun c18 => ?_)
              · rw [if_pos c18] at h
                refine r_forget (L' := [some (.inr 0), none, some (.inl x2), some (.inl (s.1 - 1)), some (.inl x4), some (.inl (s.2.1 + 1)), some (.inl ((s.2.2 14 (Int32.toNatClampNeg s.2.1)) / 1048576)), none]) [true, false, true, true, true, true, true, false] rfl ?_
                exact t_X12_reckonsTo_j192l16 hd x2 (s.1 - 1) x4 (s.2.1 + 1) ((s.2.2 14 (Int32.toNatClampNeg s.2.1)) / 1048576) s.2.2 _ h kb ke
              · rw [if_neg c18] at h
                refine r_iload (q := 187) dX12_reckonsTo_185 rfl rfl ?_
                refine r_bipush (v := 6) (q := 189) dX12_reckonsTo_187 (by decide) rfl ?_
                refine r_icmp_ne 203 (q := 192) dX12_reckonsTo_189 (by decide) rfl (fun c26 => ?_) (fun c26 => ?_)
                · rw [if_neg c26] at h
                  refine r_forget (L' := [some (.inr 0), none, some (.inl x2), some (.inl (s.1 - 1)), some (.inl x4), some (.inl (s.2.1 + 1)), some (.inl ((s.2.2 14 (Int32.toNatClampNeg s.2.1)) / 1048576)), none]) [true, false, true, true, true, true, true, false] rfl ?_
                  exact t_X12_reckonsTo_j203l16 hd x2 (s.1 - 1) x4 (s.2.1 + 1) ((s.2.2 14 (Int32.toNatClampNeg s.2.1)) / 1048576) s.2.2 _ h kb ke
                · rw [if_pos c26] at h
                  refine r_forget (L' := [some (.inr 0), none, some (.inl x2), some (.inl (s.1 - 1)), some (.inl x4), some (.inl (s.2.1 + 1)), some (.inl ((s.2.2 14 (Int32.toNatClampNeg s.2.1)) / 1048576)), none]) [true, false, true, true, true, true, true, false] rfl ?_
                  exact t_X12_reckonsTo_j192l16 hd x2 (s.1 - 1) x4 (s.2.1 + 1) ((s.2.2 14 (Int32.toNatClampNeg s.2.1)) / 1048576) s.2.2 _ h kb ke
            · rw [if_pos c17] at h
              exact t_X12_reckonsTo_j135l16 hd x2 s.1 x4 (s.2.1 + 1) ((s.2.2 14 (Int32.toNatClampNeg s.2.1)) / 1048576) ((s.2.2 14 (Int32.toNatClampNeg s.2.1)) - (s.2.2 14 (Int32.toNatClampNeg s.2.1)) / 1048576 * 1048576) s.2.2 _ h kb ke
        · rw [if_pos c10] at h
          refine r_aload_n (q := 101) dX12_reckonsTo_100 rfl rfl ?_
          refine r_getr (b := 19) (q := 104) lk_X12_65 dX12_reckonsTo_101 sc_m_0 rfl rfl ?_
          refine r_iload_n (q := 105) dX12_reckonsTo_104 rfl rfl ?_
          refine r_iconst (v := 1) (q := 106) dX12_reckonsTo_105 (by decide) rfl ?_
          refine r_isub (q := 107) dX12_reckonsTo_106 rfl ?_
          refine r_iconst (v := 1) (q := 108) dX12_reckonsTo_107 (by decide) rfl ?_
          refine r_aload_n (q := 109) dX12_reckonsTo_108 rfl rfl ?_
          refine r_getr (b := 19) (q := 112) lk_X12_65 dX12_reckonsTo_109 sc_m_0 rfl rfl ?_
          refine r_iload_n (q := 113) dX12_reckonsTo_112 rfl rfl ?_
          refine r_iconst (v := 1) (q := 114) dX12_reckonsTo_113 (by decide) rfl ?_
          refine r_isub (q := 115) dX12_reckonsTo_114 rfl ?_
          obtain ⟨g11, h⟩ := mm_guard h
          refine r_iald (v := (s.2.2 19 (Int32.toNatClampNeg (s.1 - 1)))) (q := 116) dX12_reckonsTo_115 sc_m_19 (mm_vp g11) rfl rfl ?_
          refine r_isub (q := 117) dX12_reckonsTo_116 rfl ?_
          obtain ⟨g12, h⟩ := mm_guard h
          refine r_iast (j := (Int32.toNatClampNeg (s.1 - 1))) (q := 118) dX12_reckonsTo_117 sc_m_19 (mm_vp g12) rfl rfl ?_
          refine r_goto 230 dX12_reckonsTo_118 (by decide) ?_
          refine r_goto 16 dX12_reckonsTo_230 (by decide) ?_
          refine r_forget (L' := [some (.inr 0), none, some (.inl x2), some (.inl s.1), some (.inl x4), some (.inl (s.2.1 + 1)), none, none]) [true, false, true, true, true, true, false, false] rfl ?_
          cases h
          have hk := kb _ rfl
          exact hk
      · rw [if_pos c9] at h
        exact t_X12_reckonsTo_j63l16 hd x2 s.1 x4 (s.2.1 + 1) ((s.2.2 14 (Int32.toNatClampNeg s.2.1)) / 1048576) ((s.2.2 14 (Int32.toNatClampNeg s.2.1)) - (s.2.2 14 (Int32.toNatClampNeg s.2.1)) / 1048576 * 1048576) s.2.2 _ h kb ke
noncomputable def X12_reckonsTo (x1 : Int32) (x2 : Int32) (M : mm_M) : Option (Int32 × mm_M) := (mm_loop (X12_reckonsTo_l16 x2 ((260 : Int32) * (x1 / 260))) mm_fuel (0, x1, M))
set_option maxRecDepth 100000 in
set_option maxHeartbeats 400000 in
theorem t_X12_reckonsTo {d : Nat} (hd : 1 ≤ d) (x1 : Int32) (x2 : Int32) (M : mm_M) (res : (Int32 × mm_M)) (h : X12_reckonsTo x1 x2 M = some res) : mm_Meth jX12_reckonsTo d 0 0 [(.inr 0), (.inl x1), (.inl x2)] S_m M (mm_Zi res.1 S_m res.2) := by
  refine r_meth (L := [some (.inr 0), some (.inl x1), some (.inl x2), none, none, none, none, none]) rfl (fun D => ?_)
  unfold X12_reckonsTo at h
  refine r_iconst (v := 0) (q := 1) dX12_reckonsTo_0 (by decide) rfl ?_
  refine r_istore_n (q := 2) (L' := [some (.inr 0), some (.inl x1), some (.inl x2), some (.inl 0), none, none, none, none]) dX12_reckonsTo_1 (by decide) rfl rfl ?_
  refine r_sipush (v := 260) (q := 5) dX12_reckonsTo_2 (by decide) rfl ?_
  refine r_iload_n (q := 6) dX12_reckonsTo_5 rfl rfl ?_
  refine r_sipush (v := 260) (q := 9) dX12_reckonsTo_6 (by decide) rfl ?_
  refine r_idiv (q := 10) dX12_reckonsTo_9 (by decide) rfl ?_
  refine r_imul (q := 11) dX12_reckonsTo_10 rfl ?_
  refine r_istore (q := 13) (L' := [some (.inr 0), some (.inl x1), some (.inl x2), some (.inl 0), some (.inl ((260 : Int32) * (x1 / 260))), none, none, none]) dX12_reckonsTo_11 (by decide) rfl rfl ?_
  refine r_iload_n (q := 14) dX12_reckonsTo_13 rfl rfl ?_
  refine r_istore (q := 16) (L' := [some (.inr 0), some (.inl x1), some (.inl x2), some (.inl 0), some (.inl ((260 : Int32) * (x1 / 260))), some (.inl x1), none, none]) dX12_reckonsTo_14 (by decide) rfl rfl ?_
  refine r_forget (L' := [some (.inr 0), none, some (.inl x2), some (.inl 0), some (.inl ((260 : Int32) * (x1 / 260))), some (.inl x1), none, none]) [true, false, true, true, true, true, false, false] rfl ?_
  exact t_X12_reckonsTo_l16 hd x2 ((260 : Int32) * (x1 / 260)) mm_fuel (0, x1, M) _ h mm_Zi_rfl
noncomputable def X12_holdsAny_l2 (x1 : Int32) (s : (Int32 × mm_M)) : Option ((Int32 × mm_M) ⊕ (Bool × mm_M)) := if (s.2 0 17) ≤ s.1 then some (.inr (false, s.2)) else if mm_in s.1 16 = true then if (s.2 15 (Int32.toNatClampNeg s.1)) = x1 then if mm_in s.1 16 = true then if mm_in s.1 16 = true then (X12_reckonsTo (s.2 17 (Int32.toNatClampNeg s.1)) (s.2 18 (Int32.toNatClampNeg s.1)) s.2).bind fun y7 => if y7.1 = 1 then some (.inr (true, y7.2)) else some (.inl ((s.1 + 1), y7.2)) else none else none else some (.inl ((s.1 + 1), s.2)) else none
set_option maxRecDepth 100000 in
set_option maxHeartbeats 400000 in
theorem t_X12_holdsAny_l2 {D : mm_D} {d : Nat} (hd : 2 ≤ d) {Z : Option Int32 → List mm_C → mm_M → Prop} (x1 : Int32) (n : Nat) (s : (Int32 × mm_M)) (r : (Bool × mm_M)) (h : mm_loop (X12_holdsAny_l2 x1) n s = some r) (hx : Z (some (mm_b r.1)) S_m r.2) : mm_Go jX12_holdsAny D d 0 0 2 [some (.inr 0), some (.inl x1), some (.inl s.1)] [] S_m s.2 Z := by
  refine mm_loop_go (step := X12_holdsAny_l2 x1) (Hd := fun (s : (Int32 × mm_M)) => mm_Go jX12_holdsAny D d 0 0 2 [some (.inr 0), some (.inl x1), some (.inl s.1)] [] S_m s.2 Z) (Ex := fun (r : (Bool × mm_M)) => Z (some (mm_b r.1)) S_m r.2) ?_ n s r h hx
  intro s o h kb ke
  show mm_Go jX12_holdsAny D d 0 0 2 [some (.inr 0), some (.inl x1), some (.inl s.1)] [] S_m s.2 Z
  unfold X12_holdsAny_l2 at h
  refine r_iload_n (q := 3) dX12_holdsAny_2 rfl rfl ?_
  refine r_aload_n (q := 4) dX12_holdsAny_3 rfl rfl ?_
  refine r_geti (v := (s.2 0 17)) (q := 7) lk_X12_238 dX12_holdsAny_4 sc_m_0 rfl rfl rfl ?_
  refine r_icmp_ge 48 (q := 10) dX12_holdsAny_7 (by decide) rfl (fun c1 => ?_) (fun c1 => ?_)
  · rw [if_pos c1] at h
    refine r_iconst (v := 0) (q := 49) dX12_holdsAny_48 (by decide) rfl ?_
    cases h
    have hk := ke _ rfl
    exact r_retb dX12_holdsAny_49 rfl (Or.inl rfl) hk
  · rw [if_neg c1] at h
    refine r_aload_n (q := 11) dX12_holdsAny_10 rfl rfl ?_
    refine r_getr (b := 15) (q := 14) lk_X12_53 dX12_holdsAny_11 sc_m_0 rfl rfl ?_
    refine r_iload_n (q := 15) dX12_holdsAny_14 rfl rfl ?_
    obtain ⟨g2, h⟩ := mm_guard h
    refine r_iald (v := (s.2 15 (Int32.toNatClampNeg s.1))) (q := 16) dX12_holdsAny_15 sc_m_15 (mm_vp g2) rfl rfl ?_
    refine r_iload_n (q := 17) dX12_holdsAny_16 rfl rfl ?_
    refine r_icmp_ne 42 (q := 20) dX12_holdsAny_17 (by decide) rfl (fun c3 => ?_) (fun c3 => ?_)
    · rw [if_neg c3] at h
      refine r_iinc (v := 1) (q := 45) (L' := [some (.inr 0), some (.inl x1), some (.inl (s.1 + 1))]) dX12_holdsAny_42 (by decide) (by decide) rfl rfl rfl ?_
      refine r_goto 2 dX12_holdsAny_45 (by decide) ?_
      cases h
      have hk := kb _ rfl
      exact hk
    · rw [if_pos c3] at h
      refine r_aload_n (q := 21) dX12_holdsAny_20 rfl rfl ?_
      refine r_aload_n (q := 22) dX12_holdsAny_21 rfl rfl ?_
      refine r_getr (b := 17) (q := 25) lk_X12_59 dX12_holdsAny_22 sc_m_0 rfl rfl ?_
      refine r_iload_n (q := 26) dX12_holdsAny_25 rfl rfl ?_
      obtain ⟨g4, h⟩ := mm_guard h
      refine r_iald (v := (s.2 17 (Int32.toNatClampNeg s.1))) (q := 27) dX12_holdsAny_26 sc_m_17 (mm_vp g4) rfl rfl ?_
      refine r_aload_n (q := 28) dX12_holdsAny_27 rfl rfl ?_
      refine r_getr (b := 18) (q := 31) lk_X12_62 dX12_holdsAny_28 sc_m_0 rfl rfl ?_
      refine r_iload_n (q := 32) dX12_holdsAny_31 rfl rfl ?_
      obtain ⟨g5, h⟩ := mm_guard h
      refine r_iald (v := (s.2 18 (Int32.toNatClampNeg s.1))) (q := 33) dX12_holdsAny_32 sc_m_18 (mm_vp g5) rfl rfl ?_
      obtain ⟨y7, e6, h⟩ := Option.bind_eq_some_iff.mp h
      refine r_callV_i (av := [(.inl (s.2 17 (Int32.toNatClampNeg s.1))), (.inl (s.2 18 (Int32.toNatClampNeg s.1)))]) (st := []) (q := 36) (d1 := 1) kc_X12_245 sc_m_0 dX12_holdsAny_33 rfl rfl (Nat.le_of_ble_eq_true rfl) (Nat.le_of_ble_eq_true rfl) (by omega) rfl rfl (t_X12_reckonsTo (d := 1) (by omega) (s.2 17 (Int32.toNatClampNeg s.1)) (s.2 18 (Int32.toNatClampNeg s.1)) s.2 _ e6) ?_
      refine r_iconst (v := 1) (q := 37) dX12_holdsAny_36 (by decide) rfl ?_
      refine r_icmp_ne 42 (q := 40) dX12_holdsAny_37 (by decide) rfl (fun c8 => ?_) (fun c8 => ?_)
      · rw [if_neg c8] at h
        refine r_iinc (v := 1) (q := 45) (L' := [some (.inr 0), some (.inl x1), some (.inl (s.1 + 1))]) dX12_holdsAny_42 (by decide) (by decide) rfl rfl rfl ?_
        refine r_goto 2 dX12_holdsAny_45 (by decide) ?_
        cases h
        have hk := kb _ rfl
        exact hk
      · rw [if_pos c8] at h
        refine r_iconst (v := 1) (q := 41) dX12_holdsAny_40 (by decide) rfl ?_
        cases h
        have hk := ke _ rfl
        exact r_retb dX12_holdsAny_41 rfl (Or.inr rfl) hk
noncomputable def X12_holdsAny (x1 : Int32) (M : mm_M) : Option (Bool × mm_M) := (mm_loop (X12_holdsAny_l2 x1) mm_fuel (0, M))
set_option maxRecDepth 100000 in
set_option maxHeartbeats 400000 in
theorem t_X12_holdsAny {d : Nat} (hd : 2 ≤ d) (x1 : Int32) (M : mm_M) (res : (Bool × mm_M)) (h : X12_holdsAny x1 M = some res) : mm_Meth jX12_holdsAny d 0 0 [(.inr 0), (.inl x1)] S_m M (mm_Zi (mm_b res.1) S_m res.2) := by
  refine r_meth (L := [some (.inr 0), some (.inl x1), none]) rfl (fun D => ?_)
  unfold X12_holdsAny at h
  refine r_iconst (v := 0) (q := 1) dX12_holdsAny_0 (by decide) rfl ?_
  refine r_istore_n (q := 2) (L' := [some (.inr 0), some (.inl x1), some (.inl 0)]) dX12_holdsAny_1 (by decide) rfl rfl ?_
  exact t_X12_holdsAny_l2 hd x1 mm_fuel (0, M) _ h mm_Zi_rfl
noncomputable def X12_byLaw_l2 (x1 : Int32) (x2 : Int32) (s : (Int32 × mm_M)) : Option ((Int32 × mm_M) ⊕ ((Int32 × mm_M) ⊕ (Int32 × mm_M))) := if (s.2 0 17) ≤ s.1 then some (.inr (.inl (0, s.2))) else if mm_in s.1 16 = true then if (s.2 15 (Int32.toNatClampNeg s.1)) = x1 then if mm_in s.1 16 = true then if mm_in s.1 16 = true then (X12_reckonsTo (s.2 17 (Int32.toNatClampNeg s.1)) (s.2 18 (Int32.toNatClampNeg s.1)) s.2).bind fun y7 => if y7.1 = 1 then some (.inr (.inr (s.1, y7.2))) else some (.inl ((s.1 + 1), y7.2)) else none else none else some (.inl ((s.1 + 1), s.2)) else none
set_option maxRecDepth 100000 in
set_option maxHeartbeats 400000 in
theorem t_X12_byLaw_l2 {D : mm_D} {d : Nat} (hd : 2 ≤ d) {Z : Option Int32 → List mm_C → mm_M → Prop} (x1 : Int32) (x2 : Int32) (n : Nat) (s : (Int32 × mm_M)) (r : ((Int32 × mm_M) ⊕ (Int32 × mm_M))) (h : mm_loop (X12_byLaw_l2 x1 x2) n s = some r) (hx : (Sum.elim (fun (y : (Int32 × mm_M)) => Z (some y.1) S_m y.2) (fun (s : (Int32 × mm_M)) => mm_Go jX12_byLaw D d 0 0 43 [some (.inr 0), none, some (.inl x2), some (.inl s.1), none] [] S_m s.2 Z) r)) : mm_Go jX12_byLaw D d 0 0 2 [some (.inr 0), some (.inl x1), some (.inl x2), some (.inl s.1), none] [] S_m s.2 Z := by
  refine mm_loop_go (step := X12_byLaw_l2 x1 x2) (Hd := fun (s : (Int32 × mm_M)) => mm_Go jX12_byLaw D d 0 0 2 [some (.inr 0), some (.inl x1), some (.inl x2), some (.inl s.1), none] [] S_m s.2 Z) (Ex := fun (r : ((Int32 × mm_M) ⊕ (Int32 × mm_M))) => (Sum.elim (fun (y : (Int32 × mm_M)) => Z (some y.1) S_m y.2) (fun (s : (Int32 × mm_M)) => mm_Go jX12_byLaw D d 0 0 43 [some (.inr 0), none, some (.inl x2), some (.inl s.1), none] [] S_m s.2 Z) r)) ?_ n s r h hx
  intro s o h kb ke
  show mm_Go jX12_byLaw D d 0 0 2 [some (.inr 0), some (.inl x1), some (.inl x2), some (.inl s.1), none] [] S_m s.2 Z
  unfold X12_byLaw_l2 at h
  refine r_iload_n (q := 3) dX12_byLaw_2 rfl rfl ?_
  refine r_aload_n (q := 4) dX12_byLaw_3 rfl rfl ?_
  refine r_geti (v := (s.2 0 17)) (q := 7) lk_X12_238 dX12_byLaw_4 sc_m_0 rfl rfl rfl ?_
  refine r_icmp_ge 89 (q := 10) dX12_byLaw_7 (by decide) rfl (fun c1 => ?_) (fun c1 => ?_)
  · rw [if_pos c1] at h
    refine r_iconst (v := 0) (q := 90) dX12_byLaw_89 (by decide) rfl ?_
    cases h
    have hk := ke _ rfl
    exact r_ret dX12_byLaw_90 rfl hk
  · rw [if_neg c1] at h
    refine r_aload_n (q := 11) dX12_byLaw_10 rfl rfl ?_
    refine r_getr (b := 15) (q := 14) lk_X12_53 dX12_byLaw_11 sc_m_0 rfl rfl ?_
    refine r_iload_n (q := 15) dX12_byLaw_14 rfl rfl ?_
    obtain ⟨g2, h⟩ := mm_guard h
    refine r_iald (v := (s.2 15 (Int32.toNatClampNeg s.1))) (q := 16) dX12_byLaw_15 sc_m_15 (mm_vp g2) rfl rfl ?_
    refine r_iload_n (q := 17) dX12_byLaw_16 rfl rfl ?_
    refine r_icmp_ne 83 (q := 20) dX12_byLaw_17 (by decide) rfl (fun c3 => ?_) (fun c3 => ?_)
    · rw [if_neg c3] at h
      refine r_iinc (v := 1) (q := 86) (L' := [some (.inr 0), some (.inl x1), some (.inl x2), some (.inl (s.1 + 1)), none]) dX12_byLaw_83 (by decide) (by decide) rfl rfl rfl ?_
      refine r_goto 2 dX12_byLaw_86 (by decide) ?_
      cases h
      have hk := kb _ rfl
      exact hk
    · rw [if_pos c3] at h
      refine r_aload_n (q := 21) dX12_byLaw_20 rfl rfl ?_
      refine r_aload_n (q := 22) dX12_byLaw_21 rfl rfl ?_
      refine r_getr (b := 17) (q := 25) lk_X12_59 dX12_byLaw_22 sc_m_0 rfl rfl ?_
      refine r_iload_n (q := 26) dX12_byLaw_25 rfl rfl ?_
      obtain ⟨g4, h⟩ := mm_guard h
      refine r_iald (v := (s.2 17 (Int32.toNatClampNeg s.1))) (q := 27) dX12_byLaw_26 sc_m_17 (mm_vp g4) rfl rfl ?_
      refine r_aload_n (q := 28) dX12_byLaw_27 rfl rfl ?_
      refine r_getr (b := 18) (q := 31) lk_X12_62 dX12_byLaw_28 sc_m_0 rfl rfl ?_
      refine r_iload_n (q := 32) dX12_byLaw_31 rfl rfl ?_
      obtain ⟨g5, h⟩ := mm_guard h
      refine r_iald (v := (s.2 18 (Int32.toNatClampNeg s.1))) (q := 33) dX12_byLaw_32 sc_m_18 (mm_vp g5) rfl rfl ?_
      obtain ⟨y7, e6, h⟩ := Option.bind_eq_some_iff.mp h
      refine r_callV_i (av := [(.inl (s.2 17 (Int32.toNatClampNeg s.1))), (.inl (s.2 18 (Int32.toNatClampNeg s.1)))]) (st := []) (q := 36) (d1 := 1) kc_X12_245 sc_m_0 dX12_byLaw_33 rfl rfl (Nat.le_of_ble_eq_true rfl) (Nat.le_of_ble_eq_true rfl) (by omega) rfl rfl (t_X12_reckonsTo (d := 1) (by omega) (s.2 17 (Int32.toNatClampNeg s.1)) (s.2 18 (Int32.toNatClampNeg s.1)) s.2 _ e6) ?_
      refine r_iconst (v := 1) (q := 37) dX12_byLaw_36 (by decide) rfl ?_
      refine r_icmp_eq 43 (q := 40) dX12_byLaw_37 (by decide) rfl (fun c8 => ?_) (fun c8 => ?_)
      · rw [if_pos c8] at h
        refine r_forget (L' := [some (.inr 0), none, some (.inl x2), some (.inl s.1), none]) [true, false, true, true, false] rfl ?_
        cases h
        have hk := ke _ rfl
        exact hk
      · rw [if_neg c8] at h
        refine r_goto 83 dX12_byLaw_40 (by decide) ?_
        refine r_iinc (v := 1) (q := 86) (L' := [some (.inr 0), some (.inl x1), some (.inl x2), some (.inl (s.1 + 1)), none]) dX12_byLaw_83 (by decide) (by decide) rfl rfl rfl ?_
        refine r_goto 2 dX12_byLaw_86 (by decide) ?_
        cases h
        have hk := kb _ rfl
        exact hk
noncomputable def X12_byLaw (x1 : Int32) (x2 : Int32) (M : mm_M) : Option (Int32 × mm_M) := (mm_loop (X12_byLaw_l2 x1 x2) mm_fuel (0, M)).bind fun y9 => (match y9 with | .inl y9r => some y9r | .inr y9s => if mm_in y9s.1 16 = true then if mm_in y9s.1 16 = true then (X12_reckonsTo (y9s.2 16 (Int32.toNatClampNeg y9s.1)) (y9s.2 17 (Int32.toNatClampNeg y9s.1)) y9s.2).bind fun y14 => if 0 ≤ y14.1 then if y14.1 ≤ x2 then some (y14.1, y14.2) else some (x2, y14.2) else some (0, y14.2) else none else none)
set_option maxRecDepth 100000 in
set_option maxHeartbeats 400000 in
theorem t_X12_byLaw {d : Nat} (hd : 2 ≤ d) (x1 : Int32) (x2 : Int32) (M : mm_M) (res : (Int32 × mm_M)) (h : X12_byLaw x1 x2 M = some res) : mm_Meth jX12_byLaw d 0 0 [(.inr 0), (.inl x1), (.inl x2)] S_m M (mm_Zi res.1 S_m res.2) := by
  refine r_meth (L := [some (.inr 0), some (.inl x1), some (.inl x2), none, none]) rfl (fun D => ?_)
  unfold X12_byLaw at h
  refine r_iconst (v := 0) (q := 1) dX12_byLaw_0 (by decide) rfl ?_
  refine r_istore_n (q := 2) (L' := [some (.inr 0), some (.inl x1), some (.inl x2), some (.inl 0), none]) dX12_byLaw_1 (by decide) rfl rfl ?_
  obtain ⟨y9, e10, h⟩ := Option.bind_eq_some_iff.mp h
  refine t_X12_byLaw_l2 hd x1 x2 mm_fuel (0, M) _ e10 ?_
  rcases y9 with y9r | y9s
  · dsimp only at h
    cases h
    exact mm_Zi_rfl
  · dsimp only at h
    show mm_Go jX12_byLaw _ _ _ _ 43 [some (.inr 0), none, some (.inl x2), some (.inl y9s.1), none] [] S_m y9s.2 _
    refine r_aload_n (q := 44) dX12_byLaw_43 rfl rfl ?_
    refine r_aload_n (q := 45) dX12_byLaw_44 rfl rfl ?_
    refine r_getr (b := 16) (q := 48) lk_X12_56 dX12_byLaw_45 sc_m_0 rfl rfl ?_
    refine r_iload_n (q := 49) dX12_byLaw_48 rfl rfl ?_
    obtain ⟨g11, h⟩ := mm_guard h
    refine r_iald (v := (y9s.2 16 (Int32.toNatClampNeg y9s.1))) (q := 50) dX12_byLaw_49 sc_m_16 (mm_vp g11) rfl rfl ?_
    refine r_aload_n (q := 51) dX12_byLaw_50 rfl rfl ?_
    refine r_getr (b := 17) (q := 54) lk_X12_59 dX12_byLaw_51 sc_m_0 rfl rfl ?_
    refine r_iload_n (q := 55) dX12_byLaw_54 rfl rfl ?_
    obtain ⟨g12, h⟩ := mm_guard h
    refine r_iald (v := (y9s.2 17 (Int32.toNatClampNeg y9s.1))) (q := 56) dX12_byLaw_55 sc_m_17 (mm_vp g12) rfl rfl ?_
    obtain ⟨y14, e13, h⟩ := Option.bind_eq_some_iff.mp h
    refine r_callV_i (av := [(.inl (y9s.2 16 (Int32.toNatClampNeg y9s.1))), (.inl (y9s.2 17 (Int32.toNatClampNeg y9s.1)))]) (st := []) (q := 59) (d1 := 1) kc_X12_245 sc_m_0 dX12_byLaw_56 rfl rfl (Nat.le_of_ble_eq_true rfl) (Nat.le_of_ble_eq_true rfl) (by omega) rfl rfl (t_X12_reckonsTo (d := 1) (by omega) (y9s.2 16 (Int32.toNatClampNeg y9s.1)) (y9s.2 17 (Int32.toNatClampNeg y9s.1)) y9s.2 _ e13) ?_
    refine r_istore (q := 61) (L' := [some (.inr 0), none, some (.inl x2), some (.inl y9s.1), some (.inl y14.1)]) dX12_byLaw_59 (by decide) rfl rfl ?_
    refine r_iload (q := 63) dX12_byLaw_61 rfl rfl ?_
    refine r_if_ge 70 (q := 66) dX12_byLaw_63 (by decide) rfl (fun c15 => ?_) (fun c15 => ?_)
    · rw [if_pos c15] at h
      refine r_iload (q := 72) dX12_byLaw_70 rfl rfl ?_
      refine r_iload_n (q := 73) dX12_byLaw_72 rfl rfl ?_
      refine r_icmp_le 80 (q := 76) dX12_byLaw_73 (by decide) rfl (fun c16 => ?_) (fun c16 => ?_)
      · rw [if_pos c16] at h
        refine r_iload (q := 82) dX12_byLaw_80 rfl rfl ?_
        cases h
        exact r_ret dX12_byLaw_82 rfl mm_Zi_rfl
      · rw [if_neg c16] at h
        refine r_iload_n (q := 77) dX12_byLaw_76 rfl rfl ?_
        refine r_goto 82 dX12_byLaw_77 (by decide) ?_
        cases h
        exact r_ret dX12_byLaw_82 rfl mm_Zi_rfl
    · rw [if_neg c15] at h
      refine r_iconst (v := 0) (q := 67) dX12_byLaw_66 (by decide) rfl ?_
      refine r_goto 82 dX12_byLaw_67 (by decide) ?_
      cases h
      exact r_ret dX12_byLaw_82 rfl mm_Zi_rfl
