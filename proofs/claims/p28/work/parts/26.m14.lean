noncomputable def X12_likedMost_l7 (x1 : Int32) (s : (Int32 × Int32 × Int32 × mm_M)) : Option ((Int32 × Int32 × Int32 × mm_M) ⊕ (Int32 × mm_M)) := if 8 ≤ s.2.2.1 then some (.inr (s.1, s.2.2.2)) else (X12_feels s.2.2.1 (s.2.2.2 1 2) x1 s.2.2.2).bind fun y3 => if mm_in s.2.2.1 8 = true then if (y3 1 3) < (y3 4 (Int32.toNatClampNeg s.2.2.1)) then some (.inl (s.1, s.2.1, (s.2.2.1 + 1), y3)) else (X12_holdsAny 120 y3).bind fun y7 => if y7.1 = true then some (.inl (s.1, s.2.1, (s.2.2.1 + 1), y7.2)) else (X12_byLaw 101 9999 y7.2).bind fun y10 => if s.2.1 < y10.1 then some (.inl (s.2.2.1, y10.1, (s.2.2.1 + 1), y10.2)) else some (.inl (s.1, s.2.1, (s.2.2.1 + 1), y10.2)) else none
set_option maxRecDepth 100000 in
set_option maxHeartbeats 400000 in
theorem t_X12_likedMost_l7 {D : mm_D} {d : Nat} (hd : 3 ≤ d) {Z : Option Int32 → List mm_C → mm_M → Prop} (x1 : Int32) (n : Nat) (s : (Int32 × Int32 × Int32 × mm_M)) (r : (Int32 × mm_M)) (h : mm_loop (X12_likedMost_l7 x1) n s = some r) (hx : Z (some r.1) S_m r.2) : mm_Go jX12_likedMost D d 0 0 7 [some (.inr 0), some (.inl x1), some (.inl s.1), some (.inl s.2.1), some (.inl s.2.2.1), none] [] S_m s.2.2.2 Z := by
  refine mm_loop_go (step := X12_likedMost_l7 x1) (Hd := fun (s : (Int32 × Int32 × Int32 × mm_M)) => mm_Go jX12_likedMost D d 0 0 7 [some (.inr 0), some (.inl x1), some (.inl s.1), some (.inl s.2.1), some (.inl s.2.2.1), none] [] S_m s.2.2.2 Z) (Ex := fun (r : (Int32 × mm_M)) => Z (some r.1) S_m r.2) ?_ n s r h hx
  intro s o h kb ke
  show mm_Go jX12_likedMost D d 0 0 7 [some (.inr 0), some (.inl x1), some (.inl s.1), some (.inl s.2.1), some (.inl s.2.2.1), none] [] S_m s.2.2.2 Z
  unfold X12_likedMost_l7 at h
  refine r_iload (q := 9) dX12_likedMost_7 rfl rfl ?_
  refine r_bipush (v := 8) (q := 11) dX12_likedMost_9 (by decide) rfl ?_
  refine r_icmp_ge 87 (q := 14) dX12_likedMost_11 (by decide) rfl (fun c1 => ?_) (fun c1 => ?_)
  · rw [if_pos c1] at h
    refine r_iload_n (q := 88) dX12_likedMost_87 rfl rfl ?_
    cases h
    have hk := ke _ rfl
    exact r_ret dX12_likedMost_88 rfl hk
  · rw [if_neg c1] at h
    refine r_aload_n (q := 15) dX12_likedMost_14 rfl rfl ?_
    refine r_iload (q := 17) dX12_likedMost_15 rfl rfl ?_
    refine r_aload_n (q := 18) dX12_likedMost_17 rfl rfl ?_
    refine r_getr (b := 1) (q := 21) lk_X12_7 dX12_likedMost_18 sc_m_0 rfl rfl ?_
    refine r_iconst (v := 2) (q := 22) dX12_likedMost_21 (by decide) rfl ?_
    refine r_iald (v := (s.2.2.2 1 2)) (q := 23) dX12_likedMost_22 sc_m_1 (mm_vp (by decide)) rfl rfl ?_
    refine r_iload_n (q := 24) dX12_likedMost_23 rfl rfl ?_
    obtain ⟨y3, e2, h⟩ := Option.bind_eq_some_iff.mp h
    refine r_callV_v (av := [(.inl s.2.2.1), (.inl (s.2.2.2 1 2)), (.inl x1)]) (st := []) (q := 27) (d1 := 0) kc_X12_331 sc_m_0 dX12_likedMost_24 rfl rfl (Nat.le_of_ble_eq_true rfl) (Nat.le_of_ble_eq_true rfl) (by omega) rfl rfl (t_X12_feels (d := 0) (by omega) s.2.2.1 (s.2.2.2 1 2) x1 s.2.2.2 _ e2) ?_
    refine r_aload_n (q := 28) dX12_likedMost_27 rfl rfl ?_
    refine r_getr (b := 4) (q := 31) lk_X12_19 dX12_likedMost_28 sc_m_0 rfl rfl ?_
    refine r_iload (q := 33) dX12_likedMost_31 rfl rfl ?_
    obtain ⟨g4, h⟩ := mm_guard h
    refine r_iald (v := (y3 4 (Int32.toNatClampNeg s.2.2.1))) (q := 34) dX12_likedMost_33 sc_m_4 (mm_vp g4) rfl rfl ?_
    refine r_aload_n (q := 35) dX12_likedMost_34 rfl rfl ?_
    refine r_getr (b := 1) (q := 38) lk_X12_7 dX12_likedMost_35 sc_m_0 rfl rfl ?_
    refine r_iconst (v := 3) (q := 39) dX12_likedMost_38 (by decide) rfl ?_
    refine r_iald (v := (y3 1 3)) (q := 40) dX12_likedMost_39 sc_m_1 (mm_vp (by decide)) rfl rfl ?_
    refine r_icmp_gt 81 (q := 43) dX12_likedMost_40 (by decide) rfl (fun c5 => ?_) (fun c5 => ?_)
    · rw [if_pos c5] at h
      refine r_iinc (v := 1) (q := 84) (L' := [some (.inr 0), some (.inl x1), some (.inl s.1), some (.inl s.2.1), some (.inl (s.2.2.1 + 1)), none]) dX12_likedMost_81 (by decide) (by decide) rfl rfl rfl ?_
      refine r_goto 7 dX12_likedMost_84 (by decide) ?_
      cases h
      have hk := kb _ rfl
      exact hk
    · rw [if_neg c5] at h
      refine r_aload_n (q := 44) dX12_likedMost_43 rfl rfl ?_
      refine r_bipush (v := 120) (q := 46) dX12_likedMost_44 (by decide) rfl ?_
      obtain ⟨y7, e6, h⟩ := Option.bind_eq_some_iff.mp h
      refine r_callV_i (av := [(.inl 120)]) (st := []) (q := 49) (d1 := 2) kc_X12_335 sc_m_0 dX12_likedMost_46 rfl rfl (Nat.le_of_ble_eq_true rfl) (Nat.le_of_ble_eq_true rfl) (by omega) rfl rfl (t_X12_holdsAny (d := 2) (by omega) 120 y3 _ e6) ?_
      refine r_if_eq 55 (q := 52) dX12_likedMost_49 (by decide) rfl (fun c8 => ?_) (fun c8 => ?_)
      · rw [if_neg (mm_b0 c8)] at h
        refine r_aload_n (q := 56) dX12_likedMost_55 rfl rfl ?_
        refine r_bipush (v := 101) (q := 58) dX12_likedMost_56 (by decide) rfl ?_
        refine r_sipush (v := 9999) (q := 61) dX12_likedMost_58 (by decide) rfl ?_
        obtain ⟨y10, e9, h⟩ := Option.bind_eq_some_iff.mp h
        refine r_callV_i (av := [(.inl 101), (.inl 9999)]) (st := []) (q := 64) (d1 := 2) kc_X12_338 sc_m_0 dX12_likedMost_61 rfl rfl (Nat.le_of_ble_eq_true rfl) (Nat.le_of_ble_eq_true rfl) (by omega) rfl rfl (t_X12_byLaw (d := 2) (by omega) 101 9999 y7.2 _ e9) ?_
        refine r_istore (q := 66) (L' := [some (.inr 0), some (.inl x1), some (.inl s.1), some (.inl s.2.1), some (.inl s.2.2.1), some (.inl y10.1)]) dX12_likedMost_64 (by decide) rfl rfl ?_
        refine r_iload (q := 68) dX12_likedMost_66 rfl rfl ?_
        refine r_iload_n (q := 69) dX12_likedMost_68 rfl rfl ?_
        refine r_icmp_gt 75 (q := 72) dX12_likedMost_69 (by decide) rfl (fun c11 => ?_) (fun c11 => ?_)
        · rw [if_pos c11] at h
          refine r_iload (q := 77) dX12_likedMost_75 rfl rfl ?_
          refine r_istore_n (q := 78) (L' := [some (.inr 0), some (.inl x1), some (.inl s.1), some (.inl y10.1), some (.inl s.2.2.1), some (.inl y10.1)]) dX12_likedMost_77 (by decide) rfl rfl ?_
          refine r_iload (q := 80) dX12_likedMost_78 rfl rfl ?_
          refine r_istore_n (q := 81) (L' := [some (.inr 0), some (.inl x1), some (.inl s.2.2.1), some (.inl y10.1), some (.inl s.2.2.1), some (.inl y10.1)]) dX12_likedMost_80 (by decide) rfl rfl ?_
          refine r_iinc (v := 1) (q := 84) (L' := [some (.inr 0), some (.inl x1), some (.inl s.2.2.1), some (.inl y10.1), some (.inl (s.2.2.1 + 1)), some (.inl y10.1)]) dX12_likedMost_81 (by decide) (by decide) rfl rfl rfl ?_
          refine r_goto 7 dX12_likedMost_84 (by decide) ?_
          refine r_forget (L' := [some (.inr 0), some (.inl x1), some (.inl s.2.2.1), some (.inl y10.1), some (.inl (s.2.2.1 + 1)), none]) [true, true, true, true, true, false] rfl ?_
          cases h
          have hk := kb _ rfl
          exact hk
        · rw [if_neg c11] at h
          refine r_goto 81 dX12_likedMost_72 (by decide) ?_
          refine r_iinc (v := 1) (q := 84) (L' := [some (.inr 0), some (.inl x1), some (.inl s.1), some (.inl s.2.1), some (.inl (s.2.2.1 + 1)), some (.inl y10.1)]) dX12_likedMost_81 (by decide) (by decide) rfl rfl rfl ?_
          refine r_goto 7 dX12_likedMost_84 (by decide) ?_
          refine r_forget (L' := [some (.inr 0), some (.inl x1), some (.inl s.1), some (.inl s.2.1), some (.inl (s.2.2.1 + 1)), none]) [true, true, true, true, true, false] rfl ?_
          cases h
          have hk := kb _ rfl
          exact hk
      · rw [if_pos (mm_b1 c8)] at h
        refine r_goto 81 dX12_likedMost_52 (by decide) ?_
        refine r_iinc (v := 1) (q := 84) (L' := [some (.inr 0), some (.inl x1), some (.inl s.1), some (.inl s.2.1), some (.inl (s.2.2.1 + 1)), none]) dX12_likedMost_81 (by decide) (by decide) rfl rfl rfl ?_
        refine r_goto 7 dX12_likedMost_84 (by decide) ?_
        cases h
        have hk := kb _ rfl
        exact hk
noncomputable def X12_likedMost (x1 : Int32) (M : mm_M) : Option (Int32 × mm_M) := (mm_loop (X12_likedMost_l7 x1) mm_fuel ((-1), 0, 0, M))
set_option maxRecDepth 100000 in
set_option maxHeartbeats 400000 in
theorem t_X12_likedMost {d : Nat} (hd : 3 ≤ d) (x1 : Int32) (M : mm_M) (res : (Int32 × mm_M)) (h : X12_likedMost x1 M = some res) : mm_Meth jX12_likedMost d 0 0 [(.inr 0), (.inl x1)] S_m M (mm_Zi res.1 S_m res.2) := by
  refine r_meth (L := [some (.inr 0), some (.inl x1), none, none, none, none]) rfl (fun D => ?_)
  unfold X12_likedMost at h
  refine r_iconst (v := (-1)) (q := 1) dX12_likedMost_0 (by decide) rfl ?_
  refine r_istore_n (q := 2) (L' := [some (.inr 0), some (.inl x1), some (.inl (-1)), none, none, none]) dX12_likedMost_1 (by decide) rfl rfl ?_
  refine r_iconst (v := 0) (q := 3) dX12_likedMost_2 (by decide) rfl ?_
  refine r_istore_n (q := 4) (L' := [some (.inr 0), some (.inl x1), some (.inl (-1)), some (.inl 0), none, none]) dX12_likedMost_3 (by decide) rfl rfl ?_
  refine r_iconst (v := 0) (q := 5) dX12_likedMost_4 (by decide) rfl ?_
  refine r_istore (q := 7) (L' := [some (.inr 0), some (.inl x1), some (.inl (-1)), some (.inl 0), some (.inl 0), none]) dX12_likedMost_5 (by decide) rfl rfl ?_
  exact t_X12_likedMost_l7 hd x1 mm_fuel ((-1), 0, 0, M) _ h mm_Zi_rfl
noncomputable def X12_dayGoes_j127 (M : mm_M) : Option mm_M := some (mm_U M 1 6 ((M 1 6) + 1))
set_option maxRecDepth 100000 in
set_option maxHeartbeats 400000 in
theorem t_X12_dayGoes_j127 {D : mm_D} {d : Nat} (hd : 4 ≤ d) (M : mm_M) (res : mm_M) (h : X12_dayGoes_j127 M = some res) : mm_Go jX12_dayGoes D d 0 0 127 [some (.inr 0), none, none] [] S_m M (mm_Zv S_m res) := by
  unfold X12_dayGoes_j127 at h
  refine r_aload_n (q := 128) dX12_dayGoes_127 rfl rfl ?_
  refine r_getr (b := 1) (q := 131) lk_X12_7 dX12_dayGoes_128 sc_m_0 rfl rfl ?_
  refine r_bipush (v := 6) (q := 133) dX12_dayGoes_131 (by decide) rfl ?_
  refine r_aload_n (q := 134) dX12_dayGoes_133 rfl rfl ?_
  refine r_getr (b := 1) (q := 137) lk_X12_7 dX12_dayGoes_134 sc_m_0 rfl rfl ?_
  refine r_bipush (v := 6) (q := 139) dX12_dayGoes_137 (by decide) rfl ?_
  refine r_iald (v := (M 1 6)) (q := 140) dX12_dayGoes_139 sc_m_1 (mm_vp (by decide)) rfl rfl ?_
  refine r_iconst (v := 1) (q := 141) dX12_dayGoes_140 (by decide) rfl ?_
  refine r_iadd (q := 142) dX12_dayGoes_141 rfl ?_
  refine r_iast (j := 6) (q := 143) dX12_dayGoes_142 sc_m_1 (mm_vp (by decide)) rfl rfl ?_
  cases h
  exact r_retv dX12_dayGoes_143 rfl mm_Zv_rfl
noncomputable def X12_dayGoes_j53 (x1 : Int32) (z0 : Int32) (M : mm_M) : Option mm_M := if z0 = (-1) then X12_dayGoes_j127 M else if mm_in z0 8 = true then (X12_asks z0 (mm_U M 1 3 ((M 1 3) - (M 4 (Int32.toNatClampNeg z0))))).bind fun y5 => (X12_feels z0 z0 x1 (mm_U y5 0 48 ((y5 0 48) + 1))).bind fun y7 => (X12_byLaw 103 99 y7).bind fun y9 => X12_dayGoes_j127 (mm_U y9.2 1 3 (X12_min 9999 ((y7 1 3) + y9.1))) else none
set_option maxRecDepth 100000 in
set_option maxHeartbeats 400000 in
theorem t_X12_dayGoes_j53 {D : mm_D} {d : Nat} (hd : 4 ≤ d) (x1 : Int32) (z0 : Int32) (M : mm_M) (res : mm_M) (h : X12_dayGoes_j53 x1 z0 M = some res) : mm_Go jX12_dayGoes D d 0 0 53 [some (.inr 0), some (.inl x1), none] [(.inl z0)] S_m M (mm_Zv S_m res) := by
  unfold X12_dayGoes_j53 at h
  refine r_istore_n (q := 54) (L' := [some (.inr 0), some (.inl x1), some (.inl z0)]) dX12_dayGoes_53 (by decide) rfl rfl ?_
  refine r_iload_n (q := 55) dX12_dayGoes_54 rfl rfl ?_
  refine r_iconst (v := (-1)) (q := 56) dX12_dayGoes_55 (by decide) rfl ?_
  refine r_icmp_eq 127 (q := 59) dX12_dayGoes_56 (by decide) rfl (fun c2 => ?_) (fun c2 => ?_)
  · rw [if_pos c2] at h
    refine r_forget (L' := [some (.inr 0), none, none]) [true, false, false] rfl ?_
    exact t_X12_dayGoes_j127 hd M _ h
  · rw [if_neg c2] at h
    refine r_aload_n (q := 60) dX12_dayGoes_59 rfl rfl ?_
    refine r_getr (b := 1) (q := 63) lk_X12_7 dX12_dayGoes_60 sc_m_0 rfl rfl ?_
    refine r_iconst (v := 3) (q := 64) dX12_dayGoes_63 (by decide) rfl ?_
    refine r_aload_n (q := 65) dX12_dayGoes_64 rfl rfl ?_
    refine r_getr (b := 1) (q := 68) lk_X12_7 dX12_dayGoes_65 sc_m_0 rfl rfl ?_
    refine r_iconst (v := 3) (q := 69) dX12_dayGoes_68 (by decide) rfl ?_
    refine r_iald (v := (M 1 3)) (q := 70) dX12_dayGoes_69 sc_m_1 (mm_vp (by decide)) rfl rfl ?_
    refine r_aload_n (q := 71) dX12_dayGoes_70 rfl rfl ?_
    refine r_getr (b := 4) (q := 74) lk_X12_19 dX12_dayGoes_71 sc_m_0 rfl rfl ?_
    refine r_iload_n (q := 75) dX12_dayGoes_74 rfl rfl ?_
    obtain ⟨g3, h⟩ := mm_guard h
    refine r_iald (v := (M 4 (Int32.toNatClampNeg z0))) (q := 76) dX12_dayGoes_75 sc_m_4 (mm_vp g3) rfl rfl ?_
    refine r_isub (q := 77) dX12_dayGoes_76 rfl ?_
    refine r_iast (j := 3) (q := 78) dX12_dayGoes_77 sc_m_1 (mm_vp (by decide)) rfl rfl ?_
    refine r_aload_n (q := 79) dX12_dayGoes_78 rfl rfl ?_
    refine r_iload_n (q := 80) dX12_dayGoes_79 rfl rfl ?_
    obtain ⟨y5, e4, h⟩ := Option.bind_eq_some_iff.mp h
    refine r_callV_v (av := [(.inl z0)]) (st := []) (q := 83) (d1 := 1) kc_X12_315 sc_m_0 dX12_dayGoes_80 rfl rfl (Nat.le_of_ble_eq_true rfl) (Nat.le_of_ble_eq_true rfl) (by omega) rfl rfl (t_X12_asks (d := 1) (by omega) z0 (mm_U M 1 3 ((M 1 3) - (M 4 (Int32.toNatClampNeg z0)))) _ e4) ?_
    refine r_aload_n (q := 84) dX12_dayGoes_83 rfl rfl ?_
    refine r_aload_n (q := 85) dX12_dayGoes_84 rfl rfl ?_
    refine r_geti (v := (y5 0 48)) (q := 88) lk_X12_345 dX12_dayGoes_85 sc_m_0 rfl rfl rfl ?_
    refine r_iconst (v := 1) (q := 89) dX12_dayGoes_88 (by decide) rfl ?_
    refine r_iadd (q := 90) dX12_dayGoes_89 rfl ?_
    refine r_puti (q := 93) lk_X12_345 ft_9_48 dX12_dayGoes_90 sc_m_0 rfl rfl ?_
    refine r_aload_n (q := 94) dX12_dayGoes_93 rfl rfl ?_
    refine r_iload_n (q := 95) dX12_dayGoes_94 rfl rfl ?_
    refine r_iload_n (q := 96) dX12_dayGoes_95 rfl rfl ?_
    refine r_iload_n (q := 97) dX12_dayGoes_96 rfl rfl ?_
    obtain ⟨y7, e6, h⟩ := Option.bind_eq_some_iff.mp h
    refine r_callV_v (av := [(.inl z0), (.inl z0), (.inl x1)]) (st := []) (q := 100) (d1 := 0) kc_X12_331 sc_m_0 dX12_dayGoes_97 rfl rfl (Nat.le_of_ble_eq_true rfl) (Nat.le_of_ble_eq_true rfl) (by omega) rfl rfl (t_X12_feels (d := 0) (by omega) z0 z0 x1 (mm_U y5 0 48 ((y5 0 48) + 1)) _ e6) ?_
    refine r_aload_n (q := 101) dX12_dayGoes_100 rfl rfl ?_
    refine r_getr (b := 1) (q := 104) lk_X12_7 dX12_dayGoes_101 sc_m_0 rfl rfl ?_
    refine r_iconst (v := 3) (q := 105) dX12_dayGoes_104 (by decide) rfl ?_
    refine r_sipush (v := 9999) (q := 108) dX12_dayGoes_105 (by decide) rfl ?_
    refine r_aload_n (q := 109) dX12_dayGoes_108 rfl rfl ?_
    refine r_getr (b := 1) (q := 112) lk_X12_7 dX12_dayGoes_109 sc_m_0 rfl rfl ?_
    refine r_iconst (v := 3) (q := 113) dX12_dayGoes_112 (by decide) rfl ?_
    refine r_iald (v := (y7 1 3)) (q := 114) dX12_dayGoes_113 sc_m_1 (mm_vp (by decide)) rfl rfl ?_
    refine r_aload_n (q := 115) dX12_dayGoes_114 rfl rfl ?_
    refine r_bipush (v := 103) (q := 117) dX12_dayGoes_115 (by decide) rfl ?_
    refine r_bipush (v := 99) (q := 119) dX12_dayGoes_117 (by decide) rfl ?_
    obtain ⟨y9, e8, h⟩ := Option.bind_eq_some_iff.mp h
    refine r_callV_i (av := [(.inl 103), (.inl 99)]) (st := [(.inl (y7 1 3)), (.inl 9999), (.inl 3), (.inr 1)]) (q := 122) (d1 := 2) kc_X12_338 sc_m_0 dX12_dayGoes_119 rfl rfl (Nat.le_of_ble_eq_true rfl) (Nat.le_of_ble_eq_true rfl) (by omega) rfl rfl (t_X12_byLaw (d := 2) (by omega) 103 99 y7 _ e8) ?_
    refine r_iadd (q := 123) dX12_dayGoes_122 rfl ?_
    refine r_callS_i (av := [(.inl 9999), (.inl ((y7 1 3) + y9.1))]) (st := [(.inl 3), (.inr 1)]) (q := 126) (d1 := 0) kc_X12_302 dX12_dayGoes_123 rfl rfl (Nat.le_of_ble_eq_true rfl) (Nat.le_of_ble_eq_true rfl) (by omega) rfl rfl (t_X12_min (d := 0) (by omega) 9999 ((y7 1 3) + y9.1) y9.2 _ rfl) ?_
    refine r_iast (j := 3) (q := 127) dX12_dayGoes_126 sc_m_1 (mm_vp (by decide)) rfl rfl ?_
    refine r_forget (L' := [some (.inr 0), none, none]) [true, false, false] rfl ?_
    exact t_X12_dayGoes_j127 hd (mm_U y9.2 1 3 (X12_min 9999 ((y7 1 3) + y9.1))) _ h
noncomputable def X12_dayGoes (M : mm_M) : Option mm_M := if (M 0 6) = 0 then X12_dayGoes_j53 (((((25173 : Int32) * (M 1 7)) + 13849) - (((25173 : Int32) * (M 1 7)) + 13849) / 65536 * 65536) - ((((25173 : Int32) * (M 1 7)) + 13849) - (((25173 : Int32) * (M 1 7)) + 13849) / 65536 * 65536) / 10 * 10) (-1) (mm_U M 1 7 ((((25173 : Int32) * (M 1 7)) + 13849) - (((25173 : Int32) * (M 1 7)) + 13849) / 65536 * 65536)) else (X12_likedMost (((((25173 : Int32) * (M 1 7)) + 13849) - (((25173 : Int32) * (M 1 7)) + 13849) / 65536 * 65536) - ((((25173 : Int32) * (M 1 7)) + 13849) - (((25173 : Int32) * (M 1 7)) + 13849) / 65536 * 65536) / 10 * 10) (mm_U M 1 7 ((((25173 : Int32) * (M 1 7)) + 13849) - (((25173 : Int32) * (M 1 7)) + 13849) / 65536 * 65536))).bind fun y11 => X12_dayGoes_j53 (((((25173 : Int32) * (M 1 7)) + 13849) - (((25173 : Int32) * (M 1 7)) + 13849) / 65536 * 65536) - ((((25173 : Int32) * (M 1 7)) + 13849) - (((25173 : Int32) * (M 1 7)) + 13849) / 65536 * 65536) / 10 * 10) y11.1 y11.2
set_option maxRecDepth 100000 in
set_option maxHeartbeats 400000 in
theorem t_X12_dayGoes {d : Nat} (hd : 4 ≤ d) (M : mm_M) (res : mm_M) (h : X12_dayGoes M = some res) : mm_Meth jX12_dayGoes d 0 0 [(.inr 0)] S_m M (mm_Zv S_m res) := by
  refine r_meth (L := [some (.inr 0), none, none]) rfl (fun D => ?_)
  unfold X12_dayGoes at h
  refine r_aload_n (q := 1) dX12_dayGoes_0 rfl rfl ?_
  refine r_getr (b := 1) (q := 4) lk_X12_7 dX12_dayGoes_1 sc_m_0 rfl rfl ?_
  refine r_bipush (v := 7) (q := 6) dX12_dayGoes_4 (by decide) rfl ?_
  refine r_sipush (v := 25173) (q := 9) dX12_dayGoes_6 (by decide) rfl ?_
  refine r_aload_n (q := 10) dX12_dayGoes_9 rfl rfl ?_
  refine r_getr (b := 1) (q := 13) lk_X12_7 dX12_dayGoes_10 sc_m_0 rfl rfl ?_
  refine r_bipush (v := 7) (q := 15) dX12_dayGoes_13 (by decide) rfl ?_
  refine r_iald (v := (M 1 7)) (q := 16) dX12_dayGoes_15 sc_m_1 (mm_vp (by decide)) rfl rfl ?_
  refine r_imul (q := 17) dX12_dayGoes_16 rfl ?_
  refine r_sipush (v := 13849) (q := 20) dX12_dayGoes_17 (by decide) rfl ?_
  refine r_iadd (q := 21) dX12_dayGoes_20 rfl ?_
  refine r_ldcw (v := 65536) (q := 24) dX12_dayGoes_21 ko_X12_341 rfl ?_
  refine r_irem (q := 25) dX12_dayGoes_24 (by decide) rfl ?_
  refine r_iast (j := 7) (q := 26) dX12_dayGoes_25 sc_m_1 (mm_vp (by decide)) rfl rfl ?_
  refine r_aload_n (q := 27) dX12_dayGoes_26 rfl rfl ?_
  refine r_getr (b := 1) (q := 30) lk_X12_7 dX12_dayGoes_27 sc_m_0 rfl rfl ?_
  refine r_bipush (v := 7) (q := 32) dX12_dayGoes_30 (by decide) rfl ?_
  refine r_iald (v := ((((25173 : Int32) * (M 1 7)) + 13849) - (((25173 : Int32) * (M 1 7)) + 13849) / 65536 * 65536)) (q := 33) dX12_dayGoes_32 sc_m_1 (mm_vp (by decide)) rfl rfl ?_
  refine r_bipush (v := 10) (q := 35) dX12_dayGoes_33 (by decide) rfl ?_
  refine r_irem (q := 36) dX12_dayGoes_35 (by decide) rfl ?_
  refine r_istore_n (q := 37) (L' := [some (.inr 0), some (.inl (((((25173 : Int32) * (M 1 7)) + 13849) - (((25173 : Int32) * (M 1 7)) + 13849) / 65536 * 65536) - ((((25173 : Int32) * (M 1 7)) + 13849) - (((25173 : Int32) * (M 1 7)) + 13849) / 65536 * 65536) / 10 * 10)), none]) dX12_dayGoes_36 (by decide) rfl rfl ?_
  refine r_aload_n (q := 38) dX12_dayGoes_37 rfl rfl ?_
  refine r_geti (v := (M 0 6)) (q := 41) lk_X12_123 dX12_dayGoes_38 sc_m_0 rfl rfl rfl ?_
  refine r_if_ne 48 (q := 44) dX12_dayGoes_41 (by decide) rfl (fun c1 => ?_) (fun c1 => ?_)
  · rw [if_neg c1] at h
    refine r_aload_n (q := 49) dX12_dayGoes_48 rfl rfl ?_
    refine r_iload_n (q := 50) dX12_dayGoes_49 rfl rfl ?_
    obtain ⟨y11, e10, h⟩ := Option.bind_eq_some_iff.mp h
    refine r_callV_i (av := [(.inl (((((25173 : Int32) * (M 1 7)) + 13849) - (((25173 : Int32) * (M 1 7)) + 13849) / 65536 * 65536) - ((((25173 : Int32) * (M 1 7)) + 13849) - (((25173 : Int32) * (M 1 7)) + 13849) / 65536 * 65536) / 10 * 10))]) (st := []) (q := 53) (d1 := 3) kc_X12_342 sc_m_0 dX12_dayGoes_50 rfl rfl (Nat.le_of_ble_eq_true rfl) (Nat.le_of_ble_eq_true rfl) (by omega) rfl rfl (t_X12_likedMost (d := 3) (by omega) (((((25173 : Int32) * (M 1 7)) + 13849) - (((25173 : Int32) * (M 1 7)) + 13849) / 65536 * 65536) - ((((25173 : Int32) * (M 1 7)) + 13849) - (((25173 : Int32) * (M 1 7)) + 13849) / 65536 * 65536) / 10 * 10) (mm_U M 1 7 ((((25173 : Int32) * (M 1 7)) + 13849) - (((25173 : Int32) * (M 1 7)) + 13849) / 65536 * 65536)) _ e10) ?_
    exact t_X12_dayGoes_j53 hd (((((25173 : Int32) * (M 1 7)) + 13849) - (((25173 : Int32) * (M 1 7)) + 13849) / 65536 * 65536) - ((((25173 : Int32) * (M 1 7)) + 13849) - (((25173 : Int32) * (M 1 7)) + 13849) / 65536 * 65536) / 10 * 10) y11.1 y11.2 _ h
  · rw [if_pos c1] at h
    refine r_iconst (v := (-1)) (q := 45) dX12_dayGoes_44 (by decide) rfl ?_
    refine r_goto 53 dX12_dayGoes_45 (by decide) ?_
    exact t_X12_dayGoes_j53 hd (((((25173 : Int32) * (M 1 7)) + 13849) - (((25173 : Int32) * (M 1 7)) + 13849) / 65536 * 65536) - ((((25173 : Int32) * (M 1 7)) + 13849) - (((25173 : Int32) * (M 1 7)) + 13849) / 65536 * 65536) / 10 * 10) (-1) (mm_U M 1 7 ((((25173 : Int32) * (M 1 7)) + 13849) - (((25173 : Int32) * (M 1 7)) + 13849) / 65536 * 65536)) _ h
noncomputable def X12_daysGo_l12 (x1 : Int32) (s : (Int32 × mm_M)) : Option ((Int32 × mm_M) ⊕ mm_M) := if x1 ≤ s.1 then some (.inr s.2) else if 9999 ≤ (s.2 1 6) then some (.inr s.2) else (X12_dayGoes s.2).bind fun y4 => some (.inl ((s.1 + 1), y4))
set_option maxRecDepth 100000 in
set_option maxHeartbeats 400000 in
theorem t_X12_daysGo_l12 {D : mm_D} {d : Nat} (hd : 5 ≤ d) {Z : Option Int32 → List mm_C → mm_M → Prop} (x1 : Int32) (n : Nat) (s : (Int32 × mm_M)) (r : mm_M) (h : mm_loop (X12_daysGo_l12 x1) n s = some r) (hx : Z none S_m r) : mm_Go jX12_daysGo D d 0 0 12 [some (.inr 0), some (.inl x1), some (.inl s.1)] [] S_m s.2 Z := by
  refine mm_loop_go (step := X12_daysGo_l12 x1) (Hd := fun (s : (Int32 × mm_M)) => mm_Go jX12_daysGo D d 0 0 12 [some (.inr 0), some (.inl x1), some (.inl s.1)] [] S_m s.2 Z) (Ex := fun (r : mm_M) => Z none S_m r) ?_ n s r h hx
  intro s o h kb ke
  show mm_Go jX12_daysGo D d 0 0 12 [some (.inr 0), some (.inl x1), some (.inl s.1)] [] S_m s.2 Z
  unfold X12_daysGo_l12 at h
  refine r_iload_n (q := 13) dX12_daysGo_12 rfl rfl ?_
  refine r_iload_n (q := 14) dX12_daysGo_13 rfl rfl ?_
  refine r_icmp_ge 40 (q := 17) dX12_daysGo_14 (by decide) rfl (fun c1 => ?_) (fun c1 => ?_)
  · rw [if_pos c1] at h
    cases h
    have hk := ke _ rfl
    exact r_retv dX12_daysGo_40 rfl hk
  · rw [if_neg c1] at h
    refine r_aload_n (q := 18) dX12_daysGo_17 rfl rfl ?_
    refine r_getr (b := 1) (q := 21) lk_X12_7 dX12_daysGo_18 sc_m_0 rfl rfl ?_
    refine r_bipush (v := 6) (q := 23) dX12_daysGo_21 (by decide) rfl ?_
    refine r_iald (v := (s.2 1 6)) (q := 24) dX12_daysGo_23 sc_m_1 (mm_vp (by decide)) rfl rfl ?_
    refine r_sipush (v := 9999) (q := 27) dX12_daysGo_24 (by decide) rfl ?_
    refine r_icmp_ge 40 (q := 30) dX12_daysGo_27 (by decide) rfl (fun c2 => ?_) (fun c2 => ?_)
    · rw [if_pos c2] at h
      cases h
      have hk := ke _ rfl
      exact r_retv dX12_daysGo_40 rfl hk
    · rw [if_neg c2] at h
      refine r_aload_n (q := 31) dX12_daysGo_30 rfl rfl ?_
      obtain ⟨y4, e3, h⟩ := Option.bind_eq_some_iff.mp h
      refine r_callV_v (av := []) (st := []) (q := 34) (d1 := 4) kc_X12_348 sc_m_0 dX12_daysGo_31 rfl rfl (Nat.le_of_ble_eq_true rfl) (Nat.le_of_ble_eq_true rfl) (by omega) rfl rfl (t_X12_dayGoes (d := 4) (by omega) s.2 _ e3) ?_
      refine r_iinc (v := 1) (q := 37) (L' := [some (.inr 0), some (.inl x1), some (.inl (s.1 + 1))]) dX12_daysGo_34 (by decide) (by decide) rfl rfl rfl ?_
      refine r_goto 12 dX12_daysGo_37 (by decide) ?_
      cases h
      have hk := kb _ rfl
      exact hk
noncomputable def X12_daysGo (x1 : Int32) (M : mm_M) : Option mm_M := (mm_loop (X12_daysGo_l12 x1) mm_fuel (0, (mm_U (mm_U M 0 48 0) 0 45 0)))
set_option maxRecDepth 100000 in
set_option maxHeartbeats 400000 in
theorem t_X12_daysGo {d : Nat} (hd : 5 ≤ d) (x1 : Int32) (M : mm_M) (res : mm_M) (h : X12_daysGo x1 M = some res) : mm_Meth jX12_daysGo d 0 0 [(.inr 0), (.inl x1)] S_m M (mm_Zv S_m res) := by
  refine r_meth (L := [some (.inr 0), some (.inl x1), none]) rfl (fun D => ?_)
  unfold X12_daysGo at h
  refine r_aload_n (q := 1) dX12_daysGo_0 rfl rfl ?_
  refine r_iconst (v := 0) (q := 2) dX12_daysGo_1 (by decide) rfl ?_
  refine r_puti (q := 5) lk_X12_345 ft_9_48 dX12_daysGo_2 sc_m_0 rfl rfl ?_
  refine r_aload_n (q := 6) dX12_daysGo_5 rfl rfl ?_
  refine r_iconst (v := 0) (q := 7) dX12_daysGo_6 (by decide) rfl ?_
  refine r_puti (q := 10) lk_X12_309 ft_9_45 dX12_daysGo_7 sc_m_0 rfl rfl ?_
  refine r_iconst (v := 0) (q := 11) dX12_daysGo_10 (by decide) rfl ?_
  refine r_istore_n (q := 12) (L' := [some (.inr 0), some (.inl x1), some (.inl 0)]) dX12_daysGo_11 (by decide) rfl rfl ?_
  exact t_X12_daysGo_l12 hd x1 mm_fuel (0, (mm_U (mm_U M 0 48 0) 0 45 0)) _ h mm_Zv_rfl
noncomputable def X12_days (x1 : Int32) (M : mm_M) : Option (Int32 × mm_M) := if (X12_in x1 1 100) = true then (X12_daysGo x1 M).bind fun y3 => some ((y3 0 48), y3) else some ((-1), M)
set_option maxRecDepth 100000 in
set_option maxHeartbeats 400000 in
theorem t_X12_days {d : Nat} (hd : 6 ≤ d) (x1 : Int32) (M : mm_M) (res : (Int32 × mm_M)) (h : X12_days x1 M = some res) : mm_Meth jX12_days d 0 0 [(.inr 0), (.inl x1)] S_m M (mm_Zi res.1 S_m res.2) := by
  refine r_meth (L := [some (.inr 0), some (.inl x1)]) rfl (fun D => ?_)
  unfold X12_days at h
  refine r_iload_n (q := 1) dX12_days_0 rfl rfl ?_
  refine r_iconst (v := 1) (q := 2) dX12_days_1 (by decide) rfl ?_
  refine r_bipush (v := 100) (q := 4) dX12_days_2 (by decide) rfl ?_
  refine r_callS_i (av := [(.inl x1), (.inl 1), (.inl 100)]) (st := []) (q := 7) (d1 := 0) kc_X12_127 dX12_days_4 rfl rfl (Nat.le_of_ble_eq_true rfl) (Nat.le_of_ble_eq_true rfl) (by omega) rfl rfl (t_X12_in (d := 0) (by omega) x1 1 100 M _ rfl) ?_
  refine r_if_ne 12 (q := 10) dX12_days_7 (by decide) rfl (fun c1 => ?_) (fun c1 => ?_)
  · rw [if_pos (mm_b1 c1)] at h
    refine r_aload_n (q := 13) dX12_days_12 rfl rfl ?_
    refine r_iload_n (q := 14) dX12_days_13 rfl rfl ?_
    obtain ⟨y3, e2, h⟩ := Option.bind_eq_some_iff.mp h
    refine r_callV_v (av := [(.inl x1)]) (st := []) (q := 17) (d1 := 5) kc_X12_351 sc_m_0 dX12_days_14 rfl rfl (Nat.le_of_ble_eq_true rfl) (Nat.le_of_ble_eq_true rfl) (by omega) rfl rfl (t_X12_daysGo (d := 5) (by omega) x1 M _ e2) ?_
    refine r_aload_n (q := 18) dX12_days_17 rfl rfl ?_
    refine r_geti (v := (y3 0 48)) (q := 21) lk_X12_345 dX12_days_18 sc_m_0 rfl rfl rfl ?_
    cases h
    exact r_ret dX12_days_21 rfl mm_Zi_rfl
  · rw [if_neg (mm_b0 c1)] at h
    refine r_iconst (v := (-1)) (q := 11) dX12_days_10 (by decide) rfl ?_
    cases h
    exact r_ret dX12_days_11 rfl mm_Zi_rfl
noncomputable def X12_tried_j125 (x3 : Int32) (M : mm_M) : Option (Int32 × mm_M) := (X12_copies 2 1 M).bind fun y13 => some (x3, y13)
set_option maxRecDepth 100000 in
set_option maxHeartbeats 400000 in
theorem t_X12_tried_j125 {D : mm_D} {d : Nat} (hd : 6 ≤ d) (x3 : Int32) (M : mm_M) (res : (Int32 × mm_M)) (h : X12_tried_j125 x3 M = some res) : mm_Go jX12_tried D d 0 0 125 [some (.inr 0), none, none, some (.inl x3)] [] S_m M (mm_Zi res.1 S_m res.2) := by
  unfold X12_tried_j125 at h
  refine r_aload_n (q := 126) dX12_tried_125 rfl rfl ?_
  refine r_getr (b := 2) (q := 129) lk_X12_13 dX12_tried_126 sc_m_0 rfl rfl ?_
  refine r_aload_n (q := 130) dX12_tried_129 rfl rfl ?_
  refine r_getr (b := 1) (q := 133) lk_X12_7 dX12_tried_130 sc_m_0 rfl rfl ?_
  obtain ⟨y13, e12, h⟩ := Option.bind_eq_some_iff.mp h
  refine r_callS_v (av := [(.inr 2), (.inr 1)]) (st := []) (q := 136) (d1 := 0) kc_X12_318 dX12_tried_133 rfl rfl (Nat.le_of_ble_eq_true rfl) (Nat.le_of_ble_eq_true rfl) (by omega) rfl rfl (t_X12_copies_2_1 (d := 0) (by omega) M _ e12) ?_
  refine r_iload_n (q := 137) dX12_tried_136 rfl rfl ?_
  cases h
  exact r_ret dX12_tried_137 rfl mm_Zi_rfl
noncomputable def X12_tried (x1 : Int32) (x2 : Int32) (M : mm_M) : Option (Int32 × mm_M) := if (X12_in x1 1 100) = true then if (X12_in x2 0 5) = true then (X12_copies 1 2 M).bind fun y4 => (X12_daysGo x1 y4).bind fun y6 => if x2 = 0 then X12_tried_j125 (y6 0 48) y6 else if x2 = 1 then X12_tried_j125 (y6 0 45) y6 else if x2 = 2 then X12_tried_j125 (y6 1 3) y6 else if x2 = 3 then X12_tried_j125 (y6 1 0) y6 else if x2 = 4 then X12_tried_j125 (y6 1 1) y6 else X12_tried_j125 (y6 1 2) y6 else some ((-1), M) else some ((-1), M)
set_option maxRecDepth 100000 in
set_option maxHeartbeats 400000 in
theorem t_X12_tried {d : Nat} (hd : 6 ≤ d) (x1 : Int32) (x2 : Int32) (M : mm_M) (res : (Int32 × mm_M)) (h : X12_tried x1 x2 M = some res) : mm_Meth jX12_tried d 0 0 [(.inr 0), (.inl x1), (.inl x2)] S_m M (mm_Zi res.1 S_m res.2) := by
  refine r_meth (L := [some (.inr 0), some (.inl x1), some (.inl x2), none]) rfl (fun D => ?_)
  unfold X12_tried at h
  refine r_iload_n (q := 1) dX12_tried_0 rfl rfl ?_
  refine r_iconst (v := 1) (q := 2) dX12_tried_1 (by decide) rfl ?_
  refine r_bipush (v := 100) (q := 4) dX12_tried_2 (by decide) rfl ?_
  refine r_callS_i (av := [(.inl x1), (.inl 1), (.inl 100)]) (st := []) (q := 7) (d1 := 0) kc_X12_127 dX12_tried_4 rfl rfl (Nat.le_of_ble_eq_true rfl) (Nat.le_of_ble_eq_true rfl) (by omega) rfl rfl (t_X12_in (d := 0) (by omega) x1 1 100 M _ rfl) ?_
  refine r_if_eq 19 (q := 10) dX12_tried_7 (by decide) rfl (fun c1 => ?_) (fun c1 => ?_)
  · rw [if_neg (mm_b0 c1)] at h
    refine r_iconst (v := (-1)) (q := 20) dX12_tried_19 (by decide) rfl ?_
    cases h
    exact r_ret dX12_tried_20 rfl mm_Zi_rfl
  · rw [if_pos (mm_b1 c1)] at h
    refine r_iload_n (q := 11) dX12_tried_10 rfl rfl ?_
    refine r_iconst (v := 0) (q := 12) dX12_tried_11 (by decide) rfl ?_
    refine r_iconst (v := 5) (q := 13) dX12_tried_12 (by decide) rfl ?_
    refine r_callS_i (av := [(.inl x2), (.inl 0), (.inl 5)]) (st := []) (q := 16) (d1 := 0) kc_X12_127 dX12_tried_13 rfl rfl (Nat.le_of_ble_eq_true rfl) (Nat.le_of_ble_eq_true rfl) (by omega) rfl rfl (t_X12_in (d := 0) (by omega) x2 0 5 M _ rfl) ?_
    refine r_if_ne 21 (q := 19) dX12_tried_16 (by decide) rfl (fun c2 => ?_) (fun c2 => ?_)
    · rw [if_pos (mm_b1 c2)] at h
      refine r_aload_n (q := 22) dX12_tried_21 rfl rfl ?_
      refine r_getr (b := 1) (q := 25) lk_X12_7 dX12_tried_22 sc_m_0 rfl rfl ?_
      refine r_aload_n (q := 26) dX12_tried_25 rfl rfl ?_
      refine r_getr (b := 2) (q := 29) lk_X12_13 dX12_tried_26 sc_m_0 rfl rfl ?_
      obtain ⟨y4, e3, h⟩ := Option.bind_eq_some_iff.mp h
      refine r_callS_v (av := [(.inr 1), (.inr 2)]) (st := []) (q := 32) (d1 := 0) kc_X12_318 dX12_tried_29 rfl rfl (Nat.le_of_ble_eq_true rfl) (Nat.le_of_ble_eq_true rfl) (by omega) rfl rfl (t_X12_copies_1_2 (d := 0) (by omega) M _ e3) ?_
      refine r_aload_n (q := 33) dX12_tried_32 rfl rfl ?_
      refine r_iload_n (q := 34) dX12_tried_33 rfl rfl ?_
      obtain ⟨y6, e5, h⟩ := Option.bind_eq_some_iff.mp h
      refine r_callV_v (av := [(.inl x1)]) (st := []) (q := 37) (d1 := 5) kc_X12_351 sc_m_0 dX12_tried_34 rfl rfl (Nat.le_of_ble_eq_true rfl) (Nat.le_of_ble_eq_true rfl) (by omega) rfl rfl (t_X12_daysGo (d := 5) (by omega) x1 y4 _ e5) ?_
      refine r_iload_n (q := 38) dX12_tried_37 rfl rfl ?_
      by_cases c7 : x2 = 0
      · rw [if_pos c7] at h
        refine mm_tableIn (off := 34) 72 dX12_tried_38 (by rw [c7]; decide) (by rw [c7]; decide) (by rw [c7]; rfl) (by decide) ?_
        refine r_aload_n (q := 73) dX12_tried_72 rfl rfl ?_
        refine r_geti (v := (y6 0 48)) (q := 76) lk_X12_345 dX12_tried_73 sc_m_0 rfl rfl rfl ?_
        refine r_istore_n (q := 77) (L' := [some (.inr 0), some (.inl x1), some (.inl x2), some (.inl (y6 0 48))]) dX12_tried_76 (by decide) rfl rfl ?_
        refine r_goto 125 dX12_tried_77 (by decide) ?_
        refine r_forget (L' := [some (.inr 0), none, none, some (.inl (y6 0 48))]) [true, false, false, true] rfl ?_
        exact t_X12_tried_j125 hd (y6 0 48) y6 _ h
      · rw [if_neg c7] at h
        by_cases c8 : x2 = 1
        · rw [if_pos c8] at h
          refine mm_tableIn (off := 42) 80 dX12_tried_38 (by rw [c8]; decide) (by rw [c8]; decide) (by rw [c8]; rfl) (by decide) ?_
          refine r_aload_n (q := 81) dX12_tried_80 rfl rfl ?_
          refine r_geti (v := (y6 0 45)) (q := 84) lk_X12_309 dX12_tried_81 sc_m_0 rfl rfl rfl ?_
          refine r_istore_n (q := 85) (L' := [some (.inr 0), some (.inl x1), some (.inl x2), some (.inl (y6 0 45))]) dX12_tried_84 (by decide) rfl rfl ?_
          refine r_goto 125 dX12_tried_85 (by decide) ?_
          refine r_forget (L' := [some (.inr 0), none, none, some (.inl (y6 0 45))]) [true, false, false, true] rfl ?_
          exact t_X12_tried_j125 hd (y6 0 45) y6 _ h
        · rw [if_neg c8] at h
          by_cases c9 : x2 = 2
          · rw [if_pos c9] at h
            refine mm_tableIn (off := 50) 88 dX12_tried_38 (by rw [c9]; decide) (by rw [c9]; decide) (by rw [c9]; rfl) (by decide) ?_
            refine r_aload_n (q := 89) dX12_tried_88 rfl rfl ?_
            refine r_getr (b := 1) (q := 92) lk_X12_7 dX12_tried_89 sc_m_0 rfl rfl ?_
            refine r_iconst (v := 3) (q := 93) dX12_tried_92 (by decide) rfl ?_
            refine r_iald (v := (y6 1 3)) (q := 94) dX12_tried_93 sc_m_1 (mm_vp (by decide)) rfl rfl ?_
            refine r_istore_n (q := 95) (L' := [some (.inr 0), some (.inl x1), some (.inl x2), some (.inl (y6 1 3))]) dX12_tried_94 (by decide) rfl rfl ?_
            refine r_goto 125 dX12_tried_95 (by decide) ?_
            refine r_forget (L' := [some (.inr 0), none, none, some (.inl (y6 1 3))]) [true, false, false, true] rfl ?_
            exact t_X12_tried_j125 hd (y6 1 3) y6 _ h
          · rw [if_neg c9] at h
            by_cases c10 : x2 = 3
            · rw [if_pos c10] at h
              refine mm_tableIn (off := 60) 98 dX12_tried_38 (by rw [c10]; decide) (by rw [c10]; decide) (by rw [c10]; rfl) (by decide) ?_
              refine r_aload_n (q := 99) dX12_tried_98 rfl rfl ?_
              refine r_getr (b := 1) (q := 102) lk_X12_7 dX12_tried_99 sc_m_0 rfl rfl ?_
              refine r_iconst (v := 0) (q := 103) dX12_tried_102 (by decide) rfl ?_
              refine r_iald (v := (y6 1 0)) (q := 104) dX12_tried_103 sc_m_1 (mm_vp (by decide)) rfl rfl ?_
              refine r_istore_n (q := 105) (L' := [some (.inr 0), some (.inl x1), some (.inl x2), some (.inl (y6 1 0))]) dX12_tried_104 (by decide) rfl rfl ?_
              refine r_goto 125 dX12_tried_105 (by decide) ?_
              refine r_forget (L' := [some (.inr 0), none, none, some (.inl (y6 1 0))]) [true, false, false, true] rfl ?_
              exact t_X12_tried_j125 hd (y6 1 0) y6 _ h
            · rw [if_neg c10] at h
              by_cases c11 : x2 = 4
              · rw [if_pos c11] at h
                refine mm_tableIn (off := 70) 108 dX12_tried_38 (by rw [c11]; decide) (by rw [c11]; decide) (by rw [c11]; rfl) (by decide) ?_
                refine r_aload_n (q := 109) dX12_tried_108 rfl rfl ?_
                refine r_getr (b := 1) (q := 112) lk_X12_7 dX12_tried_109 sc_m_0 rfl rfl ?_
                refine r_iconst (v := 1) (q := 113) dX12_tried_112 (by decide) rfl ?_
                refine r_iald (v := (y6 1 1)) (q := 114) dX12_tried_113 sc_m_1 (mm_vp (by decide)) rfl rfl ?_
                refine r_istore_n (q := 115) (L' := [some (.inr 0), some (.inl x1), some (.inl x2), some (.inl (y6 1 1))]) dX12_tried_114 (by decide) rfl rfl ?_
                refine r_goto 125 dX12_tried_115 (by decide) ?_
                refine r_forget (L' := [some (.inr 0), none, none, some (.inl (y6 1 1))]) [true, false, false, true] rfl ?_
                exact t_X12_tried_j125 hd (y6 1 1) y6 _ h
              · rw [if_neg c11] at h
                have nc7 : (x2).toInt ≠ 0 := fun e => c7 (Int32.toInt_inj.mp (e.trans (by decide)))
                have nc8 : (x2).toInt ≠ 1 := fun e => c8 (Int32.toInt_inj.mp (e.trans (by decide)))
                have nc9 : (x2).toInt ≠ 2 := fun e => c9 (Int32.toInt_inj.mp (e.trans (by decide)))
                have nc10 : (x2).toInt ≠ 3 := fun e => c10 (Int32.toInt_inj.mp (e.trans (by decide)))
                have nc11 : (x2).toInt ≠ 4 := fun e => c11 (Int32.toInt_inj.mp (e.trans (by decide)))
                refine mm_tableOut 118 dX12_tried_38 (by omega) (by decide) ?_
                refine r_aload_n (q := 119) dX12_tried_118 rfl rfl ?_
                refine r_getr (b := 1) (q := 122) lk_X12_7 dX12_tried_119 sc_m_0 rfl rfl ?_
                refine r_iconst (v := 2) (q := 123) dX12_tried_122 (by decide) rfl ?_
                refine r_iald (v := (y6 1 2)) (q := 124) dX12_tried_123 sc_m_1 (mm_vp (by decide)) rfl rfl ?_
                refine r_istore_n (q := 125) (L' := [some (.inr 0), some (.inl x1), some (.inl x2), some (.inl (y6 1 2))]) dX12_tried_124 (by decide) rfl rfl ?_
                refine r_forget (L' := [some (.inr 0), none, none, some (.inl (y6 1 2))]) [true, false, false, true] rfl ?_
                exact t_X12_tried_j125 hd (y6 1 2) y6 _ h
    · rw [if_neg (mm_b0 c2)] at h
      refine r_iconst (v := (-1)) (q := 20) dX12_tried_19 (by decide) rfl ?_
      cases h
      exact r_ret dX12_tried_20 rfl mm_Zi_rfl
noncomputable def X12_askedAt (x1 : Int32) (x2 : Int32) (x3 : Int32) (M : mm_M) : Option Int32 := if (X12_isQuestion x1) = true then if (X12_isState x2 M) = true then if (X12_in x3 0 1) = true then if x3 = 0 then (X12_answer x1 x2 M).bind fun y6 => some y6 else (X12_behind x1 x2 M).bind fun y8 => some y8 else some (-1) else some (-1) else some (-1)
set_option maxRecDepth 100000 in
set_option maxHeartbeats 400000 in
theorem t_X12_askedAt {d : Nat} (hd : 2 ≤ d) (x1 : Int32) (x2 : Int32) (x3 : Int32) (M : mm_M) (res : Int32) (h : X12_askedAt x1 x2 x3 M = some res) : mm_Meth jX12_askedAt d 0 0 [(.inr 0), (.inl x1), (.inl x2), (.inl x3)] S_m M (mm_Zi res S_m M) := by
  refine r_meth (L := [some (.inr 0), some (.inl x1), some (.inl x2), some (.inl x3)]) rfl (fun D => ?_)
  unfold X12_askedAt at h
  refine r_iload_n (q := 1) dX12_askedAt_0 rfl rfl ?_
  refine r_callS_i (av := [(.inl x1)]) (st := []) (q := 4) (d1 := 1) kc_X12_135 dX12_askedAt_1 rfl rfl (Nat.le_of_ble_eq_true rfl) (Nat.le_of_ble_eq_true rfl) (by omega) rfl rfl (t_X12_isQuestion (d := 1) (by omega) x1 M _ rfl) ?_
  refine r_if_eq 24 (q := 7) dX12_askedAt_4 (by decide) rfl (fun c1 => ?_) (fun c1 => ?_)
  · rw [if_neg (mm_b0 c1)] at h
    refine r_iconst (v := (-1)) (q := 25) dX12_askedAt_24 (by decide) rfl ?_
    cases h
    exact r_ret dX12_askedAt_25 rfl mm_Zi_rfl
  · rw [if_pos (mm_b1 c1)] at h
    refine r_aload_n (q := 8) dX12_askedAt_7 rfl rfl ?_
    refine r_iload_n (q := 9) dX12_askedAt_8 rfl rfl ?_
    refine r_callV_i (av := [(.inl x2)]) (st := []) (q := 12) (d1 := 1) kc_X12_131 sc_m_0 dX12_askedAt_9 rfl rfl (Nat.le_of_ble_eq_true rfl) (Nat.le_of_ble_eq_true rfl) (by omega) rfl rfl (t_X12_isState (d := 1) (by omega) x2 M _ rfl) ?_
    refine r_if_eq 24 (q := 15) dX12_askedAt_12 (by decide) rfl (fun c2 => ?_) (fun c2 => ?_)
    · rw [if_neg (mm_b0 c2)] at h
      refine r_iconst (v := (-1)) (q := 25) dX12_askedAt_24 (by decide) rfl ?_
      cases h
      exact r_ret dX12_askedAt_25 rfl mm_Zi_rfl
    · rw [if_pos (mm_b1 c2)] at h
      refine r_iload_n (q := 16) dX12_askedAt_15 rfl rfl ?_
      refine r_iconst (v := 0) (q := 17) dX12_askedAt_16 (by decide) rfl ?_
      refine r_iconst (v := 1) (q := 18) dX12_askedAt_17 (by decide) rfl ?_
      refine r_callS_i (av := [(.inl x3), (.inl 0), (.inl 1)]) (st := []) (q := 21) (d1 := 0) kc_X12_127 dX12_askedAt_18 rfl rfl (Nat.le_of_ble_eq_true rfl) (Nat.le_of_ble_eq_true rfl) (by omega) rfl rfl (t_X12_in (d := 0) (by omega) x3 0 1 M _ rfl) ?_
      refine r_if_ne 26 (q := 24) dX12_askedAt_21 (by decide) rfl (fun c3 => ?_) (fun c3 => ?_)
      · rw [if_pos (mm_b1 c3)] at h
        refine r_iload_n (q := 27) dX12_askedAt_26 rfl rfl ?_
        refine r_if_ne 39 (q := 30) dX12_askedAt_27 (by decide) rfl (fun c4 => ?_) (fun c4 => ?_)
        · rw [if_neg c4] at h
          refine r_aload_n (q := 40) dX12_askedAt_39 rfl rfl ?_
          refine r_iload_n (q := 41) dX12_askedAt_40 rfl rfl ?_
          refine r_iload_n (q := 42) dX12_askedAt_41 rfl rfl ?_
          obtain ⟨y8, e7, h⟩ := Option.bind_eq_some_iff.mp h
          refine r_callV_i (av := [(.inl x1), (.inl x2)]) (st := []) (q := 45) (d1 := 0) kc_X12_306 sc_m_0 dX12_askedAt_42 rfl rfl (Nat.le_of_ble_eq_true rfl) (Nat.le_of_ble_eq_true rfl) (by omega) rfl rfl (t_X12_behind (d := 0) (by omega) x1 x2 M _ e7) ?_
          cases h
          exact r_ret dX12_askedAt_45 rfl mm_Zi_rfl
        · rw [if_pos c4] at h
          refine r_aload_n (q := 31) dX12_askedAt_30 rfl rfl ?_
          refine r_iload_n (q := 32) dX12_askedAt_31 rfl rfl ?_
          refine r_iload_n (q := 33) dX12_askedAt_32 rfl rfl ?_
          obtain ⟨y6, e5, h⟩ := Option.bind_eq_some_iff.mp h
          refine r_callV_i (av := [(.inl x1), (.inl x2)]) (st := []) (q := 36) (d1 := 0) kc_X12_299 sc_m_0 dX12_askedAt_33 rfl rfl (Nat.le_of_ble_eq_true rfl) (Nat.le_of_ble_eq_true rfl) (by omega) rfl rfl (t_X12_answer (d := 0) (by omega) x1 x2 M _ e5) ?_
          refine r_goto 45 dX12_askedAt_36 (by decide) ?_
          cases h
          exact r_ret dX12_askedAt_45 rfl mm_Zi_rfl
      · rw [if_neg (mm_b0 c3)] at h
        refine r_iconst (v := (-1)) (q := 25) dX12_askedAt_24 (by decide) rfl ?_
        cases h
        exact r_ret dX12_askedAt_25 rfl mm_Zi_rfl
noncomputable def X12_mayChange_l2 (x1 : Int32) (x2 : Int32) (M : mm_M) (s : Int32) : Option (Int32 ⊕ Bool) := if (M 0 6) ≤ s then some (.inr true) else if x1 = x2 then some (.inr true) else (X12_behind x1 s M).bind fun y4 => (X12_behind x2 s M).bind fun y6 => (X12_answer x1 s M).bind fun y8 => (X12_answer x1 y6 M).bind fun y10 => if y8 = y10 then (X12_answer x2 s M).bind fun y13 => (X12_answer x2 y4 M).bind fun y15 => if y13 = y15 then (X12_behind x2 y4 M).bind fun y18 => (X12_behind x1 y6 M).bind fun y20 => if y18 = y20 then some (.inl (s + 1)) else some (.inr false) else some (.inr false) else some (.inr false)
set_option maxRecDepth 100000 in
set_option maxHeartbeats 400000 in
theorem t_X12_mayChange_l2 {D : mm_D} {d : Nat} (hd : 1 ≤ d) {Z : Option Int32 → List mm_C → mm_M → Prop} (x1 : Int32) (x2 : Int32) (M : mm_M) (n : Nat) (s : Int32) (r : Bool) (h : mm_loop (X12_mayChange_l2 x1 x2 M) n s = some r) (hx : Z (some (mm_b r)) S_m M) : mm_Go jX12_mayChange D d 0 0 2 [some (.inr 0), some (.inl x1), some (.inl x2), some (.inl s), none, none] [] S_m M Z := by
  refine mm_loop_go (step := X12_mayChange_l2 x1 x2 M) (Hd := fun (s : Int32) => mm_Go jX12_mayChange D d 0 0 2 [some (.inr 0), some (.inl x1), some (.inl x2), some (.inl s), none, none] [] S_m M Z) (Ex := fun (r : Bool) => Z (some (mm_b r)) S_m M) ?_ n s r h hx
  intro s o h kb ke
  show mm_Go jX12_mayChange D d 0 0 2 [some (.inr 0), some (.inl x1), some (.inl x2), some (.inl s), none, none] [] S_m M Z
  unfold X12_mayChange_l2 at h
  refine r_iload_n (q := 3) dX12_mayChange_2 rfl rfl ?_
  refine r_aload_n (q := 4) dX12_mayChange_3 rfl rfl ?_
  refine r_geti (v := (M 0 6)) (q := 7) lk_X12_123 dX12_mayChange_4 sc_m_0 rfl rfl rfl ?_
  refine r_icmp_ge 88 (q := 10) dX12_mayChange_7 (by decide) rfl (fun c1 => ?_) (fun c1 => ?_)
  · rw [if_pos c1] at h
    refine r_iconst (v := 1) (q := 89) dX12_mayChange_88 (by decide) rfl ?_
    cases h
    have hk := ke _ rfl
    exact r_retb dX12_mayChange_89 rfl (Or.inr rfl) hk
  · rw [if_neg c1] at h
    refine r_iload_n (q := 11) dX12_mayChange_10 rfl rfl ?_
    refine r_iload_n (q := 12) dX12_mayChange_11 rfl rfl ?_
    refine r_icmp_eq 88 (q := 15) dX12_mayChange_12 (by decide) rfl (fun c2 => ?_) (fun c2 => ?_)
    · rw [if_pos c2] at h
      refine r_iconst (v := 1) (q := 89) dX12_mayChange_88 (by decide) rfl ?_
      cases h
      have hk := ke _ rfl
      exact r_retb dX12_mayChange_89 rfl (Or.inr rfl) hk
    · rw [if_neg c2] at h
      refine r_aload_n (q := 16) dX12_mayChange_15 rfl rfl ?_
      refine r_iload_n (q := 17) dX12_mayChange_16 rfl rfl ?_
      refine r_iload_n (q := 18) dX12_mayChange_17 rfl rfl ?_
      obtain ⟨y4, e3, h⟩ := Option.bind_eq_some_iff.mp h
      refine r_callV_i (av := [(.inl x1), (.inl s)]) (st := []) (q := 21) (d1 := 0) kc_X12_306 sc_m_0 dX12_mayChange_18 rfl rfl (Nat.le_of_ble_eq_true rfl) (Nat.le_of_ble_eq_true rfl) (by omega) rfl rfl (t_X12_behind (d := 0) (by omega) x1 s M _ e3) ?_
      refine r_istore (q := 23) (L' := [some (.inr 0), some (.inl x1), some (.inl x2), some (.inl s), some (.inl y4), none]) dX12_mayChange_21 (by decide) rfl rfl ?_
      refine r_aload_n (q := 24) dX12_mayChange_23 rfl rfl ?_
      refine r_iload_n (q := 25) dX12_mayChange_24 rfl rfl ?_
      refine r_iload_n (q := 26) dX12_mayChange_25 rfl rfl ?_
      obtain ⟨y6, e5, h⟩ := Option.bind_eq_some_iff.mp h
      refine r_callV_i (av := [(.inl x2), (.inl s)]) (st := []) (q := 29) (d1 := 0) kc_X12_306 sc_m_0 dX12_mayChange_26 rfl rfl (Nat.le_of_ble_eq_true rfl) (Nat.le_of_ble_eq_true rfl) (by omega) rfl rfl (t_X12_behind (d := 0) (by omega) x2 s M _ e5) ?_
      refine r_istore (q := 31) (L' := [some (.inr 0), some (.inl x1), some (.inl x2), some (.inl s), some (.inl y4), some (.inl y6)]) dX12_mayChange_29 (by decide) rfl rfl ?_
      refine r_aload_n (q := 32) dX12_mayChange_31 rfl rfl ?_
      refine r_iload_n (q := 33) dX12_mayChange_32 rfl rfl ?_
      refine r_iload_n (q := 34) dX12_mayChange_33 rfl rfl ?_
      obtain ⟨y8, e7, h⟩ := Option.bind_eq_some_iff.mp h
      refine r_callV_i (av := [(.inl x1), (.inl s)]) (st := []) (q := 37) (d1 := 0) kc_X12_299 sc_m_0 dX12_mayChange_34 rfl rfl (Nat.le_of_ble_eq_true rfl) (Nat.le_of_ble_eq_true rfl) (by omega) rfl rfl (t_X12_answer (d := 0) (by omega) x1 s M _ e7) ?_
      refine r_aload_n (q := 38) dX12_mayChange_37 rfl rfl ?_
      refine r_iload_n (q := 39) dX12_mayChange_38 rfl rfl ?_
      refine r_iload (q := 41) dX12_mayChange_39 rfl rfl ?_
      obtain ⟨y10, e9, h⟩ := Option.bind_eq_some_iff.mp h
      refine r_callV_i (av := [(.inl x1), (.inl y6)]) (st := [(.inl y8)]) (q := 44) (d1 := 0) kc_X12_299 sc_m_0 dX12_mayChange_41 rfl rfl (Nat.le_of_ble_eq_true rfl) (Nat.le_of_ble_eq_true rfl) (by omega) rfl rfl (t_X12_answer (d := 0) (by omega) x1 y6 M _ e9) ?_
      refine r_icmp_ne 80 (q := 47) dX12_mayChange_44 (by decide) rfl (fun c11 => ?_) (fun c11 => ?_)
      · rw [if_neg c11] at h
        refine r_iconst (v := 0) (q := 81) dX12_mayChange_80 (by decide) rfl ?_
        cases h
        have hk := ke _ rfl
        exact r_retb dX12_mayChange_81 rfl (Or.inl rfl) hk
      · rw [if_pos c11] at h
        refine r_aload_n (q := 48) dX12_mayChange_47 rfl rfl ?_
        refine r_iload_n (q := 49) dX12_mayChange_48 rfl rfl ?_
        refine r_iload_n (q := 50) dX12_mayChange_49 rfl rfl ?_
        obtain ⟨y13, e12, h⟩ := Option.bind_eq_some_iff.mp h
        refine r_callV_i (av := [(.inl x2), (.inl s)]) (st := []) (q := 53) (d1 := 0) kc_X12_299 sc_m_0 dX12_mayChange_50 rfl rfl (Nat.le_of_ble_eq_true rfl) (Nat.le_of_ble_eq_true rfl) (by omega) rfl rfl (t_X12_answer (d := 0) (by omega) x2 s M _ e12) ?_
        refine r_aload_n (q := 54) dX12_mayChange_53 rfl rfl ?_
        refine r_iload_n (q := 55) dX12_mayChange_54 rfl rfl ?_
        refine r_iload (q := 57) dX12_mayChange_55 rfl rfl ?_
        obtain ⟨y15, e14, h⟩ := Option.bind_eq_some_iff.mp h
        refine r_callV_i (av := [(.inl x2), (.inl y4)]) (st := [(.inl y13)]) (q := 60) (d1 := 0) kc_X12_299 sc_m_0 dX12_mayChange_57 rfl rfl (Nat.le_of_ble_eq_true rfl) (Nat.le_of_ble_eq_true rfl) (by omega) rfl rfl (t_X12_answer (d := 0) (by omega) x2 y4 M _ e14) ?_
        refine r_icmp_ne 80 (q := 63) dX12_mayChange_60 (by decide) rfl (fun c16 => ?_) (fun c16 => ?_)
        · rw [if_neg c16] at h
          refine r_iconst (v := 0) (q := 81) dX12_mayChange_80 (by decide) rfl ?_
          cases h
          have hk := ke _ rfl
          exact r_retb dX12_mayChange_81 rfl (Or.inl rfl) hk
        · rw [if_pos c16] at h
          refine r_aload_n (q := 64) dX12_mayChange_63 rfl rfl ?_
          refine r_iload_n (q := 65) dX12_mayChange_64 rfl rfl ?_
          refine r_iload (q := 67) dX12_mayChange_65 rfl rfl ?_
          obtain ⟨y18, e17, h⟩ := Option.bind_eq_some_iff.mp h
          refine r_callV_i (av := [(.inl x2), (.inl y4)]) (st := []) (q := 70) (d1 := 0) kc_X12_306 sc_m_0 dX12_mayChange_67 rfl rfl (Nat.le_of_ble_eq_true rfl) (Nat.le_of_ble_eq_true rfl) (by omega) rfl rfl (t_X12_behind (d := 0) (by omega) x2 y4 M _ e17) ?_
          refine r_aload_n (q := 71) dX12_mayChange_70 rfl rfl ?_
          refine r_iload_n (q := 72) dX12_mayChange_71 rfl rfl ?_
          refine r_iload (q := 74) dX12_mayChange_72 rfl rfl ?_
          obtain ⟨y20, e19, h⟩ := Option.bind_eq_some_iff.mp h
          refine r_callV_i (av := [(.inl x1), (.inl y6)]) (st := [(.inl y18)]) (q := 77) (d1 := 0) kc_X12_306 sc_m_0 dX12_mayChange_74 rfl rfl (Nat.le_of_ble_eq_true rfl) (Nat.le_of_ble_eq_true rfl) (by omega) rfl rfl (t_X12_behind (d := 0) (by omega) x1 y6 M _ e19) ?_
          refine r_icmp_eq 82 (q := 80) dX12_mayChange_77 (by decide) rfl (fun c21 => ?_) (fun c21 => ?_)
          · rw [if_pos c21] at h
            refine r_iinc (v := 1) (q := 85) (L' := [some (.inr 0), some (.inl x1), some (.inl x2), some (.inl (s + 1)), some (.inl y4), some (.inl y6)]) dX12_mayChange_82 (by decide) (by decide) rfl rfl rfl ?_
            refine r_goto 2 dX12_mayChange_85 (by decide) ?_
            refine r_forget (L' := [some (.inr 0), some (.inl x1), some (.inl x2), some (.inl (s + 1)), none, none]) [true, true, true, true, false, false] rfl ?_
            cases h
            have hk := kb _ rfl
            exact hk
          · rw [if_neg c21] at h
            refine r_iconst (v := 0) (q := 81) dX12_mayChange_80 (by decide) rfl ?_
            cases h
            have hk := ke _ rfl
            exact r_retb dX12_mayChange_81 rfl (Or.inl rfl) hk
noncomputable def X12_mayChange (x1 : Int32) (x2 : Int32) (M : mm_M) : Option Bool := (mm_loop (X12_mayChange_l2 x1 x2 M) mm_fuel 0)
set_option maxRecDepth 100000 in
set_option maxHeartbeats 400000 in
theorem t_X12_mayChange {d : Nat} (hd : 1 ≤ d) (x1 : Int32) (x2 : Int32) (M : mm_M) (res : Bool) (h : X12_mayChange x1 x2 M = some res) : mm_Meth jX12_mayChange d 0 0 [(.inr 0), (.inl x1), (.inl x2)] S_m M (mm_Zi (mm_b res) S_m M) := by
  refine r_meth (L := [some (.inr 0), some (.inl x1), some (.inl x2), none, none, none]) rfl (fun D => ?_)
  unfold X12_mayChange at h
  refine r_iconst (v := 0) (q := 1) dX12_mayChange_0 (by decide) rfl ?_
  refine r_istore_n (q := 2) (L' := [some (.inr 0), some (.inl x1), some (.inl x2), some (.inl 0), none, none]) dX12_mayChange_1 (by decide) rfl rfl ?_
  exact t_X12_mayChange_l2 hd x1 x2 M mm_fuel 0 _ h mm_Zi_rfl
noncomputable def X12_changePlaces (x1 : Int32) (x2 : Int32) (M : mm_M) : Option Int32 := if (M 0 6) = 0 then some (-1) else if (X12_isQuestion x1) = true then if (X12_isQuestion x2) = true then (X12_mayChange x1 x2 M).bind fun y5 => if y5 = true then some 1 else some 0 else some (-1) else some (-1)
set_option maxRecDepth 100000 in
set_option maxHeartbeats 400000 in
theorem t_X12_changePlaces {d : Nat} (hd : 2 ≤ d) (x1 : Int32) (x2 : Int32) (M : mm_M) (res : Int32) (h : X12_changePlaces x1 x2 M = some res) : mm_Meth jX12_changePlaces d 0 0 [(.inr 0), (.inl x1), (.inl x2)] S_m M (mm_Zi res S_m M) := by
  refine r_meth (L := [some (.inr 0), some (.inl x1), some (.inl x2)]) rfl (fun D => ?_)
  unfold X12_changePlaces at h
  refine r_aload_n (q := 1) dX12_changePlaces_0 rfl rfl ?_
  refine r_geti (v := (M 0 6)) (q := 4) lk_X12_123 dX12_changePlaces_1 sc_m_0 rfl rfl rfl ?_
  refine r_if_eq 21 (q := 7) dX12_changePlaces_4 (by decide) rfl (fun c1 => ?_) (fun c1 => ?_)
  · rw [if_pos c1] at h
    refine r_iconst (v := (-1)) (q := 22) dX12_changePlaces_21 (by decide) rfl ?_
    cases h
    exact r_ret dX12_changePlaces_22 rfl mm_Zi_rfl
  · rw [if_neg c1] at h
    refine r_iload_n (q := 8) dX12_changePlaces_7 rfl rfl ?_
    refine r_callS_i (av := [(.inl x1)]) (st := []) (q := 11) (d1 := 1) kc_X12_135 dX12_changePlaces_8 rfl rfl (Nat.le_of_ble_eq_true rfl) (Nat.le_of_ble_eq_true rfl) (by omega) rfl rfl (t_X12_isQuestion (d := 1) (by omega) x1 M _ rfl) ?_
    refine r_if_eq 21 (q := 14) dX12_changePlaces_11 (by decide) rfl (fun c2 => ?_) (fun c2 => ?_)
    · rw [if_neg (mm_b0 c2)] at h
      refine r_iconst (v := (-1)) (q := 22) dX12_changePlaces_21 (by decide) rfl ?_
      cases h
      exact r_ret dX12_changePlaces_22 rfl mm_Zi_rfl
    · rw [if_pos (mm_b1 c2)] at h
      refine r_iload_n (q := 15) dX12_changePlaces_14 rfl rfl ?_
      refine r_callS_i (av := [(.inl x2)]) (st := []) (q := 18) (d1 := 1) kc_X12_135 dX12_changePlaces_15 rfl rfl (Nat.le_of_ble_eq_true rfl) (Nat.le_of_ble_eq_true rfl) (by omega) rfl rfl (t_X12_isQuestion (d := 1) (by omega) x2 M _ rfl) ?_
      refine r_if_ne 23 (q := 21) dX12_changePlaces_18 (by decide) rfl (fun c3 => ?_) (fun c3 => ?_)
      · rw [if_pos (mm_b1 c3)] at h
        refine r_aload_n (q := 24) dX12_changePlaces_23 rfl rfl ?_
        refine r_iload_n (q := 25) dX12_changePlaces_24 rfl rfl ?_
        refine r_iload_n (q := 26) dX12_changePlaces_25 rfl rfl ?_
        obtain ⟨y5, e4, h⟩ := Option.bind_eq_some_iff.mp h
        refine r_callV_i (av := [(.inl x1), (.inl x2)]) (st := []) (q := 29) (d1 := 1) kc_X12_354 sc_m_0 dX12_changePlaces_26 rfl rfl (Nat.le_of_ble_eq_true rfl) (Nat.le_of_ble_eq_true rfl) (by omega) rfl rfl (t_X12_mayChange (d := 1) (by omega) x1 x2 M _ e4) ?_
        refine r_if_eq 36 (q := 32) dX12_changePlaces_29 (by decide) rfl (fun c6 => ?_) (fun c6 => ?_)
        · rw [if_neg (mm_b0 c6)] at h
          refine r_iconst (v := 0) (q := 37) dX12_changePlaces_36 (by decide) rfl ?_
          cases h
          exact r_ret dX12_changePlaces_37 rfl mm_Zi_rfl
        · rw [if_pos (mm_b1 c6)] at h
          refine r_iconst (v := 1) (q := 33) dX12_changePlaces_32 (by decide) rfl ?_
          refine r_goto 37 dX12_changePlaces_33 (by decide) ?_
          cases h
          exact r_ret dX12_changePlaces_37 rfl mm_Zi_rfl
      · rw [if_neg (mm_b0 c3)] at h
        refine r_iconst (v := (-1)) (q := 22) dX12_changePlaces_21 (by decide) rfl ?_
        cases h
        exact r_ret dX12_changePlaces_22 rfl mm_Zi_rfl
noncomputable def X12_octet (x1 : Int32) (M : mm_M) : Option Int32 := if mm_in x1 260 = true then some ((M 7 (Int32.toNatClampNeg x1)) &&& 255) else none
set_option maxRecDepth 100000 in
set_option maxHeartbeats 400000 in
theorem t_X12_octet {d : Nat} (hd : 0 ≤ d) (x1 : Int32) (M : mm_M) (res : Int32) (h : X12_octet x1 M = some res) : mm_Meth jX12_octet d 0 0 [(.inr 0), (.inl x1)] S_m M (mm_Zi res S_m M) := by
  refine r_meth (L := [some (.inr 0), some (.inl x1)]) rfl (fun D => ?_)
  unfold X12_octet at h
  refine r_aload_n (q := 1) dX12_octet_0 rfl rfl ?_
  refine r_getr (b := 7) (q := 4) lk_X12_28 dX12_octet_1 sc_m_0 rfl rfl ?_
  refine r_iload_n (q := 5) dX12_octet_4 rfl rfl ?_
  obtain ⟨g1, h⟩ := mm_guard h
  refine r_bald (v := (M 7 (Int32.toNatClampNeg x1))) (q := 6) dX12_octet_5 sc_m_7 (mm_vp g1) rfl rfl ?_
  refine r_sipush (v := 255) (q := 9) dX12_octet_6 (by decide) rfl ?_
  refine r_iand (q := 10) dX12_octet_9 rfl ?_
  cases h
  exact r_ret dX12_octet_10 rfl mm_Zi_rfl
noncomputable def X12_laysAhead_j51l16 (x1 : Int32) (x2 : Int32) (x3 : Int32) (M : mm_M) : Option ((Int32 × mm_M) ⊕ mm_M) := if mm_in x2 10 = true then if mm_in x2 10 = true then some (.inl ((x3 + 1), (mm_U M 27 (Int32.toNatClampNeg x2) ((M 27 (Int32.toNatClampNeg x2)) ||| ((1 : Int32) <<< (x3 &&& 31)))))) else none else none
set_option maxRecDepth 100000 in
set_option maxHeartbeats 400000 in
theorem t_X12_laysAhead_j51l16 {D : mm_D} {d : Nat} (hd : 2 ≤ d) {Z : Option Int32 → List mm_C → mm_M → Prop} (x1 : Int32) (x2 : Int32) (x3 : Int32) (M : mm_M) (o : (Int32 × mm_M) ⊕ mm_M) (h : X12_laysAhead_j51l16 x1 x2 x3 M = some o) (kb : ∀ s', o = .inl s' → mm_Go jX12_laysAhead D d 0 0 16 [some (.inr 0), some (.inl x1), some (.inl x2), some (.inl s'.1)] [] S_m s'.2 Z) (ke : ∀ r, o = .inr r → mm_Go jX12_laysAhead D d 0 0 73 [some (.inr 0), some (.inl x1), some (.inl x2), none] [] S_m r Z) : mm_Go jX12_laysAhead D d 0 0 51 [some (.inr 0), some (.inl x1), some (.inl x2), some (.inl x3)] [] S_m M Z := by
  unfold X12_laysAhead_j51l16 at h
  refine r_aload_n (q := 52) dX12_laysAhead_51 rfl rfl ?_
  refine r_getr (b := 27) (q := 55) lk_X12_89 dX12_laysAhead_52 sc_m_0 rfl rfl ?_
  refine r_iload_n (q := 56) dX12_laysAhead_55 rfl rfl ?_
  refine r_aload_n (q := 57) dX12_laysAhead_56 rfl rfl ?_
  refine r_getr (b := 27) (q := 60) lk_X12_89 dX12_laysAhead_57 sc_m_0 rfl rfl ?_
  refine r_iload_n (q := 61) dX12_laysAhead_60 rfl rfl ?_
  obtain ⟨g9, h⟩ := mm_guard h
  refine r_iald (v := (M 27 (Int32.toNatClampNeg x2))) (q := 62) dX12_laysAhead_61 sc_m_27 (mm_vp g9) rfl rfl ?_
  refine r_iconst (v := 1) (q := 63) dX12_laysAhead_62 (by decide) rfl ?_
  refine r_iload_n (q := 64) dX12_laysAhead_63 rfl rfl ?_
  refine r_ishl (q := 65) dX12_laysAhead_64 rfl ?_
  refine r_ior (q := 66) dX12_laysAhead_65 rfl ?_
  obtain ⟨g10, h⟩ := mm_guard h
  refine r_iast (j := (Int32.toNatClampNeg x2)) (q := 67) dX12_laysAhead_66 sc_m_27 (mm_vp g10) rfl rfl ?_
  refine r_iinc (v := 1) (q := 70) (L' := [some (.inr 0), some (.inl x1), some (.inl x2), some (.inl (x3 + 1))]) dX12_laysAhead_67 (by decide) (by decide) rfl rfl rfl ?_
  refine r_goto 16 dX12_laysAhead_70 (by decide) ?_
  cases h
  have hk := kb _ rfl
  exact hk
noncomputable def X12_laysAhead_l16 (x1 : Int32) (x2 : Int32) (s : (Int32 × mm_M)) : Option ((Int32 × mm_M) ⊕ mm_M) := if x2 ≤ s.1 then some (.inr s.2) else (X12_octet s.1 s.2).bind fun y5 => (X12_octet x2 s.2).bind fun y7 => if y5 = y7 then X12_laysAhead_j51l16 x1 x2 s.1 s.2 else (X12_octet s.1 s.2).bind fun y12 => (X12_octet x2 s.2).bind fun y14 => (X12_mayChange y12 y14 s.2).bind fun y16 => if y16 = true then some (.inl ((s.1 + 1), s.2)) else X12_laysAhead_j51l16 x1 x2 s.1 s.2
set_option maxRecDepth 100000 in
set_option maxHeartbeats 400000 in
theorem t_X12_laysAhead_l16 {D : mm_D} {d : Nat} (hd : 2 ≤ d) {Z : Option Int32 → List mm_C → mm_M → Prop} (x1 : Int32) (x2 : Int32) (n : Nat) (s : (Int32 × mm_M)) (r : mm_M) (h : mm_loop (X12_laysAhead_l16 x1 x2) n s = some r) (hx : mm_Go jX12_laysAhead D d 0 0 73 [some (.inr 0), some (.inl x1), some (.inl x2), none] [] S_m r Z) : mm_Go jX12_laysAhead D d 0 0 16 [some (.inr 0), some (.inl x1), some (.inl x2), some (.inl s.1)] [] S_m s.2 Z := by
  refine mm_loop_go (step := X12_laysAhead_l16 x1 x2) (Hd := fun (s : (Int32 × mm_M)) => mm_Go jX12_laysAhead D d 0 0 16 [some (.inr 0), some (.inl x1), some (.inl x2), some (.inl s.1)] [] S_m s.2 Z) (Ex := fun (r : mm_M) => mm_Go jX12_laysAhead D d 0 0 73 [some (.inr 0), some (.inl x1), some (.inl x2), none] [] S_m r Z) ?_ n s r h hx
  intro s o h kb ke
  show mm_Go jX12_laysAhead D d 0 0 16 [some (.inr 0), some (.inl x1), some (.inl x2), some (.inl s.1)] [] S_m s.2 Z
  unfold X12_laysAhead_l16 at h
  refine r_iload_n (q := 17) dX12_laysAhead_16 rfl rfl ?_
  refine r_iload_n (q := 18) dX12_laysAhead_17 rfl rfl ?_
  refine r_icmp_ge 73 (q := 21) dX12_laysAhead_18 (by decide) rfl (fun c3 => ?_) (fun c3 => ?_)
  · rw [if_pos c3] at h
    refine r_forget (L' := [some (.inr 0), some (.inl x1), some (.inl x2), none]) [true, true, true, false] rfl ?_
    cases h
    have hk := ke _ rfl
    exact hk
  · rw [if_neg c3] at h
    refine r_aload_n (q := 22) dX12_laysAhead_21 rfl rfl ?_
    refine r_iload_n (q := 23) dX12_laysAhead_22 rfl rfl ?_
    obtain ⟨y5, e4, h⟩ := Option.bind_eq_some_iff.mp h
    refine r_callV_i (av := [(.inl s.1)]) (st := []) (q := 26) (d1 := 0) kc_X12_357 sc_m_0 dX12_laysAhead_23 rfl rfl (Nat.le_of_ble_eq_true rfl) (Nat.le_of_ble_eq_true rfl) (by omega) rfl rfl (t_X12_octet (d := 0) (by omega) s.1 s.2 _ e4) ?_
    refine r_aload_n (q := 27) dX12_laysAhead_26 rfl rfl ?_
    refine r_iload_n (q := 28) dX12_laysAhead_27 rfl rfl ?_
    obtain ⟨y7, e6, h⟩ := Option.bind_eq_some_iff.mp h
    refine r_callV_i (av := [(.inl x2)]) (st := [(.inl y5)]) (q := 31) (d1 := 0) kc_X12_357 sc_m_0 dX12_laysAhead_28 rfl rfl (Nat.le_of_ble_eq_true rfl) (Nat.le_of_ble_eq_true rfl) (by omega) rfl rfl (t_X12_octet (d := 0) (by omega) x2 s.2 _ e6) ?_
    refine r_icmp_eq 51 (q := 34) dX12_laysAhead_31 (by decide) rfl (fun c8 => ?_) (fun c8 => ?_)
    · rw [if_pos c8] at h
      exact t_X12_laysAhead_j51l16 hd x1 x2 s.1 s.2 _ h kb ke
    · rw [if_neg c8] at h
      refine r_aload_n (q := 35) dX12_laysAhead_34 rfl rfl ?_
      refine r_aload_n (q := 36) dX12_laysAhead_35 rfl rfl ?_
      refine r_iload_n (q := 37) dX12_laysAhead_36 rfl rfl ?_
      obtain ⟨y12, e11, h⟩ := Option.bind_eq_some_iff.mp h
      refine r_callV_i (av := [(.inl s.1)]) (st := [(.inr 0)]) (q := 40) (d1 := 0) kc_X12_357 sc_m_0 dX12_laysAhead_37 rfl rfl (Nat.le_of_ble_eq_true rfl) (Nat.le_of_ble_eq_true rfl) (by omega) rfl rfl (t_X12_octet (d := 0) (by omega) s.1 s.2 _ e11) ?_
      refine r_aload_n (q := 41) dX12_laysAhead_40 rfl rfl ?_
      refine r_iload_n (q := 42) dX12_laysAhead_41 rfl rfl ?_
      obtain ⟨y14, e13, h⟩ := Option.bind_eq_some_iff.mp h
      refine r_callV_i (av := [(.inl x2)]) (st := [(.inl y12), (.inr 0)]) (q := 45) (d1 := 0) kc_X12_357 sc_m_0 dX12_laysAhead_42 rfl rfl (Nat.le_of_ble_eq_true rfl) (Nat.le_of_ble_eq_true rfl) (by omega) rfl rfl (t_X12_octet (d := 0) (by omega) x2 s.2 _ e13) ?_
      obtain ⟨y16, e15, h⟩ := Option.bind_eq_some_iff.mp h
      refine r_callV_i (av := [(.inl y12), (.inl y14)]) (st := []) (q := 48) (d1 := 1) kc_X12_354 sc_m_0 dX12_laysAhead_45 rfl rfl (Nat.le_of_ble_eq_true rfl) (Nat.le_of_ble_eq_true rfl) (by omega) rfl rfl (t_X12_mayChange (d := 1) (by omega) y12 y14 s.2 _ e15) ?_
      refine r_if_ne 67 (q := 51) dX12_laysAhead_48 (by decide) rfl (fun c17 => ?_) (fun c17 => ?_)
      · rw [if_pos (mm_b1 c17)] at h
        refine r_iinc (v := 1) (q := 70) (L' := [some (.inr 0), some (.inl x1), some (.inl x2), some (.inl (s.1 + 1))]) dX12_laysAhead_67 (by decide) (by decide) rfl rfl rfl ?_
        refine r_goto 16 dX12_laysAhead_70 (by decide) ?_
        cases h
        have hk := kb _ rfl
        exact hk
      · rw [if_neg (mm_b0 c17)] at h
        exact t_X12_laysAhead_j51l16 hd x1 x2 s.1 s.2 _ h kb ke
noncomputable def X12_laysAhead_l2 (x1 : Int32) (s : (Int32 × mm_M)) : Option ((Int32 × mm_M) ⊕ mm_M) := if x1 ≤ s.1 then some (.inr s.2) else if mm_in s.1 10 = true then (mm_loop (X12_laysAhead_l16 x1 s.1) mm_fuel (0, (mm_U s.2 27 (Int32.toNatClampNeg s.1) 0))).bind fun y18 => some (.inl ((s.1 + 1), y18)) else none
set_option maxRecDepth 100000 in
set_option maxHeartbeats 400000 in
theorem t_X12_laysAhead_l2 {D : mm_D} {d : Nat} (hd : 2 ≤ d) {Z : Option Int32 → List mm_C → mm_M → Prop} (x1 : Int32) (n : Nat) (s : (Int32 × mm_M)) (r : mm_M) (h : mm_loop (X12_laysAhead_l2 x1) n s = some r) (hx : Z none S_m r) : mm_Go jX12_laysAhead D d 0 0 2 [some (.inr 0), some (.inl x1), some (.inl s.1), none] [] S_m s.2 Z := by
  refine mm_loop_go (step := X12_laysAhead_l2 x1) (Hd := fun (s : (Int32 × mm_M)) => mm_Go jX12_laysAhead D d 0 0 2 [some (.inr 0), some (.inl x1), some (.inl s.1), none] [] S_m s.2 Z) (Ex := fun (r : mm_M) => Z none S_m r) ?_ n s r h hx
  intro s o h kb ke
  show mm_Go jX12_laysAhead D d 0 0 2 [some (.inr 0), some (.inl x1), some (.inl s.1), none] [] S_m s.2 Z
  unfold X12_laysAhead_l2 at h
  refine r_iload_n (q := 3) dX12_laysAhead_2 rfl rfl ?_
  refine r_iload_n (q := 4) dX12_laysAhead_3 rfl rfl ?_
  refine r_icmp_ge 79 (q := 7) dX12_laysAhead_4 (by decide) rfl (fun c1 => ?_) (fun c1 => ?_)
  · rw [if_pos c1] at h
    cases h
    have hk := ke _ rfl
    exact r_retv dX12_laysAhead_79 rfl hk
  · rw [if_neg c1] at h
    refine r_aload_n (q := 8) dX12_laysAhead_7 rfl rfl ?_
    refine r_getr (b := 27) (q := 11) lk_X12_89 dX12_laysAhead_8 sc_m_0 rfl rfl ?_
    refine r_iload_n (q := 12) dX12_laysAhead_11 rfl rfl ?_
    refine r_iconst (v := 0) (q := 13) dX12_laysAhead_12 (by decide) rfl ?_
    obtain ⟨g2, h⟩ := mm_guard h
    refine r_iast (j := (Int32.toNatClampNeg s.1)) (q := 14) dX12_laysAhead_13 sc_m_27 (mm_vp g2) rfl rfl ?_
    refine r_iconst (v := 0) (q := 15) dX12_laysAhead_14 (by decide) rfl ?_
    refine r_istore_n (q := 16) (L' := [some (.inr 0), some (.inl x1), some (.inl s.1), some (.inl 0)]) dX12_laysAhead_15 (by decide) rfl rfl ?_
    obtain ⟨y18, e19, h⟩ := Option.bind_eq_some_iff.mp h
    refine t_X12_laysAhead_l16 hd x1 s.1 mm_fuel (0, (mm_U s.2 27 (Int32.toNatClampNeg s.1) 0)) _ e19 ?_
    show mm_Go jX12_laysAhead _ _ _ _ 73 [some (.inr 0), some (.inl x1), some (.inl s.1), none] [] S_m y18 _
    refine r_iinc (v := 1) (q := 76) (L' := [some (.inr 0), some (.inl x1), some (.inl (s.1 + 1)), none]) dX12_laysAhead_73 (by decide) (by decide) rfl rfl rfl ?_
    refine r_goto 2 dX12_laysAhead_76 (by decide) ?_
    cases h
    have hk := kb _ rfl
    exact hk
noncomputable def X12_laysAhead (x1 : Int32) (M : mm_M) : Option mm_M := (mm_loop (X12_laysAhead_l2 x1) mm_fuel (0, M))
set_option maxRecDepth 100000 in
set_option maxHeartbeats 400000 in
theorem t_X12_laysAhead {d : Nat} (hd : 2 ≤ d) (x1 : Int32) (M : mm_M) (res : mm_M) (h : X12_laysAhead x1 M = some res) : mm_Meth jX12_laysAhead d 0 0 [(.inr 0), (.inl x1)] S_m M (mm_Zv S_m res) := by
  refine r_meth (L := [some (.inr 0), some (.inl x1), none, none]) rfl (fun D => ?_)
  unfold X12_laysAhead at h
  refine r_iconst (v := 0) (q := 1) dX12_laysAhead_0 (by decide) rfl ?_
  refine r_istore_n (q := 2) (L' := [some (.inr 0), some (.inl x1), some (.inl 0), none]) dX12_laysAhead_1 (by decide) rfl rfl ?_
  exact t_X12_laysAhead_l2 hd x1 mm_fuel (0, M) _ h mm_Zv_rfl
noncomputable def X12_endsWith_l3 (x1 : Int32) (x2 : Int32) (x3 : Int32) (M : mm_M) (s : Int32) : Option (Int32 ⊕ (Int32 ⊕ Unit)) := if x3 ≤ s then some (.inr (.inr ())) else if (X12_has x1 s) = true then if mm_in s 10 = true then if (X12_has (M 27 (Int32.toNatClampNeg s)) x2) = true then some (.inr (.inl 0)) else some (.inl (s + 1)) else none else some (.inl (s + 1))
set_option maxRecDepth 100000 in
set_option maxHeartbeats 400000 in
theorem t_X12_endsWith_l3 {D : mm_D} {d : Nat} (hd : 1 ≤ d) {Z : Option Int32 → List mm_C → mm_M → Prop} (x1 : Int32) (x2 : Int32) (x3 : Int32) (M : mm_M) (n : Nat) (s : Int32) (r : (Int32 ⊕ Unit)) (h : mm_loop (X12_endsWith_l3 x1 x2 x3 M) n s = some r) (hx : (Sum.elim (fun (y : Int32) => Z (some y) S_m M) (fun (s : Unit) => mm_Go jX12_endsWith D d 0 0 40 [some (.inr 0), some (.inl x1), some (.inl x2), none, none] [] S_m M Z) r)) : mm_Go jX12_endsWith D d 0 0 3 [some (.inr 0), some (.inl x1), some (.inl x2), some (.inl x3), some (.inl s)] [] S_m M Z := by
  refine mm_loop_go (step := X12_endsWith_l3 x1 x2 x3 M) (Hd := fun (s : Int32) => mm_Go jX12_endsWith D d 0 0 3 [some (.inr 0), some (.inl x1), some (.inl x2), some (.inl x3), some (.inl s)] [] S_m M Z) (Ex := fun (r : (Int32 ⊕ Unit)) => (Sum.elim (fun (y : Int32) => Z (some y) S_m M) (fun (s : Unit) => mm_Go jX12_endsWith D d 0 0 40 [some (.inr 0), some (.inl x1), some (.inl x2), none, none] [] S_m M Z) r)) ?_ n s r h hx
  intro s o h kb ke
  show mm_Go jX12_endsWith D d 0 0 3 [some (.inr 0), some (.inl x1), some (.inl x2), some (.inl x3), some (.inl s)] [] S_m M Z
  unfold X12_endsWith_l3 at h
  refine r_iload (q := 5) dX12_endsWith_3 rfl rfl ?_
  refine r_iload_n (q := 6) dX12_endsWith_5 rfl rfl ?_
  refine r_icmp_ge 40 (q := 9) dX12_endsWith_6 (by decide) rfl (fun c1 => ?_) (fun c1 => ?_)
  · rw [if_pos c1] at h
    refine r_forget (L' := [some (.inr 0), some (.inl x1), some (.inl x2), none, none]) [true, true, true, false, false] rfl ?_
    cases h
    have hk := ke _ rfl
    exact hk
  · rw [if_neg c1] at h
    refine r_iload_n (q := 10) dX12_endsWith_9 rfl rfl ?_
    refine r_iload (q := 12) dX12_endsWith_10 rfl rfl ?_
    refine r_callS_i (av := [(.inl x1), (.inl s)]) (st := []) (q := 15) (d1 := 0) kc_X12_119 dX12_endsWith_12 rfl rfl (Nat.le_of_ble_eq_true rfl) (Nat.le_of_ble_eq_true rfl) (by omega) rfl rfl (t_X12_has (d := 0) (by omega) x1 s M _ rfl) ?_
    refine r_if_eq 34 (q := 18) dX12_endsWith_15 (by decide) rfl (fun c2 => ?_) (fun c2 => ?_)
    · rw [if_neg (mm_b0 c2)] at h
      refine r_iinc (v := 1) (q := 37) (L' := [some (.inr 0), some (.inl x1), some (.inl x2), some (.inl x3), some (.inl (s + 1))]) dX12_endsWith_34 (by decide) (by decide) rfl rfl rfl ?_
      refine r_goto 3 dX12_endsWith_37 (by decide) ?_
      cases h
      have hk := kb _ rfl
      exact hk
    · rw [if_pos (mm_b1 c2)] at h
      refine r_aload_n (q := 19) dX12_endsWith_18 rfl rfl ?_
      refine r_getr (b := 27) (q := 22) lk_X12_89 dX12_endsWith_19 sc_m_0 rfl rfl ?_
      refine r_iload (q := 24) dX12_endsWith_22 rfl rfl ?_
      obtain ⟨g3, h⟩ := mm_guard h
      refine r_iald (v := (M 27 (Int32.toNatClampNeg s))) (q := 25) dX12_endsWith_24 sc_m_27 (mm_vp g3) rfl rfl ?_
      refine r_iload_n (q := 26) dX12_endsWith_25 rfl rfl ?_
      refine r_callS_i (av := [(.inl (M 27 (Int32.toNatClampNeg s))), (.inl x2)]) (st := []) (q := 29) (d1 := 0) kc_X12_119 dX12_endsWith_26 rfl rfl (Nat.le_of_ble_eq_true rfl) (Nat.le_of_ble_eq_true rfl) (by omega) rfl rfl (t_X12_has (d := 0) (by omega) (M 27 (Int32.toNatClampNeg s)) x2 M _ rfl) ?_
      refine r_if_eq 34 (q := 32) dX12_endsWith_29 (by decide) rfl (fun c4 => ?_) (fun c4 => ?_)
      · rw [if_neg (mm_b0 c4)] at h
        refine r_iinc (v := 1) (q := 37) (L' := [some (.inr 0), some (.inl x1), some (.inl x2), some (.inl x3), some (.inl (s + 1))]) dX12_endsWith_34 (by decide) (by decide) rfl rfl rfl ?_
        refine r_goto 3 dX12_endsWith_37 (by decide) ?_
        cases h
        have hk := kb _ rfl
        exact hk
      · rw [if_pos (mm_b1 c4)] at h
        refine r_iconst (v := 0) (q := 33) dX12_endsWith_32 (by decide) rfl ?_
        cases h
        have hk := ke _ rfl
        exact r_ret dX12_endsWith_33 rfl hk
noncomputable def X12_endsWith (x1 : Int32) (x2 : Int32) (x3 : Int32) (M : mm_M) : Option Int32 := (mm_loop (X12_endsWith_l3 x1 x2 x3 M) mm_fuel 0).bind fun y5 => (match y5 with | .inl y5r => some y5r | .inr y5s => if mm_in (x1 &&& (((1 : Int32) <<< (x2 &&& 31)) ^^^ (-1))) 1024 = true then some (M 28 (Int32.toNatClampNeg (x1 &&& (((1 : Int32) <<< (x2 &&& 31)) ^^^ (-1))))) else none)
set_option maxRecDepth 100000 in
set_option maxHeartbeats 400000 in
theorem t_X12_endsWith {d : Nat} (hd : 1 ≤ d) (x1 : Int32) (x2 : Int32) (x3 : Int32) (M : mm_M) (res : Int32) (h : X12_endsWith x1 x2 x3 M = some res) : mm_Meth jX12_endsWith d 0 0 [(.inr 0), (.inl x1), (.inl x2), (.inl x3)] S_m M (mm_Zi res S_m M) := by
  refine r_meth (L := [some (.inr 0), some (.inl x1), some (.inl x2), some (.inl x3), none]) rfl (fun D => ?_)
  unfold X12_endsWith at h
  refine r_iconst (v := 0) (q := 1) dX12_endsWith_0 (by decide) rfl ?_
  refine r_istore (q := 3) (L' := [some (.inr 0), some (.inl x1), some (.inl x2), some (.inl x3), some (.inl 0)]) dX12_endsWith_1 (by decide) rfl rfl ?_
  obtain ⟨y5, e6, h⟩ := Option.bind_eq_some_iff.mp h
  refine t_X12_endsWith_l3 hd x1 x2 x3 M mm_fuel 0 _ e6 ?_
  rcases y5 with y5r | y5s
  · dsimp only at h
    cases h
    exact mm_Zi_rfl
  · dsimp only at h
    show mm_Go jX12_endsWith _ _ _ _ 40 [some (.inr 0), some (.inl x1), some (.inl x2), none, none] [] S_m M _
    refine r_aload_n (q := 41) dX12_endsWith_40 rfl rfl ?_
    refine r_getr (b := 28) (q := 44) lk_X12_92 dX12_endsWith_41 sc_m_0 rfl rfl ?_
    refine r_iload_n (q := 45) dX12_endsWith_44 rfl rfl ?_
    refine r_iconst (v := 1) (q := 46) dX12_endsWith_45 (by decide) rfl ?_
    refine r_iload_n (q := 47) dX12_endsWith_46 rfl rfl ?_
    refine r_ishl (q := 48) dX12_endsWith_47 rfl ?_
    refine r_iconst (v := (-1)) (q := 49) dX12_endsWith_48 (by decide) rfl ?_
    refine r_ixor (q := 50) dX12_endsWith_49 rfl ?_
    refine r_iand (q := 51) dX12_endsWith_50 rfl ?_
    obtain ⟨g7, h⟩ := mm_guard h
    refine r_iald (v := (M 28 (Int32.toNatClampNeg (x1 &&& (((1 : Int32) <<< (x2 &&& 31)) ^^^ (-1)))))) (q := 52) dX12_endsWith_51 sc_m_28 (mm_vp g7) rfl rfl ?_
    cases h
    exact r_ret dX12_endsWith_52 rfl mm_Zi_rfl
noncomputable def X12_rowsOf_l26 (x1 : Int32) (x2 : Int32) (s : (Int32 × mm_M)) : Option ((Int32 × mm_M) ⊕ mm_M) := if x1 ≤ s.1 then some (.inr s.2) else if (X12_has x2 s.1) = true then if mm_in s.1 10 = true then if ((s.2 27 (Int32.toNatClampNeg s.1)) &&& (x2 ^^^ (-1))) = 0 then if mm_in x2 1024 = true then (X12_endsWith x2 s.1 x1 s.2).bind fun y10 => if mm_in x2 1024 = true then some (.inl ((s.1 + 1), (mm_U s.2 28 (Int32.toNatClampNeg x2) ((s.2 28 (Int32.toNatClampNeg x2)) + y10)))) else none else none else some (.inl ((s.1 + 1), s.2)) else none else some (.inl ((s.1 + 1), s.2))
set_option maxRecDepth 100000 in
set_option maxHeartbeats 400000 in
theorem t_X12_rowsOf_l26 {D : mm_D} {d : Nat} (hd : 2 ≤ d) {Z : Option Int32 → List mm_C → mm_M → Prop} (x1 : Int32) (x2 : Int32) (n : Nat) (s : (Int32 × mm_M)) (r : mm_M) (h : mm_loop (X12_rowsOf_l26 x1 x2) n s = some r) (hx : mm_Go jX12_rowsOf D d 0 0 78 [some (.inr 0), some (.inl x1), some (.inl x2), none] [] S_m r Z) : mm_Go jX12_rowsOf D d 0 0 26 [some (.inr 0), some (.inl x1), some (.inl x2), some (.inl s.1)] [] S_m s.2 Z := by
  refine mm_loop_go (step := X12_rowsOf_l26 x1 x2) (Hd := fun (s : (Int32 × mm_M)) => mm_Go jX12_rowsOf D d 0 0 26 [some (.inr 0), some (.inl x1), some (.inl x2), some (.inl s.1)] [] S_m s.2 Z) (Ex := fun (r : mm_M) => mm_Go jX12_rowsOf D d 0 0 78 [some (.inr 0), some (.inl x1), some (.inl x2), none] [] S_m r Z) ?_ n s r h hx
  intro s o h kb ke
  show mm_Go jX12_rowsOf D d 0 0 26 [some (.inr 0), some (.inl x1), some (.inl x2), some (.inl s.1)] [] S_m s.2 Z
  unfold X12_rowsOf_l26 at h
  refine r_iload_n (q := 27) dX12_rowsOf_26 rfl rfl ?_
  refine r_iload_n (q := 28) dX12_rowsOf_27 rfl rfl ?_
  refine r_icmp_ge 78 (q := 31) dX12_rowsOf_28 (by decide) rfl (fun c4 => ?_) (fun c4 => ?_)
  · rw [if_pos c4] at h
    refine r_forget (L' := [some (.inr 0), some (.inl x1), some (.inl x2), none]) [true, true, true, false] rfl ?_
    cases h
    have hk := ke _ rfl
    exact hk
  · rw [if_neg c4] at h
    refine r_iload_n (q := 32) dX12_rowsOf_31 rfl rfl ?_
    refine r_iload_n (q := 33) dX12_rowsOf_32 rfl rfl ?_
    refine r_callS_i (av := [(.inl x2), (.inl s.1)]) (st := []) (q := 36) (d1 := 0) kc_X12_119 dX12_rowsOf_33 rfl rfl (Nat.le_of_ble_eq_true rfl) (Nat.le_of_ble_eq_true rfl) (by omega) rfl rfl (t_X12_has (d := 0) (by omega) x2 s.1 s.2 _ rfl) ?_
    refine r_if_eq 72 (q := 39) dX12_rowsOf_36 (by decide) rfl (fun c5 => ?_) (fun c5 => ?_)
    · rw [if_neg (mm_b0 c5)] at h
      refine r_iinc (v := 1) (q := 75) (L' := [some (.inr 0), some (.inl x1), some (.inl x2), some (.inl (s.1 + 1))]) dX12_rowsOf_72 (by decide) (by decide) rfl rfl rfl ?_
      refine r_goto 26 dX12_rowsOf_75 (by decide) ?_
      cases h
      have hk := kb _ rfl
      exact hk
    · rw [if_pos (mm_b1 c5)] at h
      refine r_aload_n (q := 40) dX12_rowsOf_39 rfl rfl ?_
      refine r_getr (b := 27) (q := 43) lk_X12_89 dX12_rowsOf_40 sc_m_0 rfl rfl ?_
      refine r_iload_n (q := 44) dX12_rowsOf_43 rfl rfl ?_
      obtain ⟨g6, h⟩ := mm_guard h
      refine r_iald (v := (s.2 27 (Int32.toNatClampNeg s.1))) (q := 45) dX12_rowsOf_44 sc_m_27 (mm_vp g6) rfl rfl ?_
      refine r_iload_n (q := 46) dX12_rowsOf_45 rfl rfl ?_
      refine r_iconst (v := (-1)) (q := 47) dX12_rowsOf_46 (by decide) rfl ?_
      refine r_ixor (q := 48) dX12_rowsOf_47 rfl ?_
      refine r_iand (q := 49) dX12_rowsOf_48 rfl ?_
      refine r_if_ne 72 (q := 52) dX12_rowsOf_49 (by decide) rfl (fun c7 => ?_) (fun c7 => ?_)
      · rw [if_neg c7] at h
        refine r_iinc (v := 1) (q := 75) (L' := [some (.inr 0), some (.inl x1), some (.inl x2), some (.inl (s.1 + 1))]) dX12_rowsOf_72 (by decide) (by decide) rfl rfl rfl ?_
        refine r_goto 26 dX12_rowsOf_75 (by decide) ?_
        cases h
        have hk := kb _ rfl
        exact hk
      · rw [if_pos c7] at h
        refine r_aload_n (q := 53) dX12_rowsOf_52 rfl rfl ?_
        refine r_getr (b := 28) (q := 56) lk_X12_92 dX12_rowsOf_53 sc_m_0 rfl rfl ?_
        refine r_iload_n (q := 57) dX12_rowsOf_56 rfl rfl ?_
        refine r_aload_n (q := 58) dX12_rowsOf_57 rfl rfl ?_
        refine r_getr (b := 28) (q := 61) lk_X12_92 dX12_rowsOf_58 sc_m_0 rfl rfl ?_
        refine r_iload_n (q := 62) dX12_rowsOf_61 rfl rfl ?_
        obtain ⟨g8, h⟩ := mm_guard h
        refine r_iald (v := (s.2 28 (Int32.toNatClampNeg x2))) (q := 63) dX12_rowsOf_62 sc_m_28 (mm_vp g8) rfl rfl ?_
        refine r_aload_n (q := 64) dX12_rowsOf_63 rfl rfl ?_
        refine r_iload_n (q := 65) dX12_rowsOf_64 rfl rfl ?_
        refine r_iload_n (q := 66) dX12_rowsOf_65 rfl rfl ?_
        refine r_iload_n (q := 67) dX12_rowsOf_66 rfl rfl ?_
        obtain ⟨y10, e9, h⟩ := Option.bind_eq_some_iff.mp h
        refine r_callV_i (av := [(.inl x2), (.inl s.1), (.inl x1)]) (st := [(.inl (s.2 28 (Int32.toNatClampNeg x2))), (.inl x2), (.inr 28)]) (q := 70) (d1 := 1) kc_X12_360 sc_m_0 dX12_rowsOf_67 rfl rfl (Nat.le_of_ble_eq_true rfl) (Nat.le_of_ble_eq_true rfl) (by omega) rfl rfl (t_X12_endsWith (d := 1) (by omega) x2 s.1 x1 s.2 _ e9) ?_
        refine r_iadd (q := 71) dX12_rowsOf_70 rfl ?_
        obtain ⟨g11, h⟩ := mm_guard h
        refine r_iast (j := (Int32.toNatClampNeg x2)) (q := 72) dX12_rowsOf_71 sc_m_28 (mm_vp g11) rfl rfl ?_
        refine r_iinc (v := 1) (q := 75) (L' := [some (.inr 0), some (.inl x1), some (.inl x2), some (.inl (s.1 + 1))]) dX12_rowsOf_72 (by decide) (by decide) rfl rfl rfl ?_
        refine r_goto 26 dX12_rowsOf_75 (by decide) ?_
        cases h
        have hk := kb _ rfl
        exact hk
noncomputable def X12_rowsOf_j23l2 (x1 : Int32) (x2 : Int32) (z1 : Int32) (z2 : Bool) (M : mm_M) : Option ((Int32 × mm_M) ⊕ mm_M) := if mm_in z1 1024 = true then (mm_loop (X12_rowsOf_l26 x1 x2) mm_fuel (0, (mm_U M 28 (Int32.toNatClampNeg z1) (mm_b z2)))).bind fun y12 => some (.inl ((x2 + 1), y12)) else none
set_option maxRecDepth 100000 in
set_option maxHeartbeats 400000 in
theorem t_X12_rowsOf_j23l2 {D : mm_D} {d : Nat} (hd : 2 ≤ d) {Z : Option Int32 → List mm_C → mm_M → Prop} (x1 : Int32) (x2 : Int32) (z1 : Int32) (z2 : Bool) (M : mm_M) (o : (Int32 × mm_M) ⊕ mm_M) (h : X12_rowsOf_j23l2 x1 x2 z1 z2 M = some o) (kb : ∀ s', o = .inl s' → mm_Go jX12_rowsOf D d 0 0 2 [some (.inr 0), some (.inl x1), some (.inl s'.1), none] [] S_m s'.2 Z) (ke : ∀ r, o = .inr r → mm_Go jX12_rowsOf D d 0 0 84 [some (.inr 0), some (.inl x1), none, none] [] S_m r Z) : mm_Go jX12_rowsOf D d 0 0 23 [some (.inr 0), some (.inl x1), some (.inl x2), none] [(.inl (mm_b z2)), (.inl z1), (.inr 28)] S_m M Z := by
  unfold X12_rowsOf_j23l2 at h
  obtain ⟨g3, h⟩ := mm_guard h
  refine r_iast (j := (Int32.toNatClampNeg z1)) (q := 24) dX12_rowsOf_23 sc_m_28 (mm_vp g3) rfl rfl ?_
  refine r_iconst (v := 0) (q := 25) dX12_rowsOf_24 (by decide) rfl ?_
  refine r_istore_n (q := 26) (L' := [some (.inr 0), some (.inl x1), some (.inl x2), some (.inl 0)]) dX12_rowsOf_25 (by decide) rfl rfl ?_
  obtain ⟨y12, e13, h⟩ := Option.bind_eq_some_iff.mp h
  refine t_X12_rowsOf_l26 hd x1 x2 mm_fuel (0, (mm_U M 28 (Int32.toNatClampNeg z1) (mm_b z2))) _ e13 ?_
  show mm_Go jX12_rowsOf _ _ _ _ 78 [some (.inr 0), some (.inl x1), some (.inl x2), none] [] S_m y12 _
  refine r_iinc (v := 1) (q := 81) (L' := [some (.inr 0), some (.inl x1), some (.inl (x2 + 1)), none]) dX12_rowsOf_78 (by decide) (by decide) rfl rfl rfl ?_
  refine r_goto 2 dX12_rowsOf_81 (by decide) ?_
  cases h
  have hk := kb _ rfl
  exact hk
noncomputable def X12_rowsOf_l2 (x1 : Int32) (s : (Int32 × mm_M)) : Option ((Int32 × mm_M) ⊕ mm_M) := if ((1 : Int32) <<< (x1 &&& 31)) ≤ s.1 then some (.inr s.2) else if s.1 = 0 then X12_rowsOf_j23l2 x1 s.1 s.1 true s.2 else X12_rowsOf_j23l2 x1 s.1 s.1 false s.2
set_option maxRecDepth 100000 in
set_option maxHeartbeats 400000 in
theorem t_X12_rowsOf_l2 {D : mm_D} {d : Nat} (hd : 2 ≤ d) {Z : Option Int32 → List mm_C → mm_M → Prop} (x1 : Int32) (n : Nat) (s : (Int32 × mm_M)) (r : mm_M) (h : mm_loop (X12_rowsOf_l2 x1) n s = some r) (hx : mm_Go jX12_rowsOf D d 0 0 84 [some (.inr 0), some (.inl x1), none, none] [] S_m r Z) : mm_Go jX12_rowsOf D d 0 0 2 [some (.inr 0), some (.inl x1), some (.inl s.1), none] [] S_m s.2 Z := by
  refine mm_loop_go (step := X12_rowsOf_l2 x1) (Hd := fun (s : (Int32 × mm_M)) => mm_Go jX12_rowsOf D d 0 0 2 [some (.inr 0), some (.inl x1), some (.inl s.1), none] [] S_m s.2 Z) (Ex := fun (r : mm_M) => mm_Go jX12_rowsOf D d 0 0 84 [some (.inr 0), some (.inl x1), none, none] [] S_m r Z) ?_ n s r h hx
  intro s o h kb ke
  show mm_Go jX12_rowsOf D d 0 0 2 [some (.inr 0), some (.inl x1), some (.inl s.1), none] [] S_m s.2 Z
  unfold X12_rowsOf_l2 at h
  refine r_iload_n (q := 3) dX12_rowsOf_2 rfl rfl ?_
  refine r_iconst (v := 1) (q := 4) dX12_rowsOf_3 (by decide) rfl ?_
  refine r_iload_n (q := 5) dX12_rowsOf_4 rfl rfl ?_
  refine r_ishl (q := 6) dX12_rowsOf_5 rfl ?_
  refine r_icmp_ge 84 (q := 9) dX12_rowsOf_6 (by decide) rfl (fun c1 => ?_) (fun c1 => ?_)
  · rw [if_pos c1] at h
    refine r_forget (L' := [some (.inr 0), some (.inl x1), none, none]) [true, true, false, false] rfl ?_
    cases h
    have hk := ke _ rfl
    exact hk
  · rw [if_neg c1] at h
    refine r_aload_n (q := 10) dX12_rowsOf_9 rfl rfl ?_
    refine r_getr (b := 28) (q := 13) lk_X12_92 dX12_rowsOf_10 sc_m_0 rfl rfl ?_
    refine r_iload_n (q := 14) dX12_rowsOf_13 rfl rfl ?_
    refine r_iload_n (q := 15) dX12_rowsOf_14 rfl rfl ?_
    refine r_if_ne 22 (q := 18) dX12_rowsOf_15 (by decide) rfl (fun c2 => ?_) (fun c2 => ?_)
    · rw [if_neg c2] at h
      refine r_iconst (v := 0) (q := 23) dX12_rowsOf_22 (by decide) rfl ?_
      exact t_X12_rowsOf_j23l2 hd x1 s.1 s.1 false s.2 _ h kb ke
    · rw [if_pos c2] at h
      refine r_iconst (v := 1) (q := 19) dX12_rowsOf_18 (by decide) rfl ?_
      refine r_goto 23 dX12_rowsOf_19 (by decide) ?_
      exact t_X12_rowsOf_j23l2 hd x1 s.1 s.1 true s.2 _ h kb ke
noncomputable def X12_rowsOf (x1 : Int32) (M : mm_M) : Option (Int32 × mm_M) := (mm_loop (X12_rowsOf_l2 x1) mm_fuel (0, M)).bind fun y14 => if mm_in (((1 : Int32) <<< (x1 &&& 31)) - 1) 1024 = true then some ((y14 28 (Int32.toNatClampNeg (((1 : Int32) <<< (x1 &&& 31)) - 1))), y14) else none
set_option maxRecDepth 100000 in
set_option maxHeartbeats 400000 in
theorem t_X12_rowsOf {d : Nat} (hd : 2 ≤ d) (x1 : Int32) (M : mm_M) (res : (Int32 × mm_M)) (h : X12_rowsOf x1 M = some res) : mm_Meth jX12_rowsOf d 0 0 [(.inr 0), (.inl x1)] S_m M (mm_Zi res.1 S_m res.2) := by
  refine r_meth (L := [some (.inr 0), some (.inl x1), none, none]) rfl (fun D => ?_)
  unfold X12_rowsOf at h
  refine r_iconst (v := 0) (q := 1) dX12_rowsOf_0 (by decide) rfl ?_
  refine r_istore_n (q := 2) (L' := [some (.inr 0), some (.inl x1), some (.inl 0), none]) dX12_rowsOf_1 (by decide) rfl rfl ?_
  obtain ⟨y14, e15, h⟩ := Option.bind_eq_some_iff.mp h
  refine t_X12_rowsOf_l2 hd x1 mm_fuel (0, M) _ e15 ?_
  show mm_Go jX12_rowsOf _ _ _ _ 84 [some (.inr 0), some (.inl x1), none, none] [] S_m y14 _
  refine r_aload_n (q := 85) dX12_rowsOf_84 rfl rfl ?_
  refine r_getr (b := 28) (q := 88) lk_X12_92 dX12_rowsOf_85 sc_m_0 rfl rfl ?_
  refine r_iconst (v := 1) (q := 89) dX12_rowsOf_88 (by decide) rfl ?_
  refine r_iload_n (q := 90) dX12_rowsOf_89 rfl rfl ?_
  refine r_ishl (q := 91) dX12_rowsOf_90 rfl ?_
  refine r_iconst (v := 1) (q := 92) dX12_rowsOf_91 (by decide) rfl ?_
  refine r_isub (q := 93) dX12_rowsOf_92 rfl ?_
  obtain ⟨g16, h⟩ := mm_guard h
  refine r_iald (v := (y14 28 (Int32.toNatClampNeg (((1 : Int32) <<< (x1 &&& 31)) - 1)))) (q := 94) dX12_rowsOf_93 sc_m_28 (mm_vp g16) rfl rfl ?_
  cases h
  exact r_ret dX12_rowsOf_94 rfl mm_Zi_rfl
noncomputable def X12_firstForm_l20 (x1 : Int32) (x2 : Int32) (x3 : Int32) (x5 : Int32) (M : mm_M) (s : (Int32 × Int32)) : Option ((Int32 × Int32) ⊕ Int32) := if x1 ≤ s.2 then some (.inr s.1) else if (X12_has x3 s.2) = true then some (.inl (s.1, (s.2 + 1))) else if mm_in s.2 10 = true then if ((M 27 (Int32.toNatClampNeg s.2)) &&& (x3 ^^^ (-1))) = 0 then if s.1 = (-1) then some (.inl (s.2, (s.2 + 1))) else (X12_octet s.2 M).bind fun y8 => (X12_octet s.1 M).bind fun y10 => if y10 ≤ y8 then some (.inl (s.1, (s.2 + 1))) else some (.inl (s.2, (s.2 + 1))) else some (.inl (s.1, (s.2 + 1))) else none
set_option maxRecDepth 100000 in
set_option maxHeartbeats 400000 in
theorem t_X12_firstForm_l20 {D : mm_D} {d : Nat} (hd : 1 ≤ d) {Z : Option Int32 → List mm_C → mm_M → Prop} (x1 : Int32) (x2 : Int32) (x3 : Int32) (x5 : Int32) (M : mm_M) (n : Nat) (s : (Int32 × Int32)) (r : Int32) (h : mm_loop (X12_firstForm_l20 x1 x2 x3 x5 M) n s = some r) (hx : mm_Go jX12_firstForm D d 0 0 80 [some (.inr 0), some (.inl x1), some (.inl x2), some (.inl x3), none, some (.inl x5), some (.inl r), none] [] S_m M Z) : mm_Go jX12_firstForm D d 0 0 20 [some (.inr 0), some (.inl x1), some (.inl x2), some (.inl x3), none, some (.inl x5), some (.inl s.1), some (.inl s.2)] [] S_m M Z := by
  refine mm_loop_go (step := X12_firstForm_l20 x1 x2 x3 x5 M) (Hd := fun (s : (Int32 × Int32)) => mm_Go jX12_firstForm D d 0 0 20 [some (.inr 0), some (.inl x1), some (.inl x2), some (.inl x3), none, some (.inl x5), some (.inl s.1), some (.inl s.2)] [] S_m M Z) (Ex := fun (r : Int32) => mm_Go jX12_firstForm D d 0 0 80 [some (.inr 0), some (.inl x1), some (.inl x2), some (.inl x3), none, some (.inl x5), some (.inl r), none] [] S_m M Z) ?_ n s r h hx
  intro s o h kb ke
  show mm_Go jX12_firstForm D d 0 0 20 [some (.inr 0), some (.inl x1), some (.inl x2), some (.inl x3), none, some (.inl x5), some (.inl s.1), some (.inl s.2)] [] S_m M Z
  unfold X12_firstForm_l20 at h
  refine r_iload (q := 22) dX12_firstForm_20 rfl rfl ?_
  refine r_iload_n (q := 23) dX12_firstForm_22 rfl rfl ?_
  refine r_icmp_ge 80 (q := 26) dX12_firstForm_23 (by decide) rfl (fun c2 => ?_) (fun c2 => ?_)
  · rw [if_pos c2] at h
    refine r_forget (L' := [some (.inr 0), some (.inl x1), some (.inl x2), some (.inl x3), none, some (.inl x5), some (.inl s.1), none]) [true, true, true, true, false, true, true, false] rfl ?_
    cases h
    have hk := ke _ rfl
    exact hk
  · rw [if_neg c2] at h
    refine r_iload_n (q := 27) dX12_firstForm_26 rfl rfl ?_
    refine r_iload (q := 29) dX12_firstForm_27 rfl rfl ?_
    refine r_callS_i (av := [(.inl x3), (.inl s.2)]) (st := []) (q := 32) (d1 := 0) kc_X12_119 dX12_firstForm_29 rfl rfl (Nat.le_of_ble_eq_true rfl) (Nat.le_of_ble_eq_true rfl) (by omega) rfl rfl (t_X12_has (d := 0) (by omega) x3 s.2 M _ rfl) ?_
    refine r_if_ne 74 (q := 35) dX12_firstForm_32 (by decide) rfl (fun c3 => ?_) (fun c3 => ?_)
    · rw [if_pos (mm_b1 c3)] at h
      refine r_iinc (v := 1) (q := 77) (L' := [some (.inr 0), some (.inl x1), some (.inl x2), some (.inl x3), none, some (.inl x5), some (.inl s.1), some (.inl (s.2 + 1))]) dX12_firstForm_74 (by decide) (by decide) rfl rfl rfl ?_
      refine r_goto 20 dX12_firstForm_77 (by decide) ?_
      cases h
      have hk := kb _ rfl
      exact hk
    · rw [if_neg (mm_b0 c3)] at h
      refine r_aload_n (q := 36) dX12_firstForm_35 rfl rfl ?_
      refine r_getr (b := 27) (q := 39) lk_X12_89 dX12_firstForm_36 sc_m_0 rfl rfl ?_
      refine r_iload (q := 41) dX12_firstForm_39 rfl rfl ?_
      obtain ⟨g4, h⟩ := mm_guard h
      refine r_iald (v := (M 27 (Int32.toNatClampNeg s.2))) (q := 42) dX12_firstForm_41 sc_m_27 (mm_vp g4) rfl rfl ?_
      refine r_iload_n (q := 43) dX12_firstForm_42 rfl rfl ?_
      refine r_iconst (v := (-1)) (q := 44) dX12_firstForm_43 (by decide) rfl ?_
      refine r_ixor (q := 45) dX12_firstForm_44 rfl ?_
      refine r_iand (q := 46) dX12_firstForm_45 rfl ?_
      refine r_if_ne 74 (q := 49) dX12_firstForm_46 (by decide) rfl (fun c5 => ?_) (fun c5 => ?_)
      · rw [if_neg c5] at h
        refine r_iinc (v := 1) (q := 77) (L' := [some (.inr 0), some (.inl x1), some (.inl x2), some (.inl x3), none, some (.inl x5), some (.inl s.1), some (.inl (s.2 + 1))]) dX12_firstForm_74 (by decide) (by decide) rfl rfl rfl ?_
        refine r_goto 20 dX12_firstForm_77 (by decide) ?_
        cases h
        have hk := kb _ rfl
        exact hk
      · rw [if_pos c5] at h
        refine r_iload (q := 51) dX12_firstForm_49 rfl rfl ?_
        refine r_iconst (v := (-1)) (q := 52) dX12_firstForm_51 (by decide) rfl ?_
        refine r_icmp_eq 70 (q := 55) dX12_firstForm_52 (by decide) rfl (fun c6 => ?_) (fun c6 => ?_)
        · rw [if_pos c6] at h
          refine r_iload (q := 72) dX12_firstForm_70 rfl rfl ?_
          refine r_istore (q := 74) (L' := [some (.inr 0), some (.inl x1), some (.inl x2), some (.inl x3), none, some (.inl x5), some (.inl s.2), some (.inl s.2)]) dX12_firstForm_72 (by decide) rfl rfl ?_
          refine r_iinc (v := 1) (q := 77) (L' := [some (.inr 0), some (.inl x1), some (.inl x2), some (.inl x3), none, some (.inl x5), some (.inl s.2), some (.inl (s.2 + 1))]) dX12_firstForm_74 (by decide) (by decide) rfl rfl rfl ?_
          refine r_goto 20 dX12_firstForm_77 (by decide) ?_
          cases h
          have hk := kb _ rfl
          exact hk
        · rw [if_neg c6] at h
          refine r_aload_n (q := 56) dX12_firstForm_55 rfl rfl ?_
          refine r_iload (q := 58) dX12_firstForm_56 rfl rfl ?_
          obtain ⟨y8, e7, h⟩ := Option.bind_eq_some_iff.mp h
          refine r_callV_i (av := [(.inl s.2)]) (st := []) (q := 61) (d1 := 0) kc_X12_357 sc_m_0 dX12_firstForm_58 rfl rfl (Nat.le_of_ble_eq_true rfl) (Nat.le_of_ble_eq_true rfl) (by omega) rfl rfl (t_X12_octet (d := 0) (by omega) s.2 M _ e7) ?_
          refine r_aload_n (q := 62) dX12_firstForm_61 rfl rfl ?_
          refine r_iload (q := 64) dX12_firstForm_62 rfl rfl ?_
          obtain ⟨y10, e9, h⟩ := Option.bind_eq_some_iff.mp h
          refine r_callV_i (av := [(.inl s.1)]) (st := [(.inl y8)]) (q := 67) (d1 := 0) kc_X12_357 sc_m_0 dX12_firstForm_64 rfl rfl (Nat.le_of_ble_eq_true rfl) (Nat.le_of_ble_eq_true rfl) (by omega) rfl rfl (t_X12_octet (d := 0) (by omega) s.1 M _ e9) ?_
          refine r_icmp_ge 74 (q := 70) dX12_firstForm_67 (by decide) rfl (fun c11 => ?_) (fun c11 => ?_)
          · rw [if_pos c11] at h
            refine r_iinc (v := 1) (q := 77) (L' := [some (.inr 0), some (.inl x1), some (.inl x2), some (.inl x3), none, some (.inl x5), some (.inl s.1), some (.inl (s.2 + 1))]) dX12_firstForm_74 (by decide) (by decide) rfl rfl rfl ?_
            refine r_goto 20 dX12_firstForm_77 (by decide) ?_
            cases h
            have hk := kb _ rfl
            exact hk
          · rw [if_neg c11] at h
            refine r_iload (q := 72) dX12_firstForm_70 rfl rfl ?_
            refine r_istore (q := 74) (L' := [some (.inr 0), some (.inl x1), some (.inl x2), some (.inl x3), none, some (.inl x5), some (.inl s.2), some (.inl s.2)]) dX12_firstForm_72 (by decide) rfl rfl ?_
            refine r_iinc (v := 1) (q := 77) (L' := [some (.inr 0), some (.inl x1), some (.inl x2), some (.inl x3), none, some (.inl x5), some (.inl s.2), some (.inl (s.2 + 1))]) dX12_firstForm_74 (by decide) (by decide) rfl rfl rfl ?_
            refine r_goto 20 dX12_firstForm_77 (by decide) ?_
            cases h
            have hk := kb _ rfl
            exact hk
noncomputable def X12_firstForm_l8 (x1 : Int32) (x2 : Int32) (M : mm_M) (s : (Int32 × Int32 × Int32)) : Option ((Int32 × Int32 × Int32) ⊕ Int32) := if x2 < s.2.2 then some (.inr s.2.1) else (mm_loop (X12_firstForm_l20 x1 x2 s.1 s.2.2 M) mm_fuel ((-1), 0)).bind fun y12 => (X12_octet y12 M).bind fun y15 => some (.inl ((s.1 ||| ((1 : Int32) <<< (y12 &&& 31))), y15, (s.2.2 + 1)))
set_option maxRecDepth 100000 in
set_option maxHeartbeats 400000 in
theorem t_X12_firstForm_l8 {D : mm_D} {d : Nat} (hd : 1 ≤ d) {Z : Option Int32 → List mm_C → mm_M → Prop} (x1 : Int32) (x2 : Int32) (M : mm_M) (n : Nat) (s : (Int32 × Int32 × Int32)) (r : Int32) (h : mm_loop (X12_firstForm_l8 x1 x2 M) n s = some r) (hx : Z (some r) S_m M) : mm_Go jX12_firstForm D d 0 0 8 [some (.inr 0), some (.inl x1), some (.inl x2), some (.inl s.1), some (.inl s.2.1), some (.inl s.2.2), none, none] [] S_m M Z := by
  refine mm_loop_go (step := X12_firstForm_l8 x1 x2 M) (Hd := fun (s : (Int32 × Int32 × Int32)) => mm_Go jX12_firstForm D d 0 0 8 [some (.inr 0), some (.inl x1), some (.inl x2), some (.inl s.1), some (.inl s.2.1), some (.inl s.2.2), none, none] [] S_m M Z) (Ex := fun (r : Int32) => Z (some r) S_m M) ?_ n s r h hx
  intro s o h kb ke
  show mm_Go jX12_firstForm D d 0 0 8 [some (.inr 0), some (.inl x1), some (.inl x2), some (.inl s.1), some (.inl s.2.1), some (.inl s.2.2), none, none] [] S_m M Z
  unfold X12_firstForm_l8 at h
  refine r_iload (q := 10) dX12_firstForm_8 rfl rfl ?_
  refine r_iload_n (q := 11) dX12_firstForm_10 rfl rfl ?_
  refine r_icmp_gt 101 (q := 14) dX12_firstForm_11 (by decide) rfl (fun c1 => ?_) (fun c1 => ?_)
  · rw [if_pos c1] at h
    refine r_iload (q := 103) dX12_firstForm_101 rfl rfl ?_
    cases h
    have hk := ke _ rfl
    exact r_ret dX12_firstForm_103 rfl hk
  · rw [if_neg c1] at h
    refine r_iconst (v := (-1)) (q := 15) dX12_firstForm_14 (by decide) rfl ?_
    refine r_istore (q := 17) (L' := [some (.inr 0), some (.inl x1), some (.inl x2), some (.inl s.1), some (.inl s.2.1), some (.inl s.2.2), some (.inl (-1)), none]) dX12_firstForm_15 (by decide) rfl rfl ?_
    refine r_iconst (v := 0) (q := 18) dX12_firstForm_17 (by decide) rfl ?_
    refine r_istore (q := 20) (L' := [some (.inr 0), some (.inl x1), some (.inl x2), some (.inl s.1), some (.inl s.2.1), some (.inl s.2.2), some (.inl (-1)), some (.inl 0)]) dX12_firstForm_18 (by decide) rfl rfl ?_
    refine r_forget (L' := [some (.inr 0), some (.inl x1), some (.inl x2), some (.inl s.1), none, some (.inl s.2.2), some (.inl (-1)), some (.inl 0)]) [true, true, true, true, false, true, true, true] rfl ?_
    obtain ⟨y12, e13, h⟩ := Option.bind_eq_some_iff.mp h
    refine t_X12_firstForm_l20 hd x1 x2 s.1 s.2.2 M mm_fuel ((-1), 0) _ e13 ?_
    show mm_Go jX12_firstForm _ _ _ _ 80 [some (.inr 0), some (.inl x1), some (.inl x2), some (.inl s.1), none, some (.inl s.2.2), some (.inl y12), none] [] S_m M _
    refine r_iload_n (q := 81) dX12_firstForm_80 rfl rfl ?_
    refine r_iconst (v := 1) (q := 82) dX12_firstForm_81 (by decide) rfl ?_
    refine r_iload (q := 84) dX12_firstForm_82 rfl rfl ?_
    refine r_ishl (q := 85) dX12_firstForm_84 rfl ?_
    refine r_ior (q := 86) dX12_firstForm_85 rfl ?_
    refine r_istore_n (q := 87) (L' := [some (.inr 0), some (.inl x1), some (.inl x2), some (.inl (s.1 ||| ((1 : Int32) <<< (y12 &&& 31)))), none, some (.inl s.2.2), some (.inl y12), none]) dX12_firstForm_86 (by decide) rfl rfl ?_
    refine r_aload_n (q := 88) dX12_firstForm_87 rfl rfl ?_
    refine r_iload (q := 90) dX12_firstForm_88 rfl rfl ?_
    obtain ⟨y15, e14, h⟩ := Option.bind_eq_some_iff.mp h
    refine r_callV_i (av := [(.inl y12)]) (st := []) (q := 93) (d1 := 0) kc_X12_357 sc_m_0 dX12_firstForm_90 rfl rfl (Nat.le_of_ble_eq_true rfl) (Nat.le_of_ble_eq_true rfl) (by omega) rfl rfl (t_X12_octet (d := 0) (by omega) y12 M _ e14) ?_
    refine r_istore (q := 95) (L' := [some (.inr 0), some (.inl x1), some (.inl x2), some (.inl (s.1 ||| ((1 : Int32) <<< (y12 &&& 31)))), some (.inl y15), some (.inl s.2.2), some (.inl y12), none]) dX12_firstForm_93 (by decide) rfl rfl ?_
    refine r_iinc (v := 1) (q := 98) (L' := [some (.inr 0), some (.inl x1), some (.inl x2), some (.inl (s.1 ||| ((1 : Int32) <<< (y12 &&& 31)))), some (.inl y15), some (.inl (s.2.2 + 1)), some (.inl y12), none]) dX12_firstForm_95 (by decide) (by decide) rfl rfl rfl ?_
    refine r_goto 8 dX12_firstForm_98 (by decide) ?_
    refine r_forget (L' := [some (.inr 0), some (.inl x1), some (.inl x2), some (.inl (s.1 ||| ((1 : Int32) <<< (y12 &&& 31)))), some (.inl y15), some (.inl (s.2.2 + 1)), none, none]) [true, true, true, true, true, true, false, false] rfl ?_
    cases h
    have hk := kb _ rfl
    exact hk
noncomputable def X12_firstForm (x1 : Int32) (x2 : Int32) (M : mm_M) : Option Int32 := (mm_loop (X12_firstForm_l8 x1 x2 M) mm_fuel (0, (-1), 0))
set_option maxRecDepth 100000 in
set_option maxHeartbeats 400000 in
theorem t_X12_firstForm {d : Nat} (hd : 1 ≤ d) (x1 : Int32) (x2 : Int32) (M : mm_M) (res : Int32) (h : X12_firstForm x1 x2 M = some res) : mm_Meth jX12_firstForm d 0 0 [(.inr 0), (.inl x1), (.inl x2)] S_m M (mm_Zi res S_m M) := by
  refine r_meth (L := [some (.inr 0), some (.inl x1), some (.inl x2), none, none, none, none, none]) rfl (fun D => ?_)
  unfold X12_firstForm at h
  refine r_iconst (v := 0) (q := 1) dX12_firstForm_0 (by decide) rfl ?_
  refine r_istore_n (q := 2) (L' := [some (.inr 0), some (.inl x1), some (.inl x2), some (.inl 0), none, none, none, none]) dX12_firstForm_1 (by decide) rfl rfl ?_
  refine r_iconst (v := (-1)) (q := 3) dX12_firstForm_2 (by decide) rfl ?_
  refine r_istore (q := 5) (L' := [some (.inr 0), some (.inl x1), some (.inl x2), some (.inl 0), some (.inl (-1)), none, none, none]) dX12_firstForm_3 (by decide) rfl rfl ?_
  refine r_iconst (v := 0) (q := 6) dX12_firstForm_5 (by decide) rfl ?_
  refine r_istore (q := 8) (L' := [some (.inr 0), some (.inl x1), some (.inl x2), some (.inl 0), some (.inl (-1)), some (.inl 0), none, none]) dX12_firstForm_6 (by decide) rfl rfl ?_
  exact t_X12_firstForm_l8 hd x1 x2 M mm_fuel (0, (-1), 0) _ h mm_Zi_rfl
