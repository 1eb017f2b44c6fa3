noncomputable def X12_forms_l51 (x1 : Int32) (x2 : Int32) (M : mm_M) (s : Int32) : Option (Int32 ⊕ ((Int32 × mm_M) ⊕ Unit)) := if x1 ≤ s then some (.inr (.inr ())) else (X12_octet s M).bind fun y7 => if y7 < 8 then some (.inl (s + 1)) else some (.inr (.inl ((-3), M)))
set_option maxRecDepth 100000 in
set_option maxHeartbeats 400000 in
theorem t_X12_forms_l51 {D : mm_D} {d : Nat} (hd : 3 ≤ d) {Z : Option Int32 → List mm_C → mm_M → Prop} (x1 : Int32) (x2 : Int32) (M : mm_M) (n : Nat) (s : Int32) (r : ((Int32 × mm_M) ⊕ Unit)) (h : mm_loop (X12_forms_l51 x1 x2 M) n s = some r) (hx : (Sum.elim (fun (y : (Int32 × mm_M)) => Z (some y.1) S_m y.2) (fun (s : Unit) => mm_Go jX12_forms D d 0 0 75 [some (.inr 0), some (.inl x1), some (.inl x2), none] [] S_m M Z) r)) : mm_Go jX12_forms D d 0 0 51 [some (.inr 0), some (.inl x1), some (.inl x2), some (.inl s)] [] S_m M Z := by
  refine mm_loop_go (step := X12_forms_l51 x1 x2 M) (Hd := fun (s : Int32) => mm_Go jX12_forms D d 0 0 51 [some (.inr 0), some (.inl x1), some (.inl x2), some (.inl s)] [] S_m M Z) (Ex := fun (r : ((Int32 × mm_M) ⊕ Unit)) => (Sum.elim (fun (y : (Int32 × mm_M)) => Z (some y.1) S_m y.2) (fun (s : Unit) => mm_Go jX12_forms D d 0 0 75 [some (.inr 0), some (.inl x1), some (.inl x2), none] [] S_m M Z) r)) ?_ n s r h hx
  intro s o h kb ke
  show mm_Go jX12_forms D d 0 0 51 [some (.inr 0), some (.inl x1), some (.inl x2), some (.inl s)] [] S_m M Z
  unfold X12_forms_l51 at h
  refine r_iload_n (q := 52) dX12_forms_51 rfl rfl ?_
  refine r_iload_n (q := 53) dX12_forms_52 rfl rfl ?_
  refine r_icmp_ge 75 (q := 56) dX12_forms_53 (by decide) rfl (fun c5 => ?_) (fun c5 => ?_)
  · rw [if_pos c5] at h
    refine r_forget (L' := [some (.inr 0), some (.inl x1), some (.inl x2), none]) [true, true, true, false] rfl ?_
    cases h
    have hk := ke _ rfl
    exact hk
  · rw [if_neg c5] at h
    refine r_aload_n (q := 57) dX12_forms_56 rfl rfl ?_
    refine r_iload_n (q := 58) dX12_forms_57 rfl rfl ?_
    obtain ⟨y7, e6, h⟩ := Option.bind_eq_some_iff.mp h
    refine r_callV_i (av := [(.inl s)]) (st := []) (q := 61) (d1 := 0) kc_X12_357 sc_m_0 dX12_forms_58 rfl rfl (Nat.le_of_ble_eq_true rfl) (Nat.le_of_ble_eq_true rfl) (by omega) rfl rfl (t_X12_octet (d := 0) (by omega) s M _ e6) ?_
    refine r_bipush (v := 8) (q := 63) dX12_forms_61 (by decide) rfl ?_
    refine r_icmp_lt 69 (q := 66) dX12_forms_63 (by decide) rfl (fun c8 => ?_) (fun c8 => ?_)
    · rw [if_pos c8] at h
      refine r_iinc (v := 1) (q := 72) (L' := [some (.inr 0), some (.inl x1), some (.inl x2), some (.inl (s + 1))]) dX12_forms_69 (by decide) (by decide) rfl rfl rfl ?_
      refine r_goto 51 dX12_forms_72 (by decide) ?_
      cases h
      have hk := kb _ rfl
      exact hk
    · rw [if_neg c8] at h
      refine r_bipush (v := (-3)) (q := 68) dX12_forms_66 (by decide) rfl ?_
      cases h
      have hk := ke _ rfl
      exact r_ret dX12_forms_68 rfl hk
noncomputable def X12_forms_j34 (x1 : Int32) (x2 : Int32) (M : mm_M) : Option (Int32 × mm_M) := if x1 ≤ (M 0 8) then (mm_loop (X12_forms_l51 x1 x2 (mm_U M 0 8 0)) mm_fuel 0).bind fun y9 => (match y9 with | .inl y9r => some y9r | .inr y9s => (X12_laysAhead x1 (mm_U M 0 8 0)).bind fun y12 => if x2 = 100 then (X12_rowsOf x1 y12).bind fun y15 => some (y15.1, y15.2) else (X12_firstForm x1 x2 y12).bind fun y17 => some (y17, y12)) else some ((-1), M)
set_option maxRecDepth 100000 in
set_option maxHeartbeats 400000 in
theorem t_X12_forms_j34 {D : mm_D} {d : Nat} (hd : 3 ≤ d) (x1 : Int32) (x2 : Int32) (M : mm_M) (res : (Int32 × mm_M)) (h : X12_forms_j34 x1 x2 M = some res) : mm_Go jX12_forms D d 0 0 34 [some (.inr 0), some (.inl x1), some (.inl x2), none] [] S_m M (mm_Zi res.1 S_m res.2) := by
  unfold X12_forms_j34 at h
  refine r_iload_n (q := 35) dX12_forms_34 rfl rfl ?_
  refine r_aload_n (q := 36) dX12_forms_35 rfl rfl ?_
  refine r_geti (v := (M 0 8)) (q := 39) lk_X12_138 dX12_forms_36 sc_m_0 rfl rfl rfl ?_
  refine r_icmp_le 44 (q := 42) dX12_forms_39 (by decide) rfl (fun c4 => ?_) (fun c4 => ?_)
  · rw [if_pos c4] at h
    refine r_aload_n (q := 45) dX12_forms_44 rfl rfl ?_
    refine r_iconst (v := 0) (q := 46) dX12_forms_45 (by decide) rfl ?_
    refine r_puti (q := 49) lk_X12_138 ft_9_8 dX12_forms_46 sc_m_0 rfl rfl ?_
    refine r_iconst (v := 0) (q := 50) dX12_forms_49 (by decide) rfl ?_
    refine r_istore_n (q := 51) (L' := [some (.inr 0), some (.inl x1), some (.inl x2), some (.inl 0)]) dX12_forms_50 (by decide) rfl rfl ?_
    obtain ⟨y9, e10, h⟩ := Option.bind_eq_some_iff.mp h
    refine t_X12_forms_l51 hd x1 x2 (mm_U M 0 8 0) mm_fuel 0 _ e10 ?_
    rcases y9 with y9r | y9s
    · dsimp only at h
      cases h
      exact mm_Zi_rfl
    · dsimp only at h
      show mm_Go jX12_forms _ _ _ _ 75 [some (.inr 0), some (.inl x1), some (.inl x2), none] [] S_m (mm_U M 0 8 0) _
      refine r_aload_n (q := 76) dX12_forms_75 rfl rfl ?_
      refine r_iload_n (q := 77) dX12_forms_76 rfl rfl ?_
      obtain ⟨y12, e11, h⟩ := Option.bind_eq_some_iff.mp h
      refine r_callV_v (av := [(.inl x1)]) (st := []) (q := 80) (d1 := 2) kc_X12_363 sc_m_0 dX12_forms_77 rfl rfl (Nat.le_of_ble_eq_true rfl) (Nat.le_of_ble_eq_true rfl) (by omega) rfl rfl (t_X12_laysAhead (d := 2) (by omega) x1 (mm_U M 0 8 0) _ e11) ?_
      refine r_iload_n (q := 81) dX12_forms_80 rfl rfl ?_
      refine r_bipush (v := 100) (q := 83) dX12_forms_81 (by decide) rfl ?_
      refine r_icmp_ne 94 (q := 86) dX12_forms_83 (by decide) rfl (fun c13 => ?_) (fun c13 => ?_)
      · rw [if_neg c13] at h
        refine r_aload_n (q := 95) dX12_forms_94 rfl rfl ?_
        refine r_iload_n (q := 96) dX12_forms_95 rfl rfl ?_
        refine r_iload_n (q := 97) dX12_forms_96 rfl rfl ?_
        obtain ⟨y17, e16, h⟩ := Option.bind_eq_some_iff.mp h
        refine r_callV_i (av := [(.inl x1), (.inl x2)]) (st := []) (q := 100) (d1 := 1) kc_X12_369 sc_m_0 dX12_forms_97 rfl rfl (Nat.le_of_ble_eq_true rfl) (Nat.le_of_ble_eq_true rfl) (by omega) rfl rfl (t_X12_firstForm (d := 1) (by omega) x1 x2 y12 _ e16) ?_
        cases h
        exact r_ret dX12_forms_100 rfl mm_Zi_rfl
      · rw [if_pos c13] at h
        refine r_aload_n (q := 87) dX12_forms_86 rfl rfl ?_
        refine r_iload_n (q := 88) dX12_forms_87 rfl rfl ?_
        obtain ⟨y15, e14, h⟩ := Option.bind_eq_some_iff.mp h
        refine r_callV_i (av := [(.inl x1)]) (st := []) (q := 91) (d1 := 2) kc_X12_366 sc_m_0 dX12_forms_88 rfl rfl (Nat.le_of_ble_eq_true rfl) (Nat.le_of_ble_eq_true rfl) (by omega) rfl rfl (t_X12_rowsOf (d := 2) (by omega) x1 y12 _ e14) ?_
        refine r_goto 100 dX12_forms_91 (by decide) ?_
        cases h
        exact r_ret dX12_forms_100 rfl mm_Zi_rfl
  · rw [if_neg c4] at h
    refine r_iconst (v := (-1)) (q := 43) dX12_forms_42 (by decide) rfl ?_
    cases h
    exact r_ret dX12_forms_43 rfl mm_Zi_rfl
noncomputable def X12_forms (x1 : Int32) (x2 : Int32) (M : mm_M) : Option (Int32 × mm_M) := if (M 0 6) = 0 then some ((-1), M) else if (X12_in x1 1 10) = true then if (X12_in x2 0 (x1 - 1)) = true then X12_forms_j34 x1 x2 M else if x2 = 100 then X12_forms_j34 x1 x2 M else some ((-1), M) else some ((-1), M)
set_option maxRecDepth 100000 in
set_option maxHeartbeats 400000 in
theorem t_X12_forms {d : Nat} (hd : 3 ≤ d) (x1 : Int32) (x2 : Int32) (M : mm_M) (res : (Int32 × mm_M)) (h : X12_forms x1 x2 M = some res) : mm_Meth jX12_forms d 0 0 [(.inr 0), (.inl x1), (.inl x2)] S_m M (mm_Zi res.1 S_m res.2) := by
  refine r_meth (L := [some (.inr 0), some (.inl x1), some (.inl x2), none]) rfl (fun D => ?_)
  unfold X12_forms at h
  refine r_aload_n (q := 1) dX12_forms_0 rfl rfl ?_
  refine r_geti (v := (M 0 6)) (q := 4) lk_X12_123 dX12_forms_1 sc_m_0 rfl rfl rfl ?_
  refine r_if_eq 42 (q := 7) dX12_forms_4 (by decide) rfl (fun c1 => ?_) (fun c1 => ?_)
  · rw [if_pos c1] at h
    refine r_iconst (v := (-1)) (q := 43) dX12_forms_42 (by decide) rfl ?_
    cases h
    exact r_ret dX12_forms_43 rfl mm_Zi_rfl
  · rw [if_neg c1] at h
    refine r_iload_n (q := 8) dX12_forms_7 rfl rfl ?_
    refine r_iconst (v := 1) (q := 9) dX12_forms_8 (by decide) rfl ?_
    refine r_bipush (v := 10) (q := 11) dX12_forms_9 (by decide) rfl ?_
    refine r_callS_i (av := [(.inl x1), (.inl 1), (.inl 10)]) (st := []) (q := 14) (d1 := 0) kc_X12_127 dX12_forms_11 rfl rfl (Nat.le_of_ble_eq_true rfl) (Nat.le_of_ble_eq_true rfl) (by omega) rfl rfl (t_X12_in (d := 0) (by omega) x1 1 10 M _ rfl) ?_
    refine r_if_eq 42 (q := 17) dX12_forms_14 (by decide) rfl (fun c2 => ?_) (fun c2 => ?_)
    · rw [if_neg (mm_b0 c2)] at h
      refine r_iconst (v := (-1)) (q := 43) dX12_forms_42 (by decide) rfl ?_
      cases h
      exact r_ret dX12_forms_43 rfl mm_Zi_rfl
    · rw [if_pos (mm_b1 c2)] at h
      refine r_iload_n (q := 18) dX12_forms_17 rfl rfl ?_
      refine r_iconst (v := 0) (q := 19) dX12_forms_18 (by decide) rfl ?_
      refine r_iload_n (q := 20) dX12_forms_19 rfl rfl ?_
      refine r_iconst (v := 1) (q := 21) dX12_forms_20 (by decide) rfl ?_
      refine r_isub (q := 22) dX12_forms_21 rfl ?_
      refine r_callS_i (av := [(.inl x2), (.inl 0), (.inl (x1 - 1))]) (st := []) (q := 25) (d1 := 0) kc_X12_127 dX12_forms_22 rfl rfl (Nat.le_of_ble_eq_true rfl) (Nat.le_of_ble_eq_true rfl) (by omega) rfl rfl (t_X12_in (d := 0) (by omega) x2 0 (x1 - 1) M _ rfl) ?_
      refine r_if_ne 34 (q := 28) dX12_forms_25 (by decide) rfl (fun c3 => ?_) (fun c3 => ?_)
      · rw [if_pos (mm_b1 c3)] at h
        exact t_X12_forms_j34 hd x1 x2 M _ h
      · rw [if_neg (mm_b0 c3)] at h
        refine r_iload_n (q := 29) dX12_forms_28 rfl rfl ?_
        refine r_bipush (v := 100) (q := 31) dX12_forms_29 (by decide) rfl ?_
        refine r_icmp_ne 42 (q := 34) dX12_forms_31 (by decide) rfl (fun c18 => ?_) (fun c18 => ?_)
        · rw [if_neg c18] at h
          refine r_iconst (v := (-1)) (q := 43) dX12_forms_42 (by decide) rfl ?_
          cases h
          exact r_ret dX12_forms_43 rfl mm_Zi_rfl
        · rw [if_pos c18] at h
          exact t_X12_forms_j34 hd x1 x2 M _ h
noncomputable def X12_laysFar_l2 (x1 : Int32) (x2 : Int32) (s : (Int32 × mm_M)) : Option ((Int32 × mm_M) ⊕ mm_M) := if 10 ≤ s.1 then some (.inr s.2) else if s.1 = x1 then if mm_in s.1 10 = true then some (.inl ((s.1 + 1), (mm_U s.2 29 (Int32.toNatClampNeg s.1) 0))) else none else if mm_in s.1 10 = true then some (.inl ((s.1 + 1), (mm_U s.2 29 (Int32.toNatClampNeg s.1) 1000000))) else none
set_option maxRecDepth 100000 in
set_option maxHeartbeats 400000 in
theorem t_X12_laysFar_l2 {D : mm_D} {d : Nat} (hd : 1 ≤ d) {Z : Option Int32 → List mm_C → mm_M → Prop} (x1 : Int32) (x2 : Int32) (n : Nat) (s : (Int32 × mm_M)) (r : mm_M) (h : mm_loop (X12_laysFar_l2 x1 x2) n s = some r) (hx : mm_Go jX12_laysFar D d 0 0 32 [some (.inr 0), none, some (.inl x2), none, none, none, none] [] S_m r Z) : mm_Go jX12_laysFar D d 0 0 2 [some (.inr 0), some (.inl x1), some (.inl x2), some (.inl s.1), none, none, none] [] S_m s.2 Z := by
  refine mm_loop_go (step := X12_laysFar_l2 x1 x2) (Hd := fun (s : (Int32 × mm_M)) => mm_Go jX12_laysFar D d 0 0 2 [some (.inr 0), some (.inl x1), some (.inl x2), some (.inl s.1), none, none, none] [] S_m s.2 Z) (Ex := fun (r : mm_M) => mm_Go jX12_laysFar D d 0 0 32 [some (.inr 0), none, some (.inl x2), none, none, none, none] [] S_m r Z) ?_ n s r h hx
  intro s o h kb ke
  show mm_Go jX12_laysFar D d 0 0 2 [some (.inr 0), some (.inl x1), some (.inl x2), some (.inl s.1), none, none, none] [] S_m s.2 Z
  unfold X12_laysFar_l2 at h
  refine r_iload_n (q := 3) dX12_laysFar_2 rfl rfl ?_
  refine r_bipush (v := 10) (q := 5) dX12_laysFar_3 (by decide) rfl ?_
  refine r_icmp_ge 32 (q := 8) dX12_laysFar_5 (by decide) rfl (fun c1 => ?_) (fun c1 => ?_)
  · rw [if_pos c1] at h
    refine r_forget (L' := [some (.inr 0), none, some (.inl x2), none, none, none, none]) [true, false, true, false, false, false, false] rfl ?_
    cases h
    have hk := ke _ rfl
    exact hk
  · rw [if_neg c1] at h
    refine r_aload_n (q := 9) dX12_laysFar_8 rfl rfl ?_
    refine r_getr (b := 29) (q := 12) lk_X12_95 dX12_laysFar_9 sc_m_0 rfl rfl ?_
    refine r_iload_n (q := 13) dX12_laysFar_12 rfl rfl ?_
    refine r_iload_n (q := 14) dX12_laysFar_13 rfl rfl ?_
    refine r_iload_n (q := 15) dX12_laysFar_14 rfl rfl ?_
    refine r_icmp_ne 22 (q := 18) dX12_laysFar_15 (by decide) rfl (fun c2 => ?_) (fun c2 => ?_)
    · rw [if_neg c2] at h
      refine r_ldcw (v := 1000000) (q := 25) dX12_laysFar_22 ko_X12_372 rfl ?_
      obtain ⟨g4, h⟩ := mm_guard h
      refine r_iast (j := (Int32.toNatClampNeg s.1)) (q := 26) dX12_laysFar_25 sc_m_29 (mm_vp g4) rfl rfl ?_
      refine r_iinc (v := 1) (q := 29) (L' := [some (.inr 0), some (.inl x1), some (.inl x2), some (.inl (s.1 + 1)), none, none, none]) dX12_laysFar_26 (by decide) (by decide) rfl rfl rfl ?_
      refine r_goto 2 dX12_laysFar_29 (by decide) ?_
      cases h
      have hk := kb _ rfl
      exact hk
    · rw [if_pos c2] at h
      refine r_iconst (v := 0) (q := 19) dX12_laysFar_18 (by decide) rfl ?_
      refine r_goto 25 dX12_laysFar_19 (by decide) ?_
      obtain ⟨g3, h⟩ := mm_guard h
      refine r_iast (j := (Int32.toNatClampNeg s.1)) (q := 26) dX12_laysFar_25 sc_m_29 (mm_vp g3) rfl rfl ?_
      refine r_iinc (v := 1) (q := 29) (L' := [some (.inr 0), some (.inl x1), some (.inl x2), some (.inl (s.1 + 1)), none, none, none]) dX12_laysFar_26 (by decide) (by decide) rfl rfl rfl ?_
      refine r_goto 2 dX12_laysFar_29 (by decide) ?_
      cases h
      have hk := kb _ rfl
      exact hk
noncomputable def X12_laysFar_j90l55 (x2 : Int32) (x3 : Bool) (x4 : Int32) (x5 : Int32) (z0 : Int32) (z1 : Int32) (M : mm_M) : Option ((Bool × Int32 × mm_M) ⊕ (Bool × mm_M)) := if mm_in x4 10 = true then if (z0 + z1) < (M 29 (Int32.toNatClampNeg x4)) then if mm_in x4 10 = true then some (.inl (true, (x5 + 1), (mm_U M 29 (Int32.toNatClampNeg x4) (z0 + z1)))) else none else some (.inl (x3, (x5 + 1), M)) else none
set_option maxRecDepth 100000 in
set_option maxHeartbeats 400000 in
theorem t_X12_laysFar_j90l55 {D : mm_D} {d : Nat} (hd : 1 ≤ d) {Z : Option Int32 → List mm_C → mm_M → Prop} (x2 : Int32) (x3 : Bool) (x4 : Int32) (x5 : Int32) (z0 : Int32) (z1 : Int32) (M : mm_M) (o : (Bool × Int32 × mm_M) ⊕ (Bool × mm_M)) (h : X12_laysFar_j90l55 x2 x3 x4 x5 z0 z1 M = some o) (kb : ∀ s', o = .inl s' → mm_Go jX12_laysFar D d 0 0 55 [some (.inr 0), none, some (.inl x2), some (.inl (mm_b s'.1)), some (.inl x4), some (.inl s'.2.1), none] [] S_m s'.2.2 Z) (ke : ∀ r, o = .inr r → mm_Go jX12_laysFar D d 0 0 125 [some (.inr 0), none, some (.inl x2), some (.inl (mm_b r.1)), some (.inl x4), none, none] [] S_m r.2 Z) : mm_Go jX12_laysFar D d 0 0 90 [some (.inr 0), none, some (.inl x2), some (.inl (mm_b x3)), some (.inl x4), some (.inl x5), none] [(.inl z1), (.inl z0)] S_m M Z := by
  unfold X12_laysFar_j90l55 at h
  refine r_iadd (q := 91) dX12_laysFar_90 rfl ?_
  refine r_istore (q := 93) (L' := [some (.inr 0), none, some (.inl x2), some (.inl (mm_b x3)), some (.inl x4), some (.inl x5), some (.inl (z0 + z1))]) dX12_laysFar_91 (by decide) rfl rfl ?_
  refine r_iload (q := 95) dX12_laysFar_93 rfl rfl ?_
  refine r_aload_n (q := 96) dX12_laysFar_95 rfl rfl ?_
  refine r_getr (b := 29) (q := 99) lk_X12_95 dX12_laysFar_96 sc_m_0 rfl rfl ?_
  refine r_iload (q := 101) dX12_laysFar_99 rfl rfl ?_
  obtain ⟨g14, h⟩ := mm_guard h
  refine r_iald (v := (M 29 (Int32.toNatClampNeg x4))) (q := 102) dX12_laysFar_101 sc_m_29 (mm_vp g14) rfl rfl ?_
  refine r_icmp_lt 108 (q := 105) dX12_laysFar_102 (by decide) rfl (fun c15 => ?_) (fun c15 => ?_)
  · rw [if_pos c15] at h
    refine r_aload_n (q := 109) dX12_laysFar_108 rfl rfl ?_
    refine r_getr (b := 29) (q := 112) lk_X12_95 dX12_laysFar_109 sc_m_0 rfl rfl ?_
    refine r_iload (q := 114) dX12_laysFar_112 rfl rfl ?_
    refine r_iload (q := 116) dX12_laysFar_114 rfl rfl ?_
    obtain ⟨g16, h⟩ := mm_guard h
    refine r_iast (j := (Int32.toNatClampNeg x4)) (q := 117) dX12_laysFar_116 sc_m_29 (mm_vp g16) rfl rfl ?_
    refine r_iconst (v := 1) (q := 118) dX12_laysFar_117 (by decide) rfl ?_
    refine r_istore_n (q := 119) (L' := [some (.inr 0), none, some (.inl x2), some (.inl 1), some (.inl x4), some (.inl x5), some (.inl (z0 + z1))]) dX12_laysFar_118 (by decide) rfl rfl ?_
    refine r_iinc (v := 1) (q := 122) (L' := [some (.inr 0), none, some (.inl x2), some (.inl 1), some (.inl x4), some (.inl (x5 + 1)), some (.inl (z0 + z1))]) dX12_laysFar_119 (by decide) (by decide) rfl rfl rfl ?_
    refine r_goto 55 dX12_laysFar_122 (by decide) ?_
    refine r_forget (L' := [some (.inr 0), none, some (.inl x2), some (.inl 1), some (.inl x4), some (.inl (x5 + 1)), none]) [true, false, true, true, true, true, false] rfl ?_
    cases h
    have hk := kb _ rfl
    exact hk
  · rw [if_neg c15] at h
    refine r_goto 119 dX12_laysFar_105 (by decide) ?_
    refine r_iinc (v := 1) (q := 122) (L' := [some (.inr 0), none, some (.inl x2), some (.inl (mm_b x3)), some (.inl x4), some (.inl (x5 + 1)), some (.inl (z0 + z1))]) dX12_laysFar_119 (by decide) (by decide) rfl rfl rfl ?_
    refine r_goto 55 dX12_laysFar_122 (by decide) ?_
    refine r_forget (L' := [some (.inr 0), none, some (.inl x2), some (.inl (mm_b x3)), some (.inl x4), some (.inl (x5 + 1)), none]) [true, false, true, true, true, true, false] rfl ?_
    cases h
    have hk := kb _ rfl
    exact hk
noncomputable def X12_laysFar_l55 (x2 : Int32) (x4 : Int32) (s : (Bool × Int32 × mm_M)) : Option ((Bool × Int32 × mm_M) ⊕ (Bool × mm_M)) := if 8 ≤ s.2.1 then some (.inr (s.1, s.2.2)) else (X12_behind s.2.1 x4 s.2.2).bind fun y11 => if mm_in y11 10 = true then if x2 = 0 then X12_laysFar_j90l55 x2 s.1 x4 s.2.1 (s.2.2 29 (Int32.toNatClampNeg y11)) 1 s.2.2 else if mm_in s.2.1 8 = true then X12_laysFar_j90l55 x2 s.1 x4 s.2.1 (s.2.2 29 (Int32.toNatClampNeg y11)) (s.2.2 4 (Int32.toNatClampNeg s.2.1)) s.2.2 else none else none
set_option maxRecDepth 100000 in
set_option maxHeartbeats 400000 in
theorem t_X12_laysFar_l55 {D : mm_D} {d : Nat} (hd : 1 ≤ d) {Z : Option Int32 → List mm_C → mm_M → Prop} (x2 : Int32) (x4 : Int32) (n : Nat) (s : (Bool × Int32 × mm_M)) (r : (Bool × mm_M)) (h : mm_loop (X12_laysFar_l55 x2 x4) n s = some r) (hx : mm_Go jX12_laysFar D d 0 0 125 [some (.inr 0), none, some (.inl x2), some (.inl (mm_b r.1)), some (.inl x4), none, none] [] S_m r.2 Z) : mm_Go jX12_laysFar D d 0 0 55 [some (.inr 0), none, some (.inl x2), some (.inl (mm_b s.1)), some (.inl x4), some (.inl s.2.1), none] [] S_m s.2.2 Z := by
  refine mm_loop_go (step := X12_laysFar_l55 x2 x4) (Hd := fun (s : (Bool × Int32 × mm_M)) => mm_Go jX12_laysFar D d 0 0 55 [some (.inr 0), none, some (.inl x2), some (.inl (mm_b s.1)), some (.inl x4), some (.inl s.2.1), none] [] S_m s.2.2 Z) (Ex := fun (r : (Bool × mm_M)) => mm_Go jX12_laysFar D d 0 0 125 [some (.inr 0), none, some (.inl x2), some (.inl (mm_b r.1)), some (.inl x4), none, none] [] S_m r.2 Z) ?_ n s r h hx
  intro s o h kb ke
  show mm_Go jX12_laysFar D d 0 0 55 [some (.inr 0), none, some (.inl x2), some (.inl (mm_b s.1)), some (.inl x4), some (.inl s.2.1), none] [] S_m s.2.2 Z
  unfold X12_laysFar_l55 at h
  refine r_iload (q := 57) dX12_laysFar_55 rfl rfl ?_
  refine r_bipush (v := 8) (q := 59) dX12_laysFar_57 (by decide) rfl ?_
  refine r_icmp_ge 125 (q := 62) dX12_laysFar_59 (by decide) rfl (fun c9 => ?_) (fun c9 => ?_)
  · rw [if_pos c9] at h
    refine r_forget (L' := [some (.inr 0), none, some (.inl x2), some (.inl (mm_b s.1)), some (.inl x4), none, none]) [true, false, true, true, true, false, false] rfl ?_
    cases h
    have hk := ke _ rfl
    exact hk
  · rw [if_neg c9] at h
    refine r_aload_n (q := 63) dX12_laysFar_62 rfl rfl ?_
    refine r_getr (b := 29) (q := 66) lk_X12_95 dX12_laysFar_63 sc_m_0 rfl rfl ?_
    refine r_aload_n (q := 67) dX12_laysFar_66 rfl rfl ?_
    refine r_iload (q := 69) dX12_laysFar_67 rfl rfl ?_
    refine r_iload (q := 71) dX12_laysFar_69 rfl rfl ?_
    obtain ⟨y11, e10, h⟩ := Option.bind_eq_some_iff.mp h
    refine r_callV_i (av := [(.inl s.2.1), (.inl x4)]) (st := [(.inr 29)]) (q := 74) (d1 := 0) kc_X12_306 sc_m_0 dX12_laysFar_71 rfl rfl (Nat.le_of_ble_eq_true rfl) (Nat.le_of_ble_eq_true rfl) (by omega) rfl rfl (t_X12_behind (d := 0) (by omega) s.2.1 x4 s.2.2 _ e10) ?_
    obtain ⟨g12, h⟩ := mm_guard h
    refine r_iald (v := (s.2.2 29 (Int32.toNatClampNeg y11))) (q := 75) dX12_laysFar_74 sc_m_29 (mm_vp g12) rfl rfl ?_
    refine r_iload_n (q := 76) dX12_laysFar_75 rfl rfl ?_
    refine r_if_eq 89 (q := 79) dX12_laysFar_76 (by decide) rfl (fun c13 => ?_) (fun c13 => ?_)
    · rw [if_pos c13] at h
      refine r_iconst (v := 1) (q := 90) dX12_laysFar_89 (by decide) rfl ?_
      exact t_X12_laysFar_j90l55 hd x2 s.1 x4 s.2.1 (s.2.2 29 (Int32.toNatClampNeg y11)) 1 s.2.2 _ h kb ke
    · rw [if_neg c13] at h
      refine r_aload_n (q := 80) dX12_laysFar_79 rfl rfl ?_
      refine r_getr (b := 4) (q := 83) lk_X12_19 dX12_laysFar_80 sc_m_0 rfl rfl ?_
      refine r_iload (q := 85) dX12_laysFar_83 rfl rfl ?_
      obtain ⟨g17, h⟩ := mm_guard h
      refine r_iald (v := (s.2.2 4 (Int32.toNatClampNeg s.2.1))) (q := 86) dX12_laysFar_85 sc_m_4 (mm_vp g17) rfl rfl ?_
      refine r_goto 90 dX12_laysFar_86 (by decide) ?_
      exact t_X12_laysFar_j90l55 hd x2 s.1 x4 s.2.1 (s.2.2 29 (Int32.toNatClampNeg y11)) (s.2.2 4 (Int32.toNatClampNeg s.2.1)) s.2.2 _ h kb ke
noncomputable def X12_laysFar_l43 (x2 : Int32) (s : (Bool × Int32 × mm_M)) : Option ((Bool × Int32 × mm_M) ⊕ (Bool × mm_M)) := if (s.2.2 0 6) ≤ s.2.1 then some (.inr (s.1, s.2.2)) else (mm_loop (X12_laysFar_l55 x2 s.2.1) mm_fuel (s.1, 0, s.2.2)).bind fun y18 => some (.inl (y18.1, (s.2.1 + 1), y18.2))
set_option maxRecDepth 100000 in
set_option maxHeartbeats 400000 in
theorem t_X12_laysFar_l43 {D : mm_D} {d : Nat} (hd : 1 ≤ d) {Z : Option Int32 → List mm_C → mm_M → Prop} (x2 : Int32) (n : Nat) (s : (Bool × Int32 × mm_M)) (r : (Bool × mm_M)) (h : mm_loop (X12_laysFar_l43 x2) n s = some r) (hx : mm_Go jX12_laysFar D d 0 0 131 [some (.inr 0), none, some (.inl x2), some (.inl (mm_b r.1)), none, none, none] [] S_m r.2 Z) : mm_Go jX12_laysFar D d 0 0 43 [some (.inr 0), none, some (.inl x2), some (.inl (mm_b s.1)), some (.inl s.2.1), none, none] [] S_m s.2.2 Z := by
  refine mm_loop_go (step := X12_laysFar_l43 x2) (Hd := fun (s : (Bool × Int32 × mm_M)) => mm_Go jX12_laysFar D d 0 0 43 [some (.inr 0), none, some (.inl x2), some (.inl (mm_b s.1)), some (.inl s.2.1), none, none] [] S_m s.2.2 Z) (Ex := fun (r : (Bool × mm_M)) => mm_Go jX12_laysFar D d 0 0 131 [some (.inr 0), none, some (.inl x2), some (.inl (mm_b r.1)), none, none, none] [] S_m r.2 Z) ?_ n s r h hx
  intro s o h kb ke
  show mm_Go jX12_laysFar D d 0 0 43 [some (.inr 0), none, some (.inl x2), some (.inl (mm_b s.1)), some (.inl s.2.1), none, none] [] S_m s.2.2 Z
  unfold X12_laysFar_l43 at h
  refine r_iload (q := 45) dX12_laysFar_43 rfl rfl ?_
  refine r_aload_n (q := 46) dX12_laysFar_45 rfl rfl ?_
  refine r_geti (v := (s.2.2 0 6)) (q := 49) lk_X12_123 dX12_laysFar_46 sc_m_0 rfl rfl rfl ?_
  refine r_icmp_ge 131 (q := 52) dX12_laysFar_49 (by decide) rfl (fun c8 => ?_) (fun c8 => ?_)
  · rw [if_pos c8] at h
    refine r_forget (L' := [some (.inr 0), none, some (.inl x2), some (.inl (mm_b s.1)), none, none, none]) [true, false, true, true, false, false, false] rfl ?_
    cases h
    have hk := ke _ rfl
    exact hk
  · rw [if_neg c8] at h
    refine r_iconst (v := 0) (q := 53) dX12_laysFar_52 (by decide) rfl ?_
    refine r_istore (q := 55) (L' := [some (.inr 0), none, some (.inl x2), some (.inl (mm_b s.1)), some (.inl s.2.1), some (.inl 0), none]) dX12_laysFar_53 (by decide) rfl rfl ?_
    obtain ⟨y18, e19, h⟩ := Option.bind_eq_some_iff.mp h
    refine t_X12_laysFar_l55 hd x2 s.2.1 mm_fuel (s.1, 0, s.2.2) _ e19 ?_
    show mm_Go jX12_laysFar _ _ _ _ 125 [some (.inr 0), none, some (.inl x2), some (.inl (mm_b y18.1)), some (.inl s.2.1), none, none] [] S_m y18.2 _
    refine r_iinc (v := 1) (q := 128) (L' := [some (.inr 0), none, some (.inl x2), some (.inl (mm_b y18.1)), some (.inl (s.2.1 + 1)), none, none]) dX12_laysFar_125 (by decide) (by decide) rfl rfl rfl ?_
    refine r_goto 43 dX12_laysFar_128 (by decide) ?_
    cases h
    have hk := kb _ rfl
    exact hk
noncomputable def X12_laysFar_l34 (x2 : Int32) (s : (Bool × mm_M)) : Option ((Bool × mm_M) ⊕ mm_M) := if s.1 = true then (mm_loop (X12_laysFar_l43 x2) mm_fuel (false, 0, s.2)).bind fun y20 => some (.inl (y20.1, y20.2)) else some (.inr s.2)
set_option maxRecDepth 100000 in
set_option maxHeartbeats 400000 in
theorem t_X12_laysFar_l34 {D : mm_D} {d : Nat} (hd : 1 ≤ d) {Z : Option Int32 → List mm_C → mm_M → Prop} (x2 : Int32) (n : Nat) (s : (Bool × mm_M)) (r : mm_M) (h : mm_loop (X12_laysFar_l34 x2) n s = some r) (hx : Z none S_m r) : mm_Go jX12_laysFar D d 0 0 34 [some (.inr 0), none, some (.inl x2), some (.inl (mm_b s.1)), none, none, none] [] S_m s.2 Z := by
  refine mm_loop_go (step := X12_laysFar_l34 x2) (Hd := fun (s : (Bool × mm_M)) => mm_Go jX12_laysFar D d 0 0 34 [some (.inr 0), none, some (.inl x2), some (.inl (mm_b s.1)), none, none, none] [] S_m s.2 Z) (Ex := fun (r : mm_M) => Z none S_m r) ?_ n s r h hx
  intro s o h kb ke
  show mm_Go jX12_laysFar D d 0 0 34 [some (.inr 0), none, some (.inl x2), some (.inl (mm_b s.1)), none, none, none] [] S_m s.2 Z
  unfold X12_laysFar_l34 at h
  refine r_iload_n (q := 35) dX12_laysFar_34 rfl rfl ?_
  refine r_if_eq 134 (q := 38) dX12_laysFar_35 (by decide) rfl (fun c7 => ?_) (fun c7 => ?_)
  · rw [if_neg (mm_b0 c7)] at h
    cases h
    have hk := ke _ rfl
    exact r_retv dX12_laysFar_134 rfl hk
  · rw [if_pos (mm_b1 c7)] at h
    refine r_iconst (v := 0) (q := 39) dX12_laysFar_38 (by decide) rfl ?_
    refine r_istore_n (q := 40) (L' := [some (.inr 0), none, some (.inl x2), some (.inl 0), none, none, none]) dX12_laysFar_39 (by decide) rfl rfl ?_
    refine r_iconst (v := 0) (q := 41) dX12_laysFar_40 (by decide) rfl ?_
    refine r_istore (q := 43) (L' := [some (.inr 0), none, some (.inl x2), some (.inl 0), some (.inl 0), none, none]) dX12_laysFar_41 (by decide) rfl rfl ?_
    obtain ⟨y20, e21, h⟩ := Option.bind_eq_some_iff.mp h
    refine t_X12_laysFar_l43 hd x2 mm_fuel (false, 0, s.2) _ e21 ?_
    show mm_Go jX12_laysFar _ _ _ _ 131 [some (.inr 0), none, some (.inl x2), some (.inl (mm_b y20.1)), none, none, none] [] S_m y20.2 _
    refine r_goto 34 dX12_laysFar_131 (by decide) ?_
    cases h
    have hk := kb _ rfl
    exact hk
noncomputable def X12_laysFar (x1 : Int32) (x2 : Int32) (M : mm_M) : Option mm_M := (mm_loop (X12_laysFar_l2 x1 x2) mm_fuel (0, M)).bind fun y5 => (mm_loop (X12_laysFar_l34 x2) mm_fuel (true, y5))
set_option maxRecDepth 100000 in
set_option maxHeartbeats 400000 in
theorem t_X12_laysFar {d : Nat} (hd : 1 ≤ d) (x1 : Int32) (x2 : Int32) (M : mm_M) (res : mm_M) (h : X12_laysFar x1 x2 M = some res) : mm_Meth jX12_laysFar d 0 0 [(.inr 0), (.inl x1), (.inl x2)] S_m M (mm_Zv S_m res) := by
  refine r_meth (L := [some (.inr 0), some (.inl x1), some (.inl x2), none, none, none, none]) rfl (fun D => ?_)
  unfold X12_laysFar at h
  refine r_iconst (v := 0) (q := 1) dX12_laysFar_0 (by decide) rfl ?_
  refine r_istore_n (q := 2) (L' := [some (.inr 0), some (.inl x1), some (.inl x2), some (.inl 0), none, none, none]) dX12_laysFar_1 (by decide) rfl rfl ?_
  obtain ⟨y5, e6, h⟩ := Option.bind_eq_some_iff.mp h
  refine t_X12_laysFar_l2 hd x1 x2 mm_fuel (0, M) _ e6 ?_
  show mm_Go jX12_laysFar _ _ _ _ 32 [some (.inr 0), none, some (.inl x2), none, none, none, none] [] S_m y5 _
  refine r_iconst (v := 1) (q := 33) dX12_laysFar_32 (by decide) rfl ?_
  refine r_istore_n (q := 34) (L' := [some (.inr 0), none, some (.inl x2), some (.inl 1), none, none, none]) dX12_laysFar_33 (by decide) rfl rfl ?_
  exact t_X12_laysFar_l34 hd x2 mm_fuel (true, y5) _ h mm_Zv_rfl
noncomputable def X12_leads_l70 (x1 : Int32) (M : mm_M) (s : Int32) : Option (Int32 ⊕ (Int32 × mm_M)) := (X12_behind s x1 M).bind fun y12 => if mm_in y12 10 = true then if mm_in x1 10 = true then if (M 29 (Int32.toNatClampNeg y12)) = ((M 29 (Int32.toNatClampNeg x1)) - 1) then some (.inr (s, M)) else some (.inl (s + 1)) else none else none
set_option maxRecDepth 100000 in
set_option maxHeartbeats 400000 in
theorem t_X12_leads_l70 {D : mm_D} {d : Nat} (hd : 2 ≤ d) {Z : Option Int32 → List mm_C → mm_M → Prop} (x1 : Int32) (M : mm_M) (n : Nat) (s : Int32) (r : (Int32 × mm_M)) (h : mm_loop (X12_leads_l70 x1 M) n s = some r) (hx : Z (some r.1) S_m r.2) : mm_Go jX12_leads D d 0 0 70 [some (.inr 0), some (.inl x1), none, none, some (.inl s)] [] S_m M Z := by
  refine mm_loop_go (step := X12_leads_l70 x1 M) (Hd := fun (s : Int32) => mm_Go jX12_leads D d 0 0 70 [some (.inr 0), some (.inl x1), none, none, some (.inl s)] [] S_m M Z) (Ex := fun (r : (Int32 × mm_M)) => Z (some r.1) S_m r.2) ?_ n s r h hx
  intro s o h kb ke
  show mm_Go jX12_leads D d 0 0 70 [some (.inr 0), some (.inl x1), none, none, some (.inl s)] [] S_m M Z
  unfold X12_leads_l70 at h
  refine r_aload_n (q := 71) dX12_leads_70 rfl rfl ?_
  refine r_getr (b := 29) (q := 74) lk_X12_95 dX12_leads_71 sc_m_0 rfl rfl ?_
  refine r_aload_n (q := 75) dX12_leads_74 rfl rfl ?_
  refine r_iload (q := 77) dX12_leads_75 rfl rfl ?_
  refine r_iload_n (q := 78) dX12_leads_77 rfl rfl ?_
  obtain ⟨y12, e11, h⟩ := Option.bind_eq_some_iff.mp h
  refine r_callV_i (av := [(.inl s), (.inl x1)]) (st := [(.inr 29)]) (q := 81) (d1 := 0) kc_X12_306 sc_m_0 dX12_leads_78 rfl rfl (Nat.le_of_ble_eq_true rfl) (Nat.le_of_ble_eq_true rfl) (by omega) rfl rfl (t_X12_behind (d := 0) (by omega) s x1 M _ e11) ?_
  obtain ⟨g13, h⟩ := mm_guard h
  refine r_iald (v := (M 29 (Int32.toNatClampNeg y12))) (q := 82) dX12_leads_81 sc_m_29 (mm_vp g13) rfl rfl ?_
  refine r_aload_n (q := 83) dX12_leads_82 rfl rfl ?_
  refine r_getr (b := 29) (q := 86) lk_X12_95 dX12_leads_83 sc_m_0 rfl rfl ?_
  refine r_iload_n (q := 87) dX12_leads_86 rfl rfl ?_
  obtain ⟨g14, h⟩ := mm_guard h
  refine r_iald (v := (M 29 (Int32.toNatClampNeg x1))) (q := 88) dX12_leads_87 sc_m_29 (mm_vp g14) rfl rfl ?_
  refine r_iconst (v := 1) (q := 89) dX12_leads_88 (by decide) rfl ?_
  refine r_isub (q := 90) dX12_leads_89 rfl ?_
  refine r_icmp_eq 102 (q := 93) dX12_leads_90 (by decide) rfl (fun c15 => ?_) (fun c15 => ?_)
  · rw [if_pos c15] at h
    refine r_iload (q := 104) dX12_leads_102 rfl rfl ?_
    cases h
    have hk := ke _ rfl
    exact r_ret dX12_leads_104 rfl hk
  · rw [if_neg c15] at h
    refine r_iload (q := 95) dX12_leads_93 rfl rfl ?_
    refine r_iconst (v := 1) (q := 96) dX12_leads_95 (by decide) rfl ?_
    refine r_iadd (q := 97) dX12_leads_96 rfl ?_
    refine r_istore (q := 99) (L' := [some (.inr 0), some (.inl x1), none, none, some (.inl (s + 1))]) dX12_leads_97 (by decide) rfl rfl ?_
    refine r_goto 70 dX12_leads_99 (by decide) ?_
    cases h
    have hk := kb _ rfl
    exact hk
noncomputable def X12_leads (x1 : Int32) (x2 : Int32) (x3 : Int32) (M : mm_M) : Option (Int32 × mm_M) := if (X12_isState x1 M) = true then if (X12_isState x2 M) = true then if (X12_in x3 0 1) = true then (X12_laysFar x2 0 M).bind fun y5 => if mm_in x1 10 = true then if (y5 29 (Int32.toNatClampNeg x1)) < 1000000 then if x3 = 0 then if mm_in x1 10 = true then some ((y5 29 (Int32.toNatClampNeg x1)), y5) else none else if x1 = x2 then some ((-4), y5) else (mm_loop (X12_leads_l70 x1 y5) mm_fuel 0) else some ((-2), y5) else none else some ((-1), M) else some ((-1), M) else some ((-1), M)
set_option maxRecDepth 100000 in
set_option maxHeartbeats 400000 in
theorem t_X12_leads {d : Nat} (hd : 2 ≤ d) (x1 : Int32) (x2 : Int32) (x3 : Int32) (M : mm_M) (res : (Int32 × mm_M)) (h : X12_leads x1 x2 x3 M = some res) : mm_Meth jX12_leads d 0 0 [(.inr 0), (.inl x1), (.inl x2), (.inl x3)] S_m M (mm_Zi res.1 S_m res.2) := by
  refine r_meth (L := [some (.inr 0), some (.inl x1), some (.inl x2), some (.inl x3), none]) rfl (fun D => ?_)
  unfold X12_leads at h
  refine r_aload_n (q := 1) dX12_leads_0 rfl rfl ?_
  refine r_iload_n (q := 2) dX12_leads_1 rfl rfl ?_
  refine r_callV_i (av := [(.inl x1)]) (st := []) (q := 5) (d1 := 1) kc_X12_131 sc_m_0 dX12_leads_2 rfl rfl (Nat.le_of_ble_eq_true rfl) (Nat.le_of_ble_eq_true rfl) (by omega) rfl rfl (t_X12_isState (d := 1) (by omega) x1 M _ rfl) ?_
  refine r_if_eq 25 (q := 8) dX12_leads_5 (by decide) rfl (fun c1 => ?_) (fun c1 => ?_)
  · rw [if_neg (mm_b0 c1)] at h
    refine r_iconst (v := (-1)) (q := 26) dX12_leads_25 (by decide) rfl ?_
    cases h
    exact r_ret dX12_leads_26 rfl mm_Zi_rfl
  · rw [if_pos (mm_b1 c1)] at h
    refine r_aload_n (q := 9) dX12_leads_8 rfl rfl ?_
    refine r_iload_n (q := 10) dX12_leads_9 rfl rfl ?_
    refine r_callV_i (av := [(.inl x2)]) (st := []) (q := 13) (d1 := 1) kc_X12_131 sc_m_0 dX12_leads_10 rfl rfl (Nat.le_of_ble_eq_true rfl) (Nat.le_of_ble_eq_true rfl) (by omega) rfl rfl (t_X12_isState (d := 1) (by omega) x2 M _ rfl) ?_
    refine r_if_eq 25 (q := 16) dX12_leads_13 (by decide) rfl (fun c2 => ?_) (fun c2 => ?_)
    · rw [if_neg (mm_b0 c2)] at h
      refine r_iconst (v := (-1)) (q := 26) dX12_leads_25 (by decide) rfl ?_
      cases h
      exact r_ret dX12_leads_26 rfl mm_Zi_rfl
    · rw [if_pos (mm_b1 c2)] at h
      refine r_iload_n (q := 17) dX12_leads_16 rfl rfl ?_
      refine r_iconst (v := 0) (q := 18) dX12_leads_17 (by decide) rfl ?_
      refine r_iconst (v := 1) (q := 19) dX12_leads_18 (by decide) rfl ?_
      refine r_callS_i (av := [(.inl x3), (.inl 0), (.inl 1)]) (st := []) (q := 22) (d1 := 0) kc_X12_127 dX12_leads_19 rfl rfl (Nat.le_of_ble_eq_true rfl) (Nat.le_of_ble_eq_true rfl) (by omega) rfl rfl (t_X12_in (d := 0) (by omega) x3 0 1 M _ rfl) ?_
      refine r_if_ne 27 (q := 25) dX12_leads_22 (by decide) rfl (fun c3 => ?_) (fun c3 => ?_)
      · rw [if_pos (mm_b1 c3)] at h
        refine r_aload_n (q := 28) dX12_leads_27 rfl rfl ?_
        refine r_iload_n (q := 29) dX12_leads_28 rfl rfl ?_
        refine r_iconst (v := 0) (q := 30) dX12_leads_29 (by decide) rfl ?_
        obtain ⟨y5, e4, h⟩ := Option.bind_eq_some_iff.mp h
        refine r_callV_v (av := [(.inl x2), (.inl 0)]) (st := []) (q := 33) (d1 := 1) kc_X12_373 sc_m_0 dX12_leads_30 rfl rfl (Nat.le_of_ble_eq_true rfl) (Nat.le_of_ble_eq_true rfl) (by omega) rfl rfl (t_X12_laysFar (d := 1) (by omega) x2 0 M _ e4) ?_
        refine r_aload_n (q := 34) dX12_leads_33 rfl rfl ?_
        refine r_getr (b := 29) (q := 37) lk_X12_95 dX12_leads_34 sc_m_0 rfl rfl ?_
        refine r_iload_n (q := 38) dX12_leads_37 rfl rfl ?_
        obtain ⟨g6, h⟩ := mm_guard h
        refine r_iald (v := (y5 29 (Int32.toNatClampNeg x1))) (q := 39) dX12_leads_38 sc_m_29 (mm_vp g6) rfl rfl ?_
        refine r_ldcw (v := 1000000) (q := 42) dX12_leads_39 ko_X12_372 rfl ?_
        refine r_icmp_lt 48 (q := 45) dX12_leads_42 (by decide) rfl (fun c7 => ?_) (fun c7 => ?_)
        · rw [if_pos c7] at h
          refine r_iload_n (q := 49) dX12_leads_48 rfl rfl ?_
          refine r_if_ne 59 (q := 52) dX12_leads_49 (by decide) rfl (fun c8 => ?_) (fun c8 => ?_)
          · rw [if_neg c8] at h
            refine r_iload_n (q := 60) dX12_leads_59 rfl rfl ?_
            refine r_iload_n (q := 61) dX12_leads_60 rfl rfl ?_
            refine r_icmp_ne 67 (q := 64) dX12_leads_61 (by decide) rfl (fun c10 => ?_) (fun c10 => ?_)
            · rw [if_neg c10] at h
              refine r_iconst (v := 0) (q := 68) dX12_leads_67 (by decide) rfl ?_
              refine r_istore (q := 70) (L' := [some (.inr 0), some (.inl x1), some (.inl x2), some (.inl x3), some (.inl 0)]) dX12_leads_68 (by decide) rfl rfl ?_
              refine r_forget (L' := [some (.inr 0), some (.inl x1), none, none, some (.inl 0)]) [true, true, false, false, true] rfl ?_
              exact t_X12_leads_l70 hd x1 y5 mm_fuel 0 _ h mm_Zi_rfl
            · rw [if_pos c10] at h
              refine r_bipush (v := (-4)) (q := 66) dX12_leads_64 (by decide) rfl ?_
              cases h
              exact r_ret dX12_leads_66 rfl mm_Zi_rfl
          · rw [if_pos c8] at h
            refine r_aload_n (q := 53) dX12_leads_52 rfl rfl ?_
            refine r_getr (b := 29) (q := 56) lk_X12_95 dX12_leads_53 sc_m_0 rfl rfl ?_
            refine r_iload_n (q := 57) dX12_leads_56 rfl rfl ?_
            obtain ⟨g9, h⟩ := mm_guard h
            refine r_iald (v := (y5 29 (Int32.toNatClampNeg x1))) (q := 58) dX12_leads_57 sc_m_29 (mm_vp g9) rfl rfl ?_
            cases h
            exact r_ret dX12_leads_58 rfl mm_Zi_rfl
        · rw [if_neg c7] at h
          refine r_bipush (v := (-2)) (q := 47) dX12_leads_45 (by decide) rfl ?_
          cases h
          exact r_ret dX12_leads_47 rfl mm_Zi_rfl
      · rw [if_neg (mm_b0 c3)] at h
        refine r_iconst (v := (-1)) (q := 26) dX12_leads_25 (by decide) rfl ?_
        cases h
        exact r_ret dX12_leads_26 rfl mm_Zi_rfl
noncomputable def X12_back (x1 : Int32) (x2 : Int32) (M : mm_M) : Option (Int32 × mm_M) := if (X12_isQuestion x1) = true then if (X12_isState x2 M) = true then (X12_laysFar x2 0 M).bind fun y4 => (X12_behind x1 x2 y4).bind fun y6 => if mm_in y6 10 = true then if (y4 29 (Int32.toNatClampNeg y6)) < 1000000 then (X12_behind x1 x2 y4).bind fun y10 => if mm_in y10 10 = true then some ((y4 29 (Int32.toNatClampNeg y10)), y4) else none else some ((-2), y4) else none else some ((-1), M) else some ((-1), M)
set_option maxRecDepth 100000 in
set_option maxHeartbeats 400000 in
theorem t_X12_back {d : Nat} (hd : 2 ≤ d) (x1 : Int32) (x2 : Int32) (M : mm_M) (res : (Int32 × mm_M)) (h : X12_back x1 x2 M = some res) : mm_Meth jX12_back d 0 0 [(.inr 0), (.inl x1), (.inl x2)] S_m M (mm_Zi res.1 S_m res.2) := by
  refine r_meth (L := [some (.inr 0), some (.inl x1), some (.inl x2)]) rfl (fun D => ?_)
  unfold X12_back at h
  refine r_iload_n (q := 1) dX12_back_0 rfl rfl ?_
  refine r_callS_i (av := [(.inl x1)]) (st := []) (q := 4) (d1 := 1) kc_X12_135 dX12_back_1 rfl rfl (Nat.le_of_ble_eq_true rfl) (Nat.le_of_ble_eq_true rfl) (by omega) rfl rfl (t_X12_isQuestion (d := 1) (by omega) x1 M _ rfl) ?_
  refine r_if_eq 15 (q := 7) dX12_back_4 (by decide) rfl (fun c1 => ?_) (fun c1 => ?_)
  · rw [if_neg (mm_b0 c1)] at h
    refine r_iconst (v := (-1)) (q := 16) dX12_back_15 (by decide) rfl ?_
    cases h
    exact r_ret dX12_back_16 rfl mm_Zi_rfl
  · rw [if_pos (mm_b1 c1)] at h
    refine r_aload_n (q := 8) dX12_back_7 rfl rfl ?_
    refine r_iload_n (q := 9) dX12_back_8 rfl rfl ?_
    refine r_callV_i (av := [(.inl x2)]) (st := []) (q := 12) (d1 := 1) kc_X12_131 sc_m_0 dX12_back_9 rfl rfl (Nat.le_of_ble_eq_true rfl) (Nat.le_of_ble_eq_true rfl) (by omega) rfl rfl (t_X12_isState (d := 1) (by omega) x2 M _ rfl) ?_
    refine r_if_ne 17 (q := 15) dX12_back_12 (by decide) rfl (fun c2 => ?_) (fun c2 => ?_)
    · rw [if_pos (mm_b1 c2)] at h
      refine r_aload_n (q := 18) dX12_back_17 rfl rfl ?_
      refine r_iload_n (q := 19) dX12_back_18 rfl rfl ?_
      refine r_iconst (v := 0) (q := 20) dX12_back_19 (by decide) rfl ?_
      obtain ⟨y4, e3, h⟩ := Option.bind_eq_some_iff.mp h
      refine r_callV_v (av := [(.inl x2), (.inl 0)]) (st := []) (q := 23) (d1 := 1) kc_X12_373 sc_m_0 dX12_back_20 rfl rfl (Nat.le_of_ble_eq_true rfl) (Nat.le_of_ble_eq_true rfl) (by omega) rfl rfl (t_X12_laysFar (d := 1) (by omega) x2 0 M _ e3) ?_
      refine r_aload_n (q := 24) dX12_back_23 rfl rfl ?_
      refine r_getr (b := 29) (q := 27) lk_X12_95 dX12_back_24 sc_m_0 rfl rfl ?_
      refine r_aload_n (q := 28) dX12_back_27 rfl rfl ?_
      refine r_iload_n (q := 29) dX12_back_28 rfl rfl ?_
      refine r_iload_n (q := 30) dX12_back_29 rfl rfl ?_
      obtain ⟨y6, e5, h⟩ := Option.bind_eq_some_iff.mp h
      refine r_callV_i (av := [(.inl x1), (.inl x2)]) (st := [(.inr 29)]) (q := 33) (d1 := 0) kc_X12_306 sc_m_0 dX12_back_30 rfl rfl (Nat.le_of_ble_eq_true rfl) (Nat.le_of_ble_eq_true rfl) (by omega) rfl rfl (t_X12_behind (d := 0) (by omega) x1 x2 y4 _ e5) ?_
      obtain ⟨g7, h⟩ := mm_guard h
      refine r_iald (v := (y4 29 (Int32.toNatClampNeg y6))) (q := 34) dX12_back_33 sc_m_29 (mm_vp g7) rfl rfl ?_
      refine r_ldcw (v := 1000000) (q := 37) dX12_back_34 ko_X12_372 rfl ?_
      refine r_icmp_lt 45 (q := 40) dX12_back_37 (by decide) rfl (fun c8 => ?_) (fun c8 => ?_)
      · rw [if_pos c8] at h
        refine r_aload_n (q := 46) dX12_back_45 rfl rfl ?_
        refine r_getr (b := 29) (q := 49) lk_X12_95 dX12_back_46 sc_m_0 rfl rfl ?_
        refine r_aload_n (q := 50) dX12_back_49 rfl rfl ?_
        refine r_iload_n (q := 51) dX12_back_50 rfl rfl ?_
        refine r_iload_n (q := 52) dX12_back_51 rfl rfl ?_
        obtain ⟨y10, e9, h⟩ := Option.bind_eq_some_iff.mp h
        refine r_callV_i (av := [(.inl x1), (.inl x2)]) (st := [(.inr 29)]) (q := 55) (d1 := 0) kc_X12_306 sc_m_0 dX12_back_52 rfl rfl (Nat.le_of_ble_eq_true rfl) (Nat.le_of_ble_eq_true rfl) (by omega) rfl rfl (t_X12_behind (d := 0) (by omega) x1 x2 y4 _ e9) ?_
        obtain ⟨g11, h⟩ := mm_guard h
        refine r_iald (v := (y4 29 (Int32.toNatClampNeg y10))) (q := 56) dX12_back_55 sc_m_29 (mm_vp g11) rfl rfl ?_
        cases h
        exact r_ret dX12_back_56 rfl mm_Zi_rfl
      · rw [if_neg c8] at h
        refine r_bipush (v := (-2)) (q := 42) dX12_back_40 (by decide) rfl ?_
        refine r_goto 56 dX12_back_42 (by decide) ?_
        cases h
        exact r_ret dX12_back_56 rfl mm_Zi_rfl
    · rw [if_neg (mm_b0 c2)] at h
      refine r_iconst (v := (-1)) (q := 16) dX12_back_15 (by decide) rfl ?_
      cases h
      exact r_ret dX12_back_16 rfl mm_Zi_rfl
noncomputable def X12_cheapest (x1 : Int32) (x2 : Int32) (M : mm_M) : Option (Int32 × mm_M) := if (X12_isState x1 M) = true then if (X12_isState x2 M) = true then (X12_laysFar x2 1 M).bind fun y4 => if mm_in x1 10 = true then if (y4 29 (Int32.toNatClampNeg x1)) < 1000000 then if mm_in x1 10 = true then some ((y4 29 (Int32.toNatClampNeg x1)), y4) else none else some ((-2), y4) else none else some ((-1), M) else some ((-1), M)
set_option maxRecDepth 100000 in
set_option maxHeartbeats 400000 in
theorem t_X12_cheapest {d : Nat} (hd : 2 ≤ d) (x1 : Int32) (x2 : Int32) (M : mm_M) (res : (Int32 × mm_M)) (h : X12_cheapest x1 x2 M = some res) : mm_Meth jX12_cheapest d 0 0 [(.inr 0), (.inl x1), (.inl x2)] S_m M (mm_Zi res.1 S_m res.2) := by
  refine r_meth (L := [some (.inr 0), some (.inl x1), some (.inl x2)]) rfl (fun D => ?_)
  unfold X12_cheapest at h
  refine r_aload_n (q := 1) dX12_cheapest_0 rfl rfl ?_
  refine r_iload_n (q := 2) dX12_cheapest_1 rfl rfl ?_
  refine r_callV_i (av := [(.inl x1)]) (st := []) (q := 5) (d1 := 1) kc_X12_131 sc_m_0 dX12_cheapest_2 rfl rfl (Nat.le_of_ble_eq_true rfl) (Nat.le_of_ble_eq_true rfl) (by omega) rfl rfl (t_X12_isState (d := 1) (by omega) x1 M _ rfl) ?_
  refine r_if_eq 16 (q := 8) dX12_cheapest_5 (by decide) rfl (fun c1 => ?_) (fun c1 => ?_)
  · rw [if_neg (mm_b0 c1)] at h
    refine r_iconst (v := (-1)) (q := 17) dX12_cheapest_16 (by decide) rfl ?_
    cases h
    exact r_ret dX12_cheapest_17 rfl mm_Zi_rfl
  · rw [if_pos (mm_b1 c1)] at h
    refine r_aload_n (q := 9) dX12_cheapest_8 rfl rfl ?_
    refine r_iload_n (q := 10) dX12_cheapest_9 rfl rfl ?_
    refine r_callV_i (av := [(.inl x2)]) (st := []) (q := 13) (d1 := 1) kc_X12_131 sc_m_0 dX12_cheapest_10 rfl rfl (Nat.le_of_ble_eq_true rfl) (Nat.le_of_ble_eq_true rfl) (by omega) rfl rfl (t_X12_isState (d := 1) (by omega) x2 M _ rfl) ?_
    refine r_if_ne 18 (q := 16) dX12_cheapest_13 (by decide) rfl (fun c2 => ?_) (fun c2 => ?_)
    · rw [if_pos (mm_b1 c2)] at h
      refine r_aload_n (q := 19) dX12_cheapest_18 rfl rfl ?_
      refine r_iload_n (q := 20) dX12_cheapest_19 rfl rfl ?_
      refine r_iconst (v := 1) (q := 21) dX12_cheapest_20 (by decide) rfl ?_
      obtain ⟨y4, e3, h⟩ := Option.bind_eq_some_iff.mp h
      refine r_callV_v (av := [(.inl x2), (.inl 1)]) (st := []) (q := 24) (d1 := 1) kc_X12_373 sc_m_0 dX12_cheapest_21 rfl rfl (Nat.le_of_ble_eq_true rfl) (Nat.le_of_ble_eq_true rfl) (by omega) rfl rfl (t_X12_laysFar (d := 1) (by omega) x2 1 M _ e3) ?_
      refine r_aload_n (q := 25) dX12_cheapest_24 rfl rfl ?_
      refine r_getr (b := 29) (q := 28) lk_X12_95 dX12_cheapest_25 sc_m_0 rfl rfl ?_
      refine r_iload_n (q := 29) dX12_cheapest_28 rfl rfl ?_
      obtain ⟨g5, h⟩ := mm_guard h
      refine r_iald (v := (y4 29 (Int32.toNatClampNeg x1))) (q := 30) dX12_cheapest_29 sc_m_29 (mm_vp g5) rfl rfl ?_
      refine r_ldcw (v := 1000000) (q := 33) dX12_cheapest_30 ko_X12_372 rfl ?_
      refine r_icmp_lt 41 (q := 36) dX12_cheapest_33 (by decide) rfl (fun c6 => ?_) (fun c6 => ?_)
      · rw [if_pos c6] at h
        refine r_aload_n (q := 42) dX12_cheapest_41 rfl rfl ?_
        refine r_getr (b := 29) (q := 45) lk_X12_95 dX12_cheapest_42 sc_m_0 rfl rfl ?_
        refine r_iload_n (q := 46) dX12_cheapest_45 rfl rfl ?_
        obtain ⟨g7, h⟩ := mm_guard h
        refine r_iald (v := (y4 29 (Int32.toNatClampNeg x1))) (q := 47) dX12_cheapest_46 sc_m_29 (mm_vp g7) rfl rfl ?_
        cases h
        exact r_ret dX12_cheapest_47 rfl mm_Zi_rfl
      · rw [if_neg c6] at h
        refine r_bipush (v := (-2)) (q := 38) dX12_cheapest_36 (by decide) rfl ?_
        refine r_goto 47 dX12_cheapest_38 (by decide) ?_
        cases h
        exact r_ret dX12_cheapest_47 rfl mm_Zi_rfl
    · rw [if_neg (mm_b0 c2)] at h
      refine r_iconst (v := (-1)) (q := 17) dX12_cheapest_16 (by decide) rfl ?_
      cases h
      exact r_ret dX12_cheapest_17 rfl mm_Zi_rfl
noncomputable def X12_partsThen (x1 : Int32) (x2 : Int32) (x3 : Int32) (M : mm_M) : Option Int32 := (X12_answer x3 x1 M).bind fun y2 => (X12_answer x3 x2 M).bind fun y4 => if y2 = y4 then (X12_behind x3 x1 M).bind fun y7 => (X12_behind x3 x2 M).bind fun y9 => if mm_in (((10 : Int32) * y7) + y9) 100 = true then some ((M 30 (Int32.toNatClampNeg (((10 : Int32) * y7) + y9))) + 1) else none else some 1
set_option maxRecDepth 100000 in
set_option maxHeartbeats 400000 in
theorem t_X12_partsThen {d : Nat} (hd : 1 ≤ d) (x1 : Int32) (x2 : Int32) (x3 : Int32) (M : mm_M) (res : Int32) (h : X12_partsThen x1 x2 x3 M = some res) : mm_Meth jX12_partsThen d 0 0 [(.inr 0), (.inl x1), (.inl x2), (.inl x3)] S_m M (mm_Zi res S_m M) := by
  refine r_meth (L := [some (.inr 0), some (.inl x1), some (.inl x2), some (.inl x3)]) rfl (fun D => ?_)
  unfold X12_partsThen at h
  refine r_aload_n (q := 1) dX12_partsThen_0 rfl rfl ?_
  refine r_iload_n (q := 2) dX12_partsThen_1 rfl rfl ?_
  refine r_iload_n (q := 3) dX12_partsThen_2 rfl rfl ?_
  obtain ⟨y2, e1, h⟩ := Option.bind_eq_some_iff.mp h
  refine r_callV_i (av := [(.inl x3), (.inl x1)]) (st := []) (q := 6) (d1 := 0) kc_X12_299 sc_m_0 dX12_partsThen_3 rfl rfl (Nat.le_of_ble_eq_true rfl) (Nat.le_of_ble_eq_true rfl) (by omega) rfl rfl (t_X12_answer (d := 0) (by omega) x3 x1 M _ e1) ?_
  refine r_aload_n (q := 7) dX12_partsThen_6 rfl rfl ?_
  refine r_iload_n (q := 8) dX12_partsThen_7 rfl rfl ?_
  refine r_iload_n (q := 9) dX12_partsThen_8 rfl rfl ?_
  obtain ⟨y4, e3, h⟩ := Option.bind_eq_some_iff.mp h
  refine r_callV_i (av := [(.inl x3), (.inl x2)]) (st := [(.inl y2)]) (q := 12) (d1 := 0) kc_X12_299 sc_m_0 dX12_partsThen_9 rfl rfl (Nat.le_of_ble_eq_true rfl) (Nat.le_of_ble_eq_true rfl) (by omega) rfl rfl (t_X12_answer (d := 0) (by omega) x3 x2 M _ e3) ?_
  refine r_icmp_eq 19 (q := 15) dX12_partsThen_12 (by decide) rfl (fun c5 => ?_) (fun c5 => ?_)
  · rw [if_pos c5] at h
    refine r_aload_n (q := 20) dX12_partsThen_19 rfl rfl ?_
    refine r_getr (b := 30) (q := 23) lk_X12_98 dX12_partsThen_20 sc_m_0 rfl rfl ?_
    refine r_bipush (v := 10) (q := 25) dX12_partsThen_23 (by decide) rfl ?_
    refine r_aload_n (q := 26) dX12_partsThen_25 rfl rfl ?_
    refine r_iload_n (q := 27) dX12_partsThen_26 rfl rfl ?_
    refine r_iload_n (q := 28) dX12_partsThen_27 rfl rfl ?_
    obtain ⟨y7, e6, h⟩ := Option.bind_eq_some_iff.mp h
    refine r_callV_i (av := [(.inl x3), (.inl x1)]) (st := [(.inl 10), (.inr 30)]) (q := 31) (d1 := 0) kc_X12_306 sc_m_0 dX12_partsThen_28 rfl rfl (Nat.le_of_ble_eq_true rfl) (Nat.le_of_ble_eq_true rfl) (by omega) rfl rfl (t_X12_behind (d := 0) (by omega) x3 x1 M _ e6) ?_
    refine r_imul (q := 32) dX12_partsThen_31 rfl ?_
    refine r_aload_n (q := 33) dX12_partsThen_32 rfl rfl ?_
    refine r_iload_n (q := 34) dX12_partsThen_33 rfl rfl ?_
    refine r_iload_n (q := 35) dX12_partsThen_34 rfl rfl ?_
    obtain ⟨y9, e8, h⟩ := Option.bind_eq_some_iff.mp h
    refine r_callV_i (av := [(.inl x3), (.inl x2)]) (st := [(.inl ((10 : Int32) * y7)), (.inr 30)]) (q := 38) (d1 := 0) kc_X12_306 sc_m_0 dX12_partsThen_35 rfl rfl (Nat.le_of_ble_eq_true rfl) (Nat.le_of_ble_eq_true rfl) (by omega) rfl rfl (t_X12_behind (d := 0) (by omega) x3 x2 M _ e8) ?_
    refine r_iadd (q := 39) dX12_partsThen_38 rfl ?_
    obtain ⟨g10, h⟩ := mm_guard h
    refine r_iald (v := (M 30 (Int32.toNatClampNeg (((10 : Int32) * y7) + y9)))) (q := 40) dX12_partsThen_39 sc_m_30 (mm_vp g10) rfl rfl ?_
    refine r_iconst (v := 1) (q := 41) dX12_partsThen_40 (by decide) rfl ?_
    refine r_iadd (q := 42) dX12_partsThen_41 rfl ?_
    cases h
    exact r_ret dX12_partsThen_42 rfl mm_Zi_rfl
  · rw [if_neg c5] at h
    refine r_iconst (v := 1) (q := 16) dX12_partsThen_15 (by decide) rfl ?_
    refine r_goto 42 dX12_partsThen_16 (by decide) ?_
    cases h
    exact r_ret dX12_partsThen_42 rfl mm_Zi_rfl
noncomputable def X12_laysParts_l2 (s : (Int32 × mm_M)) : Option ((Int32 × mm_M) ⊕ mm_M) := if 100 ≤ s.1 then some (.inr s.2) else if mm_in s.1 100 = true then some (.inl ((s.1 + 1), (mm_U s.2 30 (Int32.toNatClampNeg s.1) 1000000))) else none
set_option maxRecDepth 100000 in
set_option maxHeartbeats 400000 in
theorem t_X12_laysParts_l2 {D : mm_D} {d : Nat} (hd : 2 ≤ d) {Z : Option Int32 → List mm_C → mm_M → Prop} (n : Nat) (s : (Int32 × mm_M)) (r : mm_M) (h : mm_loop (X12_laysParts_l2) n s = some r) (hx : mm_Go jX12_laysParts D d 0 0 23 [some (.inr 0), none, none, none, none, none] [] S_m r Z) : mm_Go jX12_laysParts D d 0 0 2 [some (.inr 0), some (.inl s.1), none, none, none, none] [] S_m s.2 Z := by
  refine mm_loop_go (step := X12_laysParts_l2) (Hd := fun (s : (Int32 × mm_M)) => mm_Go jX12_laysParts D d 0 0 2 [some (.inr 0), some (.inl s.1), none, none, none, none] [] S_m s.2 Z) (Ex := fun (r : mm_M) => mm_Go jX12_laysParts D d 0 0 23 [some (.inr 0), none, none, none, none, none] [] S_m r Z) ?_ n s r h hx
  intro s o h kb ke
  show mm_Go jX12_laysParts D d 0 0 2 [some (.inr 0), some (.inl s.1), none, none, none, none] [] S_m s.2 Z
  unfold X12_laysParts_l2 at h
  refine r_iload_n (q := 3) dX12_laysParts_2 rfl rfl ?_
  refine r_bipush (v := 100) (q := 5) dX12_laysParts_3 (by decide) rfl ?_
  refine r_icmp_ge 23 (q := 8) dX12_laysParts_5 (by decide) rfl (fun c1 => ?_) (fun c1 => ?_)
  · rw [if_pos c1] at h
    refine r_forget (L' := [some (.inr 0), none, none, none, none, none]) [true, false, false, false, false, false] rfl ?_
    cases h
    have hk := ke _ rfl
    exact hk
  · rw [if_neg c1] at h
    refine r_aload_n (q := 9) dX12_laysParts_8 rfl rfl ?_
    refine r_getr (b := 30) (q := 12) lk_X12_98 dX12_laysParts_9 sc_m_0 rfl rfl ?_
    refine r_iload_n (q := 13) dX12_laysParts_12 rfl rfl ?_
    refine r_ldcw (v := 1000000) (q := 16) dX12_laysParts_13 ko_X12_372 rfl ?_
    obtain ⟨g2, h⟩ := mm_guard h
    refine r_iast (j := (Int32.toNatClampNeg s.1)) (q := 17) dX12_laysParts_16 sc_m_30 (mm_vp g2) rfl rfl ?_
    refine r_iinc (v := 1) (q := 20) (L' := [some (.inr 0), some (.inl (s.1 + 1)), none, none, none, none]) dX12_laysParts_17 (by decide) (by decide) rfl rfl rfl ?_
    refine r_goto 2 dX12_laysParts_20 (by decide) ?_
    cases h
    have hk := kb _ rfl
    exact hk
noncomputable def X12_laysParts_l53 (x2 : Int32) (x3 : Int32) (x4 : Int32) (s : (Bool × Int32 × mm_M)) : Option ((Bool × Int32 × mm_M) ⊕ (Bool × mm_M)) := if 8 ≤ s.2.1 then some (.inr (s.1, s.2.2)) else if (s.2.2 0 6) ≤ x3 then some (.inr (s.1, s.2.2)) else if (s.2.2 0 6) ≤ x4 then some (.inr (s.1, s.2.2)) else (X12_partsThen x3 x4 s.2.1 s.2.2).bind fun y11 => if mm_in x2 100 = true then if y11 < (s.2.2 30 (Int32.toNatClampNeg x2)) then (X12_partsThen x3 x4 s.2.1 s.2.2).bind fun y15 => if mm_in x2 100 = true then some (.inl (true, (s.2.1 + 1), (mm_U s.2.2 30 (Int32.toNatClampNeg x2) y15))) else none else some (.inl (s.1, (s.2.1 + 1), s.2.2)) else none
set_option maxRecDepth 100000 in
set_option maxHeartbeats 400000 in
theorem t_X12_laysParts_l53 {D : mm_D} {d : Nat} (hd : 2 ≤ d) {Z : Option Int32 → List mm_C → mm_M → Prop} (x2 : Int32) (x3 : Int32) (x4 : Int32) (n : Nat) (s : (Bool × Int32 × mm_M)) (r : (Bool × mm_M)) (h : mm_loop (X12_laysParts_l53 x2 x3 x4) n s = some r) (hx : mm_Go jX12_laysParts D d 0 0 121 [some (.inr 0), some (.inl (mm_b r.1)), some (.inl x2), none, none, none] [] S_m r.2 Z) : mm_Go jX12_laysParts D d 0 0 53 [some (.inr 0), some (.inl (mm_b s.1)), some (.inl x2), some (.inl x3), some (.inl x4), some (.inl s.2.1)] [] S_m s.2.2 Z := by
  refine mm_loop_go (step := X12_laysParts_l53 x2 x3 x4) (Hd := fun (s : (Bool × Int32 × mm_M)) => mm_Go jX12_laysParts D d 0 0 53 [some (.inr 0), some (.inl (mm_b s.1)), some (.inl x2), some (.inl x3), some (.inl x4), some (.inl s.2.1)] [] S_m s.2.2 Z) (Ex := fun (r : (Bool × mm_M)) => mm_Go jX12_laysParts D d 0 0 121 [some (.inr 0), some (.inl (mm_b r.1)), some (.inl x2), none, none, none] [] S_m r.2 Z) ?_ n s r h hx
  intro s o h kb ke
  show mm_Go jX12_laysParts D d 0 0 53 [some (.inr 0), some (.inl (mm_b s.1)), some (.inl x2), some (.inl x3), some (.inl x4), some (.inl s.2.1)] [] S_m s.2.2 Z
  unfold X12_laysParts_l53 at h
  refine r_iload (q := 55) dX12_laysParts_53 rfl rfl ?_
  refine r_bipush (v := 8) (q := 57) dX12_laysParts_55 (by decide) rfl ?_
  refine r_icmp_ge 121 (q := 60) dX12_laysParts_57 (by decide) rfl (fun c7 => ?_) (fun c7 => ?_)
  · rw [if_pos c7] at h
    refine r_forget (L' := [some (.inr 0), some (.inl (mm_b s.1)), some (.inl x2), none, none, none]) [true, true, true, false, false, false] rfl ?_
    cases h
    have hk := ke _ rfl
    exact hk
  · rw [if_neg c7] at h
    refine r_iload_n (q := 61) dX12_laysParts_60 rfl rfl ?_
    refine r_aload_n (q := 62) dX12_laysParts_61 rfl rfl ?_
    refine r_geti (v := (s.2.2 0 6)) (q := 65) lk_X12_123 dX12_laysParts_62 sc_m_0 rfl rfl rfl ?_
    refine r_icmp_ge 121 (q := 68) dX12_laysParts_65 (by decide) rfl (fun c8 => ?_) (fun c8 => ?_)
    · rw [if_pos c8] at h
      refine r_forget (L' := [some (.inr 0), some (.inl (mm_b s.1)), some (.inl x2), none, none, none]) [true, true, true, false, false, false] rfl ?_
      cases h
      have hk := ke _ rfl
      exact hk
    · rw [if_neg c8] at h
      refine r_iload (q := 70) dX12_laysParts_68 rfl rfl ?_
      refine r_aload_n (q := 71) dX12_laysParts_70 rfl rfl ?_
      refine r_geti (v := (s.2.2 0 6)) (q := 74) lk_X12_123 dX12_laysParts_71 sc_m_0 rfl rfl rfl ?_
      refine r_icmp_ge 121 (q := 77) dX12_laysParts_74 (by decide) rfl (fun c9 => ?_) (fun c9 => ?_)
      · rw [if_pos c9] at h
        refine r_forget (L' := [some (.inr 0), some (.inl (mm_b s.1)), some (.inl x2), none, none, none]) [true, true, true, false, false, false] rfl ?_
        cases h
        have hk := ke _ rfl
        exact hk
      · rw [if_neg c9] at h
        refine r_aload_n (q := 78) dX12_laysParts_77 rfl rfl ?_
        refine r_iload_n (q := 79) dX12_laysParts_78 rfl rfl ?_
        refine r_iload (q := 81) dX12_laysParts_79 rfl rfl ?_
        refine r_iload (q := 83) dX12_laysParts_81 rfl rfl ?_
        obtain ⟨y11, e10, h⟩ := Option.bind_eq_some_iff.mp h
        refine r_callV_i (av := [(.inl x3), (.inl x4), (.inl s.2.1)]) (st := []) (q := 86) (d1 := 1) kc_X12_377 sc_m_0 dX12_laysParts_83 rfl rfl (Nat.le_of_ble_eq_true rfl) (Nat.le_of_ble_eq_true rfl) (by omega) rfl rfl (t_X12_partsThen (d := 1) (by omega) x3 x4 s.2.1 s.2.2 _ e10) ?_
        refine r_aload_n (q := 87) dX12_laysParts_86 rfl rfl ?_
        refine r_getr (b := 30) (q := 90) lk_X12_98 dX12_laysParts_87 sc_m_0 rfl rfl ?_
        refine r_iload_n (q := 91) dX12_laysParts_90 rfl rfl ?_
        obtain ⟨g12, h⟩ := mm_guard h
        refine r_iald (v := (s.2.2 30 (Int32.toNatClampNeg x2))) (q := 92) dX12_laysParts_91 sc_m_30 (mm_vp g12) rfl rfl ?_
        refine r_icmp_lt 98 (q := 95) dX12_laysParts_92 (by decide) rfl (fun c13 => ?_) (fun c13 => ?_)
        · rw [if_pos c13] at h
          refine r_aload_n (q := 99) dX12_laysParts_98 rfl rfl ?_
          refine r_getr (b := 30) (q := 102) lk_X12_98 dX12_laysParts_99 sc_m_0 rfl rfl ?_
          refine r_iload_n (q := 103) dX12_laysParts_102 rfl rfl ?_
          refine r_aload_n (q := 104) dX12_laysParts_103 rfl rfl ?_
          refine r_iload_n (q := 105) dX12_laysParts_104 rfl rfl ?_
          refine r_iload (q := 107) dX12_laysParts_105 rfl rfl ?_
          refine r_iload (q := 109) dX12_laysParts_107 rfl rfl ?_
          obtain ⟨y15, e14, h⟩ := Option.bind_eq_some_iff.mp h
          refine r_callV_i (av := [(.inl x3), (.inl x4), (.inl s.2.1)]) (st := [(.inl x2), (.inr 30)]) (q := 112) (d1 := 1) kc_X12_377 sc_m_0 dX12_laysParts_109 rfl rfl (Nat.le_of_ble_eq_true rfl) (Nat.le_of_ble_eq_true rfl) (by omega) rfl rfl (t_X12_partsThen (d := 1) (by omega) x3 x4 s.2.1 s.2.2 _ e14) ?_
          obtain ⟨g16, h⟩ := mm_guard h
          refine r_iast (j := (Int32.toNatClampNeg x2)) (q := 113) dX12_laysParts_112 sc_m_30 (mm_vp g16) rfl rfl ?_
          refine r_iconst (v := 1) (q := 114) dX12_laysParts_113 (by decide) rfl ?_
          refine r_istore_n (q := 115) (L' := [some (.inr 0), some (.inl 1), some (.inl x2), some (.inl x3), some (.inl x4), some (.inl s.2.1)]) dX12_laysParts_114 (by decide) rfl rfl ?_
          refine r_iinc (v := 1) (q := 118) (L' := [some (.inr 0), some (.inl 1), some (.inl x2), some (.inl x3), some (.inl x4), some (.inl (s.2.1 + 1))]) dX12_laysParts_115 (by decide) (by decide) rfl rfl rfl ?_
          refine r_goto 53 dX12_laysParts_118 (by decide) ?_
          cases h
          have hk := kb _ rfl
          exact hk
        · rw [if_neg c13] at h
          refine r_goto 115 dX12_laysParts_95 (by decide) ?_
          refine r_iinc (v := 1) (q := 118) (L' := [some (.inr 0), some (.inl (mm_b s.1)), some (.inl x2), some (.inl x3), some (.inl x4), some (.inl (s.2.1 + 1))]) dX12_laysParts_115 (by decide) (by decide) rfl rfl rfl ?_
          refine r_goto 53 dX12_laysParts_118 (by decide) ?_
          cases h
          have hk := kb _ rfl
          exact hk
noncomputable def X12_laysParts_l33 (s : (Bool × Int32 × mm_M)) : Option ((Bool × Int32 × mm_M) ⊕ (Bool × mm_M)) := if 100 ≤ s.2.1 then some (.inr (s.1, s.2.2)) else (mm_loop (X12_laysParts_l53 s.2.1 (s.2.1 / 10) (s.2.1 - s.2.1 / 10 * 10)) mm_fuel (s.1, 0, s.2.2)).bind fun y17 => some (.inl (y17.1, (s.2.1 + 1), y17.2))
set_option maxRecDepth 100000 in
set_option maxHeartbeats 400000 in
theorem t_X12_laysParts_l33 {D : mm_D} {d : Nat} (hd : 2 ≤ d) {Z : Option Int32 → List mm_C → mm_M → Prop} (n : Nat) (s : (Bool × Int32 × mm_M)) (r : (Bool × mm_M)) (h : mm_loop (X12_laysParts_l33) n s = some r) (hx : mm_Go jX12_laysParts D d 0 0 127 [some (.inr 0), some (.inl (mm_b r.1)), none, none, none, none] [] S_m r.2 Z) : mm_Go jX12_laysParts D d 0 0 33 [some (.inr 0), some (.inl (mm_b s.1)), some (.inl s.2.1), none, none, none] [] S_m s.2.2 Z := by
  refine mm_loop_go (step := X12_laysParts_l33) (Hd := fun (s : (Bool × Int32 × mm_M)) => mm_Go jX12_laysParts D d 0 0 33 [some (.inr 0), some (.inl (mm_b s.1)), some (.inl s.2.1), none, none, none] [] S_m s.2.2 Z) (Ex := fun (r : (Bool × mm_M)) => mm_Go jX12_laysParts D d 0 0 127 [some (.inr 0), some (.inl (mm_b r.1)), none, none, none, none] [] S_m r.2 Z) ?_ n s r h hx
  intro s o h kb ke
  show mm_Go jX12_laysParts D d 0 0 33 [some (.inr 0), some (.inl (mm_b s.1)), some (.inl s.2.1), none, none, none] [] S_m s.2.2 Z
  unfold X12_laysParts_l33 at h
  refine r_iload_n (q := 34) dX12_laysParts_33 rfl rfl ?_
  refine r_bipush (v := 100) (q := 36) dX12_laysParts_34 (by decide) rfl ?_
  refine r_icmp_ge 127 (q := 39) dX12_laysParts_36 (by decide) rfl (fun c6 => ?_) (fun c6 => ?_)
  · rw [if_pos c6] at h
    refine r_forget (L' := [some (.inr 0), some (.inl (mm_b s.1)), none, none, none, none]) [true, true, false, false, false, false] rfl ?_
    cases h
    have hk := ke _ rfl
    exact hk
  · rw [if_neg c6] at h
    refine r_iload_n (q := 40) dX12_laysParts_39 rfl rfl ?_
    refine r_bipush (v := 10) (q := 42) dX12_laysParts_40 (by decide) rfl ?_
    refine r_idiv (q := 43) dX12_laysParts_42 (by decide) rfl ?_
    refine r_istore_n (q := 44) (L' := [some (.inr 0), some (.inl (mm_b s.1)), some (.inl s.2.1), some (.inl (s.2.1 / 10)), none, none]) dX12_laysParts_43 (by decide) rfl rfl ?_
    refine r_iload_n (q := 45) dX12_laysParts_44 rfl rfl ?_
    refine r_bipush (v := 10) (q := 47) dX12_laysParts_45 (by decide) rfl ?_
    refine r_irem (q := 48) dX12_laysParts_47 (by decide) rfl ?_
    refine r_istore (q := 50) (L' := [some (.inr 0), some (.inl (mm_b s.1)), some (.inl s.2.1), some (.inl (s.2.1 / 10)), some (.inl (s.2.1 - s.2.1 / 10 * 10)), none]) dX12_laysParts_48 (by decide) rfl rfl ?_
    refine r_iconst (v := 0) (q := 51) dX12_laysParts_50 (by decide) rfl ?_
    refine r_istore (q := 53) (L' := [some (.inr 0), some (.inl (mm_b s.1)), some (.inl s.2.1), some (.inl (s.2.1 / 10)), some (.inl (s.2.1 - s.2.1 / 10 * 10)), some (.inl 0)]) dX12_laysParts_51 (by decide) rfl rfl ?_
    obtain ⟨y17, e18, h⟩ := Option.bind_eq_some_iff.mp h
    refine t_X12_laysParts_l53 hd s.2.1 (s.2.1 / 10) (s.2.1 - s.2.1 / 10 * 10) mm_fuel (s.1, 0, s.2.2) _ e18 ?_
    show mm_Go jX12_laysParts _ _ _ _ 121 [some (.inr 0), some (.inl (mm_b y17.1)), some (.inl s.2.1), none, none, none] [] S_m y17.2 _
    refine r_iinc (v := 1) (q := 124) (L' := [some (.inr 0), some (.inl (mm_b y17.1)), some (.inl (s.2.1 + 1)), none, none, none]) dX12_laysParts_121 (by decide) (by decide) rfl rfl rfl ?_
    refine r_goto 33 dX12_laysParts_124 (by decide) ?_
    cases h
    have hk := kb _ rfl
    exact hk
noncomputable def X12_laysParts_l25 (s : (Bool × mm_M)) : Option ((Bool × mm_M) ⊕ mm_M) := if s.1 = true then (mm_loop (X12_laysParts_l33) mm_fuel (false, 0, s.2)).bind fun y19 => some (.inl (y19.1, y19.2)) else some (.inr s.2)
set_option maxRecDepth 100000 in
set_option maxHeartbeats 400000 in
theorem t_X12_laysParts_l25 {D : mm_D} {d : Nat} (hd : 2 ≤ d) {Z : Option Int32 → List mm_C → mm_M → Prop} (n : Nat) (s : (Bool × mm_M)) (r : mm_M) (h : mm_loop (X12_laysParts_l25) n s = some r) (hx : Z none S_m r) : mm_Go jX12_laysParts D d 0 0 25 [some (.inr 0), some (.inl (mm_b s.1)), none, none, none, none] [] S_m s.2 Z := by
  refine mm_loop_go (step := X12_laysParts_l25) (Hd := fun (s : (Bool × mm_M)) => mm_Go jX12_laysParts D d 0 0 25 [some (.inr 0), some (.inl (mm_b s.1)), none, none, none, none] [] S_m s.2 Z) (Ex := fun (r : mm_M) => Z none S_m r) ?_ n s r h hx
  intro s o h kb ke
  show mm_Go jX12_laysParts D d 0 0 25 [some (.inr 0), some (.inl (mm_b s.1)), none, none, none, none] [] S_m s.2 Z
  unfold X12_laysParts_l25 at h
  refine r_iload_n (q := 26) dX12_laysParts_25 rfl rfl ?_
  refine r_if_eq 130 (q := 29) dX12_laysParts_26 (by decide) rfl (fun c5 => ?_) (fun c5 => ?_)
  · rw [if_neg (mm_b0 c5)] at h
    cases h
    have hk := ke _ rfl
    exact r_retv dX12_laysParts_130 rfl hk
  · rw [if_pos (mm_b1 c5)] at h
    refine r_iconst (v := 0) (q := 30) dX12_laysParts_29 (by decide) rfl ?_
    refine r_istore_n (q := 31) (L' := [some (.inr 0), some (.inl 0), none, none, none, none]) dX12_laysParts_30 (by decide) rfl rfl ?_
    refine r_iconst (v := 0) (q := 32) dX12_laysParts_31 (by decide) rfl ?_
    refine r_istore_n (q := 33) (L' := [some (.inr 0), some (.inl 0), some (.inl 0), none, none, none]) dX12_laysParts_32 (by decide) rfl rfl ?_
    obtain ⟨y19, e20, h⟩ := Option.bind_eq_some_iff.mp h
    refine t_X12_laysParts_l33 hd mm_fuel (false, 0, s.2) _ e20 ?_
    show mm_Go jX12_laysParts _ _ _ _ 127 [some (.inr 0), some (.inl (mm_b y19.1)), none, none, none, none] [] S_m y19.2 _
    refine r_goto 25 dX12_laysParts_127 (by decide) ?_
    cases h
    have hk := kb _ rfl
    exact hk
noncomputable def X12_laysParts (M : mm_M) : Option mm_M := (mm_loop (X12_laysParts_l2) mm_fuel (0, M)).bind fun y3 => (mm_loop (X12_laysParts_l25) mm_fuel (true, y3))
set_option maxRecDepth 100000 in
set_option maxHeartbeats 400000 in
theorem t_X12_laysParts {d : Nat} (hd : 2 ≤ d) (M : mm_M) (res : mm_M) (h : X12_laysParts M = some res) : mm_Meth jX12_laysParts d 0 0 [(.inr 0)] S_m M (mm_Zv S_m res) := by
  refine r_meth (L := [some (.inr 0), none, none, none, none, none]) rfl (fun D => ?_)
  unfold X12_laysParts at h
  refine r_iconst (v := 0) (q := 1) dX12_laysParts_0 (by decide) rfl ?_
  refine r_istore_n (q := 2) (L' := [some (.inr 0), some (.inl 0), none, none, none, none]) dX12_laysParts_1 (by decide) rfl rfl ?_
  obtain ⟨y3, e4, h⟩ := Option.bind_eq_some_iff.mp h
  refine t_X12_laysParts_l2 hd mm_fuel (0, M) _ e4 ?_
  show mm_Go jX12_laysParts _ _ _ _ 23 [some (.inr 0), none, none, none, none, none] [] S_m y3 _
  refine r_iconst (v := 1) (q := 24) dX12_laysParts_23 (by decide) rfl ?_
  refine r_istore_n (q := 25) (L' := [some (.inr 0), some (.inl 1), none, none, none, none]) dX12_laysParts_24 (by decide) rfl rfl ?_
  exact t_X12_laysParts_l25 hd mm_fuel (true, y3) _ h mm_Zv_rfl
noncomputable def X12_parts_l65 (x1 : Int32) (x2 : Int32) (x4 : Int32) (M : mm_M) (s : Int32) : Option (Int32 ⊕ (Int32 × mm_M)) := (X12_partsThen x1 x2 s M).bind fun y10 => if y10 = x4 then some (.inr (s, M)) else some (.inl (s + 1))
set_option maxRecDepth 100000 in
set_option maxHeartbeats 400000 in
theorem t_X12_parts_l65 {D : mm_D} {d : Nat} (hd : 3 ≤ d) {Z : Option Int32 → List mm_C → mm_M → Prop} (x1 : Int32) (x2 : Int32) (x4 : Int32) (M : mm_M) (n : Nat) (s : Int32) (r : (Int32 × mm_M)) (h : mm_loop (X12_parts_l65 x1 x2 x4 M) n s = some r) (hx : Z (some r.1) S_m r.2) : mm_Go jX12_parts D d 0 0 65 [some (.inr 0), some (.inl x1), some (.inl x2), none, some (.inl x4), some (.inl s)] [] S_m M Z := by
  refine mm_loop_go (step := X12_parts_l65 x1 x2 x4 M) (Hd := fun (s : Int32) => mm_Go jX12_parts D d 0 0 65 [some (.inr 0), some (.inl x1), some (.inl x2), none, some (.inl x4), some (.inl s)] [] S_m M Z) (Ex := fun (r : (Int32 × mm_M)) => Z (some r.1) S_m r.2) ?_ n s r h hx
  intro s o h kb ke
  show mm_Go jX12_parts D d 0 0 65 [some (.inr 0), some (.inl x1), some (.inl x2), none, some (.inl x4), some (.inl s)] [] S_m M Z
  unfold X12_parts_l65 at h
  refine r_aload_n (q := 66) dX12_parts_65 rfl rfl ?_
  refine r_iload_n (q := 67) dX12_parts_66 rfl rfl ?_
  refine r_iload_n (q := 68) dX12_parts_67 rfl rfl ?_
  refine r_iload (q := 70) dX12_parts_68 rfl rfl ?_
  obtain ⟨y10, e9, h⟩ := Option.bind_eq_some_iff.mp h
  refine r_callV_i (av := [(.inl x1), (.inl x2), (.inl s)]) (st := []) (q := 73) (d1 := 1) kc_X12_377 sc_m_0 dX12_parts_70 rfl rfl (Nat.le_of_ble_eq_true rfl) (Nat.le_of_ble_eq_true rfl) (by omega) rfl rfl (t_X12_partsThen (d := 1) (by omega) x1 x2 s M _ e9) ?_
  refine r_iload (q := 75) dX12_parts_73 rfl rfl ?_
  refine r_icmp_eq 87 (q := 78) dX12_parts_75 (by decide) rfl (fun c11 => ?_) (fun c11 => ?_)
  · rw [if_pos c11] at h
    refine r_iload (q := 89) dX12_parts_87 rfl rfl ?_
    cases h
    have hk := ke _ rfl
    exact r_ret dX12_parts_89 rfl hk
  · rw [if_neg c11] at h
    refine r_iload (q := 80) dX12_parts_78 rfl rfl ?_
    refine r_iconst (v := 1) (q := 81) dX12_parts_80 (by decide) rfl ?_
    refine r_iadd (q := 82) dX12_parts_81 rfl ?_
    refine r_istore (q := 84) (L' := [some (.inr 0), some (.inl x1), some (.inl x2), none, some (.inl x4), some (.inl (s + 1))]) dX12_parts_82 (by decide) rfl rfl ?_
    refine r_goto 65 dX12_parts_84 (by decide) ?_
    cases h
    have hk := kb _ rfl
    exact hk
noncomputable def X12_parts (x1 : Int32) (x2 : Int32) (x3 : Int32) (M : mm_M) : Option (Int32 × mm_M) := if (X12_isState x1 M) = true then if (X12_isState x2 M) = true then if (X12_in x3 0 1) = true then (X12_laysParts M).bind fun y5 => if mm_in (((10 : Int32) * x1) + x2) 100 = true then if (y5 30 (Int32.toNatClampNeg (((10 : Int32) * x1) + x2))) < 1000000 then if x3 = 0 then some ((y5 30 (Int32.toNatClampNeg (((10 : Int32) * x1) + x2))), y5) else (mm_loop (X12_parts_l65 x1 x2 (y5 30 (Int32.toNatClampNeg (((10 : Int32) * x1) + x2))) y5) mm_fuel 0) else some ((-2), y5) else none else some ((-1), M) else some ((-1), M) else some ((-1), M)
set_option maxRecDepth 100000 in
set_option maxHeartbeats 400000 in
theorem t_X12_parts {d : Nat} (hd : 3 ≤ d) (x1 : Int32) (x2 : Int32) (x3 : Int32) (M : mm_M) (res : (Int32 × mm_M)) (h : X12_parts x1 x2 x3 M = some res) : mm_Meth jX12_parts d 0 0 [(.inr 0), (.inl x1), (.inl x2), (.inl x3)] S_m M (mm_Zi res.1 S_m res.2) := by
  refine r_meth (L := [some (.inr 0), some (.inl x1), some (.inl x2), some (.inl x3), none, none]) rfl (fun D => ?_)
  unfold X12_parts at h
  refine r_aload_n (q := 1) dX12_parts_0 rfl rfl ?_
  refine r_iload_n (q := 2) dX12_parts_1 rfl rfl ?_
  refine r_callV_i (av := [(.inl x1)]) (st := []) (q := 5) (d1 := 1) kc_X12_131 sc_m_0 dX12_parts_2 rfl rfl (Nat.le_of_ble_eq_true rfl) (Nat.le_of_ble_eq_true rfl) (by omega) rfl rfl (t_X12_isState (d := 1) (by omega) x1 M _ rfl) ?_
  refine r_if_eq 25 (q := 8) dX12_parts_5 (by decide) rfl (fun c1 => ?_) (fun c1 => ?_)
  · rw [if_neg (mm_b0 c1)] at h
    refine r_iconst (v := (-1)) (q := 26) dX12_parts_25 (by decide) rfl ?_
    cases h
    exact r_ret dX12_parts_26 rfl mm_Zi_rfl
  · rw [if_pos (mm_b1 c1)] at h
    refine r_aload_n (q := 9) dX12_parts_8 rfl rfl ?_
    refine r_iload_n (q := 10) dX12_parts_9 rfl rfl ?_
    refine r_callV_i (av := [(.inl x2)]) (st := []) (q := 13) (d1 := 1) kc_X12_131 sc_m_0 dX12_parts_10 rfl rfl (Nat.le_of_ble_eq_true rfl) (Nat.le_of_ble_eq_true rfl) (by omega) rfl rfl (t_X12_isState (d := 1) (by omega) x2 M _ rfl) ?_
    refine r_if_eq 25 (q := 16) dX12_parts_13 (by decide) rfl (fun c2 => ?_) (fun c2 => ?_)
    · rw [if_neg (mm_b0 c2)] at h
      refine r_iconst (v := (-1)) (q := 26) dX12_parts_25 (by decide) rfl ?_
      cases h
      exact r_ret dX12_parts_26 rfl mm_Zi_rfl
    · rw [if_pos (mm_b1 c2)] at h
      refine r_iload_n (q := 17) dX12_parts_16 rfl rfl ?_
      refine r_iconst (v := 0) (q := 18) dX12_parts_17 (by decide) rfl ?_
      refine r_iconst (v := 1) (q := 19) dX12_parts_18 (by decide) rfl ?_
      refine r_callS_i (av := [(.inl x3), (.inl 0), (.inl 1)]) (st := []) (q := 22) (d1 := 0) kc_X12_127 dX12_parts_19 rfl rfl (Nat.le_of_ble_eq_true rfl) (Nat.le_of_ble_eq_true rfl) (by omega) rfl rfl (t_X12_in (d := 0) (by omega) x3 0 1 M _ rfl) ?_
      refine r_if_ne 27 (q := 25) dX12_parts_22 (by decide) rfl (fun c3 => ?_) (fun c3 => ?_)
      · rw [if_pos (mm_b1 c3)] at h
        refine r_aload_n (q := 28) dX12_parts_27 rfl rfl ?_
        obtain ⟨y5, e4, h⟩ := Option.bind_eq_some_iff.mp h
        refine r_callV_v (av := []) (st := []) (q := 31) (d1 := 2) kc_X12_380 sc_m_0 dX12_parts_28 rfl rfl (Nat.le_of_ble_eq_true rfl) (Nat.le_of_ble_eq_true rfl) (by omega) rfl rfl (t_X12_laysParts (d := 2) (by omega) M _ e4) ?_
        refine r_aload_n (q := 32) dX12_parts_31 rfl rfl ?_
        refine r_getr (b := 30) (q := 35) lk_X12_98 dX12_parts_32 sc_m_0 rfl rfl ?_
        refine r_bipush (v := 10) (q := 37) dX12_parts_35 (by decide) rfl ?_
        refine r_iload_n (q := 38) dX12_parts_37 rfl rfl ?_
        refine r_imul (q := 39) dX12_parts_38 rfl ?_
        refine r_iload_n (q := 40) dX12_parts_39 rfl rfl ?_
        refine r_iadd (q := 41) dX12_parts_40 rfl ?_
        obtain ⟨g6, h⟩ := mm_guard h
        refine r_iald (v := (y5 30 (Int32.toNatClampNeg (((10 : Int32) * x1) + x2)))) (q := 42) dX12_parts_41 sc_m_30 (mm_vp g6) rfl rfl ?_
        refine r_istore (q := 44) (L' := [some (.inr 0), some (.inl x1), some (.inl x2), some (.inl x3), some (.inl (y5 30 (Int32.toNatClampNeg (((10 : Int32) * x1) + x2)))), none]) dX12_parts_42 (by decide) rfl rfl ?_
        refine r_iload (q := 46) dX12_parts_44 rfl rfl ?_
        refine r_ldcw (v := 1000000) (q := 49) dX12_parts_46 ko_X12_372 rfl ?_
        refine r_icmp_lt 55 (q := 52) dX12_parts_49 (by decide) rfl (fun c7 => ?_) (fun c7 => ?_)
        · rw [if_pos c7] at h
          refine r_iload_n (q := 56) dX12_parts_55 rfl rfl ?_
          refine r_if_ne 62 (q := 59) dX12_parts_56 (by decide) rfl (fun c8 => ?_) (fun c8 => ?_)
          · rw [if_neg c8] at h
            refine r_iconst (v := 0) (q := 63) dX12_parts_62 (by decide) rfl ?_
            refine r_istore (q := 65) (L' := [some (.inr 0), some (.inl x1), some (.inl x2), some (.inl x3), some (.inl (y5 30 (Int32.toNatClampNeg (((10 : Int32) * x1) + x2)))), some (.inl 0)]) dX12_parts_63 (by decide) rfl rfl ?_
            refine r_forget (L' := [some (.inr 0), some (.inl x1), some (.inl x2), none, some (.inl (y5 30 (Int32.toNatClampNeg (((10 : Int32) * x1) + x2)))), some (.inl 0)]) [true, true, true, false, true, true] rfl ?_
            exact t_X12_parts_l65 hd x1 x2 (y5 30 (Int32.toNatClampNeg (((10 : Int32) * x1) + x2))) y5 mm_fuel 0 _ h mm_Zi_rfl
          · rw [if_pos c8] at h
            refine r_iload (q := 61) dX12_parts_59 rfl rfl ?_
            cases h
            exact r_ret dX12_parts_61 rfl mm_Zi_rfl
        · rw [if_neg c7] at h
          refine r_bipush (v := (-2)) (q := 54) dX12_parts_52 (by decide) rfl ?_
          cases h
          exact r_ret dX12_parts_54 rfl mm_Zi_rfl
      · rw [if_neg (mm_b0 c3)] at h
        refine r_iconst (v := (-1)) (q := 26) dX12_parts_25 (by decide) rfl ?_
        cases h
        exact r_ret dX12_parts_26 rfl mm_Zi_rfl
noncomputable def X12_classOf_l4 (x1 : Int32) (M : mm_M) (s : (Int32 × Int32)) : Option ((Int32 × Int32) ⊕ Int32) := if (M 0 6) ≤ s.2 then some (.inr s.1) else if mm_in (((10 : Int32) * x1) + s.2) 100 = true then if (M 30 (Int32.toNatClampNeg (((10 : Int32) * x1) + s.2))) < 1000000 then some (.inl (s.1, (s.2 + 1))) else some (.inl ((s.1 ||| ((1 : Int32) <<< (s.2 &&& 31))), (s.2 + 1))) else none
set_option maxRecDepth 100000 in
set_option maxHeartbeats 400000 in
theorem t_X12_classOf_l4 {D : mm_D} {d : Nat} (hd : 0 ≤ d) {Z : Option Int32 → List mm_C → mm_M → Prop} (x1 : Int32) (M : mm_M) (n : Nat) (s : (Int32 × Int32)) (r : Int32) (h : mm_loop (X12_classOf_l4 x1 M) n s = some r) (hx : Z (some r) S_m M) : mm_Go jX12_classOf D d 0 0 4 [some (.inr 0), some (.inl x1), some (.inl s.1), some (.inl s.2)] [] S_m M Z := by
  refine mm_loop_go (step := X12_classOf_l4 x1 M) (Hd := fun (s : (Int32 × Int32)) => mm_Go jX12_classOf D d 0 0 4 [some (.inr 0), some (.inl x1), some (.inl s.1), some (.inl s.2)] [] S_m M Z) (Ex := fun (r : Int32) => Z (some r) S_m M) ?_ n s r h hx
  intro s o h kb ke
  show mm_Go jX12_classOf D d 0 0 4 [some (.inr 0), some (.inl x1), some (.inl s.1), some (.inl s.2)] [] S_m M Z
  unfold X12_classOf_l4 at h
  refine r_iload_n (q := 5) dX12_classOf_4 rfl rfl ?_
  refine r_aload_n (q := 6) dX12_classOf_5 rfl rfl ?_
  refine r_geti (v := (M 0 6)) (q := 9) lk_X12_123 dX12_classOf_6 sc_m_0 rfl rfl rfl ?_
  refine r_icmp_ge 41 (q := 12) dX12_classOf_9 (by decide) rfl (fun c1 => ?_) (fun c1 => ?_)
  · rw [if_pos c1] at h
    refine r_iload_n (q := 42) dX12_classOf_41 rfl rfl ?_
    cases h
    have hk := ke _ rfl
    exact r_ret dX12_classOf_42 rfl hk
  · rw [if_neg c1] at h
    refine r_aload_n (q := 13) dX12_classOf_12 rfl rfl ?_
    refine r_getr (b := 30) (q := 16) lk_X12_98 dX12_classOf_13 sc_m_0 rfl rfl ?_
    refine r_bipush (v := 10) (q := 18) dX12_classOf_16 (by decide) rfl ?_
    refine r_iload_n (q := 19) dX12_classOf_18 rfl rfl ?_
    refine r_imul (q := 20) dX12_classOf_19 rfl ?_
    refine r_iload_n (q := 21) dX12_classOf_20 rfl rfl ?_
    refine r_iadd (q := 22) dX12_classOf_21 rfl ?_
    obtain ⟨g2, h⟩ := mm_guard h
    refine r_iald (v := (M 30 (Int32.toNatClampNeg (((10 : Int32) * x1) + s.2)))) (q := 23) dX12_classOf_22 sc_m_30 (mm_vp g2) rfl rfl ?_
    refine r_ldcw (v := 1000000) (q := 26) dX12_classOf_23 ko_X12_372 rfl ?_
    refine r_icmp_lt 35 (q := 29) dX12_classOf_26 (by decide) rfl (fun c3 => ?_) (fun c3 => ?_)
    · rw [if_pos c3] at h
      refine r_iinc (v := 1) (q := 38) (L' := [some (.inr 0), some (.inl x1), some (.inl s.1), some (.inl (s.2 + 1))]) dX12_classOf_35 (by decide) (by decide) rfl rfl rfl ?_
      refine r_goto 4 dX12_classOf_38 (by decide) ?_
      cases h
      have hk := kb _ rfl
      exact hk
    · rw [if_neg c3] at h
      refine r_iload_n (q := 30) dX12_classOf_29 rfl rfl ?_
      refine r_iconst (v := 1) (q := 31) dX12_classOf_30 (by decide) rfl ?_
      refine r_iload_n (q := 32) dX12_classOf_31 rfl rfl ?_
      refine r_ishl (q := 33) dX12_classOf_32 rfl ?_
      refine r_ior (q := 34) dX12_classOf_33 rfl ?_
      refine r_istore_n (q := 35) (L' := [some (.inr 0), some (.inl x1), some (.inl (s.1 ||| ((1 : Int32) <<< (s.2 &&& 31)))), some (.inl s.2)]) dX12_classOf_34 (by decide) rfl rfl ?_
      refine r_iinc (v := 1) (q := 38) (L' := [some (.inr 0), some (.inl x1), some (.inl (s.1 ||| ((1 : Int32) <<< (s.2 &&& 31)))), some (.inl (s.2 + 1))]) dX12_classOf_35 (by decide) (by decide) rfl rfl rfl ?_
      refine r_goto 4 dX12_classOf_38 (by decide) ?_
      cases h
      have hk := kb _ rfl
      exact hk
noncomputable def X12_classOf (x1 : Int32) (M : mm_M) : Option Int32 := (mm_loop (X12_classOf_l4 x1 M) mm_fuel (0, 0))
set_option maxRecDepth 100000 in
set_option maxHeartbeats 400000 in
theorem t_X12_classOf {d : Nat} (hd : 0 ≤ d) (x1 : Int32) (M : mm_M) (res : Int32) (h : X12_classOf x1 M = some res) : mm_Meth jX12_classOf d 0 0 [(.inr 0), (.inl x1)] S_m M (mm_Zi res S_m M) := by
  refine r_meth (L := [some (.inr 0), some (.inl x1), none, none]) rfl (fun D => ?_)
  unfold X12_classOf at h
  refine r_iconst (v := 0) (q := 1) dX12_classOf_0 (by decide) rfl ?_
  refine r_istore_n (q := 2) (L' := [some (.inr 0), some (.inl x1), some (.inl 0), none]) dX12_classOf_1 (by decide) rfl rfl ?_
  refine r_iconst (v := 0) (q := 3) dX12_classOf_2 (by decide) rfl ?_
  refine r_istore_n (q := 4) (L' := [some (.inr 0), some (.inl x1), some (.inl 0), some (.inl 0)]) dX12_classOf_3 (by decide) rfl rfl ?_
  exact t_X12_classOf_l4 hd x1 M mm_fuel (0, 0) _ h mm_Zi_rfl
noncomputable def X12_lowest_l2 (x0 : Int32) (s : Int32) : Option (Int32 ⊕ Int32) := if (X12_has x0 s) = true then some (.inr s) else some (.inl (s + 1))
set_option maxRecDepth 100000 in
set_option maxHeartbeats 400000 in
theorem t_X12_lowest_l2 {D : mm_D} {d : Nat} (hd : 1 ≤ d) {Z : Option Int32 → List mm_C → mm_M → Prop} (x0 : Int32) (M : mm_M) (n : Nat) (s : Int32) (r : Int32) (h : mm_loop (X12_lowest_l2 x0) n s = some r) (hx : Z (some r) S_m M) : mm_Go jX12_lowest D d 0 0 2 [some (.inl x0), some (.inl s)] [] S_m M Z := by
  refine mm_loop_go (step := X12_lowest_l2 x0) (Hd := fun (s : Int32) => mm_Go jX12_lowest D d 0 0 2 [some (.inl x0), some (.inl s)] [] S_m M Z) (Ex := fun (r : Int32) => Z (some r) S_m M) ?_ n s r h hx
  intro s o h kb ke
  show mm_Go jX12_lowest D d 0 0 2 [some (.inl x0), some (.inl s)] [] S_m M Z
  unfold X12_lowest_l2 at h
  refine r_iload_n (q := 3) dX12_lowest_2 rfl rfl ?_
  refine r_iload_n (q := 4) dX12_lowest_3 rfl rfl ?_
  refine r_callS_i (av := [(.inl x0), (.inl s)]) (st := []) (q := 7) (d1 := 0) kc_X12_119 dX12_lowest_4 rfl rfl (Nat.le_of_ble_eq_true rfl) (Nat.le_of_ble_eq_true rfl) (by omega) rfl rfl (t_X12_has (d := 0) (by omega) x0 s M _ rfl) ?_
  refine r_if_ne 17 (q := 10) dX12_lowest_7 (by decide) rfl (fun c1 => ?_) (fun c1 => ?_)
  · rw [if_pos (mm_b1 c1)] at h
    refine r_iload_n (q := 18) dX12_lowest_17 rfl rfl ?_
    cases h
    have hk := ke _ rfl
    exact r_ret dX12_lowest_18 rfl hk
  · rw [if_neg (mm_b0 c1)] at h
    refine r_iload_n (q := 11) dX12_lowest_10 rfl rfl ?_
    refine r_iconst (v := 1) (q := 12) dX12_lowest_11 (by decide) rfl ?_
    refine r_iadd (q := 13) dX12_lowest_12 rfl ?_
    refine r_istore_n (q := 14) (L' := [some (.inl x0), some (.inl (s + 1))]) dX12_lowest_13 (by decide) rfl rfl ?_
    refine r_goto 2 dX12_lowest_14 (by decide) ?_
    cases h
    have hk := kb _ rfl
    exact hk
noncomputable def X12_lowest (x0 : Int32) : Option Int32 := (mm_loop (X12_lowest_l2 x0) mm_fuel 0)
set_option maxRecDepth 100000 in
set_option maxHeartbeats 400000 in
theorem t_X12_lowest {d : Nat} (hd : 1 ≤ d) (x0 : Int32) (M : mm_M) (res : Int32) (h : X12_lowest x0 = some res) : mm_Meth jX12_lowest d 0 0 [(.inl x0)] S_m M (mm_Zi res S_m M) := by
  refine r_meth (L := [some (.inl x0), none]) rfl (fun D => ?_)
  unfold X12_lowest at h
  refine r_iconst (v := 0) (q := 1) dX12_lowest_0 (by decide) rfl ?_
  refine r_istore_n (q := 2) (L' := [some (.inl x0), some (.inl 0)]) dX12_lowest_1 (by decide) rfl rfl ?_
  exact t_X12_lowest_l2 hd x0 M mm_fuel 0 _ h mm_Zi_rfl
noncomputable def X12_classes_l43 (M : mm_M) (s : (Int32 × Int32)) : Option ((Int32 × Int32) ⊕ (Int32 × mm_M)) := if (M 0 6) ≤ s.2 then some (.inr (s.1, M)) else (X12_classOf s.2 M).bind fun y8 => (X12_lowest y8).bind fun y10 => if y10 = s.2 then some (.inl ((s.1 + 1), (s.2 + 1))) else some (.inl (s.1, (s.2 + 1)))
set_option maxRecDepth 100000 in
set_option maxHeartbeats 400000 in
theorem t_X12_classes_l43 {D : mm_D} {d : Nat} (hd : 3 ≤ d) {Z : Option Int32 → List mm_C → mm_M → Prop} (M : mm_M) (n : Nat) (s : (Int32 × Int32)) (r : (Int32 × mm_M)) (h : mm_loop (X12_classes_l43 M) n s = some r) (hx : Z (some r.1) S_m r.2) : mm_Go jX12_classes D d 0 0 43 [some (.inr 0), none, some (.inl s.1), some (.inl s.2)] [] S_m M Z := by
  refine mm_loop_go (step := X12_classes_l43 M) (Hd := fun (s : (Int32 × Int32)) => mm_Go jX12_classes D d 0 0 43 [some (.inr 0), none, some (.inl s.1), some (.inl s.2)] [] S_m M Z) (Ex := fun (r : (Int32 × mm_M)) => Z (some r.1) S_m r.2) ?_ n s r h hx
  intro s o h kb ke
  show mm_Go jX12_classes D d 0 0 43 [some (.inr 0), none, some (.inl s.1), some (.inl s.2)] [] S_m M Z
  unfold X12_classes_l43 at h
  refine r_iload_n (q := 44) dX12_classes_43 rfl rfl ?_
  refine r_aload_n (q := 45) dX12_classes_44 rfl rfl ?_
  refine r_geti (v := (M 0 6)) (q := 48) lk_X12_123 dX12_classes_45 sc_m_0 rfl rfl rfl ?_
  refine r_icmp_ge 73 (q := 51) dX12_classes_48 (by decide) rfl (fun c6 => ?_) (fun c6 => ?_)
  · rw [if_pos c6] at h
    refine r_iload_n (q := 74) dX12_classes_73 rfl rfl ?_
    cases h
    have hk := ke _ rfl
    exact r_ret dX12_classes_74 rfl hk
  · rw [if_neg c6] at h
    refine r_aload_n (q := 52) dX12_classes_51 rfl rfl ?_
    refine r_iload_n (q := 53) dX12_classes_52 rfl rfl ?_
    obtain ⟨y8, e7, h⟩ := Option.bind_eq_some_iff.mp h
    refine r_callV_i (av := [(.inl s.2)]) (st := []) (q := 56) (d1 := 0) kc_X12_383 sc_m_0 dX12_classes_53 rfl rfl (Nat.le_of_ble_eq_true rfl) (Nat.le_of_ble_eq_true rfl) (by omega) rfl rfl (t_X12_classOf (d := 0) (by omega) s.2 M _ e7) ?_
    obtain ⟨y10, e9, h⟩ := Option.bind_eq_some_iff.mp h
    refine r_callS_i (av := [(.inl y8)]) (st := []) (q := 59) (d1 := 1) kc_X12_386 dX12_classes_56 rfl rfl (Nat.le_of_ble_eq_true rfl) (Nat.le_of_ble_eq_true rfl) (by omega) rfl rfl (t_X12_lowest (d := 1) (by omega) y8 M _ e9) ?_
    refine r_iload_n (q := 60) dX12_classes_59 rfl rfl ?_
    refine r_icmp_ne 67 (q := 63) dX12_classes_60 (by decide) rfl (fun c11 => ?_) (fun c11 => ?_)
    · rw [if_neg c11] at h
      refine r_iinc (v := 1) (q := 70) (L' := [some (.inr 0), none, some (.inl s.1), some (.inl (s.2 + 1))]) dX12_classes_67 (by decide) (by decide) rfl rfl rfl ?_
      refine r_goto 43 dX12_classes_70 (by decide) ?_
      cases h
      have hk := kb _ rfl
      exact hk
    · rw [if_pos c11] at h
      refine r_iload_n (q := 64) dX12_classes_63 rfl rfl ?_
      refine r_iconst (v := 1) (q := 65) dX12_classes_64 (by decide) rfl ?_
      refine r_iadd (q := 66) dX12_classes_65 rfl ?_
      refine r_istore_n (q := 67) (L' := [some (.inr 0), none, some (.inl (s.1 + 1)), some (.inl s.2)]) dX12_classes_66 (by decide) rfl rfl ?_
      refine r_iinc (v := 1) (q := 70) (L' := [some (.inr 0), none, some (.inl (s.1 + 1)), some (.inl (s.2 + 1))]) dX12_classes_67 (by decide) (by decide) rfl rfl rfl ?_
      refine r_goto 43 dX12_classes_70 (by decide) ?_
      cases h
      have hk := kb _ rfl
      exact hk
noncomputable def X12_classes_j23 (x1 : Int32) (M : mm_M) : Option (Int32 × mm_M) := (X12_laysParts M).bind fun y4 => if x1 = 100 then (mm_loop (X12_classes_l43 y4) mm_fuel (0, 0)) else (X12_classOf x1 y4).bind fun y15 => some (y15, y4)
set_option maxRecDepth 100000 in
set_option maxHeartbeats 400000 in
theorem t_X12_classes_j23 {D : mm_D} {d : Nat} (hd : 3 ≤ d) (x1 : Int32) (M : mm_M) (res : (Int32 × mm_M)) (h : X12_classes_j23 x1 M = some res) : mm_Go jX12_classes D d 0 0 23 [some (.inr 0), some (.inl x1), none, none] [] S_m M (mm_Zi res.1 S_m res.2) := by
  unfold X12_classes_j23 at h
  refine r_aload_n (q := 24) dX12_classes_23 rfl rfl ?_
  obtain ⟨y4, e3, h⟩ := Option.bind_eq_some_iff.mp h
  refine r_callV_v (av := []) (st := []) (q := 27) (d1 := 2) kc_X12_380 sc_m_0 dX12_classes_24 rfl rfl (Nat.le_of_ble_eq_true rfl) (Nat.le_of_ble_eq_true rfl) (by omega) rfl rfl (t_X12_laysParts (d := 2) (by omega) M _ e3) ?_
  refine r_iload_n (q := 28) dX12_classes_27 rfl rfl ?_
  refine r_bipush (v := 100) (q := 30) dX12_classes_28 (by decide) rfl ?_
  refine r_icmp_eq 39 (q := 33) dX12_classes_30 (by decide) rfl (fun c5 => ?_) (fun c5 => ?_)
  · rw [if_pos c5] at h
    refine r_iconst (v := 0) (q := 40) dX12_classes_39 (by decide) rfl ?_
    refine r_istore_n (q := 41) (L' := [some (.inr 0), some (.inl x1), some (.inl 0), none]) dX12_classes_40 (by decide) rfl rfl ?_
    refine r_iconst (v := 0) (q := 42) dX12_classes_41 (by decide) rfl ?_
    refine r_istore_n (q := 43) (L' := [some (.inr 0), some (.inl x1), some (.inl 0), some (.inl 0)]) dX12_classes_42 (by decide) rfl rfl ?_
    refine r_forget (L' := [some (.inr 0), none, some (.inl 0), some (.inl 0)]) [true, false, true, true] rfl ?_
    exact t_X12_classes_l43 hd y4 mm_fuel (0, 0) _ h mm_Zi_rfl
  · rw [if_neg c5] at h
    refine r_aload_n (q := 34) dX12_classes_33 rfl rfl ?_
    refine r_iload_n (q := 35) dX12_classes_34 rfl rfl ?_
    obtain ⟨y15, e14, h⟩ := Option.bind_eq_some_iff.mp h
    refine r_callV_i (av := [(.inl x1)]) (st := []) (q := 38) (d1 := 0) kc_X12_383 sc_m_0 dX12_classes_35 rfl rfl (Nat.le_of_ble_eq_true rfl) (Nat.le_of_ble_eq_true rfl) (by omega) rfl rfl (t_X12_classOf (d := 0) (by omega) x1 y4 _ e14) ?_
    cases h
    exact r_ret dX12_classes_38 rfl mm_Zi_rfl
noncomputable def X12_classes (x1 : Int32) (M : mm_M) : Option (Int32 × mm_M) := if (M 0 6) = 0 then some ((-1), M) else if x1 = 100 then X12_classes_j23 x1 M else if (X12_isState x1 M) = true then X12_classes_j23 x1 M else some ((-1), M)
set_option maxRecDepth 100000 in
set_option maxHeartbeats 400000 in
theorem t_X12_classes {d : Nat} (hd : 3 ≤ d) (x1 : Int32) (M : mm_M) (res : (Int32 × mm_M)) (h : X12_classes x1 M = some res) : mm_Meth jX12_classes d 0 0 [(.inr 0), (.inl x1)] S_m M (mm_Zi res.1 S_m res.2) := by
  refine r_meth (L := [some (.inr 0), some (.inl x1), none, none]) rfl (fun D => ?_)
  unfold X12_classes at h
  refine r_aload_n (q := 1) dX12_classes_0 rfl rfl ?_
  refine r_geti (v := (M 0 6)) (q := 4) lk_X12_123 dX12_classes_1 sc_m_0 rfl rfl rfl ?_
  refine r_if_eq 21 (q := 7) dX12_classes_4 (by decide) rfl (fun c1 => ?_) (fun c1 => ?_)
  · rw [if_pos c1] at h
    refine r_iconst (v := (-1)) (q := 22) dX12_classes_21 (by decide) rfl ?_
    cases h
    exact r_ret dX12_classes_22 rfl mm_Zi_rfl
  · rw [if_neg c1] at h
    refine r_iload_n (q := 8) dX12_classes_7 rfl rfl ?_
    refine r_bipush (v := 100) (q := 10) dX12_classes_8 (by decide) rfl ?_
    refine r_icmp_eq 23 (q := 13) dX12_classes_10 (by decide) rfl (fun c2 => ?_) (fun c2 => ?_)
    · rw [if_pos c2] at h
      exact t_X12_classes_j23 hd x1 M _ h
    · rw [if_neg c2] at h
      refine r_aload_n (q := 14) dX12_classes_13 rfl rfl ?_
      refine r_iload_n (q := 15) dX12_classes_14 rfl rfl ?_
      refine r_callV_i (av := [(.inl x1)]) (st := []) (q := 18) (d1 := 1) kc_X12_131 sc_m_0 dX12_classes_15 rfl rfl (Nat.le_of_ble_eq_true rfl) (Nat.le_of_ble_eq_true rfl) (by omega) rfl rfl (t_X12_isState (d := 1) (by omega) x1 M _ rfl) ?_
      refine r_if_ne 23 (q := 21) dX12_classes_18 (by decide) rfl (fun c16 => ?_) (fun c16 => ?_)
      · rw [if_pos (mm_b1 c16)] at h
        exact t_X12_classes_j23 hd x1 M _ h
      · rw [if_neg (mm_b0 c16)] at h
        refine r_iconst (v := (-1)) (q := 22) dX12_classes_21 (by decide) rfl ?_
        cases h
        exact r_ret dX12_classes_22 rfl mm_Zi_rfl
noncomputable def X12_bits_l4 (x0 : Int32) (s : (Int32 × Int32)) : Option ((Int32 × Int32) ⊕ Int32) := if 10 ≤ s.2 then some (.inr s.1) else some (.inl ((s.1 + ((x0 >>> (s.2 &&& 31)) &&& 1)), (s.2 + 1)))
set_option maxRecDepth 100000 in
set_option maxHeartbeats 400000 in
theorem t_X12_bits_l4 {D : mm_D} {d : Nat} (hd : 0 ≤ d) {Z : Option Int32 → List mm_C → mm_M → Prop} (x0 : Int32) (M : mm_M) (n : Nat) (s : (Int32 × Int32)) (r : Int32) (h : mm_loop (X12_bits_l4 x0) n s = some r) (hx : Z (some r) S_m M) : mm_Go jX12_bits D d 0 0 4 [some (.inl x0), some (.inl s.1), some (.inl s.2)] [] S_m M Z := by
  refine mm_loop_go (step := X12_bits_l4 x0) (Hd := fun (s : (Int32 × Int32)) => mm_Go jX12_bits D d 0 0 4 [some (.inl x0), some (.inl s.1), some (.inl s.2)] [] S_m M Z) (Ex := fun (r : Int32) => Z (some r) S_m M) ?_ n s r h hx
  intro s o h kb ke
  show mm_Go jX12_bits D d 0 0 4 [some (.inl x0), some (.inl s.1), some (.inl s.2)] [] S_m M Z
  unfold X12_bits_l4 at h
  refine r_iload_n (q := 5) dX12_bits_4 rfl rfl ?_
  refine r_bipush (v := 10) (q := 7) dX12_bits_5 (by decide) rfl ?_
  refine r_icmp_ge 24 (q := 10) dX12_bits_7 (by decide) rfl (fun c1 => ?_) (fun c1 => ?_)
  · rw [if_pos c1] at h
    refine r_iload_n (q := 25) dX12_bits_24 rfl rfl ?_
    cases h
    have hk := ke _ rfl
    exact r_ret dX12_bits_25 rfl hk
  · rw [if_neg c1] at h
    refine r_iload_n (q := 11) dX12_bits_10 rfl rfl ?_
    refine r_iload_n (q := 12) dX12_bits_11 rfl rfl ?_
    refine r_iload_n (q := 13) dX12_bits_12 rfl rfl ?_
    refine r_ishr (q := 14) dX12_bits_13 rfl ?_
    refine r_iconst (v := 1) (q := 15) dX12_bits_14 (by decide) rfl ?_
    refine r_iand (q := 16) dX12_bits_15 rfl ?_
    refine r_iadd (q := 17) dX12_bits_16 rfl ?_
    refine r_istore_n (q := 18) (L' := [some (.inl x0), some (.inl (s.1 + ((x0 >>> (s.2 &&& 31)) &&& 1))), some (.inl s.2)]) dX12_bits_17 (by decide) rfl rfl ?_
    refine r_iinc (v := 1) (q := 21) (L' := [some (.inl x0), some (.inl (s.1 + ((x0 >>> (s.2 &&& 31)) &&& 1))), some (.inl (s.2 + 1))]) dX12_bits_18 (by decide) (by decide) rfl rfl rfl ?_
    refine r_goto 4 dX12_bits_21 (by decide) ?_
    cases h
    have hk := kb _ rfl
    exact hk
noncomputable def X12_bits (x0 : Int32) : Option Int32 := (mm_loop (X12_bits_l4 x0) mm_fuel (0, 0))
set_option maxRecDepth 100000 in
set_option maxHeartbeats 400000 in
theorem t_X12_bits {d : Nat} (hd : 0 ≤ d) (x0 : Int32) (M : mm_M) (res : Int32) (h : X12_bits x0 = some res) : mm_Meth jX12_bits d 0 0 [(.inl x0)] S_m M (mm_Zi res S_m M) := by
  refine r_meth (L := [some (.inl x0), none, none]) rfl (fun D => ?_)
  unfold X12_bits at h
  refine r_iconst (v := 0) (q := 1) dX12_bits_0 (by decide) rfl ?_
  refine r_istore_n (q := 2) (L' := [some (.inl x0), some (.inl 0), none]) dX12_bits_1 (by decide) rfl rfl ?_
  refine r_iconst (v := 0) (q := 3) dX12_bits_2 (by decide) rfl ?_
  refine r_istore_n (q := 4) (L' := [some (.inl x0), some (.inl 0), some (.inl 0)]) dX12_bits_3 (by decide) rfl rfl ?_
  exact t_X12_bits_l4 hd x0 M mm_fuel (0, 0) _ h mm_Zi_rfl
