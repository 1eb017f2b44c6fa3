noncomputable def X12_endsPiece_l0 (s : mm_M) : Option (mm_M ⊕ mm_M) := (X12_waitTop s).bind fun y2 => if y2 = 10 then (X12_notes 10 0 s).bind fun y5 => some (.inl (mm_U (mm_U y5 0 15 ((y5 0 15) - 1)) 0 13 ((y5 0 13) - 1))) else some (.inr s)
set_option maxRecDepth 100000 in
set_option maxHeartbeats 400000 in
theorem t_X12_endsPiece_l0 {D : mm_D} {d : Nat} (hd : 1 ≤ d) {Z : Option Int32 → List mm_C → mm_M → Prop} (n : Nat) (s : mm_M) (r : mm_M) (h : mm_loop (X12_endsPiece_l0) n s = some r) (hx : Z none S_m r) : mm_Go jX12_endsPiece D d 0 0 0 [some (.inr 0)] [] S_m s Z := by
  refine mm_loop_go (step := X12_endsPiece_l0) (Hd := fun (s : mm_M) => mm_Go jX12_endsPiece D d 0 0 0 [some (.inr 0)] [] S_m s Z) (Ex := fun (r : mm_M) => Z none S_m r) ?_ n s r h hx
  intro s o h kb ke
  show mm_Go jX12_endsPiece D d 0 0 0 [some (.inr 0)] [] S_m s Z
  unfold X12_endsPiece_l0 at h
  refine r_aload_n (q := 1) dX12_endsPiece_0 rfl rfl ?_
  obtain ⟨y2, e1, h⟩ := Option.bind_eq_some_iff.mp h
  refine r_callV_i (av := []) (st := []) (q := 4) (d1 := 0) kc_X12_178 sc_m_0 dX12_endsPiece_1 rfl rfl (Nat.le_of_ble_eq_true rfl) (Nat.le_of_ble_eq_true rfl) (by omega) rfl rfl (t_X12_waitTop (d := 0) (by omega) s _ e1) ?_
  refine r_bipush (v := 10) (q := 6) dX12_endsPiece_4 (by decide) rfl ?_
  refine r_icmp_ne 39 (q := 9) dX12_endsPiece_6 (by decide) rfl (fun c3 => ?_) (fun c3 => ?_)
  · rw [if_neg c3] at h
    cases h
    have hk := ke _ rfl
    exact r_retv dX12_endsPiece_39 rfl hk
  · rw [if_pos c3] at h
    refine r_aload_n (q := 10) dX12_endsPiece_9 rfl rfl ?_
    refine r_bipush (v := 10) (q := 12) dX12_endsPiece_10 (by decide) rfl ?_
    refine r_iconst (v := 0) (q := 13) dX12_endsPiece_12 (by decide) rfl ?_
    obtain ⟨y5, e4, h⟩ := Option.bind_eq_some_iff.mp h
    refine r_callV_v (av := [(.inl 10), (.inl 0)]) (st := []) (q := 16) (d1 := 0) kc_X12_181 sc_m_0 dX12_endsPiece_13 rfl rfl (Nat.le_of_ble_eq_true rfl) (Nat.le_of_ble_eq_true rfl) (by omega) rfl rfl (t_X12_notes (d := 0) (by omega) 10 0 s _ e4) ?_
    refine r_aload_n (q := 17) dX12_endsPiece_16 rfl rfl ?_
    refine r_aload_n (q := 18) dX12_endsPiece_17 rfl rfl ?_
    refine r_geti (v := (y5 0 15)) (q := 21) lk_X12_175 dX12_endsPiece_18 sc_m_0 rfl rfl rfl ?_
    refine r_iconst (v := 1) (q := 22) dX12_endsPiece_21 (by decide) rfl ?_
    refine r_isub (q := 23) dX12_endsPiece_22 rfl ?_
    refine r_puti (q := 26) lk_X12_175 ft_9_15 dX12_endsPiece_23 sc_m_0 rfl rfl ?_
    refine r_aload_n (q := 27) dX12_endsPiece_26 rfl rfl ?_
    refine r_aload_n (q := 28) dX12_endsPiece_27 rfl rfl ?_
    refine r_geti (v := (y5 0 13)) (q := 31) lk_X12_172 dX12_endsPiece_28 sc_m_0 rfl rfl rfl ?_
    refine r_iconst (v := 1) (q := 32) dX12_endsPiece_31 (by decide) rfl ?_
    refine r_isub (q := 33) dX12_endsPiece_32 rfl ?_
    refine r_puti (q := 36) lk_X12_172 ft_9_13 dX12_endsPiece_33 sc_m_0 rfl rfl ?_
    refine r_goto 0 dX12_endsPiece_36 (by decide) ?_
    cases h
    have hk := kb _ rfl
    exact hk
noncomputable def X12_endsPiece (M : mm_M) : Option mm_M := (mm_loop (X12_endsPiece_l0) mm_fuel M)
set_option maxRecDepth 100000 in
set_option maxHeartbeats 400000 in
theorem t_X12_endsPiece {d : Nat} (hd : 1 ≤ d) (M : mm_M) (res : mm_M) (h : X12_endsPiece M = some res) : mm_Meth jX12_endsPiece d 0 0 [(.inr 0)] S_m M (mm_Zv S_m res) := by
  refine r_meth (L := [some (.inr 0)]) rfl (fun D => ?_)
  unfold X12_endsPiece at h
  exact t_X12_endsPiece_l0 hd mm_fuel M _ h mm_Zv_rfl
noncomputable def X12_readsCompared_j52 (z0 : Int32) (M : mm_M) : Option (Bool × mm_M) := if z0 = (-1) then mm_let (X12_wrongAt 1 (M 0 9) M) fun y9 => some (y9.1, y9.2) else (X12_readsSum (mm_U M 0 9 ((M 0 9) + 1))).bind fun y11 => if y11.1 = true then (X12_notes z0 0 y11.2).bind fun y14 => (X12_endsPiece y14).bind fun y16 => some (true, y16) else some (false, y11.2)
set_option maxRecDepth 100000 in
set_option maxHeartbeats 400000 in
theorem t_X12_readsCompared_j52 {D : mm_D} {d : Nat} (hd : 5 ≤ d) (z0 : Int32) (M : mm_M) (res : (Bool × mm_M)) (h : X12_readsCompared_j52 z0 M = some res) : mm_Go jX12_readsCompared D d 0 0 52 [some (.inr 0), none] [(.inl z0)] S_m M (mm_Zi (mm_b res.1) S_m res.2) := by
  unfold X12_readsCompared_j52 at h
  refine r_istore_n (q := 53) (L' := [some (.inr 0), some (.inl z0)]) dX12_readsCompared_52 (by decide) rfl rfl ?_
  refine r_iload_n (q := 54) dX12_readsCompared_53 rfl rfl ?_
  refine r_iconst (v := (-1)) (q := 55) dX12_readsCompared_54 (by decide) rfl ?_
  refine r_icmp_ne 68 (q := 58) dX12_readsCompared_55 (by decide) rfl (fun c7 => ?_) (fun c7 => ?_)
  · rw [if_neg c7] at h
    refine r_aload_n (q := 69) dX12_readsCompared_68 rfl rfl ?_
    refine r_aload_n (q := 70) dX12_readsCompared_69 rfl rfl ?_
    refine r_geti (v := (M 0 9)) (q := 73) lk_X12_145 dX12_readsCompared_70 sc_m_0 rfl rfl rfl ?_
    refine r_iconst (v := 1) (q := 74) dX12_readsCompared_73 (by decide) rfl ?_
    refine r_iadd (q := 75) dX12_readsCompared_74 rfl ?_
    refine r_puti (q := 78) lk_X12_145 ft_9_9 dX12_readsCompared_75 sc_m_0 rfl rfl ?_
    refine r_aload_n (q := 79) dX12_readsCompared_78 rfl rfl ?_
    obtain ⟨y11, e10, h⟩ := Option.bind_eq_some_iff.mp h
    refine r_callV_i (av := []) (st := []) (q := 82) (d1 := 4) kc_X12_208 sc_m_0 dX12_readsCompared_79 rfl rfl (Nat.le_of_ble_eq_true rfl) (Nat.le_of_ble_eq_true rfl) (by omega) rfl rfl (t_X12_readsSum (d := 4) (by omega) (mm_U M 0 9 ((M 0 9) + 1)) _ e10) ?_
    refine r_if_ne 87 (q := 85) dX12_readsCompared_82 (by decide) rfl (fun c12 => ?_) (fun c12 => ?_)
    · rw [if_pos (mm_b1 c12)] at h
      refine r_aload_n (q := 88) dX12_readsCompared_87 rfl rfl ?_
      refine r_iload_n (q := 89) dX12_readsCompared_88 rfl rfl ?_
      refine r_iconst (v := 0) (q := 90) dX12_readsCompared_89 (by decide) rfl ?_
      obtain ⟨y14, e13, h⟩ := Option.bind_eq_some_iff.mp h
      refine r_callV_v (av := [(.inl z0), (.inl 0)]) (st := []) (q := 93) (d1 := 0) kc_X12_181 sc_m_0 dX12_readsCompared_90 rfl rfl (Nat.le_of_ble_eq_true rfl) (Nat.le_of_ble_eq_true rfl) (by omega) rfl rfl (t_X12_notes (d := 0) (by omega) z0 0 y11.2 _ e13) ?_
      refine r_aload_n (q := 94) dX12_readsCompared_93 rfl rfl ?_
      obtain ⟨y16, e15, h⟩ := Option.bind_eq_some_iff.mp h
      refine r_callV_v (av := []) (st := []) (q := 97) (d1 := 1) kc_X12_211 sc_m_0 dX12_readsCompared_94 rfl rfl (Nat.le_of_ble_eq_true rfl) (Nat.le_of_ble_eq_true rfl) (by omega) rfl rfl (t_X12_endsPiece (d := 1) (by omega) y14 _ e15) ?_
      refine r_iconst (v := 1) (q := 98) dX12_readsCompared_97 (by decide) rfl ?_
      cases h
      exact r_retb dX12_readsCompared_98 rfl (Or.inr rfl) mm_Zi_rfl
    · rw [if_neg (mm_b0 c12)] at h
      refine r_iconst (v := 0) (q := 86) dX12_readsCompared_85 (by decide) rfl ?_
      cases h
      exact r_retb dX12_readsCompared_86 rfl (Or.inl rfl) mm_Zi_rfl
  · rw [if_pos c7] at h
    refine r_aload_n (q := 59) dX12_readsCompared_58 rfl rfl ?_
    refine r_iconst (v := 1) (q := 60) dX12_readsCompared_59 (by decide) rfl ?_
    refine r_aload_n (q := 61) dX12_readsCompared_60 rfl rfl ?_
    refine r_geti (v := (M 0 9)) (q := 64) lk_X12_145 dX12_readsCompared_61 sc_m_0 rfl rfl rfl ?_
    obtain ⟨y9, e8, h⟩ := mm_let_elim h
    refine r_callV_i (av := [(.inl 1), (.inl (M 0 9))]) (st := []) (q := 67) (d1 := 0) kc_X12_158 sc_m_0 dX12_readsCompared_64 rfl rfl (Nat.le_of_ble_eq_true rfl) (Nat.le_of_ble_eq_true rfl) (by omega) rfl rfl (t_X12_wrongAt (d := 0) (by omega) 1 (M 0 9) M _ e8) ?_
    cases h
    exact r_retb dX12_readsCompared_67 rfl (mm_b01 _) mm_Zi_rfl
noncomputable def X12_readsCompared (M : mm_M) : Option (Bool × mm_M) := (X12_readsSum M).bind fun y2 => if y2.1 = true then (X12_here y2.2).bind fun y5 => if y5 = 60 then X12_readsCompared_j52 7 y2.2 else (X12_here y2.2).bind fun y18 => if y18 = 62 then X12_readsCompared_j52 8 y2.2 else (X12_here y2.2).bind fun y21 => if y21 = 61 then X12_readsCompared_j52 9 y2.2 else X12_readsCompared_j52 (-1) y2.2 else some (false, y2.2)
set_option maxRecDepth 100000 in
set_option maxHeartbeats 400000 in
theorem t_X12_readsCompared {d : Nat} (hd : 5 ≤ d) (M : mm_M) (res : (Bool × mm_M)) (h : X12_readsCompared M = some res) : mm_Meth jX12_readsCompared d 0 0 [(.inr 0)] S_m M (mm_Zi (mm_b res.1) S_m res.2) := by
  refine r_meth (L := [some (.inr 0), none]) rfl (fun D => ?_)
  unfold X12_readsCompared at h
  refine r_aload_n (q := 1) dX12_readsCompared_0 rfl rfl ?_
  obtain ⟨y2, e1, h⟩ := Option.bind_eq_some_iff.mp h
  refine r_callV_i (av := []) (st := []) (q := 4) (d1 := 4) kc_X12_208 sc_m_0 dX12_readsCompared_1 rfl rfl (Nat.le_of_ble_eq_true rfl) (Nat.le_of_ble_eq_true rfl) (by omega) rfl rfl (t_X12_readsSum (d := 4) (by omega) M _ e1) ?_
  refine r_if_ne 9 (q := 7) dX12_readsCompared_4 (by decide) rfl (fun c3 => ?_) (fun c3 => ?_)
  · rw [if_pos (mm_b1 c3)] at h
    refine r_aload_n (q := 10) dX12_readsCompared_9 rfl rfl ?_
    obtain ⟨y5, e4, h⟩ := Option.bind_eq_some_iff.mp h
    refine r_callV_i (av := []) (st := []) (q := 13) (d1 := 0) kc_X12_151 sc_m_0 dX12_readsCompared_10 rfl rfl (Nat.le_of_ble_eq_true rfl) (Nat.le_of_ble_eq_true rfl) (by omega) rfl rfl (t_X12_here (d := 0) (by omega) y2.2 _ e4) ?_
    refine r_bipush (v := 60) (q := 15) dX12_readsCompared_13 (by decide) rfl ?_
    refine r_icmp_ne 23 (q := 18) dX12_readsCompared_15 (by decide) rfl (fun c6 => ?_) (fun c6 => ?_)
    · rw [if_neg c6] at h
      refine r_aload_n (q := 24) dX12_readsCompared_23 rfl rfl ?_
      obtain ⟨y18, e17, h⟩ := Option.bind_eq_some_iff.mp h
      refine r_callV_i (av := []) (st := []) (q := 27) (d1 := 0) kc_X12_151 sc_m_0 dX12_readsCompared_24 rfl rfl (Nat.le_of_ble_eq_true rfl) (Nat.le_of_ble_eq_true rfl) (by omega) rfl rfl (t_X12_here (d := 0) (by omega) y2.2 _ e17) ?_
      refine r_bipush (v := 62) (q := 29) dX12_readsCompared_27 (by decide) rfl ?_
      refine r_icmp_ne 37 (q := 32) dX12_readsCompared_29 (by decide) rfl (fun c19 => ?_) (fun c19 => ?_)
      · rw [if_neg c19] at h
        refine r_aload_n (q := 38) dX12_readsCompared_37 rfl rfl ?_
        obtain ⟨y21, e20, h⟩ := Option.bind_eq_some_iff.mp h
        refine r_callV_i (av := []) (st := []) (q := 41) (d1 := 0) kc_X12_151 sc_m_0 dX12_readsCompared_38 rfl rfl (Nat.le_of_ble_eq_true rfl) (Nat.le_of_ble_eq_true rfl) (by omega) rfl rfl (t_X12_here (d := 0) (by omega) y2.2 _ e20) ?_
        refine r_bipush (v := 61) (q := 43) dX12_readsCompared_41 (by decide) rfl ?_
        refine r_icmp_ne 51 (q := 46) dX12_readsCompared_43 (by decide) rfl (fun c22 => ?_) (fun c22 => ?_)
        · rw [if_neg c22] at h
          refine r_iconst (v := (-1)) (q := 52) dX12_readsCompared_51 (by decide) rfl ?_
          exact t_X12_readsCompared_j52 hd (-1) y2.2 _ h
        · rw [if_pos c22] at h
          refine r_bipush (v := 9) (q := 48) dX12_readsCompared_46 (by decide) rfl ?_
          refine r_goto 52 dX12_readsCompared_48 (by decide) ?_
          exact t_X12_readsCompared_j52 hd 9 y2.2 _ h
      · rw [if_pos c19] at h
        refine r_bipush (v := 8) (q := 34) dX12_readsCompared_32 (by decide) rfl ?_
        refine r_goto 52 dX12_readsCompared_34 (by decide) ?_
        exact t_X12_readsCompared_j52 hd 8 y2.2 _ h
    · rw [if_pos c6] at h
      refine r_bipush (v := 7) (q := 20) dX12_readsCompared_18 (by decide) rfl ?_
      refine r_goto 52 dX12_readsCompared_20 (by decide) ?_
      exact t_X12_readsCompared_j52 hd 7 y2.2 _ h
  · rw [if_neg (mm_b0 c3)] at h
    refine r_iconst (v := 0) (q := 8) dX12_readsCompared_7 (by decide) rfl ?_
    cases h
    exact r_retb dX12_readsCompared_8 rfl (Or.inl rfl) mm_Zi_rfl
noncomputable def X12_lands_j22l0 (x1 : Int32) (M : mm_M) : Option (mm_M ⊕ mm_M) := if mm_in ((M 0 15) - 1) 260 = true then if mm_in ((M 9 (Int32.toNatClampNeg ((M 0 15) - 1))) - (M 9 (Int32.toNatClampNeg ((M 0 15) - 1))) / 1048576 * 1048576) 260 = true then if mm_in ((M 9 (Int32.toNatClampNeg ((M 0 15) - 1))) - (M 9 (Int32.toNatClampNeg ((M 0 15) - 1))) / 1048576 * 1048576) 260 = true then some (.inl (mm_U (mm_U M 8 (Int32.toNatClampNeg ((M 9 (Int32.toNatClampNeg ((M 0 15) - 1))) - (M 9 (Int32.toNatClampNeg ((M 0 15) - 1))) / 1048576 * 1048576)) (((1048576 : Int32) * ((M 8 (Int32.toNatClampNeg ((M 9 (Int32.toNatClampNeg ((M 0 15) - 1))) - (M 9 (Int32.toNatClampNeg ((M 0 15) - 1))) / 1048576 * 1048576))) / 1048576)) + (M 0 14))) 0 15 ((M 0 15) - 1))) else none else none else none
set_option maxRecDepth 100000 in
set_option maxHeartbeats 400000 in
theorem t_X12_lands_j22l0 {D : mm_D} {d : Nat} (hd : 1 ≤ d) {Z : Option Int32 → List mm_C → mm_M → Prop} (x1 : Int32) (M : mm_M) (o : mm_M ⊕ mm_M) (h : X12_lands_j22l0 x1 M = some o) (kb : ∀ s', o = .inl s' → mm_Go jX12_lands D d 0 0 0 [some (.inr 0), some (.inl x1), none] [] S_m s' Z) (ke : ∀ r, o = .inr r → Z none S_m r) : mm_Go jX12_lands D d 0 0 22 [some (.inr 0), some (.inl x1), none] [] S_m M Z := by
  unfold X12_lands_j22l0 at h
  refine r_aload_n (q := 23) dX12_lands_22 rfl rfl ?_
  refine r_getr (b := 9) (q := 26) lk_X12_35 dX12_lands_23 sc_m_0 rfl rfl ?_
  refine r_aload_n (q := 27) dX12_lands_26 rfl rfl ?_
  refine r_geti (v := (M 0 15)) (q := 30) lk_X12_175 dX12_lands_27 sc_m_0 rfl rfl rfl ?_
  refine r_iconst (v := 1) (q := 31) dX12_lands_30 (by decide) rfl ?_
  refine r_isub (q := 32) dX12_lands_31 rfl ?_
  obtain ⟨g4, h⟩ := mm_guard h
  refine r_iald (v := (M 9 (Int32.toNatClampNeg ((M 0 15) - 1)))) (q := 33) dX12_lands_32 sc_m_9 (mm_vp g4) rfl rfl ?_
  refine r_ldc (v := 1048576) (q := 35) dX12_lands_33 ko_X12_171 rfl ?_
  refine r_irem (q := 36) dX12_lands_35 (by decide) rfl ?_
  refine r_istore_n (q := 37) (L' := [some (.inr 0), some (.inl x1), some (.inl ((M 9 (Int32.toNatClampNeg ((M 0 15) - 1))) - (M 9 (Int32.toNatClampNeg ((M 0 15) - 1))) / 1048576 * 1048576))]) dX12_lands_36 (by decide) rfl rfl ?_
  refine r_aload_n (q := 38) dX12_lands_37 rfl rfl ?_
  refine r_getr (b := 8) (q := 41) lk_X12_32 dX12_lands_38 sc_m_0 rfl rfl ?_
  refine r_iload_n (q := 42) dX12_lands_41 rfl rfl ?_
  refine r_ldc (v := 1048576) (q := 44) dX12_lands_42 ko_X12_171 rfl ?_
  refine r_aload_n (q := 45) dX12_lands_44 rfl rfl ?_
  refine r_getr (b := 8) (q := 48) lk_X12_32 dX12_lands_45 sc_m_0 rfl rfl ?_
  refine r_iload_n (q := 49) dX12_lands_48 rfl rfl ?_
  obtain ⟨g5, h⟩ := mm_guard h
  refine r_iald (v := (M 8 (Int32.toNatClampNeg ((M 9 (Int32.toNatClampNeg ((M 0 15) - 1))) - (M 9 (Int32.toNatClampNeg ((M 0 15) - 1))) / 1048576 * 1048576)))) (q := 50) dX12_lands_49 sc_m_8 (mm_vp g5) rfl rfl ?_
  refine r_ldc (v := 1048576) (q := 52) dX12_lands_50 ko_X12_171 rfl ?_
  refine r_idiv (q := 53) dX12_lands_52 (by decide) rfl ?_
  refine r_imul (q := 54) dX12_lands_53 rfl ?_
  refine r_aload_n (q := 55) dX12_lands_54 rfl rfl ?_
  refine r_geti (v := (M 0 14)) (q := 58) lk_X12_168 dX12_lands_55 sc_m_0 rfl rfl rfl ?_
  refine r_iadd (q := 59) dX12_lands_58 rfl ?_
  obtain ⟨g6, h⟩ := mm_guard h
  refine r_iast (j := (Int32.toNatClampNeg ((M 9 (Int32.toNatClampNeg ((M 0 15) - 1))) - (M 9 (Int32.toNatClampNeg ((M 0 15) - 1))) / 1048576 * 1048576))) (q := 60) dX12_lands_59 sc_m_8 (mm_vp g6) rfl rfl ?_
  refine r_aload_n (q := 61) dX12_lands_60 rfl rfl ?_
  refine r_aload_n (q := 62) dX12_lands_61 rfl rfl ?_
  refine r_geti (v := (M 0 15)) (q := 65) lk_X12_175 dX12_lands_62 sc_m_0 rfl rfl rfl ?_
  refine r_iconst (v := 1) (q := 66) dX12_lands_65 (by decide) rfl ?_
  refine r_isub (q := 67) dX12_lands_66 rfl ?_
  refine r_puti (q := 70) lk_X12_175 ft_9_15 dX12_lands_67 sc_m_0 rfl rfl ?_
  refine r_goto 0 dX12_lands_70 (by decide) ?_
  refine r_forget (L' := [some (.inr 0), some (.inl x1), none]) [true, true, false] rfl ?_
  cases h
  have hk := kb _ rfl
  exact hk
noncomputable def X12_lands_l0 (x1 : Int32) (s : mm_M) : Option (mm_M ⊕ mm_M) := (X12_waitTop s).bind fun y2 => if y2 = 11 then X12_lands_j22l0 x1 s else if x1 = 0 then some (.inr s) else (X12_waitTop s).bind fun y9 => if y9 = 12 then X12_lands_j22l0 x1 s else some (.inr s)
set_option maxRecDepth 100000 in
set_option maxHeartbeats 400000 in
theorem t_X12_lands_l0 {D : mm_D} {d : Nat} (hd : 1 ≤ d) {Z : Option Int32 → List mm_C → mm_M → Prop} (x1 : Int32) (n : Nat) (s : mm_M) (r : mm_M) (h : mm_loop (X12_lands_l0 x1) n s = some r) (hx : Z none S_m r) : mm_Go jX12_lands D d 0 0 0 [some (.inr 0), some (.inl x1), none] [] S_m s Z := by
  refine mm_loop_go (step := X12_lands_l0 x1) (Hd := fun (s : mm_M) => mm_Go jX12_lands D d 0 0 0 [some (.inr 0), some (.inl x1), none] [] S_m s Z) (Ex := fun (r : mm_M) => Z none S_m r) ?_ n s r h hx
  intro s o h kb ke
  show mm_Go jX12_lands D d 0 0 0 [some (.inr 0), some (.inl x1), none] [] S_m s Z
  unfold X12_lands_l0 at h
  refine r_aload_n (q := 1) dX12_lands_0 rfl rfl ?_
  obtain ⟨y2, e1, h⟩ := Option.bind_eq_some_iff.mp h
  refine r_callV_i (av := []) (st := []) (q := 4) (d1 := 0) kc_X12_178 sc_m_0 dX12_lands_1 rfl rfl (Nat.le_of_ble_eq_true rfl) (Nat.le_of_ble_eq_true rfl) (by omega) rfl rfl (t_X12_waitTop (d := 0) (by omega) s _ e1) ?_
  refine r_bipush (v := 11) (q := 6) dX12_lands_4 (by decide) rfl ?_
  refine r_icmp_eq 22 (q := 9) dX12_lands_6 (by decide) rfl (fun c3 => ?_) (fun c3 => ?_)
  · rw [if_pos c3] at h
    exact t_X12_lands_j22l0 hd x1 s _ h kb ke
  · rw [if_neg c3] at h
    refine r_iload_n (q := 10) dX12_lands_9 rfl rfl ?_
    refine r_if_eq 73 (q := 13) dX12_lands_10 (by decide) rfl (fun c7 => ?_) (fun c7 => ?_)
    · rw [if_pos c7] at h
      cases h
      have hk := ke _ rfl
      exact r_retv dX12_lands_73 rfl hk
    · rw [if_neg c7] at h
      refine r_aload_n (q := 14) dX12_lands_13 rfl rfl ?_
      obtain ⟨y9, e8, h⟩ := Option.bind_eq_some_iff.mp h
      refine r_callV_i (av := []) (st := []) (q := 17) (d1 := 0) kc_X12_178 sc_m_0 dX12_lands_14 rfl rfl (Nat.le_of_ble_eq_true rfl) (Nat.le_of_ble_eq_true rfl) (by omega) rfl rfl (t_X12_waitTop (d := 0) (by omega) s _ e8) ?_
      refine r_bipush (v := 12) (q := 19) dX12_lands_17 (by decide) rfl ?_
      refine r_icmp_ne 73 (q := 22) dX12_lands_19 (by decide) rfl (fun c10 => ?_) (fun c10 => ?_)
      · rw [if_neg c10] at h
        cases h
        have hk := ke _ rfl
        exact r_retv dX12_lands_73 rfl hk
      · rw [if_pos c10] at h
        exact t_X12_lands_j22l0 hd x1 s _ h kb ke
noncomputable def X12_lands (x1 : Int32) (M : mm_M) : Option mm_M := (mm_loop (X12_lands_l0 x1) mm_fuel M)
set_option maxRecDepth 100000 in
set_option maxHeartbeats 400000 in
theorem t_X12_lands {d : Nat} (hd : 1 ≤ d) (x1 : Int32) (M : mm_M) (res : mm_M) (h : X12_lands x1 M = some res) : mm_Meth jX12_lands d 0 0 [(.inr 0), (.inl x1)] S_m M (mm_Zv S_m res) := by
  refine r_meth (L := [some (.inr 0), some (.inl x1), none]) rfl (fun D => ?_)
  unfold X12_lands at h
  exact t_X12_lands_l0 hd x1 mm_fuel M _ h mm_Zv_rfl
noncomputable def X12_jumps (x1 : Int32) (M : mm_M) : Option mm_M := if mm_in (M 0 15) 260 = true then (X12_notes x1 0 (mm_U (mm_U M 9 (Int32.toNatClampNeg (M 0 15)) (((1048576 : Int32) * x1) + (M 0 14))) 0 15 ((M 0 15) + 1))).bind fun y3 => some (mm_U y3 0 9 ((y3 0 9) + 1)) else none
set_option maxRecDepth 100000 in
set_option maxHeartbeats 400000 in
theorem t_X12_jumps {d : Nat} (hd : 1 ≤ d) (x1 : Int32) (M : mm_M) (res : mm_M) (h : X12_jumps x1 M = some res) : mm_Meth jX12_jumps d 0 0 [(.inr 0), (.inl x1)] S_m M (mm_Zv S_m res) := by
  refine r_meth (L := [some (.inr 0), some (.inl x1)]) rfl (fun D => ?_)
  unfold X12_jumps at h
  refine r_aload_n (q := 1) dX12_jumps_0 rfl rfl ?_
  refine r_getr (b := 9) (q := 4) lk_X12_35 dX12_jumps_1 sc_m_0 rfl rfl ?_
  refine r_aload_n (q := 5) dX12_jumps_4 rfl rfl ?_
  refine r_geti (v := (M 0 15)) (q := 8) lk_X12_175 dX12_jumps_5 sc_m_0 rfl rfl rfl ?_
  refine r_ldc (v := 1048576) (q := 10) dX12_jumps_8 ko_X12_171 rfl ?_
  refine r_iload_n (q := 11) dX12_jumps_10 rfl rfl ?_
  refine r_imul (q := 12) dX12_jumps_11 rfl ?_
  refine r_aload_n (q := 13) dX12_jumps_12 rfl rfl ?_
  refine r_geti (v := (M 0 14)) (q := 16) lk_X12_168 dX12_jumps_13 sc_m_0 rfl rfl rfl ?_
  refine r_iadd (q := 17) dX12_jumps_16 rfl ?_
  obtain ⟨g1, h⟩ := mm_guard h
  refine r_iast (j := (Int32.toNatClampNeg (M 0 15))) (q := 18) dX12_jumps_17 sc_m_9 (mm_vp g1) rfl rfl ?_
  refine r_aload_n (q := 19) dX12_jumps_18 rfl rfl ?_
  refine r_aload_n (q := 20) dX12_jumps_19 rfl rfl ?_
  refine r_geti (v := (M 0 15)) (q := 23) lk_X12_175 dX12_jumps_20 sc_m_0 rfl rfl rfl ?_
  refine r_iconst (v := 1) (q := 24) dX12_jumps_23 (by decide) rfl ?_
  refine r_iadd (q := 25) dX12_jumps_24 rfl ?_
  refine r_puti (q := 28) lk_X12_175 ft_9_15 dX12_jumps_25 sc_m_0 rfl rfl ?_
  refine r_aload_n (q := 29) dX12_jumps_28 rfl rfl ?_
  refine r_iload_n (q := 30) dX12_jumps_29 rfl rfl ?_
  refine r_iconst (v := 0) (q := 31) dX12_jumps_30 (by decide) rfl ?_
  obtain ⟨y3, e2, h⟩ := Option.bind_eq_some_iff.mp h
  refine r_callV_v (av := [(.inl x1), (.inl 0)]) (st := []) (q := 34) (d1 := 0) kc_X12_181 sc_m_0 dX12_jumps_31 rfl rfl (Nat.le_of_ble_eq_true rfl) (Nat.le_of_ble_eq_true rfl) (by omega) rfl rfl (t_X12_notes (d := 0) (by omega) x1 0 (mm_U (mm_U M 9 (Int32.toNatClampNeg (M 0 15)) (((1048576 : Int32) * x1) + (M 0 14))) 0 15 ((M 0 15) + 1)) _ e2) ?_
  refine r_aload_n (q := 35) dX12_jumps_34 rfl rfl ?_
  refine r_aload_n (q := 36) dX12_jumps_35 rfl rfl ?_
  refine r_geti (v := (y3 0 9)) (q := 39) lk_X12_145 dX12_jumps_36 sc_m_0 rfl rfl rfl ?_
  refine r_iconst (v := 1) (q := 40) dX12_jumps_39 (by decide) rfl ?_
  refine r_iadd (q := 41) dX12_jumps_40 rfl ?_
  refine r_puti (q := 44) lk_X12_145 ft_9_9 dX12_jumps_41 sc_m_0 rfl rfl ?_
  cases h
  exact r_retv dX12_jumps_44 rfl mm_Zv_rfl
noncomputable def X12_readsCondition_l92 (s : mm_M) : Option (mm_M ⊕ ((Bool × mm_M) ⊕ mm_M)) := (X12_here s).bind fun y23 => if y23 = 41 then (X12_lands 1 s).bind fun y26 => if ((y26 0 15) - 1) = 0 then some (.inr (.inl (true, (mm_U (mm_U (mm_U y26 0 15 ((y26 0 15) - 1)) 0 13 ((y26 0 13) - 1)) 0 9 ((y26 0 9) + 1))))) else (X12_endsPiece (mm_U (mm_U (mm_U y26 0 15 ((y26 0 15) - 1)) 0 13 ((y26 0 13) - 1)) 0 9 ((y26 0 9) + 1))).bind fun y29 => some (.inl y29) else some (.inr (.inr s))
set_option maxRecDepth 100000 in
set_option maxHeartbeats 400000 in
theorem t_X12_readsCondition_l92 {D : mm_D} {d : Nat} (hd : 6 ≤ d) {Z : Option Int32 → List mm_C → mm_M → Prop} (n : Nat) (s : mm_M) (r : ((Bool × mm_M) ⊕ mm_M)) (h : mm_loop (X12_readsCondition_l92) n s = some r) (hx : (Sum.elim (fun (y : (Bool × mm_M)) => Z (some (mm_b y.1)) S_m y.2) (fun (s : mm_M) => mm_Go jX12_readsCondition D d 0 0 152 [some (.inr 0)] [] S_m s Z) r)) : mm_Go jX12_readsCondition D d 0 0 92 [some (.inr 0)] [] S_m s Z := by
  refine mm_loop_go (step := X12_readsCondition_l92) (Hd := fun (s : mm_M) => mm_Go jX12_readsCondition D d 0 0 92 [some (.inr 0)] [] S_m s Z) (Ex := fun (r : ((Bool × mm_M) ⊕ mm_M)) => (Sum.elim (fun (y : (Bool × mm_M)) => Z (some (mm_b y.1)) S_m y.2) (fun (s : mm_M) => mm_Go jX12_readsCondition D d 0 0 152 [some (.inr 0)] [] S_m s Z) r)) ?_ n s r h hx
  intro s o h kb ke
  show mm_Go jX12_readsCondition D d 0 0 92 [some (.inr 0)] [] S_m s Z
  unfold X12_readsCondition_l92 at h
  refine r_aload_n (q := 93) dX12_readsCondition_92 rfl rfl ?_
  obtain ⟨y23, e22, h⟩ := Option.bind_eq_some_iff.mp h
  refine r_callV_i (av := []) (st := []) (q := 96) (d1 := 0) kc_X12_151 sc_m_0 dX12_readsCondition_93 rfl rfl (Nat.le_of_ble_eq_true rfl) (Nat.le_of_ble_eq_true rfl) (by omega) rfl rfl (t_X12_here (d := 0) (by omega) s _ e22) ?_
  refine r_bipush (v := 41) (q := 98) dX12_readsCondition_96 (by decide) rfl ?_
  refine r_icmp_ne 152 (q := 101) dX12_readsCondition_98 (by decide) rfl (fun c24 => ?_) (fun c24 => ?_)
  · rw [if_neg c24] at h
    cases h
    have hk := ke _ rfl
    exact hk
  · rw [if_pos c24] at h
    refine r_aload_n (q := 102) dX12_readsCondition_101 rfl rfl ?_
    refine r_iconst (v := 1) (q := 103) dX12_readsCondition_102 (by decide) rfl ?_
    obtain ⟨y26, e25, h⟩ := Option.bind_eq_some_iff.mp h
    refine r_callV_v (av := [(.inl 1)]) (st := []) (q := 106) (d1 := 1) kc_X12_217 sc_m_0 dX12_readsCondition_103 rfl rfl (Nat.le_of_ble_eq_true rfl) (Nat.le_of_ble_eq_true rfl) (by omega) rfl rfl (t_X12_lands (d := 1) (by omega) 1 s _ e25) ?_
    refine r_aload_n (q := 107) dX12_readsCondition_106 rfl rfl ?_
    refine r_aload_n (q := 108) dX12_readsCondition_107 rfl rfl ?_
    refine r_geti (v := (y26 0 15)) (q := 111) lk_X12_175 dX12_readsCondition_108 sc_m_0 rfl rfl rfl ?_
    refine r_iconst (v := 1) (q := 112) dX12_readsCondition_111 (by decide) rfl ?_
    refine r_isub (q := 113) dX12_readsCondition_112 rfl ?_
    refine r_puti (q := 116) lk_X12_175 ft_9_15 dX12_readsCondition_113 sc_m_0 rfl rfl ?_
    refine r_aload_n (q := 117) dX12_readsCondition_116 rfl rfl ?_
    refine r_aload_n (q := 118) dX12_readsCondition_117 rfl rfl ?_
    refine r_geti (v := (y26 0 13)) (q := 121) lk_X12_172 dX12_readsCondition_118 sc_m_0 rfl rfl rfl ?_
    refine r_iconst (v := 1) (q := 122) dX12_readsCondition_121 (by decide) rfl ?_
    refine r_isub (q := 123) dX12_readsCondition_122 rfl ?_
    refine r_puti (q := 126) lk_X12_172 ft_9_13 dX12_readsCondition_123 sc_m_0 rfl rfl ?_
    refine r_aload_n (q := 127) dX12_readsCondition_126 rfl rfl ?_
    refine r_aload_n (q := 128) dX12_readsCondition_127 rfl rfl ?_
    refine r_geti (v := (y26 0 9)) (q := 131) lk_X12_145 dX12_readsCondition_128 sc_m_0 rfl rfl rfl ?_
    refine r_iconst (v := 1) (q := 132) dX12_readsCondition_131 (by decide) rfl ?_
    refine r_iadd (q := 133) dX12_readsCondition_132 rfl ?_
    refine r_puti (q := 136) lk_X12_145 ft_9_9 dX12_readsCondition_133 sc_m_0 rfl rfl ?_
    refine r_aload_n (q := 137) dX12_readsCondition_136 rfl rfl ?_
    refine r_geti (v := ((y26 0 15) - 1)) (q := 140) lk_X12_175 dX12_readsCondition_137 sc_m_0 rfl rfl rfl ?_
    refine r_if_ne 145 (q := 143) dX12_readsCondition_140 (by decide) rfl (fun c27 => ?_) (fun c27 => ?_)
    · rw [if_neg c27] at h
      refine r_aload_n (q := 146) dX12_readsCondition_145 rfl rfl ?_
      obtain ⟨y29, e28, h⟩ := Option.bind_eq_some_iff.mp h
      refine r_callV_v (av := []) (st := []) (q := 149) (d1 := 1) kc_X12_211 sc_m_0 dX12_readsCondition_146 rfl rfl (Nat.le_of_ble_eq_true rfl) (Nat.le_of_ble_eq_true rfl) (by omega) rfl rfl (t_X12_endsPiece (d := 1) (by omega) (mm_U (mm_U (mm_U y26 0 15 ((y26 0 15) - 1)) 0 13 ((y26 0 13) - 1)) 0 9 ((y26 0 9) + 1)) _ e28) ?_
      refine r_goto 92 dX12_readsCondition_149 (by decide) ?_
      cases h
      have hk := kb _ rfl
      exact hk
    · rw [if_pos c27] at h
      refine r_iconst (v := 1) (q := 144) dX12_readsCondition_143 (by decide) rfl ?_
      cases h
      have hk := ke _ rfl
      exact r_retb dX12_readsCondition_144 rfl (Or.inr rfl) hk
noncomputable def X12_readsCondition_j75l40 (z1 : Int32) (M : mm_M) : Option (mm_M ⊕ (Bool × mm_M)) := (X12_opens z1 M).bind fun y14 => if y14.1 = true then some (.inl y14.2) else some (.inr (false, y14.2))
set_option maxRecDepth 100000 in
set_option maxHeartbeats 400000 in
theorem t_X12_readsCondition_j75l40 {D : mm_D} {d : Nat} (hd : 6 ≤ d) {Z : Option Int32 → List mm_C → mm_M → Prop} (z1 : Int32) (M : mm_M) (o : mm_M ⊕ (Bool × mm_M)) (h : X12_readsCondition_j75l40 z1 M = some o) (kb : ∀ s', o = .inl s' → mm_Go jX12_readsCondition D d 0 0 40 [some (.inr 0)] [] S_m s' Z) (ke : ∀ r, o = .inr r → Z (some (mm_b r.1)) S_m r.2) : mm_Go jX12_readsCondition D d 0 0 75 [some (.inr 0)] [(.inl z1), (.inr 0)] S_m M Z := by
  unfold X12_readsCondition_j75l40 at h
  obtain ⟨y14, e13, h⟩ := Option.bind_eq_some_iff.mp h
  refine r_callV_i (av := [(.inl z1)]) (st := []) (q := 78) (d1 := 1) kc_X12_185 sc_m_0 dX12_readsCondition_75 rfl rfl (Nat.le_of_ble_eq_true rfl) (Nat.le_of_ble_eq_true rfl) (by omega) rfl rfl (t_X12_opens (d := 1) (by omega) z1 M _ e13) ?_
  refine r_if_ne 40 (q := 81) dX12_readsCondition_78 (by decide) rfl (fun c15 => ?_) (fun c15 => ?_)
  · rw [if_pos (mm_b1 c15)] at h
    cases h
    have hk := kb _ rfl
    exact hk
  · rw [if_neg (mm_b0 c15)] at h
    refine r_iconst (v := 0) (q := 82) dX12_readsCondition_81 (by decide) rfl ?_
    cases h
    have hk := ke _ rfl
    exact r_retb dX12_readsCondition_82 rfl (Or.inl rfl) hk
noncomputable def X12_readsCondition_j58l40 (M : mm_M) : Option (mm_M ⊕ (Bool × mm_M)) := (X12_here M).bind fun y11 => if y11 = 33 then X12_readsCondition_j75l40 10 M else X12_readsCondition_j75l40 13 M
set_option maxRecDepth 100000 in
set_option maxHeartbeats 400000 in
theorem t_X12_readsCondition_j58l40 {D : mm_D} {d : Nat} (hd : 6 ≤ d) {Z : Option Int32 → List mm_C → mm_M → Prop} (M : mm_M) (o : mm_M ⊕ (Bool × mm_M)) (h : X12_readsCondition_j58l40 M = some o) (kb : ∀ s', o = .inl s' → mm_Go jX12_readsCondition D d 0 0 40 [some (.inr 0)] [] S_m s' Z) (ke : ∀ r, o = .inr r → Z (some (mm_b r.1)) S_m r.2) : mm_Go jX12_readsCondition D d 0 0 58 [some (.inr 0)] [] S_m M Z := by
  unfold X12_readsCondition_j58l40 at h
  refine r_aload_n (q := 59) dX12_readsCondition_58 rfl rfl ?_
  refine r_aload_n (q := 60) dX12_readsCondition_59 rfl rfl ?_
  obtain ⟨y11, e10, h⟩ := Option.bind_eq_some_iff.mp h
  refine r_callV_i (av := []) (st := [(.inr 0)]) (q := 63) (d1 := 0) kc_X12_151 sc_m_0 dX12_readsCondition_60 rfl rfl (Nat.le_of_ble_eq_true rfl) (Nat.le_of_ble_eq_true rfl) (by omega) rfl rfl (t_X12_here (d := 0) (by omega) M _ e10) ?_
  refine r_bipush (v := 33) (q := 65) dX12_readsCondition_63 (by decide) rfl ?_
  refine r_icmp_ne 73 (q := 68) dX12_readsCondition_65 (by decide) rfl (fun c12 => ?_) (fun c12 => ?_)
  · rw [if_neg c12] at h
    refine r_bipush (v := 13) (q := 75) dX12_readsCondition_73 (by decide) rfl ?_
    exact t_X12_readsCondition_j75l40 hd 13 M _ h kb ke
  · rw [if_pos c12] at h
    refine r_bipush (v := 10) (q := 70) dX12_readsCondition_68 (by decide) rfl ?_
    refine r_goto 75 dX12_readsCondition_70 (by decide) ?_
    exact t_X12_readsCondition_j75l40 hd 10 M _ h kb ke
noncomputable def X12_readsCondition_j195l40 (z1 : Bool) (M : mm_M) : Option (mm_M ⊕ (Bool × mm_M)) := (X12_lands (mm_b z1) M).bind fun y39 => (X12_here y39).bind fun y41 => if y41 = 38 then (X12_jumps 11 y39).bind fun y44 => some (.inl y44) else (X12_jumps 12 y39).bind fun y46 => some (.inl y46)
set_option maxRecDepth 100000 in
set_option maxHeartbeats 400000 in
theorem t_X12_readsCondition_j195l40 {D : mm_D} {d : Nat} (hd : 6 ≤ d) {Z : Option Int32 → List mm_C → mm_M → Prop} (z1 : Bool) (M : mm_M) (o : mm_M ⊕ (Bool × mm_M)) (h : X12_readsCondition_j195l40 z1 M = some o) (kb : ∀ s', o = .inl s' → mm_Go jX12_readsCondition D d 0 0 40 [some (.inr 0)] [] S_m s' Z) (ke : ∀ r, o = .inr r → Z (some (mm_b r.1)) S_m r.2) : mm_Go jX12_readsCondition D d 0 0 195 [some (.inr 0)] [(.inl (mm_b z1)), (.inr 0)] S_m M Z := by
  unfold X12_readsCondition_j195l40 at h
  obtain ⟨y39, e38, h⟩ := Option.bind_eq_some_iff.mp h
  refine r_callV_v (av := [(.inl (mm_b z1))]) (st := []) (q := 198) (d1 := 1) kc_X12_217 sc_m_0 dX12_readsCondition_195 rfl rfl (Nat.le_of_ble_eq_true rfl) (Nat.le_of_ble_eq_true rfl) (by omega) rfl rfl (t_X12_lands (d := 1) (by omega) (mm_b z1) M _ e38) ?_
  refine r_aload_n (q := 199) dX12_readsCondition_198 rfl rfl ?_
  refine r_aload_n (q := 200) dX12_readsCondition_199 rfl rfl ?_
  obtain ⟨y41, e40, h⟩ := Option.bind_eq_some_iff.mp h
  refine r_callV_i (av := []) (st := [(.inr 0)]) (q := 203) (d1 := 0) kc_X12_151 sc_m_0 dX12_readsCondition_200 rfl rfl (Nat.le_of_ble_eq_true rfl) (Nat.le_of_ble_eq_true rfl) (by omega) rfl rfl (t_X12_here (d := 0) (by omega) y39 _ e40) ?_
  refine r_bipush (v := 38) (q := 205) dX12_readsCondition_203 (by decide) rfl ?_
  refine r_icmp_ne 213 (q := 208) dX12_readsCondition_205 (by decide) rfl (fun c42 => ?_) (fun c42 => ?_)
  · rw [if_neg c42] at h
    refine r_bipush (v := 12) (q := 215) dX12_readsCondition_213 (by decide) rfl ?_
    obtain ⟨y46, e45, h⟩ := Option.bind_eq_some_iff.mp h
    refine r_callV_v (av := [(.inl 12)]) (st := []) (q := 218) (d1 := 1) kc_X12_220 sc_m_0 dX12_readsCondition_215 rfl rfl (Nat.le_of_ble_eq_true rfl) (Nat.le_of_ble_eq_true rfl) (by omega) rfl rfl (t_X12_jumps (d := 1) (by omega) 12 y39 _ e45) ?_
    refine r_goto 40 dX12_readsCondition_218 (by decide) ?_
    cases h
    have hk := kb _ rfl
    exact hk
  · rw [if_pos c42] at h
    refine r_bipush (v := 11) (q := 210) dX12_readsCondition_208 (by decide) rfl ?_
    refine r_goto 215 dX12_readsCondition_210 (by decide) ?_
    obtain ⟨y44, e43, h⟩ := Option.bind_eq_some_iff.mp h
    refine r_callV_v (av := [(.inl 11)]) (st := []) (q := 218) (d1 := 1) kc_X12_220 sc_m_0 dX12_readsCondition_215 rfl rfl (Nat.le_of_ble_eq_true rfl) (Nat.le_of_ble_eq_true rfl) (by omega) rfl rfl (t_X12_jumps (d := 1) (by omega) 11 y39 _ e43) ?_
    refine r_goto 40 dX12_readsCondition_218 (by decide) ?_
    cases h
    have hk := kb _ rfl
    exact hk
noncomputable def X12_readsCondition_j180l40 (M : mm_M) : Option (mm_M ⊕ (Bool × mm_M)) := (X12_here M).bind fun y36 => if y36 = 124 then X12_readsCondition_j195l40 true M else X12_readsCondition_j195l40 false M
set_option maxRecDepth 100000 in
set_option maxHeartbeats 400000 in
theorem t_X12_readsCondition_j180l40 {D : mm_D} {d : Nat} (hd : 6 ≤ d) {Z : Option Int32 → List mm_C → mm_M → Prop} (M : mm_M) (o : mm_M ⊕ (Bool × mm_M)) (h : X12_readsCondition_j180l40 M = some o) (kb : ∀ s', o = .inl s' → mm_Go jX12_readsCondition D d 0 0 40 [some (.inr 0)] [] S_m s' Z) (ke : ∀ r, o = .inr r → Z (some (mm_b r.1)) S_m r.2) : mm_Go jX12_readsCondition D d 0 0 180 [some (.inr 0)] [] S_m M Z := by
  unfold X12_readsCondition_j180l40 at h
  refine r_aload_n (q := 181) dX12_readsCondition_180 rfl rfl ?_
  refine r_aload_n (q := 182) dX12_readsCondition_181 rfl rfl ?_
  obtain ⟨y36, e35, h⟩ := Option.bind_eq_some_iff.mp h
  refine r_callV_i (av := []) (st := [(.inr 0)]) (q := 185) (d1 := 0) kc_X12_151 sc_m_0 dX12_readsCondition_182 rfl rfl (Nat.le_of_ble_eq_true rfl) (Nat.le_of_ble_eq_true rfl) (by omega) rfl rfl (t_X12_here (d := 0) (by omega) M _ e35) ?_
  refine r_bipush (v := 124) (q := 187) dX12_readsCondition_185 (by decide) rfl ?_
  refine r_icmp_ne 194 (q := 190) dX12_readsCondition_187 (by decide) rfl (fun c37 => ?_) (fun c37 => ?_)
  · rw [if_neg c37] at h
    refine r_iconst (v := 0) (q := 195) dX12_readsCondition_194 (by decide) rfl ?_
    exact t_X12_readsCondition_j195l40 hd false M _ h kb ke
  · rw [if_pos c37] at h
    refine r_iconst (v := 1) (q := 191) dX12_readsCondition_190 (by decide) rfl ?_
    refine r_goto 195 dX12_readsCondition_191 (by decide) ?_
    exact t_X12_readsCondition_j195l40 hd true M _ h kb ke
noncomputable def X12_readsCondition_l40 (s : mm_M) : Option (mm_M ⊕ (Bool × mm_M)) := (X12_here s).bind fun y8 => if y8 = 33 then X12_readsCondition_j58l40 s else (X12_here s).bind fun y17 => if y17 = 40 then X12_readsCondition_j58l40 s else (X12_readsCompared s).bind fun y20 => if y20.1 = true then (mm_loop (X12_readsCondition_l92) mm_fuel y20.2).bind fun y30 => (match y30 with | .inl y30r => some (.inr y30r) | .inr y30s => (X12_here y30s).bind fun y33 => if y33 = 38 then X12_readsCondition_j180l40 y30s else (X12_here y30s).bind fun y48 => if y48 = 124 then X12_readsCondition_j180l40 y30s else mm_let (X12_wrongAt 1 (y30s 0 9) y30s) fun y51 => some (.inr (y51.1, y51.2))) else some (.inr (false, y20.2))
set_option maxRecDepth 100000 in
set_option maxHeartbeats 400000 in
theorem t_X12_readsCondition_l40 {D : mm_D} {d : Nat} (hd : 6 ≤ d) {Z : Option Int32 → List mm_C → mm_M → Prop} (n : Nat) (s : mm_M) (r : (Bool × mm_M)) (h : mm_loop (X12_readsCondition_l40) n s = some r) (hx : Z (some (mm_b r.1)) S_m r.2) : mm_Go jX12_readsCondition D d 0 0 40 [some (.inr 0)] [] S_m s Z := by
  refine mm_loop_go (step := X12_readsCondition_l40) (Hd := fun (s : mm_M) => mm_Go jX12_readsCondition D d 0 0 40 [some (.inr 0)] [] S_m s Z) (Ex := fun (r : (Bool × mm_M)) => Z (some (mm_b r.1)) S_m r.2) ?_ n s r h hx
  intro s o h kb ke
  show mm_Go jX12_readsCondition D d 0 0 40 [some (.inr 0)] [] S_m s Z
  unfold X12_readsCondition_l40 at h
  refine r_aload_n (q := 41) dX12_readsCondition_40 rfl rfl ?_
  obtain ⟨y8, e7, h⟩ := Option.bind_eq_some_iff.mp h
  refine r_callV_i (av := []) (st := []) (q := 44) (d1 := 0) kc_X12_151 sc_m_0 dX12_readsCondition_41 rfl rfl (Nat.le_of_ble_eq_true rfl) (Nat.le_of_ble_eq_true rfl) (by omega) rfl rfl (t_X12_here (d := 0) (by omega) s _ e7) ?_
  refine r_bipush (v := 33) (q := 46) dX12_readsCondition_44 (by decide) rfl ?_
  refine r_icmp_eq 58 (q := 49) dX12_readsCondition_46 (by decide) rfl (fun c9 => ?_) (fun c9 => ?_)
  · rw [if_pos c9] at h
    exact t_X12_readsCondition_j58l40 hd s _ h kb ke
  · rw [if_neg c9] at h
    refine r_aload_n (q := 50) dX12_readsCondition_49 rfl rfl ?_
    obtain ⟨y17, e16, h⟩ := Option.bind_eq_some_iff.mp h
    refine r_callV_i (av := []) (st := []) (q := 53) (d1 := 0) kc_X12_151 sc_m_0 dX12_readsCondition_50 rfl rfl (Nat.le_of_ble_eq_true rfl) (Nat.le_of_ble_eq_true rfl) (by omega) rfl rfl (t_X12_here (d := 0) (by omega) s _ e16) ?_
    refine r_bipush (v := 40) (q := 55) dX12_readsCondition_53 (by decide) rfl ?_
    refine r_icmp_ne 83 (q := 58) dX12_readsCondition_55 (by decide) rfl (fun c18 => ?_) (fun c18 => ?_)
    · rw [if_neg c18] at h
      refine r_aload_n (q := 84) dX12_readsCondition_83 rfl rfl ?_
      obtain ⟨y20, e19, h⟩ := Option.bind_eq_some_iff.mp h
      refine r_callV_i (av := []) (st := []) (q := 87) (d1 := 5) kc_X12_214 sc_m_0 dX12_readsCondition_84 rfl rfl (Nat.le_of_ble_eq_true rfl) (Nat.le_of_ble_eq_true rfl) (by omega) rfl rfl (t_X12_readsCompared (d := 5) (by omega) s _ e19) ?_
      refine r_if_ne 92 (q := 90) dX12_readsCondition_87 (by decide) rfl (fun c21 => ?_) (fun c21 => ?_)
      · rw [if_pos (mm_b1 c21)] at h
        obtain ⟨y30, e31, h⟩ := Option.bind_eq_some_iff.mp h
        refine t_X12_readsCondition_l92 hd mm_fuel y20.2 _ e31 ?_
        rcases y30 with y30r | y30s
        · dsimp only at h
          cases h
          exact ke _ rfl
        · dsimp only at h
          show mm_Go jX12_readsCondition _ _ _ _ 152 [some (.inr 0)] [] S_m y30s _
          refine r_aload_n (q := 153) dX12_readsCondition_152 rfl rfl ?_
          obtain ⟨y33, e32, h⟩ := Option.bind_eq_some_iff.mp h
          refine r_callV_i (av := []) (st := []) (q := 156) (d1 := 0) kc_X12_151 sc_m_0 dX12_readsCondition_153 rfl rfl (Nat.le_of_ble_eq_true rfl) (Nat.le_of_ble_eq_true rfl) (by omega) rfl rfl (t_X12_here (d := 0) (by omega) y30s _ e32) ?_
          refine r_bipush (v := 38) (q := 158) dX12_readsCondition_156 (by decide) rfl ?_
          refine r_icmp_eq 180 (q := 161) dX12_readsCondition_158 (by decide) rfl (fun c34 => ?_) (fun c34 => ?_)
          · rw [if_pos c34] at h
            exact t_X12_readsCondition_j180l40 hd y30s _ h kb ke
          · rw [if_neg c34] at h
            refine r_aload_n (q := 162) dX12_readsCondition_161 rfl rfl ?_
            obtain ⟨y48, e47, h⟩ := Option.bind_eq_some_iff.mp h
            refine r_callV_i (av := []) (st := []) (q := 165) (d1 := 0) kc_X12_151 sc_m_0 dX12_readsCondition_162 rfl rfl (Nat.le_of_ble_eq_true rfl) (Nat.le_of_ble_eq_true rfl) (by omega) rfl rfl (t_X12_here (d := 0) (by omega) y30s _ e47) ?_
            refine r_bipush (v := 124) (q := 167) dX12_readsCondition_165 (by decide) rfl ?_
            refine r_icmp_eq 180 (q := 170) dX12_readsCondition_167 (by decide) rfl (fun c49 => ?_) (fun c49 => ?_)
            · rw [if_pos c49] at h
              exact t_X12_readsCondition_j180l40 hd y30s _ h kb ke
            · rw [if_neg c49] at h
              refine r_aload_n (q := 171) dX12_readsCondition_170 rfl rfl ?_
              refine r_iconst (v := 1) (q := 172) dX12_readsCondition_171 (by decide) rfl ?_
              refine r_aload_n (q := 173) dX12_readsCondition_172 rfl rfl ?_
              refine r_geti (v := (y30s 0 9)) (q := 176) lk_X12_145 dX12_readsCondition_173 sc_m_0 rfl rfl rfl ?_
              obtain ⟨y51, e50, h⟩ := mm_let_elim h
              refine r_callV_i (av := [(.inl 1), (.inl (y30s 0 9))]) (st := []) (q := 179) (d1 := 0) kc_X12_158 sc_m_0 dX12_readsCondition_176 rfl rfl (Nat.le_of_ble_eq_true rfl) (Nat.le_of_ble_eq_true rfl) (by omega) rfl rfl (t_X12_wrongAt (d := 0) (by omega) 1 (y30s 0 9) y30s _ e50) ?_
              cases h
              have hk := ke _ rfl
              exact r_retb dX12_readsCondition_179 rfl (mm_b01 _) hk
      · rw [if_neg (mm_b0 c21)] at h
        refine r_iconst (v := 0) (q := 91) dX12_readsCondition_90 (by decide) rfl ?_
        cases h
        have hk := ke _ rfl
        exact r_retb dX12_readsCondition_91 rfl (Or.inl rfl) hk
    · rw [if_pos c18] at h
      exact t_X12_readsCondition_j58l40 hd s _ h kb ke
noncomputable def X12_readsCondition (M : mm_M) : Option (Bool × mm_M) := (X12_here M).bind fun y2 => if y2 = 40 then (X12_opens 13 (mm_U (mm_U M 0 13 0) 0 15 0)).bind fun y5 => if y5.1 = true then (mm_loop (X12_readsCondition_l40) mm_fuel y5.2) else some (false, y5.2) else mm_let (X12_wrongAt 1 (M 0 9) M) fun y55 => some (y55.1, y55.2)
set_option maxRecDepth 100000 in
set_option maxHeartbeats 400000 in
theorem t_X12_readsCondition {d : Nat} (hd : 6 ≤ d) (M : mm_M) (res : (Bool × mm_M)) (h : X12_readsCondition M = some res) : mm_Meth jX12_readsCondition d 0 0 [(.inr 0)] S_m M (mm_Zi (mm_b res.1) S_m res.2) := by
  refine r_meth (L := [some (.inr 0)]) rfl (fun D => ?_)
  unfold X12_readsCondition at h
  refine r_aload_n (q := 1) dX12_readsCondition_0 rfl rfl ?_
  obtain ⟨y2, e1, h⟩ := Option.bind_eq_some_iff.mp h
  refine r_callV_i (av := []) (st := []) (q := 4) (d1 := 0) kc_X12_151 sc_m_0 dX12_readsCondition_1 rfl rfl (Nat.le_of_ble_eq_true rfl) (Nat.le_of_ble_eq_true rfl) (by omega) rfl rfl (t_X12_here (d := 0) (by omega) M _ e1) ?_
  refine r_bipush (v := 40) (q := 6) dX12_readsCondition_4 (by decide) rfl ?_
  refine r_icmp_eq 19 (q := 9) dX12_readsCondition_6 (by decide) rfl (fun c3 => ?_) (fun c3 => ?_)
  · rw [if_pos c3] at h
    refine r_aload_n (q := 20) dX12_readsCondition_19 rfl rfl ?_
    refine r_iconst (v := 0) (q := 21) dX12_readsCondition_20 (by decide) rfl ?_
    refine r_puti (q := 24) lk_X12_172 ft_9_13 dX12_readsCondition_21 sc_m_0 rfl rfl ?_
    refine r_aload_n (q := 25) dX12_readsCondition_24 rfl rfl ?_
    refine r_iconst (v := 0) (q := 26) dX12_readsCondition_25 (by decide) rfl ?_
    refine r_puti (q := 29) lk_X12_175 ft_9_15 dX12_readsCondition_26 sc_m_0 rfl rfl ?_
    refine r_aload_n (q := 30) dX12_readsCondition_29 rfl rfl ?_
    refine r_bipush (v := 13) (q := 32) dX12_readsCondition_30 (by decide) rfl ?_
    obtain ⟨y5, e4, h⟩ := Option.bind_eq_some_iff.mp h
    refine r_callV_i (av := [(.inl 13)]) (st := []) (q := 35) (d1 := 1) kc_X12_185 sc_m_0 dX12_readsCondition_32 rfl rfl (Nat.le_of_ble_eq_true rfl) (Nat.le_of_ble_eq_true rfl) (by omega) rfl rfl (t_X12_opens (d := 1) (by omega) 13 (mm_U (mm_U M 0 13 0) 0 15 0) _ e4) ?_
    refine r_if_ne 40 (q := 38) dX12_readsCondition_35 (by decide) rfl (fun c6 => ?_) (fun c6 => ?_)
    · rw [if_pos (mm_b1 c6)] at h
      exact t_X12_readsCondition_l40 hd mm_fuel y5.2 _ h mm_Zi_rfl
    · rw [if_neg (mm_b0 c6)] at h
      refine r_iconst (v := 0) (q := 39) dX12_readsCondition_38 (by decide) rfl ?_
      cases h
      exact r_retb dX12_readsCondition_39 rfl (Or.inl rfl) mm_Zi_rfl
  · rw [if_neg c3] at h
    refine r_aload_n (q := 10) dX12_readsCondition_9 rfl rfl ?_
    refine r_iconst (v := 1) (q := 11) dX12_readsCondition_10 (by decide) rfl ?_
    refine r_aload_n (q := 12) dX12_readsCondition_11 rfl rfl ?_
    refine r_geti (v := (M 0 9)) (q := 15) lk_X12_145 dX12_readsCondition_12 sc_m_0 rfl rfl rfl ?_
    obtain ⟨y55, e54, h⟩ := mm_let_elim h
    refine r_callV_i (av := [(.inl 1), (.inl (M 0 9))]) (st := []) (q := 18) (d1 := 0) kc_X12_158 sc_m_0 dX12_readsCondition_15 rfl rfl (Nat.le_of_ble_eq_true rfl) (Nat.le_of_ble_eq_true rfl) (by omega) rfl rfl (t_X12_wrongAt (d := 0) (by omega) 1 (M 0 9) M _ e54) ?_
    cases h
    exact r_retb dX12_readsCondition_18 rfl (mm_b01 _) mm_Zi_rfl
noncomputable def X12_readsRule_j110 (M : mm_M) : Option (Bool × mm_M) := if mm_in (M 0 16) 16 = true then (X12_readsCondition (mm_U M 12 (Int32.toNatClampNeg (M 0 16)) (M 0 14))).bind fun y12 => if y12.1 = true then if mm_in (y12.2 0 16) 16 = true then some (true, (mm_U (mm_U y12.2 13 (Int32.toNatClampNeg (y12.2 0 16)) (y12.2 0 14)) 0 16 ((y12.2 0 16) + 1))) else none else some (false, y12.2) else none
set_option maxRecDepth 100000 in
set_option maxHeartbeats 400000 in
theorem t_X12_readsRule_j110 {D : mm_D} {d : Nat} (hd : 7 ≤ d) (M : mm_M) (res : (Bool × mm_M)) (h : X12_readsRule_j110 M = some res) : mm_Go jX12_readsRule D d 0 0 110 [some (.inr 0), none] [] S_m M (mm_Zi (mm_b res.1) S_m res.2) := by
  unfold X12_readsRule_j110 at h
  refine r_aload_n (q := 111) dX12_readsRule_110 rfl rfl ?_
  refine r_getr (b := 12) (q := 114) lk_X12_44 dX12_readsRule_111 sc_m_0 rfl rfl ?_
  refine r_aload_n (q := 115) dX12_readsRule_114 rfl rfl ?_
  refine r_geti (v := (M 0 16)) (q := 118) lk_X12_223 dX12_readsRule_115 sc_m_0 rfl rfl rfl ?_
  refine r_aload_n (q := 119) dX12_readsRule_118 rfl rfl ?_
  refine r_geti (v := (M 0 14)) (q := 122) lk_X12_168 dX12_readsRule_119 sc_m_0 rfl rfl rfl ?_
  obtain ⟨g10, h⟩ := mm_guard h
  refine r_iast (j := (Int32.toNatClampNeg (M 0 16))) (q := 123) dX12_readsRule_122 sc_m_12 (mm_vp g10) rfl rfl ?_
  refine r_aload_n (q := 124) dX12_readsRule_123 rfl rfl ?_
  obtain ⟨y12, e11, h⟩ := Option.bind_eq_some_iff.mp h
  refine r_callV_i (av := []) (st := []) (q := 127) (d1 := 6) kc_X12_226 sc_m_0 dX12_readsRule_124 rfl rfl (Nat.le_of_ble_eq_true rfl) (Nat.le_of_ble_eq_true rfl) (by omega) rfl rfl (t_X12_readsCondition (d := 6) (by omega) (mm_U M 12 (Int32.toNatClampNeg (M 0 16)) (M 0 14)) _ e11) ?_
  refine r_if_ne 132 (q := 130) dX12_readsRule_127 (by decide) rfl (fun c13 => ?_) (fun c13 => ?_)
  · rw [if_pos (mm_b1 c13)] at h
    refine r_aload_n (q := 133) dX12_readsRule_132 rfl rfl ?_
    refine r_getr (b := 13) (q := 136) lk_X12_47 dX12_readsRule_133 sc_m_0 rfl rfl ?_
    refine r_aload_n (q := 137) dX12_readsRule_136 rfl rfl ?_
    refine r_geti (v := (y12.2 0 16)) (q := 140) lk_X12_223 dX12_readsRule_137 sc_m_0 rfl rfl rfl ?_
    refine r_aload_n (q := 141) dX12_readsRule_140 rfl rfl ?_
    refine r_geti (v := (y12.2 0 14)) (q := 144) lk_X12_168 dX12_readsRule_141 sc_m_0 rfl rfl rfl ?_
    obtain ⟨g14, h⟩ := mm_guard h
    refine r_iast (j := (Int32.toNatClampNeg (y12.2 0 16))) (q := 145) dX12_readsRule_144 sc_m_13 (mm_vp g14) rfl rfl ?_
    refine r_aload_n (q := 146) dX12_readsRule_145 rfl rfl ?_
    refine r_aload_n (q := 147) dX12_readsRule_146 rfl rfl ?_
    refine r_geti (v := (y12.2 0 16)) (q := 150) lk_X12_223 dX12_readsRule_147 sc_m_0 rfl rfl rfl ?_
    refine r_iconst (v := 1) (q := 151) dX12_readsRule_150 (by decide) rfl ?_
    refine r_iadd (q := 152) dX12_readsRule_151 rfl ?_
    refine r_puti (q := 155) lk_X12_223 ft_9_16 dX12_readsRule_152 sc_m_0 rfl rfl ?_
    refine r_iconst (v := 1) (q := 156) dX12_readsRule_155 (by decide) rfl ?_
    cases h
    exact r_retb dX12_readsRule_156 rfl (Or.inr rfl) mm_Zi_rfl
  · rw [if_neg (mm_b0 c13)] at h
    refine r_iconst (v := 0) (q := 131) dX12_readsRule_130 (by decide) rfl ?_
    cases h
    exact r_retb dX12_readsRule_131 rfl (Or.inl rfl) mm_Zi_rfl
noncomputable def X12_readsRule_j33 (x1 : Int32) (M : mm_M) : Option (Bool × mm_M) := if (M 0 16) = 16 then mm_let (X12_wrongAt 4 (M 0 9) M) fun y6 => some (y6.1, y6.2) else if mm_in (M 0 16) 16 = true then if mm_in (M 0 16) 16 = true then if x1 = 120 then X12_readsRule_j110 (mm_U (mm_U (mm_U (mm_U (mm_U M 10 (Int32.toNatClampNeg (M 0 16)) x1) 0 9 ((M 0 9) + 1)) 11 (Int32.toNatClampNeg (M 0 16)) (M 0 14)) 0 13 0) 0 15 0) else (X12_readsSum (mm_U (mm_U (mm_U (mm_U (mm_U M 10 (Int32.toNatClampNeg (M 0 16)) x1) 0 9 ((M 0 9) + 1)) 11 (Int32.toNatClampNeg (M 0 16)) (M 0 14)) 0 13 0) 0 15 0)).bind fun y16 => if y16.1 = true then X12_readsRule_j110 y16.2 else some (false, y16.2) else none else none
set_option maxRecDepth 100000 in
set_option maxHeartbeats 400000 in
theorem t_X12_readsRule_j33 {D : mm_D} {d : Nat} (hd : 7 ≤ d) (x1 : Int32) (M : mm_M) (res : (Bool × mm_M)) (h : X12_readsRule_j33 x1 M = some res) : mm_Go jX12_readsRule D d 0 0 33 [some (.inr 0), some (.inl x1)] [] S_m M (mm_Zi (mm_b res.1) S_m res.2) := by
  unfold X12_readsRule_j33 at h
  refine r_aload_n (q := 34) dX12_readsRule_33 rfl rfl ?_
  refine r_geti (v := (M 0 16)) (q := 37) lk_X12_223 dX12_readsRule_34 sc_m_0 rfl rfl rfl ?_
  refine r_bipush (v := 16) (q := 39) dX12_readsRule_37 (by decide) rfl ?_
  refine r_icmp_ne 52 (q := 42) dX12_readsRule_39 (by decide) rfl (fun c4 => ?_) (fun c4 => ?_)
  · rw [if_neg c4] at h
    refine r_aload_n (q := 53) dX12_readsRule_52 rfl rfl ?_
    refine r_getr (b := 10) (q := 56) lk_X12_38 dX12_readsRule_53 sc_m_0 rfl rfl ?_
    refine r_aload_n (q := 57) dX12_readsRule_56 rfl rfl ?_
    refine r_geti (v := (M 0 16)) (q := 60) lk_X12_223 dX12_readsRule_57 sc_m_0 rfl rfl rfl ?_
    refine r_iload_n (q := 61) dX12_readsRule_60 rfl rfl ?_
    obtain ⟨g7, h⟩ := mm_guard h
    refine r_iast (j := (Int32.toNatClampNeg (M 0 16))) (q := 62) dX12_readsRule_61 sc_m_10 (mm_vp g7) rfl rfl ?_
    refine r_aload_n (q := 63) dX12_readsRule_62 rfl rfl ?_
    refine r_aload_n (q := 64) dX12_readsRule_63 rfl rfl ?_
    refine r_geti (v := (M 0 9)) (q := 67) lk_X12_145 dX12_readsRule_64 sc_m_0 rfl rfl rfl ?_
    refine r_iconst (v := 1) (q := 68) dX12_readsRule_67 (by decide) rfl ?_
    refine r_iadd (q := 69) dX12_readsRule_68 rfl ?_
    refine r_puti (q := 72) lk_X12_145 ft_9_9 dX12_readsRule_69 sc_m_0 rfl rfl ?_
    refine r_aload_n (q := 73) dX12_readsRule_72 rfl rfl ?_
    refine r_getr (b := 11) (q := 76) lk_X12_41 dX12_readsRule_73 sc_m_0 rfl rfl ?_
    refine r_aload_n (q := 77) dX12_readsRule_76 rfl rfl ?_
    refine r_geti (v := (M 0 16)) (q := 80) lk_X12_223 dX12_readsRule_77 sc_m_0 rfl rfl rfl ?_
    refine r_aload_n (q := 81) dX12_readsRule_80 rfl rfl ?_
    refine r_geti (v := (M 0 14)) (q := 84) lk_X12_168 dX12_readsRule_81 sc_m_0 rfl rfl rfl ?_
    obtain ⟨g8, h⟩ := mm_guard h
    refine r_iast (j := (Int32.toNatClampNeg (M 0 16))) (q := 85) dX12_readsRule_84 sc_m_11 (mm_vp g8) rfl rfl ?_
    refine r_aload_n (q := 86) dX12_readsRule_85 rfl rfl ?_
    refine r_iconst (v := 0) (q := 87) dX12_readsRule_86 (by decide) rfl ?_
    refine r_puti (q := 90) lk_X12_172 ft_9_13 dX12_readsRule_87 sc_m_0 rfl rfl ?_
    refine r_aload_n (q := 91) dX12_readsRule_90 rfl rfl ?_
    refine r_iconst (v := 0) (q := 92) dX12_readsRule_91 (by decide) rfl ?_
    refine r_puti (q := 95) lk_X12_175 ft_9_15 dX12_readsRule_92 sc_m_0 rfl rfl ?_
    refine r_iload_n (q := 96) dX12_readsRule_95 rfl rfl ?_
    refine r_bipush (v := 120) (q := 98) dX12_readsRule_96 (by decide) rfl ?_
    refine r_icmp_eq 110 (q := 101) dX12_readsRule_98 (by decide) rfl (fun c9 => ?_) (fun c9 => ?_)
    · rw [if_pos c9] at h
      refine r_forget (L' := [some (.inr 0), none]) [true, false] rfl ?_
      exact t_X12_readsRule_j110 hd (mm_U (mm_U (mm_U (mm_U (mm_U M 10 (Int32.toNatClampNeg (M 0 16)) x1) 0 9 ((M 0 9) + 1)) 11 (Int32.toNatClampNeg (M 0 16)) (M 0 14)) 0 13 0) 0 15 0) _ h
    · rw [if_neg c9] at h
      refine r_aload_n (q := 102) dX12_readsRule_101 rfl rfl ?_
      obtain ⟨y16, e15, h⟩ := Option.bind_eq_some_iff.mp h
      refine r_callV_i (av := []) (st := []) (q := 105) (d1 := 4) kc_X12_208 sc_m_0 dX12_readsRule_102 rfl rfl (Nat.le_of_ble_eq_true rfl) (Nat.le_of_ble_eq_true rfl) (by omega) rfl rfl (t_X12_readsSum (d := 4) (by omega) (mm_U (mm_U (mm_U (mm_U (mm_U M 10 (Int32.toNatClampNeg (M 0 16)) x1) 0 9 ((M 0 9) + 1)) 11 (Int32.toNatClampNeg (M 0 16)) (M 0 14)) 0 13 0) 0 15 0) _ e15) ?_
      refine r_if_ne 110 (q := 108) dX12_readsRule_105 (by decide) rfl (fun c17 => ?_) (fun c17 => ?_)
      · rw [if_pos (mm_b1 c17)] at h
        refine r_forget (L' := [some (.inr 0), none]) [true, false] rfl ?_
        exact t_X12_readsRule_j110 hd y16.2 _ h
      · rw [if_neg (mm_b0 c17)] at h
        refine r_iconst (v := 0) (q := 109) dX12_readsRule_108 (by decide) rfl ?_
        cases h
        exact r_retb dX12_readsRule_109 rfl (Or.inl rfl) mm_Zi_rfl
  · rw [if_pos c4] at h
    refine r_aload_n (q := 43) dX12_readsRule_42 rfl rfl ?_
    refine r_iconst (v := 4) (q := 44) dX12_readsRule_43 (by decide) rfl ?_
    refine r_aload_n (q := 45) dX12_readsRule_44 rfl rfl ?_
    refine r_geti (v := (M 0 9)) (q := 48) lk_X12_145 dX12_readsRule_45 sc_m_0 rfl rfl rfl ?_
    obtain ⟨y6, e5, h⟩ := mm_let_elim h
    refine r_callV_i (av := [(.inl 4), (.inl (M 0 9))]) (st := []) (q := 51) (d1 := 0) kc_X12_158 sc_m_0 dX12_readsRule_48 rfl rfl (Nat.le_of_ble_eq_true rfl) (Nat.le_of_ble_eq_true rfl) (by omega) rfl rfl (t_X12_wrongAt (d := 0) (by omega) 4 (M 0 9) M _ e5) ?_
    cases h
    exact r_retb dX12_readsRule_51 rfl (mm_b01 _) mm_Zi_rfl
noncomputable def X12_readsRule (M : mm_M) : Option (Bool × mm_M) := (X12_here M).bind fun y2 => if y2 = 101 then X12_readsRule_j33 y2 M else if y2 = 103 then X12_readsRule_j33 y2 M else if y2 = 120 then X12_readsRule_j33 y2 M else mm_let (X12_wrongAt 1 (M 0 9) M) fun y21 => some (y21.1, y21.2)
set_option maxRecDepth 100000 in
set_option maxHeartbeats 400000 in
theorem t_X12_readsRule {d : Nat} (hd : 7 ≤ d) (M : mm_M) (res : (Bool × mm_M)) (h : X12_readsRule M = some res) : mm_Meth jX12_readsRule d 0 0 [(.inr 0)] S_m M (mm_Zi (mm_b res.1) S_m res.2) := by
  refine r_meth (L := [some (.inr 0), none]) rfl (fun D => ?_)
  unfold X12_readsRule at h
  refine r_aload_n (q := 1) dX12_readsRule_0 rfl rfl ?_
  obtain ⟨y2, e1, h⟩ := Option.bind_eq_some_iff.mp h
  refine r_callV_i (av := []) (st := []) (q := 4) (d1 := 0) kc_X12_151 sc_m_0 dX12_readsRule_1 rfl rfl (Nat.le_of_ble_eq_true rfl) (Nat.le_of_ble_eq_true rfl) (by omega) rfl rfl (t_X12_here (d := 0) (by omega) M _ e1) ?_
  refine r_istore_n (q := 5) (L' := [some (.inr 0), some (.inl y2)]) dX12_readsRule_4 (by decide) rfl rfl ?_
  refine r_iload_n (q := 6) dX12_readsRule_5 rfl rfl ?_
  refine r_bipush (v := 101) (q := 8) dX12_readsRule_6 (by decide) rfl ?_
  refine r_icmp_eq 33 (q := 11) dX12_readsRule_8 (by decide) rfl (fun c3 => ?_) (fun c3 => ?_)
  · rw [if_pos c3] at h
    exact t_X12_readsRule_j33 hd y2 M _ h
  · rw [if_neg c3] at h
    refine r_iload_n (q := 12) dX12_readsRule_11 rfl rfl ?_
    refine r_bipush (v := 103) (q := 14) dX12_readsRule_12 (by decide) rfl ?_
    refine r_icmp_eq 33 (q := 17) dX12_readsRule_14 (by decide) rfl (fun c18 => ?_) (fun c18 => ?_)
    · rw [if_pos c18] at h
      exact t_X12_readsRule_j33 hd y2 M _ h
    · rw [if_neg c18] at h
      refine r_iload_n (q := 18) dX12_readsRule_17 rfl rfl ?_
      refine r_bipush (v := 120) (q := 20) dX12_readsRule_18 (by decide) rfl ?_
      refine r_icmp_eq 33 (q := 23) dX12_readsRule_20 (by decide) rfl (fun c19 => ?_) (fun c19 => ?_)
      · rw [if_pos c19] at h
        exact t_X12_readsRule_j33 hd y2 M _ h
      · rw [if_neg c19] at h
        refine r_aload_n (q := 24) dX12_readsRule_23 rfl rfl ?_
        refine r_iconst (v := 1) (q := 25) dX12_readsRule_24 (by decide) rfl ?_
        refine r_aload_n (q := 26) dX12_readsRule_25 rfl rfl ?_
        refine r_geti (v := (M 0 9)) (q := 29) lk_X12_145 dX12_readsRule_26 sc_m_0 rfl rfl rfl ?_
        obtain ⟨y21, e20, h⟩ := mm_let_elim h
        refine r_callV_i (av := [(.inl 1), (.inl (M 0 9))]) (st := []) (q := 32) (d1 := 0) kc_X12_158 sc_m_0 dX12_readsRule_29 rfl rfl (Nat.le_of_ble_eq_true rfl) (Nat.le_of_ble_eq_true rfl) (by omega) rfl rfl (t_X12_wrongAt (d := 0) (by omega) 1 (M 0 9) M _ e20) ?_
        cases h
        exact r_retb dX12_readsRule_32 rfl (mm_b01 _) mm_Zi_rfl
noncomputable def X12_takes (x1 : Int32) (M : mm_M) : Option (Bool × mm_M) := (X12_here M).bind fun y2 => if y2 = x1 then some (true, (mm_U M 0 9 ((M 0 9) + 1))) else mm_let (X12_wrongAt 1 (M 0 9) M) fun y5 => some (y5.1, y5.2)
set_option maxRecDepth 100000 in
set_option maxHeartbeats 400000 in
theorem t_X12_takes {d : Nat} (hd : 1 ≤ d) (x1 : Int32) (M : mm_M) (res : (Bool × mm_M)) (h : X12_takes x1 M = some res) : mm_Meth jX12_takes d 0 0 [(.inr 0), (.inl x1)] S_m M (mm_Zi (mm_b res.1) S_m res.2) := by
  refine r_meth (L := [some (.inr 0), some (.inl x1)]) rfl (fun D => ?_)
  unfold X12_takes at h
  refine r_aload_n (q := 1) dX12_takes_0 rfl rfl ?_
  obtain ⟨y2, e1, h⟩ := Option.bind_eq_some_iff.mp h
  refine r_callV_i (av := []) (st := []) (q := 4) (d1 := 0) kc_X12_151 sc_m_0 dX12_takes_1 rfl rfl (Nat.le_of_ble_eq_true rfl) (Nat.le_of_ble_eq_true rfl) (by omega) rfl rfl (t_X12_here (d := 0) (by omega) M _ e1) ?_
  refine r_iload_n (q := 5) dX12_takes_4 rfl rfl ?_
  refine r_icmp_eq 18 (q := 8) dX12_takes_5 (by decide) rfl (fun c3 => ?_) (fun c3 => ?_)
  · rw [if_pos c3] at h
    refine r_aload_n (q := 19) dX12_takes_18 rfl rfl ?_
    refine r_aload_n (q := 20) dX12_takes_19 rfl rfl ?_
    refine r_geti (v := (M 0 9)) (q := 23) lk_X12_145 dX12_takes_20 sc_m_0 rfl rfl rfl ?_
    refine r_iconst (v := 1) (q := 24) dX12_takes_23 (by decide) rfl ?_
    refine r_iadd (q := 25) dX12_takes_24 rfl ?_
    refine r_puti (q := 28) lk_X12_145 ft_9_9 dX12_takes_25 sc_m_0 rfl rfl ?_
    refine r_iconst (v := 1) (q := 29) dX12_takes_28 (by decide) rfl ?_
    cases h
    exact r_retb dX12_takes_29 rfl (Or.inr rfl) mm_Zi_rfl
  · rw [if_neg c3] at h
    refine r_aload_n (q := 9) dX12_takes_8 rfl rfl ?_
    refine r_iconst (v := 1) (q := 10) dX12_takes_9 (by decide) rfl ?_
    refine r_aload_n (q := 11) dX12_takes_10 rfl rfl ?_
    refine r_geti (v := (M 0 9)) (q := 14) lk_X12_145 dX12_takes_11 sc_m_0 rfl rfl rfl ?_
    obtain ⟨y5, e4, h⟩ := mm_let_elim h
    refine r_callV_i (av := [(.inl 1), (.inl (M 0 9))]) (st := []) (q := 17) (d1 := 0) kc_X12_158 sc_m_0 dX12_takes_14 rfl rfl (Nat.le_of_ble_eq_true rfl) (Nat.le_of_ble_eq_true rfl) (by omega) rfl rfl (t_X12_wrongAt (d := 0) (by omega) 1 (M 0 9) M _ e4) ?_
    cases h
    exact r_retb dX12_takes_17 rfl (mm_b01 _) mm_Zi_rfl
noncomputable def X12_law_l31 (s : (Bool × mm_M)) : Option ((Bool × mm_M) ⊕ (Bool × mm_M)) := if s.1 = true then if (s.2 0 10) ≤ (s.2 0 9) then some (.inr (s.1, s.2)) else (X12_takes 59 s.2).bind fun y10 => if y10.1 = true then (X12_readsRule y10.2).bind fun y13 => if y13.1 = true then some (.inl (true, y13.2)) else some (.inl (false, y13.2)) else some (.inl (false, y10.2)) else some (.inr (s.1, s.2))
set_option maxRecDepth 100000 in
set_option maxHeartbeats 400000 in
theorem t_X12_law_l31 {D : mm_D} {d : Nat} (hd : 8 ≤ d) {Z : Option Int32 → List mm_C → mm_M → Prop} (n : Nat) (s : (Bool × mm_M)) (r : (Bool × mm_M)) (h : mm_loop (X12_law_l31) n s = some r) (hx : mm_Go jX12_law D d 0 0 71 [some (.inr 0), none, some (.inl (mm_b r.1)), none] [] S_m r.2 Z) : mm_Go jX12_law D d 0 0 31 [some (.inr 0), none, some (.inl (mm_b s.1)), none] [] S_m s.2 Z := by
  refine mm_loop_go (step := X12_law_l31) (Hd := fun (s : (Bool × mm_M)) => mm_Go jX12_law D d 0 0 31 [some (.inr 0), none, some (.inl (mm_b s.1)), none] [] S_m s.2 Z) (Ex := fun (r : (Bool × mm_M)) => mm_Go jX12_law D d 0 0 71 [some (.inr 0), none, some (.inl (mm_b r.1)), none] [] S_m r.2 Z) ?_ n s r h hx
  intro s o h kb ke
  show mm_Go jX12_law D d 0 0 31 [some (.inr 0), none, some (.inl (mm_b s.1)), none] [] S_m s.2 Z
  unfold X12_law_l31 at h
  refine r_iload_n (q := 32) dX12_law_31 rfl rfl ?_
  refine r_if_eq 71 (q := 35) dX12_law_32 (by decide) rfl (fun c7 => ?_) (fun c7 => ?_)
  · rw [if_neg (mm_b0 c7)] at h
    cases h
    have hk := ke _ rfl
    exact hk
  · rw [if_pos (mm_b1 c7)] at h
    refine r_aload_n (q := 36) dX12_law_35 rfl rfl ?_
    refine r_geti (v := (s.2 0 9)) (q := 39) lk_X12_145 dX12_law_36 sc_m_0 rfl rfl rfl ?_
    refine r_aload_n (q := 40) dX12_law_39 rfl rfl ?_
    refine r_geti (v := (s.2 0 10)) (q := 43) lk_X12_148 dX12_law_40 sc_m_0 rfl rfl rfl ?_
    refine r_icmp_ge 71 (q := 46) dX12_law_43 (by decide) rfl (fun c8 => ?_) (fun c8 => ?_)
    · rw [if_pos c8] at h
      cases h
      have hk := ke _ rfl
      exact hk
    · rw [if_neg c8] at h
      refine r_aload_n (q := 47) dX12_law_46 rfl rfl ?_
      refine r_bipush (v := 59) (q := 49) dX12_law_47 (by decide) rfl ?_
      obtain ⟨y10, e9, h⟩ := Option.bind_eq_some_iff.mp h
      refine r_callV_i (av := [(.inl 59)]) (st := []) (q := 52) (d1 := 1) kc_X12_235 sc_m_0 dX12_law_49 rfl rfl (Nat.le_of_ble_eq_true rfl) (Nat.le_of_ble_eq_true rfl) (by omega) rfl rfl (t_X12_takes (d := 1) (by omega) 59 s.2 _ e9) ?_
      refine r_if_eq 66 (q := 55) dX12_law_52 (by decide) rfl (fun c11 => ?_) (fun c11 => ?_)
      · rw [if_neg (mm_b0 c11)] at h
        refine r_iconst (v := 0) (q := 67) dX12_law_66 (by decide) rfl ?_
        refine r_istore_n (q := 68) (L' := [some (.inr 0), none, some (.inl 0), none]) dX12_law_67 (by decide) rfl rfl ?_
        refine r_goto 31 dX12_law_68 (by decide) ?_
        cases h
        have hk := kb _ rfl
        exact hk
      · rw [if_pos (mm_b1 c11)] at h
        refine r_aload_n (q := 56) dX12_law_55 rfl rfl ?_
        obtain ⟨y13, e12, h⟩ := Option.bind_eq_some_iff.mp h
        refine r_callV_i (av := []) (st := []) (q := 59) (d1 := 7) kc_X12_232 sc_m_0 dX12_law_56 rfl rfl (Nat.le_of_ble_eq_true rfl) (Nat.le_of_ble_eq_true rfl) (by omega) rfl rfl (t_X12_readsRule (d := 7) (by omega) y10.2 _ e12) ?_
        refine r_if_eq 66 (q := 62) dX12_law_59 (by decide) rfl (fun c14 => ?_) (fun c14 => ?_)
        · rw [if_neg (mm_b0 c14)] at h
          refine r_iconst (v := 0) (q := 67) dX12_law_66 (by decide) rfl ?_
          refine r_istore_n (q := 68) (L' := [some (.inr 0), none, some (.inl 0), none]) dX12_law_67 (by decide) rfl rfl ?_
          refine r_goto 31 dX12_law_68 (by decide) ?_
          cases h
          have hk := kb _ rfl
          exact hk
        · rw [if_pos (mm_b1 c14)] at h
          refine r_iconst (v := 1) (q := 63) dX12_law_62 (by decide) rfl ?_
          refine r_goto 67 dX12_law_63 (by decide) ?_
          refine r_istore_n (q := 68) (L' := [some (.inr 0), none, some (.inl 1), none]) dX12_law_67 (by decide) rfl rfl ?_
          refine r_goto 31 dX12_law_68 (by decide) ?_
          cases h
          have hk := kb _ rfl
          exact hk
noncomputable def X12_law_l95 (s : (Int32 × mm_M)) : Option ((Int32 × mm_M) ⊕ mm_M) := if (s.2 0 14) ≤ s.1 then some (.inr s.2) else if mm_in s.1 260 = true then if mm_in s.1 260 = true then some (.inl ((s.1 + 1), (mm_U s.2 14 (Int32.toNatClampNeg s.1) (s.2 8 (Int32.toNatClampNeg s.1))))) else none else none
set_option maxRecDepth 100000 in
set_option maxHeartbeats 400000 in
theorem t_X12_law_l95 {D : mm_D} {d : Nat} (hd : 8 ≤ d) {Z : Option Int32 → List mm_C → mm_M → Prop} (n : Nat) (s : (Int32 × mm_M)) (r : mm_M) (h : mm_loop (X12_law_l95) n s = some r) (hx : mm_Go jX12_law D d 0 0 121 [some (.inr 0), none, none, none] [] S_m r Z) : mm_Go jX12_law D d 0 0 95 [some (.inr 0), none, none, some (.inl s.1)] [] S_m s.2 Z := by
  refine mm_loop_go (step := X12_law_l95) (Hd := fun (s : (Int32 × mm_M)) => mm_Go jX12_law D d 0 0 95 [some (.inr 0), none, none, some (.inl s.1)] [] S_m s.2 Z) (Ex := fun (r : mm_M) => mm_Go jX12_law D d 0 0 121 [some (.inr 0), none, none, none] [] S_m r Z) ?_ n s r h hx
  intro s o h kb ke
  show mm_Go jX12_law D d 0 0 95 [some (.inr 0), none, none, some (.inl s.1)] [] S_m s.2 Z
  unfold X12_law_l95 at h
  refine r_iload_n (q := 96) dX12_law_95 rfl rfl ?_
  refine r_aload_n (q := 97) dX12_law_96 rfl rfl ?_
  refine r_geti (v := (s.2 0 14)) (q := 100) lk_X12_168 dX12_law_97 sc_m_0 rfl rfl rfl ?_
  refine r_icmp_ge 121 (q := 103) dX12_law_100 (by decide) rfl (fun c18 => ?_) (fun c18 => ?_)
  · rw [if_pos c18] at h
    refine r_forget (L' := [some (.inr 0), none, none, none]) [true, false, false, false] rfl ?_
    cases h
    have hk := ke _ rfl
    exact hk
  · rw [if_neg c18] at h
    refine r_aload_n (q := 104) dX12_law_103 rfl rfl ?_
    refine r_getr (b := 14) (q := 107) lk_X12_50 dX12_law_104 sc_m_0 rfl rfl ?_
    refine r_iload_n (q := 108) dX12_law_107 rfl rfl ?_
    refine r_aload_n (q := 109) dX12_law_108 rfl rfl ?_
    refine r_getr (b := 8) (q := 112) lk_X12_32 dX12_law_109 sc_m_0 rfl rfl ?_
    refine r_iload_n (q := 113) dX12_law_112 rfl rfl ?_
    obtain ⟨g19, h⟩ := mm_guard h
    refine r_iald (v := (s.2 8 (Int32.toNatClampNeg s.1))) (q := 114) dX12_law_113 sc_m_8 (mm_vp g19) rfl rfl ?_
    obtain ⟨g20, h⟩ := mm_guard h
    refine r_iast (j := (Int32.toNatClampNeg s.1)) (q := 115) dX12_law_114 sc_m_14 (mm_vp g20) rfl rfl ?_
    refine r_iinc (v := 1) (q := 118) (L' := [some (.inr 0), none, none, some (.inl (s.1 + 1))]) dX12_law_115 (by decide) (by decide) rfl rfl rfl ?_
    refine r_goto 95 dX12_law_118 (by decide) ?_
    cases h
    have hk := kb _ rfl
    exact hk
noncomputable def X12_law_l123 (s : (Int32 × mm_M)) : Option ((Int32 × mm_M) ⊕ (Int32 × mm_M)) := if (s.2 0 16) ≤ s.1 then some (.inr ((s.2 0 16), s.2)) else if mm_in s.1 16 = true then if mm_in s.1 16 = true then if mm_in s.1 16 = true then if mm_in s.1 16 = true then if mm_in s.1 16 = true then if mm_in s.1 16 = true then if mm_in s.1 16 = true then if mm_in s.1 16 = true then some (.inl ((s.1 + 1), (mm_U (mm_U (mm_U (mm_U s.2 15 (Int32.toNatClampNeg s.1) (s.2 10 (Int32.toNatClampNeg s.1))) 16 (Int32.toNatClampNeg s.1) (s.2 11 (Int32.toNatClampNeg s.1))) 17 (Int32.toNatClampNeg s.1) (s.2 12 (Int32.toNatClampNeg s.1))) 18 (Int32.toNatClampNeg s.1) (s.2 13 (Int32.toNatClampNeg s.1))))) else none else none else none else none else none else none else none else none
set_option maxRecDepth 100000 in
set_option maxHeartbeats 400000 in
theorem t_X12_law_l123 {D : mm_D} {d : Nat} (hd : 8 ≤ d) {Z : Option Int32 → List mm_C → mm_M → Prop} (n : Nat) (s : (Int32 × mm_M)) (r : (Int32 × mm_M)) (h : mm_loop (X12_law_l123) n s = some r) (hx : Z (some r.1) S_m r.2) : mm_Go jX12_law D d 0 0 123 [some (.inr 0), none, none, some (.inl s.1)] [] S_m s.2 Z := by
  refine mm_loop_go (step := X12_law_l123) (Hd := fun (s : (Int32 × mm_M)) => mm_Go jX12_law D d 0 0 123 [some (.inr 0), none, none, some (.inl s.1)] [] S_m s.2 Z) (Ex := fun (r : (Int32 × mm_M)) => Z (some r.1) S_m r.2) ?_ n s r h hx
  intro s o h kb ke
  show mm_Go jX12_law D d 0 0 123 [some (.inr 0), none, none, some (.inl s.1)] [] S_m s.2 Z
  unfold X12_law_l123 at h
  refine r_iload_n (q := 124) dX12_law_123 rfl rfl ?_
  refine r_aload_n (q := 125) dX12_law_124 rfl rfl ?_
  refine r_geti (v := (s.2 0 16)) (q := 128) lk_X12_223 dX12_law_125 sc_m_0 rfl rfl rfl ?_
  refine r_icmp_ge 185 (q := 131) dX12_law_128 (by decide) rfl (fun c23 => ?_) (fun c23 => ?_)
  · rw [if_pos c23] at h
    refine r_aload_n (q := 186) dX12_law_185 rfl rfl ?_
    refine r_geti (v := (s.2 0 16)) (q := 189) lk_X12_223 dX12_law_186 sc_m_0 rfl rfl rfl ?_
    cases h
    have hk := ke _ rfl
    exact r_ret dX12_law_189 rfl hk
  · rw [if_neg c23] at h
    refine r_aload_n (q := 132) dX12_law_131 rfl rfl ?_
    refine r_getr (b := 15) (q := 135) lk_X12_53 dX12_law_132 sc_m_0 rfl rfl ?_
    refine r_iload_n (q := 136) dX12_law_135 rfl rfl ?_
    refine r_aload_n (q := 137) dX12_law_136 rfl rfl ?_
    refine r_getr (b := 10) (q := 140) lk_X12_38 dX12_law_137 sc_m_0 rfl rfl ?_
    refine r_iload_n (q := 141) dX12_law_140 rfl rfl ?_
    obtain ⟨g24, h⟩ := mm_guard h
    refine r_iald (v := (s.2 10 (Int32.toNatClampNeg s.1))) (q := 142) dX12_law_141 sc_m_10 (mm_vp g24) rfl rfl ?_
    obtain ⟨g25, h⟩ := mm_guard h
    refine r_iast (j := (Int32.toNatClampNeg s.1)) (q := 143) dX12_law_142 sc_m_15 (mm_vp g25) rfl rfl ?_
    refine r_aload_n (q := 144) dX12_law_143 rfl rfl ?_
    refine r_getr (b := 16) (q := 147) lk_X12_56 dX12_law_144 sc_m_0 rfl rfl ?_
    refine r_iload_n (q := 148) dX12_law_147 rfl rfl ?_
    refine r_aload_n (q := 149) dX12_law_148 rfl rfl ?_
    refine r_getr (b := 11) (q := 152) lk_X12_41 dX12_law_149 sc_m_0 rfl rfl ?_
    refine r_iload_n (q := 153) dX12_law_152 rfl rfl ?_
    obtain ⟨g26, h⟩ := mm_guard h
    refine r_iald (v := (s.2 11 (Int32.toNatClampNeg s.1))) (q := 154) dX12_law_153 sc_m_11 (mm_vp g26) rfl rfl ?_
    obtain ⟨g27, h⟩ := mm_guard h
    refine r_iast (j := (Int32.toNatClampNeg s.1)) (q := 155) dX12_law_154 sc_m_16 (mm_vp g27) rfl rfl ?_
    refine r_aload_n (q := 156) dX12_law_155 rfl rfl ?_
    refine r_getr (b := 17) (q := 159) lk_X12_59 dX12_law_156 sc_m_0 rfl rfl ?_
    refine r_iload_n (q := 160) dX12_law_159 rfl rfl ?_
    refine r_aload_n (q := 161) dX12_law_160 rfl rfl ?_
    refine r_getr (b := 12) (q := 164) lk_X12_44 dX12_law_161 sc_m_0 rfl rfl ?_
    refine r_iload_n (q := 165) dX12_law_164 rfl rfl ?_
    obtain ⟨g28, h⟩ := mm_guard h
    refine r_iald (v := (s.2 12 (Int32.toNatClampNeg s.1))) (q := 166) dX12_law_165 sc_m_12 (mm_vp g28) rfl rfl ?_
    obtain ⟨g29, h⟩ := mm_guard h
    refine r_iast (j := (Int32.toNatClampNeg s.1)) (q := 167) dX12_law_166 sc_m_17 (mm_vp g29) rfl rfl ?_
    refine r_aload_n (q := 168) dX12_law_167 rfl rfl ?_
    refine r_getr (b := 18) (q := 171) lk_X12_62 dX12_law_168 sc_m_0 rfl rfl ?_
    refine r_iload_n (q := 172) dX12_law_171 rfl rfl ?_
    refine r_aload_n (q := 173) dX12_law_172 rfl rfl ?_
    refine r_getr (b := 13) (q := 176) lk_X12_47 dX12_law_173 sc_m_0 rfl rfl ?_
    refine r_iload_n (q := 177) dX12_law_176 rfl rfl ?_
    obtain ⟨g30, h⟩ := mm_guard h
    refine r_iald (v := (s.2 13 (Int32.toNatClampNeg s.1))) (q := 178) dX12_law_177 sc_m_13 (mm_vp g30) rfl rfl ?_
    obtain ⟨g31, h⟩ := mm_guard h
    refine r_iast (j := (Int32.toNatClampNeg s.1)) (q := 179) dX12_law_178 sc_m_18 (mm_vp g31) rfl rfl ?_
    refine r_iinc (v := 1) (q := 182) (L' := [some (.inr 0), none, none, some (.inl (s.1 + 1))]) dX12_law_179 (by decide) (by decide) rfl rfl rfl ?_
    refine r_goto 123 dX12_law_182 (by decide) ?_
    cases h
    have hk := kb _ rfl
    exact hk
noncomputable def X12_law_j71 (x2 : Bool) (M : mm_M) : Option (Int32 × mm_M) := if x2 = true then (mm_loop (X12_law_l95) mm_fuel (0, (mm_U (mm_U M 0 8 0) 0 17 (M 0 16)))).bind fun y21 => (mm_loop (X12_law_l123) mm_fuel (0, y21)) else some ((M 0 11), (mm_U M 0 8 0))
set_option maxRecDepth 100000 in
set_option maxHeartbeats 400000 in
theorem t_X12_law_j71 {D : mm_D} {d : Nat} (hd : 8 ≤ d) (x2 : Bool) (M : mm_M) (res : (Int32 × mm_M)) (h : X12_law_j71 x2 M = some res) : mm_Go jX12_law D d 0 0 71 [some (.inr 0), none, some (.inl (mm_b x2)), none] [] S_m M (mm_Zi res.1 S_m res.2) := by
  unfold X12_law_j71 at h
  refine r_aload_n (q := 72) dX12_law_71 rfl rfl ?_
  refine r_iconst (v := 0) (q := 73) dX12_law_72 (by decide) rfl ?_
  refine r_puti (q := 76) lk_X12_138 ft_9_8 dX12_law_73 sc_m_0 rfl rfl ?_
  refine r_iload_n (q := 77) dX12_law_76 rfl rfl ?_
  refine r_if_ne 85 (q := 80) dX12_law_77 (by decide) rfl (fun c17 => ?_) (fun c17 => ?_)
  · rw [if_pos (mm_b1 c17)] at h
    refine r_aload_n (q := 86) dX12_law_85 rfl rfl ?_
    refine r_aload_n (q := 87) dX12_law_86 rfl rfl ?_
    refine r_geti (v := (M 0 16)) (q := 90) lk_X12_223 dX12_law_87 sc_m_0 rfl rfl rfl ?_
    refine r_puti (q := 93) lk_X12_238 ft_9_17 dX12_law_90 sc_m_0 rfl rfl ?_
    refine r_iconst (v := 0) (q := 94) dX12_law_93 (by decide) rfl ?_
    refine r_istore_n (q := 95) (L' := [some (.inr 0), none, some (.inl (mm_b x2)), some (.inl 0)]) dX12_law_94 (by decide) rfl rfl ?_
    refine r_forget (L' := [some (.inr 0), none, none, some (.inl 0)]) [true, false, false, true] rfl ?_
    obtain ⟨y21, e22, h⟩ := Option.bind_eq_some_iff.mp h
    refine t_X12_law_l95 hd mm_fuel (0, (mm_U (mm_U M 0 8 0) 0 17 (M 0 16))) _ e22 ?_
    show mm_Go jX12_law _ _ _ _ 121 [some (.inr 0), none, none, none] [] S_m y21 _
    refine r_iconst (v := 0) (q := 122) dX12_law_121 (by decide) rfl ?_
    refine r_istore_n (q := 123) (L' := [some (.inr 0), none, none, some (.inl 0)]) dX12_law_122 (by decide) rfl rfl ?_
    exact t_X12_law_l123 hd mm_fuel (0, y21) _ h mm_Zi_rfl
  · rw [if_neg (mm_b0 c17)] at h
    refine r_aload_n (q := 81) dX12_law_80 rfl rfl ?_
    refine r_geti (v := (M 0 11)) (q := 84) lk_X12_155 dX12_law_81 sc_m_0 rfl rfl rfl ?_
    cases h
    exact r_ret dX12_law_84 rfl mm_Zi_rfl
noncomputable def X12_law (x1 : Int32) (M : mm_M) : Option (Int32 × mm_M) := if (X12_in x1 1 240) = true then if x1 ≤ (M 0 8) then mm_let (X12_beginsText x1 M) fun y4 => (X12_readsRule y4).bind fun y6 => (mm_loop (X12_law_l31) mm_fuel (y6.1, y6.2)).bind fun y15 => X12_law_j71 y15.1 y15.2 else some ((-1), M) else some ((-1), M)
set_option maxRecDepth 100000 in
set_option maxHeartbeats 400000 in
theorem t_X12_law {d : Nat} (hd : 8 ≤ d) (x1 : Int32) (M : mm_M) (res : (Int32 × mm_M)) (h : X12_law x1 M = some res) : mm_Meth jX12_law d 0 0 [(.inr 0), (.inl x1)] S_m M (mm_Zi res.1 S_m res.2) := by
  refine r_meth (L := [some (.inr 0), some (.inl x1), none, none]) rfl (fun D => ?_)
  unfold X12_law at h
  refine r_iload_n (q := 1) dX12_law_0 rfl rfl ?_
  refine r_iconst (v := 1) (q := 2) dX12_law_1 (by decide) rfl ?_
  refine r_sipush (v := 240) (q := 5) dX12_law_2 (by decide) rfl ?_
  refine r_callS_i (av := [(.inl x1), (.inl 1), (.inl 240)]) (st := []) (q := 8) (d1 := 0) kc_X12_127 dX12_law_5 rfl rfl (Nat.le_of_ble_eq_true rfl) (Nat.le_of_ble_eq_true rfl) (by omega) rfl rfl (t_X12_in (d := 0) (by omega) x1 1 240 M _ rfl) ?_
  refine r_if_eq 19 (q := 11) dX12_law_8 (by decide) rfl (fun c1 => ?_) (fun c1 => ?_)
  · rw [if_neg (mm_b0 c1)] at h
    refine r_iconst (v := (-1)) (q := 20) dX12_law_19 (by decide) rfl ?_
    cases h
    exact r_ret dX12_law_20 rfl mm_Zi_rfl
  · rw [if_pos (mm_b1 c1)] at h
    refine r_iload_n (q := 12) dX12_law_11 rfl rfl ?_
    refine r_aload_n (q := 13) dX12_law_12 rfl rfl ?_
    refine r_geti (v := (M 0 8)) (q := 16) lk_X12_138 dX12_law_13 sc_m_0 rfl rfl rfl ?_
    refine r_icmp_le 21 (q := 19) dX12_law_16 (by decide) rfl (fun c2 => ?_) (fun c2 => ?_)
    · rw [if_pos c2] at h
      refine r_aload_n (q := 22) dX12_law_21 rfl rfl ?_
      refine r_iload_n (q := 23) dX12_law_22 rfl rfl ?_
      obtain ⟨y4, e3, h⟩ := mm_let_elim h
      refine r_callV_v (av := [(.inl x1)]) (st := []) (q := 26) (d1 := 0) kc_X12_229 sc_m_0 dX12_law_23 rfl rfl (Nat.le_of_ble_eq_true rfl) (Nat.le_of_ble_eq_true rfl) (by omega) rfl rfl (t_X12_beginsText (d := 0) (by omega) x1 M _ e3) ?_
      refine r_aload_n (q := 27) dX12_law_26 rfl rfl ?_
      obtain ⟨y6, e5, h⟩ := Option.bind_eq_some_iff.mp h
      refine r_callV_i (av := []) (st := []) (q := 30) (d1 := 7) kc_X12_232 sc_m_0 dX12_law_27 rfl rfl (Nat.le_of_ble_eq_true rfl) (Nat.le_of_ble_eq_true rfl) (by omega) rfl rfl (t_X12_readsRule (d := 7) (by omega) y4 _ e5) ?_
      refine r_istore_n (q := 31) (L' := [some (.inr 0), some (.inl x1), some (.inl (mm_b y6.1)), none]) dX12_law_30 (by decide) rfl rfl ?_
      refine r_forget (L' := [some (.inr 0), none, some (.inl (mm_b y6.1)), none]) [true, false, true, false] rfl ?_
      obtain ⟨y15, e16, h⟩ := Option.bind_eq_some_iff.mp h
      refine t_X12_law_l31 hd mm_fuel (y6.1, y6.2) _ e16 ?_
      show mm_Go jX12_law _ _ _ _ 71 [some (.inr 0), none, some (.inl (mm_b y15.1)), none] [] S_m y15.2 _
      exact t_X12_law_j71 hd y15.1 y15.2 _ h
    · rw [if_neg c2] at h
      refine r_iconst (v := (-1)) (q := 20) dX12_law_19 (by decide) rfl ?_
      cases h
      exact r_ret dX12_law_20 rfl mm_Zi_rfl
noncomputable def X12_readsStates_l27 (x1 : Int32) (s : mm_M) : Option (mm_M ⊕ ((Bool × mm_M) ⊕ mm_M)) := (X12_isDigit s).bind fun y5 => if y5 = true then if (s 0 9) = (x1 + 2) then mm_let (X12_wrongAt 2 (s 0 9) s) fun y9 => some (.inr (.inl (y9.1, y9.2))) else (X12_here s).bind fun y11 => some (.inl (mm_U (mm_U s 0 33 ((((10 : Int32) * (s 0 33)) + y11) - 48)) 0 9 ((s 0 9) + 1))) else some (.inr (.inr s))
set_option maxRecDepth 100000 in
set_option maxHeartbeats 400000 in
theorem t_X12_readsStates_l27 {D : mm_D} {d : Nat} (hd : 2 ≤ d) {Z : Option Int32 → List mm_C → mm_M → Prop} (x1 : Int32) (n : Nat) (s : mm_M) (r : ((Bool × mm_M) ⊕ mm_M)) (h : mm_loop (X12_readsStates_l27 x1) n s = some r) (hx : (Sum.elim (fun (y : (Bool × mm_M)) => Z (some (mm_b y.1)) S_m y.2) (fun (s : mm_M) => mm_Go jX12_readsStates D d 0 0 86 [some (.inr 0), some (.inl x1)] [] S_m s Z) r)) : mm_Go jX12_readsStates D d 0 0 27 [some (.inr 0), some (.inl x1)] [] S_m s Z := by
  refine mm_loop_go (step := X12_readsStates_l27 x1) (Hd := fun (s : mm_M) => mm_Go jX12_readsStates D d 0 0 27 [some (.inr 0), some (.inl x1)] [] S_m s Z) (Ex := fun (r : ((Bool × mm_M) ⊕ mm_M)) => (Sum.elim (fun (y : (Bool × mm_M)) => Z (some (mm_b y.1)) S_m y.2) (fun (s : mm_M) => mm_Go jX12_readsStates D d 0 0 86 [some (.inr 0), some (.inl x1)] [] S_m s Z) r)) ?_ n s r h hx
  intro s o h kb ke
  show mm_Go jX12_readsStates D d 0 0 27 [some (.inr 0), some (.inl x1)] [] S_m s Z
  unfold X12_readsStates_l27 at h
  refine r_aload_n (q := 28) dX12_readsStates_27 rfl rfl ?_
  obtain ⟨y5, e4, h⟩ := Option.bind_eq_some_iff.mp h
  refine r_callV_i (av := []) (st := []) (q := 31) (d1 := 1) kc_X12_164 sc_m_0 dX12_readsStates_28 rfl rfl (Nat.le_of_ble_eq_true rfl) (Nat.le_of_ble_eq_true rfl) (by omega) rfl rfl (t_X12_isDigit (d := 1) (by omega) s _ e4) ?_
  refine r_if_eq 86 (q := 34) dX12_readsStates_31 (by decide) rfl (fun c6 => ?_) (fun c6 => ?_)
  · rw [if_neg (mm_b0 c6)] at h
    cases h
    have hk := ke _ rfl
    exact hk
  · rw [if_pos (mm_b1 c6)] at h
    refine r_aload_n (q := 35) dX12_readsStates_34 rfl rfl ?_
    refine r_geti (v := (s 0 9)) (q := 38) lk_X12_145 dX12_readsStates_35 sc_m_0 rfl rfl rfl ?_
    refine r_iload_n (q := 39) dX12_readsStates_38 rfl rfl ?_
    refine r_iconst (v := 2) (q := 40) dX12_readsStates_39 (by decide) rfl ?_
    refine r_iadd (q := 41) dX12_readsStates_40 rfl ?_
    refine r_icmp_ne 54 (q := 44) dX12_readsStates_41 (by decide) rfl (fun c7 => ?_) (fun c7 => ?_)
    · rw [if_neg c7] at h
      refine r_aload_n (q := 55) dX12_readsStates_54 rfl rfl ?_
      refine r_bipush (v := 10) (q := 57) dX12_readsStates_55 (by decide) rfl ?_
      refine r_aload_n (q := 58) dX12_readsStates_57 rfl rfl ?_
      refine r_geti (v := (s 0 33)) (q := 61) lk_X12_249 dX12_readsStates_58 sc_m_0 rfl rfl rfl ?_
      refine r_imul (q := 62) dX12_readsStates_61 rfl ?_
      refine r_aload_n (q := 63) dX12_readsStates_62 rfl rfl ?_
      obtain ⟨y11, e10, h⟩ := Option.bind_eq_some_iff.mp h
      refine r_callV_i (av := []) (st := [(.inl ((10 : Int32) * (s 0 33))), (.inr 0)]) (q := 66) (d1 := 0) kc_X12_151 sc_m_0 dX12_readsStates_63 rfl rfl (Nat.le_of_ble_eq_true rfl) (Nat.le_of_ble_eq_true rfl) (by omega) rfl rfl (t_X12_here (d := 0) (by omega) s _ e10) ?_
      refine r_iadd (q := 67) dX12_readsStates_66 rfl ?_
      refine r_bipush (v := 48) (q := 69) dX12_readsStates_67 (by decide) rfl ?_
      refine r_isub (q := 70) dX12_readsStates_69 rfl ?_
      refine r_puti (q := 73) lk_X12_249 ft_9_33 dX12_readsStates_70 sc_m_0 rfl rfl ?_
      refine r_aload_n (q := 74) dX12_readsStates_73 rfl rfl ?_
      refine r_aload_n (q := 75) dX12_readsStates_74 rfl rfl ?_
      refine r_geti (v := (s 0 9)) (q := 78) lk_X12_145 dX12_readsStates_75 sc_m_0 rfl rfl rfl ?_
      refine r_iconst (v := 1) (q := 79) dX12_readsStates_78 (by decide) rfl ?_
      refine r_iadd (q := 80) dX12_readsStates_79 rfl ?_
      refine r_puti (q := 83) lk_X12_145 ft_9_9 dX12_readsStates_80 sc_m_0 rfl rfl ?_
      refine r_goto 27 dX12_readsStates_83 (by decide) ?_
      cases h
      have hk := kb _ rfl
      exact hk
    · rw [if_pos c7] at h
      refine r_aload_n (q := 45) dX12_readsStates_44 rfl rfl ?_
      refine r_iconst (v := 2) (q := 46) dX12_readsStates_45 (by decide) rfl ?_
      refine r_aload_n (q := 47) dX12_readsStates_46 rfl rfl ?_
      refine r_geti (v := (s 0 9)) (q := 50) lk_X12_145 dX12_readsStates_47 sc_m_0 rfl rfl rfl ?_
      obtain ⟨y9, e8, h⟩ := mm_let_elim h
      refine r_callV_i (av := [(.inl 2), (.inl (s 0 9))]) (st := []) (q := 53) (d1 := 0) kc_X12_158 sc_m_0 dX12_readsStates_50 rfl rfl (Nat.le_of_ble_eq_true rfl) (Nat.le_of_ble_eq_true rfl) (by omega) rfl rfl (t_X12_wrongAt (d := 0) (by omega) 2 (s 0 9) s _ e8) ?_
      cases h
      have hk := ke _ rfl
      exact r_retb dX12_readsStates_53 rfl (mm_b01 _) hk
noncomputable def X12_readsStates (M : mm_M) : Option (Bool × mm_M) := (X12_isDigit M).bind fun y2 => if y2 = true then (mm_loop (X12_readsStates_l27 (M 0 9)) mm_fuel (mm_U M 0 33 0)).bind fun y12 => (match y12 with | .inl y12r => some y12r | .inr y12s => if (X12_in (y12s 0 33) 2 10) = true then some (true, y12s) else mm_let (X12_wrongAt 3 (M 0 9) y12s) fun y16 => if y16.1 = true then some (true, y16.2) else some (false, y16.2)) else mm_let (X12_wrongAt 1 (M 0 9) M) fun y19 => some (y19.1, y19.2)
set_option maxRecDepth 100000 in
set_option maxHeartbeats 400000 in
theorem t_X12_readsStates {d : Nat} (hd : 2 ≤ d) (M : mm_M) (res : (Bool × mm_M)) (h : X12_readsStates M = some res) : mm_Meth jX12_readsStates d 0 0 [(.inr 0)] S_m M (mm_Zi (mm_b res.1) S_m res.2) := by
  refine r_meth (L := [some (.inr 0), none]) rfl (fun D => ?_)
  unfold X12_readsStates at h
  refine r_aload_n (q := 1) dX12_readsStates_0 rfl rfl ?_
  refine r_geti (v := (M 0 9)) (q := 4) lk_X12_145 dX12_readsStates_1 sc_m_0 rfl rfl rfl ?_
  refine r_istore_n (q := 5) (L' := [some (.inr 0), some (.inl (M 0 9))]) dX12_readsStates_4 (by decide) rfl rfl ?_
  refine r_aload_n (q := 6) dX12_readsStates_5 rfl rfl ?_
  obtain ⟨y2, e1, h⟩ := Option.bind_eq_some_iff.mp h
  refine r_callV_i (av := []) (st := []) (q := 9) (d1 := 1) kc_X12_164 sc_m_0 dX12_readsStates_6 rfl rfl (Nat.le_of_ble_eq_true rfl) (Nat.le_of_ble_eq_true rfl) (by omega) rfl rfl (t_X12_isDigit (d := 1) (by omega) M _ e1) ?_
  refine r_if_ne 22 (q := 12) dX12_readsStates_9 (by decide) rfl (fun c3 => ?_) (fun c3 => ?_)
  · rw [if_pos (mm_b1 c3)] at h
    refine r_aload_n (q := 23) dX12_readsStates_22 rfl rfl ?_
    refine r_iconst (v := 0) (q := 24) dX12_readsStates_23 (by decide) rfl ?_
    refine r_puti (q := 27) lk_X12_249 ft_9_33 dX12_readsStates_24 sc_m_0 rfl rfl ?_
    obtain ⟨y12, e13, h⟩ := Option.bind_eq_some_iff.mp h
    refine t_X12_readsStates_l27 hd (M 0 9) mm_fuel (mm_U M 0 33 0) _ e13 ?_
    rcases y12 with y12r | y12s
    · dsimp only at h
      cases h
      exact mm_Zi_rfl
    · dsimp only at h
      show mm_Go jX12_readsStates _ _ _ _ 86 [some (.inr 0), some (.inl (M 0 9))] [] S_m y12s _
      refine r_aload_n (q := 87) dX12_readsStates_86 rfl rfl ?_
      refine r_geti (v := (y12s 0 33)) (q := 90) lk_X12_249 dX12_readsStates_87 sc_m_0 rfl rfl rfl ?_
      refine r_iconst (v := 2) (q := 91) dX12_readsStates_90 (by decide) rfl ?_
      refine r_bipush (v := 10) (q := 93) dX12_readsStates_91 (by decide) rfl ?_
      refine r_callS_i (av := [(.inl (y12s 0 33)), (.inl 2), (.inl 10)]) (st := []) (q := 96) (d1 := 0) kc_X12_127 dX12_readsStates_93 rfl rfl (Nat.le_of_ble_eq_true rfl) (Nat.le_of_ble_eq_true rfl) (by omega) rfl rfl (t_X12_in (d := 0) (by omega) (y12s 0 33) 2 10 y12s _ rfl) ?_
      refine r_if_ne 108 (q := 99) dX12_readsStates_96 (by decide) rfl (fun c14 => ?_) (fun c14 => ?_)
      · rw [if_pos (mm_b1 c14)] at h
        refine r_iconst (v := 1) (q := 109) dX12_readsStates_108 (by decide) rfl ?_
        refine r_goto 113 dX12_readsStates_109 (by decide) ?_
        cases h
        exact r_retb dX12_readsStates_113 rfl (Or.inr rfl) mm_Zi_rfl
      · rw [if_neg (mm_b0 c14)] at h
        refine r_aload_n (q := 100) dX12_readsStates_99 rfl rfl ?_
        refine r_iconst (v := 3) (q := 101) dX12_readsStates_100 (by decide) rfl ?_
        refine r_iload_n (q := 102) dX12_readsStates_101 rfl rfl ?_
        obtain ⟨y16, e15, h⟩ := mm_let_elim h
        refine r_callV_i (av := [(.inl 3), (.inl (M 0 9))]) (st := []) (q := 105) (d1 := 0) kc_X12_158 sc_m_0 dX12_readsStates_102 rfl rfl (Nat.le_of_ble_eq_true rfl) (Nat.le_of_ble_eq_true rfl) (by omega) rfl rfl (t_X12_wrongAt (d := 0) (by omega) 3 (M 0 9) y12s _ e15) ?_
        refine r_if_eq 112 (q := 108) dX12_readsStates_105 (by decide) rfl (fun c17 => ?_) (fun c17 => ?_)
        · rw [if_neg (mm_b0 c17)] at h
          refine r_iconst (v := 0) (q := 113) dX12_readsStates_112 (by decide) rfl ?_
          cases h
          exact r_retb dX12_readsStates_113 rfl (Or.inl rfl) mm_Zi_rfl
        · rw [if_pos (mm_b1 c17)] at h
          refine r_iconst (v := 1) (q := 109) dX12_readsStates_108 (by decide) rfl ?_
          refine r_goto 113 dX12_readsStates_109 (by decide) ?_
          cases h
          exact r_retb dX12_readsStates_113 rfl (Or.inr rfl) mm_Zi_rfl
  · rw [if_neg (mm_b0 c3)] at h
    refine r_aload_n (q := 13) dX12_readsStates_12 rfl rfl ?_
    refine r_iconst (v := 1) (q := 14) dX12_readsStates_13 (by decide) rfl ?_
    refine r_aload_n (q := 15) dX12_readsStates_14 rfl rfl ?_
    refine r_geti (v := (M 0 9)) (q := 18) lk_X12_145 dX12_readsStates_15 sc_m_0 rfl rfl rfl ?_
    obtain ⟨y19, e18, h⟩ := mm_let_elim h
    refine r_callV_i (av := [(.inl 1), (.inl (M 0 9))]) (st := []) (q := 21) (d1 := 0) kc_X12_158 sc_m_0 dX12_readsStates_18 rfl rfl (Nat.le_of_ble_eq_true rfl) (Nat.le_of_ble_eq_true rfl) (by omega) rfl rfl (t_X12_wrongAt (d := 0) (by omega) 1 (M 0 9) M _ e18) ?_
    cases h
    exact r_retb dX12_readsStates_21 rfl (mm_b01 _) mm_Zi_rfl
noncomputable def X12_isLetter (M : mm_M) : Option Bool := (X12_here M).bind fun y2 => some (X12_in (y2 - 97) 0 7)
set_option maxRecDepth 100000 in
set_option maxHeartbeats 400000 in
theorem t_X12_isLetter {d : Nat} (hd : 1 ≤ d) (M : mm_M) (res : Bool) (h : X12_isLetter M = some res) : mm_Meth jX12_isLetter d 0 0 [(.inr 0)] S_m M (mm_Zi (mm_b res) S_m M) := by
  refine r_meth (L := [some (.inr 0)]) rfl (fun D => ?_)
  unfold X12_isLetter at h
  refine r_aload_n (q := 1) dX12_isLetter_0 rfl rfl ?_
  obtain ⟨y2, e1, h⟩ := Option.bind_eq_some_iff.mp h
  refine r_callV_i (av := []) (st := []) (q := 4) (d1 := 0) kc_X12_151 sc_m_0 dX12_isLetter_1 rfl rfl (Nat.le_of_ble_eq_true rfl) (Nat.le_of_ble_eq_true rfl) (by omega) rfl rfl (t_X12_here (d := 0) (by omega) M _ e1) ?_
  refine r_bipush (v := 97) (q := 6) dX12_isLetter_4 (by decide) rfl ?_
  refine r_isub (q := 7) dX12_isLetter_6 rfl ?_
  refine r_iconst (v := 0) (q := 8) dX12_isLetter_7 (by decide) rfl ?_
  refine r_bipush (v := 7) (q := 10) dX12_isLetter_8 (by decide) rfl ?_
  refine r_callS_i (av := [(.inl (y2 - 97)), (.inl 0), (.inl 7)]) (st := []) (q := 13) (d1 := 0) kc_X12_127 dX12_isLetter_10 rfl rfl (Nat.le_of_ble_eq_true rfl) (Nat.le_of_ble_eq_true rfl) (by omega) rfl rfl (t_X12_in (d := 0) (by omega) (y2 - 97) 0 7 M _ rfl) ?_
  cases h
  exact r_retb dX12_isLetter_13 rfl (mm_b01 _) mm_Zi_rfl
noncomputable def X12_has (x0 : Int32) (x1 : Int32) : Bool := if ((x0 >>> (x1 &&& 31)) &&& 1) = 1 then true else false
set_option maxRecDepth 100000 in
set_option maxHeartbeats 400000 in
theorem t_X12_has {d : Nat} (hd : 0 ≤ d) (x0 : Int32) (x1 : Int32) (M : mm_M) (res : Bool) (h : X12_has x0 x1 = res) : mm_Meth jX12_has d 0 0 [(.inl x0), (.inl x1)] S_m M (mm_Zi (mm_b res) S_m M) := by
  refine r_meth (L := [some (.inl x0), some (.inl x1)]) rfl (fun D => ?_)
  unfold X12_has at h
  refine r_iload_n (q := 1) dX12_has_0 rfl rfl ?_
  refine r_iload_n (q := 2) dX12_has_1 rfl rfl ?_
  refine r_ishr (q := 3) dX12_has_2 rfl ?_
  refine r_iconst (v := 1) (q := 4) dX12_has_3 (by decide) rfl ?_
  refine r_iand (q := 5) dX12_has_4 rfl ?_
  refine r_iconst (v := 1) (q := 6) dX12_has_5 (by decide) rfl ?_
  refine r_icmp_ne 13 (q := 9) dX12_has_6 (by decide) rfl (fun c1 => ?_) (fun c1 => ?_)
  · rw [if_neg c1] at h
    refine r_iconst (v := 0) (q := 14) dX12_has_13 (by decide) rfl ?_
    subst h
    exact r_retb dX12_has_14 rfl (Or.inl rfl) mm_Zi_rfl
  · rw [if_pos c1] at h
    refine r_iconst (v := 1) (q := 10) dX12_has_9 (by decide) rfl ?_
    refine r_goto 14 dX12_has_10 (by decide) ?_
    subst h
    exact r_retb dX12_has_14 rfl (Or.inr rfl) mm_Zi_rfl
noncomputable def X12_rules_j63l3 (x1 : Int32) (x2 : Int32) (x3 : Int32) (x4 : Int32) (x5 : Int32) (z1 : Int32) (z2 : Int32) (M : mm_M) : Option ((Int32 × mm_M) ⊕ mm_M) := if mm_in z1 80 = true then if mm_in (((10 : Int32) * x1) + x5) 80 = true then some (.inl ((x5 + 1), (mm_U (mm_U M 22 (Int32.toNatClampNeg z1) z2) 21 (Int32.toNatClampNeg (((10 : Int32) * x1) + x5)) x4))) else none else none
set_option maxRecDepth 100000 in
set_option maxHeartbeats 400000 in
theorem t_X12_rules_j63l3 {D : mm_D} {d : Nat} (hd : 1 ≤ d) {Z : Option Int32 → List mm_C → mm_M → Prop} (x1 : Int32) (x2 : Int32) (x3 : Int32) (x4 : Int32) (x5 : Int32) (z1 : Int32) (z2 : Int32) (M : mm_M) (o : (Int32 × mm_M) ⊕ mm_M) (h : X12_rules_j63l3 x1 x2 x3 x4 x5 z1 z2 M = some o) (kb : ∀ s', o = .inl s' → mm_Go jX12_rules D d 0 0 3 [some (.inr 0), some (.inl x1), some (.inl x2), some (.inl x3), some (.inl x4), some (.inl s'.1)] [] S_m s'.2 Z) (ke : ∀ r, o = .inr r → mm_Go jX12_rules D d 0 0 84 [some (.inr 0), none, some (.inl x2), none, none, none] [] S_m r Z) : mm_Go jX12_rules D d 0 0 63 [some (.inr 0), some (.inl x1), some (.inl x2), some (.inl x3), some (.inl x4), some (.inl x5)] [(.inl z2), (.inl z1), (.inr 22)] S_m M Z := by
  unfold X12_rules_j63l3 at h
  obtain ⟨g5, h⟩ := mm_guard h
  refine r_iast (j := (Int32.toNatClampNeg z1)) (q := 64) dX12_rules_63 sc_m_22 (mm_vp g5) rfl rfl ?_
  refine r_aload_n (q := 65) dX12_rules_64 rfl rfl ?_
  refine r_getr (b := 21) (q := 68) lk_X12_71 dX12_rules_65 sc_m_0 rfl rfl ?_
  refine r_bipush (v := 10) (q := 70) dX12_rules_68 (by decide) rfl ?_
  refine r_iload_n (q := 71) dX12_rules_70 rfl rfl ?_
  refine r_imul (q := 72) dX12_rules_71 rfl ?_
  refine r_iload (q := 74) dX12_rules_72 rfl rfl ?_
  refine r_iadd (q := 75) dX12_rules_74 rfl ?_
  refine r_iload (q := 77) dX12_rules_75 rfl rfl ?_
  obtain ⟨g6, h⟩ := mm_guard h
  refine r_iast (j := (Int32.toNatClampNeg (((10 : Int32) * x1) + x5))) (q := 78) dX12_rules_77 sc_m_21 (mm_vp g6) rfl rfl ?_
  refine r_iinc (v := 1) (q := 81) (L' := [some (.inr 0), some (.inl x1), some (.inl x2), some (.inl x3), some (.inl x4), some (.inl (x5 + 1))]) dX12_rules_78 (by decide) (by decide) rfl rfl rfl ?_
  refine r_goto 3 dX12_rules_81 (by decide) ?_
  cases h
  have hk := kb _ rfl
  exact hk
noncomputable def X12_rules_j41l3 (x1 : Int32) (x2 : Int32) (x3 : Int32) (x4 : Int32) (x5 : Int32) (M : mm_M) : Option ((Int32 × mm_M) ⊕ mm_M) := if x3 = (-1) then X12_rules_j63l3 x1 x2 x3 x4 x5 (((10 : Int32) * x1) + x5) x5 M else X12_rules_j63l3 x1 x2 x3 x4 x5 (((10 : Int32) * x1) + x5) x3 M
set_option maxRecDepth 100000 in
set_option maxHeartbeats 400000 in
theorem t_X12_rules_j41l3 {D : mm_D} {d : Nat} (hd : 1 ≤ d) {Z : Option Int32 → List mm_C → mm_M → Prop} (x1 : Int32) (x2 : Int32) (x3 : Int32) (x4 : Int32) (x5 : Int32) (M : mm_M) (o : (Int32 × mm_M) ⊕ mm_M) (h : X12_rules_j41l3 x1 x2 x3 x4 x5 M = some o) (kb : ∀ s', o = .inl s' → mm_Go jX12_rules D d 0 0 3 [some (.inr 0), some (.inl x1), some (.inl x2), some (.inl x3), some (.inl x4), some (.inl s'.1)] [] S_m s'.2 Z) (ke : ∀ r, o = .inr r → mm_Go jX12_rules D d 0 0 84 [some (.inr 0), none, some (.inl x2), none, none, none] [] S_m r Z) : mm_Go jX12_rules D d 0 0 41 [some (.inr 0), some (.inl x1), some (.inl x2), some (.inl x3), some (.inl x4), some (.inl x5)] [] S_m M Z := by
  unfold X12_rules_j41l3 at h
  refine r_aload_n (q := 42) dX12_rules_41 rfl rfl ?_
  refine r_getr (b := 22) (q := 45) lk_X12_74 dX12_rules_42 sc_m_0 rfl rfl ?_
  refine r_bipush (v := 10) (q := 47) dX12_rules_45 (by decide) rfl ?_
  refine r_iload_n (q := 48) dX12_rules_47 rfl rfl ?_
  refine r_imul (q := 49) dX12_rules_48 rfl ?_
  refine r_iload (q := 51) dX12_rules_49 rfl rfl ?_
  refine r_iadd (q := 52) dX12_rules_51 rfl ?_
  refine r_iload_n (q := 53) dX12_rules_52 rfl rfl ?_
  refine r_iconst (v := (-1)) (q := 54) dX12_rules_53 (by decide) rfl ?_
  refine r_icmp_ne 62 (q := 57) dX12_rules_54 (by decide) rfl (fun c4 => ?_) (fun c4 => ?_)
  · rw [if_neg c4] at h
    refine r_iload_n (q := 63) dX12_rules_62 rfl rfl ?_
    exact t_X12_rules_j63l3 hd x1 x2 x3 x4 x5 (((10 : Int32) * x1) + x5) x3 M _ h kb ke
  · rw [if_pos c4] at h
    refine r_iload (q := 59) dX12_rules_57 rfl rfl ?_
    refine r_goto 63 dX12_rules_59 (by decide) ?_
    exact t_X12_rules_j63l3 hd x1 x2 x3 x4 x5 (((10 : Int32) * x1) + x5) x5 M _ h kb ke
noncomputable def X12_rules_l3 (x1 : Int32) (x2 : Int32) (x3 : Int32) (x4 : Int32) (s : (Int32 × mm_M)) : Option ((Int32 × mm_M) ⊕ mm_M) := if (s.2 0 33) ≤ s.1 then some (.inr s.2) else if x2 = (-1) then if (X12_has (s.2 0 35) s.1) = true then some (.inl ((s.1 + 1), s.2)) else X12_rules_j41l3 x1 x2 x3 x4 s.1 s.2 else if s.1 = x2 then X12_rules_j41l3 x1 x2 x3 x4 s.1 s.2 else some (.inl ((s.1 + 1), s.2))
set_option maxRecDepth 100000 in
set_option maxHeartbeats 400000 in
theorem t_X12_rules_l3 {D : mm_D} {d : Nat} (hd : 1 ≤ d) {Z : Option Int32 → List mm_C → mm_M → Prop} (x1 : Int32) (x2 : Int32) (x3 : Int32) (x4 : Int32) (n : Nat) (s : (Int32 × mm_M)) (r : mm_M) (h : mm_loop (X12_rules_l3 x1 x2 x3 x4) n s = some r) (hx : mm_Go jX12_rules D d 0 0 84 [some (.inr 0), none, some (.inl x2), none, none, none] [] S_m r Z) : mm_Go jX12_rules D d 0 0 3 [some (.inr 0), some (.inl x1), some (.inl x2), some (.inl x3), some (.inl x4), some (.inl s.1)] [] S_m s.2 Z := by
  refine mm_loop_go (step := X12_rules_l3 x1 x2 x3 x4) (Hd := fun (s : (Int32 × mm_M)) => mm_Go jX12_rules D d 0 0 3 [some (.inr 0), some (.inl x1), some (.inl x2), some (.inl x3), some (.inl x4), some (.inl s.1)] [] S_m s.2 Z) (Ex := fun (r : mm_M) => mm_Go jX12_rules D d 0 0 84 [some (.inr 0), none, some (.inl x2), none, none, none] [] S_m r Z) ?_ n s r h hx
  intro s o h kb ke
  show mm_Go jX12_rules D d 0 0 3 [some (.inr 0), some (.inl x1), some (.inl x2), some (.inl x3), some (.inl x4), some (.inl s.1)] [] S_m s.2 Z
  unfold X12_rules_l3 at h
  refine r_iload (q := 5) dX12_rules_3 rfl rfl ?_
  refine r_aload_n (q := 6) dX12_rules_5 rfl rfl ?_
  refine r_geti (v := (s.2 0 33)) (q := 9) lk_X12_249 dX12_rules_6 sc_m_0 rfl rfl rfl ?_
  refine r_icmp_ge 84 (q := 12) dX12_rules_9 (by decide) rfl (fun c1 => ?_) (fun c1 => ?_)
  · rw [if_pos c1] at h
    refine r_forget (L' := [some (.inr 0), none, some (.inl x2), none, none, none]) [true, false, true, false, false, false] rfl ?_
    cases h
    have hk := ke _ rfl
    exact hk
  · rw [if_neg c1] at h
    refine r_iload_n (q := 13) dX12_rules_12 rfl rfl ?_
    refine r_iconst (v := (-1)) (q := 14) dX12_rules_13 (by decide) rfl ?_
    refine r_icmp_eq 26 (q := 17) dX12_rules_14 (by decide) rfl (fun c2 => ?_) (fun c2 => ?_)
    · rw [if_pos c2] at h
      refine r_aload_n (q := 27) dX12_rules_26 rfl rfl ?_
      refine r_geti (v := (s.2 0 35)) (q := 30) lk_X12_252 dX12_rules_27 sc_m_0 rfl rfl rfl ?_
      refine r_iload (q := 32) dX12_rules_30 rfl rfl ?_
      refine r_callS_i (av := [(.inl (s.2 0 35)), (.inl s.1)]) (st := []) (q := 35) (d1 := 0) kc_X12_119 dX12_rules_32 rfl rfl (Nat.le_of_ble_eq_true rfl) (Nat.le_of_ble_eq_true rfl) (by omega) rfl rfl (t_X12_has (d := 0) (by omega) (s.2 0 35) s.1 s.2 _ rfl) ?_
      refine r_if_eq 41 (q := 38) dX12_rules_35 (by decide) rfl (fun c3 => ?_) (fun c3 => ?_)
      · rw [if_neg (mm_b0 c3)] at h
        exact t_X12_rules_j41l3 hd x1 x2 x3 x4 s.1 s.2 _ h kb ke
      · rw [if_pos (mm_b1 c3)] at h
        refine r_goto 78 dX12_rules_38 (by decide) ?_
        refine r_iinc (v := 1) (q := 81) (L' := [some (.inr 0), some (.inl x1), some (.inl x2), some (.inl x3), some (.inl x4), some (.inl (s.1 + 1))]) dX12_rules_78 (by decide) (by decide) rfl rfl rfl ?_
        refine r_goto 3 dX12_rules_81 (by decide) ?_
        cases h
        have hk := kb _ rfl
        exact hk
    · rw [if_neg c2] at h
      refine r_iload (q := 19) dX12_rules_17 rfl rfl ?_
      refine r_iload_n (q := 20) dX12_rules_19 rfl rfl ?_
      refine r_icmp_eq 41 (q := 23) dX12_rules_20 (by decide) rfl (fun c7 => ?_) (fun c7 => ?_)
      · rw [if_pos c7] at h
        exact t_X12_rules_j41l3 hd x1 x2 x3 x4 s.1 s.2 _ h kb ke
      · rw [if_neg c7] at h
        refine r_goto 78 dX12_rules_23 (by decide) ?_
        refine r_iinc (v := 1) (q := 81) (L' := [some (.inr 0), some (.inl x1), some (.inl x2), some (.inl x3), some (.inl x4), some (.inl (s.1 + 1))]) dX12_rules_78 (by decide) (by decide) rfl rfl rfl ?_
        refine r_goto 3 dX12_rules_81 (by decide) ?_
        cases h
        have hk := kb _ rfl
        exact hk
noncomputable def X12_rules (x1 : Int32) (x2 : Int32) (x3 : Int32) (x4 : Int32) (M : mm_M) : Option mm_M := (mm_loop (X12_rules_l3 x1 x2 x3 x4) mm_fuel (0, M)).bind fun y8 => if x2 = (-1) then some y8 else some (mm_U y8 0 35 ((y8 0 35) ||| ((1 : Int32) <<< (x2 &&& 31))))
set_option maxRecDepth 100000 in
set_option maxHeartbeats 400000 in
theorem t_X12_rules {d : Nat} (hd : 1 ≤ d) (x1 : Int32) (x2 : Int32) (x3 : Int32) (x4 : Int32) (M : mm_M) (res : mm_M) (h : X12_rules x1 x2 x3 x4 M = some res) : mm_Meth jX12_rules d 0 0 [(.inr 0), (.inl x1), (.inl x2), (.inl x3), (.inl x4)] S_m M (mm_Zv S_m res) := by
  refine r_meth (L := [some (.inr 0), some (.inl x1), some (.inl x2), some (.inl x3), some (.inl x4), none]) rfl (fun D => ?_)
  unfold X12_rules at h
  refine r_iconst (v := 0) (q := 1) dX12_rules_0 (by decide) rfl ?_
  refine r_istore (q := 3) (L' := [some (.inr 0), some (.inl x1), some (.inl x2), some (.inl x3), some (.inl x4), some (.inl 0)]) dX12_rules_1 (by decide) rfl rfl ?_
  obtain ⟨y8, e9, h⟩ := Option.bind_eq_some_iff.mp h
  refine t_X12_rules_l3 hd x1 x2 x3 x4 mm_fuel (0, M) _ e9 ?_
  show mm_Go jX12_rules _ _ _ _ 84 [some (.inr 0), none, some (.inl x2), none, none, none] [] S_m y8 _
  refine r_iload_n (q := 85) dX12_rules_84 rfl rfl ?_
  refine r_iconst (v := (-1)) (q := 86) dX12_rules_85 (by decide) rfl ?_
  refine r_icmp_eq 101 (q := 89) dX12_rules_86 (by decide) rfl (fun c10 => ?_) (fun c10 => ?_)
  · rw [if_pos c10] at h
    cases h
    exact r_retv dX12_rules_101 rfl mm_Zv_rfl
  · rw [if_neg c10] at h
    refine r_aload_n (q := 90) dX12_rules_89 rfl rfl ?_
    refine r_aload_n (q := 91) dX12_rules_90 rfl rfl ?_
    refine r_geti (v := (y8 0 35)) (q := 94) lk_X12_252 dX12_rules_91 sc_m_0 rfl rfl rfl ?_
    refine r_iconst (v := 1) (q := 95) dX12_rules_94 (by decide) rfl ?_
    refine r_iload_n (q := 96) dX12_rules_95 rfl rfl ?_
    refine r_ishl (q := 97) dX12_rules_96 rfl ?_
    refine r_ior (q := 98) dX12_rules_97 rfl ?_
    refine r_puti (q := 101) lk_X12_252 ft_9_35 dX12_rules_98 sc_m_0 rfl rfl ?_
    cases h
    exact r_retv dX12_rules_101 rfl mm_Zv_rfl
