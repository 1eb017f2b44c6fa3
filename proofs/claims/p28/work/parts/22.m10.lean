noncomputable def X12_in (x0 : Int32) (x1 : Int32) (x2 : Int32) : Bool := if x0 < x1 then false else if x2 < x0 then false else true
set_option maxRecDepth 100000 in
set_option maxHeartbeats 400000 in
theorem t_X12_in {d : Nat} (hd : 0 ≤ d) (x0 : Int32) (x1 : Int32) (x2 : Int32) (M : mm_M) (res : Bool) (h : X12_in x0 x1 x2 = res) : mm_Meth jX12_in d 0 0 [(.inl x0), (.inl x1), (.inl x2)] S_m M (mm_Zi (mm_b res) S_m M) := by
  refine r_meth (L := [some (.inl x0), some (.inl x1), some (.inl x2)]) rfl (fun D => ?_)
  unfold X12_in at h
  refine r_iload_n (q := 1) dX12_in_0 rfl rfl ?_
  refine r_iload_n (q := 2) dX12_in_1 rfl rfl ?_
  refine r_icmp_lt 14 (q := 5) dX12_in_2 (by decide) rfl (fun c1 => ?_) (fun c1 => ?_)
  · rw [if_pos c1] at h
    refine r_iconst (v := 0) (q := 15) dX12_in_14 (by decide) rfl ?_
    subst h
    exact r_retb dX12_in_15 rfl (Or.inl rfl) mm_Zi_rfl
  · rw [if_neg c1] at h
    refine r_iload_n (q := 6) dX12_in_5 rfl rfl ?_
    refine r_iload_n (q := 7) dX12_in_6 rfl rfl ?_
    refine r_icmp_gt 14 (q := 10) dX12_in_7 (by decide) rfl (fun c2 => ?_) (fun c2 => ?_)
    · rw [if_pos c2] at h
      refine r_iconst (v := 0) (q := 15) dX12_in_14 (by decide) rfl ?_
      subst h
      exact r_retb dX12_in_15 rfl (Or.inl rfl) mm_Zi_rfl
    · rw [if_neg c2] at h
      refine r_iconst (v := 1) (q := 11) dX12_in_10 (by decide) rfl ?_
      refine r_goto 15 dX12_in_11 (by decide) ?_
      subst h
      exact r_retb dX12_in_15 rfl (Or.inr rfl) mm_Zi_rfl
noncomputable def X12_isState (x1 : Int32) (M : mm_M) : Bool := (X12_in x1 0 ((M 0 6) - 1))
set_option maxRecDepth 100000 in
set_option maxHeartbeats 400000 in
theorem t_X12_isState {d : Nat} (hd : 1 ≤ d) (x1 : Int32) (M : mm_M) (res : Bool) (h : X12_isState x1 M = res) : mm_Meth jX12_isState d 0 0 [(.inr 0), (.inl x1)] S_m M (mm_Zi (mm_b res) S_m M) := by
  refine r_meth (L := [some (.inr 0), some (.inl x1)]) rfl (fun D => ?_)
  unfold X12_isState at h
  refine r_iload_n (q := 1) dX12_isState_0 rfl rfl ?_
  refine r_iconst (v := 0) (q := 2) dX12_isState_1 (by decide) rfl ?_
  refine r_aload_n (q := 3) dX12_isState_2 rfl rfl ?_
  refine r_geti (v := (M 0 6)) (q := 6) lk_X12_123 dX12_isState_3 sc_m_0 rfl rfl rfl ?_
  refine r_iconst (v := 1) (q := 7) dX12_isState_6 (by decide) rfl ?_
  refine r_isub (q := 8) dX12_isState_7 rfl ?_
  refine r_callS_i (av := [(.inl x1), (.inl 0), (.inl ((M 0 6) - 1))]) (st := []) (q := 11) (d1 := 0) kc_X12_127 dX12_isState_8 rfl rfl (Nat.le_of_ble_eq_true rfl) (Nat.le_of_ble_eq_true rfl) (by omega) rfl rfl (t_X12_in (d := 0) (by omega) x1 0 ((M 0 6) - 1) M _ rfl) ?_
  subst h
  exact r_retb dX12_isState_11 rfl (mm_b01 _) mm_Zi_rfl
noncomputable def X12_state (x1 : Int32) (M : mm_M) : (Bool × mm_M) := if (X12_isState x1 M) = true then (true, (mm_U M 1 0 x1)) else (false, M)
set_option maxRecDepth 100000 in
set_option maxHeartbeats 400000 in
theorem t_X12_state {d : Nat} (hd : 2 ≤ d) (x1 : Int32) (M : mm_M) (res : (Bool × mm_M)) (h : X12_state x1 M = res) : mm_Meth jX12_state d 0 0 [(.inr 0), (.inl x1)] S_m M (mm_Zi (mm_b res.1) S_m res.2) := by
  refine r_meth (L := [some (.inr 0), some (.inl x1)]) rfl (fun D => ?_)
  unfold X12_state at h
  refine r_aload_n (q := 1) dX12_state_0 rfl rfl ?_
  refine r_iload_n (q := 2) dX12_state_1 rfl rfl ?_
  refine r_callV_i (av := [(.inl x1)]) (st := []) (q := 5) (d1 := 1) kc_X12_131 sc_m_0 dX12_state_2 rfl rfl (Nat.le_of_ble_eq_true rfl) (Nat.le_of_ble_eq_true rfl) (by omega) rfl rfl (t_X12_isState (d := 1) (by omega) x1 M _ rfl) ?_
  refine r_if_ne 10 (q := 8) dX12_state_5 (by decide) rfl (fun c1 => ?_) (fun c1 => ?_)
  · rw [if_pos (mm_b1 c1)] at h
    refine r_aload_n (q := 11) dX12_state_10 rfl rfl ?_
    refine r_getr (b := 1) (q := 14) lk_X12_7 dX12_state_11 sc_m_0 rfl rfl ?_
    refine r_iconst (v := 0) (q := 15) dX12_state_14 (by decide) rfl ?_
    refine r_iload_n (q := 16) dX12_state_15 rfl rfl ?_
    refine r_iast (j := 0) (q := 17) dX12_state_16 sc_m_1 (mm_vp (by decide)) rfl rfl ?_
    refine r_iconst (v := 1) (q := 18) dX12_state_17 (by decide) rfl ?_
    subst h
    exact r_retb dX12_state_18 rfl (Or.inr rfl) mm_Zi_rfl
  · rw [if_neg (mm_b0 c1)] at h
    refine r_iconst (v := 0) (q := 9) dX12_state_8 (by decide) rfl ?_
    subst h
    exact r_retb dX12_state_9 rfl (Or.inl rfl) mm_Zi_rfl
noncomputable def X12_isQuestion (x0 : Int32) : Bool := (X12_in x0 0 7)
set_option maxRecDepth 100000 in
set_option maxHeartbeats 400000 in
theorem t_X12_isQuestion {d : Nat} (hd : 1 ≤ d) (x0 : Int32) (M : mm_M) (res : Bool) (h : X12_isQuestion x0 = res) : mm_Meth jX12_isQuestion d 0 0 [(.inl x0)] S_m M (mm_Zi (mm_b res) S_m M) := by
  refine r_meth (L := [some (.inl x0)]) rfl (fun D => ?_)
  unfold X12_isQuestion at h
  refine r_iload_n (q := 1) dX12_isQuestion_0 rfl rfl ?_
  refine r_iconst (v := 0) (q := 2) dX12_isQuestion_1 (by decide) rfl ?_
  refine r_bipush (v := 7) (q := 4) dX12_isQuestion_2 (by decide) rfl ?_
  refine r_callS_i (av := [(.inl x0), (.inl 0), (.inl 7)]) (st := []) (q := 7) (d1 := 0) kc_X12_127 dX12_isQuestion_4 rfl rfl (Nat.le_of_ble_eq_true rfl) (Nat.le_of_ble_eq_true rfl) (by omega) rfl rfl (t_X12_in (d := 0) (by omega) x0 0 7 M _ rfl) ?_
  subst h
  exact r_retb dX12_isQuestion_7 rfl (mm_b01 _) mm_Zi_rfl
noncomputable def X12_price (x1 : Int32) (x2 : Int32) (M : mm_M) : Option (Bool × mm_M) := if (X12_isQuestion x1) = true then if (X12_in x2 0 99) = true then if mm_in x1 8 = true then some (true, (mm_U M 4 (Int32.toNatClampNeg x1) x2)) else none else some (false, M) else some (false, M)
set_option maxRecDepth 100000 in
set_option maxHeartbeats 400000 in
theorem t_X12_price {d : Nat} (hd : 2 ≤ d) (x1 : Int32) (x2 : Int32) (M : mm_M) (res : (Bool × mm_M)) (h : X12_price x1 x2 M = some res) : mm_Meth jX12_price d 0 0 [(.inr 0), (.inl x1), (.inl x2)] S_m M (mm_Zi (mm_b res.1) S_m res.2) := by
  refine r_meth (L := [some (.inr 0), some (.inl x1), some (.inl x2)]) rfl (fun D => ?_)
  unfold X12_price at h
  refine r_iload_n (q := 1) dX12_price_0 rfl rfl ?_
  refine r_callS_i (av := [(.inl x1)]) (st := []) (q := 4) (d1 := 1) kc_X12_135 dX12_price_1 rfl rfl (Nat.le_of_ble_eq_true rfl) (Nat.le_of_ble_eq_true rfl) (by omega) rfl rfl (t_X12_isQuestion (d := 1) (by omega) x1 M _ rfl) ?_
  refine r_if_eq 17 (q := 7) dX12_price_4 (by decide) rfl (fun c1 => ?_) (fun c1 => ?_)
  · rw [if_neg (mm_b0 c1)] at h
    refine r_iconst (v := 0) (q := 18) dX12_price_17 (by decide) rfl ?_
    cases h
    exact r_retb dX12_price_18 rfl (Or.inl rfl) mm_Zi_rfl
  · rw [if_pos (mm_b1 c1)] at h
    refine r_iload_n (q := 8) dX12_price_7 rfl rfl ?_
    refine r_iconst (v := 0) (q := 9) dX12_price_8 (by decide) rfl ?_
    refine r_bipush (v := 99) (q := 11) dX12_price_9 (by decide) rfl ?_
    refine r_callS_i (av := [(.inl x2), (.inl 0), (.inl 99)]) (st := []) (q := 14) (d1 := 0) kc_X12_127 dX12_price_11 rfl rfl (Nat.le_of_ble_eq_true rfl) (Nat.le_of_ble_eq_true rfl) (by omega) rfl rfl (t_X12_in (d := 0) (by omega) x2 0 99 M _ rfl) ?_
    refine r_if_ne 19 (q := 17) dX12_price_14 (by decide) rfl (fun c2 => ?_) (fun c2 => ?_)
    · rw [if_pos (mm_b1 c2)] at h
      refine r_aload_n (q := 20) dX12_price_19 rfl rfl ?_
      refine r_getr (b := 4) (q := 23) lk_X12_19 dX12_price_20 sc_m_0 rfl rfl ?_
      refine r_iload_n (q := 24) dX12_price_23 rfl rfl ?_
      refine r_iload_n (q := 25) dX12_price_24 rfl rfl ?_
      obtain ⟨g3, h⟩ := mm_guard h
      refine r_iast (j := (Int32.toNatClampNeg x1)) (q := 26) dX12_price_25 sc_m_4 (mm_vp g3) rfl rfl ?_
      refine r_iconst (v := 1) (q := 27) dX12_price_26 (by decide) rfl ?_
      cases h
      exact r_retb dX12_price_27 rfl (Or.inr rfl) mm_Zi_rfl
    · rw [if_neg (mm_b0 c2)] at h
      refine r_iconst (v := 0) (q := 18) dX12_price_17 (by decide) rfl ?_
      cases h
      exact r_retb dX12_price_18 rfl (Or.inl rfl) mm_Zi_rfl
noncomputable def X12_purse (x1 : Int32) (M : mm_M) : (Bool × mm_M) := if (X12_in x1 0 9999) = true then (true, (mm_U M 1 3 x1)) else (false, M)
set_option maxRecDepth 100000 in
set_option maxHeartbeats 400000 in
theorem t_X12_purse {d : Nat} (hd : 1 ≤ d) (x1 : Int32) (M : mm_M) (res : (Bool × mm_M)) (h : X12_purse x1 M = res) : mm_Meth jX12_purse d 0 0 [(.inr 0), (.inl x1)] S_m M (mm_Zi (mm_b res.1) S_m res.2) := by
  refine r_meth (L := [some (.inr 0), some (.inl x1)]) rfl (fun D => ?_)
  unfold X12_purse at h
  refine r_iload_n (q := 1) dX12_purse_0 rfl rfl ?_
  refine r_iconst (v := 0) (q := 2) dX12_purse_1 (by decide) rfl ?_
  refine r_sipush (v := 9999) (q := 5) dX12_purse_2 (by decide) rfl ?_
  refine r_callS_i (av := [(.inl x1), (.inl 0), (.inl 9999)]) (st := []) (q := 8) (d1 := 0) kc_X12_127 dX12_purse_5 rfl rfl (Nat.le_of_ble_eq_true rfl) (Nat.le_of_ble_eq_true rfl) (by omega) rfl rfl (t_X12_in (d := 0) (by omega) x1 0 9999 M _ rfl) ?_
  refine r_if_ne 13 (q := 11) dX12_purse_8 (by decide) rfl (fun c1 => ?_) (fun c1 => ?_)
  · rw [if_pos (mm_b1 c1)] at h
    refine r_aload_n (q := 14) dX12_purse_13 rfl rfl ?_
    refine r_getr (b := 1) (q := 17) lk_X12_7 dX12_purse_14 sc_m_0 rfl rfl ?_
    refine r_iconst (v := 3) (q := 18) dX12_purse_17 (by decide) rfl ?_
    refine r_iload_n (q := 19) dX12_purse_18 rfl rfl ?_
    refine r_iast (j := 3) (q := 20) dX12_purse_19 sc_m_1 (mm_vp (by decide)) rfl rfl ?_
    refine r_iconst (v := 1) (q := 21) dX12_purse_20 (by decide) rfl ?_
    subst h
    exact r_retb dX12_purse_21 rfl (Or.inr rfl) mm_Zi_rfl
  · rw [if_neg (mm_b0 c1)] at h
    refine r_iconst (v := 0) (q := 12) dX12_purse_11 (by decide) rfl ?_
    subst h
    exact r_retb dX12_purse_12 rfl (Or.inl rfl) mm_Zi_rfl
noncomputable def X12_types_l2 (x1 : Int32) (s : (Int32 × mm_M)) : Option ((Int32 × mm_M) ⊕ mm_M) := if s.1 < 0 then some (.inr s.2) else if mm_in (s.2 0 8) 260 = true then some (.inl ((s.1 + (-1)), (mm_U (mm_U s.2 7 (Int32.toNatClampNeg (s.2 0 8)) (Int8.toInt32 (Int32.toInt8 (Int8.toInt32 (Int32.toInt8 (x1 >>> (((8 : Int32) * s.1) &&& 31))))))) 0 8 ((s.2 0 8) + 1)))) else none
set_option maxRecDepth 100000 in
set_option maxHeartbeats 400000 in
theorem t_X12_types_l2 {D : mm_D} {d : Nat} (hd : 0 ≤ d) {Z : Option Int32 → List mm_C → mm_M → Prop} (x1 : Int32) (n : Nat) (s : (Int32 × mm_M)) (r : mm_M) (h : mm_loop (X12_types_l2 x1) n s = some r) (hx : Z none S_m r) : mm_Go jX12_types D d 0 0 2 [some (.inr 0), some (.inl x1), some (.inl s.1)] [] S_m s.2 Z := by
  refine mm_loop_go (step := X12_types_l2 x1) (Hd := fun (s : (Int32 × mm_M)) => mm_Go jX12_types D d 0 0 2 [some (.inr 0), some (.inl x1), some (.inl s.1)] [] S_m s.2 Z) (Ex := fun (r : mm_M) => Z none S_m r) ?_ n s r h hx
  intro s o h kb ke
  show mm_Go jX12_types D d 0 0 2 [some (.inr 0), some (.inl x1), some (.inl s.1)] [] S_m s.2 Z
  unfold X12_types_l2 at h
  refine r_iload_n (q := 3) dX12_types_2 rfl rfl ?_
  refine r_if_lt 38 (q := 6) dX12_types_3 (by decide) rfl (fun c1 => ?_) (fun c1 => ?_)
  · rw [if_pos c1] at h
    cases h
    have hk := ke _ rfl
    exact r_retv dX12_types_38 rfl hk
  · rw [if_neg c1] at h
    refine r_aload_n (q := 7) dX12_types_6 rfl rfl ?_
    refine r_getr (b := 7) (q := 10) lk_X12_28 dX12_types_7 sc_m_0 rfl rfl ?_
    refine r_aload_n (q := 11) dX12_types_10 rfl rfl ?_
    refine r_geti (v := (s.2 0 8)) (q := 14) lk_X12_138 dX12_types_11 sc_m_0 rfl rfl rfl ?_
    refine r_iload_n (q := 15) dX12_types_14 rfl rfl ?_
    refine r_bipush (v := 8) (q := 17) dX12_types_15 (by decide) rfl ?_
    refine r_iload_n (q := 18) dX12_types_17 rfl rfl ?_
    refine r_imul (q := 19) dX12_types_18 rfl ?_
    refine r_ishr (q := 20) dX12_types_19 rfl ?_
    refine r_i2b (q := 21) dX12_types_20 rfl ?_
    obtain ⟨g2, h⟩ := mm_guard h
    refine r_bast (j := (Int32.toNatClampNeg (s.2 0 8))) (q := 22) dX12_types_21 sc_m_7 (mm_vp g2) rfl rfl ?_
    refine r_aload_n (q := 23) dX12_types_22 rfl rfl ?_
    refine r_aload_n (q := 24) dX12_types_23 rfl rfl ?_
    refine r_geti (v := (s.2 0 8)) (q := 27) lk_X12_138 dX12_types_24 sc_m_0 rfl rfl rfl ?_
    refine r_iconst (v := 1) (q := 28) dX12_types_27 (by decide) rfl ?_
    refine r_iadd (q := 29) dX12_types_28 rfl ?_
    refine r_puti (q := 32) lk_X12_138 ft_9_8 dX12_types_29 sc_m_0 rfl rfl ?_
    refine r_iinc (v := (-1)) (q := 35) (L' := [some (.inr 0), some (.inl x1), some (.inl (s.1 + (-1)))]) dX12_types_32 (by decide) (by decide) rfl rfl rfl ?_
    refine r_goto 2 dX12_types_35 (by decide) ?_
    cases h
    have hk := kb _ rfl
    exact hk
noncomputable def X12_types (x1 : Int32) (M : mm_M) : Option mm_M := (mm_loop (X12_types_l2 x1) mm_fuel (3, M))
set_option maxRecDepth 100000 in
set_option maxHeartbeats 400000 in
theorem t_X12_types {d : Nat} (hd : 0 ≤ d) (x1 : Int32) (M : mm_M) (res : mm_M) (h : X12_types x1 M = some res) : mm_Meth jX12_types d 0 0 [(.inr 0), (.inl x1)] S_m M (mm_Zv S_m res) := by
  refine r_meth (L := [some (.inr 0), some (.inl x1), none]) rfl (fun D => ?_)
  unfold X12_types at h
  refine r_iconst (v := 3) (q := 1) dX12_types_0 (by decide) rfl ?_
  refine r_istore_n (q := 2) (L' := [some (.inr 0), some (.inl x1), some (.inl 3)]) dX12_types_1 (by decide) rfl rfl ?_
  exact t_X12_types_l2 hd x1 mm_fuel (3, M) _ h mm_Zv_rfl
noncomputable def X12_feed (x1 : Int32) (x2 : Int32) (x3 : Int32) (x4 : Int32) (x5 : Int32) (M : mm_M) : Option (Int32 × mm_M) := if ((M 0 8) + 20) ≤ 260 then (X12_types x1 M).bind fun y3 => (X12_types x2 y3).bind fun y5 => (X12_types x3 y5).bind fun y7 => (X12_types x4 y7).bind fun y9 => (X12_types x5 y9).bind fun y11 => some ((y11 0 8), y11) else some ((-1), M)
set_option maxRecDepth 100000 in
set_option maxHeartbeats 400000 in
theorem t_X12_feed {d : Nat} (hd : 1 ≤ d) (x1 : Int32) (x2 : Int32) (x3 : Int32) (x4 : Int32) (x5 : Int32) (M : mm_M) (res : (Int32 × mm_M)) (h : X12_feed x1 x2 x3 x4 x5 M = some res) : mm_Meth jX12_feed d 0 0 [(.inr 0), (.inl x1), (.inl x2), (.inl x3), (.inl x4), (.inl x5)] S_m M (mm_Zi res.1 S_m res.2) := by
  refine r_meth (L := [some (.inr 0), some (.inl x1), some (.inl x2), some (.inl x3), some (.inl x4), some (.inl x5)]) rfl (fun D => ?_)
  unfold X12_feed at h
  refine r_aload_n (q := 1) dX12_feed_0 rfl rfl ?_
  refine r_geti (v := (M 0 8)) (q := 4) lk_X12_138 dX12_feed_1 sc_m_0 rfl rfl rfl ?_
  refine r_bipush (v := 20) (q := 6) dX12_feed_4 (by decide) rfl ?_
  refine r_iadd (q := 7) dX12_feed_6 rfl ?_
  refine r_sipush (v := 260) (q := 10) dX12_feed_7 (by decide) rfl ?_
  refine r_icmp_le 15 (q := 13) dX12_feed_10 (by decide) rfl (fun c1 => ?_) (fun c1 => ?_)
  · rw [if_pos c1] at h
    refine r_aload_n (q := 16) dX12_feed_15 rfl rfl ?_
    refine r_iload_n (q := 17) dX12_feed_16 rfl rfl ?_
    obtain ⟨y3, e2, h⟩ := Option.bind_eq_some_iff.mp h
    refine r_callV_v (av := [(.inl x1)]) (st := []) (q := 20) (d1 := 0) kc_X12_141 sc_m_0 dX12_feed_17 rfl rfl (Nat.le_of_ble_eq_true rfl) (Nat.le_of_ble_eq_true rfl) (by omega) rfl rfl (t_X12_types (d := 0) (by omega) x1 M _ e2) ?_
    refine r_aload_n (q := 21) dX12_feed_20 rfl rfl ?_
    refine r_iload_n (q := 22) dX12_feed_21 rfl rfl ?_
    obtain ⟨y5, e4, h⟩ := Option.bind_eq_some_iff.mp h
    refine r_callV_v (av := [(.inl x2)]) (st := []) (q := 25) (d1 := 0) kc_X12_141 sc_m_0 dX12_feed_22 rfl rfl (Nat.le_of_ble_eq_true rfl) (Nat.le_of_ble_eq_true rfl) (by omega) rfl rfl (t_X12_types (d := 0) (by omega) x2 y3 _ e4) ?_
    refine r_aload_n (q := 26) dX12_feed_25 rfl rfl ?_
    refine r_iload_n (q := 27) dX12_feed_26 rfl rfl ?_
    obtain ⟨y7, e6, h⟩ := Option.bind_eq_some_iff.mp h
    refine r_callV_v (av := [(.inl x3)]) (st := []) (q := 30) (d1 := 0) kc_X12_141 sc_m_0 dX12_feed_27 rfl rfl (Nat.le_of_ble_eq_true rfl) (Nat.le_of_ble_eq_true rfl) (by omega) rfl rfl (t_X12_types (d := 0) (by omega) x3 y5 _ e6) ?_
    refine r_aload_n (q := 31) dX12_feed_30 rfl rfl ?_
    refine r_iload (q := 33) dX12_feed_31 rfl rfl ?_
    obtain ⟨y9, e8, h⟩ := Option.bind_eq_some_iff.mp h
    refine r_callV_v (av := [(.inl x4)]) (st := []) (q := 36) (d1 := 0) kc_X12_141 sc_m_0 dX12_feed_33 rfl rfl (Nat.le_of_ble_eq_true rfl) (Nat.le_of_ble_eq_true rfl) (by omega) rfl rfl (t_X12_types (d := 0) (by omega) x4 y7 _ e8) ?_
    refine r_aload_n (q := 37) dX12_feed_36 rfl rfl ?_
    refine r_iload (q := 39) dX12_feed_37 rfl rfl ?_
    obtain ⟨y11, e10, h⟩ := Option.bind_eq_some_iff.mp h
    refine r_callV_v (av := [(.inl x5)]) (st := []) (q := 42) (d1 := 0) kc_X12_141 sc_m_0 dX12_feed_39 rfl rfl (Nat.le_of_ble_eq_true rfl) (Nat.le_of_ble_eq_true rfl) (by omega) rfl rfl (t_X12_types (d := 0) (by omega) x5 y9 _ e10) ?_
    refine r_aload_n (q := 43) dX12_feed_42 rfl rfl ?_
    refine r_geti (v := (y11 0 8)) (q := 46) lk_X12_138 dX12_feed_43 sc_m_0 rfl rfl rfl ?_
    cases h
    exact r_ret dX12_feed_46 rfl mm_Zi_rfl
  · rw [if_neg c1] at h
    refine r_iconst (v := (-1)) (q := 14) dX12_feed_13 (by decide) rfl ?_
    cases h
    exact r_ret dX12_feed_14 rfl mm_Zi_rfl
noncomputable def X12_beginsText (x1 : Int32) (M : mm_M) : mm_M := (mm_U (mm_U (mm_U (mm_U M 0 9 0) 0 10 x1) 0 14 0) 0 16 0)
set_option maxRecDepth 100000 in
set_option maxHeartbeats 400000 in
theorem t_X12_beginsText {d : Nat} (hd : 0 ≤ d) (x1 : Int32) (M : mm_M) (res : mm_M) (h : X12_beginsText x1 M = res) : mm_Meth jX12_beginsText d 0 0 [(.inr 0), (.inl x1)] S_m M (mm_Zv S_m res) := by
  refine r_meth (L := [some (.inr 0), some (.inl x1)]) rfl (fun D => ?_)
  unfold X12_beginsText at h
  refine r_aload_n (q := 1) dX12_beginsText_0 rfl rfl ?_
  refine r_iconst (v := 0) (q := 2) dX12_beginsText_1 (by decide) rfl ?_
  refine r_puti (q := 5) lk_X12_145 ft_9_9 dX12_beginsText_2 sc_m_0 rfl rfl ?_
  refine r_aload_n (q := 6) dX12_beginsText_5 rfl rfl ?_
  refine r_iload_n (q := 7) dX12_beginsText_6 rfl rfl ?_
  refine r_puti (q := 10) lk_X12_148 ft_9_10 dX12_beginsText_7 sc_m_0 rfl rfl ?_
  refine r_aload_n (q := 11) dX12_beginsText_10 rfl rfl ?_
  refine r_iconst (v := 0) (q := 12) dX12_beginsText_11 (by decide) rfl ?_
  refine r_puti (q := 15) lk_X12_168 ft_9_14 dX12_beginsText_12 sc_m_0 rfl rfl ?_
  refine r_aload_n (q := 16) dX12_beginsText_15 rfl rfl ?_
  refine r_iconst (v := 0) (q := 17) dX12_beginsText_16 (by decide) rfl ?_
  refine r_puti (q := 20) lk_X12_223 ft_9_16 dX12_beginsText_17 sc_m_0 rfl rfl ?_
  subst h
  exact r_retv dX12_beginsText_20 rfl mm_Zv_rfl
noncomputable def X12_here (M : mm_M) : Option Int32 := if (M 0 10) ≤ (M 0 9) then some (-1) else if mm_in (M 0 9) 260 = true then some ((M 7 (Int32.toNatClampNeg (M 0 9))) &&& 255) else none
set_option maxRecDepth 100000 in
set_option maxHeartbeats 400000 in
theorem t_X12_here {d : Nat} (hd : 0 ≤ d) (M : mm_M) (res : Int32) (h : X12_here M = some res) : mm_Meth jX12_here d 0 0 [(.inr 0)] S_m M (mm_Zi res S_m M) := by
  refine r_meth (L := [some (.inr 0)]) rfl (fun D => ?_)
  unfold X12_here at h
  refine r_aload_n (q := 1) dX12_here_0 rfl rfl ?_
  refine r_geti (v := (M 0 9)) (q := 4) lk_X12_145 dX12_here_1 sc_m_0 rfl rfl rfl ?_
  refine r_aload_n (q := 5) dX12_here_4 rfl rfl ?_
  refine r_geti (v := (M 0 10)) (q := 8) lk_X12_148 dX12_here_5 sc_m_0 rfl rfl rfl ?_
  refine r_icmp_ge 27 (q := 11) dX12_here_8 (by decide) rfl (fun c1 => ?_) (fun c1 => ?_)
  · rw [if_pos c1] at h
    refine r_iconst (v := (-1)) (q := 28) dX12_here_27 (by decide) rfl ?_
    cases h
    exact r_ret dX12_here_28 rfl mm_Zi_rfl
  · rw [if_neg c1] at h
    refine r_aload_n (q := 12) dX12_here_11 rfl rfl ?_
    refine r_getr (b := 7) (q := 15) lk_X12_28 dX12_here_12 sc_m_0 rfl rfl ?_
    refine r_aload_n (q := 16) dX12_here_15 rfl rfl ?_
    refine r_geti (v := (M 0 9)) (q := 19) lk_X12_145 dX12_here_16 sc_m_0 rfl rfl rfl ?_
    obtain ⟨g2, h⟩ := mm_guard h
    refine r_bald (v := (M 7 (Int32.toNatClampNeg (M 0 9)))) (q := 20) dX12_here_19 sc_m_7 (mm_vp g2) rfl rfl ?_
    refine r_sipush (v := 255) (q := 23) dX12_here_20 (by decide) rfl ?_
    refine r_iand (q := 24) dX12_here_23 rfl ?_
    refine r_goto 28 dX12_here_24 (by decide) ?_
    cases h
    exact r_ret dX12_here_28 rfl mm_Zi_rfl
noncomputable def X12_wrongAt (x1 : Int32) (x2 : Int32) (M : mm_M) : (Bool × mm_M) := (false, (mm_U M 0 11 ((((-1000) : Int32) * x1) - x2)))
set_option maxRecDepth 100000 in
set_option maxHeartbeats 400000 in
theorem t_X12_wrongAt {d : Nat} (hd : 0 ≤ d) (x1 : Int32) (x2 : Int32) (M : mm_M) (res : (Bool × mm_M)) (h : X12_wrongAt x1 x2 M = res) : mm_Meth jX12_wrongAt d 0 0 [(.inr 0), (.inl x1), (.inl x2)] S_m M (mm_Zi (mm_b res.1) S_m res.2) := by
  refine r_meth (L := [some (.inr 0), some (.inl x1), some (.inl x2)]) rfl (fun D => ?_)
  unfold X12_wrongAt at h
  refine r_aload_n (q := 1) dX12_wrongAt_0 rfl rfl ?_
  refine r_sipush (v := (-1000)) (q := 4) dX12_wrongAt_1 (by decide) rfl ?_
  refine r_iload_n (q := 5) dX12_wrongAt_4 rfl rfl ?_
  refine r_imul (q := 6) dX12_wrongAt_5 rfl ?_
  refine r_iload_n (q := 7) dX12_wrongAt_6 rfl rfl ?_
  refine r_isub (q := 8) dX12_wrongAt_7 rfl ?_
  refine r_puti (q := 11) lk_X12_155 ft_9_11 dX12_wrongAt_8 sc_m_0 rfl rfl ?_
  refine r_iconst (v := 0) (q := 12) dX12_wrongAt_11 (by decide) rfl ?_
  subst h
  exact r_retb dX12_wrongAt_12 rfl (Or.inl rfl) mm_Zi_rfl
noncomputable def X12_opens (x1 : Int32) (M : mm_M) : Option (Bool × mm_M) := if (M 0 13) = 6 then mm_let (X12_wrongAt 5 (M 0 9) M) fun y3 => some (y3.1, y3.2) else if mm_in (M 0 15) 260 = true then some (true, (mm_U (mm_U (mm_U (mm_U M 0 13 ((M 0 13) + 1)) 9 (Int32.toNatClampNeg (M 0 15)) ((1048576 : Int32) * x1)) 0 15 ((M 0 15) + 1)) 0 9 ((M 0 9) + 1))) else none
set_option maxRecDepth 100000 in
set_option maxHeartbeats 400000 in
theorem t_X12_opens {d : Nat} (hd : 1 ≤ d) (x1 : Int32) (M : mm_M) (res : (Bool × mm_M)) (h : X12_opens x1 M = some res) : mm_Meth jX12_opens d 0 0 [(.inr 0), (.inl x1)] S_m M (mm_Zi (mm_b res.1) S_m res.2) := by
  refine r_meth (L := [some (.inr 0), some (.inl x1)]) rfl (fun D => ?_)
  unfold X12_opens at h
  refine r_aload_n (q := 1) dX12_opens_0 rfl rfl ?_
  refine r_geti (v := (M 0 13)) (q := 4) lk_X12_172 dX12_opens_1 sc_m_0 rfl rfl rfl ?_
  refine r_bipush (v := 6) (q := 6) dX12_opens_4 (by decide) rfl ?_
  refine r_icmp_ne 19 (q := 9) dX12_opens_6 (by decide) rfl (fun c1 => ?_) (fun c1 => ?_)
  · rw [if_neg c1] at h
    refine r_aload_n (q := 20) dX12_opens_19 rfl rfl ?_
    refine r_aload_n (q := 21) dX12_opens_20 rfl rfl ?_
    refine r_geti (v := (M 0 13)) (q := 24) lk_X12_172 dX12_opens_21 sc_m_0 rfl rfl rfl ?_
    refine r_iconst (v := 1) (q := 25) dX12_opens_24 (by decide) rfl ?_
    refine r_iadd (q := 26) dX12_opens_25 rfl ?_
    refine r_puti (q := 29) lk_X12_172 ft_9_13 dX12_opens_26 sc_m_0 rfl rfl ?_
    refine r_aload_n (q := 30) dX12_opens_29 rfl rfl ?_
    refine r_getr (b := 9) (q := 33) lk_X12_35 dX12_opens_30 sc_m_0 rfl rfl ?_
    refine r_aload_n (q := 34) dX12_opens_33 rfl rfl ?_
    refine r_geti (v := (M 0 15)) (q := 37) lk_X12_175 dX12_opens_34 sc_m_0 rfl rfl rfl ?_
    refine r_ldc (v := 1048576) (q := 39) dX12_opens_37 ko_X12_171 rfl ?_
    refine r_iload_n (q := 40) dX12_opens_39 rfl rfl ?_
    refine r_imul (q := 41) dX12_opens_40 rfl ?_
    obtain ⟨g4, h⟩ := mm_guard h
    refine r_iast (j := (Int32.toNatClampNeg (M 0 15))) (q := 42) dX12_opens_41 sc_m_9 (mm_vp g4) rfl rfl ?_
    refine r_aload_n (q := 43) dX12_opens_42 rfl rfl ?_
    refine r_aload_n (q := 44) dX12_opens_43 rfl rfl ?_
    refine r_geti (v := (M 0 15)) (q := 47) lk_X12_175 dX12_opens_44 sc_m_0 rfl rfl rfl ?_
    refine r_iconst (v := 1) (q := 48) dX12_opens_47 (by decide) rfl ?_
    refine r_iadd (q := 49) dX12_opens_48 rfl ?_
    refine r_puti (q := 52) lk_X12_175 ft_9_15 dX12_opens_49 sc_m_0 rfl rfl ?_
    refine r_aload_n (q := 53) dX12_opens_52 rfl rfl ?_
    refine r_aload_n (q := 54) dX12_opens_53 rfl rfl ?_
    refine r_geti (v := (M 0 9)) (q := 57) lk_X12_145 dX12_opens_54 sc_m_0 rfl rfl rfl ?_
    refine r_iconst (v := 1) (q := 58) dX12_opens_57 (by decide) rfl ?_
    refine r_iadd (q := 59) dX12_opens_58 rfl ?_
    refine r_puti (q := 62) lk_X12_145 ft_9_9 dX12_opens_59 sc_m_0 rfl rfl ?_
    refine r_iconst (v := 1) (q := 63) dX12_opens_62 (by decide) rfl ?_
    cases h
    exact r_retb dX12_opens_63 rfl (Or.inr rfl) mm_Zi_rfl
  · rw [if_pos c1] at h
    refine r_aload_n (q := 10) dX12_opens_9 rfl rfl ?_
    refine r_iconst (v := 5) (q := 11) dX12_opens_10 (by decide) rfl ?_
    refine r_aload_n (q := 12) dX12_opens_11 rfl rfl ?_
    refine r_geti (v := (M 0 9)) (q := 15) lk_X12_145 dX12_opens_12 sc_m_0 rfl rfl rfl ?_
    obtain ⟨y3, e2, h⟩ := mm_let_elim h
    refine r_callV_i (av := [(.inl 5), (.inl (M 0 9))]) (st := []) (q := 18) (d1 := 0) kc_X12_158 sc_m_0 dX12_opens_15 rfl rfl (Nat.le_of_ble_eq_true rfl) (Nat.le_of_ble_eq_true rfl) (by omega) rfl rfl (t_X12_wrongAt (d := 0) (by omega) 5 (M 0 9) M _ e2) ?_
    cases h
    exact r_retb dX12_opens_18 rfl (mm_b01 _) mm_Zi_rfl
noncomputable def X12_isDigit (M : mm_M) : Option Bool := (X12_here M).bind fun y2 => if y2 < 48 then some false else (X12_here M).bind fun y5 => if 57 < y5 then some false else some true
set_option maxRecDepth 100000 in
set_option maxHeartbeats 400000 in
theorem t_X12_isDigit {d : Nat} (hd : 1 ≤ d) (M : mm_M) (res : Bool) (h : X12_isDigit M = some res) : mm_Meth jX12_isDigit d 0 0 [(.inr 0)] S_m M (mm_Zi (mm_b res) S_m M) := by
  refine r_meth (L := [some (.inr 0)]) rfl (fun D => ?_)
  unfold X12_isDigit at h
  refine r_aload_n (q := 1) dX12_isDigit_0 rfl rfl ?_
  obtain ⟨y2, e1, h⟩ := Option.bind_eq_some_iff.mp h
  refine r_callV_i (av := []) (st := []) (q := 4) (d1 := 0) kc_X12_151 sc_m_0 dX12_isDigit_1 rfl rfl (Nat.le_of_ble_eq_true rfl) (Nat.le_of_ble_eq_true rfl) (by omega) rfl rfl (t_X12_here (d := 0) (by omega) M _ e1) ?_
  refine r_bipush (v := 48) (q := 6) dX12_isDigit_4 (by decide) rfl ?_
  refine r_icmp_lt 22 (q := 9) dX12_isDigit_6 (by decide) rfl (fun c3 => ?_) (fun c3 => ?_)
  · rw [if_pos c3] at h
    refine r_iconst (v := 0) (q := 23) dX12_isDigit_22 (by decide) rfl ?_
    cases h
    exact r_retb dX12_isDigit_23 rfl (Or.inl rfl) mm_Zi_rfl
  · rw [if_neg c3] at h
    refine r_aload_n (q := 10) dX12_isDigit_9 rfl rfl ?_
    obtain ⟨y5, e4, h⟩ := Option.bind_eq_some_iff.mp h
    refine r_callV_i (av := []) (st := []) (q := 13) (d1 := 0) kc_X12_151 sc_m_0 dX12_isDigit_10 rfl rfl (Nat.le_of_ble_eq_true rfl) (Nat.le_of_ble_eq_true rfl) (by omega) rfl rfl (t_X12_here (d := 0) (by omega) M _ e4) ?_
    refine r_bipush (v := 57) (q := 15) dX12_isDigit_13 (by decide) rfl ?_
    refine r_icmp_gt 22 (q := 18) dX12_isDigit_15 (by decide) rfl (fun c6 => ?_) (fun c6 => ?_)
    · rw [if_pos c6] at h
      refine r_iconst (v := 0) (q := 23) dX12_isDigit_22 (by decide) rfl ?_
      cases h
      exact r_retb dX12_isDigit_23 rfl (Or.inl rfl) mm_Zi_rfl
    · rw [if_neg c6] at h
      refine r_iconst (v := 1) (q := 19) dX12_isDigit_18 (by decide) rfl ?_
      refine r_goto 23 dX12_isDigit_19 (by decide) ?_
      cases h
      exact r_retb dX12_isDigit_23 rfl (Or.inr rfl) mm_Zi_rfl
noncomputable def X12_readsNumber_l10 (x1 : Int32) (s : mm_M) : Option (mm_M ⊕ (Bool × mm_M)) := (X12_isDigit s).bind fun y2 => if y2 = true then if (s 0 9) = (x1 + 5) then mm_let (X12_wrongAt 2 (s 0 9) s) fun y6 => some (.inr (y6.1, y6.2)) else (X12_here s).bind fun y8 => some (.inl (mm_U (mm_U s 0 12 ((((10 : Int32) * (s 0 12)) + y8) - 48)) 0 9 ((s 0 9) + 1))) else some (.inr (true, s))
set_option maxRecDepth 100000 in
set_option maxHeartbeats 400000 in
theorem t_X12_readsNumber_l10 {D : mm_D} {d : Nat} (hd : 2 ≤ d) {Z : Option Int32 → List mm_C → mm_M → Prop} (x1 : Int32) (n : Nat) (s : mm_M) (r : (Bool × mm_M)) (h : mm_loop (X12_readsNumber_l10 x1) n s = some r) (hx : Z (some (mm_b r.1)) S_m r.2) : mm_Go jX12_readsNumber D d 0 0 10 [some (.inr 0), some (.inl x1)] [] S_m s Z := by
  refine mm_loop_go (step := X12_readsNumber_l10 x1) (Hd := fun (s : mm_M) => mm_Go jX12_readsNumber D d 0 0 10 [some (.inr 0), some (.inl x1)] [] S_m s Z) (Ex := fun (r : (Bool × mm_M)) => Z (some (mm_b r.1)) S_m r.2) ?_ n s r h hx
  intro s o h kb ke
  show mm_Go jX12_readsNumber D d 0 0 10 [some (.inr 0), some (.inl x1)] [] S_m s Z
  unfold X12_readsNumber_l10 at h
  refine r_aload_n (q := 11) dX12_readsNumber_10 rfl rfl ?_
  obtain ⟨y2, e1, h⟩ := Option.bind_eq_some_iff.mp h
  refine r_callV_i (av := []) (st := []) (q := 14) (d1 := 1) kc_X12_164 sc_m_0 dX12_readsNumber_11 rfl rfl (Nat.le_of_ble_eq_true rfl) (Nat.le_of_ble_eq_true rfl) (by omega) rfl rfl (t_X12_isDigit (d := 1) (by omega) s _ e1) ?_
  refine r_if_eq 69 (q := 17) dX12_readsNumber_14 (by decide) rfl (fun c3 => ?_) (fun c3 => ?_)
  · rw [if_neg (mm_b0 c3)] at h
    refine r_iconst (v := 1) (q := 70) dX12_readsNumber_69 (by decide) rfl ?_
    cases h
    have hk := ke _ rfl
    exact r_retb dX12_readsNumber_70 rfl (Or.inr rfl) hk
  · rw [if_pos (mm_b1 c3)] at h
    refine r_aload_n (q := 18) dX12_readsNumber_17 rfl rfl ?_
    refine r_geti (v := (s 0 9)) (q := 21) lk_X12_145 dX12_readsNumber_18 sc_m_0 rfl rfl rfl ?_
    refine r_iload_n (q := 22) dX12_readsNumber_21 rfl rfl ?_
    refine r_iconst (v := 5) (q := 23) dX12_readsNumber_22 (by decide) rfl ?_
    refine r_iadd (q := 24) dX12_readsNumber_23 rfl ?_
    refine r_icmp_ne 37 (q := 27) dX12_readsNumber_24 (by decide) rfl (fun c4 => ?_) (fun c4 => ?_)
    · rw [if_neg c4] at h
      refine r_aload_n (q := 38) dX12_readsNumber_37 rfl rfl ?_
      refine r_bipush (v := 10) (q := 40) dX12_readsNumber_38 (by decide) rfl ?_
      refine r_aload_n (q := 41) dX12_readsNumber_40 rfl rfl ?_
      refine r_geti (v := (s 0 12)) (q := 44) lk_X12_161 dX12_readsNumber_41 sc_m_0 rfl rfl rfl ?_
      refine r_imul (q := 45) dX12_readsNumber_44 rfl ?_
      refine r_aload_n (q := 46) dX12_readsNumber_45 rfl rfl ?_
      obtain ⟨y8, e7, h⟩ := Option.bind_eq_some_iff.mp h
      refine r_callV_i (av := []) (st := [(.inl ((10 : Int32) * (s 0 12))), (.inr 0)]) (q := 49) (d1 := 0) kc_X12_151 sc_m_0 dX12_readsNumber_46 rfl rfl (Nat.le_of_ble_eq_true rfl) (Nat.le_of_ble_eq_true rfl) (by omega) rfl rfl (t_X12_here (d := 0) (by omega) s _ e7) ?_
      refine r_iadd (q := 50) dX12_readsNumber_49 rfl ?_
      refine r_bipush (v := 48) (q := 52) dX12_readsNumber_50 (by decide) rfl ?_
      refine r_isub (q := 53) dX12_readsNumber_52 rfl ?_
      refine r_puti (q := 56) lk_X12_161 ft_9_12 dX12_readsNumber_53 sc_m_0 rfl rfl ?_
      refine r_aload_n (q := 57) dX12_readsNumber_56 rfl rfl ?_
      refine r_aload_n (q := 58) dX12_readsNumber_57 rfl rfl ?_
      refine r_geti (v := (s 0 9)) (q := 61) lk_X12_145 dX12_readsNumber_58 sc_m_0 rfl rfl rfl ?_
      refine r_iconst (v := 1) (q := 62) dX12_readsNumber_61 (by decide) rfl ?_
      refine r_iadd (q := 63) dX12_readsNumber_62 rfl ?_
      refine r_puti (q := 66) lk_X12_145 ft_9_9 dX12_readsNumber_63 sc_m_0 rfl rfl ?_
      refine r_goto 10 dX12_readsNumber_66 (by decide) ?_
      cases h
      have hk := kb _ rfl
      exact hk
    · rw [if_pos c4] at h
      refine r_aload_n (q := 28) dX12_readsNumber_27 rfl rfl ?_
      refine r_iconst (v := 2) (q := 29) dX12_readsNumber_28 (by decide) rfl ?_
      refine r_aload_n (q := 30) dX12_readsNumber_29 rfl rfl ?_
      refine r_geti (v := (s 0 9)) (q := 33) lk_X12_145 dX12_readsNumber_30 sc_m_0 rfl rfl rfl ?_
      obtain ⟨y6, e5, h⟩ := mm_let_elim h
      refine r_callV_i (av := [(.inl 2), (.inl (s 0 9))]) (st := []) (q := 36) (d1 := 0) kc_X12_158 sc_m_0 dX12_readsNumber_33 rfl rfl (Nat.le_of_ble_eq_true rfl) (Nat.le_of_ble_eq_true rfl) (by omega) rfl rfl (t_X12_wrongAt (d := 0) (by omega) 2 (s 0 9) s _ e5) ?_
      cases h
      have hk := ke _ rfl
      exact r_retb dX12_readsNumber_36 rfl (mm_b01 _) hk
noncomputable def X12_readsNumber (M : mm_M) : Option (Bool × mm_M) := (mm_loop (X12_readsNumber_l10 (M 0 9)) mm_fuel (mm_U M 0 12 0))
set_option maxRecDepth 100000 in
set_option maxHeartbeats 400000 in
theorem t_X12_readsNumber {d : Nat} (hd : 2 ≤ d) (M : mm_M) (res : (Bool × mm_M)) (h : X12_readsNumber M = some res) : mm_Meth jX12_readsNumber d 0 0 [(.inr 0)] S_m M (mm_Zi (mm_b res.1) S_m res.2) := by
  refine r_meth (L := [some (.inr 0), none]) rfl (fun D => ?_)
  unfold X12_readsNumber at h
  refine r_aload_n (q := 1) dX12_readsNumber_0 rfl rfl ?_
  refine r_geti (v := (M 0 9)) (q := 4) lk_X12_145 dX12_readsNumber_1 sc_m_0 rfl rfl rfl ?_
  refine r_istore_n (q := 5) (L' := [some (.inr 0), some (.inl (M 0 9))]) dX12_readsNumber_4 (by decide) rfl rfl ?_
  refine r_aload_n (q := 6) dX12_readsNumber_5 rfl rfl ?_
  refine r_iconst (v := 0) (q := 7) dX12_readsNumber_6 (by decide) rfl ?_
  refine r_puti (q := 10) lk_X12_161 ft_9_12 dX12_readsNumber_7 sc_m_0 rfl rfl ?_
  exact t_X12_readsNumber_l10 hd (M 0 9) mm_fuel (mm_U M 0 12 0) _ h mm_Zi_rfl
noncomputable def X12_notes (x1 : Int32) (x2 : Int32) (M : mm_M) : Option mm_M := if mm_in (M 0 14) 260 = true then some (mm_U (mm_U M 8 (Int32.toNatClampNeg (M 0 14)) (((1048576 : Int32) * x1) + x2)) 0 14 ((M 0 14) + 1)) else none
set_option maxRecDepth 100000 in
set_option maxHeartbeats 400000 in
theorem t_X12_notes {d : Nat} (hd : 0 ≤ d) (x1 : Int32) (x2 : Int32) (M : mm_M) (res : mm_M) (h : X12_notes x1 x2 M = some res) : mm_Meth jX12_notes d 0 0 [(.inr 0), (.inl x1), (.inl x2)] S_m M (mm_Zv S_m res) := by
  refine r_meth (L := [some (.inr 0), some (.inl x1), some (.inl x2)]) rfl (fun D => ?_)
  unfold X12_notes at h
  refine r_aload_n (q := 1) dX12_notes_0 rfl rfl ?_
  refine r_getr (b := 8) (q := 4) lk_X12_32 dX12_notes_1 sc_m_0 rfl rfl ?_
  refine r_aload_n (q := 5) dX12_notes_4 rfl rfl ?_
  refine r_geti (v := (M 0 14)) (q := 8) lk_X12_168 dX12_notes_5 sc_m_0 rfl rfl rfl ?_
  refine r_ldc (v := 1048576) (q := 10) dX12_notes_8 ko_X12_171 rfl ?_
  refine r_iload_n (q := 11) dX12_notes_10 rfl rfl ?_
  refine r_imul (q := 12) dX12_notes_11 rfl ?_
  refine r_iload_n (q := 13) dX12_notes_12 rfl rfl ?_
  refine r_iadd (q := 14) dX12_notes_13 rfl ?_
  obtain ⟨g1, h⟩ := mm_guard h
  refine r_iast (j := (Int32.toNatClampNeg (M 0 14))) (q := 15) dX12_notes_14 sc_m_8 (mm_vp g1) rfl rfl ?_
  refine r_aload_n (q := 16) dX12_notes_15 rfl rfl ?_
  refine r_aload_n (q := 17) dX12_notes_16 rfl rfl ?_
  refine r_geti (v := (M 0 14)) (q := 20) lk_X12_168 dX12_notes_17 sc_m_0 rfl rfl rfl ?_
  refine r_iconst (v := 1) (q := 21) dX12_notes_20 (by decide) rfl ?_
  refine r_iadd (q := 22) dX12_notes_21 rfl ?_
  refine r_puti (q := 25) lk_X12_168 ft_9_14 dX12_notes_22 sc_m_0 rfl rfl ?_
  cases h
  exact r_retv dX12_notes_25 rfl mm_Zv_rfl
noncomputable def X12_factOf (x0 : Int32) : Int32 := if x0 = 97 then 1 else if x0 = 98 then 4 else if x0 = 108 then 2 else if x0 = 110 then 5 else if x0 = 112 then 3 else if x0 = 113 then 0 else if x0 = 115 then 6 else if x0 = 116 then 7 else if x0 = 119 then 8 else (-1)
set_option maxRecDepth 100000 in
set_option maxHeartbeats 400000 in
theorem t_X12_factOf {d : Nat} (hd : 0 ≤ d) (x0 : Int32) (M : mm_M) (res : Int32) (h : X12_factOf x0 = res) : mm_Meth jX12_factOf d 0 0 [(.inl x0)] S_m M (mm_Zi res S_m M) := by
  refine r_meth (L := [some (.inl x0)]) rfl (fun D => ?_)
  unfold X12_factOf at h
  refine r_iload_n (q := 1) dX12_factOf_0 rfl rfl ?_
  by_cases c1 : x0 = 97
  · rw [if_pos c1] at h
    refine mm_tableIn (off := 109) 110 dX12_factOf_1 (by rw [c1]; decide) (by rw [c1]; decide) (by rw [c1]; rfl) (by decide) ?_
    refine r_iconst (v := 1) (q := 111) dX12_factOf_110 (by decide) rfl ?_
    subst h
    exact r_ret dX12_factOf_111 rfl mm_Zi_rfl
  · rw [if_neg c1] at h
    by_cases c2 : x0 = 98
    · rw [if_pos c2] at h
      refine mm_tableIn (off := 115) 116 dX12_factOf_1 (by rw [c2]; decide) (by rw [c2]; decide) (by rw [c2]; rfl) (by decide) ?_
      refine r_iconst (v := 4) (q := 117) dX12_factOf_116 (by decide) rfl ?_
      subst h
      exact r_ret dX12_factOf_117 rfl mm_Zi_rfl
    · rw [if_neg c2] at h
      by_cases c3 : x0 = 99
      · rw [if_neg (by rw [c3]; decide)] at h
        rw [if_neg (by rw [c3]; decide)] at h
        rw [if_neg (by rw [c3]; decide)] at h
        rw [if_neg (by rw [c3]; decide)] at h
        rw [if_neg (by rw [c3]; decide)] at h
        rw [if_neg (by rw [c3]; decide)] at h
        rw [if_neg (by rw [c3]; decide)] at h
        refine mm_tableIn (off := 128) 129 dX12_factOf_1 (by rw [c3]; decide) (by rw [c3]; decide) (by rw [c3]; rfl) (by decide) ?_
        refine r_iconst (v := (-1)) (q := 130) dX12_factOf_129 (by decide) rfl ?_
        subst h
        exact r_ret dX12_factOf_130 rfl mm_Zi_rfl
      · skip
        by_cases c4 : x0 = 100
        · rw [if_neg (by rw [c4]; decide)] at h
          rw [if_neg (by rw [c4]; decide)] at h
          rw [if_neg (by rw [c4]; decide)] at h
          rw [if_neg (by rw [c4]; decide)] at h
          rw [if_neg (by rw [c4]; decide)] at h
          rw [if_neg (by rw [c4]; decide)] at h
          rw [if_neg (by rw [c4]; decide)] at h
          refine mm_tableIn (off := 128) 129 dX12_factOf_1 (by rw [c4]; decide) (by rw [c4]; decide) (by rw [c4]; rfl) (by decide) ?_
          refine r_iconst (v := (-1)) (q := 130) dX12_factOf_129 (by decide) rfl ?_
          subst h
          exact r_ret dX12_factOf_130 rfl mm_Zi_rfl
        · skip
          by_cases c5 : x0 = 101
          · rw [if_neg (by rw [c5]; decide)] at h
            rw [if_neg (by rw [c5]; decide)] at h
            rw [if_neg (by rw [c5]; decide)] at h
            rw [if_neg (by rw [c5]; decide)] at h
            rw [if_neg (by rw [c5]; decide)] at h
            rw [if_neg (by rw [c5]; decide)] at h
            rw [if_neg (by rw [c5]; decide)] at h
            refine mm_tableIn (off := 128) 129 dX12_factOf_1 (by rw [c5]; decide) (by rw [c5]; decide) (by rw [c5]; rfl) (by decide) ?_
            refine r_iconst (v := (-1)) (q := 130) dX12_factOf_129 (by decide) rfl ?_
            subst h
            exact r_ret dX12_factOf_130 rfl mm_Zi_rfl
          · skip
            by_cases c6 : x0 = 102
            · rw [if_neg (by rw [c6]; decide)] at h
              rw [if_neg (by rw [c6]; decide)] at h
              rw [if_neg (by rw [c6]; decide)] at h
              rw [if_neg (by rw [c6]; decide)] at h
              rw [if_neg (by rw [c6]; decide)] at h
              rw [if_neg (by rw [c6]; decide)] at h
              rw [if_neg (by rw [c6]; decide)] at h
              refine mm_tableIn (off := 128) 129 dX12_factOf_1 (by rw [c6]; decide) (by rw [c6]; decide) (by rw [c6]; rfl) (by decide) ?_
              refine r_iconst (v := (-1)) (q := 130) dX12_factOf_129 (by decide) rfl ?_
              subst h
              exact r_ret dX12_factOf_130 rfl mm_Zi_rfl
            · skip
              by_cases c7 : x0 = 103
              · rw [if_neg (by rw [c7]; decide)] at h
                rw [if_neg (by rw [c7]; decide)] at h
                rw [if_neg (by rw [c7]; decide)] at h
                rw [if_neg (by rw [c7]; decide)] at h
                rw [if_neg (by rw [c7]; decide)] at h
                rw [if_neg (by rw [c7]; decide)] at h
                rw [if_neg (by rw [c7]; decide)] at h
                refine mm_tableIn (off := 128) 129 dX12_factOf_1 (by rw [c7]; decide) (by rw [c7]; decide) (by rw [c7]; rfl) (by decide) ?_
                refine r_iconst (v := (-1)) (q := 130) dX12_factOf_129 (by decide) rfl ?_
                subst h
                exact r_ret dX12_factOf_130 rfl mm_Zi_rfl
              · skip
                by_cases c8 : x0 = 104
                · rw [if_neg (by rw [c8]; decide)] at h
                  rw [if_neg (by rw [c8]; decide)] at h
                  rw [if_neg (by rw [c8]; decide)] at h
                  rw [if_neg (by rw [c8]; decide)] at h
                  rw [if_neg (by rw [c8]; decide)] at h
                  rw [if_neg (by rw [c8]; decide)] at h
                  rw [if_neg (by rw [c8]; decide)] at h
                  refine mm_tableIn (off := 128) 129 dX12_factOf_1 (by rw [c8]; decide) (by rw [c8]; decide) (by rw [c8]; rfl) (by decide) ?_
                  refine r_iconst (v := (-1)) (q := 130) dX12_factOf_129 (by decide) rfl ?_
                  subst h
                  exact r_ret dX12_factOf_130 rfl mm_Zi_rfl
                · skip
                  by_cases c9 : x0 = 105
                  · rw [if_neg (by rw [c9]; decide)] at h
                    rw [if_neg (by rw [c9]; decide)] at h
                    rw [if_neg (by rw [c9]; decide)] at h
                    rw [if_neg (by rw [c9]; decide)] at h
                    rw [if_neg (by rw [c9]; decide)] at h
                    rw [if_neg (by rw [c9]; decide)] at h
                    rw [if_neg (by rw [c9]; decide)] at h
                    refine mm_tableIn (off := 128) 129 dX12_factOf_1 (by rw [c9]; decide) (by rw [c9]; decide) (by rw [c9]; rfl) (by decide) ?_
                    refine r_iconst (v := (-1)) (q := 130) dX12_factOf_129 (by decide) rfl ?_
                    subst h
                    exact r_ret dX12_factOf_130 rfl mm_Zi_rfl
                  · skip
                    by_cases c10 : x0 = 106
                    · rw [if_neg (by rw [c10]; decide)] at h
                      rw [if_neg (by rw [c10]; decide)] at h
                      rw [if_neg (by rw [c10]; decide)] at h
                      rw [if_neg (by rw [c10]; decide)] at h
                      rw [if_neg (by rw [c10]; decide)] at h
                      rw [if_neg (by rw [c10]; decide)] at h
                      rw [if_neg (by rw [c10]; decide)] at h
                      refine mm_tableIn (off := 128) 129 dX12_factOf_1 (by rw [c10]; decide) (by rw [c10]; decide) (by rw [c10]; rfl) (by decide) ?_
                      refine r_iconst (v := (-1)) (q := 130) dX12_factOf_129 (by decide) rfl ?_
                      subst h
                      exact r_ret dX12_factOf_130 rfl mm_Zi_rfl
                    · skip
                      by_cases c11 : x0 = 107
                      · rw [if_neg (by rw [c11]; decide)] at h
                        rw [if_neg (by rw [c11]; decide)] at h
                        rw [if_neg (by rw [c11]; decide)] at h
                        rw [if_neg (by rw [c11]; decide)] at h
                        rw [if_neg (by rw [c11]; decide)] at h
                        rw [if_neg (by rw [c11]; decide)] at h
                        rw [if_neg (by rw [c11]; decide)] at h
                        refine mm_tableIn (off := 128) 129 dX12_factOf_1 (by rw [c11]; decide) (by rw [c11]; decide) (by rw [c11]; rfl) (by decide) ?_
                        refine r_iconst (v := (-1)) (q := 130) dX12_factOf_129 (by decide) rfl ?_
                        subst h
                        exact r_ret dX12_factOf_130 rfl mm_Zi_rfl
                      · skip
                        by_cases c12 : x0 = 108
                        · rw [if_pos c12] at h
                          refine mm_tableIn (off := 111) 112 dX12_factOf_1 (by rw [c12]; decide) (by rw [c12]; decide) (by rw [c12]; rfl) (by decide) ?_
                          refine r_iconst (v := 2) (q := 113) dX12_factOf_112 (by decide) rfl ?_
                          subst h
                          exact r_ret dX12_factOf_113 rfl mm_Zi_rfl
                        · rw [if_neg c12] at h
                          by_cases c13 : x0 = 109
                          · rw [if_neg (by rw [c13]; decide)] at h
                            rw [if_neg (by rw [c13]; decide)] at h
                            rw [if_neg (by rw [c13]; decide)] at h
                            rw [if_neg (by rw [c13]; decide)] at h
                            rw [if_neg (by rw [c13]; decide)] at h
                            rw [if_neg (by rw [c13]; decide)] at h
                            refine mm_tableIn (off := 128) 129 dX12_factOf_1 (by rw [c13]; decide) (by rw [c13]; decide) (by rw [c13]; rfl) (by decide) ?_
                            refine r_iconst (v := (-1)) (q := 130) dX12_factOf_129 (by decide) rfl ?_
                            subst h
                            exact r_ret dX12_factOf_130 rfl mm_Zi_rfl
                          · skip
                            by_cases c14 : x0 = 110
                            · rw [if_pos c14] at h
                              refine mm_tableIn (off := 117) 118 dX12_factOf_1 (by rw [c14]; decide) (by rw [c14]; decide) (by rw [c14]; rfl) (by decide) ?_
                              refine r_iconst (v := 5) (q := 119) dX12_factOf_118 (by decide) rfl ?_
                              subst h
                              exact r_ret dX12_factOf_119 rfl mm_Zi_rfl
                            · rw [if_neg c14] at h
                              by_cases c15 : x0 = 111
                              · rw [if_neg (by rw [c15]; decide)] at h
                                rw [if_neg (by rw [c15]; decide)] at h
                                rw [if_neg (by rw [c15]; decide)] at h
                                rw [if_neg (by rw [c15]; decide)] at h
                                rw [if_neg (by rw [c15]; decide)] at h
                                refine mm_tableIn (off := 128) 129 dX12_factOf_1 (by rw [c15]; decide) (by rw [c15]; decide) (by rw [c15]; rfl) (by decide) ?_
                                refine r_iconst (v := (-1)) (q := 130) dX12_factOf_129 (by decide) rfl ?_
                                subst h
                                exact r_ret dX12_factOf_130 rfl mm_Zi_rfl
                              · skip
                                by_cases c16 : x0 = 112
                                · rw [if_pos c16] at h
                                  refine mm_tableIn (off := 113) 114 dX12_factOf_1 (by rw [c16]; decide) (by rw [c16]; decide) (by rw [c16]; rfl) (by decide) ?_
                                  refine r_iconst (v := 3) (q := 115) dX12_factOf_114 (by decide) rfl ?_
                                  subst h
                                  exact r_ret dX12_factOf_115 rfl mm_Zi_rfl
                                · rw [if_neg c16] at h
                                  by_cases c17 : x0 = 113
                                  · rw [if_pos c17] at h
                                    refine mm_tableIn (off := 107) 108 dX12_factOf_1 (by rw [c17]; decide) (by rw [c17]; decide) (by rw [c17]; rfl) (by decide) ?_
                                    refine r_iconst (v := 0) (q := 109) dX12_factOf_108 (by decide) rfl ?_
                                    subst h
                                    exact r_ret dX12_factOf_109 rfl mm_Zi_rfl
                                  · rw [if_neg c17] at h
                                    by_cases c18 : x0 = 114
                                    · rw [if_neg (by rw [c18]; decide)] at h
                                      rw [if_neg (by rw [c18]; decide)] at h
                                      rw [if_neg (by rw [c18]; decide)] at h
                                      refine mm_tableIn (off := 128) 129 dX12_factOf_1 (by rw [c18]; decide) (by rw [c18]; decide) (by rw [c18]; rfl) (by decide) ?_
                                      refine r_iconst (v := (-1)) (q := 130) dX12_factOf_129 (by decide) rfl ?_
                                      subst h
                                      exact r_ret dX12_factOf_130 rfl mm_Zi_rfl
                                    · skip
                                      by_cases c19 : x0 = 115
                                      · rw [if_pos c19] at h
                                        refine mm_tableIn (off := 119) 120 dX12_factOf_1 (by rw [c19]; decide) (by rw [c19]; decide) (by rw [c19]; rfl) (by decide) ?_
                                        refine r_bipush (v := 6) (q := 122) dX12_factOf_120 (by decide) rfl ?_
                                        subst h
                                        exact r_ret dX12_factOf_122 rfl mm_Zi_rfl
                                      · rw [if_neg c19] at h
                                        by_cases c20 : x0 = 116
                                        · rw [if_pos c20] at h
                                          refine mm_tableIn (off := 122) 123 dX12_factOf_1 (by rw [c20]; decide) (by rw [c20]; decide) (by rw [c20]; rfl) (by decide) ?_
                                          refine r_bipush (v := 7) (q := 125) dX12_factOf_123 (by decide) rfl ?_
                                          subst h
                                          exact r_ret dX12_factOf_125 rfl mm_Zi_rfl
                                        · rw [if_neg c20] at h
                                          by_cases c21 : x0 = 117
                                          · rw [if_neg (by rw [c21]; decide)] at h
                                            refine mm_tableIn (off := 128) 129 dX12_factOf_1 (by rw [c21]; decide) (by rw [c21]; decide) (by rw [c21]; rfl) (by decide) ?_
                                            refine r_iconst (v := (-1)) (q := 130) dX12_factOf_129 (by decide) rfl ?_
                                            subst h
                                            exact r_ret dX12_factOf_130 rfl mm_Zi_rfl
                                          · skip
                                            by_cases c22 : x0 = 118
                                            · rw [if_neg (by rw [c22]; decide)] at h
                                              refine mm_tableIn (off := 128) 129 dX12_factOf_1 (by rw [c22]; decide) (by rw [c22]; decide) (by rw [c22]; rfl) (by decide) ?_
                                              refine r_iconst (v := (-1)) (q := 130) dX12_factOf_129 (by decide) rfl ?_
                                              subst h
                                              exact r_ret dX12_factOf_130 rfl mm_Zi_rfl
                                            · skip
                                              by_cases c23 : x0 = 119
                                              · rw [if_pos c23] at h
                                                refine mm_tableIn (off := 125) 126 dX12_factOf_1 (by rw [c23]; decide) (by rw [c23]; decide) (by rw [c23]; rfl) (by decide) ?_
                                                refine r_bipush (v := 8) (q := 128) dX12_factOf_126 (by decide) rfl ?_
                                                subst h
                                                exact r_ret dX12_factOf_128 rfl mm_Zi_rfl
                                              · rw [if_neg c23] at h
                                                have nc1 : (x0).toInt ≠ 97 := fun e => c1 (Int32.toInt_inj.mp (e.trans (by decide)))
                                                have nc2 : (x0).toInt ≠ 98 := fun e => c2 (Int32.toInt_inj.mp (e.trans (by decide)))
                                                have nc3 : (x0).toInt ≠ 99 := fun e => c3 (Int32.toInt_inj.mp (e.trans (by decide)))
                                                have nc4 : (x0).toInt ≠ 100 := fun e => c4 (Int32.toInt_inj.mp (e.trans (by decide)))
                                                have nc5 : (x0).toInt ≠ 101 := fun e => c5 (Int32.toInt_inj.mp (e.trans (by decide)))
                                                have nc6 : (x0).toInt ≠ 102 := fun e => c6 (Int32.toInt_inj.mp (e.trans (by decide)))
                                                have nc7 : (x0).toInt ≠ 103 := fun e => c7 (Int32.toInt_inj.mp (e.trans (by decide)))
                                                have nc8 : (x0).toInt ≠ 104 := fun e => c8 (Int32.toInt_inj.mp (e.trans (by decide)))
                                                have nc9 : (x0).toInt ≠ 105 := fun e => c9 (Int32.toInt_inj.mp (e.trans (by decide)))
                                                have nc10 : (x0).toInt ≠ 106 := fun e => c10 (Int32.toInt_inj.mp (e.trans (by decide)))
                                                have nc11 : (x0).toInt ≠ 107 := fun e => c11 (Int32.toInt_inj.mp (e.trans (by decide)))
                                                have nc12 : (x0).toInt ≠ 108 := fun e => c12 (Int32.toInt_inj.mp (e.trans (by decide)))
                                                have nc13 : (x0).toInt ≠ 109 := fun e => c13 (Int32.toInt_inj.mp (e.trans (by decide)))
                                                have nc14 : (x0).toInt ≠ 110 := fun e => c14 (Int32.toInt_inj.mp (e.trans (by decide)))
                                                have nc15 : (x0).toInt ≠ 111 := fun e => c15 (Int32.toInt_inj.mp (e.trans (by decide)))
                                                have nc16 : (x0).toInt ≠ 112 := fun e => c16 (Int32.toInt_inj.mp (e.trans (by decide)))
                                                have nc17 : (x0).toInt ≠ 113 := fun e => c17 (Int32.toInt_inj.mp (e.trans (by decide)))
                                                have nc18 : (x0).toInt ≠ 114 := fun e => c18 (Int32.toInt_inj.mp (e.trans (by decide)))
                                                have nc19 : (x0).toInt ≠ 115 := fun e => c19 (Int32.toInt_inj.mp (e.trans (by decide)))
                                                have nc20 : (x0).toInt ≠ 116 := fun e => c20 (Int32.toInt_inj.mp (e.trans (by decide)))
                                                have nc21 : (x0).toInt ≠ 117 := fun e => c21 (Int32.toInt_inj.mp (e.trans (by decide)))
                                                have nc22 : (x0).toInt ≠ 118 := fun e => c22 (Int32.toInt_inj.mp (e.trans (by decide)))
                                                have nc23 : (x0).toInt ≠ 119 := fun e => c23 (Int32.toInt_inj.mp (e.trans (by decide)))
                                                refine mm_tableOut 129 dX12_factOf_1 (by omega) (by decide) ?_
                                                refine r_iconst (v := (-1)) (q := 130) dX12_factOf_129 (by decide) rfl ?_
                                                subst h
                                                exact r_ret dX12_factOf_130 rfl mm_Zi_rfl
noncomputable def X12_readsFactor_l0 (s : mm_M) : Option (mm_M ⊕ ((Bool × mm_M) ⊕ mm_M)) := (X12_here s).bind fun y2 => if y2 = 91 then (X12_opens 14 s).bind fun y5 => if y5.1 = true then some (.inl y5.2) else some (.inr (.inl (false, y5.2))) else some (.inr (.inr s))
set_option maxRecDepth 100000 in
set_option maxHeartbeats 400000 in
theorem t_X12_readsFactor_l0 {D : mm_D} {d : Nat} (hd : 3 ≤ d) {Z : Option Int32 → List mm_C → mm_M → Prop} (n : Nat) (s : mm_M) (r : ((Bool × mm_M) ⊕ mm_M)) (h : mm_loop (X12_readsFactor_l0) n s = some r) (hx : (Sum.elim (fun (y : (Bool × mm_M)) => Z (some (mm_b y.1)) S_m y.2) (fun (s : mm_M) => mm_Go jX12_readsFactor D d 0 0 20 [some (.inr 0), none] [] S_m s Z) r)) : mm_Go jX12_readsFactor D d 0 0 0 [some (.inr 0), none] [] S_m s Z := by
  refine mm_loop_go (step := X12_readsFactor_l0) (Hd := fun (s : mm_M) => mm_Go jX12_readsFactor D d 0 0 0 [some (.inr 0), none] [] S_m s Z) (Ex := fun (r : ((Bool × mm_M) ⊕ mm_M)) => (Sum.elim (fun (y : (Bool × mm_M)) => Z (some (mm_b y.1)) S_m y.2) (fun (s : mm_M) => mm_Go jX12_readsFactor D d 0 0 20 [some (.inr 0), none] [] S_m s Z) r)) ?_ n s r h hx
  intro s o h kb ke
  show mm_Go jX12_readsFactor D d 0 0 0 [some (.inr 0), none] [] S_m s Z
  unfold X12_readsFactor_l0 at h
  refine r_aload_n (q := 1) dX12_readsFactor_0 rfl rfl ?_
  obtain ⟨y2, e1, h⟩ := Option.bind_eq_some_iff.mp h
  refine r_callV_i (av := []) (st := []) (q := 4) (d1 := 0) kc_X12_151 sc_m_0 dX12_readsFactor_1 rfl rfl (Nat.le_of_ble_eq_true rfl) (Nat.le_of_ble_eq_true rfl) (by omega) rfl rfl (t_X12_here (d := 0) (by omega) s _ e1) ?_
  refine r_bipush (v := 91) (q := 6) dX12_readsFactor_4 (by decide) rfl ?_
  refine r_icmp_ne 20 (q := 9) dX12_readsFactor_6 (by decide) rfl (fun c3 => ?_) (fun c3 => ?_)
  · rw [if_neg c3] at h
    cases h
    have hk := ke _ rfl
    exact hk
  · rw [if_pos c3] at h
    refine r_aload_n (q := 10) dX12_readsFactor_9 rfl rfl ?_
    refine r_bipush (v := 14) (q := 12) dX12_readsFactor_10 (by decide) rfl ?_
    obtain ⟨y5, e4, h⟩ := Option.bind_eq_some_iff.mp h
    refine r_callV_i (av := [(.inl 14)]) (st := []) (q := 15) (d1 := 1) kc_X12_185 sc_m_0 dX12_readsFactor_12 rfl rfl (Nat.le_of_ble_eq_true rfl) (Nat.le_of_ble_eq_true rfl) (by omega) rfl rfl (t_X12_opens (d := 1) (by omega) 14 s _ e4) ?_
    refine r_if_ne 0 (q := 18) dX12_readsFactor_15 (by decide) rfl (fun c6 => ?_) (fun c6 => ?_)
    · rw [if_pos (mm_b1 c6)] at h
      cases h
      have hk := kb _ rfl
      exact hk
    · rw [if_neg (mm_b0 c6)] at h
      refine r_iconst (v := 0) (q := 19) dX12_readsFactor_18 (by decide) rfl ?_
      cases h
      have hk := ke _ rfl
      exact r_retb dX12_readsFactor_19 rfl (Or.inl rfl) hk
noncomputable def X12_readsFactor (M : mm_M) : Option (Bool × mm_M) := (mm_loop (X12_readsFactor_l0) mm_fuel M).bind fun y7 => (match y7 with | .inl y7r => some y7r | .inr y7s => (X12_isDigit y7s).bind fun y10 => if y10 = true then (X12_readsNumber y7s).bind fun y13 => if y13.1 = true then (X12_notes 0 (y13.2 0 12) y13.2).bind fun y16 => some (true, y16) else some (false, y13.2) else (X12_here y7s).bind fun y18 => if (X12_factOf y18) = (-1) then mm_let (X12_wrongAt 1 (y7s 0 9) y7s) fun y21 => some (y21.1, y21.2) else (X12_notes 1 (X12_factOf y18) y7s).bind fun y23 => some (true, (mm_U y23 0 9 ((y23 0 9) + 1))))
set_option maxRecDepth 100000 in
set_option maxHeartbeats 400000 in
theorem t_X12_readsFactor {d : Nat} (hd : 3 ≤ d) (M : mm_M) (res : (Bool × mm_M)) (h : X12_readsFactor M = some res) : mm_Meth jX12_readsFactor d 0 0 [(.inr 0)] S_m M (mm_Zi (mm_b res.1) S_m res.2) := by
  refine r_meth (L := [some (.inr 0), none]) rfl (fun D => ?_)
  unfold X12_readsFactor at h
  obtain ⟨y7, e8, h⟩ := Option.bind_eq_some_iff.mp h
  refine t_X12_readsFactor_l0 hd mm_fuel M _ e8 ?_
  rcases y7 with y7r | y7s
  · dsimp only at h
    cases h
    exact mm_Zi_rfl
  · dsimp only at h
    show mm_Go jX12_readsFactor _ _ _ _ 20 [some (.inr 0), none] [] S_m y7s _
    refine r_aload_n (q := 21) dX12_readsFactor_20 rfl rfl ?_
    obtain ⟨y10, e9, h⟩ := Option.bind_eq_some_iff.mp h
    refine r_callV_i (av := []) (st := []) (q := 24) (d1 := 1) kc_X12_164 sc_m_0 dX12_readsFactor_21 rfl rfl (Nat.le_of_ble_eq_true rfl) (Nat.le_of_ble_eq_true rfl) (by omega) rfl rfl (t_X12_isDigit (d := 1) (by omega) y7s _ e9) ?_
    refine r_if_eq 47 (q := 27) dX12_readsFactor_24 (by decide) rfl (fun c11 => ?_) (fun c11 => ?_)
    · rw [if_neg (mm_b0 c11)] at h
      refine r_aload_n (q := 48) dX12_readsFactor_47 rfl rfl ?_
      obtain ⟨y18, e17, h⟩ := Option.bind_eq_some_iff.mp h
      refine r_callV_i (av := []) (st := []) (q := 51) (d1 := 0) kc_X12_151 sc_m_0 dX12_readsFactor_48 rfl rfl (Nat.le_of_ble_eq_true rfl) (Nat.le_of_ble_eq_true rfl) (by omega) rfl rfl (t_X12_here (d := 0) (by omega) y7s _ e17) ?_
      refine r_callS_i (av := [(.inl y18)]) (st := []) (q := 54) (d1 := 0) kc_X12_191 dX12_readsFactor_51 rfl rfl (Nat.le_of_ble_eq_true rfl) (Nat.le_of_ble_eq_true rfl) (by omega) rfl rfl (t_X12_factOf (d := 0) (by omega) y18 y7s _ rfl) ?_
      refine r_istore_n (q := 55) (L' := [some (.inr 0), some (.inl (X12_factOf y18))]) dX12_readsFactor_54 (by decide) rfl rfl ?_
      refine r_iload_n (q := 56) dX12_readsFactor_55 rfl rfl ?_
      refine r_iconst (v := (-1)) (q := 57) dX12_readsFactor_56 (by decide) rfl ?_
      refine r_icmp_ne 70 (q := 60) dX12_readsFactor_57 (by decide) rfl (fun c19 => ?_) (fun c19 => ?_)
      · rw [if_neg c19] at h
        refine r_aload_n (q := 71) dX12_readsFactor_70 rfl rfl ?_
        refine r_iconst (v := 1) (q := 72) dX12_readsFactor_71 (by decide) rfl ?_
        refine r_iload_n (q := 73) dX12_readsFactor_72 rfl rfl ?_
        obtain ⟨y23, e22, h⟩ := Option.bind_eq_some_iff.mp h
        refine r_callV_v (av := [(.inl 1), (.inl (X12_factOf y18))]) (st := []) (q := 76) (d1 := 0) kc_X12_181 sc_m_0 dX12_readsFactor_73 rfl rfl (Nat.le_of_ble_eq_true rfl) (Nat.le_of_ble_eq_true rfl) (by omega) rfl rfl (t_X12_notes (d := 0) (by omega) 1 (X12_factOf y18) y7s _ e22) ?_
        refine r_aload_n (q := 77) dX12_readsFactor_76 rfl rfl ?_
        refine r_aload_n (q := 78) dX12_readsFactor_77 rfl rfl ?_
        refine r_geti (v := (y23 0 9)) (q := 81) lk_X12_145 dX12_readsFactor_78 sc_m_0 rfl rfl rfl ?_
        refine r_iconst (v := 1) (q := 82) dX12_readsFactor_81 (by decide) rfl ?_
        refine r_iadd (q := 83) dX12_readsFactor_82 rfl ?_
        refine r_puti (q := 86) lk_X12_145 ft_9_9 dX12_readsFactor_83 sc_m_0 rfl rfl ?_
        refine r_iconst (v := 1) (q := 87) dX12_readsFactor_86 (by decide) rfl ?_
        cases h
        exact r_retb dX12_readsFactor_87 rfl (Or.inr rfl) mm_Zi_rfl
      · rw [if_pos c19] at h
        refine r_aload_n (q := 61) dX12_readsFactor_60 rfl rfl ?_
        refine r_iconst (v := 1) (q := 62) dX12_readsFactor_61 (by decide) rfl ?_
        refine r_aload_n (q := 63) dX12_readsFactor_62 rfl rfl ?_
        refine r_geti (v := (y7s 0 9)) (q := 66) lk_X12_145 dX12_readsFactor_63 sc_m_0 rfl rfl rfl ?_
        obtain ⟨y21, e20, h⟩ := mm_let_elim h
        refine r_callV_i (av := [(.inl 1), (.inl (y7s 0 9))]) (st := []) (q := 69) (d1 := 0) kc_X12_158 sc_m_0 dX12_readsFactor_66 rfl rfl (Nat.le_of_ble_eq_true rfl) (Nat.le_of_ble_eq_true rfl) (by omega) rfl rfl (t_X12_wrongAt (d := 0) (by omega) 1 (y7s 0 9) y7s _ e20) ?_
        cases h
        exact r_retb dX12_readsFactor_69 rfl (mm_b01 _) mm_Zi_rfl
    · rw [if_pos (mm_b1 c11)] at h
      refine r_aload_n (q := 28) dX12_readsFactor_27 rfl rfl ?_
      obtain ⟨y13, e12, h⟩ := Option.bind_eq_some_iff.mp h
      refine r_callV_i (av := []) (st := []) (q := 31) (d1 := 2) kc_X12_188 sc_m_0 dX12_readsFactor_28 rfl rfl (Nat.le_of_ble_eq_true rfl) (Nat.le_of_ble_eq_true rfl) (by omega) rfl rfl (t_X12_readsNumber (d := 2) (by omega) y7s _ e12) ?_
      refine r_if_ne 36 (q := 34) dX12_readsFactor_31 (by decide) rfl (fun c14 => ?_) (fun c14 => ?_)
      · rw [if_pos (mm_b1 c14)] at h
        refine r_aload_n (q := 37) dX12_readsFactor_36 rfl rfl ?_
        refine r_iconst (v := 0) (q := 38) dX12_readsFactor_37 (by decide) rfl ?_
        refine r_aload_n (q := 39) dX12_readsFactor_38 rfl rfl ?_
        refine r_geti (v := (y13.2 0 12)) (q := 42) lk_X12_161 dX12_readsFactor_39 sc_m_0 rfl rfl rfl ?_
        obtain ⟨y16, e15, h⟩ := Option.bind_eq_some_iff.mp h
        refine r_callV_v (av := [(.inl 0), (.inl (y13.2 0 12))]) (st := []) (q := 45) (d1 := 0) kc_X12_181 sc_m_0 dX12_readsFactor_42 rfl rfl (Nat.le_of_ble_eq_true rfl) (Nat.le_of_ble_eq_true rfl) (by omega) rfl rfl (t_X12_notes (d := 0) (by omega) 0 (y13.2 0 12) y13.2 _ e15) ?_
        refine r_iconst (v := 1) (q := 46) dX12_readsFactor_45 (by decide) rfl ?_
        cases h
        exact r_retb dX12_readsFactor_46 rfl (Or.inr rfl) mm_Zi_rfl
      · rw [if_neg (mm_b0 c14)] at h
        refine r_iconst (v := 0) (q := 35) dX12_readsFactor_34 (by decide) rfl ?_
        cases h
        exact r_retb dX12_readsFactor_35 rfl (Or.inl rfl) mm_Zi_rfl
noncomputable def X12_sumSign (x0 : Int32) : Int32 := if x0 = 43 then 2 else if x0 = 45 then 3 else if x0 = 42 then 4 else if x0 = 47 then 5 else if x0 = 37 then 6 else (-1)
set_option maxRecDepth 100000 in
set_option maxHeartbeats 400000 in
theorem t_X12_sumSign {d : Nat} (hd : 0 ≤ d) (x0 : Int32) (M : mm_M) (res : Int32) (h : X12_sumSign x0 = res) : mm_Meth jX12_sumSign d 0 0 [(.inl x0)] S_m M (mm_Zi res S_m M) := by
  refine r_meth (L := [some (.inl x0)]) rfl (fun D => ?_)
  unfold X12_sumSign at h
  refine r_iload_n (q := 1) dX12_sumSign_0 rfl rfl ?_
  refine r_bipush (v := 43) (q := 3) dX12_sumSign_1 (by decide) rfl ?_
  refine r_icmp_ne 10 (q := 6) dX12_sumSign_3 (by decide) rfl (fun c1 => ?_) (fun c1 => ?_)
  · rw [if_neg c1] at h
    refine r_iload_n (q := 11) dX12_sumSign_10 rfl rfl ?_
    refine r_bipush (v := 45) (q := 13) dX12_sumSign_11 (by decide) rfl ?_
    refine r_icmp_ne 20 (q := 16) dX12_sumSign_13 (by decide) rfl (fun c2 => ?_) (fun c2 => ?_)
    · rw [if_neg c2] at h
      refine r_iload_n (q := 21) dX12_sumSign_20 rfl rfl ?_
      refine r_bipush (v := 42) (q := 23) dX12_sumSign_21 (by decide) rfl ?_
      refine r_icmp_ne 30 (q := 26) dX12_sumSign_23 (by decide) rfl (fun c3 => ?_) (fun c3 => ?_)
      · rw [if_neg c3] at h
        refine r_iload_n (q := 31) dX12_sumSign_30 rfl rfl ?_
        refine r_bipush (v := 47) (q := 33) dX12_sumSign_31 (by decide) rfl ?_
        refine r_icmp_ne 40 (q := 36) dX12_sumSign_33 (by decide) rfl (fun c4 => ?_) (fun c4 => ?_)
        · rw [if_neg c4] at h
          refine r_iload_n (q := 41) dX12_sumSign_40 rfl rfl ?_
          refine r_bipush (v := 37) (q := 43) dX12_sumSign_41 (by decide) rfl ?_
          refine r_icmp_ne 51 (q := 46) dX12_sumSign_43 (by decide) rfl (fun c5 => ?_) (fun c5 => ?_)
          · rw [if_neg c5] at h
            refine r_iconst (v := (-1)) (q := 52) dX12_sumSign_51 (by decide) rfl ?_
            subst h
            exact r_ret dX12_sumSign_52 rfl mm_Zi_rfl
          · rw [if_pos c5] at h
            refine r_bipush (v := 6) (q := 48) dX12_sumSign_46 (by decide) rfl ?_
            refine r_goto 52 dX12_sumSign_48 (by decide) ?_
            subst h
            exact r_ret dX12_sumSign_52 rfl mm_Zi_rfl
        · rw [if_pos c4] at h
          refine r_iconst (v := 5) (q := 37) dX12_sumSign_36 (by decide) rfl ?_
          refine r_goto 52 dX12_sumSign_37 (by decide) ?_
          subst h
          exact r_ret dX12_sumSign_52 rfl mm_Zi_rfl
      · rw [if_pos c3] at h
        refine r_iconst (v := 4) (q := 27) dX12_sumSign_26 (by decide) rfl ?_
        refine r_goto 52 dX12_sumSign_27 (by decide) ?_
        subst h
        exact r_ret dX12_sumSign_52 rfl mm_Zi_rfl
    · rw [if_pos c2] at h
      refine r_iconst (v := 3) (q := 17) dX12_sumSign_16 (by decide) rfl ?_
      refine r_goto 52 dX12_sumSign_17 (by decide) ?_
      subst h
      exact r_ret dX12_sumSign_52 rfl mm_Zi_rfl
  · rw [if_pos c1] at h
    refine r_iconst (v := 2) (q := 7) dX12_sumSign_6 (by decide) rfl ?_
    refine r_goto 52 dX12_sumSign_7 (by decide) ?_
    subst h
    exact r_ret dX12_sumSign_52 rfl mm_Zi_rfl
noncomputable def X12_waitTop (M : mm_M) : Option Int32 := if (M 0 15) = 0 then some (-1) else if mm_in ((M 0 15) - 1) 260 = true then some ((M 9 (Int32.toNatClampNeg ((M 0 15) - 1))) / 1048576) else none
set_option maxRecDepth 100000 in
set_option maxHeartbeats 400000 in
theorem t_X12_waitTop {d : Nat} (hd : 0 ≤ d) (M : mm_M) (res : Int32) (h : X12_waitTop M = some res) : mm_Meth jX12_waitTop d 0 0 [(.inr 0)] S_m M (mm_Zi res S_m M) := by
  refine r_meth (L := [some (.inr 0)]) rfl (fun D => ?_)
  unfold X12_waitTop at h
  refine r_aload_n (q := 1) dX12_waitTop_0 rfl rfl ?_
  refine r_geti (v := (M 0 15)) (q := 4) lk_X12_175 dX12_waitTop_1 sc_m_0 rfl rfl rfl ?_
  refine r_if_ne 11 (q := 7) dX12_waitTop_4 (by decide) rfl (fun c1 => ?_) (fun c1 => ?_)
  · rw [if_neg c1] at h
    refine r_aload_n (q := 12) dX12_waitTop_11 rfl rfl ?_
    refine r_getr (b := 9) (q := 15) lk_X12_35 dX12_waitTop_12 sc_m_0 rfl rfl ?_
    refine r_aload_n (q := 16) dX12_waitTop_15 rfl rfl ?_
    refine r_geti (v := (M 0 15)) (q := 19) lk_X12_175 dX12_waitTop_16 sc_m_0 rfl rfl rfl ?_
    refine r_iconst (v := 1) (q := 20) dX12_waitTop_19 (by decide) rfl ?_
    refine r_isub (q := 21) dX12_waitTop_20 rfl ?_
    obtain ⟨g2, h⟩ := mm_guard h
    refine r_iald (v := (M 9 (Int32.toNatClampNeg ((M 0 15) - 1)))) (q := 22) dX12_waitTop_21 sc_m_9 (mm_vp g2) rfl rfl ?_
    refine r_ldc (v := 1048576) (q := 24) dX12_waitTop_22 ko_X12_171 rfl ?_
    refine r_idiv (q := 25) dX12_waitTop_24 (by decide) rfl ?_
    cases h
    exact r_ret dX12_waitTop_25 rfl mm_Zi_rfl
  · rw [if_pos c1] at h
    refine r_iconst (v := (-1)) (q := 8) dX12_waitTop_7 (by decide) rfl ?_
    refine r_goto 25 dX12_waitTop_8 (by decide) ?_
    cases h
    exact r_ret dX12_waitTop_25 rfl mm_Zi_rfl
noncomputable def X12_closesSums_j37l0 (x1 : Int32) (M : mm_M) : Option (mm_M ⊕ mm_M) := (X12_waitTop M).bind fun y9 => (X12_notes y9 0 M).bind fun y11 => some (.inl (mm_U y11 0 15 ((y11 0 15) - 1)))
set_option maxRecDepth 100000 in
set_option maxHeartbeats 400000 in
theorem t_X12_closesSums_j37l0 {D : mm_D} {d : Nat} (hd : 1 ≤ d) {Z : Option Int32 → List mm_C → mm_M → Prop} (x1 : Int32) (M : mm_M) (o : mm_M ⊕ mm_M) (h : X12_closesSums_j37l0 x1 M = some o) (kb : ∀ s', o = .inl s' → mm_Go jX12_closesSums D d 0 0 0 [some (.inr 0), some (.inl x1)] [] S_m s' Z) (ke : ∀ r, o = .inr r → Z none S_m r) : mm_Go jX12_closesSums D d 0 0 37 [some (.inr 0), some (.inl x1)] [] S_m M Z := by
  unfold X12_closesSums_j37l0 at h
  refine r_aload_n (q := 38) dX12_closesSums_37 rfl rfl ?_
  refine r_aload_n (q := 39) dX12_closesSums_38 rfl rfl ?_
  obtain ⟨y9, e8, h⟩ := Option.bind_eq_some_iff.mp h
  refine r_callV_i (av := []) (st := [(.inr 0)]) (q := 42) (d1 := 0) kc_X12_178 sc_m_0 dX12_closesSums_39 rfl rfl (Nat.le_of_ble_eq_true rfl) (Nat.le_of_ble_eq_true rfl) (by omega) rfl rfl (t_X12_waitTop (d := 0) (by omega) M _ e8) ?_
  refine r_iconst (v := 0) (q := 43) dX12_closesSums_42 (by decide) rfl ?_
  obtain ⟨y11, e10, h⟩ := Option.bind_eq_some_iff.mp h
  refine r_callV_v (av := [(.inl y9), (.inl 0)]) (st := []) (q := 46) (d1 := 0) kc_X12_181 sc_m_0 dX12_closesSums_43 rfl rfl (Nat.le_of_ble_eq_true rfl) (Nat.le_of_ble_eq_true rfl) (by omega) rfl rfl (t_X12_notes (d := 0) (by omega) y9 0 M _ e10) ?_
  refine r_aload_n (q := 47) dX12_closesSums_46 rfl rfl ?_
  refine r_aload_n (q := 48) dX12_closesSums_47 rfl rfl ?_
  refine r_geti (v := (y11 0 15)) (q := 51) lk_X12_175 dX12_closesSums_48 sc_m_0 rfl rfl rfl ?_
  refine r_iconst (v := 1) (q := 52) dX12_closesSums_51 (by decide) rfl ?_
  refine r_isub (q := 53) dX12_closesSums_52 rfl ?_
  refine r_puti (q := 56) lk_X12_175 ft_9_15 dX12_closesSums_53 sc_m_0 rfl rfl ?_
  refine r_goto 0 dX12_closesSums_56 (by decide) ?_
  cases h
  have hk := kb _ rfl
  exact hk
noncomputable def X12_closesSums_j17l0 (x1 : Int32) (M : mm_M) : Option (mm_M ⊕ mm_M) := if x1 = 0 then some (.inr M) else (X12_waitTop M).bind fun y6 => if y6 = 2 then X12_closesSums_j37l0 x1 M else (X12_waitTop M).bind fun y13 => if y13 = 3 then X12_closesSums_j37l0 x1 M else some (.inr M)
set_option maxRecDepth 100000 in
set_option maxHeartbeats 400000 in
theorem t_X12_closesSums_j17l0 {D : mm_D} {d : Nat} (hd : 1 ≤ d) {Z : Option Int32 → List mm_C → mm_M → Prop} (x1 : Int32) (M : mm_M) (o : mm_M ⊕ mm_M) (h : X12_closesSums_j17l0 x1 M = some o) (kb : ∀ s', o = .inl s' → mm_Go jX12_closesSums D d 0 0 0 [some (.inr 0), some (.inl x1)] [] S_m s' Z) (ke : ∀ r, o = .inr r → Z none S_m r) : mm_Go jX12_closesSums D d 0 0 17 [some (.inr 0), some (.inl x1)] [] S_m M Z := by
  unfold X12_closesSums_j17l0 at h
  refine r_iload_n (q := 18) dX12_closesSums_17 rfl rfl ?_
  refine r_if_eq 59 (q := 21) dX12_closesSums_18 (by decide) rfl (fun c4 => ?_) (fun c4 => ?_)
  · rw [if_pos c4] at h
    cases h
    have hk := ke _ rfl
    exact r_retv dX12_closesSums_59 rfl hk
  · rw [if_neg c4] at h
    refine r_aload_n (q := 22) dX12_closesSums_21 rfl rfl ?_
    obtain ⟨y6, e5, h⟩ := Option.bind_eq_some_iff.mp h
    refine r_callV_i (av := []) (st := []) (q := 25) (d1 := 0) kc_X12_178 sc_m_0 dX12_closesSums_22 rfl rfl (Nat.le_of_ble_eq_true rfl) (Nat.le_of_ble_eq_true rfl) (by omega) rfl rfl (t_X12_waitTop (d := 0) (by omega) M _ e5) ?_
    refine r_iconst (v := 2) (q := 26) dX12_closesSums_25 (by decide) rfl ?_
    refine r_icmp_eq 37 (q := 29) dX12_closesSums_26 (by decide) rfl (fun c7 => ?_) (fun c7 => ?_)
    · rw [if_pos c7] at h
      exact t_X12_closesSums_j37l0 hd x1 M _ h kb ke
    · rw [if_neg c7] at h
      refine r_aload_n (q := 30) dX12_closesSums_29 rfl rfl ?_
      obtain ⟨y13, e12, h⟩ := Option.bind_eq_some_iff.mp h
      refine r_callV_i (av := []) (st := []) (q := 33) (d1 := 0) kc_X12_178 sc_m_0 dX12_closesSums_30 rfl rfl (Nat.le_of_ble_eq_true rfl) (Nat.le_of_ble_eq_true rfl) (by omega) rfl rfl (t_X12_waitTop (d := 0) (by omega) M _ e12) ?_
      refine r_iconst (v := 3) (q := 34) dX12_closesSums_33 (by decide) rfl ?_
      refine r_icmp_ne 59 (q := 37) dX12_closesSums_34 (by decide) rfl (fun c14 => ?_) (fun c14 => ?_)
      · rw [if_neg c14] at h
        cases h
        have hk := ke _ rfl
        exact r_retv dX12_closesSums_59 rfl hk
      · rw [if_pos c14] at h
        exact t_X12_closesSums_j37l0 hd x1 M _ h kb ke
noncomputable def X12_closesSums_l0 (x1 : Int32) (s : mm_M) : Option (mm_M ⊕ mm_M) := (X12_waitTop s).bind fun y2 => if y2 < 4 then X12_closesSums_j17l0 x1 s else (X12_waitTop s).bind fun y16 => if y16 ≤ 6 then X12_closesSums_j37l0 x1 s else X12_closesSums_j17l0 x1 s
set_option maxRecDepth 100000 in
set_option maxHeartbeats 400000 in
theorem t_X12_closesSums_l0 {D : mm_D} {d : Nat} (hd : 1 ≤ d) {Z : Option Int32 → List mm_C → mm_M → Prop} (x1 : Int32) (n : Nat) (s : mm_M) (r : mm_M) (h : mm_loop (X12_closesSums_l0 x1) n s = some r) (hx : Z none S_m r) : mm_Go jX12_closesSums D d 0 0 0 [some (.inr 0), some (.inl x1)] [] S_m s Z := by
  refine mm_loop_go (step := X12_closesSums_l0 x1) (Hd := fun (s : mm_M) => mm_Go jX12_closesSums D d 0 0 0 [some (.inr 0), some (.inl x1)] [] S_m s Z) (Ex := fun (r : mm_M) => Z none S_m r) ?_ n s r h hx
  intro s o h kb ke
  show mm_Go jX12_closesSums D d 0 0 0 [some (.inr 0), some (.inl x1)] [] S_m s Z
  unfold X12_closesSums_l0 at h
  refine r_aload_n (q := 1) dX12_closesSums_0 rfl rfl ?_
  obtain ⟨y2, e1, h⟩ := Option.bind_eq_some_iff.mp h
  refine r_callV_i (av := []) (st := []) (q := 4) (d1 := 0) kc_X12_178 sc_m_0 dX12_closesSums_1 rfl rfl (Nat.le_of_ble_eq_true rfl) (Nat.le_of_ble_eq_true rfl) (by omega) rfl rfl (t_X12_waitTop (d := 0) (by omega) s _ e1) ?_
  refine r_iconst (v := 4) (q := 5) dX12_closesSums_4 (by decide) rfl ?_
  refine r_icmp_lt 17 (q := 8) dX12_closesSums_5 (by decide) rfl (fun c3 => ?_) (fun c3 => ?_)
  · rw [if_pos c3] at h
    exact t_X12_closesSums_j17l0 hd x1 s _ h kb ke
  · rw [if_neg c3] at h
    refine r_aload_n (q := 9) dX12_closesSums_8 rfl rfl ?_
    obtain ⟨y16, e15, h⟩ := Option.bind_eq_some_iff.mp h
    refine r_callV_i (av := []) (st := []) (q := 12) (d1 := 0) kc_X12_178 sc_m_0 dX12_closesSums_9 rfl rfl (Nat.le_of_ble_eq_true rfl) (Nat.le_of_ble_eq_true rfl) (by omega) rfl rfl (t_X12_waitTop (d := 0) (by omega) s _ e15) ?_
    refine r_bipush (v := 6) (q := 14) dX12_closesSums_12 (by decide) rfl ?_
    refine r_icmp_le 37 (q := 17) dX12_closesSums_14 (by decide) rfl (fun c17 => ?_) (fun c17 => ?_)
    · rw [if_pos c17] at h
      exact t_X12_closesSums_j37l0 hd x1 s _ h kb ke
    · rw [if_neg c17] at h
      exact t_X12_closesSums_j17l0 hd x1 s _ h kb ke
noncomputable def X12_closesSums (x1 : Int32) (M : mm_M) : Option mm_M := (mm_loop (X12_closesSums_l0 x1) mm_fuel M)
set_option maxRecDepth 100000 in
set_option maxHeartbeats 400000 in
theorem t_X12_closesSums {d : Nat} (hd : 1 ≤ d) (x1 : Int32) (M : mm_M) (res : mm_M) (h : X12_closesSums x1 M = some res) : mm_Meth jX12_closesSums d 0 0 [(.inr 0), (.inl x1)] S_m M (mm_Zv S_m res) := by
  refine r_meth (L := [some (.inr 0), some (.inl x1)]) rfl (fun D => ?_)
  unfold X12_closesSums at h
  exact t_X12_closesSums_l0 hd x1 mm_fuel M _ h mm_Zv_rfl
noncomputable def X12_hasOpenSum_l2 (M : mm_M) (s : Int32) : Option (Int32 ⊕ Bool) := if (M 0 15) ≤ s then some (.inr false) else if mm_in s 260 = true then if ((M 9 (Int32.toNatClampNeg s)) / 1048576) = 14 then some (.inr true) else some (.inl (s + 1)) else none
set_option maxRecDepth 100000 in
set_option maxHeartbeats 400000 in
theorem t_X12_hasOpenSum_l2 {D : mm_D} {d : Nat} (hd : 0 ≤ d) {Z : Option Int32 → List mm_C → mm_M → Prop} (M : mm_M) (n : Nat) (s : Int32) (r : Bool) (h : mm_loop (X12_hasOpenSum_l2 M) n s = some r) (hx : Z (some (mm_b r)) S_m M) : mm_Go jX12_hasOpenSum D d 0 0 2 [some (.inr 0), none, some (.inl s)] [] S_m M Z := by
  refine mm_loop_go (step := X12_hasOpenSum_l2 M) (Hd := fun (s : Int32) => mm_Go jX12_hasOpenSum D d 0 0 2 [some (.inr 0), none, some (.inl s)] [] S_m M Z) (Ex := fun (r : Bool) => Z (some (mm_b r)) S_m M) ?_ n s r h hx
  intro s o h kb ke
  show mm_Go jX12_hasOpenSum D d 0 0 2 [some (.inr 0), none, some (.inl s)] [] S_m M Z
  unfold X12_hasOpenSum_l2 at h
  refine r_iload_n (q := 3) dX12_hasOpenSum_2 rfl rfl ?_
  refine r_aload_n (q := 4) dX12_hasOpenSum_3 rfl rfl ?_
  refine r_geti (v := (M 0 15)) (q := 7) lk_X12_175 dX12_hasOpenSum_4 sc_m_0 rfl rfl rfl ?_
  refine r_icmp_ge 32 (q := 10) dX12_hasOpenSum_7 (by decide) rfl (fun c1 => ?_) (fun c1 => ?_)
  · rw [if_pos c1] at h
    refine r_iconst (v := 0) (q := 33) dX12_hasOpenSum_32 (by decide) rfl ?_
    cases h
    have hk := ke _ rfl
    exact r_retb dX12_hasOpenSum_33 rfl (Or.inl rfl) hk
  · rw [if_neg c1] at h
    refine r_aload_n (q := 11) dX12_hasOpenSum_10 rfl rfl ?_
    refine r_getr (b := 9) (q := 14) lk_X12_35 dX12_hasOpenSum_11 sc_m_0 rfl rfl ?_
    refine r_iload_n (q := 15) dX12_hasOpenSum_14 rfl rfl ?_
    obtain ⟨g2, h⟩ := mm_guard h
    refine r_iald (v := (M 9 (Int32.toNatClampNeg s))) (q := 16) dX12_hasOpenSum_15 sc_m_9 (mm_vp g2) rfl rfl ?_
    refine r_ldc (v := 1048576) (q := 18) dX12_hasOpenSum_16 ko_X12_171 rfl ?_
    refine r_idiv (q := 19) dX12_hasOpenSum_18 (by decide) rfl ?_
    refine r_bipush (v := 14) (q := 21) dX12_hasOpenSum_19 (by decide) rfl ?_
    refine r_icmp_ne 26 (q := 24) dX12_hasOpenSum_21 (by decide) rfl (fun c3 => ?_) (fun c3 => ?_)
    · rw [if_neg c3] at h
      refine r_iinc (v := 1) (q := 29) (L' := [some (.inr 0), none, some (.inl (s + 1))]) dX12_hasOpenSum_26 (by decide) (by decide) rfl rfl rfl ?_
      refine r_goto 2 dX12_hasOpenSum_29 (by decide) ?_
      cases h
      have hk := kb _ rfl
      exact hk
    · rw [if_pos c3] at h
      refine r_iconst (v := 1) (q := 25) dX12_hasOpenSum_24 (by decide) rfl ?_
      cases h
      have hk := ke _ rfl
      exact r_retb dX12_hasOpenSum_25 rfl (Or.inr rfl) hk
noncomputable def X12_hasOpenSum (x1 : Int32) (M : mm_M) : Option Bool := (mm_loop (X12_hasOpenSum_l2 M) mm_fuel x1)
set_option maxRecDepth 100000 in
set_option maxHeartbeats 400000 in
theorem t_X12_hasOpenSum {d : Nat} (hd : 0 ≤ d) (x1 : Int32) (M : mm_M) (res : Bool) (h : X12_hasOpenSum x1 M = some res) : mm_Meth jX12_hasOpenSum d 0 0 [(.inr 0), (.inl x1)] S_m M (mm_Zi (mm_b res) S_m M) := by
  refine r_meth (L := [some (.inr 0), some (.inl x1), none]) rfl (fun D => ?_)
  unfold X12_hasOpenSum at h
  refine r_iload_n (q := 1) dX12_hasOpenSum_0 rfl rfl ?_
  refine r_istore_n (q := 2) (L' := [some (.inr 0), some (.inl x1), some (.inl x1)]) dX12_hasOpenSum_1 (by decide) rfl rfl ?_
  refine r_forget (L' := [some (.inr 0), none, some (.inl x1)]) [true, false, true] rfl ?_
  exact t_X12_hasOpenSum_l2 hd M mm_fuel x1 _ h mm_Zi_rfl
noncomputable def X12_readsSum_j38l14 (x1 : Int32) (x2 : Int32) (z1 : Bool) (M : mm_M) : Option (mm_M ⊕ ((Bool × mm_M) ⊕ mm_M)) := (X12_closesSums (mm_b z1) M).bind fun y17 => if mm_in (y17 0 15) 260 = true then (X12_readsFactor (mm_U (mm_U (mm_U y17 9 (Int32.toNatClampNeg (y17 0 15)) ((1048576 : Int32) * x2)) 0 15 ((y17 0 15) + 1)) 0 9 ((y17 0 9) + 1))).bind fun y20 => if y20.1 = true then some (.inl y20.2) else some (.inr (.inl (false, y20.2))) else none
set_option maxRecDepth 100000 in
set_option maxHeartbeats 400000 in
theorem t_X12_readsSum_j38l14 {D : mm_D} {d : Nat} (hd : 4 ≤ d) {Z : Option Int32 → List mm_C → mm_M → Prop} (x1 : Int32) (x2 : Int32) (z1 : Bool) (M : mm_M) (o : mm_M ⊕ ((Bool × mm_M) ⊕ mm_M)) (h : X12_readsSum_j38l14 x1 x2 z1 M = some o) (kb : ∀ s', o = .inl s' → mm_Go jX12_readsSum D d 0 0 14 [some (.inr 0), some (.inl x1), none] [] S_m s' Z) (ke : ∀ r, o = .inr r → (Sum.elim (fun (y : (Bool × mm_M)) => Z (some (mm_b y.1)) S_m y.2) (fun (s : mm_M) => mm_Go jX12_readsSum D d 0 0 138 [some (.inr 0), some (.inl x1), none] [] S_m s Z) r)) : mm_Go jX12_readsSum D d 0 0 38 [some (.inr 0), some (.inl x1), some (.inl x2)] [(.inl (mm_b z1)), (.inr 0)] S_m M Z := by
  unfold X12_readsSum_j38l14 at h
  obtain ⟨y17, e16, h⟩ := Option.bind_eq_some_iff.mp h
  refine r_callV_v (av := [(.inl (mm_b z1))]) (st := []) (q := 41) (d1 := 1) kc_X12_201 sc_m_0 dX12_readsSum_38 rfl rfl (Nat.le_of_ble_eq_true rfl) (Nat.le_of_ble_eq_true rfl) (by omega) rfl rfl (t_X12_closesSums (d := 1) (by omega) (mm_b z1) M _ e16) ?_
  refine r_aload_n (q := 42) dX12_readsSum_41 rfl rfl ?_
  refine r_getr (b := 9) (q := 45) lk_X12_35 dX12_readsSum_42 sc_m_0 rfl rfl ?_
  refine r_aload_n (q := 46) dX12_readsSum_45 rfl rfl ?_
  refine r_geti (v := (y17 0 15)) (q := 49) lk_X12_175 dX12_readsSum_46 sc_m_0 rfl rfl rfl ?_
  refine r_ldc (v := 1048576) (q := 51) dX12_readsSum_49 ko_X12_171 rfl ?_
  refine r_iload_n (q := 52) dX12_readsSum_51 rfl rfl ?_
  refine r_imul (q := 53) dX12_readsSum_52 rfl ?_
  obtain ⟨g18, h⟩ := mm_guard h
  refine r_iast (j := (Int32.toNatClampNeg (y17 0 15))) (q := 54) dX12_readsSum_53 sc_m_9 (mm_vp g18) rfl rfl ?_
  refine r_aload_n (q := 55) dX12_readsSum_54 rfl rfl ?_
  refine r_aload_n (q := 56) dX12_readsSum_55 rfl rfl ?_
  refine r_geti (v := (y17 0 15)) (q := 59) lk_X12_175 dX12_readsSum_56 sc_m_0 rfl rfl rfl ?_
  refine r_iconst (v := 1) (q := 60) dX12_readsSum_59 (by decide) rfl ?_
  refine r_iadd (q := 61) dX12_readsSum_60 rfl ?_
  refine r_puti (q := 64) lk_X12_175 ft_9_15 dX12_readsSum_61 sc_m_0 rfl rfl ?_
  refine r_aload_n (q := 65) dX12_readsSum_64 rfl rfl ?_
  refine r_aload_n (q := 66) dX12_readsSum_65 rfl rfl ?_
  refine r_geti (v := (y17 0 9)) (q := 69) lk_X12_145 dX12_readsSum_66 sc_m_0 rfl rfl rfl ?_
  refine r_iconst (v := 1) (q := 70) dX12_readsSum_69 (by decide) rfl ?_
  refine r_iadd (q := 71) dX12_readsSum_70 rfl ?_
  refine r_puti (q := 74) lk_X12_145 ft_9_9 dX12_readsSum_71 sc_m_0 rfl rfl ?_
  refine r_aload_n (q := 75) dX12_readsSum_74 rfl rfl ?_
  obtain ⟨y20, e19, h⟩ := Option.bind_eq_some_iff.mp h
  refine r_callV_i (av := []) (st := []) (q := 78) (d1 := 3) kc_X12_195 sc_m_0 dX12_readsSum_75 rfl rfl (Nat.le_of_ble_eq_true rfl) (Nat.le_of_ble_eq_true rfl) (by omega) rfl rfl (t_X12_readsFactor (d := 3) (by omega) (mm_U (mm_U (mm_U y17 9 (Int32.toNatClampNeg (y17 0 15)) ((1048576 : Int32) * x2)) 0 15 ((y17 0 15) + 1)) 0 9 ((y17 0 9) + 1)) _ e19) ?_
  refine r_if_ne 163 (q := 81) dX12_readsSum_78 (by decide) rfl (fun c21 => ?_) (fun c21 => ?_)
  · rw [if_pos (mm_b1 c21)] at h
    refine r_goto 14 dX12_readsSum_163 (by decide) ?_
    refine r_forget (L' := [some (.inr 0), some (.inl x1), none]) [true, true, false] rfl ?_
    cases h
    have hk := kb _ rfl
    exact hk
  · rw [if_neg (mm_b0 c21)] at h
    refine r_iconst (v := 0) (q := 82) dX12_readsSum_81 (by decide) rfl ?_
    cases h
    have hk := ke _ rfl
    exact r_retb dX12_readsSum_82 rfl (Or.inl rfl) hk
noncomputable def X12_readsSum_l14 (x1 : Int32) (s : mm_M) : Option (mm_M ⊕ ((Bool × mm_M) ⊕ mm_M)) := (X12_here s).bind fun y5 => if (X12_sumSign y5) = (-1) then (X12_here s).bind fun y8 => if y8 = 93 then (X12_hasOpenSum x1 s).bind fun y11 => if y11 = true then (X12_closesSums 1 s).bind fun y14 => some (.inl (mm_U (mm_U (mm_U y14 0 15 ((y14 0 15) - 1)) 0 13 ((y14 0 13) - 1)) 0 9 ((y14 0 9) + 1))) else some (.inr (.inr s)) else some (.inr (.inr s)) else if 4 ≤ (X12_sumSign y5) then X12_readsSum_j38l14 x1 (X12_sumSign y5) false s else X12_readsSum_j38l14 x1 (X12_sumSign y5) true s
set_option maxRecDepth 100000 in
set_option maxHeartbeats 400000 in
theorem t_X12_readsSum_l14 {D : mm_D} {d : Nat} (hd : 4 ≤ d) {Z : Option Int32 → List mm_C → mm_M → Prop} (x1 : Int32) (n : Nat) (s : mm_M) (r : ((Bool × mm_M) ⊕ mm_M)) (h : mm_loop (X12_readsSum_l14 x1) n s = some r) (hx : (Sum.elim (fun (y : (Bool × mm_M)) => Z (some (mm_b y.1)) S_m y.2) (fun (s : mm_M) => mm_Go jX12_readsSum D d 0 0 138 [some (.inr 0), some (.inl x1), none] [] S_m s Z) r)) : mm_Go jX12_readsSum D d 0 0 14 [some (.inr 0), some (.inl x1), none] [] S_m s Z := by
  refine mm_loop_go (step := X12_readsSum_l14 x1) (Hd := fun (s : mm_M) => mm_Go jX12_readsSum D d 0 0 14 [some (.inr 0), some (.inl x1), none] [] S_m s Z) (Ex := fun (r : ((Bool × mm_M) ⊕ mm_M)) => (Sum.elim (fun (y : (Bool × mm_M)) => Z (some (mm_b y.1)) S_m y.2) (fun (s : mm_M) => mm_Go jX12_readsSum D d 0 0 138 [some (.inr 0), some (.inl x1), none] [] S_m s Z) r)) ?_ n s r h hx
  intro s o h kb ke
  show mm_Go jX12_readsSum D d 0 0 14 [some (.inr 0), some (.inl x1), none] [] S_m s Z
  unfold X12_readsSum_l14 at h
  refine r_aload_n (q := 15) dX12_readsSum_14 rfl rfl ?_
  obtain ⟨y5, e4, h⟩ := Option.bind_eq_some_iff.mp h
  refine r_callV_i (av := []) (st := []) (q := 18) (d1 := 0) kc_X12_151 sc_m_0 dX12_readsSum_15 rfl rfl (Nat.le_of_ble_eq_true rfl) (Nat.le_of_ble_eq_true rfl) (by omega) rfl rfl (t_X12_here (d := 0) (by omega) s _ e4) ?_
  refine r_callS_i (av := [(.inl y5)]) (st := []) (q := 21) (d1 := 0) kc_X12_198 dX12_readsSum_18 rfl rfl (Nat.le_of_ble_eq_true rfl) (Nat.le_of_ble_eq_true rfl) (by omega) rfl rfl (t_X12_sumSign (d := 0) (by omega) y5 s _ rfl) ?_
  refine r_istore_n (q := 22) (L' := [some (.inr 0), some (.inl x1), some (.inl (X12_sumSign y5))]) dX12_readsSum_21 (by decide) rfl rfl ?_
  refine r_iload_n (q := 23) dX12_readsSum_22 rfl rfl ?_
  refine r_iconst (v := (-1)) (q := 24) dX12_readsSum_23 (by decide) rfl ?_
  refine r_icmp_eq 83 (q := 27) dX12_readsSum_24 (by decide) rfl (fun c6 => ?_) (fun c6 => ?_)
  · rw [if_pos c6] at h
    refine r_aload_n (q := 84) dX12_readsSum_83 rfl rfl ?_
    obtain ⟨y8, e7, h⟩ := Option.bind_eq_some_iff.mp h
    refine r_callV_i (av := []) (st := []) (q := 87) (d1 := 0) kc_X12_151 sc_m_0 dX12_readsSum_84 rfl rfl (Nat.le_of_ble_eq_true rfl) (Nat.le_of_ble_eq_true rfl) (by omega) rfl rfl (t_X12_here (d := 0) (by omega) s _ e7) ?_
    refine r_bipush (v := 93) (q := 89) dX12_readsSum_87 (by decide) rfl ?_
    refine r_icmp_ne 138 (q := 92) dX12_readsSum_89 (by decide) rfl (fun c9 => ?_) (fun c9 => ?_)
    · rw [if_neg c9] at h
      refine r_forget (L' := [some (.inr 0), some (.inl x1), none]) [true, true, false] rfl ?_
      cases h
      have hk := ke _ rfl
      exact hk
    · rw [if_pos c9] at h
      refine r_aload_n (q := 93) dX12_readsSum_92 rfl rfl ?_
      refine r_iload_n (q := 94) dX12_readsSum_93 rfl rfl ?_
      obtain ⟨y11, e10, h⟩ := Option.bind_eq_some_iff.mp h
      refine r_callV_i (av := [(.inl x1)]) (st := []) (q := 97) (d1 := 0) kc_X12_205 sc_m_0 dX12_readsSum_94 rfl rfl (Nat.le_of_ble_eq_true rfl) (Nat.le_of_ble_eq_true rfl) (by omega) rfl rfl (t_X12_hasOpenSum (d := 0) (by omega) x1 s _ e10) ?_
      refine r_if_eq 138 (q := 100) dX12_readsSum_97 (by decide) rfl (fun c12 => ?_) (fun c12 => ?_)
      · rw [if_neg (mm_b0 c12)] at h
        refine r_forget (L' := [some (.inr 0), some (.inl x1), none]) [true, true, false] rfl ?_
        cases h
        have hk := ke _ rfl
        exact hk
      · rw [if_pos (mm_b1 c12)] at h
        refine r_aload_n (q := 101) dX12_readsSum_100 rfl rfl ?_
        refine r_iconst (v := 1) (q := 102) dX12_readsSum_101 (by decide) rfl ?_
        obtain ⟨y14, e13, h⟩ := Option.bind_eq_some_iff.mp h
        refine r_callV_v (av := [(.inl 1)]) (st := []) (q := 105) (d1 := 1) kc_X12_201 sc_m_0 dX12_readsSum_102 rfl rfl (Nat.le_of_ble_eq_true rfl) (Nat.le_of_ble_eq_true rfl) (by omega) rfl rfl (t_X12_closesSums (d := 1) (by omega) 1 s _ e13) ?_
        refine r_aload_n (q := 106) dX12_readsSum_105 rfl rfl ?_
        refine r_aload_n (q := 107) dX12_readsSum_106 rfl rfl ?_
        refine r_geti (v := (y14 0 15)) (q := 110) lk_X12_175 dX12_readsSum_107 sc_m_0 rfl rfl rfl ?_
        refine r_iconst (v := 1) (q := 111) dX12_readsSum_110 (by decide) rfl ?_
        refine r_isub (q := 112) dX12_readsSum_111 rfl ?_
        refine r_puti (q := 115) lk_X12_175 ft_9_15 dX12_readsSum_112 sc_m_0 rfl rfl ?_
        refine r_aload_n (q := 116) dX12_readsSum_115 rfl rfl ?_
        refine r_aload_n (q := 117) dX12_readsSum_116 rfl rfl ?_
        refine r_geti (v := (y14 0 13)) (q := 120) lk_X12_172 dX12_readsSum_117 sc_m_0 rfl rfl rfl ?_
        refine r_iconst (v := 1) (q := 121) dX12_readsSum_120 (by decide) rfl ?_
        refine r_isub (q := 122) dX12_readsSum_121 rfl ?_
        refine r_puti (q := 125) lk_X12_172 ft_9_13 dX12_readsSum_122 sc_m_0 rfl rfl ?_
        refine r_aload_n (q := 126) dX12_readsSum_125 rfl rfl ?_
        refine r_aload_n (q := 127) dX12_readsSum_126 rfl rfl ?_
        refine r_geti (v := (y14 0 9)) (q := 130) lk_X12_145 dX12_readsSum_127 sc_m_0 rfl rfl rfl ?_
        refine r_iconst (v := 1) (q := 131) dX12_readsSum_130 (by decide) rfl ?_
        refine r_iadd (q := 132) dX12_readsSum_131 rfl ?_
        refine r_puti (q := 135) lk_X12_145 ft_9_9 dX12_readsSum_132 sc_m_0 rfl rfl ?_
        refine r_goto 163 dX12_readsSum_135 (by decide) ?_
        refine r_goto 14 dX12_readsSum_163 (by decide) ?_
        refine r_forget (L' := [some (.inr 0), some (.inl x1), none]) [true, true, false] rfl ?_
        cases h
        have hk := kb _ rfl
        exact hk
  · rw [if_neg c6] at h
    refine r_aload_n (q := 28) dX12_readsSum_27 rfl rfl ?_
    refine r_iload_n (q := 29) dX12_readsSum_28 rfl rfl ?_
    refine r_iconst (v := 4) (q := 30) dX12_readsSum_29 (by decide) rfl ?_
    refine r_icmp_ge 37 (q := 33) dX12_readsSum_30 (by decide) rfl (fun c15 => ?_) (fun c15 => ?_)
    · rw [if_pos c15] at h
      refine r_iconst (v := 0) (q := 38) dX12_readsSum_37 (by decide) rfl ?_
      exact t_X12_readsSum_j38l14 hd x1 (X12_sumSign y5) false s _ h kb ke
    · rw [if_neg c15] at h
      refine r_iconst (v := 1) (q := 34) dX12_readsSum_33 (by decide) rfl ?_
      refine r_goto 38 dX12_readsSum_34 (by decide) ?_
      exact t_X12_readsSum_j38l14 hd x1 (X12_sumSign y5) true s _ h kb ke
noncomputable def X12_readsSum_j138 (x1 : Int32) (M : mm_M) : Option (Bool × mm_M) := (X12_hasOpenSum x1 M).bind fun y25 => if y25 = true then mm_let (X12_wrongAt 1 (M 0 9) M) fun y28 => some (y28.1, y28.2) else (X12_closesSums 1 M).bind fun y30 => some (true, y30)
set_option maxRecDepth 100000 in
set_option maxHeartbeats 400000 in
theorem t_X12_readsSum_j138 {D : mm_D} {d : Nat} (hd : 4 ≤ d) (x1 : Int32) (M : mm_M) (res : (Bool × mm_M)) (h : X12_readsSum_j138 x1 M = some res) : mm_Go jX12_readsSum D d 0 0 138 [some (.inr 0), some (.inl x1), none] [] S_m M (mm_Zi (mm_b res.1) S_m res.2) := by
  unfold X12_readsSum_j138 at h
  refine r_aload_n (q := 139) dX12_readsSum_138 rfl rfl ?_
  refine r_iload_n (q := 140) dX12_readsSum_139 rfl rfl ?_
  obtain ⟨y25, e24, h⟩ := Option.bind_eq_some_iff.mp h
  refine r_callV_i (av := [(.inl x1)]) (st := []) (q := 143) (d1 := 0) kc_X12_205 sc_m_0 dX12_readsSum_140 rfl rfl (Nat.le_of_ble_eq_true rfl) (Nat.le_of_ble_eq_true rfl) (by omega) rfl rfl (t_X12_hasOpenSum (d := 0) (by omega) x1 M _ e24) ?_
  refine r_if_eq 156 (q := 146) dX12_readsSum_143 (by decide) rfl (fun c26 => ?_) (fun c26 => ?_)
  · rw [if_neg (mm_b0 c26)] at h
    refine r_aload_n (q := 157) dX12_readsSum_156 rfl rfl ?_
    refine r_iconst (v := 1) (q := 158) dX12_readsSum_157 (by decide) rfl ?_
    obtain ⟨y30, e29, h⟩ := Option.bind_eq_some_iff.mp h
    refine r_callV_v (av := [(.inl 1)]) (st := []) (q := 161) (d1 := 1) kc_X12_201 sc_m_0 dX12_readsSum_158 rfl rfl (Nat.le_of_ble_eq_true rfl) (Nat.le_of_ble_eq_true rfl) (by omega) rfl rfl (t_X12_closesSums (d := 1) (by omega) 1 M _ e29) ?_
    refine r_iconst (v := 1) (q := 162) dX12_readsSum_161 (by decide) rfl ?_
    cases h
    exact r_retb dX12_readsSum_162 rfl (Or.inr rfl) mm_Zi_rfl
  · rw [if_pos (mm_b1 c26)] at h
    refine r_aload_n (q := 147) dX12_readsSum_146 rfl rfl ?_
    refine r_iconst (v := 1) (q := 148) dX12_readsSum_147 (by decide) rfl ?_
    refine r_aload_n (q := 149) dX12_readsSum_148 rfl rfl ?_
    refine r_geti (v := (M 0 9)) (q := 152) lk_X12_145 dX12_readsSum_149 sc_m_0 rfl rfl rfl ?_
    obtain ⟨y28, e27, h⟩ := mm_let_elim h
    refine r_callV_i (av := [(.inl 1), (.inl (M 0 9))]) (st := []) (q := 155) (d1 := 0) kc_X12_158 sc_m_0 dX12_readsSum_152 rfl rfl (Nat.le_of_ble_eq_true rfl) (Nat.le_of_ble_eq_true rfl) (by omega) rfl rfl (t_X12_wrongAt (d := 0) (by omega) 1 (M 0 9) M _ e27) ?_
    cases h
    exact r_retb dX12_readsSum_155 rfl (mm_b01 _) mm_Zi_rfl
noncomputable def X12_readsSum (M : mm_M) : Option (Bool × mm_M) := (X12_readsFactor M).bind fun y2 => if y2.1 = true then (mm_loop (X12_readsSum_l14 (M 0 15)) mm_fuel y2.2).bind fun y22 => (match y22 with | .inl y22r => some y22r | .inr y22s => X12_readsSum_j138 (M 0 15) y22s) else some (false, y2.2)
set_option maxRecDepth 100000 in
set_option maxHeartbeats 400000 in
theorem t_X12_readsSum {d : Nat} (hd : 4 ≤ d) (M : mm_M) (res : (Bool × mm_M)) (h : X12_readsSum M = some res) : mm_Meth jX12_readsSum d 0 0 [(.inr 0)] S_m M (mm_Zi (mm_b res.1) S_m res.2) := by
  refine r_meth (L := [some (.inr 0), none, none]) rfl (fun D => ?_)
  unfold X12_readsSum at h
  refine r_aload_n (q := 1) dX12_readsSum_0 rfl rfl ?_
  refine r_geti (v := (M 0 15)) (q := 4) lk_X12_175 dX12_readsSum_1 sc_m_0 rfl rfl rfl ?_
  refine r_istore_n (q := 5) (L' := [some (.inr 0), some (.inl (M 0 15)), none]) dX12_readsSum_4 (by decide) rfl rfl ?_
  refine r_aload_n (q := 6) dX12_readsSum_5 rfl rfl ?_
  obtain ⟨y2, e1, h⟩ := Option.bind_eq_some_iff.mp h
  refine r_callV_i (av := []) (st := []) (q := 9) (d1 := 3) kc_X12_195 sc_m_0 dX12_readsSum_6 rfl rfl (Nat.le_of_ble_eq_true rfl) (Nat.le_of_ble_eq_true rfl) (by omega) rfl rfl (t_X12_readsFactor (d := 3) (by omega) M _ e1) ?_
  refine r_if_ne 14 (q := 12) dX12_readsSum_9 (by decide) rfl (fun c3 => ?_) (fun c3 => ?_)
  · rw [if_pos (mm_b1 c3)] at h
    obtain ⟨y22, e23, h⟩ := Option.bind_eq_some_iff.mp h
    refine t_X12_readsSum_l14 hd (M 0 15) mm_fuel y2.2 _ e23 ?_
    rcases y22 with y22r | y22s
    · dsimp only at h
      cases h
      exact mm_Zi_rfl
    · dsimp only at h
      show mm_Go jX12_readsSum _ _ _ _ 138 [some (.inr 0), some (.inl (M 0 15)), none] [] S_m y22s _
      exact t_X12_readsSum_j138 hd (M 0 15) y22s _ h
  · rw [if_neg (mm_b0 c3)] at h
    refine r_iconst (v := 0) (q := 13) dX12_readsSum_12 (by decide) rfl ?_
    cases h
    exact r_retb dX12_readsSum_13 rfl (Or.inl rfl) mm_Zi_rfl
