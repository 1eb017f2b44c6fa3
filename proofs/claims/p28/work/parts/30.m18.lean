noncomputable def X12_isLoose_l12 (x1 : Int32) (x2 : Int32) (M : mm_M) (s : Int32) : Option (Int32 ⊕ (Bool ⊕ Unit)) := if 8 ≤ s then some (.inr (.inr ())) else if x2 = x1 then some (.inl (s + 1)) else (X12_behind s x2 M).bind fun y5 => if y5 = x1 then some (.inr (.inl false)) else some (.inl (s + 1))
set_option maxRecDepth 100000 in
set_option maxHeartbeats 400000 in
theorem t_X12_isLoose_l12 {D : mm_D} {d : Nat} (hd : 1 ≤ d) {Z : Option Int32 → List mm_C → mm_M → Prop} (x1 : Int32) (x2 : Int32) (M : mm_M) (n : Nat) (s : Int32) (r : (Bool ⊕ Unit)) (h : mm_loop (X12_isLoose_l12 x1 x2 M) n s = some r) (hx : (Sum.elim (fun (y : Bool) => Z (some (mm_b y)) S_m M) (fun (s : Unit) => mm_Go jX12_isLoose D d 0 0 41 [some (.inr 0), some (.inl x1), some (.inl x2), none] [] S_m M Z) r)) : mm_Go jX12_isLoose D d 0 0 12 [some (.inr 0), some (.inl x1), some (.inl x2), some (.inl s)] [] S_m M Z := by
  refine mm_loop_go (step := X12_isLoose_l12 x1 x2 M) (Hd := fun (s : Int32) => mm_Go jX12_isLoose D d 0 0 12 [some (.inr 0), some (.inl x1), some (.inl x2), some (.inl s)] [] S_m M Z) (Ex := fun (r : (Bool ⊕ Unit)) => (Sum.elim (fun (y : Bool) => Z (some (mm_b y)) S_m M) (fun (s : Unit) => mm_Go jX12_isLoose D d 0 0 41 [some (.inr 0), some (.inl x1), some (.inl x2), none] [] S_m M Z) r)) ?_ n s r h hx
  intro s o h kb ke
  show mm_Go jX12_isLoose D d 0 0 12 [some (.inr 0), some (.inl x1), some (.inl x2), some (.inl s)] [] S_m M Z
  unfold X12_isLoose_l12 at h
  refine r_iload_n (q := 13) dX12_isLoose_12 rfl rfl ?_
  refine r_bipush (v := 8) (q := 15) dX12_isLoose_13 (by decide) rfl ?_
  refine r_icmp_ge 41 (q := 18) dX12_isLoose_15 (by decide) rfl (fun c2 => ?_) (fun c2 => ?_)
  · rw [if_pos c2] at h
    refine r_forget (L' := [some (.inr 0), some (.inl x1), some (.inl x2), none]) [true, true, true, false] rfl ?_
    cases h
    have hk := ke _ rfl
    exact hk
  · rw [if_neg c2] at h
    refine r_iload_n (q := 19) dX12_isLoose_18 rfl rfl ?_
    refine r_iload_n (q := 20) dX12_isLoose_19 rfl rfl ?_
    refine r_icmp_eq 35 (q := 23) dX12_isLoose_20 (by decide) rfl (fun c3 => ?_) (fun c3 => ?_)
    · rw [if_pos c3] at h
      refine r_iinc (v := 1) (q := 38) (L' := [some (.inr 0), some (.inl x1), some (.inl x2), some (.inl (s + 1))]) dX12_isLoose_35 (by decide) (by decide) rfl rfl rfl ?_
      refine r_goto 12 dX12_isLoose_38 (by decide) ?_
      cases h
      have hk := kb _ rfl
      exact hk
    · rw [if_neg c3] at h
      refine r_aload_n (q := 24) dX12_isLoose_23 rfl rfl ?_
      refine r_iload_n (q := 25) dX12_isLoose_24 rfl rfl ?_
      refine r_iload_n (q := 26) dX12_isLoose_25 rfl rfl ?_
      obtain ⟨y5, e4, h⟩ := Option.bind_eq_some_iff.mp h
      refine r_callV_i (av := [(.inl s), (.inl x2)]) (st := []) (q := 29) (d1 := 0) kc_X12_306 sc_m_0 dX12_isLoose_26 rfl rfl (Nat.le_of_ble_eq_true rfl) (Nat.le_of_ble_eq_true rfl) (by omega) rfl rfl (t_X12_behind (d := 0) (by omega) s x2 M _ e4) ?_
      refine r_iload_n (q := 30) dX12_isLoose_29 rfl rfl ?_
      refine r_icmp_ne 35 (q := 33) dX12_isLoose_30 (by decide) rfl (fun c6 => ?_) (fun c6 => ?_)
      · rw [if_neg c6] at h
        refine r_iinc (v := 1) (q := 38) (L' := [some (.inr 0), some (.inl x1), some (.inl x2), some (.inl (s + 1))]) dX12_isLoose_35 (by decide) (by decide) rfl rfl rfl ?_
        refine r_goto 12 dX12_isLoose_38 (by decide) ?_
        cases h
        have hk := kb _ rfl
        exact hk
      · rw [if_pos c6] at h
        refine r_iconst (v := 0) (q := 34) dX12_isLoose_33 (by decide) rfl ?_
        cases h
        have hk := ke _ rfl
        exact r_retb dX12_isLoose_34 rfl (Or.inl rfl) hk
noncomputable def X12_isLoose_l2 (x1 : Int32) (M : mm_M) (s : Int32) : Option (Int32 ⊕ Bool) := if (M 0 6) ≤ s then some (.inr true) else (mm_loop (X12_isLoose_l12 x1 s M) mm_fuel 0).bind fun y7 => (match y7 with | .inl y7r => some (.inr y7r) | .inr y7s => some (.inl (s + 1)))
set_option maxRecDepth 100000 in
set_option maxHeartbeats 400000 in
theorem t_X12_isLoose_l2 {D : mm_D} {d : Nat} (hd : 1 ≤ d) {Z : Option Int32 → List mm_C → mm_M → Prop} (x1 : Int32) (M : mm_M) (n : Nat) (s : Int32) (r : Bool) (h : mm_loop (X12_isLoose_l2 x1 M) n s = some r) (hx : Z (some (mm_b r)) S_m M) : mm_Go jX12_isLoose D d 0 0 2 [some (.inr 0), some (.inl x1), some (.inl s), none] [] S_m M Z := by
  refine mm_loop_go (step := X12_isLoose_l2 x1 M) (Hd := fun (s : Int32) => mm_Go jX12_isLoose D d 0 0 2 [some (.inr 0), some (.inl x1), some (.inl s), none] [] S_m M Z) (Ex := fun (r : Bool) => Z (some (mm_b r)) S_m M) ?_ n s r h hx
  intro s o h kb ke
  show mm_Go jX12_isLoose D d 0 0 2 [some (.inr 0), some (.inl x1), some (.inl s), none] [] S_m M Z
  unfold X12_isLoose_l2 at h
  refine r_iload_n (q := 3) dX12_isLoose_2 rfl rfl ?_
  refine r_aload_n (q := 4) dX12_isLoose_3 rfl rfl ?_
  refine r_geti (v := (M 0 6)) (q := 7) lk_X12_123 dX12_isLoose_4 sc_m_0 rfl rfl rfl ?_
  refine r_icmp_ge 47 (q := 10) dX12_isLoose_7 (by decide) rfl (fun c1 => ?_) (fun c1 => ?_)
  · rw [if_pos c1] at h
    refine r_iconst (v := 1) (q := 48) dX12_isLoose_47 (by decide) rfl ?_
    cases h
    have hk := ke _ rfl
    exact r_retb dX12_isLoose_48 rfl (Or.inr rfl) hk
  · rw [if_neg c1] at h
    refine r_iconst (v := 0) (q := 11) dX12_isLoose_10 (by decide) rfl ?_
    refine r_istore_n (q := 12) (L' := [some (.inr 0), some (.inl x1), some (.inl s), some (.inl 0)]) dX12_isLoose_11 (by decide) rfl rfl ?_
    obtain ⟨y7, e8, h⟩ := Option.bind_eq_some_iff.mp h
    refine t_X12_isLoose_l12 hd x1 s M mm_fuel 0 _ e8 ?_
    rcases y7 with y7r | y7s
    · dsimp only at h
      cases h
      exact ke _ rfl
    · dsimp only at h
      show mm_Go jX12_isLoose _ _ _ _ 41 [some (.inr 0), some (.inl x1), some (.inl s), none] [] S_m M _
      refine r_iinc (v := 1) (q := 44) (L' := [some (.inr 0), some (.inl x1), some (.inl (s + 1)), none]) dX12_isLoose_41 (by decide) (by decide) rfl rfl rfl ?_
      refine r_goto 2 dX12_isLoose_44 (by decide) ?_
      cases h
      have hk := kb _ rfl
      exact hk
noncomputable def X12_isLoose (x1 : Int32) (M : mm_M) : Option Bool := (mm_loop (X12_isLoose_l2 x1 M) mm_fuel 0)
set_option maxRecDepth 100000 in
set_option maxHeartbeats 400000 in
theorem t_X12_isLoose {d : Nat} (hd : 1 ≤ d) (x1 : Int32) (M : mm_M) (res : Bool) (h : X12_isLoose x1 M = some res) : mm_Meth jX12_isLoose d 0 0 [(.inr 0), (.inl x1)] S_m M (mm_Zi (mm_b res) S_m M) := by
  refine r_meth (L := [some (.inr 0), some (.inl x1), none, none]) rfl (fun D => ?_)
  unfold X12_isLoose at h
  refine r_iconst (v := 0) (q := 1) dX12_isLoose_0 (by decide) rfl ?_
  refine r_istore_n (q := 2) (L' := [some (.inr 0), some (.inl x1), some (.inl 0), none]) dX12_isLoose_1 (by decide) rfl rfl ?_
  exact t_X12_isLoose_l2 hd x1 M mm_fuel 0 _ h mm_Zi_rfl
noncomputable def X12_isEnd_l2 (x1 : Int32) (M : mm_M) (s : Int32) : Option (Int32 ⊕ Bool) := if 8 ≤ s then some (.inr true) else (X12_behind s x1 M).bind fun y3 => if y3 = x1 then some (.inl (s + 1)) else some (.inr false)
set_option maxRecDepth 100000 in
set_option maxHeartbeats 400000 in
theorem t_X12_isEnd_l2 {D : mm_D} {d : Nat} (hd : 1 ≤ d) {Z : Option Int32 → List mm_C → mm_M → Prop} (x1 : Int32) (M : mm_M) (n : Nat) (s : Int32) (r : Bool) (h : mm_loop (X12_isEnd_l2 x1 M) n s = some r) (hx : Z (some (mm_b r)) S_m M) : mm_Go jX12_isEnd D d 0 0 2 [some (.inr 0), some (.inl x1), some (.inl s)] [] S_m M Z := by
  refine mm_loop_go (step := X12_isEnd_l2 x1 M) (Hd := fun (s : Int32) => mm_Go jX12_isEnd D d 0 0 2 [some (.inr 0), some (.inl x1), some (.inl s)] [] S_m M Z) (Ex := fun (r : Bool) => Z (some (mm_b r)) S_m M) ?_ n s r h hx
  intro s o h kb ke
  show mm_Go jX12_isEnd D d 0 0 2 [some (.inr 0), some (.inl x1), some (.inl s)] [] S_m M Z
  unfold X12_isEnd_l2 at h
  refine r_iload_n (q := 3) dX12_isEnd_2 rfl rfl ?_
  refine r_bipush (v := 8) (q := 5) dX12_isEnd_3 (by decide) rfl ?_
  refine r_icmp_ge 26 (q := 8) dX12_isEnd_5 (by decide) rfl (fun c1 => ?_) (fun c1 => ?_)
  · rw [if_pos c1] at h
    refine r_iconst (v := 1) (q := 27) dX12_isEnd_26 (by decide) rfl ?_
    cases h
    have hk := ke _ rfl
    exact r_retb dX12_isEnd_27 rfl (Or.inr rfl) hk
  · rw [if_neg c1] at h
    refine r_aload_n (q := 9) dX12_isEnd_8 rfl rfl ?_
    refine r_iload_n (q := 10) dX12_isEnd_9 rfl rfl ?_
    refine r_iload_n (q := 11) dX12_isEnd_10 rfl rfl ?_
    obtain ⟨y3, e2, h⟩ := Option.bind_eq_some_iff.mp h
    refine r_callV_i (av := [(.inl s), (.inl x1)]) (st := []) (q := 14) (d1 := 0) kc_X12_306 sc_m_0 dX12_isEnd_11 rfl rfl (Nat.le_of_ble_eq_true rfl) (Nat.le_of_ble_eq_true rfl) (by omega) rfl rfl (t_X12_behind (d := 0) (by omega) s x1 M _ e2) ?_
    refine r_iload_n (q := 15) dX12_isEnd_14 rfl rfl ?_
    refine r_icmp_eq 20 (q := 18) dX12_isEnd_15 (by decide) rfl (fun c4 => ?_) (fun c4 => ?_)
    · rw [if_pos c4] at h
      refine r_iinc (v := 1) (q := 23) (L' := [some (.inr 0), some (.inl x1), some (.inl (s + 1))]) dX12_isEnd_20 (by decide) (by decide) rfl rfl rfl ?_
      refine r_goto 2 dX12_isEnd_23 (by decide) ?_
      cases h
      have hk := kb _ rfl
      exact hk
    · rw [if_neg c4] at h
      refine r_iconst (v := 0) (q := 19) dX12_isEnd_18 (by decide) rfl ?_
      cases h
      have hk := ke _ rfl
      exact r_retb dX12_isEnd_19 rfl (Or.inl rfl) hk
noncomputable def X12_isEnd (x1 : Int32) (M : mm_M) : Option Bool := (mm_loop (X12_isEnd_l2 x1 M) mm_fuel 0)
set_option maxRecDepth 100000 in
set_option maxHeartbeats 400000 in
theorem t_X12_isEnd {d : Nat} (hd : 1 ≤ d) (x1 : Int32) (M : mm_M) (res : Bool) (h : X12_isEnd x1 M = some res) : mm_Meth jX12_isEnd d 0 0 [(.inr 0), (.inl x1)] S_m M (mm_Zi (mm_b res) S_m M) := by
  refine r_meth (L := [some (.inr 0), some (.inl x1), none]) rfl (fun D => ?_)
  unfold X12_isEnd at h
  refine r_iconst (v := 0) (q := 1) dX12_isEnd_0 (by decide) rfl ?_
  refine r_istore_n (q := 2) (L' := [some (.inr 0), some (.inl x1), some (.inl 0)]) dX12_isEnd_1 (by decide) rfl rfl ?_
  exact t_X12_isEnd_l2 hd x1 M mm_fuel 0 _ h mm_Zi_rfl
noncomputable def X12_alone_l22 (x1 : Int32) (M : mm_M) (s : (Int32 × Int32)) : Option ((Int32 × Int32) ⊕ Int32) := if (M 0 6) ≤ s.2 then some (.inr s.1) else if x1 = 0 then (X12_isLoose s.2 M).bind fun y6 => if y6 = true then some (.inl ((s.1 ||| ((1 : Int32) <<< (s.2 &&& 31))), (s.2 + 1))) else some (.inl (s.1, (s.2 + 1))) else (X12_isEnd s.2 M).bind fun y9 => if y9 = true then some (.inl ((s.1 ||| ((1 : Int32) <<< (s.2 &&& 31))), (s.2 + 1))) else some (.inl (s.1, (s.2 + 1)))
set_option maxRecDepth 100000 in
set_option maxHeartbeats 400000 in
theorem t_X12_alone_l22 {D : mm_D} {d : Nat} (hd : 2 ≤ d) {Z : Option Int32 → List mm_C → mm_M → Prop} (x1 : Int32) (M : mm_M) (n : Nat) (s : (Int32 × Int32)) (r : Int32) (h : mm_loop (X12_alone_l22 x1 M) n s = some r) (hx : Z (some r) S_m M) : mm_Go jX12_alone D d 0 0 22 [some (.inr 0), some (.inl x1), some (.inl s.1), some (.inl s.2)] [] S_m M Z := by
  refine mm_loop_go (step := X12_alone_l22 x1 M) (Hd := fun (s : (Int32 × Int32)) => mm_Go jX12_alone D d 0 0 22 [some (.inr 0), some (.inl x1), some (.inl s.1), some (.inl s.2)] [] S_m M Z) (Ex := fun (r : Int32) => Z (some r) S_m M) ?_ n s r h hx
  intro s o h kb ke
  show mm_Go jX12_alone D d 0 0 22 [some (.inr 0), some (.inl x1), some (.inl s.1), some (.inl s.2)] [] S_m M Z
  unfold X12_alone_l22 at h
  refine r_iload_n (q := 23) dX12_alone_22 rfl rfl ?_
  refine r_aload_n (q := 24) dX12_alone_23 rfl rfl ?_
  refine r_geti (v := (M 0 6)) (q := 27) lk_X12_123 dX12_alone_24 sc_m_0 rfl rfl rfl ?_
  refine r_icmp_ge 65 (q := 30) dX12_alone_27 (by decide) rfl (fun c3 => ?_) (fun c3 => ?_)
  · rw [if_pos c3] at h
    refine r_iload_n (q := 66) dX12_alone_65 rfl rfl ?_
    cases h
    have hk := ke _ rfl
    exact r_ret dX12_alone_66 rfl hk
  · rw [if_neg c3] at h
    refine r_iload_n (q := 31) dX12_alone_30 rfl rfl ?_
    refine r_if_ne 45 (q := 34) dX12_alone_31 (by decide) rfl (fun c4 => ?_) (fun c4 => ?_)
    · rw [if_neg c4] at h
      refine r_aload_n (q := 46) dX12_alone_45 rfl rfl ?_
      refine r_iload_n (q := 47) dX12_alone_46 rfl rfl ?_
      obtain ⟨y9, e8, h⟩ := Option.bind_eq_some_iff.mp h
      refine r_callV_i (av := [(.inl s.2)]) (st := []) (q := 50) (d1 := 1) kc_X12_444 sc_m_0 dX12_alone_47 rfl rfl (Nat.le_of_ble_eq_true rfl) (Nat.le_of_ble_eq_true rfl) (by omega) rfl rfl (t_X12_isEnd (d := 1) (by omega) s.2 M _ e8) ?_
      refine r_if_eq 59 (q := 53) dX12_alone_50 (by decide) rfl (fun c10 => ?_) (fun c10 => ?_)
      · rw [if_neg (mm_b0 c10)] at h
        refine r_iinc (v := 1) (q := 62) (L' := [some (.inr 0), some (.inl x1), some (.inl s.1), some (.inl (s.2 + 1))]) dX12_alone_59 (by decide) (by decide) rfl rfl rfl ?_
        refine r_goto 22 dX12_alone_62 (by decide) ?_
        cases h
        have hk := kb _ rfl
        exact hk
      · rw [if_pos (mm_b1 c10)] at h
        refine r_iload_n (q := 54) dX12_alone_53 rfl rfl ?_
        refine r_iconst (v := 1) (q := 55) dX12_alone_54 (by decide) rfl ?_
        refine r_iload_n (q := 56) dX12_alone_55 rfl rfl ?_
        refine r_ishl (q := 57) dX12_alone_56 rfl ?_
        refine r_ior (q := 58) dX12_alone_57 rfl ?_
        refine r_istore_n (q := 59) (L' := [some (.inr 0), some (.inl x1), some (.inl (s.1 ||| ((1 : Int32) <<< (s.2 &&& 31)))), some (.inl s.2)]) dX12_alone_58 (by decide) rfl rfl ?_
        refine r_iinc (v := 1) (q := 62) (L' := [some (.inr 0), some (.inl x1), some (.inl (s.1 ||| ((1 : Int32) <<< (s.2 &&& 31)))), some (.inl (s.2 + 1))]) dX12_alone_59 (by decide) (by decide) rfl rfl rfl ?_
        refine r_goto 22 dX12_alone_62 (by decide) ?_
        cases h
        have hk := kb _ rfl
        exact hk
    · rw [if_pos c4] at h
      refine r_aload_n (q := 35) dX12_alone_34 rfl rfl ?_
      refine r_iload_n (q := 36) dX12_alone_35 rfl rfl ?_
      obtain ⟨y6, e5, h⟩ := Option.bind_eq_some_iff.mp h
      refine r_callV_i (av := [(.inl s.2)]) (st := []) (q := 39) (d1 := 1) kc_X12_441 sc_m_0 dX12_alone_36 rfl rfl (Nat.le_of_ble_eq_true rfl) (Nat.le_of_ble_eq_true rfl) (by omega) rfl rfl (t_X12_isLoose (d := 1) (by omega) s.2 M _ e5) ?_
      refine r_if_eq 59 (q := 42) dX12_alone_39 (by decide) rfl (fun c7 => ?_) (fun c7 => ?_)
      · rw [if_neg (mm_b0 c7)] at h
        refine r_iinc (v := 1) (q := 62) (L' := [some (.inr 0), some (.inl x1), some (.inl s.1), some (.inl (s.2 + 1))]) dX12_alone_59 (by decide) (by decide) rfl rfl rfl ?_
        refine r_goto 22 dX12_alone_62 (by decide) ?_
        cases h
        have hk := kb _ rfl
        exact hk
      · rw [if_pos (mm_b1 c7)] at h
        refine r_goto 53 dX12_alone_42 (by decide) ?_
        refine r_iload_n (q := 54) dX12_alone_53 rfl rfl ?_
        refine r_iconst (v := 1) (q := 55) dX12_alone_54 (by decide) rfl ?_
        refine r_iload_n (q := 56) dX12_alone_55 rfl rfl ?_
        refine r_ishl (q := 57) dX12_alone_56 rfl ?_
        refine r_ior (q := 58) dX12_alone_57 rfl ?_
        refine r_istore_n (q := 59) (L' := [some (.inr 0), some (.inl x1), some (.inl (s.1 ||| ((1 : Int32) <<< (s.2 &&& 31)))), some (.inl s.2)]) dX12_alone_58 (by decide) rfl rfl ?_
        refine r_iinc (v := 1) (q := 62) (L' := [some (.inr 0), some (.inl x1), some (.inl (s.1 ||| ((1 : Int32) <<< (s.2 &&& 31)))), some (.inl (s.2 + 1))]) dX12_alone_59 (by decide) (by decide) rfl rfl rfl ?_
        refine r_goto 22 dX12_alone_62 (by decide) ?_
        cases h
        have hk := kb _ rfl
        exact hk
noncomputable def X12_alone (x1 : Int32) (M : mm_M) : Option Int32 := if (M 0 6) = 0 then some (-1) else if (X12_in x1 0 1) = true then (mm_loop (X12_alone_l22 x1 M) mm_fuel (0, 0)) else some (-1)
set_option maxRecDepth 100000 in
set_option maxHeartbeats 400000 in
theorem t_X12_alone {d : Nat} (hd : 2 ≤ d) (x1 : Int32) (M : mm_M) (res : Int32) (h : X12_alone x1 M = some res) : mm_Meth jX12_alone d 0 0 [(.inr 0), (.inl x1)] S_m M (mm_Zi res S_m M) := by
  refine r_meth (L := [some (.inr 0), some (.inl x1), none, none]) rfl (fun D => ?_)
  unfold X12_alone at h
  refine r_aload_n (q := 1) dX12_alone_0 rfl rfl ?_
  refine r_geti (v := (M 0 6)) (q := 4) lk_X12_123 dX12_alone_1 sc_m_0 rfl rfl rfl ?_
  refine r_if_eq 16 (q := 7) dX12_alone_4 (by decide) rfl (fun c1 => ?_) (fun c1 => ?_)
  · rw [if_pos c1] at h
    refine r_iconst (v := (-1)) (q := 17) dX12_alone_16 (by decide) rfl ?_
    cases h
    exact r_ret dX12_alone_17 rfl mm_Zi_rfl
  · rw [if_neg c1] at h
    refine r_iload_n (q := 8) dX12_alone_7 rfl rfl ?_
    refine r_iconst (v := 0) (q := 9) dX12_alone_8 (by decide) rfl ?_
    refine r_iconst (v := 1) (q := 10) dX12_alone_9 (by decide) rfl ?_
    refine r_callS_i (av := [(.inl x1), (.inl 0), (.inl 1)]) (st := []) (q := 13) (d1 := 0) kc_X12_127 dX12_alone_10 rfl rfl (Nat.le_of_ble_eq_true rfl) (Nat.le_of_ble_eq_true rfl) (by omega) rfl rfl (t_X12_in (d := 0) (by omega) x1 0 1 M _ rfl) ?_
    refine r_if_ne 18 (q := 16) dX12_alone_13 (by decide) rfl (fun c2 => ?_) (fun c2 => ?_)
    · rw [if_pos (mm_b1 c2)] at h
      refine r_iconst (v := 0) (q := 19) dX12_alone_18 (by decide) rfl ?_
      refine r_istore_n (q := 20) (L' := [some (.inr 0), some (.inl x1), some (.inl 0), none]) dX12_alone_19 (by decide) rfl rfl ?_
      refine r_iconst (v := 0) (q := 21) dX12_alone_20 (by decide) rfl ?_
      refine r_istore_n (q := 22) (L' := [some (.inr 0), some (.inl x1), some (.inl 0), some (.inl 0)]) dX12_alone_21 (by decide) rfl rfl ?_
      exact t_X12_alone_l22 hd x1 M mm_fuel (0, 0) _ h mm_Zi_rfl
    · rw [if_neg (mm_b0 c2)] at h
      refine r_iconst (v := (-1)) (q := 17) dX12_alone_16 (by decide) rfl ?_
      cases h
      exact r_ret dX12_alone_17 rfl mm_Zi_rfl
noncomputable def X12_seed (x1 : Int32) (M : mm_M) : (Bool × mm_M) := if (X12_in x1 0 65535) = true then (true, (mm_U M 1 7 x1)) else (false, M)
set_option maxRecDepth 100000 in
set_option maxHeartbeats 400000 in
theorem t_X12_seed {d : Nat} (hd : 1 ≤ d) (x1 : Int32) (M : mm_M) (res : (Bool × mm_M)) (h : X12_seed x1 M = res) : mm_Meth jX12_seed d 0 0 [(.inr 0), (.inl x1)] S_m M (mm_Zi (mm_b res.1) S_m res.2) := by
  refine r_meth (L := [some (.inr 0), some (.inl x1)]) rfl (fun D => ?_)
  unfold X12_seed at h
  refine r_iload_n (q := 1) dX12_seed_0 rfl rfl ?_
  refine r_iconst (v := 0) (q := 2) dX12_seed_1 (by decide) rfl ?_
  refine r_ldcw (v := 65535) (q := 5) dX12_seed_2 ko_X12_447 rfl ?_
  refine r_callS_i (av := [(.inl x1), (.inl 0), (.inl 65535)]) (st := []) (q := 8) (d1 := 0) kc_X12_127 dX12_seed_5 rfl rfl (Nat.le_of_ble_eq_true rfl) (Nat.le_of_ble_eq_true rfl) (by omega) rfl rfl (t_X12_in (d := 0) (by omega) x1 0 65535 M _ rfl) ?_
  refine r_if_ne 13 (q := 11) dX12_seed_8 (by decide) rfl (fun c1 => ?_) (fun c1 => ?_)
  · rw [if_pos (mm_b1 c1)] at h
    refine r_aload_n (q := 14) dX12_seed_13 rfl rfl ?_
    refine r_getr (b := 1) (q := 17) lk_X12_7 dX12_seed_14 sc_m_0 rfl rfl ?_
    refine r_bipush (v := 7) (q := 19) dX12_seed_17 (by decide) rfl ?_
    refine r_iload_n (q := 20) dX12_seed_19 rfl rfl ?_
    refine r_iast (j := 7) (q := 21) dX12_seed_20 sc_m_1 (mm_vp (by decide)) rfl rfl ?_
    refine r_iconst (v := 1) (q := 22) dX12_seed_21 (by decide) rfl ?_
    subst h
    exact r_retb dX12_seed_22 rfl (Or.inr rfl) mm_Zi_rfl
  · rw [if_neg (mm_b0 c1)] at h
    refine r_iconst (v := 0) (q := 12) dX12_seed_11 (by decide) rfl ?_
    subst h
    exact r_retb dX12_seed_12 rfl (Or.inl rfl) mm_Zi_rfl
noncomputable def X12_keep (M : mm_M) : Option (Int32 × mm_M) := (X12_copies 1 3 (mm_U M 0 60 1)).bind fun y2 => some ((y2 1 6), y2)
set_option maxRecDepth 100000 in
set_option maxHeartbeats 400000 in
theorem t_X12_keep {d : Nat} (hd : 1 ≤ d) (M : mm_M) (res : (Int32 × mm_M)) (h : X12_keep M = some res) : mm_Meth jX12_keep d 0 0 [(.inr 0)] S_m M (mm_Zi res.1 S_m res.2) := by
  refine r_meth (L := [some (.inr 0)]) rfl (fun D => ?_)
  unfold X12_keep at h
  refine r_aload_n (q := 1) dX12_keep_0 rfl rfl ?_
  refine r_iconst (v := 1) (q := 2) dX12_keep_1 (by decide) rfl ?_
  refine r_putb (q := 5) lk_X12_448 ft_9_60 dX12_keep_2 sc_m_0 rfl (Or.inr rfl) rfl ?_
  refine r_aload_n (q := 6) dX12_keep_5 rfl rfl ?_
  refine r_getr (b := 1) (q := 9) lk_X12_7 dX12_keep_6 sc_m_0 rfl rfl ?_
  refine r_aload_n (q := 10) dX12_keep_9 rfl rfl ?_
  refine r_getr (b := 3) (q := 13) lk_X12_16 dX12_keep_10 sc_m_0 rfl rfl ?_
  obtain ⟨y2, e1, h⟩ := Option.bind_eq_some_iff.mp h
  refine r_callS_v (av := [(.inr 1), (.inr 3)]) (st := []) (q := 16) (d1 := 0) kc_X12_318 dX12_keep_13 rfl rfl (Nat.le_of_ble_eq_true rfl) (Nat.le_of_ble_eq_true rfl) (by omega) rfl rfl (t_X12_copies_1_3 (d := 0) (by omega) (mm_U M 0 60 1) _ e1) ?_
  refine r_aload_n (q := 17) dX12_keep_16 rfl rfl ?_
  refine r_getr (b := 1) (q := 20) lk_X12_7 dX12_keep_17 sc_m_0 rfl rfl ?_
  refine r_bipush (v := 6) (q := 22) dX12_keep_20 (by decide) rfl ?_
  refine r_iald (v := (y2 1 6)) (q := 23) dX12_keep_22 sc_m_1 (mm_vp (by decide)) rfl rfl ?_
  cases h
  exact r_ret dX12_keep_23 rfl mm_Zi_rfl
noncomputable def X12_undo (M : mm_M) : Option (Bool × mm_M) := if (M 0 60) = 0 then some (false, M) else (X12_copies 3 1 M).bind fun y3 => if (X12_isState (y3 1 0) y3) = true then some (true, y3) else some (true, (mm_U y3 1 0 0))
set_option maxRecDepth 100000 in
set_option maxHeartbeats 400000 in
theorem t_X12_undo {d : Nat} (hd : 2 ≤ d) (M : mm_M) (res : (Bool × mm_M)) (h : X12_undo M = some res) : mm_Meth jX12_undo d 0 0 [(.inr 0)] S_m M (mm_Zi (mm_b res.1) S_m res.2) := by
  refine r_meth (L := [some (.inr 0)]) rfl (fun D => ?_)
  unfold X12_undo at h
  refine r_aload_n (q := 1) dX12_undo_0 rfl rfl ?_
  refine r_geti (v := (M 0 60)) (q := 4) lk_X12_448 dX12_undo_1 sc_m_0 rfl rfl rfl ?_
  refine r_if_ne 9 (q := 7) dX12_undo_4 (by decide) rfl (fun c1 => ?_) (fun c1 => ?_)
  · rw [if_neg c1] at h
    refine r_aload_n (q := 10) dX12_undo_9 rfl rfl ?_
    refine r_getr (b := 3) (q := 13) lk_X12_16 dX12_undo_10 sc_m_0 rfl rfl ?_
    refine r_aload_n (q := 14) dX12_undo_13 rfl rfl ?_
    refine r_getr (b := 1) (q := 17) lk_X12_7 dX12_undo_14 sc_m_0 rfl rfl ?_
    obtain ⟨y3, e2, h⟩ := Option.bind_eq_some_iff.mp h
    refine r_callS_v (av := [(.inr 3), (.inr 1)]) (st := []) (q := 20) (d1 := 0) kc_X12_318 dX12_undo_17 rfl rfl (Nat.le_of_ble_eq_true rfl) (Nat.le_of_ble_eq_true rfl) (by omega) rfl rfl (t_X12_copies_3_1 (d := 0) (by omega) M _ e2) ?_
    refine r_aload_n (q := 21) dX12_undo_20 rfl rfl ?_
    refine r_aload_n (q := 22) dX12_undo_21 rfl rfl ?_
    refine r_getr (b := 1) (q := 25) lk_X12_7 dX12_undo_22 sc_m_0 rfl rfl ?_
    refine r_iconst (v := 0) (q := 26) dX12_undo_25 (by decide) rfl ?_
    refine r_iald (v := (y3 1 0)) (q := 27) dX12_undo_26 sc_m_1 (mm_vp (by decide)) rfl rfl ?_
    refine r_callV_i (av := [(.inl (y3 1 0))]) (st := []) (q := 30) (d1 := 1) kc_X12_131 sc_m_0 dX12_undo_27 rfl rfl (Nat.le_of_ble_eq_true rfl) (Nat.le_of_ble_eq_true rfl) (by omega) rfl rfl (t_X12_isState (d := 1) (by omega) (y3 1 0) y3 _ rfl) ?_
    refine r_if_ne 40 (q := 33) dX12_undo_30 (by decide) rfl (fun c4 => ?_) (fun c4 => ?_)
    · rw [if_pos (mm_b1 c4)] at h
      refine r_iconst (v := 1) (q := 41) dX12_undo_40 (by decide) rfl ?_
      cases h
      exact r_retb dX12_undo_41 rfl (Or.inr rfl) mm_Zi_rfl
    · rw [if_neg (mm_b0 c4)] at h
      refine r_aload_n (q := 34) dX12_undo_33 rfl rfl ?_
      refine r_getr (b := 1) (q := 37) lk_X12_7 dX12_undo_34 sc_m_0 rfl rfl ?_
      refine r_iconst (v := 0) (q := 38) dX12_undo_37 (by decide) rfl ?_
      refine r_iconst (v := 0) (q := 39) dX12_undo_38 (by decide) rfl ?_
      refine r_iast (j := 0) (q := 40) dX12_undo_39 sc_m_1 (mm_vp (by decide)) rfl rfl ?_
      refine r_iconst (v := 1) (q := 41) dX12_undo_40 (by decide) rfl ?_
      cases h
      exact r_retb dX12_undo_41 rfl (Or.inr rfl) mm_Zi_rfl
  · rw [if_pos c1] at h
    refine r_iconst (v := 0) (q := 8) dX12_undo_7 (by decide) rfl ?_
    cases h
    exact r_retb dX12_undo_8 rfl (Or.inl rfl) mm_Zi_rfl
noncomputable def X12_check_j65l35 (x1 : Int32) (x2 : Int32) (x3 : Int32) (z0 : Int32) (z1 : Int32) (M : mm_M) : Option (Int32 ⊕ (Int32 × mm_M)) := if z0 = z1 then some (.inl (x3 + 1)) else some (.inr (x3, M))
set_option maxRecDepth 100000 in
set_option maxHeartbeats 400000 in
theorem t_X12_check_j65l35 {D : mm_D} {d : Nat} (hd : 2 ≤ d) {Z : Option Int32 → List mm_C → mm_M → Prop} (x1 : Int32) (x2 : Int32) (x3 : Int32) (z0 : Int32) (z1 : Int32) (M : mm_M) (o : Int32 ⊕ (Int32 × mm_M)) (h : X12_check_j65l35 x1 x2 x3 z0 z1 M = some o) (kb : ∀ s', o = .inl s' → mm_Go jX12_check D d 0 0 35 [some (.inr 0), some (.inl x1), some (.inl x2), some (.inl s')] [] S_m M Z) (ke : ∀ r, o = .inr r → Z (some r.1) S_m r.2) : mm_Go jX12_check D d 0 0 65 [some (.inr 0), some (.inl x1), some (.inl x2), some (.inl x3)] [(.inl z1), (.inl z0)] S_m M Z := by
  unfold X12_check_j65l35 at h
  refine r_icmp_eq 70 (q := 68) dX12_check_65 (by decide) rfl (fun c10 => ?_) (fun c10 => ?_)
  · rw [if_pos c10] at h
    refine r_iinc (v := 1) (q := 73) (L' := [some (.inr 0), some (.inl x1), some (.inl x2), some (.inl (x3 + 1))]) dX12_check_70 (by decide) (by decide) rfl rfl rfl ?_
    refine r_goto 35 dX12_check_73 (by decide) ?_
    cases h
    have hk := kb _ rfl
    exact hk
  · rw [if_neg c10] at h
    refine r_iload_n (q := 69) dX12_check_68 rfl rfl ?_
    cases h
    have hk := ke _ rfl
    exact r_ret dX12_check_69 rfl hk
noncomputable def X12_check_l35 (x1 : Int32) (x2 : Int32) (M : mm_M) (s : Int32) : Option (Int32 ⊕ (Int32 × mm_M)) := if x2 ≤ s then some (.inr ((-1), M)) else (X12_octet s M).bind fun y6 => if (X12_isState s M) = true then (X12_answer x1 s M).bind fun y9 => X12_check_j65l35 x1 x2 s y6 y9 M else X12_check_j65l35 x1 x2 s y6 255 M
set_option maxRecDepth 100000 in
set_option maxHeartbeats 400000 in
theorem t_X12_check_l35 {D : mm_D} {d : Nat} (hd : 2 ≤ d) {Z : Option Int32 → List mm_C → mm_M → Prop} (x1 : Int32) (x2 : Int32) (M : mm_M) (n : Nat) (s : Int32) (r : (Int32 × mm_M)) (h : mm_loop (X12_check_l35 x1 x2 M) n s = some r) (hx : Z (some r.1) S_m r.2) : mm_Go jX12_check D d 0 0 35 [some (.inr 0), some (.inl x1), some (.inl x2), some (.inl s)] [] S_m M Z := by
  refine mm_loop_go (step := X12_check_l35 x1 x2 M) (Hd := fun (s : Int32) => mm_Go jX12_check D d 0 0 35 [some (.inr 0), some (.inl x1), some (.inl x2), some (.inl s)] [] S_m M Z) (Ex := fun (r : (Int32 × mm_M)) => Z (some r.1) S_m r.2) ?_ n s r h hx
  intro s o h kb ke
  show mm_Go jX12_check D d 0 0 35 [some (.inr 0), some (.inl x1), some (.inl x2), some (.inl s)] [] S_m M Z
  unfold X12_check_l35 at h
  refine r_iload_n (q := 36) dX12_check_35 rfl rfl ?_
  refine r_iload_n (q := 37) dX12_check_36 rfl rfl ?_
  refine r_icmp_ge 76 (q := 40) dX12_check_37 (by decide) rfl (fun c4 => ?_) (fun c4 => ?_)
  · rw [if_pos c4] at h
    refine r_iconst (v := (-1)) (q := 77) dX12_check_76 (by decide) rfl ?_
    cases h
    have hk := ke _ rfl
    exact r_ret dX12_check_77 rfl hk
  · rw [if_neg c4] at h
    refine r_aload_n (q := 41) dX12_check_40 rfl rfl ?_
    refine r_iload_n (q := 42) dX12_check_41 rfl rfl ?_
    obtain ⟨y6, e5, h⟩ := Option.bind_eq_some_iff.mp h
    refine r_callV_i (av := [(.inl s)]) (st := []) (q := 45) (d1 := 0) kc_X12_357 sc_m_0 dX12_check_42 rfl rfl (Nat.le_of_ble_eq_true rfl) (Nat.le_of_ble_eq_true rfl) (by omega) rfl rfl (t_X12_octet (d := 0) (by omega) s M _ e5) ?_
    refine r_aload_n (q := 46) dX12_check_45 rfl rfl ?_
    refine r_iload_n (q := 47) dX12_check_46 rfl rfl ?_
    refine r_callV_i (av := [(.inl s)]) (st := [(.inl y6)]) (q := 50) (d1 := 1) kc_X12_131 sc_m_0 dX12_check_47 rfl rfl (Nat.le_of_ble_eq_true rfl) (Nat.le_of_ble_eq_true rfl) (by omega) rfl rfl (t_X12_isState (d := 1) (by omega) s M _ rfl) ?_
    refine r_if_eq 62 (q := 53) dX12_check_50 (by decide) rfl (fun c7 => ?_) (fun c7 => ?_)
    · rw [if_neg (mm_b0 c7)] at h
      refine r_sipush (v := 255) (q := 65) dX12_check_62 (by decide) rfl ?_
      exact t_X12_check_j65l35 hd x1 x2 s y6 255 M _ h kb ke
    · rw [if_pos (mm_b1 c7)] at h
      refine r_aload_n (q := 54) dX12_check_53 rfl rfl ?_
      refine r_iload_n (q := 55) dX12_check_54 rfl rfl ?_
      refine r_iload_n (q := 56) dX12_check_55 rfl rfl ?_
      obtain ⟨y9, e8, h⟩ := Option.bind_eq_some_iff.mp h
      refine r_callV_i (av := [(.inl x1), (.inl s)]) (st := [(.inl y6)]) (q := 59) (d1 := 0) kc_X12_299 sc_m_0 dX12_check_56 rfl rfl (Nat.le_of_ble_eq_true rfl) (Nat.le_of_ble_eq_true rfl) (by omega) rfl rfl (t_X12_answer (d := 0) (by omega) x1 s M _ e8) ?_
      refine r_goto 65 dX12_check_59 (by decide) ?_
      exact t_X12_check_j65l35 hd x1 x2 s y6 y9 M _ h kb ke
noncomputable def X12_check (x1 : Int32) (x2 : Int32) (M : mm_M) : Option (Int32 × mm_M) := if (X12_isQuestion x1) = true then if (X12_in x2 0 10) = true then if x2 ≤ (M 0 8) then (mm_loop (X12_check_l35 x1 x2 (mm_U M 0 8 0)) mm_fuel 0) else some ((-2), M) else some ((-2), M) else some ((-2), M)
set_option maxRecDepth 100000 in
set_option maxHeartbeats 400000 in
theorem t_X12_check {d : Nat} (hd : 2 ≤ d) (x1 : Int32) (x2 : Int32) (M : mm_M) (res : (Int32 × mm_M)) (h : X12_check x1 x2 M = some res) : mm_Meth jX12_check d 0 0 [(.inr 0), (.inl x1), (.inl x2)] S_m M (mm_Zi res.1 S_m res.2) := by
  refine r_meth (L := [some (.inr 0), some (.inl x1), some (.inl x2), none]) rfl (fun D => ?_)
  unfold X12_check at h
  refine r_iload_n (q := 1) dX12_check_0 rfl rfl ?_
  refine r_callS_i (av := [(.inl x1)]) (st := []) (q := 4) (d1 := 1) kc_X12_135 dX12_check_1 rfl rfl (Nat.le_of_ble_eq_true rfl) (Nat.le_of_ble_eq_true rfl) (by omega) rfl rfl (t_X12_isQuestion (d := 1) (by omega) x1 M _ rfl) ?_
  refine r_if_eq 25 (q := 7) dX12_check_4 (by decide) rfl (fun c1 => ?_) (fun c1 => ?_)
  · rw [if_neg (mm_b0 c1)] at h
    refine r_bipush (v := (-2)) (q := 27) dX12_check_25 (by decide) rfl ?_
    cases h
    exact r_ret dX12_check_27 rfl mm_Zi_rfl
  · rw [if_pos (mm_b1 c1)] at h
    refine r_iload_n (q := 8) dX12_check_7 rfl rfl ?_
    refine r_iconst (v := 0) (q := 9) dX12_check_8 (by decide) rfl ?_
    refine r_bipush (v := 10) (q := 11) dX12_check_9 (by decide) rfl ?_
    refine r_callS_i (av := [(.inl x2), (.inl 0), (.inl 10)]) (st := []) (q := 14) (d1 := 0) kc_X12_127 dX12_check_11 rfl rfl (Nat.le_of_ble_eq_true rfl) (Nat.le_of_ble_eq_true rfl) (by omega) rfl rfl (t_X12_in (d := 0) (by omega) x2 0 10 M _ rfl) ?_
    refine r_if_eq 25 (q := 17) dX12_check_14 (by decide) rfl (fun c2 => ?_) (fun c2 => ?_)
    · rw [if_neg (mm_b0 c2)] at h
      refine r_bipush (v := (-2)) (q := 27) dX12_check_25 (by decide) rfl ?_
      cases h
      exact r_ret dX12_check_27 rfl mm_Zi_rfl
    · rw [if_pos (mm_b1 c2)] at h
      refine r_iload_n (q := 18) dX12_check_17 rfl rfl ?_
      refine r_aload_n (q := 19) dX12_check_18 rfl rfl ?_
      refine r_geti (v := (M 0 8)) (q := 22) lk_X12_138 dX12_check_19 sc_m_0 rfl rfl rfl ?_
      refine r_icmp_le 28 (q := 25) dX12_check_22 (by decide) rfl (fun c3 => ?_) (fun c3 => ?_)
      · rw [if_pos c3] at h
        refine r_aload_n (q := 29) dX12_check_28 rfl rfl ?_
        refine r_iconst (v := 0) (q := 30) dX12_check_29 (by decide) rfl ?_
        refine r_puti (q := 33) lk_X12_138 ft_9_8 dX12_check_30 sc_m_0 rfl rfl ?_
        refine r_iconst (v := 0) (q := 34) dX12_check_33 (by decide) rfl ?_
        refine r_istore_n (q := 35) (L' := [some (.inr 0), some (.inl x1), some (.inl x2), some (.inl 0)]) dX12_check_34 (by decide) rfl rfl ?_
        exact t_X12_check_l35 hd x1 x2 (mm_U M 0 8 0) mm_fuel 0 _ h mm_Zi_rfl
      · rw [if_neg c3] at h
        refine r_bipush (v := (-2)) (q := 27) dX12_check_25 (by decide) rfl ?_
        cases h
        exact r_ret dX12_check_27 rfl mm_Zi_rfl
noncomputable def X12_count (x1 : Int32) (M : mm_M) : Int32 := if x1 = 0 then (M 1 6) else if x1 = 1 then (M 0 6) else if x1 = 2 then (M 1 0) else if x1 = 3 then (M 1 1) else if x1 = 4 then (M 1 2) else if x1 = 5 then (M 1 3) else if x1 = 6 then (M 1 4) else if x1 = 7 then (M 1 5) else if x1 = 8 then (M 0 17) else if x1 = 9 then (M 0 8) else if x1 = 10 then (M 1 7) else (-1)
set_option maxRecDepth 100000 in
set_option maxHeartbeats 400000 in
theorem t_X12_count {d : Nat} (hd : 0 ≤ d) (x1 : Int32) (M : mm_M) (res : Int32) (h : X12_count x1 M = res) : mm_Meth jX12_count d 0 0 [(.inr 0), (.inl x1)] S_m M (mm_Zi res S_m M) := by
  refine r_meth (L := [some (.inr 0), some (.inl x1)]) rfl (fun D => ?_)
  unfold X12_count at h
  refine r_iload_n (q := 1) dX12_count_0 rfl rfl ?_
  by_cases c1 : x1 = 0
  · rw [if_pos c1] at h
    refine mm_tableIn (off := 59) 60 dX12_count_1 (by rw [c1]; decide) (by rw [c1]; decide) (by rw [c1]; rfl) (by decide) ?_
    refine r_aload_n (q := 61) dX12_count_60 rfl rfl ?_
    refine r_getr (b := 1) (q := 64) lk_X12_7 dX12_count_61 sc_m_0 rfl rfl ?_
    refine r_bipush (v := 6) (q := 66) dX12_count_64 (by decide) rfl ?_
    refine r_iald (v := (M 1 6)) (q := 67) dX12_count_66 sc_m_1 (mm_vp (by decide)) rfl rfl ?_
    subst h
    exact r_ret dX12_count_67 rfl mm_Zi_rfl
  · rw [if_neg c1] at h
    by_cases c2 : x1 = 1
    · rw [if_pos c2] at h
      refine mm_tableIn (off := 67) 68 dX12_count_1 (by rw [c2]; decide) (by rw [c2]; decide) (by rw [c2]; rfl) (by decide) ?_
      refine r_aload_n (q := 69) dX12_count_68 rfl rfl ?_
      refine r_geti (v := (M 0 6)) (q := 72) lk_X12_123 dX12_count_69 sc_m_0 rfl rfl rfl ?_
      subst h
      exact r_ret dX12_count_72 rfl mm_Zi_rfl
    · rw [if_neg c2] at h
      by_cases c3 : x1 = 2
      · rw [if_pos c3] at h
        refine mm_tableIn (off := 72) 73 dX12_count_1 (by rw [c3]; decide) (by rw [c3]; decide) (by rw [c3]; rfl) (by decide) ?_
        refine r_aload_n (q := 74) dX12_count_73 rfl rfl ?_
        refine r_getr (b := 1) (q := 77) lk_X12_7 dX12_count_74 sc_m_0 rfl rfl ?_
        refine r_iconst (v := 0) (q := 78) dX12_count_77 (by decide) rfl ?_
        refine r_iald (v := (M 1 0)) (q := 79) dX12_count_78 sc_m_1 (mm_vp (by decide)) rfl rfl ?_
        subst h
        exact r_ret dX12_count_79 rfl mm_Zi_rfl
      · rw [if_neg c3] at h
        by_cases c4 : x1 = 3
        · rw [if_pos c4] at h
          refine mm_tableIn (off := 79) 80 dX12_count_1 (by rw [c4]; decide) (by rw [c4]; decide) (by rw [c4]; rfl) (by decide) ?_
          refine r_aload_n (q := 81) dX12_count_80 rfl rfl ?_
          refine r_getr (b := 1) (q := 84) lk_X12_7 dX12_count_81 sc_m_0 rfl rfl ?_
          refine r_iconst (v := 1) (q := 85) dX12_count_84 (by decide) rfl ?_
          refine r_iald (v := (M 1 1)) (q := 86) dX12_count_85 sc_m_1 (mm_vp (by decide)) rfl rfl ?_
          subst h
          exact r_ret dX12_count_86 rfl mm_Zi_rfl
        · rw [if_neg c4] at h
          by_cases c5 : x1 = 4
          · rw [if_pos c5] at h
            refine mm_tableIn (off := 86) 87 dX12_count_1 (by rw [c5]; decide) (by rw [c5]; decide) (by rw [c5]; rfl) (by decide) ?_
            refine r_aload_n (q := 88) dX12_count_87 rfl rfl ?_
            refine r_getr (b := 1) (q := 91) lk_X12_7 dX12_count_88 sc_m_0 rfl rfl ?_
            refine r_iconst (v := 2) (q := 92) dX12_count_91 (by decide) rfl ?_
            refine r_iald (v := (M 1 2)) (q := 93) dX12_count_92 sc_m_1 (mm_vp (by decide)) rfl rfl ?_
            subst h
            exact r_ret dX12_count_93 rfl mm_Zi_rfl
          · rw [if_neg c5] at h
            by_cases c6 : x1 = 5
            · rw [if_pos c6] at h
              refine mm_tableIn (off := 93) 94 dX12_count_1 (by rw [c6]; decide) (by rw [c6]; decide) (by rw [c6]; rfl) (by decide) ?_
              refine r_aload_n (q := 95) dX12_count_94 rfl rfl ?_
              refine r_getr (b := 1) (q := 98) lk_X12_7 dX12_count_95 sc_m_0 rfl rfl ?_
              refine r_iconst (v := 3) (q := 99) dX12_count_98 (by decide) rfl ?_
              refine r_iald (v := (M 1 3)) (q := 100) dX12_count_99 sc_m_1 (mm_vp (by decide)) rfl rfl ?_
              subst h
              exact r_ret dX12_count_100 rfl mm_Zi_rfl
            · rw [if_neg c6] at h
              by_cases c7 : x1 = 6
              · rw [if_pos c7] at h
                refine mm_tableIn (off := 100) 101 dX12_count_1 (by rw [c7]; decide) (by rw [c7]; decide) (by rw [c7]; rfl) (by decide) ?_
                refine r_aload_n (q := 102) dX12_count_101 rfl rfl ?_
                refine r_getr (b := 1) (q := 105) lk_X12_7 dX12_count_102 sc_m_0 rfl rfl ?_
                refine r_iconst (v := 4) (q := 106) dX12_count_105 (by decide) rfl ?_
                refine r_iald (v := (M 1 4)) (q := 107) dX12_count_106 sc_m_1 (mm_vp (by decide)) rfl rfl ?_
                subst h
                exact r_ret dX12_count_107 rfl mm_Zi_rfl
              · rw [if_neg c7] at h
                by_cases c8 : x1 = 7
                · rw [if_pos c8] at h
                  refine mm_tableIn (off := 107) 108 dX12_count_1 (by rw [c8]; decide) (by rw [c8]; decide) (by rw [c8]; rfl) (by decide) ?_
                  refine r_aload_n (q := 109) dX12_count_108 rfl rfl ?_
                  refine r_getr (b := 1) (q := 112) lk_X12_7 dX12_count_109 sc_m_0 rfl rfl ?_
                  refine r_iconst (v := 5) (q := 113) dX12_count_112 (by decide) rfl ?_
                  refine r_iald (v := (M 1 5)) (q := 114) dX12_count_113 sc_m_1 (mm_vp (by decide)) rfl rfl ?_
                  subst h
                  exact r_ret dX12_count_114 rfl mm_Zi_rfl
                · rw [if_neg c8] at h
                  by_cases c9 : x1 = 8
                  · rw [if_pos c9] at h
                    refine mm_tableIn (off := 114) 115 dX12_count_1 (by rw [c9]; decide) (by rw [c9]; decide) (by rw [c9]; rfl) (by decide) ?_
                    refine r_aload_n (q := 116) dX12_count_115 rfl rfl ?_
                    refine r_geti (v := (M 0 17)) (q := 119) lk_X12_238 dX12_count_116 sc_m_0 rfl rfl rfl ?_
                    subst h
                    exact r_ret dX12_count_119 rfl mm_Zi_rfl
                  · rw [if_neg c9] at h
                    by_cases c10 : x1 = 9
                    · rw [if_pos c10] at h
                      refine mm_tableIn (off := 119) 120 dX12_count_1 (by rw [c10]; decide) (by rw [c10]; decide) (by rw [c10]; rfl) (by decide) ?_
                      refine r_aload_n (q := 121) dX12_count_120 rfl rfl ?_
                      refine r_geti (v := (M 0 8)) (q := 124) lk_X12_138 dX12_count_121 sc_m_0 rfl rfl rfl ?_
                      subst h
                      exact r_ret dX12_count_124 rfl mm_Zi_rfl
                    · rw [if_neg c10] at h
                      by_cases c11 : x1 = 10
                      · rw [if_pos c11] at h
                        refine mm_tableIn (off := 124) 125 dX12_count_1 (by rw [c11]; decide) (by rw [c11]; decide) (by rw [c11]; rfl) (by decide) ?_
                        refine r_aload_n (q := 126) dX12_count_125 rfl rfl ?_
                        refine r_getr (b := 1) (q := 129) lk_X12_7 dX12_count_126 sc_m_0 rfl rfl ?_
                        refine r_bipush (v := 7) (q := 131) dX12_count_129 (by decide) rfl ?_
                        refine r_iald (v := (M 1 7)) (q := 132) dX12_count_131 sc_m_1 (mm_vp (by decide)) rfl rfl ?_
                        subst h
                        exact r_ret dX12_count_132 rfl mm_Zi_rfl
                      · rw [if_neg c11] at h
                        have nc1 : (x1).toInt ≠ 0 := fun e => c1 (Int32.toInt_inj.mp (e.trans (by decide)))
                        have nc2 : (x1).toInt ≠ 1 := fun e => c2 (Int32.toInt_inj.mp (e.trans (by decide)))
                        have nc3 : (x1).toInt ≠ 2 := fun e => c3 (Int32.toInt_inj.mp (e.trans (by decide)))
                        have nc4 : (x1).toInt ≠ 3 := fun e => c4 (Int32.toInt_inj.mp (e.trans (by decide)))
                        have nc5 : (x1).toInt ≠ 4 := fun e => c5 (Int32.toInt_inj.mp (e.trans (by decide)))
                        have nc6 : (x1).toInt ≠ 5 := fun e => c6 (Int32.toInt_inj.mp (e.trans (by decide)))
                        have nc7 : (x1).toInt ≠ 6 := fun e => c7 (Int32.toInt_inj.mp (e.trans (by decide)))
                        have nc8 : (x1).toInt ≠ 7 := fun e => c8 (Int32.toInt_inj.mp (e.trans (by decide)))
                        have nc9 : (x1).toInt ≠ 8 := fun e => c9 (Int32.toInt_inj.mp (e.trans (by decide)))
                        have nc10 : (x1).toInt ≠ 9 := fun e => c10 (Int32.toInt_inj.mp (e.trans (by decide)))
                        have nc11 : (x1).toInt ≠ 10 := fun e => c11 (Int32.toInt_inj.mp (e.trans (by decide)))
                        refine mm_tableOut 133 dX12_count_1 (by omega) (by decide) ?_
                        refine r_iconst (v := (-1)) (q := 134) dX12_count_133 (by decide) rfl ?_
                        subst h
                        exact r_ret dX12_count_134 rfl mm_Zi_rfl
