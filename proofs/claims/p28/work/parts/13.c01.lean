noncomputable def rc_X3_readNumber : Nat → (Int32 → Int32 → mm_M → Option (Bool × mm_M)) × (Int32 → mm_M → Option (Bool × mm_M))
  | 0 => (fun _ _ _ => none, fun _ _ => none)
  | n + 1 => (X3_readNumber_o ((rc_X3_readNumber n).1) ((rc_X3_readNumber n).2), X3_readFactor_o ((rc_X3_readNumber n).1) ((rc_X3_readNumber n).2))
noncomputable def X3_readNumber (n : Nat) := (rc_X3_readNumber n).1
noncomputable def X3_readFactor (n : Nat) := (rc_X3_readNumber n).2
theorem t_rc_X3_readNumber : ∀ (n d : Nat), 8 + n ≤ d → (∀ (x2 x3 : Int32) (M : mm_M) (res : Bool × mm_M), (rc_X3_readNumber n).1 x2 x3 M = some res → mm_Meth jX3_readNumber d 0 0 [(.inr 1), (.inr 20), (.inl x2), (.inl x3)] S_c M (mm_Zi (mm_b res.1) S_c res.2)) ∧ (∀ (x2 : Int32) (M : mm_M) (res : Bool × mm_M), (rc_X3_readNumber n).2 x2 M = some res → mm_Meth jX3_readFactor d 0 0 [(.inr 1), (.inr 20), (.inl x2)] S_c M (mm_Zi (mm_b res.1) S_c res.2)) := by
  intro n
  induction n with
  | zero => intro d hd; exact ⟨by intros; contradiction, by intros; contradiction⟩
  | succ n ih =>
    intro d hd
    have hr := ih (d - 1) (by omega)
    refine ⟨?_, ?_⟩
    · intro x2 x3 M res h; exact t_X3_readNumber_o (d := d) (by omega) (d' := d - 1) (by omega) hr.1 hr.2 x2 x3 M res h
    · intro x2 M res h; exact t_X3_readFactor_o (d := d) (by omega) (d' := d - 1) (by omega) hr.1 hr.2 x2 M res h
theorem t_X3_readNumber {n d : Nat} (hd : 8 + n ≤ d) (x2 : Int32) (x3 : Int32) (M : mm_M) (res : Bool × mm_M) (h : X3_readNumber n x2 x3 M = some res) : mm_Meth jX3_readNumber d 0 0 [(.inr 1), (.inr 20), (.inl x2), (.inl x3)] S_c M (mm_Zi (mm_b res.1) S_c res.2) := (t_rc_X3_readNumber n d hd).1 x2 x3 M res h
theorem t_X3_readFactor {n d : Nat} (hd : 8 + n ≤ d) (x2 : Int32) (M : mm_M) (res : Bool × mm_M) (h : X3_readFactor n x2 M = some res) : mm_Meth jX3_readFactor d 0 0 [(.inr 1), (.inr 20), (.inl x2)] S_c M (mm_Zi (mm_b res.1) S_c res.2) := (t_rc_X3_readNumber n d hd).2 x2 M res h
noncomputable def X2_beginTest (M : mm_M) : Option mm_M := if (M 20 0) ≤ 0 then some M else if 16 < (M 20 0) then some M else if mm_in ((M 20 0) - 1) 16 = true then some (mm_U M 23 (Int32.toNatClampNeg ((M 20 0) - 1)) (M 20 4)) else none
set_option maxRecDepth 100000 in
set_option maxHeartbeats 400000 in
theorem t_X2_beginTest {d : Nat} (hd : 0 ≤ d) (M : mm_M) (res : mm_M) (h : X2_beginTest M = some res) : mm_Meth jX2_beginTest d 0 0 [(.inr 20)] S_c M (mm_Zv S_c res) := by
  refine r_meth (L := [some (.inr 20)]) rfl (fun D => ?_)
  unfold X2_beginTest at h
  refine r_aload_n (q := 1) dX2_beginTest_0 rfl rfl ?_
  refine r_geti (v := (M 20 0)) (q := 4) lk_X2_30 dX2_beginTest_1 sc_c_20 rfl rfl rfl ?_
  refine r_if_le 31 (q := 7) dX2_beginTest_4 (by decide) rfl (fun c1 => ?_) (fun c1 => ?_)
  · rw [if_pos c1] at h
    cases h
    exact r_retv dX2_beginTest_31 rfl mm_Zv_rfl
  · rw [if_neg c1] at h
    refine r_aload_n (q := 8) dX2_beginTest_7 rfl rfl ?_
    refine r_geti (v := (M 20 0)) (q := 11) lk_X2_30 dX2_beginTest_8 sc_c_20 rfl rfl rfl ?_
    refine r_bipush (v := 16) (q := 13) dX2_beginTest_11 (by decide) rfl ?_
    refine r_icmp_gt 31 (q := 16) dX2_beginTest_13 (by decide) rfl (fun c2 => ?_) (fun c2 => ?_)
    · rw [if_pos c2] at h
      cases h
      exact r_retv dX2_beginTest_31 rfl mm_Zv_rfl
    · rw [if_neg c2] at h
      refine r_aload_n (q := 17) dX2_beginTest_16 rfl rfl ?_
      refine r_getr (b := 23) (q := 20) lk_X2_18 dX2_beginTest_17 sc_c_20 rfl rfl ?_
      refine r_aload_n (q := 21) dX2_beginTest_20 rfl rfl ?_
      refine r_geti (v := (M 20 0)) (q := 24) lk_X2_30 dX2_beginTest_21 sc_c_20 rfl rfl rfl ?_
      refine r_iconst (v := 1) (q := 25) dX2_beginTest_24 (by decide) rfl ?_
      refine r_isub (q := 26) dX2_beginTest_25 rfl ?_
      refine r_aload_n (q := 27) dX2_beginTest_26 rfl rfl ?_
      refine r_geti (v := (M 20 4)) (q := 30) lk_X2_34 dX2_beginTest_27 sc_c_20 rfl rfl rfl ?_
      obtain ⟨g3, h⟩ := mm_guard h
      refine r_iast (j := (Int32.toNatClampNeg ((M 20 0) - 1))) (q := 31) dX2_beginTest_30 sc_c_23 (mm_vp g3) rfl rfl ?_
      cases h
      exact r_retv dX2_beginTest_31 rfl mm_Zv_rfl
noncomputable def X2_land_l7 (s : (Int32 × Int32 × mm_M)) : Option ((Int32 × Int32 × mm_M) ⊕ mm_M) := if s.2.1 ≤ 0 then some (.inr s.2.2) else if s.1 < 0 then some (.inr s.2.2) else if 256 ≤ s.1 then some (.inr s.2.2) else some (.inl ((s.2.2 25 (Int32.toNatClampNeg s.1)), (s.2.1 + (-1)), (mm_U s.2.2 25 (Int32.toNatClampNeg s.1) (s.2.2 20 4))))
set_option maxRecDepth 100000 in
set_option maxHeartbeats 400000 in
theorem t_X2_land_l7 {D : mm_D} {d : Nat} (hd : 0 ≤ d) {Z : Option Int32 → List mm_C → mm_M → Prop} (n : Nat) (s : (Int32 × Int32 × mm_M)) (r : mm_M) (h : mm_loop (X2_land_l7) n s = some r) (hx : Z none S_c r) : mm_Go jX2_land D d 0 0 7 [some (.inr 20), none, some (.inl s.1), some (.inl s.2.1), none] [] S_c s.2.2 Z := by
  refine mm_loop_go (step := X2_land_l7) (Hd := fun (s : (Int32 × Int32 × mm_M)) => mm_Go jX2_land D d 0 0 7 [some (.inr 20), none, some (.inl s.1), some (.inl s.2.1), none] [] S_c s.2.2 Z) (Ex := fun (r : mm_M) => Z none S_c r) ?_ n s r h hx
  intro s o h kb ke
  show mm_Go jX2_land D d 0 0 7 [some (.inr 20), none, some (.inl s.1), some (.inl s.2.1), none] [] S_c s.2.2 Z
  unfold X2_land_l7 at h
  refine r_iload_n (q := 8) dX2_land_7 rfl rfl ?_
  refine r_if_le 49 (q := 11) dX2_land_8 (by decide) rfl (fun c1 => ?_) (fun c1 => ?_)
  · rw [if_pos c1] at h
    cases h
    have hk := ke _ rfl
    exact r_retv dX2_land_49 rfl hk
  · rw [if_neg c1] at h
    refine r_iload_n (q := 12) dX2_land_11 rfl rfl ?_
    refine r_if_lt 49 (q := 15) dX2_land_12 (by decide) rfl (fun c2 => ?_) (fun c2 => ?_)
    · rw [if_pos c2] at h
      cases h
      have hk := ke _ rfl
      exact r_retv dX2_land_49 rfl hk
    · rw [if_neg c2] at h
      refine r_iload_n (q := 16) dX2_land_15 rfl rfl ?_
      refine r_sipush (v := 256) (q := 19) dX2_land_16 (by decide) rfl ?_
      refine r_icmp_ge 49 (q := 22) dX2_land_19 (by decide) rfl (fun c3 => ?_) (fun c3 => ?_)
      · rw [if_pos c3] at h
        cases h
        have hk := ke _ rfl
        exact r_retv dX2_land_49 rfl hk
      · rw [if_neg c3] at h
        refine r_aload_n (q := 23) dX2_land_22 rfl rfl ?_
        refine r_getr (b := 25) (q := 26) lk_X2_24 dX2_land_23 sc_c_20 rfl rfl ?_
        refine r_iload_n (q := 27) dX2_land_26 rfl rfl ?_
        refine r_iald (v := (s.2.2 25 (Int32.toNatClampNeg s.1))) (q := 28) dX2_land_27 sc_c_25 (mm_vp2 (Int32.not_lt.mp c2) (Int32.not_le.mp c3) (by decide)) rfl rfl ?_
        refine r_istore (q := 30) (L' := [some (.inr 20), none, some (.inl s.1), some (.inl s.2.1), some (.inl (s.2.2 25 (Int32.toNatClampNeg s.1)))]) dX2_land_28 (by decide) rfl rfl ?_
        refine r_aload_n (q := 31) dX2_land_30 rfl rfl ?_
        refine r_getr (b := 25) (q := 34) lk_X2_24 dX2_land_31 sc_c_20 rfl rfl ?_
        refine r_iload_n (q := 35) dX2_land_34 rfl rfl ?_
        refine r_aload_n (q := 36) dX2_land_35 rfl rfl ?_
        refine r_geti (v := (s.2.2 20 4)) (q := 39) lk_X2_34 dX2_land_36 sc_c_20 rfl rfl rfl ?_
        refine r_iast (j := (Int32.toNatClampNeg s.1)) (q := 40) dX2_land_39 sc_c_25 (mm_vp2 (Int32.not_lt.mp c2) (Int32.not_le.mp c3) (by decide)) rfl rfl ?_
        refine r_iload (q := 42) dX2_land_40 rfl rfl ?_
        refine r_istore_n (q := 43) (L' := [some (.inr 20), none, some (.inl (s.2.2 25 (Int32.toNatClampNeg s.1))), some (.inl s.2.1), some (.inl (s.2.2 25 (Int32.toNatClampNeg s.1)))]) dX2_land_42 (by decide) rfl rfl ?_
        refine r_iinc (v := (-1)) (q := 46) (L' := [some (.inr 20), none, some (.inl (s.2.2 25 (Int32.toNatClampNeg s.1))), some (.inl (s.2.1 + (-1))), some (.inl (s.2.2 25 (Int32.toNatClampNeg s.1)))]) dX2_land_43 (by decide) (by decide) rfl rfl rfl ?_
        refine r_goto 7 dX2_land_46 (by decide) ?_
        refine r_forget (L' := [some (.inr 20), none, some (.inl (s.2.2 25 (Int32.toNatClampNeg s.1))), some (.inl (s.2.1 + (-1))), none]) [true, false, true, true, false] rfl ?_
        cases h
        have hk := kb _ rfl
        exact hk
noncomputable def X2_land (x1 : Int32) (M : mm_M) : Option mm_M := (mm_loop (X2_land_l7) mm_fuel (x1, (M 20 4), M))
set_option maxRecDepth 100000 in
set_option maxHeartbeats 400000 in
theorem t_X2_land {d : Nat} (hd : 0 ≤ d) (x1 : Int32) (M : mm_M) (res : mm_M) (h : X2_land x1 M = some res) : mm_Meth jX2_land d 0 0 [(.inr 20), (.inl x1)] S_c M (mm_Zv S_c res) := by
  refine r_meth (L := [some (.inr 20), some (.inl x1), none, none, none]) rfl (fun D => ?_)
  unfold X2_land at h
  refine r_iload_n (q := 1) dX2_land_0 rfl rfl ?_
  refine r_istore_n (q := 2) (L' := [some (.inr 20), some (.inl x1), some (.inl x1), none, none]) dX2_land_1 (by decide) rfl rfl ?_
  refine r_aload_n (q := 3) dX2_land_2 rfl rfl ?_
  refine r_geti (v := (M 20 4)) (q := 6) lk_X2_34 dX2_land_3 sc_c_20 rfl rfl rfl ?_
  refine r_istore_n (q := 7) (L' := [some (.inr 20), some (.inl x1), some (.inl x1), some (.inl (M 20 4)), none]) dX2_land_6 (by decide) rfl rfl ?_
  refine r_forget (L' := [some (.inr 20), none, some (.inl x1), some (.inl (M 20 4)), none]) [true, false, true, true, false] rfl ?_
  exact t_X2_land_l7 hd mm_fuel (x1, (M 20 4), M) _ h mm_Zv_rfl
noncomputable def X3_readCondition_j58l30 (rec0 : Int32 → Int32 → mm_M → Option (Bool × mm_M)) (rec1 : Int32 → mm_M → Option (Bool × mm_M)) (x2 : Int32) (x3 : Int32) (x4 : Int32) (x5 : Int32) (x6 : Int32) (x7 : Int32) (z0 : Bool) (M : mm_M) : Option ((Int32 × Int32 × mm_M) ⊕ (Bool × mm_M)) := if z0 = true then if (M 1 4) = x4 then mm_let (X7_step M) fun y12 => mm_let (X2_add x5 x6 y12) fun y14 => some (.inl (y14.1, (x7 + 1), y14.2)) else (X2_land x6 M).bind fun y16 => some (.inr (true, y16)) else some (.inr (false, M))
set_option maxRecDepth 100000 in
set_option maxHeartbeats 400000 in
theorem t_X3_readCondition_j58l30 {D : mm_D} {d : Nat} (hd : 69 ≤ d) {rec0 : Int32 → Int32 → mm_M → Option (Bool × mm_M)} {rec1 : Int32 → mm_M → Option (Bool × mm_M)} {d' : Nat} (hdd : d' < d) (hrec0 : ∀ (w0 w1 : Int32) (M : mm_M) (res : Bool × mm_M), rec0 w0 w1 M = some res → mm_Meth jX3_readCondition d' 0 0 [.inr 1, .inr 20, .inl w0, .inl w1] S_c M (mm_Zi (mm_b res.1) S_c res.2)) (hrec1 : ∀ (w0 : Int32) (M : mm_M) (res : Bool × mm_M), rec1 w0 M = some res → mm_Meth jX3_readTest d' 0 0 [.inr 1, .inr 20, .inl w0] S_c M (mm_Zi (mm_b res.1) S_c res.2)) {Z : Option Int32 → List mm_C → mm_M → Prop} (x2 : Int32) (x3 : Int32) (x4 : Int32) (x5 : Int32) (x6 : Int32) (x7 : Int32) (z0 : Bool) (M : mm_M) (o : (Int32 × Int32 × mm_M) ⊕ (Bool × mm_M)) (h : X3_readCondition_j58l30 rec0 rec1 x2 x3 x4 x5 x6 x7 z0 M = some o) (kb : ∀ s', o = .inl s' → mm_Go jX3_readCondition D d 0 0 30 [some (.inr 1), some (.inr 20), some (.inl x2), some (.inl x3), some (.inl x4), some (.inl x5), some (.inl s'.1), some (.inl s'.2.1), none] [] S_c s'.2.2 Z) (ke : ∀ r, o = .inr r → Z (some (mm_b r.1)) S_c r.2) : mm_Go jX3_readCondition D d 0 0 58 [some (.inr 1), some (.inr 20), some (.inl x2), some (.inl x3), some (.inl x4), some (.inl x5), some (.inl x6), some (.inl x7), none] [(.inl (mm_b z0))] S_c M Z := by
  unfold X3_readCondition_j58l30 at h
  refine r_istore (q := 60) (L' := [some (.inr 1), some (.inr 20), some (.inl x2), some (.inl x3), some (.inl x4), some (.inl x5), some (.inl x6), some (.inl x7), some (.inl (mm_b z0))]) dX3_readCondition_58 (by decide) rfl rfl ?_
  refine r_iload (q := 62) dX3_readCondition_60 rfl rfl ?_
  refine r_if_ne 67 (q := 65) dX3_readCondition_62 (by decide) rfl (fun c9 => ?_) (fun c9 => ?_)
  · rw [if_pos (mm_b1 c9)] at h
    refine r_aload_n (q := 68) dX3_readCondition_67 rfl rfl ?_
    refine r_geti (v := (M 1 4)) (q := 71) lk_X3_20 dX3_readCondition_68 sc_c_1 rfl rfl rfl ?_
    refine r_iload (q := 73) dX3_readCondition_71 rfl rfl ?_
    refine r_icmp_eq 84 (q := 76) dX3_readCondition_73 (by decide) rfl (fun c10 => ?_) (fun c10 => ?_)
    · rw [if_pos c10] at h
      refine r_aload_n (q := 85) dX3_readCondition_84 rfl rfl ?_
      obtain ⟨y12, e11, h⟩ := mm_let_elim h
      refine r_callV_v (av := []) (st := []) (q := 88) (d1 := 0) kc_X3_41 sc_c_1 dX3_readCondition_85 rfl rfl (Nat.le_of_ble_eq_true rfl) (Nat.le_of_ble_eq_true rfl) (by omega) rfl rfl (t_X7_step (d := 0) (by omega) M _ e11) ?_
      refine r_aload_n (q := 89) dX3_readCondition_88 rfl rfl ?_
      refine r_iload (q := 91) dX3_readCondition_89 rfl rfl ?_
      refine r_iload (q := 93) dX3_readCondition_91 rfl rfl ?_
      obtain ⟨y14, e13, h⟩ := mm_let_elim h
      refine r_callV_i (av := [(.inl x5), (.inl x6)]) (st := []) (q := 96) (d1 := 0) kc_X3_52 sc_c_20 dX3_readCondition_93 rfl rfl (Nat.le_of_ble_eq_true rfl) (Nat.le_of_ble_eq_true rfl) (by omega) rfl rfl (t_X2_add (d := 0) (by omega) x5 x6 y12 _ e13) ?_
      refine r_istore (q := 98) (L' := [some (.inr 1), some (.inr 20), some (.inl x2), some (.inl x3), some (.inl x4), some (.inl x5), some (.inl y14.1), some (.inl x7), some (.inl (mm_b z0))]) dX3_readCondition_96 (by decide) rfl rfl ?_
      refine r_iinc (v := 1) (q := 101) (L' := [some (.inr 1), some (.inr 20), some (.inl x2), some (.inl x3), some (.inl x4), some (.inl x5), some (.inl y14.1), some (.inl (x7 + 1)), some (.inl (mm_b z0))]) dX3_readCondition_98 (by decide) (by decide) rfl rfl rfl ?_
      refine r_goto 30 dX3_readCondition_101 (by decide) ?_
      refine r_forget (L' := [some (.inr 1), some (.inr 20), some (.inl x2), some (.inl x3), some (.inl x4), some (.inl x5), some (.inl y14.1), some (.inl (x7 + 1)), none]) [true, true, true, true, true, true, true, true, false] rfl ?_
      cases h
      have hk := kb _ rfl
      exact hk
    · rw [if_neg c10] at h
      refine r_aload_n (q := 77) dX3_readCondition_76 rfl rfl ?_
      refine r_iload (q := 79) dX3_readCondition_77 rfl rfl ?_
      obtain ⟨y16, e15, h⟩ := Option.bind_eq_some_iff.mp h
      refine r_callV_v (av := [(.inl x6)]) (st := []) (q := 82) (d1 := 0) kc_X3_66 sc_c_20 dX3_readCondition_79 rfl rfl (Nat.le_of_ble_eq_true rfl) (Nat.le_of_ble_eq_true rfl) (by omega) rfl rfl (t_X2_land (d := 0) (by omega) x6 M _ e15) ?_
      refine r_iconst (v := 1) (q := 83) dX3_readCondition_82 (by decide) rfl ?_
      cases h
      have hk := ke _ rfl
      exact r_retb dX3_readCondition_83 rfl (Or.inr rfl) hk
  · rw [if_neg (mm_b0 c9)] at h
    refine r_iconst (v := 0) (q := 66) dX3_readCondition_65 (by decide) rfl ?_
    cases h
    have hk := ke _ rfl
    exact r_retb dX3_readCondition_66 rfl (Or.inl rfl) hk
noncomputable def X3_readCondition_l30 (rec0 : Int32 → Int32 → mm_M → Option (Bool × mm_M)) (rec1 : Int32 → mm_M → Option (Bool × mm_M)) (x2 : Int32) (x3 : Int32) (x4 : Int32) (x5 : Int32) (s : (Int32 × Int32 × mm_M)) : Option ((Int32 × Int32 × mm_M) ⊕ (Bool × mm_M)) := if 240 < s.2.1 then mm_let (X7_fail 1 (s.2.2 1 2) s.2.2) fun y5 => some (.inr (y5.1, y5.2)) else if x3 = 0 then (rec0 x2 1 s.2.2).bind fun y8 => X3_readCondition_j58l30 rec0 rec1 x2 x3 x4 x5 s.1 s.2.1 y8.1 y8.2 else (rec1 x2 s.2.2).bind fun y18 => X3_readCondition_j58l30 rec0 rec1 x2 x3 x4 x5 s.1 s.2.1 y18.1 y18.2
set_option maxRecDepth 100000 in
set_option maxHeartbeats 400000 in
theorem t_X3_readCondition_l30 {D : mm_D} {d : Nat} (hd : 69 ≤ d) {rec0 : Int32 → Int32 → mm_M → Option (Bool × mm_M)} {rec1 : Int32 → mm_M → Option (Bool × mm_M)} {d' : Nat} (hdd : d' < d) (hrec0 : ∀ (w0 w1 : Int32) (M : mm_M) (res : Bool × mm_M), rec0 w0 w1 M = some res → mm_Meth jX3_readCondition d' 0 0 [.inr 1, .inr 20, .inl w0, .inl w1] S_c M (mm_Zi (mm_b res.1) S_c res.2)) (hrec1 : ∀ (w0 : Int32) (M : mm_M) (res : Bool × mm_M), rec1 w0 M = some res → mm_Meth jX3_readTest d' 0 0 [.inr 1, .inr 20, .inl w0] S_c M (mm_Zi (mm_b res.1) S_c res.2)) {Z : Option Int32 → List mm_C → mm_M → Prop} (x2 : Int32) (x3 : Int32) (x4 : Int32) (x5 : Int32) (n : Nat) (s : (Int32 × Int32 × mm_M)) (r : (Bool × mm_M)) (h : mm_loop (X3_readCondition_l30 rec0 rec1 x2 x3 x4 x5) n s = some r) (hx : Z (some (mm_b r.1)) S_c r.2) : mm_Go jX3_readCondition D d 0 0 30 [some (.inr 1), some (.inr 20), some (.inl x2), some (.inl x3), some (.inl x4), some (.inl x5), some (.inl s.1), some (.inl s.2.1), none] [] S_c s.2.2 Z := by
  refine mm_loop_go (step := X3_readCondition_l30 rec0 rec1 x2 x3 x4 x5) (Hd := fun (s : (Int32 × Int32 × mm_M)) => mm_Go jX3_readCondition D d 0 0 30 [some (.inr 1), some (.inr 20), some (.inl x2), some (.inl x3), some (.inl x4), some (.inl x5), some (.inl s.1), some (.inl s.2.1), none] [] S_c s.2.2 Z) (Ex := fun (r : (Bool × mm_M)) => Z (some (mm_b r.1)) S_c r.2) ?_ n s r h hx
  intro s o h kb ke
  show mm_Go jX3_readCondition D d 0 0 30 [some (.inr 1), some (.inr 20), some (.inl x2), some (.inl x3), some (.inl x4), some (.inl x5), some (.inl s.1), some (.inl s.2.1), none] [] S_c s.2.2 Z
  unfold X3_readCondition_l30 at h
  refine r_iload (q := 32) dX3_readCondition_30 rfl rfl ?_
  refine r_sipush (v := 240) (q := 35) dX3_readCondition_32 (by decide) rfl ?_
  refine r_icmp_gt 104 (q := 38) dX3_readCondition_35 (by decide) rfl (fun c3 => ?_) (fun c3 => ?_)
  · rw [if_pos c3] at h
    refine r_aload_n (q := 105) dX3_readCondition_104 rfl rfl ?_
    refine r_iconst (v := 1) (q := 106) dX3_readCondition_105 (by decide) rfl ?_
    refine r_aload_n (q := 107) dX3_readCondition_106 rfl rfl ?_
    refine r_geti (v := (s.2.2 1 2)) (q := 110) lk_X3_30 dX3_readCondition_107 sc_c_1 rfl rfl rfl ?_
    obtain ⟨y5, e4, h⟩ := mm_let_elim h
    refine r_callV_i (av := [(.inl 1), (.inl (s.2.2 1 2))]) (st := []) (q := 113) (d1 := 0) kc_X3_33 sc_c_1 dX3_readCondition_110 rfl rfl (Nat.le_of_ble_eq_true rfl) (Nat.le_of_ble_eq_true rfl) (by omega) rfl rfl (t_X7_fail (d := 0) (by omega) 1 (s.2.2 1 2) s.2.2 _ e4) ?_
    cases h
    have hk := ke _ rfl
    exact r_retb dX3_readCondition_113 rfl (mm_b01 _) hk
  · rw [if_neg c3] at h
    refine r_iload_n (q := 39) dX3_readCondition_38 rfl rfl ?_
    refine r_if_eq 51 (q := 42) dX3_readCondition_39 (by decide) rfl (fun c6 => ?_) (fun c6 => ?_)
    · rw [if_pos c6] at h
      refine r_aload_n (q := 52) dX3_readCondition_51 rfl rfl ?_
      refine r_aload_n (q := 53) dX3_readCondition_52 rfl rfl ?_
      refine r_iload_n (q := 54) dX3_readCondition_53 rfl rfl ?_
      refine r_iconst (v := 1) (q := 55) dX3_readCondition_54 (by decide) rfl ?_
      obtain ⟨y8, e7, h⟩ := Option.bind_eq_some_iff.mp h
      refine r_callS_i (av := [(.inr 1), (.inr 20), (.inl x2), (.inl 1)]) (st := []) (q := 58) (d1 := d') kc_X3_59 dX3_readCondition_55 rfl rfl (Nat.le_of_ble_eq_true rfl) (Nat.le_of_ble_eq_true rfl) (by omega) rfl rfl (hrec0 x2 1 s.2.2 _ e7) ?_
      exact t_X3_readCondition_j58l30 hd hdd hrec0 hrec1 x2 x3 x4 x5 s.1 s.2.1 y8.1 y8.2 _ h kb ke
    · rw [if_neg c6] at h
      refine r_aload_n (q := 43) dX3_readCondition_42 rfl rfl ?_
      refine r_aload_n (q := 44) dX3_readCondition_43 rfl rfl ?_
      refine r_iload_n (q := 45) dX3_readCondition_44 rfl rfl ?_
      obtain ⟨y18, e17, h⟩ := Option.bind_eq_some_iff.mp h
      refine r_callS_i (av := [(.inr 1), (.inr 20), (.inl x2)]) (st := []) (q := 48) (d1 := d') kc_X3_62 dX3_readCondition_45 rfl rfl (Nat.le_of_ble_eq_true rfl) (Nat.le_of_ble_eq_true rfl) (by omega) rfl rfl (hrec1 x2 s.2.2 _ e17) ?_
      refine r_goto 58 dX3_readCondition_48 (by decide) ?_
      exact t_X3_readCondition_j58l30 hd hdd hrec0 hrec1 x2 x3 x4 x5 s.1 s.2.1 y18.1 y18.2 _ h kb ke
noncomputable def X3_readCondition_j22 (rec0 : Int32 → Int32 → mm_M → Option (Bool × mm_M)) (rec1 : Int32 → mm_M → Option (Bool × mm_M)) (x2 : Int32) (x3 : Int32) (x4 : Int32) (z0 : Int32) (M : mm_M) : Option (Bool × mm_M) := (mm_loop (X3_readCondition_l30 rec0 rec1 x2 x3 x4 z0) mm_fuel ((-1), 0, M))
set_option maxRecDepth 100000 in
set_option maxHeartbeats 400000 in
theorem t_X3_readCondition_j22 {D : mm_D} {d : Nat} (hd : 69 ≤ d) {rec0 : Int32 → Int32 → mm_M → Option (Bool × mm_M)} {rec1 : Int32 → mm_M → Option (Bool × mm_M)} {d' : Nat} (hdd : d' < d) (hrec0 : ∀ (w0 w1 : Int32) (M : mm_M) (res : Bool × mm_M), rec0 w0 w1 M = some res → mm_Meth jX3_readCondition d' 0 0 [.inr 1, .inr 20, .inl w0, .inl w1] S_c M (mm_Zi (mm_b res.1) S_c res.2)) (hrec1 : ∀ (w0 : Int32) (M : mm_M) (res : Bool × mm_M), rec1 w0 M = some res → mm_Meth jX3_readTest d' 0 0 [.inr 1, .inr 20, .inl w0] S_c M (mm_Zi (mm_b res.1) S_c res.2)) (x2 : Int32) (x3 : Int32) (x4 : Int32) (z0 : Int32) (M : mm_M) (res : (Bool × mm_M)) (h : X3_readCondition_j22 rec0 rec1 x2 x3 x4 z0 M = some res) : mm_Go jX3_readCondition D d 0 0 22 [some (.inr 1), some (.inr 20), some (.inl x2), some (.inl x3), some (.inl x4), none, none, none, none] [(.inl z0)] S_c M (mm_Zi (mm_b res.1) S_c res.2) := by
  unfold X3_readCondition_j22 at h
  refine r_istore (q := 24) (L' := [some (.inr 1), some (.inr 20), some (.inl x2), some (.inl x3), some (.inl x4), some (.inl z0), none, none, none]) dX3_readCondition_22 (by decide) rfl rfl ?_
  refine r_iconst (v := (-1)) (q := 25) dX3_readCondition_24 (by decide) rfl ?_
  refine r_istore (q := 27) (L' := [some (.inr 1), some (.inr 20), some (.inl x2), some (.inl x3), some (.inl x4), some (.inl z0), some (.inl (-1)), none, none]) dX3_readCondition_25 (by decide) rfl rfl ?_
  refine r_iconst (v := 0) (q := 28) dX3_readCondition_27 (by decide) rfl ?_
  refine r_istore (q := 30) (L' := [some (.inr 1), some (.inr 20), some (.inl x2), some (.inl x3), some (.inl x4), some (.inl z0), some (.inl (-1)), some (.inl 0), none]) dX3_readCondition_28 (by decide) rfl rfl ?_
  exact t_X3_readCondition_l30 hd hdd hrec0 hrec1 x2 x3 x4 z0 mm_fuel ((-1), 0, M) _ h mm_Zi_rfl
noncomputable def X3_readCondition_j11 (rec0 : Int32 → Int32 → mm_M → Option (Bool × mm_M)) (rec1 : Int32 → mm_M → Option (Bool × mm_M)) (x2 : Int32) (x3 : Int32) (z0 : Int32) (M : mm_M) : Option (Bool × mm_M) := if x3 = 0 then X3_readCondition_j22 rec0 rec1 x2 x3 z0 4 M else X3_readCondition_j22 rec0 rec1 x2 x3 z0 5 M
set_option maxRecDepth 100000 in
set_option maxHeartbeats 400000 in
theorem t_X3_readCondition_j11 {D : mm_D} {d : Nat} (hd : 69 ≤ d) {rec0 : Int32 → Int32 → mm_M → Option (Bool × mm_M)} {rec1 : Int32 → mm_M → Option (Bool × mm_M)} {d' : Nat} (hdd : d' < d) (hrec0 : ∀ (w0 w1 : Int32) (M : mm_M) (res : Bool × mm_M), rec0 w0 w1 M = some res → mm_Meth jX3_readCondition d' 0 0 [.inr 1, .inr 20, .inl w0, .inl w1] S_c M (mm_Zi (mm_b res.1) S_c res.2)) (hrec1 : ∀ (w0 : Int32) (M : mm_M) (res : Bool × mm_M), rec1 w0 M = some res → mm_Meth jX3_readTest d' 0 0 [.inr 1, .inr 20, .inl w0] S_c M (mm_Zi (mm_b res.1) S_c res.2)) (x2 : Int32) (x3 : Int32) (z0 : Int32) (M : mm_M) (res : (Bool × mm_M)) (h : X3_readCondition_j11 rec0 rec1 x2 x3 z0 M = some res) : mm_Go jX3_readCondition D d 0 0 11 [some (.inr 1), some (.inr 20), some (.inl x2), some (.inl x3), none, none, none, none, none] [(.inl z0)] S_c M (mm_Zi (mm_b res.1) S_c res.2) := by
  unfold X3_readCondition_j11 at h
  refine r_istore (q := 13) (L' := [some (.inr 1), some (.inr 20), some (.inl x2), some (.inl x3), some (.inl z0), none, none, none, none]) dX3_readCondition_11 (by decide) rfl rfl ?_
  refine r_iload_n (q := 14) dX3_readCondition_13 rfl rfl ?_
  refine r_if_eq 21 (q := 17) dX3_readCondition_14 (by decide) rfl (fun c2 => ?_) (fun c2 => ?_)
  · rw [if_pos c2] at h
    refine r_iconst (v := 4) (q := 22) dX3_readCondition_21 (by decide) rfl ?_
    exact t_X3_readCondition_j22 hd hdd hrec0 hrec1 x2 x3 z0 4 M _ h
  · rw [if_neg c2] at h
    refine r_iconst (v := 5) (q := 18) dX3_readCondition_17 (by decide) rfl ?_
    refine r_goto 22 dX3_readCondition_18 (by decide) ?_
    exact t_X3_readCondition_j22 hd hdd hrec0 hrec1 x2 x3 z0 5 M _ h
noncomputable def X3_readCondition_o (rec0 : Int32 → Int32 → mm_M → Option (Bool × mm_M)) (rec1 : Int32 → mm_M → Option (Bool × mm_M)) (x2 : Int32) (x3 : Int32) (M : mm_M) : Option (Bool × mm_M) := if x3 = 0 then X3_readCondition_j11 rec0 rec1 x2 x3 124 M else X3_readCondition_j11 rec0 rec1 x2 x3 38 M
set_option maxRecDepth 100000 in
set_option maxHeartbeats 400000 in
theorem t_X3_readCondition_o {d : Nat} (hd : 69 ≤ d) {rec0 : Int32 → Int32 → mm_M → Option (Bool × mm_M)} {rec1 : Int32 → mm_M → Option (Bool × mm_M)} {d' : Nat} (hdd : d' < d) (hrec0 : ∀ (w0 w1 : Int32) (M : mm_M) (res : Bool × mm_M), rec0 w0 w1 M = some res → mm_Meth jX3_readCondition d' 0 0 [.inr 1, .inr 20, .inl w0, .inl w1] S_c M (mm_Zi (mm_b res.1) S_c res.2)) (hrec1 : ∀ (w0 : Int32) (M : mm_M) (res : Bool × mm_M), rec1 w0 M = some res → mm_Meth jX3_readTest d' 0 0 [.inr 1, .inr 20, .inl w0] S_c M (mm_Zi (mm_b res.1) S_c res.2)) (x2 : Int32) (x3 : Int32) (M : mm_M) (res : (Bool × mm_M)) (h : X3_readCondition_o rec0 rec1 x2 x3 M = some res) : mm_Meth jX3_readCondition d 0 0 [(.inr 1), (.inr 20), (.inl x2), (.inl x3)] S_c M (mm_Zi (mm_b res.1) S_c res.2) := by
  refine r_meth (L := [some (.inr 1), some (.inr 20), some (.inl x2), some (.inl x3), none, none, none, none, none]) rfl (fun D => ?_)
  unfold X3_readCondition_o at h
  refine r_iload_n (q := 1) dX3_readCondition_0 rfl rfl ?_
  refine r_if_eq 9 (q := 4) dX3_readCondition_1 (by decide) rfl (fun c1 => ?_) (fun c1 => ?_)
  · rw [if_pos c1] at h
    refine r_bipush (v := 124) (q := 11) dX3_readCondition_9 (by decide) rfl ?_
    exact t_X3_readCondition_j11 hd hdd hrec0 hrec1 x2 x3 124 M _ h
  · rw [if_neg c1] at h
    refine r_bipush (v := 38) (q := 6) dX3_readCondition_4 (by decide) rfl ?_
    refine r_goto 11 dX3_readCondition_6 (by decide) ?_
    exact t_X3_readCondition_j11 hd hdd hrec0 hrec1 x2 x3 38 M _ h
noncomputable def X3_readTest_j17 (rec0 : Int32 → Int32 → mm_M → Option (Bool × mm_M)) (rec1 : Int32 → mm_M → Option (Bool × mm_M)) (x2 : Int32) (x3 : Int32) (M : mm_M) : Option (Bool × mm_M) := if x2 < 6 then mm_let (X7_step M) fun y4 => if x3 = 40 then (rec0 (x2 + 1) 0 y4).bind fun y7 => if y7.1 = true then mm_let (X7_take 41 y7.2) fun y10 => if y10.1 = true then some (true, y10.2) else some (false, y10.2) else some (false, y7.2) else (rec1 (x2 + 1) y4).bind fun y13 => if y13.1 = true then mm_let (X2_add 3 0 y13.2) fun y16 => some (true, y16.2) else some (false, y13.2) else mm_let (X7_fail 5 (M 1 2) M) fun y18 => some (y18.1, y18.2)
set_option maxRecDepth 100000 in
set_option maxHeartbeats 400000 in
theorem t_X3_readTest_j17 {D : mm_D} {d : Nat} (hd : 69 ≤ d) {rec0 : Int32 → Int32 → mm_M → Option (Bool × mm_M)} {rec1 : Int32 → mm_M → Option (Bool × mm_M)} {d' : Nat} (hdd : d' < d) (hrec0 : ∀ (w0 w1 : Int32) (M : mm_M) (res : Bool × mm_M), rec0 w0 w1 M = some res → mm_Meth jX3_readCondition d' 0 0 [.inr 1, .inr 20, .inl w0, .inl w1] S_c M (mm_Zi (mm_b res.1) S_c res.2)) (hrec1 : ∀ (w0 : Int32) (M : mm_M) (res : Bool × mm_M), rec1 w0 M = some res → mm_Meth jX3_readTest d' 0 0 [.inr 1, .inr 20, .inl w0] S_c M (mm_Zi (mm_b res.1) S_c res.2)) (x2 : Int32) (x3 : Int32) (M : mm_M) (res : (Bool × mm_M)) (h : X3_readTest_j17 rec0 rec1 x2 x3 M = some res) : mm_Go jX3_readTest D d 0 0 17 [some (.inr 1), some (.inr 20), some (.inl x2), some (.inl x3), none] [] S_c M (mm_Zi (mm_b res.1) S_c res.2) := by
  unfold X3_readTest_j17 at h
  refine r_iload_n (q := 18) dX3_readTest_17 rfl rfl ?_
  refine r_bipush (v := 6) (q := 20) dX3_readTest_18 (by decide) rfl ?_
  refine r_icmp_lt 33 (q := 23) dX3_readTest_20 (by decide) rfl (fun c2 => ?_) (fun c2 => ?_)
  · rw [if_pos c2] at h
    refine r_aload_n (q := 34) dX3_readTest_33 rfl rfl ?_
    obtain ⟨y4, e3, h⟩ := mm_let_elim h
    refine r_callV_v (av := []) (st := []) (q := 37) (d1 := 0) kc_X3_41 sc_c_1 dX3_readTest_34 rfl rfl (Nat.le_of_ble_eq_true rfl) (Nat.le_of_ble_eq_true rfl) (by omega) rfl rfl (t_X7_step (d := 0) (by omega) M _ e3) ?_
    refine r_iload_n (q := 38) dX3_readTest_37 rfl rfl ?_
    refine r_bipush (v := 40) (q := 40) dX3_readTest_38 (by decide) rfl ?_
    refine r_icmp_ne 70 (q := 43) dX3_readTest_40 (by decide) rfl (fun c5 => ?_) (fun c5 => ?_)
    · rw [if_neg c5] at h
      refine r_aload_n (q := 71) dX3_readTest_70 rfl rfl ?_
      refine r_aload_n (q := 72) dX3_readTest_71 rfl rfl ?_
      refine r_iload_n (q := 73) dX3_readTest_72 rfl rfl ?_
      refine r_iconst (v := 1) (q := 74) dX3_readTest_73 (by decide) rfl ?_
      refine r_iadd (q := 75) dX3_readTest_74 rfl ?_
      obtain ⟨y13, e12, h⟩ := Option.bind_eq_some_iff.mp h
      refine r_callS_i (av := [(.inr 1), (.inr 20), (.inl (x2 + 1))]) (st := []) (q := 78) (d1 := d') kc_X3_62 dX3_readTest_75 rfl rfl (Nat.le_of_ble_eq_true rfl) (Nat.le_of_ble_eq_true rfl) (by omega) rfl rfl (hrec1 (x2 + 1) y4 _ e12) ?_
      refine r_if_ne 83 (q := 81) dX3_readTest_78 (by decide) rfl (fun c14 => ?_) (fun c14 => ?_)
      · rw [if_pos (mm_b1 c14)] at h
        refine r_aload_n (q := 84) dX3_readTest_83 rfl rfl ?_
        refine r_iconst (v := 3) (q := 85) dX3_readTest_84 (by decide) rfl ?_
        refine r_iconst (v := 0) (q := 86) dX3_readTest_85 (by decide) rfl ?_
        obtain ⟨y16, e15, h⟩ := mm_let_elim h
        refine r_callV_i (av := [(.inl 3), (.inl 0)]) (st := []) (q := 89) (d1 := 0) kc_X3_52 sc_c_20 dX3_readTest_86 rfl rfl (Nat.le_of_ble_eq_true rfl) (Nat.le_of_ble_eq_true rfl) (by omega) rfl rfl (t_X2_add (d := 0) (by omega) 3 0 y13.2 _ e15) ?_
        refine r_pop (q := 90) dX3_readTest_89 rfl ?_
        refine r_iconst (v := 1) (q := 91) dX3_readTest_90 (by decide) rfl ?_
        cases h
        exact r_retb dX3_readTest_91 rfl (Or.inr rfl) mm_Zi_rfl
      · rw [if_neg (mm_b0 c14)] at h
        refine r_iconst (v := 0) (q := 82) dX3_readTest_81 (by decide) rfl ?_
        cases h
        exact r_retb dX3_readTest_82 rfl (Or.inl rfl) mm_Zi_rfl
    · rw [if_pos c5] at h
      refine r_aload_n (q := 44) dX3_readTest_43 rfl rfl ?_
      refine r_aload_n (q := 45) dX3_readTest_44 rfl rfl ?_
      refine r_iload_n (q := 46) dX3_readTest_45 rfl rfl ?_
      refine r_iconst (v := 1) (q := 47) dX3_readTest_46 (by decide) rfl ?_
      refine r_iadd (q := 48) dX3_readTest_47 rfl ?_
      refine r_iconst (v := 0) (q := 49) dX3_readTest_48 (by decide) rfl ?_
      obtain ⟨y7, e6, h⟩ := Option.bind_eq_some_iff.mp h
      refine r_callS_i (av := [(.inr 1), (.inr 20), (.inl (x2 + 1)), (.inl 0)]) (st := []) (q := 52) (d1 := d') kc_X3_59 dX3_readTest_49 rfl rfl (Nat.le_of_ble_eq_true rfl) (Nat.le_of_ble_eq_true rfl) (by omega) rfl rfl (hrec0 (x2 + 1) 0 y4 _ e6) ?_
      refine r_if_eq 68 (q := 55) dX3_readTest_52 (by decide) rfl (fun c8 => ?_) (fun c8 => ?_)
      · rw [if_neg (mm_b0 c8)] at h
        refine r_iconst (v := 0) (q := 69) dX3_readTest_68 (by decide) rfl ?_
        cases h
        exact r_retb dX3_readTest_69 rfl (Or.inl rfl) mm_Zi_rfl
      · rw [if_pos (mm_b1 c8)] at h
        refine r_aload_n (q := 56) dX3_readTest_55 rfl rfl ?_
        refine r_bipush (v := 41) (q := 58) dX3_readTest_56 (by decide) rfl ?_
        obtain ⟨y10, e9, h⟩ := mm_let_elim h
        refine r_callV_i (av := [(.inl 41)]) (st := []) (q := 61) (d1 := 1) kc_X3_26 sc_c_1 dX3_readTest_58 rfl rfl (Nat.le_of_ble_eq_true rfl) (Nat.le_of_ble_eq_true rfl) (by omega) rfl rfl (t_X7_take (d := 1) (by omega) 41 y7.2 _ e9) ?_
        refine r_if_eq 68 (q := 64) dX3_readTest_61 (by decide) rfl (fun c11 => ?_) (fun c11 => ?_)
        · rw [if_neg (mm_b0 c11)] at h
          refine r_iconst (v := 0) (q := 69) dX3_readTest_68 (by decide) rfl ?_
          cases h
          exact r_retb dX3_readTest_69 rfl (Or.inl rfl) mm_Zi_rfl
        · rw [if_pos (mm_b1 c11)] at h
          refine r_iconst (v := 1) (q := 65) dX3_readTest_64 (by decide) rfl ?_
          refine r_goto 69 dX3_readTest_65 (by decide) ?_
          cases h
          exact r_retb dX3_readTest_69 rfl (Or.inr rfl) mm_Zi_rfl
  · rw [if_neg c2] at h
    refine r_aload_n (q := 24) dX3_readTest_23 rfl rfl ?_
    refine r_iconst (v := 5) (q := 25) dX3_readTest_24 (by decide) rfl ?_
    refine r_aload_n (q := 26) dX3_readTest_25 rfl rfl ?_
    refine r_geti (v := (M 1 2)) (q := 29) lk_X3_30 dX3_readTest_26 sc_c_1 rfl rfl rfl ?_
    obtain ⟨y18, e17, h⟩ := mm_let_elim h
    refine r_callV_i (av := [(.inl 5), (.inl (M 1 2))]) (st := []) (q := 32) (d1 := 0) kc_X3_33 sc_c_1 dX3_readTest_29 rfl rfl (Nat.le_of_ble_eq_true rfl) (Nat.le_of_ble_eq_true rfl) (by omega) rfl rfl (t_X7_fail (d := 0) (by omega) 5 (M 1 2) M _ e17) ?_
    cases h
    exact r_retb dX3_readTest_32 rfl (mm_b01 _) mm_Zi_rfl
noncomputable def X3_readTest_j141 (rec0 : Int32 → Int32 → mm_M → Option (Bool × mm_M)) (rec1 : Int32 → mm_M → Option (Bool × mm_M)) (x2 : Int32) (x4 : Int32) (M : mm_M) : Option (Bool × mm_M) := mm_let (X7_step M) fun y25 => (X3_readNumber 60 x2 0 y25).bind fun y27 => if y27.1 = true then mm_let (X2_add x4 0 y27.2) fun y30 => some (true, y30.2) else some (false, y27.2)
set_option maxRecDepth 100000 in
set_option maxHeartbeats 400000 in
theorem t_X3_readTest_j141 {D : mm_D} {d : Nat} (hd : 69 ≤ d) {rec0 : Int32 → Int32 → mm_M → Option (Bool × mm_M)} {rec1 : Int32 → mm_M → Option (Bool × mm_M)} {d' : Nat} (hdd : d' < d) (hrec0 : ∀ (w0 w1 : Int32) (M : mm_M) (res : Bool × mm_M), rec0 w0 w1 M = some res → mm_Meth jX3_readCondition d' 0 0 [.inr 1, .inr 20, .inl w0, .inl w1] S_c M (mm_Zi (mm_b res.1) S_c res.2)) (hrec1 : ∀ (w0 : Int32) (M : mm_M) (res : Bool × mm_M), rec1 w0 M = some res → mm_Meth jX3_readTest d' 0 0 [.inr 1, .inr 20, .inl w0] S_c M (mm_Zi (mm_b res.1) S_c res.2)) (x2 : Int32) (x4 : Int32) (M : mm_M) (res : (Bool × mm_M)) (h : X3_readTest_j141 rec0 rec1 x2 x4 M = some res) : mm_Go jX3_readTest D d 0 0 141 [some (.inr 1), some (.inr 20), some (.inl x2), none, some (.inl x4)] [] S_c M (mm_Zi (mm_b res.1) S_c res.2) := by
  unfold X3_readTest_j141 at h
  refine r_aload_n (q := 142) dX3_readTest_141 rfl rfl ?_
  obtain ⟨y25, e24, h⟩ := mm_let_elim h
  refine r_callV_v (av := []) (st := []) (q := 145) (d1 := 0) kc_X3_41 sc_c_1 dX3_readTest_142 rfl rfl (Nat.le_of_ble_eq_true rfl) (Nat.le_of_ble_eq_true rfl) (by omega) rfl rfl (t_X7_step (d := 0) (by omega) M _ e24) ?_
  refine r_aload_n (q := 146) dX3_readTest_145 rfl rfl ?_
  refine r_aload_n (q := 147) dX3_readTest_146 rfl rfl ?_
  refine r_iload_n (q := 148) dX3_readTest_147 rfl rfl ?_
  refine r_iconst (v := 0) (q := 149) dX3_readTest_148 (by decide) rfl ?_
  obtain ⟨y27, e26, h⟩ := Option.bind_eq_some_iff.mp h
  refine r_callS_i (av := [(.inr 1), (.inr 20), (.inl x2), (.inl 0)]) (st := []) (q := 152) (d1 := 68) kc_X3_48 dX3_readTest_149 rfl rfl (Nat.le_of_ble_eq_true rfl) (Nat.le_of_ble_eq_true rfl) (by omega) rfl rfl (t_X3_readNumber (d := 68) (by omega) x2 0 y25 _ e26) ?_
  refine r_if_ne 157 (q := 155) dX3_readTest_152 (by decide) rfl (fun c28 => ?_) (fun c28 => ?_)
  · rw [if_pos (mm_b1 c28)] at h
    refine r_aload_n (q := 158) dX3_readTest_157 rfl rfl ?_
    refine r_iload (q := 160) dX3_readTest_158 rfl rfl ?_
    refine r_iconst (v := 0) (q := 161) dX3_readTest_160 (by decide) rfl ?_
    obtain ⟨y30, e29, h⟩ := mm_let_elim h
    refine r_callV_i (av := [(.inl x4), (.inl 0)]) (st := []) (q := 164) (d1 := 0) kc_X3_52 sc_c_20 dX3_readTest_161 rfl rfl (Nat.le_of_ble_eq_true rfl) (Nat.le_of_ble_eq_true rfl) (by omega) rfl rfl (t_X2_add (d := 0) (by omega) x4 0 y27.2 _ e29) ?_
    refine r_pop (q := 165) dX3_readTest_164 rfl ?_
    refine r_iconst (v := 1) (q := 166) dX3_readTest_165 (by decide) rfl ?_
    cases h
    exact r_retb dX3_readTest_166 rfl (Or.inr rfl) mm_Zi_rfl
  · rw [if_neg (mm_b0 c28)] at h
    refine r_iconst (v := 0) (q := 156) dX3_readTest_155 (by decide) rfl ?_
    cases h
    exact r_retb dX3_readTest_156 rfl (Or.inl rfl) mm_Zi_rfl
noncomputable def X3_readTest_o (rec0 : Int32 → Int32 → mm_M → Option (Bool × mm_M)) (rec1 : Int32 → mm_M → Option (Bool × mm_M)) (x2 : Int32) (M : mm_M) : Option (Bool × mm_M) := if (M 1 4) = 33 then X3_readTest_j17 rec0 rec1 x2 (M 1 4) M else if (M 1 4) = 40 then X3_readTest_j17 rec0 rec1 x2 (M 1 4) M else (X3_readNumber 60 x2 0 M).bind fun y21 => if y21.1 = true then if (y21.2 1 4) = 60 then X3_readTest_j141 rec0 rec1 x2 (y21.2 1 4) y21.2 else if (y21.2 1 4) = 62 then X3_readTest_j141 rec0 rec1 x2 (y21.2 1 4) y21.2 else if (y21.2 1 4) = 61 then X3_readTest_j141 rec0 rec1 x2 (y21.2 1 4) y21.2 else mm_let (X7_fail 1 (y21.2 1 2) y21.2) fun y34 => some (y34.1, y34.2) else some (false, y21.2)
set_option maxRecDepth 100000 in
set_option maxHeartbeats 400000 in
theorem t_X3_readTest_o {d : Nat} (hd : 69 ≤ d) {rec0 : Int32 → Int32 → mm_M → Option (Bool × mm_M)} {rec1 : Int32 → mm_M → Option (Bool × mm_M)} {d' : Nat} (hdd : d' < d) (hrec0 : ∀ (w0 w1 : Int32) (M : mm_M) (res : Bool × mm_M), rec0 w0 w1 M = some res → mm_Meth jX3_readCondition d' 0 0 [.inr 1, .inr 20, .inl w0, .inl w1] S_c M (mm_Zi (mm_b res.1) S_c res.2)) (hrec1 : ∀ (w0 : Int32) (M : mm_M) (res : Bool × mm_M), rec1 w0 M = some res → mm_Meth jX3_readTest d' 0 0 [.inr 1, .inr 20, .inl w0] S_c M (mm_Zi (mm_b res.1) S_c res.2)) (x2 : Int32) (M : mm_M) (res : (Bool × mm_M)) (h : X3_readTest_o rec0 rec1 x2 M = some res) : mm_Meth jX3_readTest d 0 0 [(.inr 1), (.inr 20), (.inl x2)] S_c M (mm_Zi (mm_b res.1) S_c res.2) := by
  refine r_meth (L := [some (.inr 1), some (.inr 20), some (.inl x2), none, none]) rfl (fun D => ?_)
  unfold X3_readTest_o at h
  refine r_aload_n (q := 1) dX3_readTest_0 rfl rfl ?_
  refine r_geti (v := (M 1 4)) (q := 4) lk_X3_20 dX3_readTest_1 sc_c_1 rfl rfl rfl ?_
  refine r_istore_n (q := 5) (L' := [some (.inr 1), some (.inr 20), some (.inl x2), some (.inl (M 1 4)), none]) dX3_readTest_4 (by decide) rfl rfl ?_
  refine r_iload_n (q := 6) dX3_readTest_5 rfl rfl ?_
  refine r_bipush (v := 33) (q := 8) dX3_readTest_6 (by decide) rfl ?_
  refine r_icmp_eq 17 (q := 11) dX3_readTest_8 (by decide) rfl (fun c1 => ?_) (fun c1 => ?_)
  · rw [if_pos c1] at h
    exact t_X3_readTest_j17 hd hdd hrec0 hrec1 x2 (M 1 4) M _ h
  · rw [if_neg c1] at h
    refine r_iload_n (q := 12) dX3_readTest_11 rfl rfl ?_
    refine r_bipush (v := 40) (q := 14) dX3_readTest_12 (by decide) rfl ?_
    refine r_icmp_ne 92 (q := 17) dX3_readTest_14 (by decide) rfl (fun c19 => ?_) (fun c19 => ?_)
    · rw [if_neg c19] at h
      refine r_aload_n (q := 93) dX3_readTest_92 rfl rfl ?_
      refine r_aload_n (q := 94) dX3_readTest_93 rfl rfl ?_
      refine r_iload_n (q := 95) dX3_readTest_94 rfl rfl ?_
      refine r_iconst (v := 0) (q := 96) dX3_readTest_95 (by decide) rfl ?_
      obtain ⟨y21, e20, h⟩ := Option.bind_eq_some_iff.mp h
      refine r_callS_i (av := [(.inr 1), (.inr 20), (.inl x2), (.inl 0)]) (st := []) (q := 99) (d1 := 68) kc_X3_48 dX3_readTest_96 rfl rfl (Nat.le_of_ble_eq_true rfl) (Nat.le_of_ble_eq_true rfl) (by omega) rfl rfl (t_X3_readNumber (d := 68) (by omega) x2 0 M _ e20) ?_
      refine r_if_ne 104 (q := 102) dX3_readTest_99 (by decide) rfl (fun c22 => ?_) (fun c22 => ?_)
      · rw [if_pos (mm_b1 c22)] at h
        refine r_aload_n (q := 105) dX3_readTest_104 rfl rfl ?_
        refine r_geti (v := (y21.2 1 4)) (q := 108) lk_X3_20 dX3_readTest_105 sc_c_1 rfl rfl rfl ?_
        refine r_istore (q := 110) (L' := [some (.inr 1), some (.inr 20), some (.inl x2), some (.inl (M 1 4)), some (.inl (y21.2 1 4))]) dX3_readTest_108 (by decide) rfl rfl ?_
        refine r_iload (q := 112) dX3_readTest_110 rfl rfl ?_
        refine r_bipush (v := 60) (q := 114) dX3_readTest_112 (by decide) rfl ?_
        refine r_icmp_eq 141 (q := 117) dX3_readTest_114 (by decide) rfl (fun c23 => ?_) (fun c23 => ?_)
        · rw [if_pos c23] at h
          refine r_forget (L' := [some (.inr 1), some (.inr 20), some (.inl x2), none, some (.inl (y21.2 1 4))]) [true, true, true, false, true] rfl ?_
          exact t_X3_readTest_j141 hd hdd hrec0 hrec1 x2 (y21.2 1 4) y21.2 _ h
        · rw [if_neg c23] at h
          refine r_iload (q := 119) dX3_readTest_117 rfl rfl ?_
          refine r_bipush (v := 62) (q := 121) dX3_readTest_119 (by decide) rfl ?_
          refine r_icmp_eq 141 (q := 124) dX3_readTest_121 (by decide) rfl (fun c31 => ?_) (fun c31 => ?_)
          · rw [if_pos c31] at h
            refine r_forget (L' := [some (.inr 1), some (.inr 20), some (.inl x2), none, some (.inl (y21.2 1 4))]) [true, true, true, false, true] rfl ?_
            exact t_X3_readTest_j141 hd hdd hrec0 hrec1 x2 (y21.2 1 4) y21.2 _ h
          · rw [if_neg c31] at h
            refine r_iload (q := 126) dX3_readTest_124 rfl rfl ?_
            refine r_bipush (v := 61) (q := 128) dX3_readTest_126 (by decide) rfl ?_
            refine r_icmp_eq 141 (q := 131) dX3_readTest_128 (by decide) rfl (fun c32 => ?_) (fun c32 => ?_)
            · rw [if_pos c32] at h
              refine r_forget (L' := [some (.inr 1), some (.inr 20), some (.inl x2), none, some (.inl (y21.2 1 4))]) [true, true, true, false, true] rfl ?_
              exact t_X3_readTest_j141 hd hdd hrec0 hrec1 x2 (y21.2 1 4) y21.2 _ h
            · rw [if_neg c32] at h
              refine r_aload_n (q := 132) dX3_readTest_131 rfl rfl ?_
              refine r_iconst (v := 1) (q := 133) dX3_readTest_132 (by decide) rfl ?_
              refine r_aload_n (q := 134) dX3_readTest_133 rfl rfl ?_
              refine r_geti (v := (y21.2 1 2)) (q := 137) lk_X3_30 dX3_readTest_134 sc_c_1 rfl rfl rfl ?_
              obtain ⟨y34, e33, h⟩ := mm_let_elim h
              refine r_callV_i (av := [(.inl 1), (.inl (y21.2 1 2))]) (st := []) (q := 140) (d1 := 0) kc_X3_33 sc_c_1 dX3_readTest_137 rfl rfl (Nat.le_of_ble_eq_true rfl) (Nat.le_of_ble_eq_true rfl) (by omega) rfl rfl (t_X7_fail (d := 0) (by omega) 1 (y21.2 1 2) y21.2 _ e33) ?_
              cases h
              exact r_retb dX3_readTest_140 rfl (mm_b01 _) mm_Zi_rfl
      · rw [if_neg (mm_b0 c22)] at h
        refine r_iconst (v := 0) (q := 103) dX3_readTest_102 (by decide) rfl ?_
        cases h
        exact r_retb dX3_readTest_103 rfl (Or.inl rfl) mm_Zi_rfl
    · rw [if_pos c19] at h
      exact t_X3_readTest_j17 hd hdd hrec0 hrec1 x2 (M 1 4) M _ h
noncomputable def rc_X3_readCondition : Nat → (Int32 → Int32 → mm_M → Option (Bool × mm_M)) × (Int32 → mm_M → Option (Bool × mm_M))
  | 0 => (fun _ _ _ => none, fun _ _ => none)
  | n + 1 => (X3_readCondition_o ((rc_X3_readCondition n).1) ((rc_X3_readCondition n).2), X3_readTest_o ((rc_X3_readCondition n).1) ((rc_X3_readCondition n).2))
noncomputable def X3_readCondition (n : Nat) := (rc_X3_readCondition n).1
noncomputable def X3_readTest (n : Nat) := (rc_X3_readCondition n).2
theorem t_rc_X3_readCondition : ∀ (n d : Nat), 69 + n ≤ d → (∀ (x2 x3 : Int32) (M : mm_M) (res : Bool × mm_M), (rc_X3_readCondition n).1 x2 x3 M = some res → mm_Meth jX3_readCondition d 0 0 [(.inr 1), (.inr 20), (.inl x2), (.inl x3)] S_c M (mm_Zi (mm_b res.1) S_c res.2)) ∧ (∀ (x2 : Int32) (M : mm_M) (res : Bool × mm_M), (rc_X3_readCondition n).2 x2 M = some res → mm_Meth jX3_readTest d 0 0 [(.inr 1), (.inr 20), (.inl x2)] S_c M (mm_Zi (mm_b res.1) S_c res.2)) := by
  intro n
  induction n with
  | zero => intro d hd; exact ⟨by intros; contradiction, by intros; contradiction⟩
  | succ n ih =>
    intro d hd
    have hr := ih (d - 1) (by omega)
    refine ⟨?_, ?_⟩
    · intro x2 x3 M res h; exact t_X3_readCondition_o (d := d) (by omega) (d' := d - 1) (by omega) hr.1 hr.2 x2 x3 M res h
    · intro x2 M res h; exact t_X3_readTest_o (d := d) (by omega) (d' := d - 1) (by omega) hr.1 hr.2 x2 M res h
theorem t_X3_readCondition {n d : Nat} (hd : 69 + n ≤ d) (x2 : Int32) (x3 : Int32) (M : mm_M) (res : Bool × mm_M) (h : X3_readCondition n x2 x3 M = some res) : mm_Meth jX3_readCondition d 0 0 [(.inr 1), (.inr 20), (.inl x2), (.inl x3)] S_c M (mm_Zi (mm_b res.1) S_c res.2) := (t_rc_X3_readCondition n d hd).1 x2 x3 M res h
theorem t_X3_readTest {n d : Nat} (hd : 69 + n ≤ d) (x2 : Int32) (M : mm_M) (res : Bool × mm_M) (h : X3_readTest n x2 M = some res) : mm_Meth jX3_readTest d 0 0 [(.inr 1), (.inr 20), (.inl x2)] S_c M (mm_Zi (mm_b res.1) S_c res.2) := (t_rc_X3_readCondition n d hd).2 x2 M res h
noncomputable def X3_readRule_j84 (M : mm_M) : Option (Bool × mm_M) := (X2_beginTest M).bind fun y11 => mm_let (X7_take 40 y11) fun y13 => if y13.1 = true then (X3_readCondition 60 1 0 y13.2).bind fun y16 => if y16.1 = true then mm_let (X7_take 41 y16.2) fun y19 => if y19.1 = true then mm_let (X2_add 0 0 y19.2) fun y22 => some (true, y22.2) else some (false, y19.2) else some (false, y16.2) else some (false, y13.2)
set_option maxRecDepth 100000 in
set_option maxHeartbeats 400000 in
theorem t_X3_readRule_j84 {D : mm_D} {d : Nat} (hd : 130 ≤ d) (M : mm_M) (res : (Bool × mm_M)) (h : X3_readRule_j84 M = some res) : mm_Go jX3_readRule D d 0 0 84 [some (.inr 1), some (.inr 20), none] [] S_c M (mm_Zi (mm_b res.1) S_c res.2) := by
  unfold X3_readRule_j84 at h
  refine r_aload_n (q := 85) dX3_readRule_84 rfl rfl ?_
  obtain ⟨y11, e10, h⟩ := Option.bind_eq_some_iff.mp h
  refine r_callV_v (av := []) (st := []) (q := 88) (d1 := 0) kc_X3_56 sc_c_20 dX3_readRule_85 rfl rfl (Nat.le_of_ble_eq_true rfl) (Nat.le_of_ble_eq_true rfl) (by omega) rfl rfl (t_X2_beginTest (d := 0) (by omega) M _ e10) ?_
  refine r_aload_n (q := 89) dX3_readRule_88 rfl rfl ?_
  refine r_bipush (v := 40) (q := 91) dX3_readRule_89 (by decide) rfl ?_
  obtain ⟨y13, e12, h⟩ := mm_let_elim h
  refine r_callV_i (av := [(.inl 40)]) (st := []) (q := 94) (d1 := 1) kc_X3_26 sc_c_1 dX3_readRule_91 rfl rfl (Nat.le_of_ble_eq_true rfl) (Nat.le_of_ble_eq_true rfl) (by omega) rfl rfl (t_X7_take (d := 1) (by omega) 40 y11 _ e12) ?_
  refine r_if_eq 116 (q := 97) dX3_readRule_94 (by decide) rfl (fun c14 => ?_) (fun c14 => ?_)
  · rw [if_neg (mm_b0 c14)] at h
    refine r_iconst (v := 0) (q := 117) dX3_readRule_116 (by decide) rfl ?_
    cases h
    exact r_retb dX3_readRule_117 rfl (Or.inl rfl) mm_Zi_rfl
  · rw [if_pos (mm_b1 c14)] at h
    refine r_aload_n (q := 98) dX3_readRule_97 rfl rfl ?_
    refine r_aload_n (q := 99) dX3_readRule_98 rfl rfl ?_
    refine r_iconst (v := 1) (q := 100) dX3_readRule_99 (by decide) rfl ?_
    refine r_iconst (v := 0) (q := 101) dX3_readRule_100 (by decide) rfl ?_
    obtain ⟨y16, e15, h⟩ := Option.bind_eq_some_iff.mp h
    refine r_callS_i (av := [(.inr 1), (.inr 20), (.inl 1), (.inl 0)]) (st := []) (q := 104) (d1 := 129) kc_X3_59 dX3_readRule_101 rfl rfl (Nat.le_of_ble_eq_true rfl) (Nat.le_of_ble_eq_true rfl) (by omega) rfl rfl (t_X3_readCondition (d := 129) (by omega) 1 0 y13.2 _ e15) ?_
    refine r_if_eq 116 (q := 107) dX3_readRule_104 (by decide) rfl (fun c17 => ?_) (fun c17 => ?_)
    · rw [if_neg (mm_b0 c17)] at h
      refine r_iconst (v := 0) (q := 117) dX3_readRule_116 (by decide) rfl ?_
      cases h
      exact r_retb dX3_readRule_117 rfl (Or.inl rfl) mm_Zi_rfl
    · rw [if_pos (mm_b1 c17)] at h
      refine r_aload_n (q := 108) dX3_readRule_107 rfl rfl ?_
      refine r_bipush (v := 41) (q := 110) dX3_readRule_108 (by decide) rfl ?_
      obtain ⟨y19, e18, h⟩ := mm_let_elim h
      refine r_callV_i (av := [(.inl 41)]) (st := []) (q := 113) (d1 := 1) kc_X3_26 sc_c_1 dX3_readRule_110 rfl rfl (Nat.le_of_ble_eq_true rfl) (Nat.le_of_ble_eq_true rfl) (by omega) rfl rfl (t_X7_take (d := 1) (by omega) 41 y16.2 _ e18) ?_
      refine r_if_ne 118 (q := 116) dX3_readRule_113 (by decide) rfl (fun c20 => ?_) (fun c20 => ?_)
      · rw [if_pos (mm_b1 c20)] at h
        refine r_aload_n (q := 119) dX3_readRule_118 rfl rfl ?_
        refine r_iconst (v := 0) (q := 120) dX3_readRule_119 (by decide) rfl ?_
        refine r_iconst (v := 0) (q := 121) dX3_readRule_120 (by decide) rfl ?_
        obtain ⟨y22, e21, h⟩ := mm_let_elim h
        refine r_callV_i (av := [(.inl 0), (.inl 0)]) (st := []) (q := 124) (d1 := 0) kc_X3_52 sc_c_20 dX3_readRule_121 rfl rfl (Nat.le_of_ble_eq_true rfl) (Nat.le_of_ble_eq_true rfl) (by omega) rfl rfl (t_X2_add (d := 0) (by omega) 0 0 y19.2 _ e21) ?_
        refine r_pop (q := 125) dX3_readRule_124 rfl ?_
        refine r_iconst (v := 1) (q := 126) dX3_readRule_125 (by decide) rfl ?_
        cases h
        exact r_retb dX3_readRule_126 rfl (Or.inr rfl) mm_Zi_rfl
      · rw [if_neg (mm_b0 c20)] at h
        refine r_iconst (v := 0) (q := 117) dX3_readRule_116 (by decide) rfl ?_
        cases h
        exact r_retb dX3_readRule_117 rfl (Or.inl rfl) mm_Zi_rfl
noncomputable def X3_readRule_j33 (x2 : Int32) (M : mm_M) : Option (Bool × mm_M) := if (X2_isFull M) = true then mm_let (X7_fail 4 (M 1 2) M) fun y4 => some (y4.1, y4.2) else mm_let (X7_step M) fun y6 => mm_let (X2_beginRule x2 y6) fun y8 => if x2 = 120 then X3_readRule_j84 y8 else (X3_readNumber 60 0 0 y8).bind fun y24 => if y24.1 = true then mm_let (X2_add 0 0 y24.2) fun y27 => X3_readRule_j84 y27.2 else some (false, y24.2)
set_option maxRecDepth 100000 in
set_option maxHeartbeats 400000 in
theorem t_X3_readRule_j33 {D : mm_D} {d : Nat} (hd : 130 ≤ d) (x2 : Int32) (M : mm_M) (res : (Bool × mm_M)) (h : X3_readRule_j33 x2 M = some res) : mm_Go jX3_readRule D d 0 0 33 [some (.inr 1), some (.inr 20), some (.inl x2)] [] S_c M (mm_Zi (mm_b res.1) S_c res.2) := by
  unfold X3_readRule_j33 at h
  refine r_aload_n (q := 34) dX3_readRule_33 rfl rfl ?_
  refine r_callV_i (av := []) (st := []) (q := 37) (d1 := 0) kc_X3_37 sc_c_20 dX3_readRule_34 rfl rfl (Nat.le_of_ble_eq_true rfl) (Nat.le_of_ble_eq_true rfl) (by omega) rfl rfl (t_X2_isFull (d := 0) (by omega) M _ rfl) ?_
  refine r_if_eq 50 (q := 40) dX3_readRule_37 (by decide) rfl (fun c2 => ?_) (fun c2 => ?_)
  · rw [if_neg (mm_b0 c2)] at h
    refine r_aload_n (q := 51) dX3_readRule_50 rfl rfl ?_
    obtain ⟨y6, e5, h⟩ := mm_let_elim h
    refine r_callV_v (av := []) (st := []) (q := 54) (d1 := 0) kc_X3_41 sc_c_1 dX3_readRule_51 rfl rfl (Nat.le_of_ble_eq_true rfl) (Nat.le_of_ble_eq_true rfl) (by omega) rfl rfl (t_X7_step (d := 0) (by omega) M _ e5) ?_
    refine r_aload_n (q := 55) dX3_readRule_54 rfl rfl ?_
    refine r_iload_n (q := 56) dX3_readRule_55 rfl rfl ?_
    obtain ⟨y8, e7, h⟩ := mm_let_elim h
    refine r_callV_v (av := [(.inl x2)]) (st := []) (q := 59) (d1 := 0) kc_X3_44 sc_c_20 dX3_readRule_56 rfl rfl (Nat.le_of_ble_eq_true rfl) (Nat.le_of_ble_eq_true rfl) (by omega) rfl rfl (t_X2_beginRule (d := 0) (by omega) x2 y6 _ e7) ?_
    refine r_iload_n (q := 60) dX3_readRule_59 rfl rfl ?_
    refine r_bipush (v := 120) (q := 62) dX3_readRule_60 (by decide) rfl ?_
    refine r_icmp_eq 84 (q := 65) dX3_readRule_62 (by decide) rfl (fun c9 => ?_) (fun c9 => ?_)
    · rw [if_pos c9] at h
      refine r_forget (L' := [some (.inr 1), some (.inr 20), none]) [true, true, false] rfl ?_
      exact t_X3_readRule_j84 hd y8 _ h
    · rw [if_neg c9] at h
      refine r_aload_n (q := 66) dX3_readRule_65 rfl rfl ?_
      refine r_aload_n (q := 67) dX3_readRule_66 rfl rfl ?_
      refine r_iconst (v := 0) (q := 68) dX3_readRule_67 (by decide) rfl ?_
      refine r_iconst (v := 0) (q := 69) dX3_readRule_68 (by decide) rfl ?_
      obtain ⟨y24, e23, h⟩ := Option.bind_eq_some_iff.mp h
      refine r_callS_i (av := [(.inr 1), (.inr 20), (.inl 0), (.inl 0)]) (st := []) (q := 72) (d1 := 68) kc_X3_48 dX3_readRule_69 rfl rfl (Nat.le_of_ble_eq_true rfl) (Nat.le_of_ble_eq_true rfl) (by omega) rfl rfl (t_X3_readNumber (d := 68) (by omega) 0 0 y8 _ e23) ?_
      refine r_if_ne 77 (q := 75) dX3_readRule_72 (by decide) rfl (fun c25 => ?_) (fun c25 => ?_)
      · rw [if_pos (mm_b1 c25)] at h
        refine r_aload_n (q := 78) dX3_readRule_77 rfl rfl ?_
        refine r_iconst (v := 0) (q := 79) dX3_readRule_78 (by decide) rfl ?_
        refine r_iconst (v := 0) (q := 80) dX3_readRule_79 (by decide) rfl ?_
        obtain ⟨y27, e26, h⟩ := mm_let_elim h
        refine r_callV_i (av := [(.inl 0), (.inl 0)]) (st := []) (q := 83) (d1 := 0) kc_X3_52 sc_c_20 dX3_readRule_80 rfl rfl (Nat.le_of_ble_eq_true rfl) (Nat.le_of_ble_eq_true rfl) (by omega) rfl rfl (t_X2_add (d := 0) (by omega) 0 0 y24.2 _ e26) ?_
        refine r_pop (q := 84) dX3_readRule_83 rfl ?_
        refine r_forget (L' := [some (.inr 1), some (.inr 20), none]) [true, true, false] rfl ?_
        exact t_X3_readRule_j84 hd y27.2 _ h
      · rw [if_neg (mm_b0 c25)] at h
        refine r_iconst (v := 0) (q := 76) dX3_readRule_75 (by decide) rfl ?_
        cases h
        exact r_retb dX3_readRule_76 rfl (Or.inl rfl) mm_Zi_rfl
  · rw [if_pos (mm_b1 c2)] at h
    refine r_aload_n (q := 41) dX3_readRule_40 rfl rfl ?_
    refine r_iconst (v := 4) (q := 42) dX3_readRule_41 (by decide) rfl ?_
    refine r_aload_n (q := 43) dX3_readRule_42 rfl rfl ?_
    refine r_geti (v := (M 1 2)) (q := 46) lk_X3_30 dX3_readRule_43 sc_c_1 rfl rfl rfl ?_
    obtain ⟨y4, e3, h⟩ := mm_let_elim h
    refine r_callV_i (av := [(.inl 4), (.inl (M 1 2))]) (st := []) (q := 49) (d1 := 0) kc_X3_33 sc_c_1 dX3_readRule_46 rfl rfl (Nat.le_of_ble_eq_true rfl) (Nat.le_of_ble_eq_true rfl) (by omega) rfl rfl (t_X7_fail (d := 0) (by omega) 4 (M 1 2) M _ e3) ?_
    cases h
    exact r_retb dX3_readRule_49 rfl (mm_b01 _) mm_Zi_rfl
noncomputable def X3_readRule (M : mm_M) : Option (Bool × mm_M) := if (M 1 4) = 101 then X3_readRule_j33 (M 1 4) M else if (M 1 4) = 103 then X3_readRule_j33 (M 1 4) M else if (M 1 4) = 120 then X3_readRule_j33 (M 1 4) M else mm_let (X7_fail 1 (M 1 2) M) fun y31 => some (y31.1, y31.2)
set_option maxRecDepth 100000 in
set_option maxHeartbeats 400000 in
theorem t_X3_readRule {d : Nat} (hd : 130 ≤ d) (M : mm_M) (res : (Bool × mm_M)) (h : X3_readRule M = some res) : mm_Meth jX3_readRule d 0 0 [(.inr 1), (.inr 20)] S_c M (mm_Zi (mm_b res.1) S_c res.2) := by
  refine r_meth (L := [some (.inr 1), some (.inr 20), none]) rfl (fun D => ?_)
  unfold X3_readRule at h
  refine r_aload_n (q := 1) dX3_readRule_0 rfl rfl ?_
  refine r_geti (v := (M 1 4)) (q := 4) lk_X3_20 dX3_readRule_1 sc_c_1 rfl rfl rfl ?_
  refine r_istore_n (q := 5) (L' := [some (.inr 1), some (.inr 20), some (.inl (M 1 4))]) dX3_readRule_4 (by decide) rfl rfl ?_
  refine r_iload_n (q := 6) dX3_readRule_5 rfl rfl ?_
  refine r_bipush (v := 101) (q := 8) dX3_readRule_6 (by decide) rfl ?_
  refine r_icmp_eq 33 (q := 11) dX3_readRule_8 (by decide) rfl (fun c1 => ?_) (fun c1 => ?_)
  · rw [if_pos c1] at h
    exact t_X3_readRule_j33 hd (M 1 4) M _ h
  · rw [if_neg c1] at h
    refine r_iload_n (q := 12) dX3_readRule_11 rfl rfl ?_
    refine r_bipush (v := 103) (q := 14) dX3_readRule_12 (by decide) rfl ?_
    refine r_icmp_eq 33 (q := 17) dX3_readRule_14 (by decide) rfl (fun c28 => ?_) (fun c28 => ?_)
    · rw [if_pos c28] at h
      exact t_X3_readRule_j33 hd (M 1 4) M _ h
    · rw [if_neg c28] at h
      refine r_iload_n (q := 18) dX3_readRule_17 rfl rfl ?_
      refine r_bipush (v := 120) (q := 20) dX3_readRule_18 (by decide) rfl ?_
      refine r_icmp_eq 33 (q := 23) dX3_readRule_20 (by decide) rfl (fun c29 => ?_) (fun c29 => ?_)
      · rw [if_pos c29] at h
        exact t_X3_readRule_j33 hd (M 1 4) M _ h
      · rw [if_neg c29] at h
        refine r_aload_n (q := 24) dX3_readRule_23 rfl rfl ?_
        refine r_iconst (v := 1) (q := 25) dX3_readRule_24 (by decide) rfl ?_
        refine r_aload_n (q := 26) dX3_readRule_25 rfl rfl ?_
        refine r_geti (v := (M 1 2)) (q := 29) lk_X3_30 dX3_readRule_26 sc_c_1 rfl rfl rfl ?_
        obtain ⟨y31, e30, h⟩ := mm_let_elim h
        refine r_callV_i (av := [(.inl 1), (.inl (M 1 2))]) (st := []) (q := 32) (d1 := 0) kc_X3_33 sc_c_1 dX3_readRule_29 rfl rfl (Nat.le_of_ble_eq_true rfl) (Nat.le_of_ble_eq_true rfl) (by omega) rfl rfl (t_X7_fail (d := 0) (by omega) 1 (M 1 2) M _ e30) ?_
        cases h
        exact r_retb dX3_readRule_32 rfl (mm_b01 _) mm_Zi_rfl
noncomputable def X3_read_l6 (s : (Int32 × mm_M)) : Option ((Int32 × mm_M) ⊕ (Bool × mm_M)) := if 16 < s.1 then mm_let (X7_fail 4 (s.2 1 2) s.2) fun y5 => some (.inr (y5.1, y5.2)) else (X3_readRule s.2).bind fun y7 => if y7.1 = true then if (y7.2 1 4) = (-1) then some (.inr (true, y7.2)) else mm_let (X7_take 59 y7.2) fun y11 => if y11.1 = true then some (.inl ((s.1 + 1), y11.2)) else some (.inr (false, y11.2)) else some (.inr (false, y7.2))
set_option maxRecDepth 100000 in
set_option maxHeartbeats 400000 in
theorem t_X3_read_l6 {D : mm_D} {d : Nat} (hd : 131 ≤ d) {Z : Option Int32 → List mm_C → mm_M → Prop} (n : Nat) (s : (Int32 × mm_M)) (r : (Bool × mm_M)) (h : mm_loop (X3_read_l6) n s = some r) (hx : Z (some (mm_b r.1)) S_c r.2) : mm_Go jX3_read D d 0 0 6 [some (.inr 1), some (.inr 20), some (.inl s.1)] [] S_c s.2 Z := by
  refine mm_loop_go (step := X3_read_l6) (Hd := fun (s : (Int32 × mm_M)) => mm_Go jX3_read D d 0 0 6 [some (.inr 1), some (.inr 20), some (.inl s.1)] [] S_c s.2 Z) (Ex := fun (r : (Bool × mm_M)) => Z (some (mm_b r.1)) S_c r.2) ?_ n s r h hx
  intro s o h kb ke
  show mm_Go jX3_read D d 0 0 6 [some (.inr 1), some (.inr 20), some (.inl s.1)] [] S_c s.2 Z
  unfold X3_read_l6 at h
  refine r_iload_n (q := 7) dX3_read_6 rfl rfl ?_
  refine r_bipush (v := 16) (q := 9) dX3_read_7 (by decide) rfl ?_
  refine r_icmp_gt 49 (q := 12) dX3_read_9 (by decide) rfl (fun c3 => ?_) (fun c3 => ?_)
  · rw [if_pos c3] at h
    refine r_aload_n (q := 50) dX3_read_49 rfl rfl ?_
    refine r_iconst (v := 4) (q := 51) dX3_read_50 (by decide) rfl ?_
    refine r_aload_n (q := 52) dX3_read_51 rfl rfl ?_
    refine r_geti (v := (s.2 1 2)) (q := 55) lk_X3_30 dX3_read_52 sc_c_1 rfl rfl rfl ?_
    obtain ⟨y5, e4, h⟩ := mm_let_elim h
    refine r_callV_i (av := [(.inl 4), (.inl (s.2 1 2))]) (st := []) (q := 58) (d1 := 0) kc_X3_33 sc_c_1 dX3_read_55 rfl rfl (Nat.le_of_ble_eq_true rfl) (Nat.le_of_ble_eq_true rfl) (by omega) rfl rfl (t_X7_fail (d := 0) (by omega) 4 (s.2 1 2) s.2 _ e4) ?_
    cases h
    have hk := ke _ rfl
    exact r_retb dX3_read_58 rfl (mm_b01 _) hk
  · rw [if_neg c3] at h
    refine r_aload_n (q := 13) dX3_read_12 rfl rfl ?_
    refine r_aload_n (q := 14) dX3_read_13 rfl rfl ?_
    obtain ⟨y7, e6, h⟩ := Option.bind_eq_some_iff.mp h
    refine r_callS_i (av := [(.inr 1), (.inr 20)]) (st := []) (q := 17) (d1 := 130) kc_X3_14 dX3_read_14 rfl rfl (Nat.le_of_ble_eq_true rfl) (Nat.le_of_ble_eq_true rfl) (by omega) rfl rfl (t_X3_readRule (d := 130) (by omega) s.2 _ e6) ?_
    refine r_if_ne 22 (q := 20) dX3_read_17 (by decide) rfl (fun c8 => ?_) (fun c8 => ?_)
    · rw [if_pos (mm_b1 c8)] at h
      refine r_aload_n (q := 23) dX3_read_22 rfl rfl ?_
      refine r_geti (v := (y7.2 1 4)) (q := 26) lk_X3_20 dX3_read_23 sc_c_1 rfl rfl rfl ?_
      refine r_iconst (v := (-1)) (q := 27) dX3_read_26 (by decide) rfl ?_
      refine r_icmp_ne 32 (q := 30) dX3_read_27 (by decide) rfl (fun c9 => ?_) (fun c9 => ?_)
      · rw [if_neg c9] at h
        refine r_aload_n (q := 33) dX3_read_32 rfl rfl ?_
        refine r_bipush (v := 59) (q := 35) dX3_read_33 (by decide) rfl ?_
        obtain ⟨y11, e10, h⟩ := mm_let_elim h
        refine r_callV_i (av := [(.inl 59)]) (st := []) (q := 38) (d1 := 1) kc_X3_26 sc_c_1 dX3_read_35 rfl rfl (Nat.le_of_ble_eq_true rfl) (Nat.le_of_ble_eq_true rfl) (by omega) rfl rfl (t_X7_take (d := 1) (by omega) 59 y7.2 _ e10) ?_
        refine r_if_ne 43 (q := 41) dX3_read_38 (by decide) rfl (fun c12 => ?_) (fun c12 => ?_)
        · rw [if_pos (mm_b1 c12)] at h
          refine r_iinc (v := 1) (q := 46) (L' := [some (.inr 1), some (.inr 20), some (.inl (s.1 + 1))]) dX3_read_43 (by decide) (by decide) rfl rfl rfl ?_
          refine r_goto 6 dX3_read_46 (by decide) ?_
          cases h
          have hk := kb _ rfl
          exact hk
        · rw [if_neg (mm_b0 c12)] at h
          refine r_iconst (v := 0) (q := 42) dX3_read_41 (by decide) rfl ?_
          cases h
          have hk := ke _ rfl
          exact r_retb dX3_read_42 rfl (Or.inl rfl) hk
      · rw [if_pos c9] at h
        refine r_iconst (v := 1) (q := 31) dX3_read_30 (by decide) rfl ?_
        cases h
        have hk := ke _ rfl
        exact r_retb dX3_read_31 rfl (Or.inr rfl) hk
    · rw [if_neg (mm_b0 c8)] at h
      refine r_iconst (v := 0) (q := 21) dX3_read_20 (by decide) rfl ?_
      cases h
      have hk := ke _ rfl
      exact r_retb dX3_read_21 rfl (Or.inl rfl) hk
noncomputable def X3_read (M : mm_M) : Option (Bool × mm_M) := mm_let (X2_clear M) fun y2 => (mm_loop (X3_read_l6) mm_fuel (0, y2))
set_option maxRecDepth 100000 in
set_option maxHeartbeats 400000 in
theorem t_X3_read {d : Nat} (hd : 131 ≤ d) (M : mm_M) (res : (Bool × mm_M)) (h : X3_read M = some res) : mm_Meth jX3_read d 0 0 [(.inr 1), (.inr 20)] S_c M (mm_Zi (mm_b res.1) S_c res.2) := by
  refine r_meth (L := [some (.inr 1), some (.inr 20), none]) rfl (fun D => ?_)
  unfold X3_read at h
  refine r_aload_n (q := 1) dX3_read_0 rfl rfl ?_
  obtain ⟨y2, e1, h⟩ := mm_let_elim h
  refine r_callV_v (av := []) (st := []) (q := 4) (d1 := 0) kc_X3_9 sc_c_20 dX3_read_1 rfl rfl (Nat.le_of_ble_eq_true rfl) (Nat.le_of_ble_eq_true rfl) (by omega) rfl rfl (t_X2_clear (d := 0) (by omega) M _ e1) ?_
  refine r_iconst (v := 0) (q := 5) dX3_read_4 (by decide) rfl ?_
  refine r_istore_n (q := 6) (L' := [some (.inr 1), some (.inr 20), some (.inl 0)]) dX3_read_5 (by decide) rfl rfl ?_
  exact t_X3_read_l6 hd mm_fuel (0, y2) _ h mm_Zi_rfl
noncomputable def X7_clear (M : mm_M) : mm_M := (mm_U M 1 1 0)
set_option maxRecDepth 100000 in
set_option maxHeartbeats 400000 in
theorem t_X7_clear {d : Nat} (hd : 0 ≤ d) (M : mm_M) (res : mm_M) (h : X7_clear M = res) : mm_Meth jX7_clear d 0 0 [(.inr 1)] S_c M (mm_Zv S_c res) := by
  refine r_meth (L := [some (.inr 1)]) rfl (fun D => ?_)
  unfold X7_clear at h
  refine r_aload_n (q := 1) dX7_clear_0 rfl rfl ?_
  refine r_iconst (v := 0) (q := 2) dX7_clear_1 (by decide) rfl ?_
  refine r_puti (q := 5) lk_X7_15 ft_5_1 dX7_clear_2 sc_c_1 rfl rfl ?_
  subst h
  exact r_retv dX7_clear_5 rfl mm_Zv_rfl
noncomputable def X11_law (x1 : Int32) (M : mm_M) : Option (Int32 × mm_M × Bool) := if (X11_isOnTape x1 240 M) = true then (X7_open x1 M).bind fun y3 => (X3_read y3).bind fun y5 => mm_let (X7_clear y5.2) fun y7 => if (y7 1 5) = 0 then some ((y7 20 0), y7, true) else some ((y7 1 5), y7, false) else some ((-1), M, false)
set_option maxRecDepth 100000 in
set_option maxHeartbeats 400000 in
theorem t_X11_law {d : Nat} (hd : 132 ≤ d) (x1 : Int32) (M : mm_M) (res : (Int32 × mm_M × Bool)) (h : X11_law x1 M = some res) : mm_Meth jX11_law d 0 0 [(.inr 0), (.inl x1)] S_c M (mm_Zs res.1 S_c S_law2 res.2.2 res.2.1) := by
  refine r_meth (L := [some (.inr 0), some (.inl x1), none]) rfl (fun D => ?_)
  unfold X11_law at h
  refine r_aload_n (q := 1) dX11_law_0 rfl rfl ?_
  refine r_iload_n (q := 2) dX11_law_1 rfl rfl ?_
  refine r_sipush (v := 240) (q := 5) dX11_law_2 (by decide) rfl ?_
  refine r_callV_i (av := [(.inl x1), (.inl 240)]) (st := []) (q := 8) (d1 := 0) kc_X11_108 sc_c_0 dX11_law_5 rfl rfl (Nat.le_of_ble_eq_true rfl) (Nat.le_of_ble_eq_true rfl) (by omega) rfl rfl (t_X11_isOnTape (d := 0) (by omega) x1 240 M _ rfl) ?_
  refine r_if_ne 13 (q := 11) dX11_law_8 (by decide) rfl (fun c1 => ?_) (fun c1 => ?_)
  · rw [if_pos (mm_b1 c1)] at h
    refine r_aload_n (q := 14) dX11_law_13 rfl rfl ?_
    refine r_getr (b := 1) (q := 17) lk_X11_12 dX11_law_14 sc_c_0 rfl rfl ?_
    refine r_iload_n (q := 18) dX11_law_17 rfl rfl ?_
    obtain ⟨y3, e2, h⟩ := Option.bind_eq_some_iff.mp h
    refine r_callV_v (av := [(.inl x1)]) (st := []) (q := 21) (d1 := 1) kc_X11_112 sc_c_1 dX11_law_18 rfl rfl (Nat.le_of_ble_eq_true rfl) (Nat.le_of_ble_eq_true rfl) (by omega) rfl rfl (t_X7_open (d := 1) (by omega) x1 M _ e2) ?_
    refine r_aload_n (q := 22) dX11_law_21 rfl rfl ?_
    refine r_getr (b := 1) (q := 25) lk_X11_12 dX11_law_22 sc_c_0 rfl rfl ?_
    refine r_aload_n (q := 26) dX11_law_25 rfl rfl ?_
    refine r_getr (b := 20) (q := 29) lk_X11_56 dX11_law_26 sc_c_0 rfl rfl ?_
    obtain ⟨y5, e4, h⟩ := Option.bind_eq_some_iff.mp h
    refine r_callS_i (av := [(.inr 1), (.inr 20)]) (st := []) (q := 32) (d1 := 131) kc_X11_115 dX11_law_29 rfl rfl (Nat.le_of_ble_eq_true rfl) (Nat.le_of_ble_eq_true rfl) (by omega) rfl rfl (t_X3_read (d := 131) (by omega) y3 _ e4) ?_
    refine r_pop (q := 33) dX11_law_32 rfl ?_
    refine r_aload_n (q := 34) dX11_law_33 rfl rfl ?_
    refine r_getr (b := 1) (q := 37) lk_X11_12 dX11_law_34 sc_c_0 rfl rfl ?_
    obtain ⟨y7, e6, h⟩ := mm_let_elim h
    refine r_callV_v (av := []) (st := []) (q := 40) (d1 := 0) kc_X11_121 sc_c_1 dX11_law_37 rfl rfl (Nat.le_of_ble_eq_true rfl) (Nat.le_of_ble_eq_true rfl) (by omega) rfl rfl (t_X7_clear (d := 0) (by omega) y5.2 _ e6) ?_
    refine r_aload_n (q := 41) dX11_law_40 rfl rfl ?_
    refine r_getr (b := 1) (q := 44) lk_X11_12 dX11_law_41 sc_c_0 rfl rfl ?_
    refine r_geti (v := (y7 1 5)) (q := 47) lk_X11_124 dX11_law_44 sc_c_1 rfl rfl rfl ?_
    refine r_if_eq 58 (q := 50) dX11_law_47 (by decide) rfl (fun c8 => ?_) (fun c8 => ?_)
    · rw [if_pos c8] at h
      refine r_aload_n (q := 59) dX11_law_58 rfl rfl ?_
      refine r_getr (b := 13) (q := 62) lk_X11_52 dX11_law_59 sc_c_0 rfl rfl ?_
      refine r_astore_n (q := 63) (L' := [some (.inr 0), some (.inl x1), some (.inr 13)]) dX11_law_62 (by decide) rfl rfl ?_
      refine r_aload_n (q := 64) dX11_law_63 rfl rfl ?_
      refine r_aload_n (q := 65) dX11_law_64 rfl rfl ?_
      refine r_getr (b := 20) (q := 68) lk_X11_56 dX11_law_65 sc_c_0 rfl rfl ?_
      refine r_putr (q := 71) (S' := S_law1) lk_X11_52 ft_8_8 dX11_law_68 sc_c_0 rfl (fun _ => rfl) (fun _ => rfl) rfl rfl ?_
      refine r_aload_n (q := 72) dX11_law_71 rfl rfl ?_
      refine r_aload_n (q := 73) dX11_law_72 rfl rfl ?_
      refine r_putr (q := 76) (S' := S_law2) lk_X11_56 ft_8_9 dX11_law_73 rfl rfl (fun _ => rfl) (fun _ => rfl) rfl rfl ?_
      refine r_aload_n (q := 77) dX11_law_76 rfl rfl ?_
      refine r_getr (b := 20) (q := 80) lk_X11_52 dX11_law_77 rfl rfl rfl ?_
      refine r_geti (v := (y7 20 0)) (q := 83) lk_X11_127 dX11_law_80 rfl rfl rfl rfl ?_
      cases h
      exact r_ret dX11_law_83 rfl mm_Zs_t
    · rw [if_neg c8] at h
      refine r_aload_n (q := 51) dX11_law_50 rfl rfl ?_
      refine r_getr (b := 1) (q := 54) lk_X11_12 dX11_law_51 sc_c_0 rfl rfl ?_
      refine r_geti (v := (y7 1 5)) (q := 57) lk_X11_124 dX11_law_54 sc_c_1 rfl rfl rfl ?_
      cases h
      exact r_ret dX11_law_57 rfl mm_Zs_f
  · rw [if_neg (mm_b0 c1)] at h
    refine r_iconst (v := (-1)) (q := 12) dX11_law_11 (by decide) rfl ?_
    cases h
    exact r_ret dX11_law_12 rfl mm_Zs_f
noncomputable def X8_clear_l7 (s : (Int32 × mm_M)) : Option ((Int32 × mm_M) ⊕ mm_M) := if 80 ≤ s.1 then some (.inr s.2) else if mm_in s.1 80 = true then if mm_in s.1 80 = true then some (.inl ((s.1 + 1), (mm_U (mm_U s.2 11 (Int32.toNatClampNeg s.1) 0) 12 (Int32.toNatClampNeg s.1) (s.1 - s.1 / 10 * 10)))) else none else none
set_option maxRecDepth 100000 in
set_option maxHeartbeats 400000 in
theorem t_X8_clear_l7 {D : mm_D} {d : Nat} (hd : 0 ≤ d) {Z : Option Int32 → List mm_C → mm_M → Prop} (n : Nat) (s : (Int32 × mm_M)) (r : mm_M) (h : mm_loop (X8_clear_l7) n s = some r) (hx : Z none S_c r) : mm_Go jX8_clear D d 0 0 7 [some (.inr 10), some (.inl s.1)] [] S_c s.2 Z := by
  refine mm_loop_go (step := X8_clear_l7) (Hd := fun (s : (Int32 × mm_M)) => mm_Go jX8_clear D d 0 0 7 [some (.inr 10), some (.inl s.1)] [] S_c s.2 Z) (Ex := fun (r : mm_M) => Z none S_c r) ?_ n s r h hx
  intro s o h kb ke
  show mm_Go jX8_clear D d 0 0 7 [some (.inr 10), some (.inl s.1)] [] S_c s.2 Z
  unfold X8_clear_l7 at h
  refine r_iload_n (q := 8) dX8_clear_7 rfl rfl ?_
  refine r_bipush (v := 80) (q := 10) dX8_clear_8 (by decide) rfl ?_
  refine r_icmp_ge 36 (q := 13) dX8_clear_10 (by decide) rfl (fun c1 => ?_) (fun c1 => ?_)
  · rw [if_pos c1] at h
    cases h
    have hk := ke _ rfl
    exact r_retv dX8_clear_36 rfl hk
  · rw [if_neg c1] at h
    refine r_aload_n (q := 14) dX8_clear_13 rfl rfl ?_
    refine r_getr (b := 11) (q := 17) lk_X8_9 dX8_clear_14 sc_c_10 rfl rfl ?_
    refine r_iload_n (q := 18) dX8_clear_17 rfl rfl ?_
    refine r_iconst (v := 0) (q := 19) dX8_clear_18 (by decide) rfl ?_
    obtain ⟨g2, h⟩ := mm_guard h
    refine r_iast (j := (Int32.toNatClampNeg s.1)) (q := 20) dX8_clear_19 sc_c_11 (mm_vp g2) rfl rfl ?_
    refine r_aload_n (q := 21) dX8_clear_20 rfl rfl ?_
    refine r_getr (b := 12) (q := 24) lk_X8_15 dX8_clear_21 sc_c_10 rfl rfl ?_
    refine r_iload_n (q := 25) dX8_clear_24 rfl rfl ?_
    refine r_iload_n (q := 26) dX8_clear_25 rfl rfl ?_
    refine r_bipush (v := 10) (q := 28) dX8_clear_26 (by decide) rfl ?_
    refine r_irem (q := 29) dX8_clear_28 (by decide) rfl ?_
    obtain ⟨g3, h⟩ := mm_guard h
    refine r_iast (j := (Int32.toNatClampNeg s.1)) (q := 30) dX8_clear_29 sc_c_12 (mm_vp g3) rfl rfl ?_
    refine r_iinc (v := 1) (q := 33) (L' := [some (.inr 10), some (.inl (s.1 + 1))]) dX8_clear_30 (by decide) (by decide) rfl rfl rfl ?_
    refine r_goto 7 dX8_clear_33 (by decide) ?_
    cases h
    have hk := kb _ rfl
    exact hk
noncomputable def X8_clear (M : mm_M) : Option mm_M := (mm_loop (X8_clear_l7) mm_fuel (0, (mm_U M 10 0 0)))
set_option maxRecDepth 100000 in
set_option maxHeartbeats 400000 in
theorem t_X8_clear {d : Nat} (hd : 0 ≤ d) (M : mm_M) (res : mm_M) (h : X8_clear M = some res) : mm_Meth jX8_clear d 0 0 [(.inr 10)] S_c M (mm_Zv S_c res) := by
  refine r_meth (L := [some (.inr 10), none]) rfl (fun D => ?_)
  unfold X8_clear at h
  refine r_aload_n (q := 1) dX8_clear_0 rfl rfl ?_
  refine r_iconst (v := 0) (q := 2) dX8_clear_1 (by decide) rfl ?_
  refine r_puti (q := 5) lk_X8_18 ft_6_0 dX8_clear_2 sc_c_10 rfl rfl ?_
  refine r_iconst (v := 0) (q := 6) dX8_clear_5 (by decide) rfl ?_
  refine r_istore_n (q := 7) (L' := [some (.inr 10), some (.inl 0)]) dX8_clear_6 (by decide) rfl rfl ?_
  exact t_X8_clear_l7 hd mm_fuel (0, (mm_U M 10 0 0)) _ h mm_Zv_rfl
noncomputable def X9_readStates_j81 (M : mm_M) : (Bool × mm_M) := mm_let (X7_fail 3 0 M) fun y12 => (y12.1, y12.2)
set_option maxRecDepth 100000 in
set_option maxHeartbeats 400000 in
theorem t_X9_readStates_j81 {D : mm_D} {d : Nat} (hd : 1 ≤ d) (M : mm_M) (res : (Bool × mm_M)) (h : X9_readStates_j81 M = res) : mm_Go jX9_readStates D d 0 0 81 [some (.inr 1), none, none] [] S_c M (mm_Zi (mm_b res.1) S_c res.2) := by
  unfold X9_readStates_j81 at h
  refine r_aload_n (q := 82) dX9_readStates_81 rfl rfl ?_
  refine r_iconst (v := 3) (q := 83) dX9_readStates_82 (by decide) rfl ?_
  refine r_iconst (v := 0) (q := 84) dX9_readStates_83 (by decide) rfl ?_
  obtain ⟨y12, e11, h⟩ := mm_let_elim h
  refine r_callV_i (av := [(.inl 3), (.inl 0)]) (st := []) (q := 87) (d1 := 0) kc_X9_36 sc_c_1 dX9_readStates_84 rfl rfl (Nat.le_of_ble_eq_true rfl) (Nat.le_of_ble_eq_true rfl) (by omega) rfl rfl (t_X7_fail (d := 0) (by omega) 3 0 M _ e11) ?_
  subst h
  exact r_retb dX9_readStates_87 rfl (mm_b01 _) mm_Zi_rfl
noncomputable def X9_readStates_j53 (x2 : Int32) (M : mm_M) : (Bool × mm_M) := if (X7_isDigit M) = true then mm_let (X7_fail 2 (M 1 2) M) fun y9 => (y9.1, y9.2) else if x2 < 2 then X9_readStates_j81 M else if x2 ≤ 10 then (true, (mm_U M 10 0 x2)) else X9_readStates_j81 M
set_option maxRecDepth 100000 in
set_option maxHeartbeats 400000 in
theorem t_X9_readStates_j53 {D : mm_D} {d : Nat} (hd : 1 ≤ d) (x2 : Int32) (M : mm_M) (res : (Bool × mm_M)) (h : X9_readStates_j53 x2 M = res) : mm_Go jX9_readStates D d 0 0 53 [some (.inr 1), some (.inr 10), some (.inl x2)] [] S_c M (mm_Zi (mm_b res.1) S_c res.2) := by
  unfold X9_readStates_j53 at h
  refine r_aload_n (q := 54) dX9_readStates_53 rfl rfl ?_
  refine r_callV_i (av := []) (st := []) (q := 57) (d1 := 0) kc_X9_47 sc_c_1 dX9_readStates_54 rfl rfl (Nat.le_of_ble_eq_true rfl) (Nat.le_of_ble_eq_true rfl) (by omega) rfl rfl (t_X7_isDigit (d := 0) (by omega) M _ rfl) ?_
  refine r_if_eq 70 (q := 60) dX9_readStates_57 (by decide) rfl (fun c7 => ?_) (fun c7 => ?_)
  · rw [if_neg (mm_b0 c7)] at h
    refine r_iload_n (q := 71) dX9_readStates_70 rfl rfl ?_
    refine r_iconst (v := 2) (q := 72) dX9_readStates_71 (by decide) rfl ?_
    refine r_icmp_lt 81 (q := 75) dX9_readStates_72 (by decide) rfl (fun c10 => ?_) (fun c10 => ?_)
    · rw [if_pos c10] at h
      refine r_forget (L' := [some (.inr 1), none, none]) [true, false, false] rfl ?_
      exact t_X9_readStates_j81 hd M _ h
    · rw [if_neg c10] at h
      refine r_iload_n (q := 76) dX9_readStates_75 rfl rfl ?_
      refine r_bipush (v := 10) (q := 78) dX9_readStates_76 (by decide) rfl ?_
      refine r_icmp_le 88 (q := 81) dX9_readStates_78 (by decide) rfl (fun c13 => ?_) (fun c13 => ?_)
      · rw [if_pos c13] at h
        refine r_aload_n (q := 89) dX9_readStates_88 rfl rfl ?_
        refine r_iload_n (q := 90) dX9_readStates_89 rfl rfl ?_
        refine r_puti (q := 93) lk_X9_51 ft_6_0 dX9_readStates_90 sc_c_10 rfl rfl ?_
        refine r_iconst (v := 1) (q := 94) dX9_readStates_93 (by decide) rfl ?_
        subst h
        exact r_retb dX9_readStates_94 rfl (Or.inr rfl) mm_Zi_rfl
      · rw [if_neg c13] at h
        refine r_forget (L' := [some (.inr 1), none, none]) [true, false, false] rfl ?_
        exact t_X9_readStates_j81 hd M _ h
  · rw [if_pos (mm_b1 c7)] at h
    refine r_aload_n (q := 61) dX9_readStates_60 rfl rfl ?_
    refine r_iconst (v := 2) (q := 62) dX9_readStates_61 (by decide) rfl ?_
    refine r_aload_n (q := 63) dX9_readStates_62 rfl rfl ?_
    refine r_geti (v := (M 1 2)) (q := 66) lk_X9_33 dX9_readStates_63 sc_c_1 rfl rfl rfl ?_
    obtain ⟨y9, e8, h⟩ := mm_let_elim h
    refine r_callV_i (av := [(.inl 2), (.inl (M 1 2))]) (st := []) (q := 69) (d1 := 0) kc_X9_36 sc_c_1 dX9_readStates_66 rfl rfl (Nat.le_of_ble_eq_true rfl) (Nat.le_of_ble_eq_true rfl) (by omega) rfl rfl (t_X7_fail (d := 0) (by omega) 2 (M 1 2) M _ e8) ?_
    subst h
    exact r_retb dX9_readStates_69 rfl (mm_b01 _) mm_Zi_rfl
noncomputable def X9_readStates (M : mm_M) : (Bool × mm_M) := if (X7_isDigit M) = true then mm_let (X7_step M) fun y3 => if (X7_isDigit y3) = true then mm_let (X7_step y3) fun y6 => X9_readStates_j53 (((((M 1 4) - 48) * 10) + (y3 1 4)) - 48) y6 else X9_readStates_j53 ((M 1 4) - 48) y3 else mm_let (X7_fail 1 (M 1 2) M) fun y15 => (y15.1, y15.2)
set_option maxRecDepth 100000 in
set_option maxHeartbeats 400000 in
theorem t_X9_readStates {d : Nat} (hd : 1 ≤ d) (M : mm_M) (res : (Bool × mm_M)) (h : X9_readStates M = res) : mm_Meth jX9_readStates d 0 0 [(.inr 1), (.inr 10)] S_c M (mm_Zi (mm_b res.1) S_c res.2) := by
  refine r_meth (L := [some (.inr 1), some (.inr 10), none]) rfl (fun D => ?_)
  unfold X9_readStates at h
  refine r_aload_n (q := 1) dX9_readStates_0 rfl rfl ?_
  refine r_callV_i (av := []) (st := []) (q := 4) (d1 := 0) kc_X9_47 sc_c_1 dX9_readStates_1 rfl rfl (Nat.le_of_ble_eq_true rfl) (Nat.le_of_ble_eq_true rfl) (by omega) rfl rfl (t_X7_isDigit (d := 0) (by omega) M _ rfl) ?_
  refine r_if_ne 17 (q := 7) dX9_readStates_4 (by decide) rfl (fun c1 => ?_) (fun c1 => ?_)
  · rw [if_pos (mm_b1 c1)] at h
    refine r_aload_n (q := 18) dX9_readStates_17 rfl rfl ?_
    refine r_geti (v := (M 1 4)) (q := 21) lk_X9_20 dX9_readStates_18 sc_c_1 rfl rfl rfl ?_
    refine r_bipush (v := 48) (q := 23) dX9_readStates_21 (by decide) rfl ?_
    refine r_isub (q := 24) dX9_readStates_23 rfl ?_
    refine r_istore_n (q := 25) (L' := [some (.inr 1), some (.inr 10), some (.inl ((M 1 4) - 48))]) dX9_readStates_24 (by decide) rfl rfl ?_
    refine r_aload_n (q := 26) dX9_readStates_25 rfl rfl ?_
    obtain ⟨y3, e2, h⟩ := mm_let_elim h
    refine r_callV_v (av := []) (st := []) (q := 29) (d1 := 0) kc_X9_40 sc_c_1 dX9_readStates_26 rfl rfl (Nat.le_of_ble_eq_true rfl) (Nat.le_of_ble_eq_true rfl) (by omega) rfl rfl (t_X7_step (d := 0) (by omega) M _ e2) ?_
    refine r_aload_n (q := 30) dX9_readStates_29 rfl rfl ?_
    refine r_callV_i (av := []) (st := []) (q := 33) (d1 := 0) kc_X9_47 sc_c_1 dX9_readStates_30 rfl rfl (Nat.le_of_ble_eq_true rfl) (Nat.le_of_ble_eq_true rfl) (by omega) rfl rfl (t_X7_isDigit (d := 0) (by omega) y3 _ rfl) ?_
    refine r_if_eq 53 (q := 36) dX9_readStates_33 (by decide) rfl (fun c4 => ?_) (fun c4 => ?_)
    · rw [if_neg (mm_b0 c4)] at h
      exact t_X9_readStates_j53 hd ((M 1 4) - 48) y3 _ h
    · rw [if_pos (mm_b1 c4)] at h
      refine r_iload_n (q := 37) dX9_readStates_36 rfl rfl ?_
      refine r_bipush (v := 10) (q := 39) dX9_readStates_37 (by decide) rfl ?_
      refine r_imul (q := 40) dX9_readStates_39 rfl ?_
      refine r_aload_n (q := 41) dX9_readStates_40 rfl rfl ?_
      refine r_geti (v := (y3 1 4)) (q := 44) lk_X9_20 dX9_readStates_41 sc_c_1 rfl rfl rfl ?_
      refine r_iadd (q := 45) dX9_readStates_44 rfl ?_
      refine r_bipush (v := 48) (q := 47) dX9_readStates_45 (by decide) rfl ?_
      refine r_isub (q := 48) dX9_readStates_47 rfl ?_
      refine r_istore_n (q := 49) (L' := [some (.inr 1), some (.inr 10), some (.inl (((((M 1 4) - 48) * 10) + (y3 1 4)) - 48))]) dX9_readStates_48 (by decide) rfl rfl ?_
      refine r_aload_n (q := 50) dX9_readStates_49 rfl rfl ?_
      obtain ⟨y6, e5, h⟩ := mm_let_elim h
      refine r_callV_v (av := []) (st := []) (q := 53) (d1 := 0) kc_X9_40 sc_c_1 dX9_readStates_50 rfl rfl (Nat.le_of_ble_eq_true rfl) (Nat.le_of_ble_eq_true rfl) (by omega) rfl rfl (t_X7_step (d := 0) (by omega) y3 _ e5) ?_
      exact t_X9_readStates_j53 hd (((((M 1 4) - 48) * 10) + (y3 1 4)) - 48) y6 _ h
  · rw [if_neg (mm_b0 c1)] at h
    refine r_aload_n (q := 8) dX9_readStates_7 rfl rfl ?_
    refine r_iconst (v := 1) (q := 9) dX9_readStates_8 (by decide) rfl ?_
    refine r_aload_n (q := 10) dX9_readStates_9 rfl rfl ?_
    refine r_geti (v := (M 1 2)) (q := 13) lk_X9_33 dX9_readStates_10 sc_c_1 rfl rfl rfl ?_
    obtain ⟨y15, e14, h⟩ := mm_let_elim h
    refine r_callV_i (av := [(.inl 1), (.inl (M 1 2))]) (st := []) (q := 16) (d1 := 0) kc_X9_36 sc_c_1 dX9_readStates_13 rfl rfl (Nat.le_of_ble_eq_true rfl) (Nat.le_of_ble_eq_true rfl) (by omega) rfl rfl (t_X7_fail (d := 0) (by omega) 1 (M 1 2) M _ e14) ?_
    subst h
    exact r_retb dX9_readStates_16 rfl (mm_b01 _) mm_Zi_rfl
noncomputable def X8_everyState (a0 : Nat) (M : mm_M) : Int32 := (((1 : Int32) <<< ((M a0 0) &&& 31)) - 1)
set_option maxRecDepth 100000 in
set_option maxHeartbeats 400000 in
theorem t_X8_everyState_7 {d : Nat} (hd : 0 ≤ d) (M : mm_M) (res : Int32) (h : X8_everyState 7 M = res) : mm_Meth jX8_everyState d 0 0 [(.inr 7)] S_c M (mm_Zi res S_c M) := by
  refine r_meth (L := [some (.inr 7)]) rfl (fun D => ?_)
  unfold X8_everyState at h
  refine r_iconst (v := 1) (q := 1) dX8_everyState_0 (by decide) rfl ?_
  refine r_aload_n (q := 2) dX8_everyState_1 rfl rfl ?_
  refine r_geti (v := (M 7 0)) (q := 5) lk_X8_18 dX8_everyState_2 rfl rfl rfl rfl ?_
  refine r_ishl (q := 6) dX8_everyState_5 rfl ?_
  refine r_iconst (v := 1) (q := 7) dX8_everyState_6 (by decide) rfl ?_
  refine r_isub (q := 8) dX8_everyState_7 rfl ?_
  subst h
  exact r_ret dX8_everyState_8 rfl mm_Zi_rfl
set_option maxRecDepth 100000 in
set_option maxHeartbeats 400000 in
theorem t_X8_everyState_10 {d : Nat} (hd : 0 ≤ d) (M : mm_M) (res : Int32) (h : X8_everyState 10 M = res) : mm_Meth jX8_everyState d 0 0 [(.inr 10)] S_c M (mm_Zi res S_c M) := by
  refine r_meth (L := [some (.inr 10)]) rfl (fun D => ?_)
  unfold X8_everyState at h
  refine r_iconst (v := 1) (q := 1) dX8_everyState_0 (by decide) rfl ?_
  refine r_aload_n (q := 2) dX8_everyState_1 rfl rfl ?_
  refine r_geti (v := (M 10 0)) (q := 5) lk_X8_18 dX8_everyState_2 rfl rfl rfl rfl ?_
  refine r_ishl (q := 6) dX8_everyState_5 rfl ?_
  refine r_iconst (v := 1) (q := 7) dX8_everyState_6 (by decide) rfl ?_
  refine r_isub (q := 8) dX8_everyState_7 rfl ?_
  subst h
  exact r_ret dX8_everyState_8 rfl mm_Zi_rfl
noncomputable def X9_readsState (M : mm_M) : (Bool × mm_M) := if (X7_isDigit M) = true then if (X8_has 10 ((M 1 4) - 48) M) = true then (true, M) else mm_let (X7_fail 3 (M 1 2) M) fun y4 => if y4.1 = true then (true, y4.2) else (false, y4.2) else mm_let (X7_fail 1 (M 1 2) M) fun y7 => (y7.1, y7.2)
set_option maxRecDepth 100000 in
set_option maxHeartbeats 400000 in
theorem t_X9_readsState {d : Nat} (hd : 1 ≤ d) (M : mm_M) (res : (Bool × mm_M)) (h : X9_readsState M = res) : mm_Meth jX9_readsState d 0 0 [(.inr 1), (.inr 10)] S_c M (mm_Zi (mm_b res.1) S_c res.2) := by
  refine r_meth (L := [some (.inr 1), some (.inr 10)]) rfl (fun D => ?_)
  unfold X9_readsState at h
  refine r_aload_n (q := 1) dX9_readsState_0 rfl rfl ?_
  refine r_callV_i (av := []) (st := []) (q := 4) (d1 := 0) kc_X9_47 sc_c_1 dX9_readsState_1 rfl rfl (Nat.le_of_ble_eq_true rfl) (Nat.le_of_ble_eq_true rfl) (by omega) rfl rfl (t_X7_isDigit (d := 0) (by omega) M _ rfl) ?_
  refine r_if_ne 17 (q := 7) dX9_readsState_4 (by decide) rfl (fun c1 => ?_) (fun c1 => ?_)
  · rw [if_pos (mm_b1 c1)] at h
    refine r_aload_n (q := 18) dX9_readsState_17 rfl rfl ?_
    refine r_aload_n (q := 19) dX9_readsState_18 rfl rfl ?_
    refine r_geti (v := (M 1 4)) (q := 22) lk_X9_20 dX9_readsState_19 sc_c_1 rfl rfl rfl ?_
    refine r_bipush (v := 48) (q := 24) dX9_readsState_22 (by decide) rfl ?_
    refine r_isub (q := 25) dX9_readsState_24 rfl ?_
    refine r_callV_i (av := [(.inl ((M 1 4) - 48))]) (st := []) (q := 28) (d1 := 0) kc_X9_65 sc_c_10 dX9_readsState_25 rfl rfl (Nat.le_of_ble_eq_true rfl) (Nat.le_of_ble_eq_true rfl) (by omega) rfl rfl (t_X8_has_10 (d := 0) (by omega) ((M 1 4) - 48) M _ rfl) ?_
    refine r_if_ne 43 (q := 31) dX9_readsState_28 (by decide) rfl (fun c2 => ?_) (fun c2 => ?_)
    · rw [if_pos (mm_b1 c2)] at h
      refine r_iconst (v := 1) (q := 44) dX9_readsState_43 (by decide) rfl ?_
      refine r_goto 48 dX9_readsState_44 (by decide) ?_
      subst h
      exact r_retb dX9_readsState_48 rfl (Or.inr rfl) mm_Zi_rfl
    · rw [if_neg (mm_b0 c2)] at h
      refine r_aload_n (q := 32) dX9_readsState_31 rfl rfl ?_
      refine r_iconst (v := 3) (q := 33) dX9_readsState_32 (by decide) rfl ?_
      refine r_aload_n (q := 34) dX9_readsState_33 rfl rfl ?_
      refine r_geti (v := (M 1 2)) (q := 37) lk_X9_33 dX9_readsState_34 sc_c_1 rfl rfl rfl ?_
      obtain ⟨y4, e3, h⟩ := mm_let_elim h
      refine r_callV_i (av := [(.inl 3), (.inl (M 1 2))]) (st := []) (q := 40) (d1 := 0) kc_X9_36 sc_c_1 dX9_readsState_37 rfl rfl (Nat.le_of_ble_eq_true rfl) (Nat.le_of_ble_eq_true rfl) (by omega) rfl rfl (t_X7_fail (d := 0) (by omega) 3 (M 1 2) M _ e3) ?_
      refine r_if_eq 47 (q := 43) dX9_readsState_40 (by decide) rfl (fun c5 => ?_) (fun c5 => ?_)
      · rw [if_neg (mm_b0 c5)] at h
        refine r_iconst (v := 0) (q := 48) dX9_readsState_47 (by decide) rfl ?_
        subst h
        exact r_retb dX9_readsState_48 rfl (Or.inl rfl) mm_Zi_rfl
      · rw [if_pos (mm_b1 c5)] at h
        refine r_iconst (v := 1) (q := 44) dX9_readsState_43 (by decide) rfl ?_
        refine r_goto 48 dX9_readsState_44 (by decide) ?_
        subst h
        exact r_retb dX9_readsState_48 rfl (Or.inr rfl) mm_Zi_rfl
  · rw [if_neg (mm_b0 c1)] at h
    refine r_aload_n (q := 8) dX9_readsState_7 rfl rfl ?_
    refine r_iconst (v := 1) (q := 9) dX9_readsState_8 (by decide) rfl ?_
    refine r_aload_n (q := 10) dX9_readsState_9 rfl rfl ?_
    refine r_geti (v := (M 1 2)) (q := 13) lk_X9_33 dX9_readsState_10 sc_c_1 rfl rfl rfl ?_
    obtain ⟨y7, e6, h⟩ := mm_let_elim h
    refine r_callV_i (av := [(.inl 1), (.inl (M 1 2))]) (st := []) (q := 16) (d1 := 0) kc_X9_36 sc_c_1 dX9_readsState_13 rfl rfl (Nat.le_of_ble_eq_true rfl) (Nat.le_of_ble_eq_true rfl) (by omega) rfl rfl (t_X7_fail (d := 0) (by omega) 1 (M 1 2) M _ e6) ?_
    subst h
    exact r_retb dX9_readsState_16 rfl (mm_b01 _) mm_Zi_rfl
noncomputable def X8_tell (x1 : Int32) (x2 : Int32) (x3 : Int32) (x4 : Int32) (M : mm_M) : mm_M := if ((x1 * 10) + x2) < 0 then M else if 80 ≤ ((x1 * 10) + x2) then M else (mm_U (mm_U M 11 (Int32.toNatClampNeg ((x1 * 10) + x2)) x4) 12 (Int32.toNatClampNeg ((x1 * 10) + x2)) x3)
set_option maxRecDepth 100000 in
set_option maxHeartbeats 400000 in
theorem t_X8_tell {d : Nat} (hd : 0 ≤ d) (x1 : Int32) (x2 : Int32) (x3 : Int32) (x4 : Int32) (M : mm_M) (res : mm_M) (h : X8_tell x1 x2 x3 x4 M = res) : mm_Meth jX8_tell d 0 0 [(.inr 10), (.inl x1), (.inl x2), (.inl x3), (.inl x4)] S_c M (mm_Zv S_c res) := by
  refine r_meth (L := [some (.inr 10), some (.inl x1), some (.inl x2), some (.inl x3), some (.inl x4), none]) rfl (fun D => ?_)
  unfold X8_tell at h
  refine r_iload_n (q := 1) dX8_tell_0 rfl rfl ?_
  refine r_bipush (v := 10) (q := 3) dX8_tell_1 (by decide) rfl ?_
  refine r_imul (q := 4) dX8_tell_3 rfl ?_
  refine r_iload_n (q := 5) dX8_tell_4 rfl rfl ?_
  refine r_iadd (q := 6) dX8_tell_5 rfl ?_
  refine r_istore (q := 8) (L' := [some (.inr 10), some (.inl x1), some (.inl x2), some (.inl x3), some (.inl x4), some (.inl ((x1 * 10) + x2))]) dX8_tell_6 (by decide) rfl rfl ?_
  refine r_iload (q := 10) dX8_tell_8 rfl rfl ?_
  refine r_if_lt 37 (q := 13) dX8_tell_10 (by decide) rfl (fun c1 => ?_) (fun c1 => ?_)
  · rw [if_pos c1] at h
    subst h
    exact r_retv dX8_tell_37 rfl mm_Zv_rfl
  · rw [if_neg c1] at h
    refine r_iload (q := 15) dX8_tell_13 rfl rfl ?_
    refine r_bipush (v := 80) (q := 17) dX8_tell_15 (by decide) rfl ?_
    refine r_icmp_ge 37 (q := 20) dX8_tell_17 (by decide) rfl (fun c2 => ?_) (fun c2 => ?_)
    · rw [if_pos c2] at h
      subst h
      exact r_retv dX8_tell_37 rfl mm_Zv_rfl
    · rw [if_neg c2] at h
      refine r_aload_n (q := 21) dX8_tell_20 rfl rfl ?_
      refine r_getr (b := 11) (q := 24) lk_X8_9 dX8_tell_21 sc_c_10 rfl rfl ?_
      refine r_iload (q := 26) dX8_tell_24 rfl rfl ?_
      refine r_iload (q := 28) dX8_tell_26 rfl rfl ?_
      refine r_iast (j := (Int32.toNatClampNeg ((x1 * 10) + x2))) (q := 29) dX8_tell_28 sc_c_11 (mm_vp2 (Int32.not_lt.mp c1) (Int32.not_le.mp c2) (by decide)) rfl rfl ?_
      refine r_aload_n (q := 30) dX8_tell_29 rfl rfl ?_
      refine r_getr (b := 12) (q := 33) lk_X8_15 dX8_tell_30 sc_c_10 rfl rfl ?_
      refine r_iload (q := 35) dX8_tell_33 rfl rfl ?_
      refine r_iload_n (q := 36) dX8_tell_35 rfl rfl ?_
      refine r_iast (j := (Int32.toNatClampNeg ((x1 * 10) + x2))) (q := 37) dX8_tell_36 sc_c_12 (mm_vp2 (Int32.not_lt.mp c1) (Int32.not_le.mp c2) (by decide)) rfl rfl ?_
      subst h
      exact r_retv dX8_tell_37 rfl mm_Zv_rfl
noncomputable def X9_readOutcome_l99 (x2 : Int32) (x3 : Int32) (x4 : Bool) (x5 : Int32) (x6 : Int32) (s : (Int32 × mm_M)) : Option ((Int32 × mm_M) ⊕ (Bool × mm_M)) := if 10 ≤ s.1 then some (.inr (true, s.2)) else if ((x3 >>> (s.1 &&& 31)) &&& 1) = 0 then some (.inl ((s.1 + 1), s.2)) else if x4 = true then mm_let (X8_tell x2 s.1 s.1 x6 s.2) fun y18 => some (.inl ((s.1 + 1), y18)) else mm_let (X8_tell x2 s.1 x5 x6 s.2) fun y20 => some (.inl ((s.1 + 1), y20))
set_option maxRecDepth 100000 in
set_option maxHeartbeats 400000 in
theorem t_X9_readOutcome_l99 {D : mm_D} {d : Nat} (hd : 2 ≤ d) {Z : Option Int32 → List mm_C → mm_M → Prop} (x2 : Int32) (x3 : Int32) (x4 : Bool) (x5 : Int32) (x6 : Int32) (n : Nat) (s : (Int32 × mm_M)) (r : (Bool × mm_M)) (h : mm_loop (X9_readOutcome_l99 x2 x3 x4 x5 x6) n s = some r) (hx : Z (some (mm_b r.1)) S_c r.2) : mm_Go jX9_readOutcome D d 0 0 99 [none, some (.inr 10), some (.inl x2), some (.inl x3), some (.inl (mm_b x4)), some (.inl x5), some (.inl x6), some (.inl s.1)] [] S_c s.2 Z := by
  refine mm_loop_go (step := X9_readOutcome_l99 x2 x3 x4 x5 x6) (Hd := fun (s : (Int32 × mm_M)) => mm_Go jX9_readOutcome D d 0 0 99 [none, some (.inr 10), some (.inl x2), some (.inl x3), some (.inl (mm_b x4)), some (.inl x5), some (.inl x6), some (.inl s.1)] [] S_c s.2 Z) (Ex := fun (r : (Bool × mm_M)) => Z (some (mm_b r.1)) S_c r.2) ?_ n s r h hx
  intro s o h kb ke
  show mm_Go jX9_readOutcome D d 0 0 99 [none, some (.inr 10), some (.inl x2), some (.inl x3), some (.inl (mm_b x4)), some (.inl x5), some (.inl x6), some (.inl s.1)] [] S_c s.2 Z
  unfold X9_readOutcome_l99 at h
  refine r_iload (q := 101) dX9_readOutcome_99 rfl rfl ?_
  refine r_bipush (v := 10) (q := 103) dX9_readOutcome_101 (by decide) rfl ?_
  refine r_icmp_ge 142 (q := 106) dX9_readOutcome_103 (by decide) rfl (fun c14 => ?_) (fun c14 => ?_)
  · rw [if_pos c14] at h
    refine r_iconst (v := 1) (q := 143) dX9_readOutcome_142 (by decide) rfl ?_
    cases h
    have hk := ke _ rfl
    exact r_retb dX9_readOutcome_143 rfl (Or.inr rfl) hk
  · rw [if_neg c14] at h
    refine r_iload_n (q := 107) dX9_readOutcome_106 rfl rfl ?_
    refine r_iload (q := 109) dX9_readOutcome_107 rfl rfl ?_
    refine r_ishr (q := 110) dX9_readOutcome_109 rfl ?_
    refine r_iconst (v := 1) (q := 111) dX9_readOutcome_110 (by decide) rfl ?_
    refine r_iand (q := 112) dX9_readOutcome_111 rfl ?_
    refine r_if_eq 136 (q := 115) dX9_readOutcome_112 (by decide) rfl (fun c15 => ?_) (fun c15 => ?_)
    · rw [if_pos c15] at h
      refine r_iinc (v := 1) (q := 139) (L' := [none, some (.inr 10), some (.inl x2), some (.inl x3), some (.inl (mm_b x4)), some (.inl x5), some (.inl x6), some (.inl (s.1 + 1))]) dX9_readOutcome_136 (by decide) (by decide) rfl rfl rfl ?_
      refine r_goto 99 dX9_readOutcome_139 (by decide) ?_
      cases h
      have hk := kb _ rfl
      exact hk
    · rw [if_neg c15] at h
      refine r_aload_n (q := 116) dX9_readOutcome_115 rfl rfl ?_
      refine r_iload_n (q := 117) dX9_readOutcome_116 rfl rfl ?_
      refine r_iload (q := 119) dX9_readOutcome_117 rfl rfl ?_
      refine r_iload (q := 121) dX9_readOutcome_119 rfl rfl ?_
      refine r_if_eq 129 (q := 124) dX9_readOutcome_121 (by decide) rfl (fun c16 => ?_) (fun c16 => ?_)
      · rw [if_neg (mm_b0 c16)] at h
        refine r_iload (q := 131) dX9_readOutcome_129 rfl rfl ?_
        refine r_iload (q := 133) dX9_readOutcome_131 rfl rfl ?_
        obtain ⟨y20, e19, h⟩ := mm_let_elim h
        refine r_callV_v (av := [(.inl x2), (.inl s.1), (.inl x5), (.inl x6)]) (st := []) (q := 136) (d1 := 0) kc_X9_68 sc_c_10 dX9_readOutcome_133 rfl rfl (Nat.le_of_ble_eq_true rfl) (Nat.le_of_ble_eq_true rfl) (by omega) rfl rfl (t_X8_tell (d := 0) (by omega) x2 s.1 x5 x6 s.2 _ e19) ?_
        refine r_iinc (v := 1) (q := 139) (L' := [none, some (.inr 10), some (.inl x2), some (.inl x3), some (.inl (mm_b x4)), some (.inl x5), some (.inl x6), some (.inl (s.1 + 1))]) dX9_readOutcome_136 (by decide) (by decide) rfl rfl rfl ?_
        refine r_goto 99 dX9_readOutcome_139 (by decide) ?_
        cases h
        have hk := kb _ rfl
        exact hk
      · rw [if_pos (mm_b1 c16)] at h
        refine r_iload (q := 126) dX9_readOutcome_124 rfl rfl ?_
        refine r_goto 131 dX9_readOutcome_126 (by decide) ?_
        refine r_iload (q := 133) dX9_readOutcome_131 rfl rfl ?_
        obtain ⟨y18, e17, h⟩ := mm_let_elim h
        refine r_callV_v (av := [(.inl x2), (.inl s.1), (.inl s.1), (.inl x6)]) (st := []) (q := 136) (d1 := 0) kc_X9_68 sc_c_10 dX9_readOutcome_133 rfl rfl (Nat.le_of_ble_eq_true rfl) (Nat.le_of_ble_eq_true rfl) (by omega) rfl rfl (t_X8_tell (d := 0) (by omega) x2 s.1 s.1 x6 s.2 _ e17) ?_
        refine r_iinc (v := 1) (q := 139) (L' := [none, some (.inr 10), some (.inl x2), some (.inl x3), some (.inl (mm_b x4)), some (.inl x5), some (.inl x6), some (.inl (s.1 + 1))]) dX9_readOutcome_136 (by decide) (by decide) rfl rfl rfl ?_
        refine r_goto 99 dX9_readOutcome_139 (by decide) ?_
        cases h
        have hk := kb _ rfl
        exact hk
noncomputable def X9_readOutcome_j42 (x2 : Int32) (x3 : Int32) (x4 : Bool) (M : mm_M) : Option (Bool × mm_M) := mm_let (X7_step M) fun y7 => mm_let (X7_take 61 y7) fun y9 => if y9.1 = true then if (X7_isDigit y9.2) = true then mm_let (X7_step y9.2) fun y13 => (mm_loop (X9_readOutcome_l99 x2 x3 x4 ((M 1 4) - 48) ((y9.2 1 4) - 48)) mm_fuel (0, y13)) else mm_let (X7_fail 1 (y9.2 1 2) y9.2) fun y24 => some (y24.1, y24.2) else some (false, y9.2)
set_option maxRecDepth 100000 in
set_option maxHeartbeats 400000 in
theorem t_X9_readOutcome_j42 {D : mm_D} {d : Nat} (hd : 2 ≤ d) (x2 : Int32) (x3 : Int32) (x4 : Bool) (M : mm_M) (res : (Bool × mm_M)) (h : X9_readOutcome_j42 x2 x3 x4 M = some res) : mm_Go jX9_readOutcome D d 0 0 42 [some (.inr 1), some (.inr 10), some (.inl x2), some (.inl x3), some (.inl (mm_b x4)), none, none, none] [] S_c M (mm_Zi (mm_b res.1) S_c res.2) := by
  unfold X9_readOutcome_j42 at h
  refine r_aload_n (q := 43) dX9_readOutcome_42 rfl rfl ?_
  refine r_geti (v := (M 1 4)) (q := 46) lk_X9_20 dX9_readOutcome_43 sc_c_1 rfl rfl rfl ?_
  refine r_bipush (v := 48) (q := 48) dX9_readOutcome_46 (by decide) rfl ?_
  refine r_isub (q := 49) dX9_readOutcome_48 rfl ?_
  refine r_istore (q := 51) (L' := [some (.inr 1), some (.inr 10), some (.inl x2), some (.inl x3), some (.inl (mm_b x4)), some (.inl ((M 1 4) - 48)), none, none]) dX9_readOutcome_49 (by decide) rfl rfl ?_
  refine r_aload_n (q := 52) dX9_readOutcome_51 rfl rfl ?_
  obtain ⟨y7, e6, h⟩ := mm_let_elim h
  refine r_callV_v (av := []) (st := []) (q := 55) (d1 := 0) kc_X9_40 sc_c_1 dX9_readOutcome_52 rfl rfl (Nat.le_of_ble_eq_true rfl) (Nat.le_of_ble_eq_true rfl) (by omega) rfl rfl (t_X7_step (d := 0) (by omega) M _ e6) ?_
  refine r_aload_n (q := 56) dX9_readOutcome_55 rfl rfl ?_
  refine r_bipush (v := 61) (q := 58) dX9_readOutcome_56 (by decide) rfl ?_
  obtain ⟨y9, e8, h⟩ := mm_let_elim h
  refine r_callV_i (av := [(.inl 61)]) (st := []) (q := 61) (d1 := 1) kc_X9_26 sc_c_1 dX9_readOutcome_58 rfl rfl (Nat.le_of_ble_eq_true rfl) (Nat.le_of_ble_eq_true rfl) (by omega) rfl rfl (t_X7_take (d := 1) (by omega) 61 y7 _ e8) ?_
  refine r_if_ne 66 (q := 64) dX9_readOutcome_61 (by decide) rfl (fun c10 => ?_) (fun c10 => ?_)
  · rw [if_pos (mm_b1 c10)] at h
    refine r_aload_n (q := 67) dX9_readOutcome_66 rfl rfl ?_
    refine r_callV_i (av := []) (st := []) (q := 70) (d1 := 0) kc_X9_47 sc_c_1 dX9_readOutcome_67 rfl rfl (Nat.le_of_ble_eq_true rfl) (Nat.le_of_ble_eq_true rfl) (by omega) rfl rfl (t_X7_isDigit (d := 0) (by omega) y9.2 _ rfl) ?_
    refine r_if_ne 83 (q := 73) dX9_readOutcome_70 (by decide) rfl (fun c11 => ?_) (fun c11 => ?_)
    · rw [if_pos (mm_b1 c11)] at h
      refine r_aload_n (q := 84) dX9_readOutcome_83 rfl rfl ?_
      refine r_geti (v := (y9.2 1 4)) (q := 87) lk_X9_20 dX9_readOutcome_84 sc_c_1 rfl rfl rfl ?_
      refine r_bipush (v := 48) (q := 89) dX9_readOutcome_87 (by decide) rfl ?_
      refine r_isub (q := 90) dX9_readOutcome_89 rfl ?_
      refine r_istore (q := 92) (L' := [some (.inr 1), some (.inr 10), some (.inl x2), some (.inl x3), some (.inl (mm_b x4)), some (.inl ((M 1 4) - 48)), some (.inl ((y9.2 1 4) - 48)), none]) dX9_readOutcome_90 (by decide) rfl rfl ?_
      refine r_aload_n (q := 93) dX9_readOutcome_92 rfl rfl ?_
      obtain ⟨y13, e12, h⟩ := mm_let_elim h
      refine r_callV_v (av := []) (st := []) (q := 96) (d1 := 0) kc_X9_40 sc_c_1 dX9_readOutcome_93 rfl rfl (Nat.le_of_ble_eq_true rfl) (Nat.le_of_ble_eq_true rfl) (by omega) rfl rfl (t_X7_step (d := 0) (by omega) y9.2 _ e12) ?_
      refine r_iconst (v := 0) (q := 97) dX9_readOutcome_96 (by decide) rfl ?_
      refine r_istore (q := 99) (L' := [some (.inr 1), some (.inr 10), some (.inl x2), some (.inl x3), some (.inl (mm_b x4)), some (.inl ((M 1 4) - 48)), some (.inl ((y9.2 1 4) - 48)), some (.inl 0)]) dX9_readOutcome_97 (by decide) rfl rfl ?_
      refine r_forget (L' := [none, some (.inr 10), some (.inl x2), some (.inl x3), some (.inl (mm_b x4)), some (.inl ((M 1 4) - 48)), some (.inl ((y9.2 1 4) - 48)), some (.inl 0)]) [false, true, true, true, true, true, true, true] rfl ?_
      exact t_X9_readOutcome_l99 hd x2 x3 x4 ((M 1 4) - 48) ((y9.2 1 4) - 48) mm_fuel (0, y13) _ h mm_Zi_rfl
    · rw [if_neg (mm_b0 c11)] at h
      refine r_aload_n (q := 74) dX9_readOutcome_73 rfl rfl ?_
      refine r_iconst (v := 1) (q := 75) dX9_readOutcome_74 (by decide) rfl ?_
      refine r_aload_n (q := 76) dX9_readOutcome_75 rfl rfl ?_
      refine r_geti (v := (y9.2 1 2)) (q := 79) lk_X9_33 dX9_readOutcome_76 sc_c_1 rfl rfl rfl ?_
      obtain ⟨y24, e23, h⟩ := mm_let_elim h
      refine r_callV_i (av := [(.inl 1), (.inl (y9.2 1 2))]) (st := []) (q := 82) (d1 := 0) kc_X9_36 sc_c_1 dX9_readOutcome_79 rfl rfl (Nat.le_of_ble_eq_true rfl) (Nat.le_of_ble_eq_true rfl) (by omega) rfl rfl (t_X7_fail (d := 0) (by omega) 1 (y9.2 1 2) y9.2 _ e23) ?_
      cases h
      exact r_retb dX9_readOutcome_82 rfl (mm_b01 _) mm_Zi_rfl
  · rw [if_neg (mm_b0 c10)] at h
    refine r_iconst (v := 0) (q := 65) dX9_readOutcome_64 (by decide) rfl ?_
    cases h
    exact r_retb dX9_readOutcome_65 rfl (Or.inl rfl) mm_Zi_rfl
noncomputable def X9_readOutcome_j25 (x2 : Int32) (x3 : Int32) (z0 : Bool) (M : mm_M) : Option (Bool × mm_M) := if z0 = true then X9_readOutcome_j42 x2 x3 z0 M else mm_let (X9_readsState M) fun y26 => if y26.1 = true then X9_readOutcome_j42 x2 x3 z0 y26.2 else some (false, y26.2)
set_option maxRecDepth 100000 in
set_option maxHeartbeats 400000 in
theorem t_X9_readOutcome_j25 {D : mm_D} {d : Nat} (hd : 2 ≤ d) (x2 : Int32) (x3 : Int32) (z0 : Bool) (M : mm_M) (res : (Bool × mm_M)) (h : X9_readOutcome_j25 x2 x3 z0 M = some res) : mm_Go jX9_readOutcome D d 0 0 25 [some (.inr 1), some (.inr 10), some (.inl x2), some (.inl x3), none, none, none, none] [(.inl (mm_b z0))] S_c M (mm_Zi (mm_b res.1) S_c res.2) := by
  unfold X9_readOutcome_j25 at h
  refine r_istore (q := 27) (L' := [some (.inr 1), some (.inr 10), some (.inl x2), some (.inl x3), some (.inl (mm_b z0)), none, none, none]) dX9_readOutcome_25 (by decide) rfl rfl ?_
  refine r_iload (q := 29) dX9_readOutcome_27 rfl rfl ?_
  refine r_if_ne 42 (q := 32) dX9_readOutcome_29 (by decide) rfl (fun c5 => ?_) (fun c5 => ?_)
  · rw [if_pos (mm_b1 c5)] at h
    exact t_X9_readOutcome_j42 hd x2 x3 z0 M _ h
  · rw [if_neg (mm_b0 c5)] at h
    refine r_aload_n (q := 33) dX9_readOutcome_32 rfl rfl ?_
    refine r_aload_n (q := 34) dX9_readOutcome_33 rfl rfl ?_
    obtain ⟨y26, e25, h⟩ := mm_let_elim h
    refine r_callS_i (av := [(.inr 1), (.inr 10)]) (st := []) (q := 37) (d1 := 1) kc_X9_58 dX9_readOutcome_34 rfl rfl (Nat.le_of_ble_eq_true rfl) (Nat.le_of_ble_eq_true rfl) (by omega) rfl rfl (t_X9_readsState (d := 1) (by omega) M _ e25) ?_
    refine r_if_ne 42 (q := 40) dX9_readOutcome_37 (by decide) rfl (fun c27 => ?_) (fun c27 => ?_)
    · rw [if_pos (mm_b1 c27)] at h
      exact t_X9_readOutcome_j42 hd x2 x3 z0 y26.2 _ h
    · rw [if_neg (mm_b0 c27)] at h
      refine r_iconst (v := 0) (q := 41) dX9_readOutcome_40 (by decide) rfl ?_
      cases h
      exact r_retb dX9_readOutcome_41 rfl (Or.inl rfl) mm_Zi_rfl
noncomputable def X9_readOutcome (x2 : Int32) (x3 : Int32) (M : mm_M) : Option (Bool × mm_M) := mm_let (X7_take 62 M) fun y2 => if y2.1 = true then if (y2.2 1 4) = 46 then X9_readOutcome_j25 x2 x3 true y2.2 else X9_readOutcome_j25 x2 x3 false y2.2 else some (false, y2.2)
set_option maxRecDepth 100000 in
set_option maxHeartbeats 400000 in
theorem t_X9_readOutcome {d : Nat} (hd : 2 ≤ d) (x2 : Int32) (x3 : Int32) (M : mm_M) (res : (Bool × mm_M)) (h : X9_readOutcome x2 x3 M = some res) : mm_Meth jX9_readOutcome d 0 0 [(.inr 1), (.inr 10), (.inl x2), (.inl x3)] S_c M (mm_Zi (mm_b res.1) S_c res.2) := by
  refine r_meth (L := [some (.inr 1), some (.inr 10), some (.inl x2), some (.inl x3), none, none, none, none]) rfl (fun D => ?_)
  unfold X9_readOutcome at h
  refine r_aload_n (q := 1) dX9_readOutcome_0 rfl rfl ?_
  refine r_bipush (v := 62) (q := 3) dX9_readOutcome_1 (by decide) rfl ?_
  obtain ⟨y2, e1, h⟩ := mm_let_elim h
  refine r_callV_i (av := [(.inl 62)]) (st := []) (q := 6) (d1 := 1) kc_X9_26 sc_c_1 dX9_readOutcome_3 rfl rfl (Nat.le_of_ble_eq_true rfl) (Nat.le_of_ble_eq_true rfl) (by omega) rfl rfl (t_X7_take (d := 1) (by omega) 62 M _ e1) ?_
  refine r_if_ne 11 (q := 9) dX9_readOutcome_6 (by decide) rfl (fun c3 => ?_) (fun c3 => ?_)
  · rw [if_pos (mm_b1 c3)] at h
    refine r_aload_n (q := 12) dX9_readOutcome_11 rfl rfl ?_
    refine r_geti (v := (y2.2 1 4)) (q := 15) lk_X9_20 dX9_readOutcome_12 sc_c_1 rfl rfl rfl ?_
    refine r_bipush (v := 46) (q := 17) dX9_readOutcome_15 (by decide) rfl ?_
    refine r_icmp_ne 24 (q := 20) dX9_readOutcome_17 (by decide) rfl (fun c4 => ?_) (fun c4 => ?_)
    · rw [if_neg c4] at h
      refine r_iconst (v := 0) (q := 25) dX9_readOutcome_24 (by decide) rfl ?_
      exact t_X9_readOutcome_j25 hd x2 x3 false y2.2 _ h
    · rw [if_pos c4] at h
      refine r_iconst (v := 1) (q := 21) dX9_readOutcome_20 (by decide) rfl ?_
      refine r_goto 25 dX9_readOutcome_21 (by decide) ?_
      exact t_X9_readOutcome_j25 hd x2 x3 true y2.2 _ h
  · rw [if_neg (mm_b0 c3)] at h
    refine r_iconst (v := 0) (q := 10) dX9_readOutcome_9 (by decide) rfl ?_
    cases h
    exact r_retb dX9_readOutcome_10 rfl (Or.inl rfl) mm_Zi_rfl
