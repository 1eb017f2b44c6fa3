noncomputable def X9_readLine_j83l11 (M : mm_M) : Option ((Int32 × Bool × Int32 × mm_M) ⊕ (Bool × mm_M)) := mm_let (X7_fail 7 (M 1 2) M) fun y9 => some (.inr (y9.1, y9.2))
set_option maxRecDepth 100000 in
set_option maxHeartbeats 400000 in
theorem t_X9_readLine_j83l11 {D : mm_D} {d : Nat} (hd : 3 ≤ d) {Z : Option Int32 → List mm_C → mm_M → Prop} {x2 : Int32} (M : mm_M) (o : (Int32 × Bool × Int32 × mm_M) ⊕ (Bool × mm_M)) (h : X9_readLine_j83l11 M = some o) (kb : ∀ s', o = .inl s' → mm_Go jX9_readLine D d 0 0 11 [some (.inr 1), some (.inr 10), some (.inl x2), some (.inl s'.1), some (.inl (mm_b s'.2.1)), some (.inl s'.2.2.1), none, none] [] S_c s'.2.2.2 Z) (ke : ∀ r, o = .inr r → Z (some (mm_b r.1)) S_c r.2) : mm_Go jX9_readLine D d 0 0 83 [some (.inr 1), none, none, none, none, none, none, none] [] S_c M Z := by
  unfold X9_readLine_j83l11 at h
  refine r_aload_n (q := 84) dX9_readLine_83 rfl rfl ?_
  refine r_bipush (v := 7) (q := 86) dX9_readLine_84 (by decide) rfl ?_
  refine r_aload_n (q := 87) dX9_readLine_86 rfl rfl ?_
  refine r_geti (v := (M 1 2)) (q := 90) lk_X9_33 dX9_readLine_87 sc_c_1 rfl rfl rfl ?_
  obtain ⟨y9, e8, h⟩ := mm_let_elim h
  refine r_callV_i (av := [(.inl 7), (.inl (M 1 2))]) (st := []) (q := 93) (d1 := 0) kc_X9_36 sc_c_1 dX9_readLine_90 rfl rfl (Nat.le_of_ble_eq_true rfl) (Nat.le_of_ble_eq_true rfl) (by omega) rfl rfl (t_X7_fail (d := 0) (by omega) 7 (M 1 2) M _ e8) ?_
  cases h
  have hk := ke _ rfl
  exact r_retb dX9_readLine_93 rfl (mm_b01 _) hk
noncomputable def X9_readLine_j67l11 (x2 : Int32) (x3 : Int32) (x4 : Bool) (x5 : Int32) (x6 : Bool) (z0 : Int32) (M : mm_M) : Option ((Int32 × Bool × Int32 × mm_M) ⊕ (Bool × mm_M)) := if x4 = true then X9_readLine_j83l11 M else if (z0 &&& x3) = z0 then mm_let (X7_step M) fun y12 => (X9_readOutcome x2 z0 y12).bind fun y14 => if y14.1 = true then if (y14.2 1 4) = 44 then mm_let (X7_step y14.2) fun y18 => some (.inl ((x3 &&& (z0 ^^^ (-1))), x6, (x5 + 1), y18)) else some (.inr (true, y14.2)) else some (.inr (false, y14.2)) else X9_readLine_j83l11 M
set_option maxRecDepth 100000 in
set_option maxHeartbeats 400000 in
theorem t_X9_readLine_j67l11 {D : mm_D} {d : Nat} (hd : 3 ≤ d) {Z : Option Int32 → List mm_C → mm_M → Prop} (x2 : Int32) (x3 : Int32) (x4 : Bool) (x5 : Int32) (x6 : Bool) (z0 : Int32) (M : mm_M) (o : (Int32 × Bool × Int32 × mm_M) ⊕ (Bool × mm_M)) (h : X9_readLine_j67l11 x2 x3 x4 x5 x6 z0 M = some o) (kb : ∀ s', o = .inl s' → mm_Go jX9_readLine D d 0 0 11 [some (.inr 1), some (.inr 10), some (.inl x2), some (.inl s'.1), some (.inl (mm_b s'.2.1)), some (.inl s'.2.2.1), none, none] [] S_c s'.2.2.2 Z) (ke : ∀ r, o = .inr r → Z (some (mm_b r.1)) S_c r.2) : mm_Go jX9_readLine D d 0 0 67 [some (.inr 1), some (.inr 10), some (.inl x2), some (.inl x3), some (.inl (mm_b x4)), some (.inl x5), some (.inl (mm_b x6)), none] [(.inl z0)] S_c M Z := by
  unfold X9_readLine_j67l11 at h
  refine r_istore (q := 69) (L' := [some (.inr 1), some (.inr 10), some (.inl x2), some (.inl x3), some (.inl (mm_b x4)), some (.inl x5), some (.inl (mm_b x6)), some (.inl z0)]) dX9_readLine_67 (by decide) rfl rfl ?_
  refine r_iload (q := 71) dX9_readLine_69 rfl rfl ?_
  refine r_if_ne 83 (q := 74) dX9_readLine_71 (by decide) rfl (fun c7 => ?_) (fun c7 => ?_)
  · rw [if_pos (mm_b1 c7)] at h
    refine r_forget (L' := [some (.inr 1), none, none, none, none, none, none, none]) [true, false, false, false, false, false, false, false] rfl ?_
    exact t_X9_readLine_j83l11 hd M _ h kb ke
  · rw [if_neg (mm_b0 c7)] at h
    refine r_iload (q := 76) dX9_readLine_74 rfl rfl ?_
    refine r_iload_n (q := 77) dX9_readLine_76 rfl rfl ?_
    refine r_iand (q := 78) dX9_readLine_77 rfl ?_
    refine r_iload (q := 80) dX9_readLine_78 rfl rfl ?_
    refine r_icmp_eq 94 (q := 83) dX9_readLine_80 (by decide) rfl (fun c10 => ?_) (fun c10 => ?_)
    · rw [if_pos c10] at h
      refine r_iload (q := 96) dX9_readLine_94 rfl rfl ?_
      refine r_istore (q := 98) (L' := [some (.inr 1), some (.inr 10), some (.inl x2), some (.inl x3), some (.inl (mm_b x6)), some (.inl x5), some (.inl (mm_b x6)), some (.inl z0)]) dX9_readLine_96 (by decide) rfl rfl ?_
      refine r_iload_n (q := 99) dX9_readLine_98 rfl rfl ?_
      refine r_iload (q := 101) dX9_readLine_99 rfl rfl ?_
      refine r_iconst (v := (-1)) (q := 102) dX9_readLine_101 (by decide) rfl ?_
      refine r_ixor (q := 103) dX9_readLine_102 rfl ?_
      refine r_iand (q := 104) dX9_readLine_103 rfl ?_
      refine r_istore_n (q := 105) (L' := [some (.inr 1), some (.inr 10), some (.inl x2), some (.inl (x3 &&& (z0 ^^^ (-1)))), some (.inl (mm_b x6)), some (.inl x5), some (.inl (mm_b x6)), some (.inl z0)]) dX9_readLine_104 (by decide) rfl rfl ?_
      refine r_aload_n (q := 106) dX9_readLine_105 rfl rfl ?_
      obtain ⟨y12, e11, h⟩ := mm_let_elim h
      refine r_callV_v (av := []) (st := []) (q := 109) (d1 := 0) kc_X9_40 sc_c_1 dX9_readLine_106 rfl rfl (Nat.le_of_ble_eq_true rfl) (Nat.le_of_ble_eq_true rfl) (by omega) rfl rfl (t_X7_step (d := 0) (by omega) M _ e11) ?_
      refine r_aload_n (q := 110) dX9_readLine_109 rfl rfl ?_
      refine r_aload_n (q := 111) dX9_readLine_110 rfl rfl ?_
      refine r_iload_n (q := 112) dX9_readLine_111 rfl rfl ?_
      refine r_iload (q := 114) dX9_readLine_112 rfl rfl ?_
      obtain ⟨y14, e13, h⟩ := Option.bind_eq_some_iff.mp h
      refine r_callS_i (av := [(.inr 1), (.inr 10), (.inl x2), (.inl z0)]) (st := []) (q := 117) (d1 := 2) kc_X9_61 dX9_readLine_114 rfl rfl (Nat.le_of_ble_eq_true rfl) (Nat.le_of_ble_eq_true rfl) (by omega) rfl rfl (t_X9_readOutcome (d := 2) (by omega) x2 z0 y12 _ e13) ?_
      refine r_if_ne 122 (q := 120) dX9_readLine_117 (by decide) rfl (fun c15 => ?_) (fun c15 => ?_)
      · rw [if_pos (mm_b1 c15)] at h
        refine r_aload_n (q := 123) dX9_readLine_122 rfl rfl ?_
        refine r_geti (v := (y14.2 1 4)) (q := 126) lk_X9_20 dX9_readLine_123 sc_c_1 rfl rfl rfl ?_
        refine r_bipush (v := 44) (q := 128) dX9_readLine_126 (by decide) rfl ?_
        refine r_icmp_eq 133 (q := 131) dX9_readLine_128 (by decide) rfl (fun c16 => ?_) (fun c16 => ?_)
        · rw [if_pos c16] at h
          refine r_aload_n (q := 134) dX9_readLine_133 rfl rfl ?_
          obtain ⟨y18, e17, h⟩ := mm_let_elim h
          refine r_callV_v (av := []) (st := []) (q := 137) (d1 := 0) kc_X9_40 sc_c_1 dX9_readLine_134 rfl rfl (Nat.le_of_ble_eq_true rfl) (Nat.le_of_ble_eq_true rfl) (by omega) rfl rfl (t_X7_step (d := 0) (by omega) y14.2 _ e17) ?_
          refine r_iinc (v := 1) (q := 140) (L' := [some (.inr 1), some (.inr 10), some (.inl x2), some (.inl (x3 &&& (z0 ^^^ (-1)))), some (.inl (mm_b x6)), some (.inl (x5 + 1)), some (.inl (mm_b x6)), some (.inl z0)]) dX9_readLine_137 (by decide) (by decide) rfl rfl rfl ?_
          refine r_goto 11 dX9_readLine_140 (by decide) ?_
          refine r_forget (L' := [some (.inr 1), some (.inr 10), some (.inl x2), some (.inl (x3 &&& (z0 ^^^ (-1)))), some (.inl (mm_b x6)), some (.inl (x5 + 1)), none, none]) [true, true, true, true, true, true, false, false] rfl ?_
          cases h
          have hk := kb _ rfl
          exact hk
        · rw [if_neg c16] at h
          refine r_iconst (v := 1) (q := 132) dX9_readLine_131 (by decide) rfl ?_
          cases h
          have hk := ke _ rfl
          exact r_retb dX9_readLine_132 rfl (Or.inr rfl) hk
      · rw [if_neg (mm_b0 c15)] at h
        refine r_iconst (v := 0) (q := 121) dX9_readLine_120 (by decide) rfl ?_
        cases h
        have hk := ke _ rfl
        exact r_retb dX9_readLine_121 rfl (Or.inl rfl) hk
    · rw [if_neg c10] at h
      refine r_forget (L' := [some (.inr 1), none, none, none, none, none, none, none]) [true, false, false, false, false, false, false, false] rfl ?_
      exact t_X9_readLine_j83l11 hd M _ h kb ke
noncomputable def X9_readLine_j49l11 (x2 : Int32) (x3 : Int32) (x4 : Bool) (x5 : Int32) (x6 : Bool) (M : mm_M) : Option ((Int32 × Bool × Int32 × mm_M) ⊕ (Bool × mm_M)) := if x6 = true then X9_readLine_j67l11 x2 x3 x4 x5 x6 x3 M else X9_readLine_j67l11 x2 x3 x4 x5 x6 ((1 : Int32) <<< (((M 1 4) - 48) &&& 31)) M
set_option maxRecDepth 100000 in
set_option maxHeartbeats 400000 in
theorem t_X9_readLine_j49l11 {D : mm_D} {d : Nat} (hd : 3 ≤ d) {Z : Option Int32 → List mm_C → mm_M → Prop} (x2 : Int32) (x3 : Int32) (x4 : Bool) (x5 : Int32) (x6 : Bool) (M : mm_M) (o : (Int32 × Bool × Int32 × mm_M) ⊕ (Bool × mm_M)) (h : X9_readLine_j49l11 x2 x3 x4 x5 x6 M = some o) (kb : ∀ s', o = .inl s' → mm_Go jX9_readLine D d 0 0 11 [some (.inr 1), some (.inr 10), some (.inl x2), some (.inl s'.1), some (.inl (mm_b s'.2.1)), some (.inl s'.2.2.1), none, none] [] S_c s'.2.2.2 Z) (ke : ∀ r, o = .inr r → Z (some (mm_b r.1)) S_c r.2) : mm_Go jX9_readLine D d 0 0 49 [some (.inr 1), some (.inr 10), some (.inl x2), some (.inl x3), some (.inl (mm_b x4)), some (.inl x5), some (.inl (mm_b x6)), none] [] S_c M Z := by
  unfold X9_readLine_j49l11 at h
  refine r_iload (q := 51) dX9_readLine_49 rfl rfl ?_
  refine r_if_eq 58 (q := 54) dX9_readLine_51 (by decide) rfl (fun c6 => ?_) (fun c6 => ?_)
  · rw [if_neg (mm_b0 c6)] at h
    refine r_iconst (v := 1) (q := 59) dX9_readLine_58 (by decide) rfl ?_
    refine r_aload_n (q := 60) dX9_readLine_59 rfl rfl ?_
    refine r_geti (v := (M 1 4)) (q := 63) lk_X9_20 dX9_readLine_60 sc_c_1 rfl rfl rfl ?_
    refine r_bipush (v := 48) (q := 65) dX9_readLine_63 (by decide) rfl ?_
    refine r_isub (q := 66) dX9_readLine_65 rfl ?_
    refine r_ishl (q := 67) dX9_readLine_66 rfl ?_
    exact t_X9_readLine_j67l11 hd x2 x3 x4 x5 x6 ((1 : Int32) <<< (((M 1 4) - 48) &&& 31)) M _ h kb ke
  · rw [if_pos (mm_b1 c6)] at h
    refine r_iload_n (q := 55) dX9_readLine_54 rfl rfl ?_
    refine r_goto 67 dX9_readLine_55 (by decide) ?_
    exact t_X9_readLine_j67l11 hd x2 x3 x4 x5 x6 x3 M _ h kb ke
noncomputable def X9_readLine_j32l11 (x2 : Int32) (x3 : Int32) (x4 : Bool) (x5 : Int32) (z0 : Bool) (M : mm_M) : Option ((Int32 × Bool × Int32 × mm_M) ⊕ (Bool × mm_M)) := if z0 = true then X9_readLine_j49l11 x2 x3 x4 x5 z0 M else mm_let (X9_readsState M) fun y20 => if y20.1 = true then X9_readLine_j49l11 x2 x3 x4 x5 z0 y20.2 else some (.inr (false, y20.2))
set_option maxRecDepth 100000 in
set_option maxHeartbeats 400000 in
theorem t_X9_readLine_j32l11 {D : mm_D} {d : Nat} (hd : 3 ≤ d) {Z : Option Int32 → List mm_C → mm_M → Prop} (x2 : Int32) (x3 : Int32) (x4 : Bool) (x5 : Int32) (z0 : Bool) (M : mm_M) (o : (Int32 × Bool × Int32 × mm_M) ⊕ (Bool × mm_M)) (h : X9_readLine_j32l11 x2 x3 x4 x5 z0 M = some o) (kb : ∀ s', o = .inl s' → mm_Go jX9_readLine D d 0 0 11 [some (.inr 1), some (.inr 10), some (.inl x2), some (.inl s'.1), some (.inl (mm_b s'.2.1)), some (.inl s'.2.2.1), none, none] [] S_c s'.2.2.2 Z) (ke : ∀ r, o = .inr r → Z (some (mm_b r.1)) S_c r.2) : mm_Go jX9_readLine D d 0 0 32 [some (.inr 1), some (.inr 10), some (.inl x2), some (.inl x3), some (.inl (mm_b x4)), some (.inl x5), none, none] [(.inl (mm_b z0))] S_c M Z := by
  unfold X9_readLine_j32l11 at h
  refine r_istore (q := 34) (L' := [some (.inr 1), some (.inr 10), some (.inl x2), some (.inl x3), some (.inl (mm_b x4)), some (.inl x5), some (.inl (mm_b z0)), none]) dX9_readLine_32 (by decide) rfl rfl ?_
  refine r_iload (q := 36) dX9_readLine_34 rfl rfl ?_
  refine r_if_ne 49 (q := 39) dX9_readLine_36 (by decide) rfl (fun c5 => ?_) (fun c5 => ?_)
  · rw [if_pos (mm_b1 c5)] at h
    exact t_X9_readLine_j49l11 hd x2 x3 x4 x5 z0 M _ h kb ke
  · rw [if_neg (mm_b0 c5)] at h
    refine r_aload_n (q := 40) dX9_readLine_39 rfl rfl ?_
    refine r_aload_n (q := 41) dX9_readLine_40 rfl rfl ?_
    obtain ⟨y20, e19, h⟩ := mm_let_elim h
    refine r_callS_i (av := [(.inr 1), (.inr 10)]) (st := []) (q := 44) (d1 := 1) kc_X9_58 dX9_readLine_41 rfl rfl (Nat.le_of_ble_eq_true rfl) (Nat.le_of_ble_eq_true rfl) (by omega) rfl rfl (t_X9_readsState (d := 1) (by omega) M _ e19) ?_
    refine r_if_ne 49 (q := 47) dX9_readLine_44 (by decide) rfl (fun c21 => ?_) (fun c21 => ?_)
    · rw [if_pos (mm_b1 c21)] at h
      exact t_X9_readLine_j49l11 hd x2 x3 x4 x5 z0 y20.2 _ h kb ke
    · rw [if_neg (mm_b0 c21)] at h
      refine r_iconst (v := 0) (q := 48) dX9_readLine_47 (by decide) rfl ?_
      cases h
      have hk := ke _ rfl
      exact r_retb dX9_readLine_48 rfl (Or.inl rfl) hk
noncomputable def X9_readLine_l11 (x2 : Int32) (s : (Int32 × Bool × Int32 × mm_M)) : Option ((Int32 × Bool × Int32 × mm_M) ⊕ (Bool × mm_M)) := if 11 < s.2.2.1 then mm_let (X7_fail 7 (s.2.2.2 1 2) s.2.2.2) fun y3 => some (.inr (y3.1, y3.2)) else if (s.2.2.2 1 4) = 42 then X9_readLine_j32l11 x2 s.1 s.2.1 s.2.2.1 true s.2.2.2 else X9_readLine_j32l11 x2 s.1 s.2.1 s.2.2.1 false s.2.2.2
set_option maxRecDepth 100000 in
set_option maxHeartbeats 400000 in
theorem t_X9_readLine_l11 {D : mm_D} {d : Nat} (hd : 3 ≤ d) {Z : Option Int32 → List mm_C → mm_M → Prop} (x2 : Int32) (n : Nat) (s : (Int32 × Bool × Int32 × mm_M)) (r : (Bool × mm_M)) (h : mm_loop (X9_readLine_l11 x2) n s = some r) (hx : Z (some (mm_b r.1)) S_c r.2) : mm_Go jX9_readLine D d 0 0 11 [some (.inr 1), some (.inr 10), some (.inl x2), some (.inl s.1), some (.inl (mm_b s.2.1)), some (.inl s.2.2.1), none, none] [] S_c s.2.2.2 Z := by
  refine mm_loop_go (step := X9_readLine_l11 x2) (Hd := fun (s : (Int32 × Bool × Int32 × mm_M)) => mm_Go jX9_readLine D d 0 0 11 [some (.inr 1), some (.inr 10), some (.inl x2), some (.inl s.1), some (.inl (mm_b s.2.1)), some (.inl s.2.2.1), none, none] [] S_c s.2.2.2 Z) (Ex := fun (r : (Bool × mm_M)) => Z (some (mm_b r.1)) S_c r.2) ?_ n s r h hx
  intro s o h kb ke
  show mm_Go jX9_readLine D d 0 0 11 [some (.inr 1), some (.inr 10), some (.inl x2), some (.inl s.1), some (.inl (mm_b s.2.1)), some (.inl s.2.2.1), none, none] [] S_c s.2.2.2 Z
  unfold X9_readLine_l11 at h
  refine r_iload (q := 13) dX9_readLine_11 rfl rfl ?_
  refine r_bipush (v := 11) (q := 15) dX9_readLine_13 (by decide) rfl ?_
  refine r_icmp_gt 143 (q := 18) dX9_readLine_15 (by decide) rfl (fun c1 => ?_) (fun c1 => ?_)
  · rw [if_pos c1] at h
    refine r_aload_n (q := 144) dX9_readLine_143 rfl rfl ?_
    refine r_bipush (v := 7) (q := 146) dX9_readLine_144 (by decide) rfl ?_
    refine r_aload_n (q := 147) dX9_readLine_146 rfl rfl ?_
    refine r_geti (v := (s.2.2.2 1 2)) (q := 150) lk_X9_33 dX9_readLine_147 sc_c_1 rfl rfl rfl ?_
    obtain ⟨y3, e2, h⟩ := mm_let_elim h
    refine r_callV_i (av := [(.inl 7), (.inl (s.2.2.2 1 2))]) (st := []) (q := 153) (d1 := 0) kc_X9_36 sc_c_1 dX9_readLine_150 rfl rfl (Nat.le_of_ble_eq_true rfl) (Nat.le_of_ble_eq_true rfl) (by omega) rfl rfl (t_X7_fail (d := 0) (by omega) 7 (s.2.2.2 1 2) s.2.2.2 _ e2) ?_
    cases h
    have hk := ke _ rfl
    exact r_retb dX9_readLine_153 rfl (mm_b01 _) hk
  · rw [if_neg c1] at h
    refine r_aload_n (q := 19) dX9_readLine_18 rfl rfl ?_
    refine r_geti (v := (s.2.2.2 1 4)) (q := 22) lk_X9_20 dX9_readLine_19 sc_c_1 rfl rfl rfl ?_
    refine r_bipush (v := 42) (q := 24) dX9_readLine_22 (by decide) rfl ?_
    refine r_icmp_ne 31 (q := 27) dX9_readLine_24 (by decide) rfl (fun c4 => ?_) (fun c4 => ?_)
    · rw [if_neg c4] at h
      refine r_iconst (v := 0) (q := 32) dX9_readLine_31 (by decide) rfl ?_
      exact t_X9_readLine_j32l11 hd x2 s.1 s.2.1 s.2.2.1 false s.2.2.2 _ h kb ke
    · rw [if_pos c4] at h
      refine r_iconst (v := 1) (q := 28) dX9_readLine_27 (by decide) rfl ?_
      refine r_goto 32 dX9_readLine_28 (by decide) ?_
      exact t_X9_readLine_j32l11 hd x2 s.1 s.2.1 s.2.2.1 true s.2.2.2 _ h kb ke
noncomputable def X9_readLine (x2 : Int32) (M : mm_M) : Option (Bool × mm_M) := (mm_loop (X9_readLine_l11 x2) mm_fuel ((X8_everyState 10 M), false, 0, M))
set_option maxRecDepth 100000 in
set_option maxHeartbeats 400000 in
theorem t_X9_readLine {d : Nat} (hd : 3 ≤ d) (x2 : Int32) (M : mm_M) (res : (Bool × mm_M)) (h : X9_readLine x2 M = some res) : mm_Meth jX9_readLine d 0 0 [(.inr 1), (.inr 10), (.inl x2)] S_c M (mm_Zi (mm_b res.1) S_c res.2) := by
  refine r_meth (L := [some (.inr 1), some (.inr 10), some (.inl x2), none, none, none, none, none]) rfl (fun D => ?_)
  unfold X9_readLine at h
  refine r_aload_n (q := 1) dX9_readLine_0 rfl rfl ?_
  refine r_callV_i (av := []) (st := []) (q := 4) (d1 := 0) kc_X9_54 sc_c_10 dX9_readLine_1 rfl rfl (Nat.le_of_ble_eq_true rfl) (Nat.le_of_ble_eq_true rfl) (by omega) rfl rfl (t_X8_everyState_10 (d := 0) (by omega) M _ rfl) ?_
  refine r_istore_n (q := 5) (L' := [some (.inr 1), some (.inr 10), some (.inl x2), some (.inl (X8_everyState 10 M)), none, none, none, none]) dX9_readLine_4 (by decide) rfl rfl ?_
  refine r_iconst (v := 0) (q := 6) dX9_readLine_5 (by decide) rfl ?_
  refine r_istore (q := 8) (L' := [some (.inr 1), some (.inr 10), some (.inl x2), some (.inl (X8_everyState 10 M)), some (.inl 0), none, none, none]) dX9_readLine_6 (by decide) rfl rfl ?_
  refine r_iconst (v := 0) (q := 9) dX9_readLine_8 (by decide) rfl ?_
  refine r_istore (q := 11) (L' := [some (.inr 1), some (.inr 10), some (.inl x2), some (.inl (X8_everyState 10 M)), some (.inl 0), some (.inl 0), none, none]) dX9_readLine_9 (by decide) rfl rfl ?_
  exact t_X9_readLine_l11 hd x2 mm_fuel ((X8_everyState 10 M), false, 0, M) _ h mm_Zi_rfl
noncomputable def X9_read_l18 (s : (Int32 × Int32 × mm_M)) : Option ((Int32 × Int32 × mm_M) ⊕ (Bool × mm_M)) := if 8 < s.2.1 then some (.inr (true, s.2.2)) else if (s.2.2 1 4) = (-1) then some (.inr (true, s.2.2)) else mm_let (X7_take 59 s.2.2) fun y9 => if y9.1 = true then if (X11_isQuestion ((y9.2 1 4) - 97)) = true then if ((s.1 >>> (((y9.2 1 4) - 97) &&& 31)) &&& 1) = 0 then mm_let (X7_step y9.2) fun y14 => mm_let (X7_take 58 y14) fun y16 => if y16.1 = true then (X9_readLine ((y9.2 1 4) - 97) y16.2).bind fun y19 => if y19.1 = true then some (.inl ((s.1 ||| ((1 : Int32) <<< (((y9.2 1 4) - 97) &&& 31))), (s.2.1 + 1), y19.2)) else some (.inr (false, y19.2)) else some (.inr (false, y16.2)) else mm_let (X7_fail 6 (y9.2 1 2) y9.2) fun y22 => some (.inr (y22.1, y22.2)) else mm_let (X7_fail 1 (y9.2 1 2) y9.2) fun y24 => some (.inr (y24.1, y24.2)) else some (.inr (false, y9.2))
set_option maxRecDepth 100000 in
set_option maxHeartbeats 400000 in
theorem t_X9_read_l18 {D : mm_D} {d : Nat} (hd : 4 ≤ d) {Z : Option Int32 → List mm_C → mm_M → Prop} (n : Nat) (s : (Int32 × Int32 × mm_M)) (r : (Bool × mm_M)) (h : mm_loop (X9_read_l18) n s = some r) (hx : Z (some (mm_b r.1)) S_c r.2) : mm_Go jX9_read D d 0 0 18 [some (.inr 1), some (.inr 10), some (.inl s.1), some (.inl s.2.1), none] [] S_c s.2.2 Z := by
  refine mm_loop_go (step := X9_read_l18) (Hd := fun (s : (Int32 × Int32 × mm_M)) => mm_Go jX9_read D d 0 0 18 [some (.inr 1), some (.inr 10), some (.inl s.1), some (.inl s.2.1), none] [] S_c s.2.2 Z) (Ex := fun (r : (Bool × mm_M)) => Z (some (mm_b r.1)) S_c r.2) ?_ n s r h hx
  intro s o h kb ke
  show mm_Go jX9_read D d 0 0 18 [some (.inr 1), some (.inr 10), some (.inl s.1), some (.inl s.2.1), none] [] S_c s.2.2 Z
  unfold X9_read_l18 at h
  refine r_iload_n (q := 19) dX9_read_18 rfl rfl ?_
  refine r_bipush (v := 8) (q := 21) dX9_read_19 (by decide) rfl ?_
  refine r_icmp_gt 128 (q := 24) dX9_read_21 (by decide) rfl (fun c6 => ?_) (fun c6 => ?_)
  · rw [if_pos c6] at h
    refine r_iconst (v := 1) (q := 129) dX9_read_128 (by decide) rfl ?_
    cases h
    have hk := ke _ rfl
    exact r_retb dX9_read_129 rfl (Or.inr rfl) hk
  · rw [if_neg c6] at h
    refine r_aload_n (q := 25) dX9_read_24 rfl rfl ?_
    refine r_geti (v := (s.2.2 1 4)) (q := 28) lk_X9_20 dX9_read_25 sc_c_1 rfl rfl rfl ?_
    refine r_iconst (v := (-1)) (q := 29) dX9_read_28 (by decide) rfl ?_
    refine r_icmp_eq 128 (q := 32) dX9_read_29 (by decide) rfl (fun c7 => ?_) (fun c7 => ?_)
    · rw [if_pos c7] at h
      refine r_iconst (v := 1) (q := 129) dX9_read_128 (by decide) rfl ?_
      cases h
      have hk := ke _ rfl
      exact r_retb dX9_read_129 rfl (Or.inr rfl) hk
    · rw [if_neg c7] at h
      refine r_aload_n (q := 33) dX9_read_32 rfl rfl ?_
      refine r_bipush (v := 59) (q := 35) dX9_read_33 (by decide) rfl ?_
      obtain ⟨y9, e8, h⟩ := mm_let_elim h
      refine r_callV_i (av := [(.inl 59)]) (st := []) (q := 38) (d1 := 1) kc_X9_26 sc_c_1 dX9_read_35 rfl rfl (Nat.le_of_ble_eq_true rfl) (Nat.le_of_ble_eq_true rfl) (by omega) rfl rfl (t_X7_take (d := 1) (by omega) 59 s.2.2 _ e8) ?_
      refine r_if_ne 43 (q := 41) dX9_read_38 (by decide) rfl (fun c10 => ?_) (fun c10 => ?_)
      · rw [if_pos (mm_b1 c10)] at h
        refine r_aload_n (q := 44) dX9_read_43 rfl rfl ?_
        refine r_geti (v := (y9.2 1 4)) (q := 47) lk_X9_20 dX9_read_44 sc_c_1 rfl rfl rfl ?_
        refine r_bipush (v := 97) (q := 49) dX9_read_47 (by decide) rfl ?_
        refine r_isub (q := 50) dX9_read_49 rfl ?_
        refine r_istore (q := 52) (L' := [some (.inr 1), some (.inr 10), some (.inl s.1), some (.inl s.2.1), some (.inl ((y9.2 1 4) - 97))]) dX9_read_50 (by decide) rfl rfl ?_
        refine r_iload (q := 54) dX9_read_52 rfl rfl ?_
        refine r_callS_i (av := [(.inl ((y9.2 1 4) - 97))]) (st := []) (q := 57) (d1 := 0) kc_X9_30 dX9_read_54 rfl rfl (Nat.le_of_ble_eq_true rfl) (Nat.le_of_ble_eq_true rfl) (by omega) rfl rfl (t_X11_isQuestion (d := 0) (by omega) ((y9.2 1 4) - 97) y9.2 _ rfl) ?_
        refine r_if_ne 70 (q := 60) dX9_read_57 (by decide) rfl (fun c11 => ?_) (fun c11 => ?_)
        · rw [if_pos (mm_b1 c11)] at h
          refine r_iload_n (q := 71) dX9_read_70 rfl rfl ?_
          refine r_iload (q := 73) dX9_read_71 rfl rfl ?_
          refine r_ishr (q := 74) dX9_read_73 rfl ?_
          refine r_iconst (v := 1) (q := 75) dX9_read_74 (by decide) rfl ?_
          refine r_iand (q := 76) dX9_read_75 rfl ?_
          refine r_if_eq 90 (q := 79) dX9_read_76 (by decide) rfl (fun c12 => ?_) (fun c12 => ?_)
          · rw [if_pos c12] at h
            refine r_iload_n (q := 91) dX9_read_90 rfl rfl ?_
            refine r_iconst (v := 1) (q := 92) dX9_read_91 (by decide) rfl ?_
            refine r_iload (q := 94) dX9_read_92 rfl rfl ?_
            refine r_ishl (q := 95) dX9_read_94 rfl ?_
            refine r_ior (q := 96) dX9_read_95 rfl ?_
            refine r_istore_n (q := 97) (L' := [some (.inr 1), some (.inr 10), some (.inl (s.1 ||| ((1 : Int32) <<< (((y9.2 1 4) - 97) &&& 31)))), some (.inl s.2.1), some (.inl ((y9.2 1 4) - 97))]) dX9_read_96 (by decide) rfl rfl ?_
            refine r_aload_n (q := 98) dX9_read_97 rfl rfl ?_
            obtain ⟨y14, e13, h⟩ := mm_let_elim h
            refine r_callV_v (av := []) (st := []) (q := 101) (d1 := 0) kc_X9_40 sc_c_1 dX9_read_98 rfl rfl (Nat.le_of_ble_eq_true rfl) (Nat.le_of_ble_eq_true rfl) (by omega) rfl rfl (t_X7_step (d := 0) (by omega) y9.2 _ e13) ?_
            refine r_aload_n (q := 102) dX9_read_101 rfl rfl ?_
            refine r_bipush (v := 58) (q := 104) dX9_read_102 (by decide) rfl ?_
            obtain ⟨y16, e15, h⟩ := mm_let_elim h
            refine r_callV_i (av := [(.inl 58)]) (st := []) (q := 107) (d1 := 1) kc_X9_26 sc_c_1 dX9_read_104 rfl rfl (Nat.le_of_ble_eq_true rfl) (Nat.le_of_ble_eq_true rfl) (by omega) rfl rfl (t_X7_take (d := 1) (by omega) 58 y14 _ e15) ?_
            refine r_if_eq 120 (q := 110) dX9_read_107 (by decide) rfl (fun c17 => ?_) (fun c17 => ?_)
            · rw [if_neg (mm_b0 c17)] at h
              refine r_iconst (v := 0) (q := 121) dX9_read_120 (by decide) rfl ?_
              cases h
              have hk := ke _ rfl
              exact r_retb dX9_read_121 rfl (Or.inl rfl) hk
            · rw [if_pos (mm_b1 c17)] at h
              refine r_aload_n (q := 111) dX9_read_110 rfl rfl ?_
              refine r_aload_n (q := 112) dX9_read_111 rfl rfl ?_
              refine r_iload (q := 114) dX9_read_112 rfl rfl ?_
              obtain ⟨y19, e18, h⟩ := Option.bind_eq_some_iff.mp h
              refine r_callS_i (av := [(.inr 1), (.inr 10), (.inl ((y9.2 1 4) - 97))]) (st := []) (q := 117) (d1 := 3) kc_X9_43 dX9_read_114 rfl rfl (Nat.le_of_ble_eq_true rfl) (Nat.le_of_ble_eq_true rfl) (by omega) rfl rfl (t_X9_readLine (d := 3) (by omega) ((y9.2 1 4) - 97) y16.2 _ e18) ?_
              refine r_if_ne 122 (q := 120) dX9_read_117 (by decide) rfl (fun c20 => ?_) (fun c20 => ?_)
              · rw [if_pos (mm_b1 c20)] at h
                refine r_iinc (v := 1) (q := 125) (L' := [some (.inr 1), some (.inr 10), some (.inl (s.1 ||| ((1 : Int32) <<< (((y9.2 1 4) - 97) &&& 31)))), some (.inl (s.2.1 + 1)), some (.inl ((y9.2 1 4) - 97))]) dX9_read_122 (by decide) (by decide) rfl rfl rfl ?_
                refine r_goto 18 dX9_read_125 (by decide) ?_
                refine r_forget (L' := [some (.inr 1), some (.inr 10), some (.inl (s.1 ||| ((1 : Int32) <<< (((y9.2 1 4) - 97) &&& 31)))), some (.inl (s.2.1 + 1)), none]) [true, true, true, true, false] rfl ?_
                cases h
                have hk := kb _ rfl
                exact hk
              · rw [if_neg (mm_b0 c20)] at h
                refine r_iconst (v := 0) (q := 121) dX9_read_120 (by decide) rfl ?_
                cases h
                have hk := ke _ rfl
                exact r_retb dX9_read_121 rfl (Or.inl rfl) hk
          · rw [if_neg c12] at h
            refine r_aload_n (q := 80) dX9_read_79 rfl rfl ?_
            refine r_bipush (v := 6) (q := 82) dX9_read_80 (by decide) rfl ?_
            refine r_aload_n (q := 83) dX9_read_82 rfl rfl ?_
            refine r_geti (v := (y9.2 1 2)) (q := 86) lk_X9_33 dX9_read_83 sc_c_1 rfl rfl rfl ?_
            obtain ⟨y22, e21, h⟩ := mm_let_elim h
            refine r_callV_i (av := [(.inl 6), (.inl (y9.2 1 2))]) (st := []) (q := 89) (d1 := 0) kc_X9_36 sc_c_1 dX9_read_86 rfl rfl (Nat.le_of_ble_eq_true rfl) (Nat.le_of_ble_eq_true rfl) (by omega) rfl rfl (t_X7_fail (d := 0) (by omega) 6 (y9.2 1 2) y9.2 _ e21) ?_
            cases h
            have hk := ke _ rfl
            exact r_retb dX9_read_89 rfl (mm_b01 _) hk
        · rw [if_neg (mm_b0 c11)] at h
          refine r_aload_n (q := 61) dX9_read_60 rfl rfl ?_
          refine r_iconst (v := 1) (q := 62) dX9_read_61 (by decide) rfl ?_
          refine r_aload_n (q := 63) dX9_read_62 rfl rfl ?_
          refine r_geti (v := (y9.2 1 2)) (q := 66) lk_X9_33 dX9_read_63 sc_c_1 rfl rfl rfl ?_
          obtain ⟨y24, e23, h⟩ := mm_let_elim h
          refine r_callV_i (av := [(.inl 1), (.inl (y9.2 1 2))]) (st := []) (q := 69) (d1 := 0) kc_X9_36 sc_c_1 dX9_read_66 rfl rfl (Nat.le_of_ble_eq_true rfl) (Nat.le_of_ble_eq_true rfl) (by omega) rfl rfl (t_X7_fail (d := 0) (by omega) 1 (y9.2 1 2) y9.2 _ e23) ?_
          cases h
          have hk := ke _ rfl
          exact r_retb dX9_read_69 rfl (mm_b01 _) hk
      · rw [if_neg (mm_b0 c10)] at h
        refine r_iconst (v := 0) (q := 42) dX9_read_41 (by decide) rfl ?_
        cases h
        have hk := ke _ rfl
        exact r_retb dX9_read_42 rfl (Or.inl rfl) hk
noncomputable def X9_read (M : mm_M) : Option (Bool × mm_M) := (X8_clear M).bind fun y2 => mm_let (X9_readStates y2) fun y4 => if y4.1 = true then (mm_loop (X9_read_l18) mm_fuel (0, 0, y4.2)) else some (false, y4.2)
set_option maxRecDepth 100000 in
set_option maxHeartbeats 400000 in
theorem t_X9_read {d : Nat} (hd : 4 ≤ d) (M : mm_M) (res : (Bool × mm_M)) (h : X9_read M = some res) : mm_Meth jX9_read d 0 0 [(.inr 1), (.inr 10)] S_c M (mm_Zi (mm_b res.1) S_c res.2) := by
  refine r_meth (L := [some (.inr 1), some (.inr 10), none, none, none]) rfl (fun D => ?_)
  unfold X9_read at h
  refine r_aload_n (q := 1) dX9_read_0 rfl rfl ?_
  obtain ⟨y2, e1, h⟩ := Option.bind_eq_some_iff.mp h
  refine r_callV_v (av := []) (st := []) (q := 4) (d1 := 0) kc_X9_9 sc_c_10 dX9_read_1 rfl rfl (Nat.le_of_ble_eq_true rfl) (Nat.le_of_ble_eq_true rfl) (by omega) rfl rfl (t_X8_clear (d := 0) (by omega) M _ e1) ?_
  refine r_aload_n (q := 5) dX9_read_4 rfl rfl ?_
  refine r_aload_n (q := 6) dX9_read_5 rfl rfl ?_
  obtain ⟨y4, e3, h⟩ := mm_let_elim h
  refine r_callS_i (av := [(.inr 1), (.inr 10)]) (st := []) (q := 9) (d1 := 1) kc_X9_14 dX9_read_6 rfl rfl (Nat.le_of_ble_eq_true rfl) (Nat.le_of_ble_eq_true rfl) (by omega) rfl rfl (t_X9_readStates (d := 1) (by omega) y2 _ e3) ?_
  refine r_if_ne 14 (q := 12) dX9_read_9 (by decide) rfl (fun c5 => ?_) (fun c5 => ?_)
  · rw [if_pos (mm_b1 c5)] at h
    refine r_iconst (v := 0) (q := 15) dX9_read_14 (by decide) rfl ?_
    refine r_istore_n (q := 16) (L' := [some (.inr 1), some (.inr 10), some (.inl 0), none, none]) dX9_read_15 (by decide) rfl rfl ?_
    refine r_iconst (v := 0) (q := 17) dX9_read_16 (by decide) rfl ?_
    refine r_istore_n (q := 18) (L' := [some (.inr 1), some (.inr 10), some (.inl 0), some (.inl 0), none]) dX9_read_17 (by decide) rfl rfl ?_
    exact t_X9_read_l18 hd mm_fuel (0, 0, y4.2) _ h mm_Zi_rfl
  · rw [if_neg (mm_b0 c5)] at h
    refine r_iconst (v := 0) (q := 13) dX9_read_12 (by decide) rfl ?_
    cases h
    exact r_retb dX9_read_13 rfl (Or.inl rfl) mm_Zi_rfl
noncomputable def X11_valley (x1 : Int32) (M : mm_M) : Option (Int32 × mm_M × Bool) := if (X11_isOnTape x1 220 M) = true then (X7_open x1 M).bind fun y3 => (X9_read y3).bind fun y5 => mm_let (X7_clear y5.2) fun y7 => if (y7 1 5) = 0 then some ((y7 10 0), (mm_U (mm_U (mm_U y7 4 0 0) 4 1 0) 4 2 8), true) else some ((y7 1 5), y7, false) else some ((-1), M, false)
set_option maxRecDepth 100000 in
set_option maxHeartbeats 400000 in
theorem t_X11_valley {d : Nat} (hd : 5 ≤ d) (x1 : Int32) (M : mm_M) (res : (Int32 × mm_M × Bool)) (h : X11_valley x1 M = some res) : mm_Meth jX11_valley d 0 0 [(.inr 0), (.inl x1)] S_c M (mm_Zs res.1 S_c S_valley2 res.2.2 res.2.1) := by
  refine r_meth (L := [some (.inr 0), some (.inl x1), none]) rfl (fun D => ?_)
  unfold X11_valley at h
  refine r_aload_n (q := 1) dX11_valley_0 rfl rfl ?_
  refine r_iload_n (q := 2) dX11_valley_1 rfl rfl ?_
  refine r_sipush (v := 220) (q := 5) dX11_valley_2 (by decide) rfl ?_
  refine r_callV_i (av := [(.inl x1), (.inl 220)]) (st := []) (q := 8) (d1 := 0) kc_X11_108 sc_c_0 dX11_valley_5 rfl rfl (Nat.le_of_ble_eq_true rfl) (Nat.le_of_ble_eq_true rfl) (by omega) rfl rfl (t_X11_isOnTape (d := 0) (by omega) x1 220 M _ rfl) ?_
  refine r_if_ne 13 (q := 11) dX11_valley_8 (by decide) rfl (fun c1 => ?_) (fun c1 => ?_)
  · rw [if_pos (mm_b1 c1)] at h
    refine r_aload_n (q := 14) dX11_valley_13 rfl rfl ?_
    refine r_getr (b := 1) (q := 17) lk_X11_12 dX11_valley_14 sc_c_0 rfl rfl ?_
    refine r_iload_n (q := 18) dX11_valley_17 rfl rfl ?_
    obtain ⟨y3, e2, h⟩ := Option.bind_eq_some_iff.mp h
    refine r_callV_v (av := [(.inl x1)]) (st := []) (q := 21) (d1 := 1) kc_X11_112 sc_c_1 dX11_valley_18 rfl rfl (Nat.le_of_ble_eq_true rfl) (Nat.le_of_ble_eq_true rfl) (by omega) rfl rfl (t_X7_open (d := 1) (by omega) x1 M _ e2) ?_
    refine r_aload_n (q := 22) dX11_valley_21 rfl rfl ?_
    refine r_getr (b := 1) (q := 25) lk_X11_12 dX11_valley_22 sc_c_0 rfl rfl ?_
    refine r_aload_n (q := 26) dX11_valley_25 rfl rfl ?_
    refine r_getr (b := 10) (q := 29) lk_X11_46 dX11_valley_26 sc_c_0 rfl rfl ?_
    obtain ⟨y5, e4, h⟩ := Option.bind_eq_some_iff.mp h
    refine r_callS_i (av := [(.inr 1), (.inr 10)]) (st := []) (q := 32) (d1 := 4) kc_X11_130 dX11_valley_29 rfl rfl (Nat.le_of_ble_eq_true rfl) (Nat.le_of_ble_eq_true rfl) (by omega) rfl rfl (t_X9_read (d := 4) (by omega) y3 _ e4) ?_
    refine r_pop (q := 33) dX11_valley_32 rfl ?_
    refine r_aload_n (q := 34) dX11_valley_33 rfl rfl ?_
    refine r_getr (b := 1) (q := 37) lk_X11_12 dX11_valley_34 sc_c_0 rfl rfl ?_
    obtain ⟨y7, e6, h⟩ := mm_let_elim h
    refine r_callV_v (av := []) (st := []) (q := 40) (d1 := 0) kc_X11_121 sc_c_1 dX11_valley_37 rfl rfl (Nat.le_of_ble_eq_true rfl) (Nat.le_of_ble_eq_true rfl) (by omega) rfl rfl (t_X7_clear (d := 0) (by omega) y5.2 _ e6) ?_
    refine r_aload_n (q := 41) dX11_valley_40 rfl rfl ?_
    refine r_getr (b := 1) (q := 44) lk_X11_12 dX11_valley_41 sc_c_0 rfl rfl ?_
    refine r_geti (v := (y7 1 5)) (q := 47) lk_X11_124 dX11_valley_44 sc_c_1 rfl rfl rfl ?_
    refine r_if_eq 58 (q := 50) dX11_valley_47 (by decide) rfl (fun c8 => ?_) (fun c8 => ?_)
    · rw [if_pos c8] at h
      refine r_aload_n (q := 59) dX11_valley_58 rfl rfl ?_
      refine r_getr (b := 7) (q := 62) lk_X11_42 dX11_valley_59 sc_c_0 rfl rfl ?_
      refine r_astore_n (q := 63) (L' := [some (.inr 0), some (.inl x1), some (.inr 7)]) dX11_valley_62 (by decide) rfl rfl ?_
      refine r_aload_n (q := 64) dX11_valley_63 rfl rfl ?_
      refine r_aload_n (q := 65) dX11_valley_64 rfl rfl ?_
      refine r_getr (b := 10) (q := 68) lk_X11_46 dX11_valley_65 sc_c_0 rfl rfl ?_
      refine r_putr (q := 71) (S' := S_valley1) lk_X11_42 ft_8_6 dX11_valley_68 sc_c_0 rfl (fun _ => rfl) (fun _ => rfl) rfl rfl ?_
      refine r_aload_n (q := 72) dX11_valley_71 rfl rfl ?_
      refine r_aload_n (q := 73) dX11_valley_72 rfl rfl ?_
      refine r_putr (q := 76) (S' := S_valley2) lk_X11_46 ft_8_7 dX11_valley_73 rfl rfl (fun _ => rfl) (fun _ => rfl) rfl rfl ?_
      refine r_aload_n (q := 77) dX11_valley_76 rfl rfl ?_
      refine r_getr (b := 4) (q := 80) lk_X11_29 dX11_valley_77 rfl rfl rfl ?_
      refine r_iconst (v := 0) (q := 81) dX11_valley_80 (by decide) rfl ?_
      refine r_puti (q := 84) lk_X11_91 ft_4_0 dX11_valley_81 rfl rfl rfl ?_
      refine r_aload_n (q := 85) dX11_valley_84 rfl rfl ?_
      refine r_getr (b := 4) (q := 88) lk_X11_29 dX11_valley_85 rfl rfl rfl ?_
      refine r_iconst (v := 0) (q := 89) dX11_valley_88 (by decide) rfl ?_
      refine r_puti (q := 92) lk_X11_135 ft_4_1 dX11_valley_89 rfl rfl rfl ?_
      refine r_aload_n (q := 93) dX11_valley_92 rfl rfl ?_
      refine r_getr (b := 4) (q := 96) lk_X11_29 dX11_valley_93 rfl rfl rfl ?_
      refine r_bipush (v := 8) (q := 98) dX11_valley_96 (by decide) rfl ?_
      refine r_puti (q := 101) lk_X11_138 ft_4_2 dX11_valley_98 rfl rfl rfl ?_
      refine r_aload_n (q := 102) dX11_valley_101 rfl rfl ?_
      refine r_getr (b := 10) (q := 105) lk_X11_42 dX11_valley_102 rfl rfl rfl ?_
      refine r_geti (v := (y7 10 0)) (q := 108) lk_X11_141 dX11_valley_105 rfl rfl rfl rfl ?_
      cases h
      exact r_ret dX11_valley_108 rfl mm_Zs_t
    · rw [if_neg c8] at h
      refine r_aload_n (q := 51) dX11_valley_50 rfl rfl ?_
      refine r_getr (b := 1) (q := 54) lk_X11_12 dX11_valley_51 sc_c_0 rfl rfl ?_
      refine r_geti (v := (y7 1 5)) (q := 57) lk_X11_124 dX11_valley_54 sc_c_1 rfl rfl rfl ?_
      cases h
      exact r_ret dX11_valley_57 rfl mm_Zs_f
  · rw [if_neg (mm_b0 c1)] at h
    refine r_iconst (v := (-1)) (q := 12) dX11_valley_11 (by decide) rfl ?_
    cases h
    exact r_ret dX11_valley_12 rfl mm_Zs_f
noncomputable def X8_isTold (M : mm_M) : Bool := if (M 7 0) ≤ 0 then false else true
set_option maxRecDepth 100000 in
set_option maxHeartbeats 400000 in
theorem t_X8_isTold {d : Nat} (hd : 0 ≤ d) (M : mm_M) (res : Bool) (h : X8_isTold M = res) : mm_Meth jX8_isTold d 0 0 [(.inr 7)] S_c M (mm_Zi (mm_b res) S_c M) := by
  refine r_meth (L := [some (.inr 7)]) rfl (fun D => ?_)
  unfold X8_isTold at h
  refine r_aload_n (q := 1) dX8_isTold_0 rfl rfl ?_
  refine r_geti (v := (M 7 0)) (q := 4) lk_X8_18 dX8_isTold_1 sc_c_7 rfl rfl rfl ?_
  refine r_if_le 11 (q := 7) dX8_isTold_4 (by decide) rfl (fun c1 => ?_) (fun c1 => ?_)
  · rw [if_pos c1] at h
    refine r_iconst (v := 0) (q := 12) dX8_isTold_11 (by decide) rfl ?_
    subst h
    exact r_retb dX8_isTold_12 rfl (Or.inl rfl) mm_Zi_rfl
  · rw [if_neg c1] at h
    refine r_iconst (v := 1) (q := 8) dX8_isTold_7 (by decide) rfl ?_
    refine r_goto 12 dX8_isTold_8 (by decide) ?_
    subst h
    exact r_retb dX8_isTold_12 rfl (Or.inr rfl) mm_Zi_rfl
noncomputable def X4_add (x1 : Int32) (M : mm_M) : mm_M := if (M 27 1) < 0 then M else if 40 ≤ (M 27 1) then M else (mm_U (mm_U M 28 (Int32.toNatClampNeg (M 27 1)) x1) 27 1 ((M 27 1) + 1))
set_option maxRecDepth 100000 in
set_option maxHeartbeats 400000 in
theorem t_X4_add {d : Nat} (hd : 0 ≤ d) (x1 : Int32) (M : mm_M) (res : mm_M) (h : X4_add x1 M = res) : mm_Meth jX4_add d 0 0 [(.inr 27), (.inl x1)] S_c M (mm_Zv S_c res) := by
  refine r_meth (L := [some (.inr 27), some (.inl x1)]) rfl (fun D => ?_)
  unfold X4_add at h
  refine r_aload_n (q := 1) dX4_add_0 rfl rfl ?_
  refine r_geti (v := (M 27 1)) (q := 4) lk_X4_15 dX4_add_1 sc_c_27 rfl rfl rfl ?_
  refine r_if_lt 36 (q := 7) dX4_add_4 (by decide) rfl (fun c1 => ?_) (fun c1 => ?_)
  · rw [if_pos c1] at h
    subst h
    exact r_retv dX4_add_36 rfl mm_Zv_rfl
  · rw [if_neg c1] at h
    refine r_aload_n (q := 8) dX4_add_7 rfl rfl ?_
    refine r_geti (v := (M 27 1)) (q := 11) lk_X4_15 dX4_add_8 sc_c_27 rfl rfl rfl ?_
    refine r_bipush (v := 40) (q := 13) dX4_add_11 (by decide) rfl ?_
    refine r_icmp_ge 36 (q := 16) dX4_add_13 (by decide) rfl (fun c2 => ?_) (fun c2 => ?_)
    · rw [if_pos c2] at h
      subst h
      exact r_retv dX4_add_36 rfl mm_Zv_rfl
    · rw [if_neg c2] at h
      refine r_aload_n (q := 17) dX4_add_16 rfl rfl ?_
      refine r_getr (b := 28) (q := 20) lk_X4_9 dX4_add_17 sc_c_27 rfl rfl ?_
      refine r_aload_n (q := 21) dX4_add_20 rfl rfl ?_
      refine r_geti (v := (M 27 1)) (q := 24) lk_X4_15 dX4_add_21 sc_c_27 rfl rfl rfl ?_
      refine r_iload_n (q := 25) dX4_add_24 rfl rfl ?_
      refine r_iast (j := (Int32.toNatClampNeg (M 27 1))) (q := 26) dX4_add_25 sc_c_28 (mm_vp2 (Int32.not_lt.mp c1) (Int32.not_le.mp c2) (by decide)) rfl rfl ?_
      refine r_aload_n (q := 27) dX4_add_26 rfl rfl ?_
      refine r_dup (q := 28) dX4_add_27 rfl ?_
      refine r_geti (v := (M 27 1)) (q := 31) lk_X4_15 dX4_add_28 sc_c_27 rfl rfl rfl ?_
      refine r_iconst (v := 1) (q := 32) dX4_add_31 (by decide) rfl ?_
      refine r_iadd (q := 33) dX4_add_32 rfl ?_
      refine r_puti (q := 36) lk_X4_15 ft_2_1 dX4_add_33 sc_c_27 rfl rfl ?_
      subst h
      exact r_retv dX4_add_36 rfl mm_Zv_rfl
noncomputable def X4_at (x1 : Int32) (M : mm_M) : Int32 := if x1 < 0 then 0 else if 40 ≤ x1 then 0 else (M 28 (Int32.toNatClampNeg x1))
set_option maxRecDepth 100000 in
set_option maxHeartbeats 400000 in
theorem t_X4_at {d : Nat} (hd : 0 ≤ d) (x1 : Int32) (M : mm_M) (res : Int32) (h : X4_at x1 M = res) : mm_Meth jX4_at d 0 0 [(.inr 27), (.inl x1)] S_c M (mm_Zi res S_c M) := by
  refine r_meth (L := [some (.inr 27), some (.inl x1)]) rfl (fun D => ?_)
  unfold X4_at at h
  refine r_iload_n (q := 1) dX4_at_0 rfl rfl ?_
  refine r_if_lt 19 (q := 4) dX4_at_1 (by decide) rfl (fun c1 => ?_) (fun c1 => ?_)
  · rw [if_pos c1] at h
    refine r_iconst (v := 0) (q := 20) dX4_at_19 (by decide) rfl ?_
    subst h
    exact r_ret dX4_at_20 rfl mm_Zi_rfl
  · rw [if_neg c1] at h
    refine r_iload_n (q := 5) dX4_at_4 rfl rfl ?_
    refine r_bipush (v := 40) (q := 7) dX4_at_5 (by decide) rfl ?_
    refine r_icmp_ge 19 (q := 10) dX4_at_7 (by decide) rfl (fun c2 => ?_) (fun c2 => ?_)
    · rw [if_pos c2] at h
      refine r_iconst (v := 0) (q := 20) dX4_at_19 (by decide) rfl ?_
      subst h
      exact r_ret dX4_at_20 rfl mm_Zi_rfl
    · rw [if_neg c2] at h
      refine r_aload_n (q := 11) dX4_at_10 rfl rfl ?_
      refine r_getr (b := 28) (q := 14) lk_X4_9 dX4_at_11 sc_c_27 rfl rfl ?_
      refine r_iload_n (q := 15) dX4_at_14 rfl rfl ?_
      refine r_iald (v := (M 28 (Int32.toNatClampNeg x1))) (q := 16) dX4_at_15 sc_c_28 (mm_vp2 (Int32.not_lt.mp c1) (Int32.not_le.mp c2) (by decide)) rfl rfl ?_
      refine r_goto 20 dX4_at_16 (by decide) ?_
      subst h
      exact r_ret dX4_at_20 rfl mm_Zi_rfl
noncomputable def X0_readQuestions_l2 (rec0 : Int32 → mm_M → Option (Bool × mm_M)) (rec1 : Int32 → mm_M → Option (Bool × mm_M)) (x2 : Int32) (s : (Int32 × mm_M)) : Option ((Int32 × mm_M) ⊕ (Bool × mm_M)) := if 60 < s.1 then mm_let (X7_fail 1 (s.2 1 2) s.2) fun y3 => some (.inr (y3.1, y3.2)) else (rec1 x2 s.2).bind fun y5 => if y5.1 = true then if (y5.2 1 4) = (-1) then some (.inr (true, y5.2)) else if x2 ≤ 0 then some (.inl ((s.1 + 1), y5.2)) else if (y5.2 1 4) = 41 then some (.inr (true, y5.2)) else some (.inl ((s.1 + 1), y5.2)) else some (.inr (false, y5.2))
set_option maxRecDepth 100000 in
set_option maxHeartbeats 400000 in
theorem t_X0_readQuestions_l2 {D : mm_D} {d : Nat} (hd : 2 ≤ d) {rec0 : Int32 → mm_M → Option (Bool × mm_M)} {rec1 : Int32 → mm_M → Option (Bool × mm_M)} {d' : Nat} (hdd : d' < d) (hrec0 : ∀ (w0 : Int32) (M : mm_M) (res : Bool × mm_M), rec0 w0 M = some res → mm_Meth jX0_readQuestions d' 0 0 [.inr 1, .inr 27, .inl w0] S_c M (mm_Zi (mm_b res.1) S_c res.2)) (hrec1 : ∀ (w0 : Int32) (M : mm_M) (res : Bool × mm_M), rec1 w0 M = some res → mm_Meth jX0_readItem d' 0 0 [.inr 1, .inr 27, .inl w0] S_c M (mm_Zi (mm_b res.1) S_c res.2)) {Z : Option Int32 → List mm_C → mm_M → Prop} (x2 : Int32) (n : Nat) (s : (Int32 × mm_M)) (r : (Bool × mm_M)) (h : mm_loop (X0_readQuestions_l2 rec0 rec1 x2) n s = some r) (hx : Z (some (mm_b r.1)) S_c r.2) : mm_Go jX0_readQuestions D d 0 0 2 [some (.inr 1), some (.inr 27), some (.inl x2), some (.inl s.1)] [] S_c s.2 Z := by
  refine mm_loop_go (step := X0_readQuestions_l2 rec0 rec1 x2) (Hd := fun (s : (Int32 × mm_M)) => mm_Go jX0_readQuestions D d 0 0 2 [some (.inr 1), some (.inr 27), some (.inl x2), some (.inl s.1)] [] S_c s.2 Z) (Ex := fun (r : (Bool × mm_M)) => Z (some (mm_b r.1)) S_c r.2) ?_ n s r h hx
  intro s o h kb ke
  show mm_Go jX0_readQuestions D d 0 0 2 [some (.inr 1), some (.inr 27), some (.inl x2), some (.inl s.1)] [] S_c s.2 Z
  unfold X0_readQuestions_l2 at h
  refine r_iload_n (q := 3) dX0_readQuestions_2 rfl rfl ?_
  refine r_bipush (v := 60) (q := 5) dX0_readQuestions_3 (by decide) rfl ?_
  refine r_icmp_gt 48 (q := 8) dX0_readQuestions_5 (by decide) rfl (fun c1 => ?_) (fun c1 => ?_)
  · rw [if_pos c1] at h
    refine r_aload_n (q := 49) dX0_readQuestions_48 rfl rfl ?_
    refine r_iconst (v := 1) (q := 50) dX0_readQuestions_49 (by decide) rfl ?_
    refine r_aload_n (q := 51) dX0_readQuestions_50 rfl rfl ?_
    refine r_geti (v := (s.2 1 2)) (q := 54) lk_X0_29 dX0_readQuestions_51 sc_c_1 rfl rfl rfl ?_
    obtain ⟨y3, e2, h⟩ := mm_let_elim h
    refine r_callV_i (av := [(.inl 1), (.inl (s.2 1 2))]) (st := []) (q := 57) (d1 := 0) kc_X0_32 sc_c_1 dX0_readQuestions_54 rfl rfl (Nat.le_of_ble_eq_true rfl) (Nat.le_of_ble_eq_true rfl) (by omega) rfl rfl (t_X7_fail (d := 0) (by omega) 1 (s.2 1 2) s.2 _ e2) ?_
    cases h
    have hk := ke _ rfl
    exact r_retb dX0_readQuestions_57 rfl (mm_b01 _) hk
  · rw [if_neg c1] at h
    refine r_aload_n (q := 9) dX0_readQuestions_8 rfl rfl ?_
    refine r_aload_n (q := 10) dX0_readQuestions_9 rfl rfl ?_
    refine r_iload_n (q := 11) dX0_readQuestions_10 rfl rfl ?_
    obtain ⟨y5, e4, h⟩ := Option.bind_eq_some_iff.mp h
    refine r_callS_i (av := [(.inr 1), (.inr 27), (.inl x2)]) (st := []) (q := 14) (d1 := d') kc_X0_21 dX0_readQuestions_11 rfl rfl (Nat.le_of_ble_eq_true rfl) (Nat.le_of_ble_eq_true rfl) (by omega) rfl rfl (hrec1 x2 s.2 _ e4) ?_
    refine r_if_ne 19 (q := 17) dX0_readQuestions_14 (by decide) rfl (fun c6 => ?_) (fun c6 => ?_)
    · rw [if_pos (mm_b1 c6)] at h
      refine r_aload_n (q := 20) dX0_readQuestions_19 rfl rfl ?_
      refine r_geti (v := (y5.2 1 4)) (q := 23) lk_X0_24 dX0_readQuestions_20 sc_c_1 rfl rfl rfl ?_
      refine r_iconst (v := (-1)) (q := 24) dX0_readQuestions_23 (by decide) rfl ?_
      refine r_icmp_eq 40 (q := 27) dX0_readQuestions_24 (by decide) rfl (fun c7 => ?_) (fun c7 => ?_)
      · rw [if_pos c7] at h
        refine r_iconst (v := 1) (q := 41) dX0_readQuestions_40 (by decide) rfl ?_
        cases h
        have hk := ke _ rfl
        exact r_retb dX0_readQuestions_41 rfl (Or.inr rfl) hk
      · rw [if_neg c7] at h
        refine r_iload_n (q := 28) dX0_readQuestions_27 rfl rfl ?_
        refine r_if_le 42 (q := 31) dX0_readQuestions_28 (by decide) rfl (fun c8 => ?_) (fun c8 => ?_)
        · rw [if_pos c8] at h
          refine r_iinc (v := 1) (q := 45) (L' := [some (.inr 1), some (.inr 27), some (.inl x2), some (.inl (s.1 + 1))]) dX0_readQuestions_42 (by decide) (by decide) rfl rfl rfl ?_
          refine r_goto 2 dX0_readQuestions_45 (by decide) ?_
          cases h
          have hk := kb _ rfl
          exact hk
        · rw [if_neg c8] at h
          refine r_aload_n (q := 32) dX0_readQuestions_31 rfl rfl ?_
          refine r_geti (v := (y5.2 1 4)) (q := 35) lk_X0_24 dX0_readQuestions_32 sc_c_1 rfl rfl rfl ?_
          refine r_bipush (v := 41) (q := 37) dX0_readQuestions_35 (by decide) rfl ?_
          refine r_icmp_ne 42 (q := 40) dX0_readQuestions_37 (by decide) rfl (fun c9 => ?_) (fun c9 => ?_)
          · rw [if_neg c9] at h
            refine r_iinc (v := 1) (q := 45) (L' := [some (.inr 1), some (.inr 27), some (.inl x2), some (.inl (s.1 + 1))]) dX0_readQuestions_42 (by decide) (by decide) rfl rfl rfl ?_
            refine r_goto 2 dX0_readQuestions_45 (by decide) ?_
            cases h
            have hk := kb _ rfl
            exact hk
          · rw [if_pos c9] at h
            refine r_iconst (v := 1) (q := 41) dX0_readQuestions_40 (by decide) rfl ?_
            cases h
            have hk := ke _ rfl
            exact r_retb dX0_readQuestions_41 rfl (Or.inr rfl) hk
    · rw [if_neg (mm_b0 c6)] at h
      refine r_iconst (v := 0) (q := 18) dX0_readQuestions_17 (by decide) rfl ?_
      cases h
      have hk := ke _ rfl
      exact r_retb dX0_readQuestions_18 rfl (Or.inl rfl) hk
noncomputable def X0_readQuestions_o (rec0 : Int32 → mm_M → Option (Bool × mm_M)) (rec1 : Int32 → mm_M → Option (Bool × mm_M)) (x2 : Int32) (M : mm_M) : Option (Bool × mm_M) := (mm_loop (X0_readQuestions_l2 rec0 rec1 x2) mm_fuel (0, M))
set_option maxRecDepth 100000 in
set_option maxHeartbeats 400000 in
theorem t_X0_readQuestions_o {d : Nat} (hd : 2 ≤ d) {rec0 : Int32 → mm_M → Option (Bool × mm_M)} {rec1 : Int32 → mm_M → Option (Bool × mm_M)} {d' : Nat} (hdd : d' < d) (hrec0 : ∀ (w0 : Int32) (M : mm_M) (res : Bool × mm_M), rec0 w0 M = some res → mm_Meth jX0_readQuestions d' 0 0 [.inr 1, .inr 27, .inl w0] S_c M (mm_Zi (mm_b res.1) S_c res.2)) (hrec1 : ∀ (w0 : Int32) (M : mm_M) (res : Bool × mm_M), rec1 w0 M = some res → mm_Meth jX0_readItem d' 0 0 [.inr 1, .inr 27, .inl w0] S_c M (mm_Zi (mm_b res.1) S_c res.2)) (x2 : Int32) (M : mm_M) (res : (Bool × mm_M)) (h : X0_readQuestions_o rec0 rec1 x2 M = some res) : mm_Meth jX0_readQuestions d 0 0 [(.inr 1), (.inr 27), (.inl x2)] S_c M (mm_Zi (mm_b res.1) S_c res.2) := by
  refine r_meth (L := [some (.inr 1), some (.inr 27), some (.inl x2), none]) rfl (fun D => ?_)
  unfold X0_readQuestions_o at h
  refine r_iconst (v := 0) (q := 1) dX0_readQuestions_0 (by decide) rfl ?_
  refine r_istore_n (q := 2) (L' := [some (.inr 1), some (.inr 27), some (.inl x2), some (.inl 0)]) dX0_readQuestions_1 (by decide) rfl rfl ?_
  exact t_X0_readQuestions_l2 hd hdd hrec0 hrec1 x2 mm_fuel (0, M) _ h mm_Zi_rfl
noncomputable def X0_readItem_l173 (rec0 : Int32 → mm_M → Option (Bool × mm_M)) (rec1 : Int32 → mm_M → Option (Bool × mm_M)) (x4 : Int32) (x5 : Int32) (x7 : Int32) (s : (Int32 × mm_M)) : Option ((Int32 × mm_M) ⊕ (Bool × mm_M)) := if (x7 * x5) ≤ s.1 then some (.inr (true, s.2)) else if ¬ x7 = 0 then mm_let (X4_add (X4_at (x4 + (s.1 - s.1 / x7 * x7)) s.2) s.2) fun y11 => some (.inl ((s.1 + 1), y11)) else none
set_option maxRecDepth 100000 in
set_option maxHeartbeats 400000 in
theorem t_X0_readItem_l173 {D : mm_D} {d : Nat} (hd : 2 ≤ d) {rec0 : Int32 → mm_M → Option (Bool × mm_M)} {rec1 : Int32 → mm_M → Option (Bool × mm_M)} {d' : Nat} (hdd : d' < d) (hrec0 : ∀ (w0 : Int32) (M : mm_M) (res : Bool × mm_M), rec0 w0 M = some res → mm_Meth jX0_readQuestions d' 0 0 [.inr 1, .inr 27, .inl w0] S_c M (mm_Zi (mm_b res.1) S_c res.2)) (hrec1 : ∀ (w0 : Int32) (M : mm_M) (res : Bool × mm_M), rec1 w0 M = some res → mm_Meth jX0_readItem d' 0 0 [.inr 1, .inr 27, .inl w0] S_c M (mm_Zi (mm_b res.1) S_c res.2)) {Z : Option Int32 → List mm_C → mm_M → Prop} (x4 : Int32) (x5 : Int32) (x7 : Int32) (n : Nat) (s : (Int32 × mm_M)) (r : (Bool × mm_M)) (h : mm_loop (X0_readItem_l173 rec0 rec1 x4 x5 x7) n s = some r) (hx : Z (some (mm_b r.1)) S_c r.2) : mm_Go jX0_readItem D d 0 0 173 [none, some (.inr 27), none, none, some (.inl x4), some (.inl x5), none, some (.inl x7), some (.inl s.1)] [] S_c s.2 Z := by
  refine mm_loop_go (step := X0_readItem_l173 rec0 rec1 x4 x5 x7) (Hd := fun (s : (Int32 × mm_M)) => mm_Go jX0_readItem D d 0 0 173 [none, some (.inr 27), none, none, some (.inl x4), some (.inl x5), none, some (.inl x7), some (.inl s.1)] [] S_c s.2 Z) (Ex := fun (r : (Bool × mm_M)) => Z (some (mm_b r.1)) S_c r.2) ?_ n s r h hx
  intro s o h kb ke
  show mm_Go jX0_readItem D d 0 0 173 [none, some (.inr 27), none, none, some (.inl x4), some (.inl x5), none, some (.inl x7), some (.inl s.1)] [] S_c s.2 Z
  unfold X0_readItem_l173 at h
  refine r_iload (q := 175) dX0_readItem_173 rfl rfl ?_
  refine r_iload (q := 177) dX0_readItem_175 rfl rfl ?_
  refine r_iload (q := 179) dX0_readItem_177 rfl rfl ?_
  refine r_imul (q := 180) dX0_readItem_179 rfl ?_
  refine r_icmp_ge 205 (q := 183) dX0_readItem_180 (by decide) rfl (fun c8 => ?_) (fun c8 => ?_)
  · rw [if_pos c8] at h
    refine r_iconst (v := 1) (q := 206) dX0_readItem_205 (by decide) rfl ?_
    cases h
    have hk := ke _ rfl
    exact r_retb dX0_readItem_206 rfl (Or.inr rfl) hk
  · rw [if_neg c8] at h
    refine r_aload_n (q := 184) dX0_readItem_183 rfl rfl ?_
    refine r_aload_n (q := 185) dX0_readItem_184 rfl rfl ?_
    refine r_iload (q := 187) dX0_readItem_185 rfl rfl ?_
    refine r_iload (q := 189) dX0_readItem_187 rfl rfl ?_
    refine r_iload (q := 191) dX0_readItem_189 rfl rfl ?_
    obtain ⟨g9, h⟩ := mm_guard h
    refine r_irem (q := 192) dX0_readItem_191 g9 rfl ?_
    refine r_iadd (q := 193) dX0_readItem_192 rfl ?_
    refine r_callV_i (av := [(.inl (x4 + (s.1 - s.1 / x7 * x7)))]) (st := [(.inr 27)]) (q := 196) (d1 := 0) kc_X0_56 sc_c_27 dX0_readItem_193 rfl rfl (Nat.le_of_ble_eq_true rfl) (Nat.le_of_ble_eq_true rfl) (by omega) rfl rfl (t_X4_at (d := 0) (by omega) (x4 + (s.1 - s.1 / x7 * x7)) s.2 _ rfl) ?_
    obtain ⟨y11, e10, h⟩ := mm_let_elim h
    refine r_callV_v (av := [(.inl (X4_at (x4 + (s.1 - s.1 / x7 * x7)) s.2))]) (st := []) (q := 199) (d1 := 0) kc_X0_43 sc_c_27 dX0_readItem_196 rfl rfl (Nat.le_of_ble_eq_true rfl) (Nat.le_of_ble_eq_true rfl) (by omega) rfl rfl (t_X4_add (d := 0) (by omega) (X4_at (x4 + (s.1 - s.1 / x7 * x7)) s.2) s.2 _ e10) ?_
    refine r_iinc (v := 1) (q := 202) (L' := [none, some (.inr 27), none, none, some (.inl x4), some (.inl x5), none, some (.inl x7), some (.inl (s.1 + 1))]) dX0_readItem_199 (by decide) (by decide) rfl rfl rfl ?_
    refine r_goto 173 dX0_readItem_202 (by decide) ?_
    cases h
    have hk := kb _ rfl
    exact hk
noncomputable def X0_readItem_j135 (rec0 : Int32 → mm_M → Option (Bool × mm_M)) (rec1 : Int32 → mm_M → Option (Bool × mm_M)) (x3 : Int32) (x4 : Int32) (x5 : Int32) (M : mm_M) : Option (Bool × mm_M) := if (x4 + ((if 1 < ((M 27 1) - x4) then ((M 27 1) - x4) else 1) * x5)) ≤ 40 then (mm_loop (X0_readItem_l173 rec0 rec1 x4 x5 (if 1 < ((M 27 1) - x4) then ((M 27 1) - x4) else 1)) mm_fuel ((if 1 < ((M 27 1) - x4) then ((M 27 1) - x4) else 1), M)) else mm_let (X7_fail 6 x3 M) fun y15 => some (y15.1, y15.2)
set_option maxRecDepth 100000 in
set_option maxHeartbeats 400000 in
theorem t_X0_readItem_j135 {D : mm_D} {d : Nat} (hd : 2 ≤ d) {rec0 : Int32 → mm_M → Option (Bool × mm_M)} {rec1 : Int32 → mm_M → Option (Bool × mm_M)} {d' : Nat} (hdd : d' < d) (hrec0 : ∀ (w0 : Int32) (M : mm_M) (res : Bool × mm_M), rec0 w0 M = some res → mm_Meth jX0_readQuestions d' 0 0 [.inr 1, .inr 27, .inl w0] S_c M (mm_Zi (mm_b res.1) S_c res.2)) (hrec1 : ∀ (w0 : Int32) (M : mm_M) (res : Bool × mm_M), rec1 w0 M = some res → mm_Meth jX0_readItem d' 0 0 [.inr 1, .inr 27, .inl w0] S_c M (mm_Zi (mm_b res.1) S_c res.2)) (x3 : Int32) (x4 : Int32) (x5 : Int32) (M : mm_M) (res : (Bool × mm_M)) (h : X0_readItem_j135 rec0 rec1 x3 x4 x5 M = some res) : mm_Go jX0_readItem D d 0 0 135 [some (.inr 1), some (.inr 27), none, some (.inl x3), some (.inl x4), some (.inl x5), none, none, none] [] S_c M (mm_Zi (mm_b res.1) S_c res.2) := by
  unfold X0_readItem_j135 at h
  refine r_iconst (v := 1) (q := 136) dX0_readItem_135 (by decide) rfl ?_
  refine r_aload_n (q := 137) dX0_readItem_136 rfl rfl ?_
  refine r_geti (v := (M 27 1)) (q := 140) lk_X0_9 dX0_readItem_137 sc_c_27 rfl rfl rfl ?_
  refine r_iload (q := 142) dX0_readItem_140 rfl rfl ?_
  refine r_isub (q := 143) dX0_readItem_142 rfl ?_
  refine r_mmax (q := 146) kc_X0_50 dX0_readItem_143 (Nat.le_of_ble_eq_true rfl) rfl ?_
  refine r_istore (q := 148) (L' := [some (.inr 1), some (.inr 27), none, some (.inl x3), some (.inl x4), some (.inl x5), none, some (.inl (if 1 < ((M 27 1) - x4) then ((M 27 1) - x4) else 1)), none]) dX0_readItem_146 (by decide) rfl rfl ?_
  refine r_iload (q := 150) dX0_readItem_148 rfl rfl ?_
  refine r_iload (q := 152) dX0_readItem_150 rfl rfl ?_
  refine r_iload (q := 154) dX0_readItem_152 rfl rfl ?_
  refine r_imul (q := 155) dX0_readItem_154 rfl ?_
  refine r_iadd (q := 156) dX0_readItem_155 rfl ?_
  refine r_bipush (v := 40) (q := 158) dX0_readItem_156 (by decide) rfl ?_
  refine r_icmp_le 169 (q := 161) dX0_readItem_158 (by decide) rfl (fun c7 => ?_) (fun c7 => ?_)
  · rw [if_pos c7] at h
    refine r_iload (q := 171) dX0_readItem_169 rfl rfl ?_
    refine r_istore (q := 173) (L' := [some (.inr 1), some (.inr 27), none, some (.inl x3), some (.inl x4), some (.inl x5), none, some (.inl (if 1 < ((M 27 1) - x4) then ((M 27 1) - x4) else 1)), some (.inl (if 1 < ((M 27 1) - x4) then ((M 27 1) - x4) else 1))]) dX0_readItem_171 (by decide) rfl rfl ?_
    refine r_forget (L' := [none, some (.inr 27), none, none, some (.inl x4), some (.inl x5), none, some (.inl (if 1 < ((M 27 1) - x4) then ((M 27 1) - x4) else 1)), some (.inl (if 1 < ((M 27 1) - x4) then ((M 27 1) - x4) else 1))]) [false, true, false, false, true, true, false, true, true] rfl ?_
    exact t_X0_readItem_l173 hd hdd hrec0 hrec1 x4 x5 (if 1 < ((M 27 1) - x4) then ((M 27 1) - x4) else 1) mm_fuel ((if 1 < ((M 27 1) - x4) then ((M 27 1) - x4) else 1), M) _ h mm_Zi_rfl
  · rw [if_neg c7] at h
    refine r_aload_n (q := 162) dX0_readItem_161 rfl rfl ?_
    refine r_bipush (v := 6) (q := 164) dX0_readItem_162 (by decide) rfl ?_
    refine r_iload_n (q := 165) dX0_readItem_164 rfl rfl ?_
    obtain ⟨y15, e14, h⟩ := mm_let_elim h
    refine r_callV_i (av := [(.inl 6), (.inl x3)]) (st := []) (q := 168) (d1 := 0) kc_X0_32 sc_c_1 dX0_readItem_165 rfl rfl (Nat.le_of_ble_eq_true rfl) (Nat.le_of_ble_eq_true rfl) (by omega) rfl rfl (t_X7_fail (d := 0) (by omega) 6 x3 M _ e14) ?_
    cases h
    exact r_retb dX0_readItem_168 rfl (mm_b01 _) mm_Zi_rfl
noncomputable def X0_readItem_j45 (rec0 : Int32 → mm_M → Option (Bool × mm_M)) (rec1 : Int32 → mm_M → Option (Bool × mm_M)) (x2 : Int32) (x3 : Int32) (x4 : Int32) (x5 : Int32) (M : mm_M) : Option (Bool × mm_M) := if (X11_isQuestion ((M 1 4) - 97)) = true then mm_let (X7_step M) fun y4 => mm_let (X4_add ((M 1 4) - 97) y4) fun y6 => X0_readItem_j135 rec0 rec1 x3 x4 x5 y6 else if (M 1 4) = 40 then if x2 < 2 then mm_let (X7_step M) fun y19 => (rec0 (x2 + 1) y19).bind fun y21 => if y21.1 = true then mm_let (X7_take 41 y21.2) fun y24 => if y24.1 = true then X0_readItem_j135 rec0 rec1 x3 x4 x5 y24.2 else some (false, y24.2) else some (false, y21.2) else mm_let (X7_fail 5 (M 1 2) M) fun y27 => some (y27.1, y27.2) else mm_let (X7_fail 1 (M 1 2) M) fun y29 => some (y29.1, y29.2)
set_option maxRecDepth 100000 in
set_option maxHeartbeats 400000 in
theorem t_X0_readItem_j45 {D : mm_D} {d : Nat} (hd : 2 ≤ d) {rec0 : Int32 → mm_M → Option (Bool × mm_M)} {rec1 : Int32 → mm_M → Option (Bool × mm_M)} {d' : Nat} (hdd : d' < d) (hrec0 : ∀ (w0 : Int32) (M : mm_M) (res : Bool × mm_M), rec0 w0 M = some res → mm_Meth jX0_readQuestions d' 0 0 [.inr 1, .inr 27, .inl w0] S_c M (mm_Zi (mm_b res.1) S_c res.2)) (hrec1 : ∀ (w0 : Int32) (M : mm_M) (res : Bool × mm_M), rec1 w0 M = some res → mm_Meth jX0_readItem d' 0 0 [.inr 1, .inr 27, .inl w0] S_c M (mm_Zi (mm_b res.1) S_c res.2)) (x2 : Int32) (x3 : Int32) (x4 : Int32) (x5 : Int32) (M : mm_M) (res : (Bool × mm_M)) (h : X0_readItem_j45 rec0 rec1 x2 x3 x4 x5 M = some res) : mm_Go jX0_readItem D d 0 0 45 [some (.inr 1), some (.inr 27), some (.inl x2), some (.inl x3), some (.inl x4), some (.inl x5), none, none, none] [] S_c M (mm_Zi (mm_b res.1) S_c res.2) := by
  unfold X0_readItem_j45 at h
  refine r_aload_n (q := 46) dX0_readItem_45 rfl rfl ?_
  refine r_geti (v := (M 1 4)) (q := 49) lk_X0_24 dX0_readItem_46 sc_c_1 rfl rfl rfl ?_
  refine r_bipush (v := 97) (q := 51) dX0_readItem_49 (by decide) rfl ?_
  refine r_isub (q := 52) dX0_readItem_51 rfl ?_
  refine r_istore (q := 54) (L' := [some (.inr 1), some (.inr 27), some (.inl x2), some (.inl x3), some (.inl x4), some (.inl x5), some (.inl ((M 1 4) - 97)), none, none]) dX0_readItem_52 (by decide) rfl rfl ?_
  refine r_iload (q := 56) dX0_readItem_54 rfl rfl ?_
  refine r_callS_i (av := [(.inl ((M 1 4) - 97))]) (st := []) (q := 59) (d1 := 0) kc_X0_39 dX0_readItem_56 rfl rfl (Nat.le_of_ble_eq_true rfl) (Nat.le_of_ble_eq_true rfl) (by omega) rfl rfl (t_X11_isQuestion (d := 0) (by omega) ((M 1 4) - 97) M _ rfl) ?_
  refine r_if_eq 75 (q := 62) dX0_readItem_59 (by decide) rfl (fun c2 => ?_) (fun c2 => ?_)
  · rw [if_neg (mm_b0 c2)] at h
    refine r_aload_n (q := 76) dX0_readItem_75 rfl rfl ?_
    refine r_geti (v := (M 1 4)) (q := 79) lk_X0_24 dX0_readItem_76 sc_c_1 rfl rfl rfl ?_
    refine r_bipush (v := 40) (q := 81) dX0_readItem_79 (by decide) rfl ?_
    refine r_icmp_ne 125 (q := 84) dX0_readItem_81 (by decide) rfl (fun c16 => ?_) (fun c16 => ?_)
    · rw [if_neg c16] at h
      refine r_aload_n (q := 126) dX0_readItem_125 rfl rfl ?_
      refine r_iconst (v := 1) (q := 127) dX0_readItem_126 (by decide) rfl ?_
      refine r_aload_n (q := 128) dX0_readItem_127 rfl rfl ?_
      refine r_geti (v := (M 1 2)) (q := 131) lk_X0_29 dX0_readItem_128 sc_c_1 rfl rfl rfl ?_
      obtain ⟨y29, e28, h⟩ := mm_let_elim h
      refine r_callV_i (av := [(.inl 1), (.inl (M 1 2))]) (st := []) (q := 134) (d1 := 0) kc_X0_32 sc_c_1 dX0_readItem_131 rfl rfl (Nat.le_of_ble_eq_true rfl) (Nat.le_of_ble_eq_true rfl) (by omega) rfl rfl (t_X7_fail (d := 0) (by omega) 1 (M 1 2) M _ e28) ?_
      cases h
      exact r_retb dX0_readItem_134 rfl (mm_b01 _) mm_Zi_rfl
    · rw [if_pos c16] at h
      refine r_iload_n (q := 85) dX0_readItem_84 rfl rfl ?_
      refine r_iconst (v := 2) (q := 86) dX0_readItem_85 (by decide) rfl ?_
      refine r_icmp_lt 99 (q := 89) dX0_readItem_86 (by decide) rfl (fun c17 => ?_) (fun c17 => ?_)
      · rw [if_pos c17] at h
        refine r_aload_n (q := 100) dX0_readItem_99 rfl rfl ?_
        obtain ⟨y19, e18, h⟩ := mm_let_elim h
        refine r_callV_v (av := []) (st := []) (q := 103) (d1 := 0) kc_X0_36 sc_c_1 dX0_readItem_100 rfl rfl (Nat.le_of_ble_eq_true rfl) (Nat.le_of_ble_eq_true rfl) (by omega) rfl rfl (t_X7_step (d := 0) (by omega) M _ e18) ?_
        refine r_aload_n (q := 104) dX0_readItem_103 rfl rfl ?_
        refine r_aload_n (q := 105) dX0_readItem_104 rfl rfl ?_
        refine r_iload_n (q := 106) dX0_readItem_105 rfl rfl ?_
        refine r_iconst (v := 1) (q := 107) dX0_readItem_106 (by decide) rfl ?_
        refine r_iadd (q := 108) dX0_readItem_107 rfl ?_
        obtain ⟨y21, e20, h⟩ := Option.bind_eq_some_iff.mp h
        refine r_callS_i (av := [(.inr 1), (.inr 27), (.inl (x2 + 1))]) (st := []) (q := 111) (d1 := d') kc_X0_15 dX0_readItem_108 rfl rfl (Nat.le_of_ble_eq_true rfl) (Nat.le_of_ble_eq_true rfl) (by omega) rfl rfl (hrec0 (x2 + 1) y19 _ e20) ?_
        refine r_if_eq 123 (q := 114) dX0_readItem_111 (by decide) rfl (fun c22 => ?_) (fun c22 => ?_)
        · rw [if_neg (mm_b0 c22)] at h
          refine r_iconst (v := 0) (q := 124) dX0_readItem_123 (by decide) rfl ?_
          cases h
          exact r_retb dX0_readItem_124 rfl (Or.inl rfl) mm_Zi_rfl
        · rw [if_pos (mm_b1 c22)] at h
          refine r_aload_n (q := 115) dX0_readItem_114 rfl rfl ?_
          refine r_bipush (v := 41) (q := 117) dX0_readItem_115 (by decide) rfl ?_
          obtain ⟨y24, e23, h⟩ := mm_let_elim h
          refine r_callV_i (av := [(.inl 41)]) (st := []) (q := 120) (d1 := 1) kc_X0_47 sc_c_1 dX0_readItem_117 rfl rfl (Nat.le_of_ble_eq_true rfl) (Nat.le_of_ble_eq_true rfl) (by omega) rfl rfl (t_X7_take (d := 1) (by omega) 41 y21.2 _ e23) ?_
          refine r_if_ne 135 (q := 123) dX0_readItem_120 (by decide) rfl (fun c25 => ?_) (fun c25 => ?_)
          · rw [if_pos (mm_b1 c25)] at h
            refine r_forget (L' := [some (.inr 1), some (.inr 27), none, some (.inl x3), some (.inl x4), some (.inl x5), none, none, none]) [true, true, false, true, true, true, false, false, false] rfl ?_
            exact t_X0_readItem_j135 hd hdd hrec0 hrec1 x3 x4 x5 y24.2 _ h
          · rw [if_neg (mm_b0 c25)] at h
            refine r_iconst (v := 0) (q := 124) dX0_readItem_123 (by decide) rfl ?_
            cases h
            exact r_retb dX0_readItem_124 rfl (Or.inl rfl) mm_Zi_rfl
      · rw [if_neg c17] at h
        refine r_aload_n (q := 90) dX0_readItem_89 rfl rfl ?_
        refine r_iconst (v := 5) (q := 91) dX0_readItem_90 (by decide) rfl ?_
        refine r_aload_n (q := 92) dX0_readItem_91 rfl rfl ?_
        refine r_geti (v := (M 1 2)) (q := 95) lk_X0_29 dX0_readItem_92 sc_c_1 rfl rfl rfl ?_
        obtain ⟨y27, e26, h⟩ := mm_let_elim h
        refine r_callV_i (av := [(.inl 5), (.inl (M 1 2))]) (st := []) (q := 98) (d1 := 0) kc_X0_32 sc_c_1 dX0_readItem_95 rfl rfl (Nat.le_of_ble_eq_true rfl) (Nat.le_of_ble_eq_true rfl) (by omega) rfl rfl (t_X7_fail (d := 0) (by omega) 5 (M 1 2) M _ e26) ?_
        cases h
        exact r_retb dX0_readItem_98 rfl (mm_b01 _) mm_Zi_rfl
  · rw [if_pos (mm_b1 c2)] at h
    refine r_aload_n (q := 63) dX0_readItem_62 rfl rfl ?_
    obtain ⟨y4, e3, h⟩ := mm_let_elim h
    refine r_callV_v (av := []) (st := []) (q := 66) (d1 := 0) kc_X0_36 sc_c_1 dX0_readItem_63 rfl rfl (Nat.le_of_ble_eq_true rfl) (Nat.le_of_ble_eq_true rfl) (by omega) rfl rfl (t_X7_step (d := 0) (by omega) M _ e3) ?_
    refine r_aload_n (q := 67) dX0_readItem_66 rfl rfl ?_
    refine r_iload (q := 69) dX0_readItem_67 rfl rfl ?_
    obtain ⟨y6, e5, h⟩ := mm_let_elim h
    refine r_callV_v (av := [(.inl ((M 1 4) - 97))]) (st := []) (q := 72) (d1 := 0) kc_X0_43 sc_c_27 dX0_readItem_69 rfl rfl (Nat.le_of_ble_eq_true rfl) (Nat.le_of_ble_eq_true rfl) (by omega) rfl rfl (t_X4_add (d := 0) (by omega) ((M 1 4) - 97) y4 _ e5) ?_
    refine r_goto 135 dX0_readItem_72 (by decide) ?_
    refine r_forget (L' := [some (.inr 1), some (.inr 27), none, some (.inl x3), some (.inl x4), some (.inl x5), none, none, none]) [true, true, false, true, true, true, false, false, false] rfl ?_
    exact t_X0_readItem_j135 hd hdd hrec0 hrec1 x3 x4 x5 y6 _ h
noncomputable def X0_readItem_o (rec0 : Int32 → mm_M → Option (Bool × mm_M)) (rec1 : Int32 → mm_M → Option (Bool × mm_M)) (x2 : Int32) (M : mm_M) : Option (Bool × mm_M) := if (M 1 4) < 50 then X0_readItem_j45 rec0 rec1 x2 (M 1 2) (M 27 1) 1 M else if 57 < (M 1 4) then X0_readItem_j45 rec0 rec1 x2 (M 1 2) (M 27 1) 1 M else mm_let (X7_step M) fun y32 => X0_readItem_j45 rec0 rec1 x2 (M 1 2) (M 27 1) ((M 1 4) - 48) y32
set_option maxRecDepth 100000 in
set_option maxHeartbeats 400000 in
theorem t_X0_readItem_o {d : Nat} (hd : 2 ≤ d) {rec0 : Int32 → mm_M → Option (Bool × mm_M)} {rec1 : Int32 → mm_M → Option (Bool × mm_M)} {d' : Nat} (hdd : d' < d) (hrec0 : ∀ (w0 : Int32) (M : mm_M) (res : Bool × mm_M), rec0 w0 M = some res → mm_Meth jX0_readQuestions d' 0 0 [.inr 1, .inr 27, .inl w0] S_c M (mm_Zi (mm_b res.1) S_c res.2)) (hrec1 : ∀ (w0 : Int32) (M : mm_M) (res : Bool × mm_M), rec1 w0 M = some res → mm_Meth jX0_readItem d' 0 0 [.inr 1, .inr 27, .inl w0] S_c M (mm_Zi (mm_b res.1) S_c res.2)) (x2 : Int32) (M : mm_M) (res : (Bool × mm_M)) (h : X0_readItem_o rec0 rec1 x2 M = some res) : mm_Meth jX0_readItem d 0 0 [(.inr 1), (.inr 27), (.inl x2)] S_c M (mm_Zi (mm_b res.1) S_c res.2) := by
  refine r_meth (L := [some (.inr 1), some (.inr 27), some (.inl x2), none, none, none, none, none, none]) rfl (fun D => ?_)
  unfold X0_readItem_o at h
  refine r_aload_n (q := 1) dX0_readItem_0 rfl rfl ?_
  refine r_geti (v := (M 1 2)) (q := 4) lk_X0_29 dX0_readItem_1 sc_c_1 rfl rfl rfl ?_
  refine r_istore_n (q := 5) (L' := [some (.inr 1), some (.inr 27), some (.inl x2), some (.inl (M 1 2)), none, none, none, none, none]) dX0_readItem_4 (by decide) rfl rfl ?_
  refine r_aload_n (q := 6) dX0_readItem_5 rfl rfl ?_
  refine r_geti (v := (M 27 1)) (q := 9) lk_X0_9 dX0_readItem_6 sc_c_27 rfl rfl rfl ?_
  refine r_istore (q := 11) (L' := [some (.inr 1), some (.inr 27), some (.inl x2), some (.inl (M 1 2)), some (.inl (M 27 1)), none, none, none, none]) dX0_readItem_9 (by decide) rfl rfl ?_
  refine r_iconst (v := 1) (q := 12) dX0_readItem_11 (by decide) rfl ?_
  refine r_istore (q := 14) (L' := [some (.inr 1), some (.inr 27), some (.inl x2), some (.inl (M 1 2)), some (.inl (M 27 1)), some (.inl 1), none, none, none]) dX0_readItem_12 (by decide) rfl rfl ?_
  refine r_aload_n (q := 15) dX0_readItem_14 rfl rfl ?_
  refine r_geti (v := (M 1 4)) (q := 18) lk_X0_24 dX0_readItem_15 sc_c_1 rfl rfl rfl ?_
  refine r_bipush (v := 50) (q := 20) dX0_readItem_18 (by decide) rfl ?_
  refine r_icmp_lt 45 (q := 23) dX0_readItem_20 (by decide) rfl (fun c1 => ?_) (fun c1 => ?_)
  · rw [if_pos c1] at h
    exact t_X0_readItem_j45 hd hdd hrec0 hrec1 x2 (M 1 2) (M 27 1) 1 M _ h
  · rw [if_neg c1] at h
    refine r_aload_n (q := 24) dX0_readItem_23 rfl rfl ?_
    refine r_geti (v := (M 1 4)) (q := 27) lk_X0_24 dX0_readItem_24 sc_c_1 rfl rfl rfl ?_
    refine r_bipush (v := 57) (q := 29) dX0_readItem_27 (by decide) rfl ?_
    refine r_icmp_gt 45 (q := 32) dX0_readItem_29 (by decide) rfl (fun c30 => ?_) (fun c30 => ?_)
    · rw [if_pos c30] at h
      exact t_X0_readItem_j45 hd hdd hrec0 hrec1 x2 (M 1 2) (M 27 1) 1 M _ h
    · rw [if_neg c30] at h
      refine r_aload_n (q := 33) dX0_readItem_32 rfl rfl ?_
      refine r_geti (v := (M 1 4)) (q := 36) lk_X0_24 dX0_readItem_33 sc_c_1 rfl rfl rfl ?_
      refine r_bipush (v := 48) (q := 38) dX0_readItem_36 (by decide) rfl ?_
      refine r_isub (q := 39) dX0_readItem_38 rfl ?_
      refine r_istore (q := 41) (L' := [some (.inr 1), some (.inr 27), some (.inl x2), some (.inl (M 1 2)), some (.inl (M 27 1)), some (.inl ((M 1 4) - 48)), none, none, none]) dX0_readItem_39 (by decide) rfl rfl ?_
      refine r_aload_n (q := 42) dX0_readItem_41 rfl rfl ?_
      obtain ⟨y32, e31, h⟩ := mm_let_elim h
      refine r_callV_v (av := []) (st := []) (q := 45) (d1 := 0) kc_X0_36 sc_c_1 dX0_readItem_42 rfl rfl (Nat.le_of_ble_eq_true rfl) (Nat.le_of_ble_eq_true rfl) (by omega) rfl rfl (t_X7_step (d := 0) (by omega) M _ e31) ?_
      exact t_X0_readItem_j45 hd hdd hrec0 hrec1 x2 (M 1 2) (M 27 1) ((M 1 4) - 48) y32 _ h
noncomputable def rc_X0_readQuestions : Nat → (Int32 → mm_M → Option (Bool × mm_M)) × (Int32 → mm_M → Option (Bool × mm_M))
  | 0 => (fun _ _ => none, fun _ _ => none)
  | n + 1 => (X0_readQuestions_o ((rc_X0_readQuestions n).1) ((rc_X0_readQuestions n).2), X0_readItem_o ((rc_X0_readQuestions n).1) ((rc_X0_readQuestions n).2))
noncomputable def X0_readQuestions (n : Nat) := (rc_X0_readQuestions n).1
noncomputable def X0_readItem (n : Nat) := (rc_X0_readQuestions n).2
theorem t_rc_X0_readQuestions : ∀ (n d : Nat), 2 + n ≤ d → (∀ (x2 : Int32) (M : mm_M) (res : Bool × mm_M), (rc_X0_readQuestions n).1 x2 M = some res → mm_Meth jX0_readQuestions d 0 0 [(.inr 1), (.inr 27), (.inl x2)] S_c M (mm_Zi (mm_b res.1) S_c res.2)) ∧ (∀ (x2 : Int32) (M : mm_M) (res : Bool × mm_M), (rc_X0_readQuestions n).2 x2 M = some res → mm_Meth jX0_readItem d 0 0 [(.inr 1), (.inr 27), (.inl x2)] S_c M (mm_Zi (mm_b res.1) S_c res.2)) := by
  intro n
  induction n with
  | zero => intro d hd; exact ⟨by intros; contradiction, by intros; contradiction⟩
  | succ n ih =>
    intro d hd
    have hr := ih (d - 1) (by omega)
    refine ⟨?_, ?_⟩
    · intro x2 M res h; exact t_X0_readQuestions_o (d := d) (by omega) (d' := d - 1) (by omega) hr.1 hr.2 x2 M res h
    · intro x2 M res h; exact t_X0_readItem_o (d := d) (by omega) (d' := d - 1) (by omega) hr.1 hr.2 x2 M res h
theorem t_X0_readQuestions {n d : Nat} (hd : 2 + n ≤ d) (x2 : Int32) (M : mm_M) (res : Bool × mm_M) (h : X0_readQuestions n x2 M = some res) : mm_Meth jX0_readQuestions d 0 0 [(.inr 1), (.inr 27), (.inl x2)] S_c M (mm_Zi (mm_b res.1) S_c res.2) := (t_rc_X0_readQuestions n d hd).1 x2 M res h
theorem t_X0_readItem {n d : Nat} (hd : 2 + n ≤ d) (x2 : Int32) (M : mm_M) (res : Bool × mm_M) (h : X0_readItem n x2 M = some res) : mm_Meth jX0_readItem d 0 0 [(.inr 1), (.inr 27), (.inl x2)] S_c M (mm_Zi (mm_b res.1) S_c res.2) := (t_rc_X0_readQuestions n d hd).2 x2 M res h
noncomputable def X0_read (M : mm_M) : Option (Bool × mm_M) := (X0_readQuestions 60 0 (mm_U M 27 1 0)).bind fun y2 => some (y2.1, y2.2)
set_option maxRecDepth 100000 in
set_option maxHeartbeats 400000 in
theorem t_X0_read {d : Nat} (hd : 63 ≤ d) (M : mm_M) (res : (Bool × mm_M)) (h : X0_read M = some res) : mm_Meth jX0_read d 0 0 [(.inr 1), (.inr 27)] S_c M (mm_Zi (mm_b res.1) S_c res.2) := by
  refine r_meth (L := [some (.inr 1), some (.inr 27)]) rfl (fun D => ?_)
  unfold X0_read at h
  refine r_aload_n (q := 1) dX0_read_0 rfl rfl ?_
  refine r_iconst (v := 0) (q := 2) dX0_read_1 (by decide) rfl ?_
  refine r_puti (q := 5) lk_X0_9 ft_2_1 dX0_read_2 sc_c_27 rfl rfl ?_
  refine r_aload_n (q := 6) dX0_read_5 rfl rfl ?_
  refine r_aload_n (q := 7) dX0_read_6 rfl rfl ?_
  refine r_iconst (v := 0) (q := 8) dX0_read_7 (by decide) rfl ?_
  obtain ⟨y2, e1, h⟩ := Option.bind_eq_some_iff.mp h
  refine r_callS_i (av := [(.inr 1), (.inr 27), (.inl 0)]) (st := []) (q := 11) (d1 := 62) kc_X0_15 dX0_read_8 rfl rfl (Nat.le_of_ble_eq_true rfl) (Nat.le_of_ble_eq_true rfl) (by omega) rfl rfl (t_X0_readQuestions (d := 62) (by omega) 0 (mm_U M 27 1 0) _ e1) ?_
  cases h
  exact r_retb dX0_read_11 rfl (mm_b01 _) mm_Zi_rfl
noncomputable def X11_readRow (x1 : Int32) (M : mm_M) : Option (Int32 × mm_M) := (X7_open x1 M).bind fun y2 => (X0_read y2).bind fun y4 => mm_let (X7_clear y4.2) fun y6 => some ((y6 1 5), y6)
set_option maxRecDepth 100000 in
set_option maxHeartbeats 400000 in
theorem t_X11_readRow {d : Nat} (hd : 64 ≤ d) (x1 : Int32) (M : mm_M) (res : (Int32 × mm_M)) (h : X11_readRow x1 M = some res) : mm_Meth jX11_readRow d 0 0 [(.inr 0), (.inl x1)] S_c M (mm_Zi res.1 S_c res.2) := by
  refine r_meth (L := [some (.inr 0), some (.inl x1)]) rfl (fun D => ?_)
  unfold X11_readRow at h
  refine r_aload_n (q := 1) dX11_readRow_0 rfl rfl ?_
  refine r_getr (b := 1) (q := 4) lk_X11_12 dX11_readRow_1 sc_c_0 rfl rfl ?_
  refine r_iload_n (q := 5) dX11_readRow_4 rfl rfl ?_
  obtain ⟨y2, e1, h⟩ := Option.bind_eq_some_iff.mp h
  refine r_callV_v (av := [(.inl x1)]) (st := []) (q := 8) (d1 := 1) kc_X11_112 sc_c_1 dX11_readRow_5 rfl rfl (Nat.le_of_ble_eq_true rfl) (Nat.le_of_ble_eq_true rfl) (by omega) rfl rfl (t_X7_open (d := 1) (by omega) x1 M _ e1) ?_
  refine r_aload_n (q := 9) dX11_readRow_8 rfl rfl ?_
  refine r_getr (b := 1) (q := 12) lk_X11_12 dX11_readRow_9 sc_c_0 rfl rfl ?_
  refine r_aload_n (q := 13) dX11_readRow_12 rfl rfl ?_
  refine r_getr (b := 27) (q := 16) lk_X11_62 dX11_readRow_13 sc_c_0 rfl rfl ?_
  obtain ⟨y4, e3, h⟩ := Option.bind_eq_some_iff.mp h
  refine r_callS_i (av := [(.inr 1), (.inr 27)]) (st := []) (q := 19) (d1 := 63) kc_X11_295 dX11_readRow_16 rfl rfl (Nat.le_of_ble_eq_true rfl) (Nat.le_of_ble_eq_true rfl) (by omega) rfl rfl (t_X0_read (d := 63) (by omega) y2 _ e3) ?_
  refine r_pop (q := 20) dX11_readRow_19 rfl ?_
  refine r_aload_n (q := 21) dX11_readRow_20 rfl rfl ?_
  refine r_getr (b := 1) (q := 24) lk_X11_12 dX11_readRow_21 sc_c_0 rfl rfl ?_
  obtain ⟨y6, e5, h⟩ := mm_let_elim h
  refine r_callV_v (av := []) (st := []) (q := 27) (d1 := 0) kc_X11_121 sc_c_1 dX11_readRow_24 rfl rfl (Nat.le_of_ble_eq_true rfl) (Nat.le_of_ble_eq_true rfl) (by omega) rfl rfl (t_X7_clear (d := 0) (by omega) y4.2 _ e5) ?_
  refine r_aload_n (q := 28) dX11_readRow_27 rfl rfl ?_
  refine r_getr (b := 1) (q := 31) lk_X11_12 dX11_readRow_28 sc_c_0 rfl rfl ?_
  refine r_geti (v := (y6 1 5)) (q := 34) lk_X11_124 dX11_readRow_31 sc_c_1 rfl rfl rfl ?_
  cases h
  exact r_ret dX11_readRow_34 rfl mm_Zi_rfl
noncomputable def X8_answer (x1 : Int32) (x2 : Int32) (M : mm_M) : Int32 := if ((x1 * 10) + x2) < 0 then 0 else if 80 ≤ ((x1 * 10) + x2) then 0 else (M 8 (Int32.toNatClampNeg ((x1 * 10) + x2)))
set_option maxRecDepth 100000 in
set_option maxHeartbeats 400000 in
theorem t_X8_answer {d : Nat} (hd : 0 ≤ d) (x1 : Int32) (x2 : Int32) (M : mm_M) (res : Int32) (h : X8_answer x1 x2 M = res) : mm_Meth jX8_answer d 0 0 [(.inr 7), (.inl x1), (.inl x2)] S_c M (mm_Zi res S_c M) := by
  refine r_meth (L := [some (.inr 7), some (.inl x1), some (.inl x2), none]) rfl (fun D => ?_)
  unfold X8_answer at h
  refine r_iload_n (q := 1) dX8_answer_0 rfl rfl ?_
  refine r_bipush (v := 10) (q := 3) dX8_answer_1 (by decide) rfl ?_
  refine r_imul (q := 4) dX8_answer_3 rfl ?_
  refine r_iload_n (q := 5) dX8_answer_4 rfl rfl ?_
  refine r_iadd (q := 6) dX8_answer_5 rfl ?_
  refine r_istore_n (q := 7) (L' := [some (.inr 7), some (.inl x1), some (.inl x2), some (.inl ((x1 * 10) + x2))]) dX8_answer_6 (by decide) rfl rfl ?_
  refine r_iload_n (q := 8) dX8_answer_7 rfl rfl ?_
  refine r_if_lt 26 (q := 11) dX8_answer_8 (by decide) rfl (fun c1 => ?_) (fun c1 => ?_)
  · rw [if_pos c1] at h
    refine r_iconst (v := 0) (q := 27) dX8_answer_26 (by decide) rfl ?_
    subst h
    exact r_ret dX8_answer_27 rfl mm_Zi_rfl
  · rw [if_neg c1] at h
    refine r_iload_n (q := 12) dX8_answer_11 rfl rfl ?_
    refine r_bipush (v := 80) (q := 14) dX8_answer_12 (by decide) rfl ?_
    refine r_icmp_ge 26 (q := 17) dX8_answer_14 (by decide) rfl (fun c2 => ?_) (fun c2 => ?_)
    · rw [if_pos c2] at h
      refine r_iconst (v := 0) (q := 27) dX8_answer_26 (by decide) rfl ?_
      subst h
      exact r_ret dX8_answer_27 rfl mm_Zi_rfl
    · rw [if_neg c2] at h
      refine r_aload_n (q := 18) dX8_answer_17 rfl rfl ?_
      refine r_getr (b := 8) (q := 21) lk_X8_9 dX8_answer_18 sc_c_7 rfl rfl ?_
      refine r_iload_n (q := 22) dX8_answer_21 rfl rfl ?_
      refine r_iald (v := (M 8 (Int32.toNatClampNeg ((x1 * 10) + x2)))) (q := 23) dX8_answer_22 sc_c_8 (mm_vp2 (Int32.not_lt.mp c1) (Int32.not_le.mp c2) (by decide)) rfl rfl ?_
      refine r_goto 27 dX8_answer_23 (by decide) ?_
      subst h
      exact r_ret dX8_answer_27 rfl mm_Zi_rfl
noncomputable def X8_behind (x1 : Int32) (x2 : Int32) (M : mm_M) : Int32 := if ((x1 * 10) + x2) < 0 then 0 else if 80 ≤ ((x1 * 10) + x2) then 0 else (M 9 (Int32.toNatClampNeg ((x1 * 10) + x2)))
set_option maxRecDepth 100000 in
set_option maxHeartbeats 400000 in
theorem t_X8_behind {d : Nat} (hd : 0 ≤ d) (x1 : Int32) (x2 : Int32) (M : mm_M) (res : Int32) (h : X8_behind x1 x2 M = res) : mm_Meth jX8_behind d 0 0 [(.inr 7), (.inl x1), (.inl x2)] S_c M (mm_Zi res S_c M) := by
  refine r_meth (L := [some (.inr 7), some (.inl x1), some (.inl x2), none]) rfl (fun D => ?_)
  unfold X8_behind at h
  refine r_iload_n (q := 1) dX8_behind_0 rfl rfl ?_
  refine r_bipush (v := 10) (q := 3) dX8_behind_1 (by decide) rfl ?_
  refine r_imul (q := 4) dX8_behind_3 rfl ?_
  refine r_iload_n (q := 5) dX8_behind_4 rfl rfl ?_
  refine r_iadd (q := 6) dX8_behind_5 rfl ?_
  refine r_istore_n (q := 7) (L' := [some (.inr 7), some (.inl x1), some (.inl x2), some (.inl ((x1 * 10) + x2))]) dX8_behind_6 (by decide) rfl rfl ?_
  refine r_iload_n (q := 8) dX8_behind_7 rfl rfl ?_
  refine r_if_lt 26 (q := 11) dX8_behind_8 (by decide) rfl (fun c1 => ?_) (fun c1 => ?_)
  · rw [if_pos c1] at h
    refine r_iconst (v := 0) (q := 27) dX8_behind_26 (by decide) rfl ?_
    subst h
    exact r_ret dX8_behind_27 rfl mm_Zi_rfl
  · rw [if_neg c1] at h
    refine r_iload_n (q := 12) dX8_behind_11 rfl rfl ?_
    refine r_bipush (v := 80) (q := 14) dX8_behind_12 (by decide) rfl ?_
    refine r_icmp_ge 26 (q := 17) dX8_behind_14 (by decide) rfl (fun c2 => ?_) (fun c2 => ?_)
    · rw [if_pos c2] at h
      refine r_iconst (v := 0) (q := 27) dX8_behind_26 (by decide) rfl ?_
      subst h
      exact r_ret dX8_behind_27 rfl mm_Zi_rfl
    · rw [if_neg c2] at h
      refine r_aload_n (q := 18) dX8_behind_17 rfl rfl ?_
      refine r_getr (b := 9) (q := 21) lk_X8_15 dX8_behind_18 sc_c_7 rfl rfl ?_
      refine r_iload_n (q := 22) dX8_behind_21 rfl rfl ?_
      refine r_iald (v := (M 9 (Int32.toNatClampNeg ((x1 * 10) + x2)))) (q := 23) dX8_behind_22 sc_c_9 (mm_vp2 (Int32.not_lt.mp c1) (Int32.not_le.mp c2) (by decide)) rfl rfl ?_
      refine r_goto 27 dX8_behind_23 (by decide) ?_
      subst h
      exact r_ret dX8_behind_27 rfl mm_Zi_rfl
noncomputable def X6_ask (a0 : Nat) (x2 : Int32) (M : mm_M) : mm_M := (mm_U (mm_U (mm_U (mm_U (mm_U M a0 1 (X8_answer x2 (M a0 0) M)) a0 2 x2) a0 0 (X8_behind x2 (M a0 0) (mm_U (mm_U M a0 1 (X8_answer x2 (M a0 0) M)) a0 2 x2))) a0 4 (if ((M a0 4) + 1) < 9999 then ((M a0 4) + 1) else 9999)) a0 5 (if ((M a0 5) + (X8_answer x2 (M a0 0) M)) < 99999 then ((M a0 5) + (X8_answer x2 (M a0 0) M)) else 99999))
set_option maxRecDepth 100000 in
set_option maxHeartbeats 400000 in
theorem t_X6_ask_4_7 {d : Nat} (hd : 1 ≤ d) (x2 : Int32) (M : mm_M) (res : mm_M) (h : X6_ask 4 x2 M = res) : mm_Meth jX6_ask d 0 0 [(.inr 4), (.inr 7), (.inl x2)] S_c M (mm_Zv S_c res) := by
  refine r_meth (L := [some (.inr 4), some (.inr 7), some (.inl x2)]) rfl (fun D => ?_)
  unfold X6_ask at h
  refine r_aload_n (q := 1) dX6_ask_0 rfl rfl ?_
  refine r_aload_n (q := 2) dX6_ask_1 rfl rfl ?_
  refine r_iload_n (q := 3) dX6_ask_2 rfl rfl ?_
  refine r_aload_n (q := 4) dX6_ask_3 rfl rfl ?_
  refine r_geti (v := (M 4 0)) (q := 7) lk_X6_21 dX6_ask_4 rfl rfl rfl rfl ?_
  refine r_callV_i (av := [(.inl x2), (.inl (M 4 0))]) (st := [(.inr 4)]) (q := 10) (d1 := 0) kc_X6_36 sc_c_7 dX6_ask_7 rfl rfl (Nat.le_of_ble_eq_true rfl) (Nat.le_of_ble_eq_true rfl) (by omega) rfl rfl (t_X8_answer (d := 0) (by omega) x2 (M 4 0) M _ rfl) ?_
  refine r_puti (q := 13) lk_X6_24 ft_4_1 dX6_ask_10 rfl rfl rfl ?_
  refine r_aload_n (q := 14) dX6_ask_13 rfl rfl ?_
  refine r_iload_n (q := 15) dX6_ask_14 rfl rfl ?_
  refine r_puti (q := 18) lk_X6_9 ft_4_2 dX6_ask_15 rfl rfl rfl ?_
  refine r_aload_n (q := 19) dX6_ask_18 rfl rfl ?_
  refine r_aload_n (q := 20) dX6_ask_19 rfl rfl ?_
  refine r_iload_n (q := 21) dX6_ask_20 rfl rfl ?_
  refine r_aload_n (q := 22) dX6_ask_21 rfl rfl ?_
  refine r_geti (v := (M 4 0)) (q := 25) lk_X6_21 dX6_ask_22 rfl rfl rfl rfl ?_
  refine r_callV_i (av := [(.inl x2), (.inl (M 4 0))]) (st := [(.inr 4)]) (q := 28) (d1 := 0) kc_X6_42 sc_c_7 dX6_ask_25 rfl rfl (Nat.le_of_ble_eq_true rfl) (Nat.le_of_ble_eq_true rfl) (by omega) rfl rfl (t_X8_behind (d := 0) (by omega) x2 (M 4 0) (mm_U (mm_U M 4 1 (X8_answer x2 (M 4 0) M)) 4 2 x2) _ rfl) ?_
  refine r_puti (q := 31) lk_X6_21 ft_4_0 dX6_ask_28 rfl rfl rfl ?_
  refine r_aload_n (q := 32) dX6_ask_31 rfl rfl ?_
  refine r_sipush (v := 9999) (q := 35) dX6_ask_32 (by decide) rfl ?_
  refine r_aload_n (q := 36) dX6_ask_35 rfl rfl ?_
  refine r_geti (v := (M 4 4)) (q := 39) lk_X6_27 dX6_ask_36 rfl rfl rfl rfl ?_
  refine r_iconst (v := 1) (q := 40) dX6_ask_39 (by decide) rfl ?_
  refine r_iadd (q := 41) dX6_ask_40 rfl ?_
  refine r_mmin (q := 44) kc_X6_45 dX6_ask_41 (Nat.le_of_ble_eq_true rfl) rfl ?_
  refine r_puti (q := 47) lk_X6_27 ft_4_4 dX6_ask_44 rfl rfl rfl ?_
  refine r_aload_n (q := 48) dX6_ask_47 rfl rfl ?_
  refine r_ldc (v := 99999) (q := 50) dX6_ask_48 ko_X6_50 rfl ?_
  refine r_aload_n (q := 51) dX6_ask_50 rfl rfl ?_
  refine r_geti (v := (M 4 5)) (q := 54) lk_X6_30 dX6_ask_51 rfl rfl rfl rfl ?_
  refine r_aload_n (q := 55) dX6_ask_54 rfl rfl ?_
  refine r_geti (v := (X8_answer x2 (M 4 0) M)) (q := 58) lk_X6_24 dX6_ask_55 rfl rfl rfl rfl ?_
  refine r_iadd (q := 59) dX6_ask_58 rfl ?_
  refine r_mmin (q := 62) kc_X6_45 dX6_ask_59 (Nat.le_of_ble_eq_true rfl) rfl ?_
  refine r_puti (q := 65) lk_X6_30 ft_4_5 dX6_ask_62 rfl rfl rfl ?_
  subst h
  exact r_retv dX6_ask_65 rfl mm_Zv_rfl
set_option maxRecDepth 100000 in
set_option maxHeartbeats 400000 in
theorem t_X6_ask_6_7 {d : Nat} (hd : 1 ≤ d) (x2 : Int32) (M : mm_M) (res : mm_M) (h : X6_ask 6 x2 M = res) : mm_Meth jX6_ask d 0 0 [(.inr 6), (.inr 7), (.inl x2)] S_c M (mm_Zv S_c res) := by
  refine r_meth (L := [some (.inr 6), some (.inr 7), some (.inl x2)]) rfl (fun D => ?_)
  unfold X6_ask at h
  refine r_aload_n (q := 1) dX6_ask_0 rfl rfl ?_
  refine r_aload_n (q := 2) dX6_ask_1 rfl rfl ?_
  refine r_iload_n (q := 3) dX6_ask_2 rfl rfl ?_
  refine r_aload_n (q := 4) dX6_ask_3 rfl rfl ?_
  refine r_geti (v := (M 6 0)) (q := 7) lk_X6_21 dX6_ask_4 rfl rfl rfl rfl ?_
  refine r_callV_i (av := [(.inl x2), (.inl (M 6 0))]) (st := [(.inr 6)]) (q := 10) (d1 := 0) kc_X6_36 sc_c_7 dX6_ask_7 rfl rfl (Nat.le_of_ble_eq_true rfl) (Nat.le_of_ble_eq_true rfl) (by omega) rfl rfl (t_X8_answer (d := 0) (by omega) x2 (M 6 0) M _ rfl) ?_
  refine r_puti (q := 13) lk_X6_24 ft_4_1 dX6_ask_10 rfl rfl rfl ?_
  refine r_aload_n (q := 14) dX6_ask_13 rfl rfl ?_
  refine r_iload_n (q := 15) dX6_ask_14 rfl rfl ?_
  refine r_puti (q := 18) lk_X6_9 ft_4_2 dX6_ask_15 rfl rfl rfl ?_
  refine r_aload_n (q := 19) dX6_ask_18 rfl rfl ?_
  refine r_aload_n (q := 20) dX6_ask_19 rfl rfl ?_
  refine r_iload_n (q := 21) dX6_ask_20 rfl rfl ?_
  refine r_aload_n (q := 22) dX6_ask_21 rfl rfl ?_
  refine r_geti (v := (M 6 0)) (q := 25) lk_X6_21 dX6_ask_22 rfl rfl rfl rfl ?_
  refine r_callV_i (av := [(.inl x2), (.inl (M 6 0))]) (st := [(.inr 6)]) (q := 28) (d1 := 0) kc_X6_42 sc_c_7 dX6_ask_25 rfl rfl (Nat.le_of_ble_eq_true rfl) (Nat.le_of_ble_eq_true rfl) (by omega) rfl rfl (t_X8_behind (d := 0) (by omega) x2 (M 6 0) (mm_U (mm_U M 6 1 (X8_answer x2 (M 6 0) M)) 6 2 x2) _ rfl) ?_
  refine r_puti (q := 31) lk_X6_21 ft_4_0 dX6_ask_28 rfl rfl rfl ?_
  refine r_aload_n (q := 32) dX6_ask_31 rfl rfl ?_
  refine r_sipush (v := 9999) (q := 35) dX6_ask_32 (by decide) rfl ?_
  refine r_aload_n (q := 36) dX6_ask_35 rfl rfl ?_
  refine r_geti (v := (M 6 4)) (q := 39) lk_X6_27 dX6_ask_36 rfl rfl rfl rfl ?_
  refine r_iconst (v := 1) (q := 40) dX6_ask_39 (by decide) rfl ?_
  refine r_iadd (q := 41) dX6_ask_40 rfl ?_
  refine r_mmin (q := 44) kc_X6_45 dX6_ask_41 (Nat.le_of_ble_eq_true rfl) rfl ?_
  refine r_puti (q := 47) lk_X6_27 ft_4_4 dX6_ask_44 rfl rfl rfl ?_
  refine r_aload_n (q := 48) dX6_ask_47 rfl rfl ?_
  refine r_ldc (v := 99999) (q := 50) dX6_ask_48 ko_X6_50 rfl ?_
  refine r_aload_n (q := 51) dX6_ask_50 rfl rfl ?_
  refine r_geti (v := (M 6 5)) (q := 54) lk_X6_30 dX6_ask_51 rfl rfl rfl rfl ?_
  refine r_aload_n (q := 55) dX6_ask_54 rfl rfl ?_
  refine r_geti (v := (X8_answer x2 (M 6 0) M)) (q := 58) lk_X6_24 dX6_ask_55 rfl rfl rfl rfl ?_
  refine r_iadd (q := 59) dX6_ask_58 rfl ?_
  refine r_mmin (q := 62) kc_X6_45 dX6_ask_59 (Nat.le_of_ble_eq_true rfl) rfl ?_
  refine r_puti (q := 65) lk_X6_30 ft_4_5 dX6_ask_62 rfl rfl rfl ?_
  subst h
  exact r_retv dX6_ask_65 rfl mm_Zv_rfl
noncomputable def X11_census_l36 (s : (Int32 × mm_M)) : Option ((Int32 × mm_M) ⊕ (Int32 × mm_M)) := if (s.2 27 1) ≤ s.1 then some (.inr ((s.2 4 1), s.2)) else mm_let (X6_ask 4 (X4_at s.1 s.2) s.2) fun y8 => some (.inl ((s.1 + 1), y8))
set_option maxRecDepth 100000 in
set_option maxHeartbeats 400000 in
theorem t_X11_census_l36 {D : mm_D} {d : Nat} (hd : 65 ≤ d) {Z : Option Int32 → List mm_C → mm_M → Prop} (n : Nat) (s : (Int32 × mm_M)) (r : (Int32 × mm_M)) (h : mm_loop (X11_census_l36) n s = some r) (hx : Z (some r.1) S_c r.2) : mm_Go jX11_census D d 0 0 36 [some (.inr 0), none, none, some (.inl s.1)] [] S_c s.2 Z := by
  refine mm_loop_go (step := X11_census_l36) (Hd := fun (s : (Int32 × mm_M)) => mm_Go jX11_census D d 0 0 36 [some (.inr 0), none, none, some (.inl s.1)] [] S_c s.2 Z) (Ex := fun (r : (Int32 × mm_M)) => Z (some r.1) S_c r.2) ?_ n s r h hx
  intro s o h kb ke
  show mm_Go jX11_census D d 0 0 36 [some (.inr 0), none, none, some (.inl s.1)] [] S_c s.2 Z
  unfold X11_census_l36 at h
  refine r_iload_n (q := 37) dX11_census_36 rfl rfl ?_
  refine r_aload_n (q := 38) dX11_census_37 rfl rfl ?_
  refine r_getr (b := 27) (q := 41) lk_X11_62 dX11_census_38 sc_c_0 rfl rfl ?_
  refine r_geti (v := (s.2 27 1)) (q := 44) lk_X11_152 dX11_census_41 sc_c_27 rfl rfl rfl ?_
  refine r_icmp_ge 72 (q := 47) dX11_census_44 (by decide) rfl (fun c6 => ?_) (fun c6 => ?_)
  · rw [if_pos c6] at h
    refine r_aload_n (q := 73) dX11_census_72 rfl rfl ?_
    refine r_getr (b := 4) (q := 76) lk_X11_29 dX11_census_73 sc_c_0 rfl rfl ?_
    refine r_geti (v := (s.2 4 1)) (q := 79) lk_X11_135 dX11_census_76 sc_c_4 rfl rfl rfl ?_
    cases h
    have hk := ke _ rfl
    exact r_ret dX11_census_79 rfl hk
  · rw [if_neg c6] at h
    refine r_aload_n (q := 48) dX11_census_47 rfl rfl ?_
    refine r_getr (b := 4) (q := 51) lk_X11_29 dX11_census_48 sc_c_0 rfl rfl ?_
    refine r_aload_n (q := 52) dX11_census_51 rfl rfl ?_
    refine r_getr (b := 7) (q := 55) lk_X11_42 dX11_census_52 sc_c_0 rfl rfl ?_
    refine r_aload_n (q := 56) dX11_census_55 rfl rfl ?_
    refine r_getr (b := 27) (q := 59) lk_X11_62 dX11_census_56 sc_c_0 rfl rfl ?_
    refine r_iload_n (q := 60) dX11_census_59 rfl rfl ?_
    refine r_callV_i (av := [(.inl s.1)]) (st := [(.inr 7), (.inr 4)]) (q := 63) (d1 := 0) kc_X11_155 sc_c_27 dX11_census_60 rfl rfl (Nat.le_of_ble_eq_true rfl) (Nat.le_of_ble_eq_true rfl) (by omega) rfl rfl (t_X4_at (d := 0) (by omega) s.1 s.2 _ rfl) ?_
    obtain ⟨y8, e7, h⟩ := mm_let_elim h
    refine r_callV_v (av := [(.inr 7), (.inl (X4_at s.1 s.2))]) (st := []) (q := 66) (d1 := 1) kc_X11_158 sc_c_4 dX11_census_63 rfl rfl (Nat.le_of_ble_eq_true rfl) (Nat.le_of_ble_eq_true rfl) (by omega) rfl rfl (t_X6_ask_4_7 (d := 1) (by omega) (X4_at s.1 s.2) s.2 _ e7) ?_
    refine r_iinc (v := 1) (q := 69) (L' := [some (.inr 0), none, none, some (.inl (s.1 + 1))]) dX11_census_66 (by decide) (by decide) rfl rfl rfl ?_
    refine r_goto 36 dX11_census_69 (by decide) ?_
    cases h
    have hk := kb _ rfl
    exact hk
noncomputable def X11_census (x1 : Int32) (M : mm_M) : Option (Int32 × mm_M) := if (X11_isOnTape x1 60 M) = true then if (X8_isTold M) = true then (X11_readRow x1 M).bind fun y4 => if y4.1 = 0 then (mm_loop (X11_census_l36) mm_fuel (0, y4.2)) else some (y4.1, y4.2) else some ((-1), M) else some ((-1), M)
set_option maxRecDepth 100000 in
set_option maxHeartbeats 400000 in
theorem t_X11_census {d : Nat} (hd : 65 ≤ d) (x1 : Int32) (M : mm_M) (res : (Int32 × mm_M)) (h : X11_census x1 M = some res) : mm_Meth jX11_census d 0 0 [(.inr 0), (.inl x1)] S_c M (mm_Zi res.1 S_c res.2) := by
  refine r_meth (L := [some (.inr 0), some (.inl x1), none, none]) rfl (fun D => ?_)
  unfold X11_census at h
  refine r_aload_n (q := 1) dX11_census_0 rfl rfl ?_
  refine r_iload_n (q := 2) dX11_census_1 rfl rfl ?_
  refine r_bipush (v := 60) (q := 4) dX11_census_2 (by decide) rfl ?_
  refine r_callV_i (av := [(.inl x1), (.inl 60)]) (st := []) (q := 7) (d1 := 0) kc_X11_108 sc_c_0 dX11_census_4 rfl rfl (Nat.le_of_ble_eq_true rfl) (Nat.le_of_ble_eq_true rfl) (by omega) rfl rfl (t_X11_isOnTape (d := 0) (by omega) x1 60 M _ rfl) ?_
  refine r_if_eq 20 (q := 10) dX11_census_7 (by decide) rfl (fun c1 => ?_) (fun c1 => ?_)
  · rw [if_neg (mm_b0 c1)] at h
    refine r_iconst (v := (-1)) (q := 21) dX11_census_20 (by decide) rfl ?_
    cases h
    exact r_ret dX11_census_21 rfl mm_Zi_rfl
  · rw [if_pos (mm_b1 c1)] at h
    refine r_aload_n (q := 11) dX11_census_10 rfl rfl ?_
    refine r_getr (b := 7) (q := 14) lk_X11_42 dX11_census_11 sc_c_0 rfl rfl ?_
    refine r_callV_i (av := []) (st := []) (q := 17) (d1 := 0) kc_X11_144 sc_c_7 dX11_census_14 rfl rfl (Nat.le_of_ble_eq_true rfl) (Nat.le_of_ble_eq_true rfl) (by omega) rfl rfl (t_X8_isTold (d := 0) (by omega) M _ rfl) ?_
    refine r_if_ne 22 (q := 20) dX11_census_17 (by decide) rfl (fun c2 => ?_) (fun c2 => ?_)
    · rw [if_pos (mm_b1 c2)] at h
      refine r_aload_n (q := 23) dX11_census_22 rfl rfl ?_
      refine r_iload_n (q := 24) dX11_census_23 rfl rfl ?_
      obtain ⟨y4, e3, h⟩ := Option.bind_eq_some_iff.mp h
      refine r_callV_i (av := [(.inl x1)]) (st := []) (q := 27) (d1 := 64) kc_X11_148 sc_c_0 dX11_census_24 rfl rfl (Nat.le_of_ble_eq_true rfl) (Nat.le_of_ble_eq_true rfl) (by omega) rfl rfl (t_X11_readRow (d := 64) (by omega) x1 M _ e3) ?_
      refine r_istore_n (q := 28) (L' := [some (.inr 0), some (.inl x1), some (.inl y4.1), none]) dX11_census_27 (by decide) rfl rfl ?_
      refine r_iload_n (q := 29) dX11_census_28 rfl rfl ?_
      refine r_if_eq 34 (q := 32) dX11_census_29 (by decide) rfl (fun c5 => ?_) (fun c5 => ?_)
      · rw [if_pos c5] at h
        refine r_iconst (v := 0) (q := 35) dX11_census_34 (by decide) rfl ?_
        refine r_istore_n (q := 36) (L' := [some (.inr 0), some (.inl x1), some (.inl y4.1), some (.inl 0)]) dX11_census_35 (by decide) rfl rfl ?_
        refine r_forget (L' := [some (.inr 0), none, none, some (.inl 0)]) [true, false, false, true] rfl ?_
        exact t_X11_census_l36 hd mm_fuel (0, y4.2) _ h mm_Zi_rfl
      · rw [if_neg c5] at h
        refine r_iload_n (q := 33) dX11_census_32 rfl rfl ?_
        cases h
        exact r_ret dX11_census_33 rfl mm_Zi_rfl
    · rw [if_neg (mm_b0 c2)] at h
      refine r_iconst (v := (-1)) (q := 21) dX11_census_20 (by decide) rfl ?_
      cases h
      exact r_ret dX11_census_21 rfl mm_Zi_rfl
noncomputable def X11_lookAlong_l42 (x1 : Int32) (x6 : Int32) (M : mm_M) (s : (Int32 × Int32 × Int32 × Int32 × Int32)) : Option ((Int32 × Int32 × Int32 × Int32 × Int32) ⊕ (Int32 × Int32 × Int32 × Int32)) := if x6 ≤ s.2.2.2.2 then some (.inr (s.1, s.2.1, s.2.2.1, s.2.2.2.1)) else some (.inl ((X8_behind (X4_at s.2.2.2.2 M) s.1 M), (X8_answer (X4_at s.2.2.2.2 M) s.1 M), (s.2.2.1 + (X8_answer (X4_at s.2.2.2.2 M) s.1 M)), (s.2.2.2.1 ||| ((1 : Int32) <<< ((X8_behind (X4_at s.2.2.2.2 M) s.1 M) &&& 31))), (s.2.2.2.2 + 1)))
set_option maxRecDepth 100000 in
set_option maxHeartbeats 400000 in
theorem t_X11_lookAlong_l42 {D : mm_D} {d : Nat} (hd : 1 ≤ d) {Z : Option Int32 → List mm_C → mm_M → Prop} (x1 : Int32) (x6 : Int32) (M : mm_M) (n : Nat) (s : (Int32 × Int32 × Int32 × Int32 × Int32)) (r : (Int32 × Int32 × Int32 × Int32)) (h : mm_loop (X11_lookAlong_l42 x1 x6 M) n s = some r) (hx : mm_Go jX11_lookAlong D d 0 0 102 [some (.inr 0), some (.inl x1), some (.inl r.1), some (.inl r.2.1), some (.inl r.2.2.1), some (.inl r.2.2.2), none, none, none] [] S_c M Z) : mm_Go jX11_lookAlong D d 0 0 42 [some (.inr 0), some (.inl x1), some (.inl s.1), some (.inl s.2.1), some (.inl s.2.2.1), some (.inl s.2.2.2.1), some (.inl x6), some (.inl s.2.2.2.2), none] [] S_c M Z := by
  refine mm_loop_go (step := X11_lookAlong_l42 x1 x6 M) (Hd := fun (s : (Int32 × Int32 × Int32 × Int32 × Int32)) => mm_Go jX11_lookAlong D d 0 0 42 [some (.inr 0), some (.inl x1), some (.inl s.1), some (.inl s.2.1), some (.inl s.2.2.1), some (.inl s.2.2.2.1), some (.inl x6), some (.inl s.2.2.2.2), none] [] S_c M Z) (Ex := fun (r : (Int32 × Int32 × Int32 × Int32)) => mm_Go jX11_lookAlong D d 0 0 102 [some (.inr 0), some (.inl x1), some (.inl r.1), some (.inl r.2.1), some (.inl r.2.2.1), some (.inl r.2.2.2), none, none, none] [] S_c M Z) ?_ n s r h hx
  intro s o h kb ke
  show mm_Go jX11_lookAlong D d 0 0 42 [some (.inr 0), some (.inl x1), some (.inl s.1), some (.inl s.2.1), some (.inl s.2.2.1), some (.inl s.2.2.2.1), some (.inl x6), some (.inl s.2.2.2.2), none] [] S_c M Z
  unfold X11_lookAlong_l42 at h
  refine r_iload (q := 44) dX11_lookAlong_42 rfl rfl ?_
  refine r_iload (q := 46) dX11_lookAlong_44 rfl rfl ?_
  refine r_icmp_ge 102 (q := 49) dX11_lookAlong_46 (by decide) rfl (fun c2 => ?_) (fun c2 => ?_)
  · rw [if_pos c2] at h
    refine r_forget (L' := [some (.inr 0), some (.inl x1), some (.inl s.1), some (.inl s.2.1), some (.inl s.2.2.1), some (.inl s.2.2.2.1), none, none, none]) [true, true, true, true, true, true, false, false, false] rfl ?_
    cases h
    have hk := ke _ rfl
    exact hk
  · rw [if_neg c2] at h
    refine r_aload_n (q := 50) dX11_lookAlong_49 rfl rfl ?_
    refine r_getr (b := 27) (q := 53) lk_X11_62 dX11_lookAlong_50 sc_c_0 rfl rfl ?_
    refine r_iload (q := 55) dX11_lookAlong_53 rfl rfl ?_
    refine r_callV_i (av := [(.inl s.2.2.2.2)]) (st := []) (q := 58) (d1 := 0) kc_X11_155 sc_c_27 dX11_lookAlong_55 rfl rfl (Nat.le_of_ble_eq_true rfl) (Nat.le_of_ble_eq_true rfl) (by omega) rfl rfl (t_X4_at (d := 0) (by omega) s.2.2.2.2 M _ rfl) ?_
    refine r_istore (q := 60) (L' := [some (.inr 0), some (.inl x1), some (.inl s.1), some (.inl s.2.1), some (.inl s.2.2.1), some (.inl s.2.2.2.1), some (.inl x6), some (.inl s.2.2.2.2), some (.inl (X4_at s.2.2.2.2 M))]) dX11_lookAlong_58 (by decide) rfl rfl ?_
    refine r_aload_n (q := 61) dX11_lookAlong_60 rfl rfl ?_
    refine r_getr (b := 7) (q := 64) lk_X11_42 dX11_lookAlong_61 sc_c_0 rfl rfl ?_
    refine r_iload (q := 66) dX11_lookAlong_64 rfl rfl ?_
    refine r_iload_n (q := 67) dX11_lookAlong_66 rfl rfl ?_
    refine r_callV_i (av := [(.inl (X4_at s.2.2.2.2 M)), (.inl s.1)]) (st := []) (q := 70) (d1 := 0) kc_X11_182 sc_c_7 dX11_lookAlong_67 rfl rfl (Nat.le_of_ble_eq_true rfl) (Nat.le_of_ble_eq_true rfl) (by omega) rfl rfl (t_X8_answer (d := 0) (by omega) (X4_at s.2.2.2.2 M) s.1 M _ rfl) ?_
    refine r_istore_n (q := 71) (L' := [some (.inr 0), some (.inl x1), some (.inl s.1), some (.inl (X8_answer (X4_at s.2.2.2.2 M) s.1 M)), some (.inl s.2.2.1), some (.inl s.2.2.2.1), some (.inl x6), some (.inl s.2.2.2.2), some (.inl (X4_at s.2.2.2.2 M))]) dX11_lookAlong_70 (by decide) rfl rfl ?_
    refine r_aload_n (q := 72) dX11_lookAlong_71 rfl rfl ?_
    refine r_getr (b := 7) (q := 75) lk_X11_42 dX11_lookAlong_72 sc_c_0 rfl rfl ?_
    refine r_iload (q := 77) dX11_lookAlong_75 rfl rfl ?_
    refine r_iload_n (q := 78) dX11_lookAlong_77 rfl rfl ?_
    refine r_callV_i (av := [(.inl (X4_at s.2.2.2.2 M)), (.inl s.1)]) (st := []) (q := 81) (d1 := 0) kc_X11_186 sc_c_7 dX11_lookAlong_78 rfl rfl (Nat.le_of_ble_eq_true rfl) (Nat.le_of_ble_eq_true rfl) (by omega) rfl rfl (t_X8_behind (d := 0) (by omega) (X4_at s.2.2.2.2 M) s.1 M _ rfl) ?_
    refine r_istore_n (q := 82) (L' := [some (.inr 0), some (.inl x1), some (.inl (X8_behind (X4_at s.2.2.2.2 M) s.1 M)), some (.inl (X8_answer (X4_at s.2.2.2.2 M) s.1 M)), some (.inl s.2.2.1), some (.inl s.2.2.2.1), some (.inl x6), some (.inl s.2.2.2.2), some (.inl (X4_at s.2.2.2.2 M))]) dX11_lookAlong_81 (by decide) rfl rfl ?_
    refine r_iload (q := 84) dX11_lookAlong_82 rfl rfl ?_
    refine r_iload_n (q := 85) dX11_lookAlong_84 rfl rfl ?_
    refine r_iadd (q := 86) dX11_lookAlong_85 rfl ?_
    refine r_istore (q := 88) (L' := [some (.inr 0), some (.inl x1), some (.inl (X8_behind (X4_at s.2.2.2.2 M) s.1 M)), some (.inl (X8_answer (X4_at s.2.2.2.2 M) s.1 M)), some (.inl (s.2.2.1 + (X8_answer (X4_at s.2.2.2.2 M) s.1 M))), some (.inl s.2.2.2.1), some (.inl x6), some (.inl s.2.2.2.2), some (.inl (X4_at s.2.2.2.2 M))]) dX11_lookAlong_86 (by decide) rfl rfl ?_
    refine r_iload (q := 90) dX11_lookAlong_88 rfl rfl ?_
    refine r_iconst (v := 1) (q := 91) dX11_lookAlong_90 (by decide) rfl ?_
    refine r_iload_n (q := 92) dX11_lookAlong_91 rfl rfl ?_
    refine r_ishl (q := 93) dX11_lookAlong_92 rfl ?_
    refine r_ior (q := 94) dX11_lookAlong_93 rfl ?_
    refine r_istore (q := 96) (L' := [some (.inr 0), some (.inl x1), some (.inl (X8_behind (X4_at s.2.2.2.2 M) s.1 M)), some (.inl (X8_answer (X4_at s.2.2.2.2 M) s.1 M)), some (.inl (s.2.2.1 + (X8_answer (X4_at s.2.2.2.2 M) s.1 M))), some (.inl (s.2.2.2.1 ||| ((1 : Int32) <<< ((X8_behind (X4_at s.2.2.2.2 M) s.1 M) &&& 31)))), some (.inl x6), some (.inl s.2.2.2.2), some (.inl (X4_at s.2.2.2.2 M))]) dX11_lookAlong_94 (by decide) rfl rfl ?_
    refine r_iinc (v := 1) (q := 99) (L' := [some (.inr 0), some (.inl x1), some (.inl (X8_behind (X4_at s.2.2.2.2 M) s.1 M)), some (.inl (X8_answer (X4_at s.2.2.2.2 M) s.1 M)), some (.inl (s.2.2.1 + (X8_answer (X4_at s.2.2.2.2 M) s.1 M))), some (.inl (s.2.2.2.1 ||| ((1 : Int32) <<< ((X8_behind (X4_at s.2.2.2.2 M) s.1 M) &&& 31)))), some (.inl x6), some (.inl (s.2.2.2.2 + 1)), some (.inl (X4_at s.2.2.2.2 M))]) dX11_lookAlong_96 (by decide) (by decide) rfl rfl rfl ?_
    refine r_goto 42 dX11_lookAlong_99 (by decide) ?_
    refine r_forget (L' := [some (.inr 0), some (.inl x1), some (.inl (X8_behind (X4_at s.2.2.2.2 M) s.1 M)), some (.inl (X8_answer (X4_at s.2.2.2.2 M) s.1 M)), some (.inl (s.2.2.1 + (X8_answer (X4_at s.2.2.2.2 M) s.1 M))), some (.inl (s.2.2.2.1 ||| ((1 : Int32) <<< ((X8_behind (X4_at s.2.2.2.2 M) s.1 M) &&& 31)))), some (.inl x6), some (.inl (s.2.2.2.2 + 1)), none]) [true, true, true, true, true, true, true, true, false] rfl ?_
    cases h
    have hk := kb _ rfl
    exact hk
noncomputable def X11_lookAlong_j37 (x1 : Int32) (x2 : Int32) (x3 : Int32) (x4 : Int32) (x5 : Int32) (z0 : Int32) (M : mm_M) : Option Int32 := (mm_loop (X11_lookAlong_l42 x1 z0 M) mm_fuel (x2, x3, x4, x5, 0)).bind fun y3 => if x1 = 101 then some y3.1 else if x1 = 102 then some y3.2.2.1 else if x1 = 103 then some (M 27 1) else if x1 = 104 then some y3.2.2.2 else some y3.2.1
set_option maxRecDepth 100000 in
set_option maxHeartbeats 400000 in
theorem t_X11_lookAlong_j37 {D : mm_D} {d : Nat} (hd : 1 ≤ d) (x1 : Int32) (x2 : Int32) (x3 : Int32) (x4 : Int32) (x5 : Int32) (z0 : Int32) (M : mm_M) (res : Int32) (h : X11_lookAlong_j37 x1 x2 x3 x4 x5 z0 M = some res) : mm_Go jX11_lookAlong D d 0 0 37 [some (.inr 0), some (.inl x1), some (.inl x2), some (.inl x3), some (.inl x4), some (.inl x5), none, none, none] [(.inl z0)] S_c M (mm_Zi res S_c M) := by
  unfold X11_lookAlong_j37 at h
  refine r_istore (q := 39) (L' := [some (.inr 0), some (.inl x1), some (.inl x2), some (.inl x3), some (.inl x4), some (.inl x5), some (.inl z0), none, none]) dX11_lookAlong_37 (by decide) rfl rfl ?_
  refine r_iconst (v := 0) (q := 40) dX11_lookAlong_39 (by decide) rfl ?_
  refine r_istore (q := 42) (L' := [some (.inr 0), some (.inl x1), some (.inl x2), some (.inl x3), some (.inl x4), some (.inl x5), some (.inl z0), some (.inl 0), none]) dX11_lookAlong_40 (by decide) rfl rfl ?_
  obtain ⟨y3, e4, h⟩ := Option.bind_eq_some_iff.mp h
  refine t_X11_lookAlong_l42 hd x1 z0 M mm_fuel (x2, x3, x4, x5, 0) _ e4 ?_
  show mm_Go jX11_lookAlong _ _ _ _ 102 [some (.inr 0), some (.inl x1), some (.inl y3.1), some (.inl y3.2.1), some (.inl y3.2.2.1), some (.inl y3.2.2.2), none, none, none] [] S_c M _
  refine r_iload_n (q := 103) dX11_lookAlong_102 rfl rfl ?_
  by_cases c5 : x1 = 101
  · rw [if_pos c5] at h
    refine mm_tableIn (off := 29) 132 dX11_lookAlong_103 (by rw [c5]; decide) (by rw [c5]; decide) (by rw [c5]; rfl) (by decide) ?_
    refine r_iload_n (q := 133) dX11_lookAlong_132 rfl rfl ?_
    cases h
    exact r_ret dX11_lookAlong_133 rfl mm_Zi_rfl
  · rw [if_neg c5] at h
    by_cases c6 : x1 = 102
    · rw [if_pos c6] at h
      refine mm_tableIn (off := 31) 134 dX11_lookAlong_103 (by rw [c6]; decide) (by rw [c6]; decide) (by rw [c6]; rfl) (by decide) ?_
      refine r_iload (q := 136) dX11_lookAlong_134 rfl rfl ?_
      cases h
      exact r_ret dX11_lookAlong_136 rfl mm_Zi_rfl
    · rw [if_neg c6] at h
      by_cases c7 : x1 = 103
      · rw [if_pos c7] at h
        refine mm_tableIn (off := 34) 137 dX11_lookAlong_103 (by rw [c7]; decide) (by rw [c7]; decide) (by rw [c7]; rfl) (by decide) ?_
        refine r_aload_n (q := 138) dX11_lookAlong_137 rfl rfl ?_
        refine r_getr (b := 27) (q := 141) lk_X11_62 dX11_lookAlong_138 sc_c_0 rfl rfl ?_
        refine r_geti (v := (M 27 1)) (q := 144) lk_X11_152 dX11_lookAlong_141 sc_c_27 rfl rfl rfl ?_
        cases h
        exact r_ret dX11_lookAlong_144 rfl mm_Zi_rfl
      · rw [if_neg c7] at h
        by_cases c8 : x1 = 104
        · rw [if_pos c8] at h
          refine mm_tableIn (off := 42) 145 dX11_lookAlong_103 (by rw [c8]; decide) (by rw [c8]; decide) (by rw [c8]; rfl) (by decide) ?_
          refine r_iload (q := 147) dX11_lookAlong_145 rfl rfl ?_
          cases h
          exact r_ret dX11_lookAlong_147 rfl mm_Zi_rfl
        · rw [if_neg c8] at h
          have nc5 : (x1).toInt ≠ 101 := fun e => c5 (Int32.toInt_inj.mp (e.trans (by decide)))
          have nc6 : (x1).toInt ≠ 102 := fun e => c6 (Int32.toInt_inj.mp (e.trans (by decide)))
          have nc7 : (x1).toInt ≠ 103 := fun e => c7 (Int32.toInt_inj.mp (e.trans (by decide)))
          have nc8 : (x1).toInt ≠ 104 := fun e => c8 (Int32.toInt_inj.mp (e.trans (by decide)))
          refine mm_tableOut 148 dX11_lookAlong_103 (by omega) (by decide) ?_
          refine r_iload_n (q := 149) dX11_lookAlong_148 rfl rfl ?_
          cases h
          exact r_ret dX11_lookAlong_149 rfl mm_Zi_rfl
noncomputable def X11_lookAlong (x1 : Int32) (M : mm_M) : Option Int32 := if 100 ≤ x1 then X11_lookAlong_j37 x1 (M 4 0) 0 0 ((1 : Int32) <<< ((M 4 0) &&& 31)) (M 27 1) M else X11_lookAlong_j37 x1 (M 4 0) 0 0 ((1 : Int32) <<< ((M 4 0) &&& 31)) (x1 + 1) M
set_option maxRecDepth 100000 in
set_option maxHeartbeats 400000 in
theorem t_X11_lookAlong {d : Nat} (hd : 1 ≤ d) (x1 : Int32) (M : mm_M) (res : Int32) (h : X11_lookAlong x1 M = some res) : mm_Meth jX11_lookAlong d 0 0 [(.inr 0), (.inl x1)] S_c M (mm_Zi res S_c M) := by
  refine r_meth (L := [some (.inr 0), some (.inl x1), none, none, none, none, none, none, none]) rfl (fun D => ?_)
  unfold X11_lookAlong at h
  refine r_aload_n (q := 1) dX11_lookAlong_0 rfl rfl ?_
  refine r_getr (b := 4) (q := 4) lk_X11_29 dX11_lookAlong_1 sc_c_0 rfl rfl ?_
  refine r_geti (v := (M 4 0)) (q := 7) lk_X11_91 dX11_lookAlong_4 sc_c_4 rfl rfl rfl ?_
  refine r_istore_n (q := 8) (L' := [some (.inr 0), some (.inl x1), some (.inl (M 4 0)), none, none, none, none, none, none]) dX11_lookAlong_7 (by decide) rfl rfl ?_
  refine r_iconst (v := 0) (q := 9) dX11_lookAlong_8 (by decide) rfl ?_
  refine r_istore_n (q := 10) (L' := [some (.inr 0), some (.inl x1), some (.inl (M 4 0)), some (.inl 0), none, none, none, none, none]) dX11_lookAlong_9 (by decide) rfl rfl ?_
  refine r_iconst (v := 0) (q := 11) dX11_lookAlong_10 (by decide) rfl ?_
  refine r_istore (q := 13) (L' := [some (.inr 0), some (.inl x1), some (.inl (M 4 0)), some (.inl 0), some (.inl 0), none, none, none, none]) dX11_lookAlong_11 (by decide) rfl rfl ?_
  refine r_iconst (v := 1) (q := 14) dX11_lookAlong_13 (by decide) rfl ?_
  refine r_iload_n (q := 15) dX11_lookAlong_14 rfl rfl ?_
  refine r_ishl (q := 16) dX11_lookAlong_15 rfl ?_
  refine r_istore (q := 18) (L' := [some (.inr 0), some (.inl x1), some (.inl (M 4 0)), some (.inl 0), some (.inl 0), some (.inl ((1 : Int32) <<< ((M 4 0) &&& 31))), none, none, none]) dX11_lookAlong_16 (by decide) rfl rfl ?_
  refine r_iload_n (q := 19) dX11_lookAlong_18 rfl rfl ?_
  refine r_bipush (v := 100) (q := 21) dX11_lookAlong_19 (by decide) rfl ?_
  refine r_icmp_ge 30 (q := 24) dX11_lookAlong_21 (by decide) rfl (fun c1 => ?_) (fun c1 => ?_)
  · rw [if_pos c1] at h
    refine r_aload_n (q := 31) dX11_lookAlong_30 rfl rfl ?_
    refine r_getr (b := 27) (q := 34) lk_X11_62 dX11_lookAlong_31 sc_c_0 rfl rfl ?_
    refine r_geti (v := (M 27 1)) (q := 37) lk_X11_152 dX11_lookAlong_34 sc_c_27 rfl rfl rfl ?_
    exact t_X11_lookAlong_j37 hd x1 (M 4 0) 0 0 ((1 : Int32) <<< ((M 4 0) &&& 31)) (M 27 1) M _ h
  · rw [if_neg c1] at h
    refine r_iload_n (q := 25) dX11_lookAlong_24 rfl rfl ?_
    refine r_iconst (v := 1) (q := 26) dX11_lookAlong_25 (by decide) rfl ?_
    refine r_iadd (q := 27) dX11_lookAlong_26 rfl ?_
    refine r_goto 37 dX11_lookAlong_27 (by decide) ?_
    exact t_X11_lookAlong_j37 hd x1 (M 4 0) 0 0 ((1 : Int32) <<< ((M 4 0) &&& 31)) (x1 + 1) M _ h
