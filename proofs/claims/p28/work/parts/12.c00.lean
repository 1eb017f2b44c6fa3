noncomputable def J7_fill_53178_l5 (a0 : Nat) (x1 : Int32) (x3 : Int32) (s : (Int32 × mm_M)) : Option ((Int32 × mm_M) ⊕ mm_M) := if x3 ≤ s.1 then some (.inr s.2) else if mm_in s.1 (mm_len S_c a0) = true then some (.inl ((s.1 + 1), (mm_U s.2 a0 (Int32.toNatClampNeg s.1) x1))) else none
set_option maxRecDepth 100000 in
set_option maxHeartbeats 400000 in
theorem t_J7_fill_53178_l5_33 {D : mm_D} {d : Nat} (hd : 0 ≤ d) {Z : Option Int32 → List mm_C → mm_M → Prop} (x1 : Int32) (x3 : Int32) (n : Nat) (s : (Int32 × mm_M)) (r : mm_M) (h : mm_loop (J7_fill_53178_l5 33 x1 x3) n s = some r) (hx : Z none S_c r) : mm_Go jJ7_fill_53178 D d 0 0 5 [some (.inr 33), some (.inl x1), some (.inl s.1), some (.inl x3)] [] S_c s.2 Z := by
  refine mm_loop_go (step := J7_fill_53178_l5 33 x1 x3) (Hd := fun (s : (Int32 × mm_M)) => mm_Go jJ7_fill_53178 D d 0 0 5 [some (.inr 33), some (.inl x1), some (.inl s.1), some (.inl x3)] [] S_c s.2 Z) (Ex := fun (r : mm_M) => Z none S_c r) ?_ n s r h hx
  intro s o h kb ke
  show mm_Go jJ7_fill_53178 D d 0 0 5 [some (.inr 33), some (.inl x1), some (.inl s.1), some (.inl x3)] [] S_c s.2 Z
  unfold J7_fill_53178_l5 at h
  refine r_iload_n (q := 6) dJ7_fill_53178_5 rfl rfl ?_
  refine r_iload_n (q := 7) dJ7_fill_53178_6 rfl rfl ?_
  refine r_icmp_ge 20 (q := 10) dJ7_fill_53178_7 (by decide) rfl (fun c1 => ?_) (fun c1 => ?_)
  · rw [if_pos c1] at h
    cases h
    have hk := ke _ rfl
    exact r_retv dJ7_fill_53178_20 rfl hk
  · rw [if_neg c1] at h
    refine r_aload_n (q := 11) dJ7_fill_53178_10 rfl rfl ?_
    refine r_iload_n (q := 12) dJ7_fill_53178_11 rfl rfl ?_
    refine r_iload_n (q := 13) dJ7_fill_53178_12 rfl rfl ?_
    obtain ⟨g2, h⟩ := mm_guard h
    refine r_iast (j := (Int32.toNatClampNeg s.1)) (q := 14) dJ7_fill_53178_13 rfl (mm_vp g2) rfl rfl ?_
    refine r_iinc (v := 1) (q := 17) (L' := [some (.inr 33), some (.inl x1), some (.inl (s.1 + 1)), some (.inl x3)]) dJ7_fill_53178_14 (by decide) (by decide) rfl rfl rfl ?_
    refine r_goto 5 dJ7_fill_53178_17 (by decide) ?_
    cases h
    have hk := kb _ rfl
    exact hk
set_option maxRecDepth 100000 in
set_option maxHeartbeats 400000 in
theorem t_J7_fill_53178_l5_34 {D : mm_D} {d : Nat} (hd : 0 ≤ d) {Z : Option Int32 → List mm_C → mm_M → Prop} (x1 : Int32) (x3 : Int32) (n : Nat) (s : (Int32 × mm_M)) (r : mm_M) (h : mm_loop (J7_fill_53178_l5 34 x1 x3) n s = some r) (hx : Z none S_c r) : mm_Go jJ7_fill_53178 D d 0 0 5 [some (.inr 34), some (.inl x1), some (.inl s.1), some (.inl x3)] [] S_c s.2 Z := by
  refine mm_loop_go (step := J7_fill_53178_l5 34 x1 x3) (Hd := fun (s : (Int32 × mm_M)) => mm_Go jJ7_fill_53178 D d 0 0 5 [some (.inr 34), some (.inl x1), some (.inl s.1), some (.inl x3)] [] S_c s.2 Z) (Ex := fun (r : mm_M) => Z none S_c r) ?_ n s r h hx
  intro s o h kb ke
  show mm_Go jJ7_fill_53178 D d 0 0 5 [some (.inr 34), some (.inl x1), some (.inl s.1), some (.inl x3)] [] S_c s.2 Z
  unfold J7_fill_53178_l5 at h
  refine r_iload_n (q := 6) dJ7_fill_53178_5 rfl rfl ?_
  refine r_iload_n (q := 7) dJ7_fill_53178_6 rfl rfl ?_
  refine r_icmp_ge 20 (q := 10) dJ7_fill_53178_7 (by decide) rfl (fun c1 => ?_) (fun c1 => ?_)
  · rw [if_pos c1] at h
    cases h
    have hk := ke _ rfl
    exact r_retv dJ7_fill_53178_20 rfl hk
  · rw [if_neg c1] at h
    refine r_aload_n (q := 11) dJ7_fill_53178_10 rfl rfl ?_
    refine r_iload_n (q := 12) dJ7_fill_53178_11 rfl rfl ?_
    refine r_iload_n (q := 13) dJ7_fill_53178_12 rfl rfl ?_
    obtain ⟨g2, h⟩ := mm_guard h
    refine r_iast (j := (Int32.toNatClampNeg s.1)) (q := 14) dJ7_fill_53178_13 rfl (mm_vp g2) rfl rfl ?_
    refine r_iinc (v := 1) (q := 17) (L' := [some (.inr 34), some (.inl x1), some (.inl (s.1 + 1)), some (.inl x3)]) dJ7_fill_53178_14 (by decide) (by decide) rfl rfl rfl ?_
    refine r_goto 5 dJ7_fill_53178_17 (by decide) ?_
    cases h
    have hk := kb _ rfl
    exact hk
set_option maxRecDepth 100000 in
set_option maxHeartbeats 400000 in
theorem t_J7_fill_53178_l5_35 {D : mm_D} {d : Nat} (hd : 0 ≤ d) {Z : Option Int32 → List mm_C → mm_M → Prop} (x1 : Int32) (x3 : Int32) (n : Nat) (s : (Int32 × mm_M)) (r : mm_M) (h : mm_loop (J7_fill_53178_l5 35 x1 x3) n s = some r) (hx : Z none S_c r) : mm_Go jJ7_fill_53178 D d 0 0 5 [some (.inr 35), some (.inl x1), some (.inl s.1), some (.inl x3)] [] S_c s.2 Z := by
  refine mm_loop_go (step := J7_fill_53178_l5 35 x1 x3) (Hd := fun (s : (Int32 × mm_M)) => mm_Go jJ7_fill_53178 D d 0 0 5 [some (.inr 35), some (.inl x1), some (.inl s.1), some (.inl x3)] [] S_c s.2 Z) (Ex := fun (r : mm_M) => Z none S_c r) ?_ n s r h hx
  intro s o h kb ke
  show mm_Go jJ7_fill_53178 D d 0 0 5 [some (.inr 35), some (.inl x1), some (.inl s.1), some (.inl x3)] [] S_c s.2 Z
  unfold J7_fill_53178_l5 at h
  refine r_iload_n (q := 6) dJ7_fill_53178_5 rfl rfl ?_
  refine r_iload_n (q := 7) dJ7_fill_53178_6 rfl rfl ?_
  refine r_icmp_ge 20 (q := 10) dJ7_fill_53178_7 (by decide) rfl (fun c1 => ?_) (fun c1 => ?_)
  · rw [if_pos c1] at h
    cases h
    have hk := ke _ rfl
    exact r_retv dJ7_fill_53178_20 rfl hk
  · rw [if_neg c1] at h
    refine r_aload_n (q := 11) dJ7_fill_53178_10 rfl rfl ?_
    refine r_iload_n (q := 12) dJ7_fill_53178_11 rfl rfl ?_
    refine r_iload_n (q := 13) dJ7_fill_53178_12 rfl rfl ?_
    obtain ⟨g2, h⟩ := mm_guard h
    refine r_iast (j := (Int32.toNatClampNeg s.1)) (q := 14) dJ7_fill_53178_13 rfl (mm_vp g2) rfl rfl ?_
    refine r_iinc (v := 1) (q := 17) (L' := [some (.inr 35), some (.inl x1), some (.inl (s.1 + 1)), some (.inl x3)]) dJ7_fill_53178_14 (by decide) (by decide) rfl rfl rfl ?_
    refine r_goto 5 dJ7_fill_53178_17 (by decide) ?_
    cases h
    have hk := kb _ rfl
    exact hk
set_option maxRecDepth 100000 in
set_option maxHeartbeats 400000 in
theorem t_J7_fill_53178_l5_38 {D : mm_D} {d : Nat} (hd : 0 ≤ d) {Z : Option Int32 → List mm_C → mm_M → Prop} (x1 : Int32) (x3 : Int32) (n : Nat) (s : (Int32 × mm_M)) (r : mm_M) (h : mm_loop (J7_fill_53178_l5 38 x1 x3) n s = some r) (hx : Z none S_c r) : mm_Go jJ7_fill_53178 D d 0 0 5 [some (.inr 38), some (.inl x1), some (.inl s.1), some (.inl x3)] [] S_c s.2 Z := by
  refine mm_loop_go (step := J7_fill_53178_l5 38 x1 x3) (Hd := fun (s : (Int32 × mm_M)) => mm_Go jJ7_fill_53178 D d 0 0 5 [some (.inr 38), some (.inl x1), some (.inl s.1), some (.inl x3)] [] S_c s.2 Z) (Ex := fun (r : mm_M) => Z none S_c r) ?_ n s r h hx
  intro s o h kb ke
  show mm_Go jJ7_fill_53178 D d 0 0 5 [some (.inr 38), some (.inl x1), some (.inl s.1), some (.inl x3)] [] S_c s.2 Z
  unfold J7_fill_53178_l5 at h
  refine r_iload_n (q := 6) dJ7_fill_53178_5 rfl rfl ?_
  refine r_iload_n (q := 7) dJ7_fill_53178_6 rfl rfl ?_
  refine r_icmp_ge 20 (q := 10) dJ7_fill_53178_7 (by decide) rfl (fun c1 => ?_) (fun c1 => ?_)
  · rw [if_pos c1] at h
    cases h
    have hk := ke _ rfl
    exact r_retv dJ7_fill_53178_20 rfl hk
  · rw [if_neg c1] at h
    refine r_aload_n (q := 11) dJ7_fill_53178_10 rfl rfl ?_
    refine r_iload_n (q := 12) dJ7_fill_53178_11 rfl rfl ?_
    refine r_iload_n (q := 13) dJ7_fill_53178_12 rfl rfl ?_
    obtain ⟨g2, h⟩ := mm_guard h
    refine r_iast (j := (Int32.toNatClampNeg s.1)) (q := 14) dJ7_fill_53178_13 rfl (mm_vp g2) rfl rfl ?_
    refine r_iinc (v := 1) (q := 17) (L' := [some (.inr 38), some (.inl x1), some (.inl (s.1 + 1)), some (.inl x3)]) dJ7_fill_53178_14 (by decide) (by decide) rfl rfl rfl ?_
    refine r_goto 5 dJ7_fill_53178_17 (by decide) ?_
    cases h
    have hk := kb _ rfl
    exact hk
set_option maxRecDepth 100000 in
set_option maxHeartbeats 400000 in
theorem t_J7_fill_53178_l5_40 {D : mm_D} {d : Nat} (hd : 0 ≤ d) {Z : Option Int32 → List mm_C → mm_M → Prop} (x1 : Int32) (x3 : Int32) (n : Nat) (s : (Int32 × mm_M)) (r : mm_M) (h : mm_loop (J7_fill_53178_l5 40 x1 x3) n s = some r) (hx : Z none S_c r) : mm_Go jJ7_fill_53178 D d 0 0 5 [some (.inr 40), some (.inl x1), some (.inl s.1), some (.inl x3)] [] S_c s.2 Z := by
  refine mm_loop_go (step := J7_fill_53178_l5 40 x1 x3) (Hd := fun (s : (Int32 × mm_M)) => mm_Go jJ7_fill_53178 D d 0 0 5 [some (.inr 40), some (.inl x1), some (.inl s.1), some (.inl x3)] [] S_c s.2 Z) (Ex := fun (r : mm_M) => Z none S_c r) ?_ n s r h hx
  intro s o h kb ke
  show mm_Go jJ7_fill_53178 D d 0 0 5 [some (.inr 40), some (.inl x1), some (.inl s.1), some (.inl x3)] [] S_c s.2 Z
  unfold J7_fill_53178_l5 at h
  refine r_iload_n (q := 6) dJ7_fill_53178_5 rfl rfl ?_
  refine r_iload_n (q := 7) dJ7_fill_53178_6 rfl rfl ?_
  refine r_icmp_ge 20 (q := 10) dJ7_fill_53178_7 (by decide) rfl (fun c1 => ?_) (fun c1 => ?_)
  · rw [if_pos c1] at h
    cases h
    have hk := ke _ rfl
    exact r_retv dJ7_fill_53178_20 rfl hk
  · rw [if_neg c1] at h
    refine r_aload_n (q := 11) dJ7_fill_53178_10 rfl rfl ?_
    refine r_iload_n (q := 12) dJ7_fill_53178_11 rfl rfl ?_
    refine r_iload_n (q := 13) dJ7_fill_53178_12 rfl rfl ?_
    obtain ⟨g2, h⟩ := mm_guard h
    refine r_iast (j := (Int32.toNatClampNeg s.1)) (q := 14) dJ7_fill_53178_13 rfl (mm_vp g2) rfl rfl ?_
    refine r_iinc (v := 1) (q := 17) (L' := [some (.inr 40), some (.inl x1), some (.inl (s.1 + 1)), some (.inl x3)]) dJ7_fill_53178_14 (by decide) (by decide) rfl rfl rfl ?_
    refine r_goto 5 dJ7_fill_53178_17 (by decide) ?_
    cases h
    have hk := kb _ rfl
    exact hk
noncomputable def J7_fill_53178 (a0 : Nat) (x1 : Int32) (M : mm_M) : Option mm_M := (mm_loop (J7_fill_53178_l5 a0 x1 (Int32.ofNat (mm_len S_c a0))) mm_fuel (0, M))
set_option maxRecDepth 100000 in
set_option maxHeartbeats 400000 in
theorem t_J7_fill_53178_33 {d : Nat} (hd : 0 ≤ d) (x1 : Int32) (M : mm_M) (res : mm_M) (h : J7_fill_53178 33 x1 M = some res) : mm_Meth jJ7_fill_53178 d 0 0 [(.inr 33), (.inl x1)] S_c M (mm_Zv S_c res) := by
  refine r_meth (L := [some (.inr 33), some (.inl x1), none, none]) rfl (fun D => ?_)
  unfold J7_fill_53178 at h
  refine r_iconst (v := 0) (q := 1) dJ7_fill_53178_0 (by decide) rfl ?_
  refine r_istore_n (q := 2) (L' := [some (.inr 33), some (.inl x1), some (.inl 0), none]) dJ7_fill_53178_1 (by decide) rfl rfl ?_
  refine r_aload_n (q := 3) dJ7_fill_53178_2 rfl rfl ?_
  refine r_alen (v := (Int32.ofNat (mm_len S_c 33))) (q := 4) dJ7_fill_53178_3 rfl rfl rfl ?_
  refine r_istore_n (q := 5) (L' := [some (.inr 33), some (.inl x1), some (.inl 0), some (.inl (Int32.ofNat (mm_len S_c 33)))]) dJ7_fill_53178_4 (by decide) rfl rfl ?_
  exact t_J7_fill_53178_l5_33 hd x1 (Int32.ofNat (mm_len S_c 33)) mm_fuel (0, M) _ h mm_Zv_rfl
set_option maxRecDepth 100000 in
set_option maxHeartbeats 400000 in
theorem t_J7_fill_53178_34 {d : Nat} (hd : 0 ≤ d) (x1 : Int32) (M : mm_M) (res : mm_M) (h : J7_fill_53178 34 x1 M = some res) : mm_Meth jJ7_fill_53178 d 0 0 [(.inr 34), (.inl x1)] S_c M (mm_Zv S_c res) := by
  refine r_meth (L := [some (.inr 34), some (.inl x1), none, none]) rfl (fun D => ?_)
  unfold J7_fill_53178 at h
  refine r_iconst (v := 0) (q := 1) dJ7_fill_53178_0 (by decide) rfl ?_
  refine r_istore_n (q := 2) (L' := [some (.inr 34), some (.inl x1), some (.inl 0), none]) dJ7_fill_53178_1 (by decide) rfl rfl ?_
  refine r_aload_n (q := 3) dJ7_fill_53178_2 rfl rfl ?_
  refine r_alen (v := (Int32.ofNat (mm_len S_c 34))) (q := 4) dJ7_fill_53178_3 rfl rfl rfl ?_
  refine r_istore_n (q := 5) (L' := [some (.inr 34), some (.inl x1), some (.inl 0), some (.inl (Int32.ofNat (mm_len S_c 34)))]) dJ7_fill_53178_4 (by decide) rfl rfl ?_
  exact t_J7_fill_53178_l5_34 hd x1 (Int32.ofNat (mm_len S_c 34)) mm_fuel (0, M) _ h mm_Zv_rfl
set_option maxRecDepth 100000 in
set_option maxHeartbeats 400000 in
theorem t_J7_fill_53178_35 {d : Nat} (hd : 0 ≤ d) (x1 : Int32) (M : mm_M) (res : mm_M) (h : J7_fill_53178 35 x1 M = some res) : mm_Meth jJ7_fill_53178 d 0 0 [(.inr 35), (.inl x1)] S_c M (mm_Zv S_c res) := by
  refine r_meth (L := [some (.inr 35), some (.inl x1), none, none]) rfl (fun D => ?_)
  unfold J7_fill_53178 at h
  refine r_iconst (v := 0) (q := 1) dJ7_fill_53178_0 (by decide) rfl ?_
  refine r_istore_n (q := 2) (L' := [some (.inr 35), some (.inl x1), some (.inl 0), none]) dJ7_fill_53178_1 (by decide) rfl rfl ?_
  refine r_aload_n (q := 3) dJ7_fill_53178_2 rfl rfl ?_
  refine r_alen (v := (Int32.ofNat (mm_len S_c 35))) (q := 4) dJ7_fill_53178_3 rfl rfl rfl ?_
  refine r_istore_n (q := 5) (L' := [some (.inr 35), some (.inl x1), some (.inl 0), some (.inl (Int32.ofNat (mm_len S_c 35)))]) dJ7_fill_53178_4 (by decide) rfl rfl ?_
  exact t_J7_fill_53178_l5_35 hd x1 (Int32.ofNat (mm_len S_c 35)) mm_fuel (0, M) _ h mm_Zv_rfl
set_option maxRecDepth 100000 in
set_option maxHeartbeats 400000 in
theorem t_J7_fill_53178_38 {d : Nat} (hd : 0 ≤ d) (x1 : Int32) (M : mm_M) (res : mm_M) (h : J7_fill_53178 38 x1 M = some res) : mm_Meth jJ7_fill_53178 d 0 0 [(.inr 38), (.inl x1)] S_c M (mm_Zv S_c res) := by
  refine r_meth (L := [some (.inr 38), some (.inl x1), none, none]) rfl (fun D => ?_)
  unfold J7_fill_53178 at h
  refine r_iconst (v := 0) (q := 1) dJ7_fill_53178_0 (by decide) rfl ?_
  refine r_istore_n (q := 2) (L' := [some (.inr 38), some (.inl x1), some (.inl 0), none]) dJ7_fill_53178_1 (by decide) rfl rfl ?_
  refine r_aload_n (q := 3) dJ7_fill_53178_2 rfl rfl ?_
  refine r_alen (v := (Int32.ofNat (mm_len S_c 38))) (q := 4) dJ7_fill_53178_3 rfl rfl rfl ?_
  refine r_istore_n (q := 5) (L' := [some (.inr 38), some (.inl x1), some (.inl 0), some (.inl (Int32.ofNat (mm_len S_c 38)))]) dJ7_fill_53178_4 (by decide) rfl rfl ?_
  exact t_J7_fill_53178_l5_38 hd x1 (Int32.ofNat (mm_len S_c 38)) mm_fuel (0, M) _ h mm_Zv_rfl
set_option maxRecDepth 100000 in
set_option maxHeartbeats 400000 in
theorem t_J7_fill_53178_40 {d : Nat} (hd : 0 ≤ d) (x1 : Int32) (M : mm_M) (res : mm_M) (h : J7_fill_53178 40 x1 M = some res) : mm_Meth jJ7_fill_53178 d 0 0 [(.inr 40), (.inl x1)] S_c M (mm_Zv S_c res) := by
  refine r_meth (L := [some (.inr 40), some (.inl x1), none, none]) rfl (fun D => ?_)
  unfold J7_fill_53178 at h
  refine r_iconst (v := 0) (q := 1) dJ7_fill_53178_0 (by decide) rfl ?_
  refine r_istore_n (q := 2) (L' := [some (.inr 40), some (.inl x1), some (.inl 0), none]) dJ7_fill_53178_1 (by decide) rfl rfl ?_
  refine r_aload_n (q := 3) dJ7_fill_53178_2 rfl rfl ?_
  refine r_alen (v := (Int32.ofNat (mm_len S_c 40))) (q := 4) dJ7_fill_53178_3 rfl rfl rfl ?_
  refine r_istore_n (q := 5) (L' := [some (.inr 40), some (.inl x1), some (.inl 0), some (.inl (Int32.ofNat (mm_len S_c 40)))]) dJ7_fill_53178_4 (by decide) rfl rfl ?_
  exact t_J7_fill_53178_l5_40 hd x1 (Int32.ofNat (mm_len S_c 40)) mm_fuel (0, M) _ h mm_Zv_rfl
noncomputable def X8_has (a0 : Nat) (x1 : Int32) (M : mm_M) : Bool := if x1 < 0 then false else if (M a0 0) ≤ x1 then false else true
set_option maxRecDepth 100000 in
set_option maxHeartbeats 400000 in
theorem t_X8_has_7 {d : Nat} (hd : 0 ≤ d) (x1 : Int32) (M : mm_M) (res : Bool) (h : X8_has 7 x1 M = res) : mm_Meth jX8_has d 0 0 [(.inr 7), (.inl x1)] S_c M (mm_Zi (mm_b res) S_c M) := by
  refine r_meth (L := [some (.inr 7), some (.inl x1)]) rfl (fun D => ?_)
  unfold X8_has at h
  refine r_iload_n (q := 1) dX8_has_0 rfl rfl ?_
  refine r_if_lt 16 (q := 4) dX8_has_1 (by decide) rfl (fun c1 => ?_) (fun c1 => ?_)
  · rw [if_pos c1] at h
    refine r_iconst (v := 0) (q := 17) dX8_has_16 (by decide) rfl ?_
    subst h
    exact r_retb dX8_has_17 rfl (Or.inl rfl) mm_Zi_rfl
  · rw [if_neg c1] at h
    refine r_iload_n (q := 5) dX8_has_4 rfl rfl ?_
    refine r_aload_n (q := 6) dX8_has_5 rfl rfl ?_
    refine r_geti (v := (M 7 0)) (q := 9) lk_X8_18 dX8_has_6 rfl rfl rfl rfl ?_
    refine r_icmp_ge 16 (q := 12) dX8_has_9 (by decide) rfl (fun c2 => ?_) (fun c2 => ?_)
    · rw [if_pos c2] at h
      refine r_iconst (v := 0) (q := 17) dX8_has_16 (by decide) rfl ?_
      subst h
      exact r_retb dX8_has_17 rfl (Or.inl rfl) mm_Zi_rfl
    · rw [if_neg c2] at h
      refine r_iconst (v := 1) (q := 13) dX8_has_12 (by decide) rfl ?_
      refine r_goto 17 dX8_has_13 (by decide) ?_
      subst h
      exact r_retb dX8_has_17 rfl (Or.inr rfl) mm_Zi_rfl
set_option maxRecDepth 100000 in
set_option maxHeartbeats 400000 in
theorem t_X8_has_10 {d : Nat} (hd : 0 ≤ d) (x1 : Int32) (M : mm_M) (res : Bool) (h : X8_has 10 x1 M = res) : mm_Meth jX8_has d 0 0 [(.inr 10), (.inl x1)] S_c M (mm_Zi (mm_b res) S_c M) := by
  refine r_meth (L := [some (.inr 10), some (.inl x1)]) rfl (fun D => ?_)
  unfold X8_has at h
  refine r_iload_n (q := 1) dX8_has_0 rfl rfl ?_
  refine r_if_lt 16 (q := 4) dX8_has_1 (by decide) rfl (fun c1 => ?_) (fun c1 => ?_)
  · rw [if_pos c1] at h
    refine r_iconst (v := 0) (q := 17) dX8_has_16 (by decide) rfl ?_
    subst h
    exact r_retb dX8_has_17 rfl (Or.inl rfl) mm_Zi_rfl
  · rw [if_neg c1] at h
    refine r_iload_n (q := 5) dX8_has_4 rfl rfl ?_
    refine r_aload_n (q := 6) dX8_has_5 rfl rfl ?_
    refine r_geti (v := (M 10 0)) (q := 9) lk_X8_18 dX8_has_6 rfl rfl rfl rfl ?_
    refine r_icmp_ge 16 (q := 12) dX8_has_9 (by decide) rfl (fun c2 => ?_) (fun c2 => ?_)
    · rw [if_pos c2] at h
      refine r_iconst (v := 0) (q := 17) dX8_has_16 (by decide) rfl ?_
      subst h
      exact r_retb dX8_has_17 rfl (Or.inl rfl) mm_Zi_rfl
    · rw [if_neg c2] at h
      refine r_iconst (v := 1) (q := 13) dX8_has_12 (by decide) rfl ?_
      refine r_goto 17 dX8_has_13 (by decide) ?_
      subst h
      exact r_retb dX8_has_17 rfl (Or.inr rfl) mm_Zi_rfl
noncomputable def X11_state (x1 : Int32) (M : mm_M) : (Bool × mm_M) := if (X8_has 7 x1 M) = true then (true, (mm_U M 4 0 x1)) else (false, M)
set_option maxRecDepth 100000 in
set_option maxHeartbeats 400000 in
theorem t_X11_state {d : Nat} (hd : 1 ≤ d) (x1 : Int32) (M : mm_M) (res : (Bool × mm_M)) (h : X11_state x1 M = res) : mm_Meth jX11_state d 0 0 [(.inr 0), (.inl x1)] S_c M (mm_Zi (mm_b res.1) S_c res.2) := by
  refine r_meth (L := [some (.inr 0), some (.inl x1)]) rfl (fun D => ?_)
  unfold X11_state at h
  refine r_aload_n (q := 1) dX11_state_0 rfl rfl ?_
  refine r_getr (b := 7) (q := 4) lk_X11_42 dX11_state_1 sc_c_0 rfl rfl ?_
  refine r_iload_n (q := 5) dX11_state_4 rfl rfl ?_
  refine r_callV_i (av := [(.inl x1)]) (st := []) (q := 8) (d1 := 0) kc_X11_87 sc_c_7 dX11_state_5 rfl rfl (Nat.le_of_ble_eq_true rfl) (Nat.le_of_ble_eq_true rfl) (by omega) rfl rfl (t_X8_has_7 (d := 0) (by omega) x1 M _ rfl) ?_
  refine r_if_ne 13 (q := 11) dX11_state_8 (by decide) rfl (fun c1 => ?_) (fun c1 => ?_)
  · rw [if_pos (mm_b1 c1)] at h
    refine r_aload_n (q := 14) dX11_state_13 rfl rfl ?_
    refine r_getr (b := 4) (q := 17) lk_X11_29 dX11_state_14 sc_c_0 rfl rfl ?_
    refine r_iload_n (q := 18) dX11_state_17 rfl rfl ?_
    refine r_puti (q := 21) lk_X11_91 ft_4_0 dX11_state_18 sc_c_4 rfl rfl ?_
    refine r_iconst (v := 1) (q := 22) dX11_state_21 (by decide) rfl ?_
    subst h
    exact r_retb dX11_state_22 rfl (Or.inr rfl) mm_Zi_rfl
  · rw [if_neg (mm_b0 c1)] at h
    refine r_iconst (v := 0) (q := 12) dX11_state_11 (by decide) rfl ?_
    subst h
    exact r_retb dX11_state_12 rfl (Or.inl rfl) mm_Zi_rfl
noncomputable def X11_isQuestion (x0 : Int32) : Bool := if x0 < 0 then false else if 8 ≤ x0 then false else true
set_option maxRecDepth 100000 in
set_option maxHeartbeats 400000 in
theorem t_X11_isQuestion {d : Nat} (hd : 0 ≤ d) (x0 : Int32) (M : mm_M) (res : Bool) (h : X11_isQuestion x0 = res) : mm_Meth jX11_isQuestion d 0 0 [(.inl x0)] S_c M (mm_Zi (mm_b res) S_c M) := by
  refine r_meth (L := [some (.inl x0)]) rfl (fun D => ?_)
  unfold X11_isQuestion at h
  refine r_iload_n (q := 1) dX11_isQuestion_0 rfl rfl ?_
  refine r_if_lt 14 (q := 4) dX11_isQuestion_1 (by decide) rfl (fun c1 => ?_) (fun c1 => ?_)
  · rw [if_pos c1] at h
    refine r_iconst (v := 0) (q := 15) dX11_isQuestion_14 (by decide) rfl ?_
    subst h
    exact r_retb dX11_isQuestion_15 rfl (Or.inl rfl) mm_Zi_rfl
  · rw [if_neg c1] at h
    refine r_iload_n (q := 5) dX11_isQuestion_4 rfl rfl ?_
    refine r_bipush (v := 8) (q := 7) dX11_isQuestion_5 (by decide) rfl ?_
    refine r_icmp_ge 14 (q := 10) dX11_isQuestion_7 (by decide) rfl (fun c2 => ?_) (fun c2 => ?_)
    · rw [if_pos c2] at h
      refine r_iconst (v := 0) (q := 15) dX11_isQuestion_14 (by decide) rfl ?_
      subst h
      exact r_retb dX11_isQuestion_15 rfl (Or.inl rfl) mm_Zi_rfl
    · rw [if_neg c2] at h
      refine r_iconst (v := 1) (q := 11) dX11_isQuestion_10 (by decide) rfl ?_
      refine r_goto 15 dX11_isQuestion_11 (by decide) ?_
      subst h
      exact r_retb dX11_isQuestion_15 rfl (Or.inr rfl) mm_Zi_rfl
noncomputable def X11_price (x1 : Int32) (x2 : Int32) (M : mm_M) : Option (Bool × mm_M) := if (X11_isQuestion x1) = true then if x2 < 0 then some (false, M) else if x2 ≤ 99 then if mm_in x1 8 = true then some (true, (mm_U M 3 (Int32.toNatClampNeg x1) x2)) else none else some (false, M) else some (false, M)
set_option maxRecDepth 100000 in
set_option maxHeartbeats 400000 in
theorem t_X11_price {d : Nat} (hd : 1 ≤ d) (x1 : Int32) (x2 : Int32) (M : mm_M) (res : (Bool × mm_M)) (h : X11_price x1 x2 M = some res) : mm_Meth jX11_price d 0 0 [(.inr 0), (.inl x1), (.inl x2)] S_c M (mm_Zi (mm_b res.1) S_c res.2) := by
  refine r_meth (L := [some (.inr 0), some (.inl x1), some (.inl x2)]) rfl (fun D => ?_)
  unfold X11_price at h
  refine r_iload_n (q := 1) dX11_price_0 rfl rfl ?_
  refine r_callS_i (av := [(.inl x1)]) (st := []) (q := 4) (d1 := 0) kc_X11_95 dX11_price_1 rfl rfl (Nat.le_of_ble_eq_true rfl) (Nat.le_of_ble_eq_true rfl) (by omega) rfl rfl (t_X11_isQuestion (d := 0) (by omega) x1 M _ rfl) ?_
  refine r_if_eq 17 (q := 7) dX11_price_4 (by decide) rfl (fun c1 => ?_) (fun c1 => ?_)
  · rw [if_neg (mm_b0 c1)] at h
    refine r_iconst (v := 0) (q := 18) dX11_price_17 (by decide) rfl ?_
    cases h
    exact r_retb dX11_price_18 rfl (Or.inl rfl) mm_Zi_rfl
  · rw [if_pos (mm_b1 c1)] at h
    refine r_iload_n (q := 8) dX11_price_7 rfl rfl ?_
    refine r_if_lt 17 (q := 11) dX11_price_8 (by decide) rfl (fun c2 => ?_) (fun c2 => ?_)
    · rw [if_pos c2] at h
      refine r_iconst (v := 0) (q := 18) dX11_price_17 (by decide) rfl ?_
      cases h
      exact r_retb dX11_price_18 rfl (Or.inl rfl) mm_Zi_rfl
    · rw [if_neg c2] at h
      refine r_iload_n (q := 12) dX11_price_11 rfl rfl ?_
      refine r_bipush (v := 99) (q := 14) dX11_price_12 (by decide) rfl ?_
      refine r_icmp_le 19 (q := 17) dX11_price_14 (by decide) rfl (fun c3 => ?_) (fun c3 => ?_)
      · rw [if_pos c3] at h
        refine r_aload_n (q := 20) dX11_price_19 rfl rfl ?_
        refine r_getr (b := 3) (q := 23) lk_X11_16 dX11_price_20 sc_c_0 rfl rfl ?_
        refine r_iload_n (q := 24) dX11_price_23 rfl rfl ?_
        refine r_iload_n (q := 25) dX11_price_24 rfl rfl ?_
        obtain ⟨g4, h⟩ := mm_guard h
        refine r_iast (j := (Int32.toNatClampNeg x1)) (q := 26) dX11_price_25 sc_c_3 (mm_vp g4) rfl rfl ?_
        refine r_iconst (v := 1) (q := 27) dX11_price_26 (by decide) rfl ?_
        cases h
        exact r_retb dX11_price_27 rfl (Or.inr rfl) mm_Zi_rfl
      · rw [if_neg c3] at h
        refine r_iconst (v := 0) (q := 18) dX11_price_17 (by decide) rfl ?_
        cases h
        exact r_retb dX11_price_18 rfl (Or.inl rfl) mm_Zi_rfl
noncomputable def X11_purse (x1 : Int32) (M : mm_M) : (Bool × mm_M) := if x1 < 0 then (false, M) else if x1 ≤ 9999 then (true, (mm_U M 4 3 x1)) else (false, M)
set_option maxRecDepth 100000 in
set_option maxHeartbeats 400000 in
theorem t_X11_purse {d : Nat} (hd : 0 ≤ d) (x1 : Int32) (M : mm_M) (res : (Bool × mm_M)) (h : X11_purse x1 M = res) : mm_Meth jX11_purse d 0 0 [(.inr 0), (.inl x1)] S_c M (mm_Zi (mm_b res.1) S_c res.2) := by
  refine r_meth (L := [some (.inr 0), some (.inl x1)]) rfl (fun D => ?_)
  unfold X11_purse at h
  refine r_iload_n (q := 1) dX11_purse_0 rfl rfl ?_
  refine r_if_lt 11 (q := 4) dX11_purse_1 (by decide) rfl (fun c1 => ?_) (fun c1 => ?_)
  · rw [if_pos c1] at h
    refine r_iconst (v := 0) (q := 12) dX11_purse_11 (by decide) rfl ?_
    subst h
    exact r_retb dX11_purse_12 rfl (Or.inl rfl) mm_Zi_rfl
  · rw [if_neg c1] at h
    refine r_iload_n (q := 5) dX11_purse_4 rfl rfl ?_
    refine r_sipush (v := 9999) (q := 8) dX11_purse_5 (by decide) rfl ?_
    refine r_icmp_le 13 (q := 11) dX11_purse_8 (by decide) rfl (fun c2 => ?_) (fun c2 => ?_)
    · rw [if_pos c2] at h
      refine r_aload_n (q := 14) dX11_purse_13 rfl rfl ?_
      refine r_getr (b := 4) (q := 17) lk_X11_29 dX11_purse_14 sc_c_0 rfl rfl ?_
      refine r_iload_n (q := 18) dX11_purse_17 rfl rfl ?_
      refine r_puti (q := 21) lk_X11_98 ft_4_3 dX11_purse_18 sc_c_4 rfl rfl ?_
      refine r_iconst (v := 1) (q := 22) dX11_purse_21 (by decide) rfl ?_
      subst h
      exact r_retb dX11_purse_22 rfl (Or.inr rfl) mm_Zi_rfl
    · rw [if_neg c2] at h
      refine r_iconst (v := 0) (q := 12) dX11_purse_11 (by decide) rfl ?_
      subst h
      exact r_retb dX11_purse_12 rfl (Or.inl rfl) mm_Zi_rfl
noncomputable def X7_append_l3 (x1 : Int32) (s : (Int32 × mm_M)) : Option ((Int32 × mm_M) ⊕ mm_M) := if s.1 < 0 then some (.inr s.2) else if 260 ≤ (s.2 1 1) then some (.inl ((s.1 + (-8)), s.2)) else if mm_in (s.2 1 1) 260 = true then some (.inl ((s.1 + (-8)), (mm_U (mm_U s.2 2 (Int32.toNatClampNeg (s.2 1 1)) ((Int32.toUInt32 x1 >>> (Int32.toUInt32 s.1 &&& Int32.toUInt32 31)).toInt32 &&& 255)) 1 1 ((s.2 1 1) + 1)))) else none
set_option maxRecDepth 100000 in
set_option maxHeartbeats 400000 in
theorem t_X7_append_l3 {D : mm_D} {d : Nat} (hd : 0 ≤ d) {Z : Option Int32 → List mm_C → mm_M → Prop} (x1 : Int32) (n : Nat) (s : (Int32 × mm_M)) (r : mm_M) (h : mm_loop (X7_append_l3 x1) n s = some r) (hx : Z none S_c r) : mm_Go jX7_append D d 0 0 3 [some (.inr 1), some (.inl x1), some (.inl s.1)] [] S_c s.2 Z := by
  refine mm_loop_go (step := X7_append_l3 x1) (Hd := fun (s : (Int32 × mm_M)) => mm_Go jX7_append D d 0 0 3 [some (.inr 1), some (.inl x1), some (.inl s.1)] [] S_c s.2 Z) (Ex := fun (r : mm_M) => Z none S_c r) ?_ n s r h hx
  intro s o h kb ke
  show mm_Go jX7_append D d 0 0 3 [some (.inr 1), some (.inl x1), some (.inl s.1)] [] S_c s.2 Z
  unfold X7_append_l3 at h
  refine r_iload_n (q := 4) dX7_append_3 rfl rfl ?_
  refine r_if_lt 49 (q := 7) dX7_append_4 (by decide) rfl (fun c1 => ?_) (fun c1 => ?_)
  · rw [if_pos c1] at h
    cases h
    have hk := ke _ rfl
    exact r_retv dX7_append_49 rfl hk
  · rw [if_neg c1] at h
    refine r_aload_n (q := 8) dX7_append_7 rfl rfl ?_
    refine r_geti (v := (s.2 1 1)) (q := 11) lk_X7_15 dX7_append_8 sc_c_1 rfl rfl rfl ?_
    refine r_sipush (v := 260) (q := 14) dX7_append_11 (by decide) rfl ?_
    refine r_icmp_ge 43 (q := 17) dX7_append_14 (by decide) rfl (fun c2 => ?_) (fun c2 => ?_)
    · rw [if_pos c2] at h
      refine r_iinc (v := (-8)) (q := 46) (L' := [some (.inr 1), some (.inl x1), some (.inl (s.1 + (-8)))]) dX7_append_43 (by decide) (by decide) rfl rfl rfl ?_
      refine r_goto 3 dX7_append_46 (by decide) ?_
      cases h
      have hk := kb _ rfl
      exact hk
    · rw [if_neg c2] at h
      refine r_aload_n (q := 18) dX7_append_17 rfl rfl ?_
      refine r_getr (b := 2) (q := 21) lk_X7_9 dX7_append_18 sc_c_1 rfl rfl ?_
      refine r_aload_n (q := 22) dX7_append_21 rfl rfl ?_
      refine r_geti (v := (s.2 1 1)) (q := 25) lk_X7_15 dX7_append_22 sc_c_1 rfl rfl rfl ?_
      refine r_iload_n (q := 26) dX7_append_25 rfl rfl ?_
      refine r_iload_n (q := 27) dX7_append_26 rfl rfl ?_
      refine r_iushr (q := 28) dX7_append_27 rfl ?_
      refine r_sipush (v := 255) (q := 31) dX7_append_28 (by decide) rfl ?_
      refine r_iand (q := 32) dX7_append_31 rfl ?_
      obtain ⟨g3, h⟩ := mm_guard h
      refine r_iast (j := (Int32.toNatClampNeg (s.2 1 1))) (q := 33) dX7_append_32 sc_c_2 (mm_vp g3) rfl rfl ?_
      refine r_aload_n (q := 34) dX7_append_33 rfl rfl ?_
      refine r_dup (q := 35) dX7_append_34 rfl ?_
      refine r_geti (v := (s.2 1 1)) (q := 38) lk_X7_15 dX7_append_35 sc_c_1 rfl rfl rfl ?_
      refine r_iconst (v := 1) (q := 39) dX7_append_38 (by decide) rfl ?_
      refine r_iadd (q := 40) dX7_append_39 rfl ?_
      refine r_puti (q := 43) lk_X7_15 ft_5_1 dX7_append_40 sc_c_1 rfl rfl ?_
      refine r_iinc (v := (-8)) (q := 46) (L' := [some (.inr 1), some (.inl x1), some (.inl (s.1 + (-8)))]) dX7_append_43 (by decide) (by decide) rfl rfl rfl ?_
      refine r_goto 3 dX7_append_46 (by decide) ?_
      cases h
      have hk := kb _ rfl
      exact hk
noncomputable def X7_append (x1 : Int32) (M : mm_M) : Option mm_M := (mm_loop (X7_append_l3 x1) mm_fuel (24, M))
set_option maxRecDepth 100000 in
set_option maxHeartbeats 400000 in
theorem t_X7_append {d : Nat} (hd : 0 ≤ d) (x1 : Int32) (M : mm_M) (res : mm_M) (h : X7_append x1 M = some res) : mm_Meth jX7_append d 0 0 [(.inr 1), (.inl x1)] S_c M (mm_Zv S_c res) := by
  refine r_meth (L := [some (.inr 1), some (.inl x1), none]) rfl (fun D => ?_)
  unfold X7_append at h
  refine r_bipush (v := 24) (q := 2) dX7_append_0 (by decide) rfl ?_
  refine r_istore_n (q := 3) (L' := [some (.inr 1), some (.inl x1), some (.inl 24)]) dX7_append_2 (by decide) rfl rfl ?_
  exact t_X7_append_l3 hd x1 mm_fuel (24, M) _ h mm_Zv_rfl
noncomputable def X11_feed (x1 : Int32) (x2 : Int32) (x3 : Int32) (x4 : Int32) (x5 : Int32) (M : mm_M) : Option (Int32 × mm_M) := if ((M 1 1) + 20) ≤ 260 then (X7_append x1 M).bind fun y3 => (X7_append x2 y3).bind fun y5 => (X7_append x3 y5).bind fun y7 => (X7_append x4 y7).bind fun y9 => (X7_append x5 y9).bind fun y11 => some ((y11 1 1), y11) else some ((-1), M)
set_option maxRecDepth 100000 in
set_option maxHeartbeats 400000 in
theorem t_X11_feed {d : Nat} (hd : 1 ≤ d) (x1 : Int32) (x2 : Int32) (x3 : Int32) (x4 : Int32) (x5 : Int32) (M : mm_M) (res : (Int32 × mm_M)) (h : X11_feed x1 x2 x3 x4 x5 M = some res) : mm_Meth jX11_feed d 0 0 [(.inr 0), (.inl x1), (.inl x2), (.inl x3), (.inl x4), (.inl x5)] S_c M (mm_Zi res.1 S_c res.2) := by
  refine r_meth (L := [some (.inr 0), some (.inl x1), some (.inl x2), some (.inl x3), some (.inl x4), some (.inl x5)]) rfl (fun D => ?_)
  unfold X11_feed at h
  refine r_aload_n (q := 1) dX11_feed_0 rfl rfl ?_
  refine r_getr (b := 1) (q := 4) lk_X11_12 dX11_feed_1 sc_c_0 rfl rfl ?_
  refine r_geti (v := (M 1 1)) (q := 7) lk_X11_101 dX11_feed_4 sc_c_1 rfl rfl rfl ?_
  refine r_bipush (v := 20) (q := 9) dX11_feed_7 (by decide) rfl ?_
  refine r_iadd (q := 10) dX11_feed_9 rfl ?_
  refine r_sipush (v := 260) (q := 13) dX11_feed_10 (by decide) rfl ?_
  refine r_icmp_le 18 (q := 16) dX11_feed_13 (by decide) rfl (fun c1 => ?_) (fun c1 => ?_)
  · rw [if_pos c1] at h
    refine r_aload_n (q := 19) dX11_feed_18 rfl rfl ?_
    refine r_getr (b := 1) (q := 22) lk_X11_12 dX11_feed_19 sc_c_0 rfl rfl ?_
    refine r_iload_n (q := 23) dX11_feed_22 rfl rfl ?_
    obtain ⟨y3, e2, h⟩ := Option.bind_eq_some_iff.mp h
    refine r_callV_v (av := [(.inl x1)]) (st := []) (q := 26) (d1 := 0) kc_X11_104 sc_c_1 dX11_feed_23 rfl rfl (Nat.le_of_ble_eq_true rfl) (Nat.le_of_ble_eq_true rfl) (by omega) rfl rfl (t_X7_append (d := 0) (by omega) x1 M _ e2) ?_
    refine r_aload_n (q := 27) dX11_feed_26 rfl rfl ?_
    refine r_getr (b := 1) (q := 30) lk_X11_12 dX11_feed_27 sc_c_0 rfl rfl ?_
    refine r_iload_n (q := 31) dX11_feed_30 rfl rfl ?_
    obtain ⟨y5, e4, h⟩ := Option.bind_eq_some_iff.mp h
    refine r_callV_v (av := [(.inl x2)]) (st := []) (q := 34) (d1 := 0) kc_X11_104 sc_c_1 dX11_feed_31 rfl rfl (Nat.le_of_ble_eq_true rfl) (Nat.le_of_ble_eq_true rfl) (by omega) rfl rfl (t_X7_append (d := 0) (by omega) x2 y3 _ e4) ?_
    refine r_aload_n (q := 35) dX11_feed_34 rfl rfl ?_
    refine r_getr (b := 1) (q := 38) lk_X11_12 dX11_feed_35 sc_c_0 rfl rfl ?_
    refine r_iload_n (q := 39) dX11_feed_38 rfl rfl ?_
    obtain ⟨y7, e6, h⟩ := Option.bind_eq_some_iff.mp h
    refine r_callV_v (av := [(.inl x3)]) (st := []) (q := 42) (d1 := 0) kc_X11_104 sc_c_1 dX11_feed_39 rfl rfl (Nat.le_of_ble_eq_true rfl) (Nat.le_of_ble_eq_true rfl) (by omega) rfl rfl (t_X7_append (d := 0) (by omega) x3 y5 _ e6) ?_
    refine r_aload_n (q := 43) dX11_feed_42 rfl rfl ?_
    refine r_getr (b := 1) (q := 46) lk_X11_12 dX11_feed_43 sc_c_0 rfl rfl ?_
    refine r_iload (q := 48) dX11_feed_46 rfl rfl ?_
    obtain ⟨y9, e8, h⟩ := Option.bind_eq_some_iff.mp h
    refine r_callV_v (av := [(.inl x4)]) (st := []) (q := 51) (d1 := 0) kc_X11_104 sc_c_1 dX11_feed_48 rfl rfl (Nat.le_of_ble_eq_true rfl) (Nat.le_of_ble_eq_true rfl) (by omega) rfl rfl (t_X7_append (d := 0) (by omega) x4 y7 _ e8) ?_
    refine r_aload_n (q := 52) dX11_feed_51 rfl rfl ?_
    refine r_getr (b := 1) (q := 55) lk_X11_12 dX11_feed_52 sc_c_0 rfl rfl ?_
    refine r_iload (q := 57) dX11_feed_55 rfl rfl ?_
    obtain ⟨y11, e10, h⟩ := Option.bind_eq_some_iff.mp h
    refine r_callV_v (av := [(.inl x5)]) (st := []) (q := 60) (d1 := 0) kc_X11_104 sc_c_1 dX11_feed_57 rfl rfl (Nat.le_of_ble_eq_true rfl) (Nat.le_of_ble_eq_true rfl) (by omega) rfl rfl (t_X7_append (d := 0) (by omega) x5 y9 _ e10) ?_
    refine r_aload_n (q := 61) dX11_feed_60 rfl rfl ?_
    refine r_getr (b := 1) (q := 64) lk_X11_12 dX11_feed_61 sc_c_0 rfl rfl ?_
    refine r_geti (v := (y11 1 1)) (q := 67) lk_X11_101 dX11_feed_64 sc_c_1 rfl rfl rfl ?_
    cases h
    exact r_ret dX11_feed_67 rfl mm_Zi_rfl
  · rw [if_neg c1] at h
    refine r_iconst (v := (-1)) (q := 17) dX11_feed_16 (by decide) rfl ?_
    cases h
    exact r_ret dX11_feed_17 rfl mm_Zi_rfl
noncomputable def X11_isOnTape (x1 : Int32) (x2 : Int32) (M : mm_M) : Bool := if x1 < 1 then false else if x2 < x1 then false else if (M 1 1) < x1 then false else true
set_option maxRecDepth 100000 in
set_option maxHeartbeats 400000 in
theorem t_X11_isOnTape {d : Nat} (hd : 0 ≤ d) (x1 : Int32) (x2 : Int32) (M : mm_M) (res : Bool) (h : X11_isOnTape x1 x2 M = res) : mm_Meth jX11_isOnTape d 0 0 [(.inr 0), (.inl x1), (.inl x2)] S_c M (mm_Zi (mm_b res) S_c M) := by
  refine r_meth (L := [some (.inr 0), some (.inl x1), some (.inl x2)]) rfl (fun D => ?_)
  unfold X11_isOnTape at h
  refine r_iload_n (q := 1) dX11_isOnTape_0 rfl rfl ?_
  refine r_iconst (v := 1) (q := 2) dX11_isOnTape_1 (by decide) rfl ?_
  refine r_icmp_lt 25 (q := 5) dX11_isOnTape_2 (by decide) rfl (fun c1 => ?_) (fun c1 => ?_)
  · rw [if_pos c1] at h
    refine r_iconst (v := 0) (q := 26) dX11_isOnTape_25 (by decide) rfl ?_
    subst h
    exact r_retb dX11_isOnTape_26 rfl (Or.inl rfl) mm_Zi_rfl
  · rw [if_neg c1] at h
    refine r_iload_n (q := 6) dX11_isOnTape_5 rfl rfl ?_
    refine r_iload_n (q := 7) dX11_isOnTape_6 rfl rfl ?_
    refine r_icmp_gt 25 (q := 10) dX11_isOnTape_7 (by decide) rfl (fun c2 => ?_) (fun c2 => ?_)
    · rw [if_pos c2] at h
      refine r_iconst (v := 0) (q := 26) dX11_isOnTape_25 (by decide) rfl ?_
      subst h
      exact r_retb dX11_isOnTape_26 rfl (Or.inl rfl) mm_Zi_rfl
    · rw [if_neg c2] at h
      refine r_iload_n (q := 11) dX11_isOnTape_10 rfl rfl ?_
      refine r_aload_n (q := 12) dX11_isOnTape_11 rfl rfl ?_
      refine r_getr (b := 1) (q := 15) lk_X11_12 dX11_isOnTape_12 sc_c_0 rfl rfl ?_
      refine r_geti (v := (M 1 1)) (q := 18) lk_X11_101 dX11_isOnTape_15 sc_c_1 rfl rfl rfl ?_
      refine r_icmp_gt 25 (q := 21) dX11_isOnTape_18 (by decide) rfl (fun c3 => ?_) (fun c3 => ?_)
      · rw [if_pos c3] at h
        refine r_iconst (v := 0) (q := 26) dX11_isOnTape_25 (by decide) rfl ?_
        subst h
        exact r_retb dX11_isOnTape_26 rfl (Or.inl rfl) mm_Zi_rfl
      · rw [if_neg c3] at h
        refine r_iconst (v := 1) (q := 22) dX11_isOnTape_21 (by decide) rfl ?_
        refine r_goto 26 dX11_isOnTape_22 (by decide) ?_
        subst h
        exact r_retb dX11_isOnTape_26 rfl (Or.inr rfl) mm_Zi_rfl
noncomputable def X7_byteAt (x1 : Int32) (M : mm_M) : Option Int32 := if x1 < 0 then some (-1) else if (M 1 1) ≤ x1 then some (-1) else if mm_in x1 260 = true then some (M 2 (Int32.toNatClampNeg x1)) else none
set_option maxRecDepth 100000 in
set_option maxHeartbeats 400000 in
theorem t_X7_byteAt {d : Nat} (hd : 0 ≤ d) (x1 : Int32) (M : mm_M) (res : Int32) (h : X7_byteAt x1 M = some res) : mm_Meth jX7_byteAt d 0 0 [(.inr 1), (.inl x1)] S_c M (mm_Zi res S_c M) := by
  refine r_meth (L := [some (.inr 1), some (.inl x1)]) rfl (fun D => ?_)
  unfold X7_byteAt at h
  refine r_iload_n (q := 1) dX7_byteAt_0 rfl rfl ?_
  refine r_if_lt 21 (q := 4) dX7_byteAt_1 (by decide) rfl (fun c1 => ?_) (fun c1 => ?_)
  · rw [if_pos c1] at h
    refine r_iconst (v := (-1)) (q := 22) dX7_byteAt_21 (by decide) rfl ?_
    cases h
    exact r_ret dX7_byteAt_22 rfl mm_Zi_rfl
  · rw [if_neg c1] at h
    refine r_iload_n (q := 5) dX7_byteAt_4 rfl rfl ?_
    refine r_aload_n (q := 6) dX7_byteAt_5 rfl rfl ?_
    refine r_geti (v := (M 1 1)) (q := 9) lk_X7_15 dX7_byteAt_6 sc_c_1 rfl rfl rfl ?_
    refine r_icmp_ge 21 (q := 12) dX7_byteAt_9 (by decide) rfl (fun c2 => ?_) (fun c2 => ?_)
    · rw [if_pos c2] at h
      refine r_iconst (v := (-1)) (q := 22) dX7_byteAt_21 (by decide) rfl ?_
      cases h
      exact r_ret dX7_byteAt_22 rfl mm_Zi_rfl
    · rw [if_neg c2] at h
      refine r_aload_n (q := 13) dX7_byteAt_12 rfl rfl ?_
      refine r_getr (b := 2) (q := 16) lk_X7_9 dX7_byteAt_13 sc_c_1 rfl rfl ?_
      refine r_iload_n (q := 17) dX7_byteAt_16 rfl rfl ?_
      obtain ⟨g3, h⟩ := mm_guard h
      refine r_iald (v := (M 2 (Int32.toNatClampNeg x1))) (q := 18) dX7_byteAt_17 sc_c_2 (mm_vp g3) rfl rfl ?_
      refine r_goto 22 dX7_byteAt_18 (by decide) ?_
      cases h
      exact r_ret dX7_byteAt_22 rfl mm_Zi_rfl
noncomputable def X7_open (x1 : Int32) (M : mm_M) : Option mm_M := (X7_byteAt 0 (mm_U (mm_U M 1 2 0) 1 3 (if (M 1 1) < x1 then (M 1 1) else x1))).bind fun y2 => some (mm_U (mm_U (mm_U (mm_U M 1 2 0) 1 3 (if (M 1 1) < x1 then (M 1 1) else x1)) 1 4 y2) 1 5 0)
set_option maxRecDepth 100000 in
set_option maxHeartbeats 400000 in
theorem t_X7_open {d : Nat} (hd : 1 ≤ d) (x1 : Int32) (M : mm_M) (res : mm_M) (h : X7_open x1 M = some res) : mm_Meth jX7_open d 0 0 [(.inr 1), (.inl x1)] S_c M (mm_Zv S_c res) := by
  refine r_meth (L := [some (.inr 1), some (.inl x1)]) rfl (fun D => ?_)
  unfold X7_open at h
  refine r_aload_n (q := 1) dX7_open_0 rfl rfl ?_
  refine r_iconst (v := 0) (q := 2) dX7_open_1 (by decide) rfl ?_
  refine r_puti (q := 5) lk_X7_23 ft_5_2 dX7_open_2 sc_c_1 rfl rfl ?_
  refine r_aload_n (q := 6) dX7_open_5 rfl rfl ?_
  refine r_iload_n (q := 7) dX7_open_6 rfl rfl ?_
  refine r_aload_n (q := 8) dX7_open_7 rfl rfl ?_
  refine r_geti (v := (M 1 1)) (q := 11) lk_X7_15 dX7_open_8 sc_c_1 rfl rfl rfl ?_
  refine r_mmin (q := 14) kc_X7_26 dX7_open_11 (Nat.le_of_ble_eq_true rfl) rfl ?_
  refine r_puti (q := 17) lk_X7_32 ft_5_3 dX7_open_14 sc_c_1 rfl rfl ?_
  refine r_aload_n (q := 18) dX7_open_17 rfl rfl ?_
  refine r_aload_n (q := 19) dX7_open_18 rfl rfl ?_
  refine r_iconst (v := 0) (q := 20) dX7_open_19 (by decide) rfl ?_
  obtain ⟨y2, e1, h⟩ := Option.bind_eq_some_iff.mp h
  refine r_callV_i (av := [(.inl 0)]) (st := [(.inr 1)]) (q := 23) (d1 := 0) kc_X7_19 sc_c_1 dX7_open_20 rfl rfl (Nat.le_of_ble_eq_true rfl) (Nat.le_of_ble_eq_true rfl) (by omega) rfl rfl (t_X7_byteAt (d := 0) (by omega) 0 (mm_U (mm_U M 1 2 0) 1 3 (if (M 1 1) < x1 then (M 1 1) else x1)) _ e1) ?_
  refine r_puti (q := 26) lk_X7_35 ft_5_4 dX7_open_23 sc_c_1 rfl rfl ?_
  refine r_aload_n (q := 27) dX7_open_26 rfl rfl ?_
  refine r_iconst (v := 0) (q := 28) dX7_open_27 (by decide) rfl ?_
  refine r_puti (q := 31) lk_X7_38 ft_5_5 dX7_open_28 sc_c_1 rfl rfl ?_
  cases h
  exact r_retv dX7_open_31 rfl mm_Zv_rfl
noncomputable def X2_clear (M : mm_M) : mm_M := (mm_U (mm_U M 20 0 0) 20 4 0)
set_option maxRecDepth 100000 in
set_option maxHeartbeats 400000 in
theorem t_X2_clear {d : Nat} (hd : 0 ≤ d) (M : mm_M) (res : mm_M) (h : X2_clear M = res) : mm_Meth jX2_clear d 0 0 [(.inr 20)] S_c M (mm_Zv S_c res) := by
  refine r_meth (L := [some (.inr 20)]) rfl (fun D => ?_)
  unfold X2_clear at h
  refine r_aload_n (q := 1) dX2_clear_0 rfl rfl ?_
  refine r_iconst (v := 0) (q := 2) dX2_clear_1 (by decide) rfl ?_
  refine r_puti (q := 5) lk_X2_30 ft_1_0 dX2_clear_2 sc_c_20 rfl rfl ?_
  refine r_aload_n (q := 6) dX2_clear_5 rfl rfl ?_
  refine r_iconst (v := 0) (q := 7) dX2_clear_6 (by decide) rfl ?_
  refine r_puti (q := 10) lk_X2_34 ft_1_4 dX2_clear_7 sc_c_20 rfl rfl ?_
  subst h
  exact r_retv dX2_clear_10 rfl mm_Zv_rfl
noncomputable def X7_fail (x1 : Int32) (x2 : Int32) (M : mm_M) : (Bool × mm_M) := (false, (mm_U M 1 5 ((((-1000) : Int32) * x1) - x2)))
set_option maxRecDepth 100000 in
set_option maxHeartbeats 400000 in
theorem t_X7_fail {d : Nat} (hd : 0 ≤ d) (x1 : Int32) (x2 : Int32) (M : mm_M) (res : (Bool × mm_M)) (h : X7_fail x1 x2 M = res) : mm_Meth jX7_fail d 0 0 [(.inr 1), (.inl x1), (.inl x2)] S_c M (mm_Zi (mm_b res.1) S_c res.2) := by
  refine r_meth (L := [some (.inr 1), some (.inl x1), some (.inl x2)]) rfl (fun D => ?_)
  unfold X7_fail at h
  refine r_aload_n (q := 1) dX7_fail_0 rfl rfl ?_
  refine r_sipush (v := (-1000)) (q := 4) dX7_fail_1 (by decide) rfl ?_
  refine r_iload_n (q := 5) dX7_fail_4 rfl rfl ?_
  refine r_imul (q := 6) dX7_fail_5 rfl ?_
  refine r_iload_n (q := 7) dX7_fail_6 rfl rfl ?_
  refine r_isub (q := 8) dX7_fail_7 rfl ?_
  refine r_puti (q := 11) lk_X7_38 ft_5_5 dX7_fail_8 sc_c_1 rfl rfl ?_
  refine r_iconst (v := 0) (q := 12) dX7_fail_11 (by decide) rfl ?_
  subst h
  exact r_retb dX7_fail_12 rfl (Or.inl rfl) mm_Zi_rfl
noncomputable def X2_isFull (M : mm_M) : Bool := if (M 20 0) < 16 then false else true
set_option maxRecDepth 100000 in
set_option maxHeartbeats 400000 in
theorem t_X2_isFull {d : Nat} (hd : 0 ≤ d) (M : mm_M) (res : Bool) (h : X2_isFull M = res) : mm_Meth jX2_isFull d 0 0 [(.inr 20)] S_c M (mm_Zi (mm_b res) S_c M) := by
  refine r_meth (L := [some (.inr 20)]) rfl (fun D => ?_)
  unfold X2_isFull at h
  refine r_aload_n (q := 1) dX2_isFull_0 rfl rfl ?_
  refine r_geti (v := (M 20 0)) (q := 4) lk_X2_30 dX2_isFull_1 sc_c_20 rfl rfl rfl ?_
  refine r_bipush (v := 16) (q := 6) dX2_isFull_4 (by decide) rfl ?_
  refine r_icmp_lt 13 (q := 9) dX2_isFull_6 (by decide) rfl (fun c1 => ?_) (fun c1 => ?_)
  · rw [if_pos c1] at h
    refine r_iconst (v := 0) (q := 14) dX2_isFull_13 (by decide) rfl ?_
    subst h
    exact r_retb dX2_isFull_14 rfl (Or.inl rfl) mm_Zi_rfl
  · rw [if_neg c1] at h
    refine r_iconst (v := 1) (q := 10) dX2_isFull_9 (by decide) rfl ?_
    refine r_goto 14 dX2_isFull_10 (by decide) ?_
    subst h
    exact r_retb dX2_isFull_14 rfl (Or.inr rfl) mm_Zi_rfl
noncomputable def X7_step (M : mm_M) : mm_M := if ((M 1 2) + 1) < 0 then (mm_U (mm_U M 1 2 ((M 1 2) + 1)) 1 4 (-1)) else if (M 1 3) ≤ ((M 1 2) + 1) then (mm_U (mm_U M 1 2 ((M 1 2) + 1)) 1 4 (-1)) else if 260 ≤ ((M 1 2) + 1) then (mm_U (mm_U M 1 2 ((M 1 2) + 1)) 1 4 (-1)) else (mm_U (mm_U M 1 2 ((M 1 2) + 1)) 1 4 (M 2 (Int32.toNatClampNeg ((M 1 2) + 1))))
set_option maxRecDepth 100000 in
set_option maxHeartbeats 400000 in
theorem t_X7_step {d : Nat} (hd : 0 ≤ d) (M : mm_M) (res : mm_M) (h : X7_step M = res) : mm_Meth jX7_step d 0 0 [(.inr 1)] S_c M (mm_Zv S_c res) := by
  refine r_meth (L := [some (.inr 1)]) rfl (fun D => ?_)
  unfold X7_step at h
  refine r_aload_n (q := 1) dX7_step_0 rfl rfl ?_
  refine r_dup (q := 2) dX7_step_1 rfl ?_
  refine r_geti (v := (M 1 2)) (q := 5) lk_X7_23 dX7_step_2 sc_c_1 rfl rfl rfl ?_
  refine r_iconst (v := 1) (q := 6) dX7_step_5 (by decide) rfl ?_
  refine r_iadd (q := 7) dX7_step_6 rfl ?_
  refine r_puti (q := 10) lk_X7_23 ft_5_2 dX7_step_7 sc_c_1 rfl rfl ?_
  refine r_aload_n (q := 11) dX7_step_10 rfl rfl ?_
  refine r_aload_n (q := 12) dX7_step_11 rfl rfl ?_
  refine r_geti (v := ((M 1 2) + 1)) (q := 15) lk_X7_23 dX7_step_12 sc_c_1 rfl rfl rfl ?_
  refine r_if_lt 51 (q := 18) dX7_step_15 (by decide) rfl (fun c1 => ?_) (fun c1 => ?_)
  · rw [if_pos c1] at h
    refine r_iconst (v := (-1)) (q := 52) dX7_step_51 (by decide) rfl ?_
    refine r_puti (q := 55) lk_X7_35 ft_5_4 dX7_step_52 sc_c_1 rfl rfl ?_
    subst h
    exact r_retv dX7_step_55 rfl mm_Zv_rfl
  · rw [if_neg c1] at h
    refine r_aload_n (q := 19) dX7_step_18 rfl rfl ?_
    refine r_geti (v := ((M 1 2) + 1)) (q := 22) lk_X7_23 dX7_step_19 sc_c_1 rfl rfl rfl ?_
    refine r_aload_n (q := 23) dX7_step_22 rfl rfl ?_
    refine r_geti (v := (M 1 3)) (q := 26) lk_X7_32 dX7_step_23 sc_c_1 rfl rfl rfl ?_
    refine r_icmp_ge 51 (q := 29) dX7_step_26 (by decide) rfl (fun c2 => ?_) (fun c2 => ?_)
    · rw [if_pos c2] at h
      refine r_iconst (v := (-1)) (q := 52) dX7_step_51 (by decide) rfl ?_
      refine r_puti (q := 55) lk_X7_35 ft_5_4 dX7_step_52 sc_c_1 rfl rfl ?_
      subst h
      exact r_retv dX7_step_55 rfl mm_Zv_rfl
    · rw [if_neg c2] at h
      refine r_aload_n (q := 30) dX7_step_29 rfl rfl ?_
      refine r_geti (v := ((M 1 2) + 1)) (q := 33) lk_X7_23 dX7_step_30 sc_c_1 rfl rfl rfl ?_
      refine r_sipush (v := 260) (q := 36) dX7_step_33 (by decide) rfl ?_
      refine r_icmp_ge 51 (q := 39) dX7_step_36 (by decide) rfl (fun c3 => ?_) (fun c3 => ?_)
      · rw [if_pos c3] at h
        refine r_iconst (v := (-1)) (q := 52) dX7_step_51 (by decide) rfl ?_
        refine r_puti (q := 55) lk_X7_35 ft_5_4 dX7_step_52 sc_c_1 rfl rfl ?_
        subst h
        exact r_retv dX7_step_55 rfl mm_Zv_rfl
      · rw [if_neg c3] at h
        refine r_aload_n (q := 40) dX7_step_39 rfl rfl ?_
        refine r_getr (b := 2) (q := 43) lk_X7_9 dX7_step_40 sc_c_1 rfl rfl ?_
        refine r_aload_n (q := 44) dX7_step_43 rfl rfl ?_
        refine r_geti (v := ((M 1 2) + 1)) (q := 47) lk_X7_23 dX7_step_44 sc_c_1 rfl rfl rfl ?_
        refine r_iald (v := (M 2 (Int32.toNatClampNeg ((M 1 2) + 1)))) (q := 48) dX7_step_47 sc_c_2 (mm_vp2 (Int32.not_lt.mp c1) (Int32.not_le.mp c3) (by decide)) rfl rfl ?_
        refine r_goto 52 dX7_step_48 (by decide) ?_
        refine r_puti (q := 55) lk_X7_35 ft_5_4 dX7_step_52 sc_c_1 rfl rfl ?_
        subst h
        exact r_retv dX7_step_55 rfl mm_Zv_rfl
noncomputable def X2_beginRule (x1 : Int32) (M : mm_M) : mm_M := if (M 20 0) < 0 then M else if 16 ≤ (M 20 0) then M else (mm_U (mm_U (mm_U (mm_U M 21 (Int32.toNatClampNeg (M 20 0)) x1) 22 (Int32.toNatClampNeg (M 20 0)) (M 20 4)) 23 (Int32.toNatClampNeg (M 20 0)) (M 20 4)) 20 0 ((M 20 0) + 1))
set_option maxRecDepth 100000 in
set_option maxHeartbeats 400000 in
theorem t_X2_beginRule {d : Nat} (hd : 0 ≤ d) (x1 : Int32) (M : mm_M) (res : mm_M) (h : X2_beginRule x1 M = res) : mm_Meth jX2_beginRule d 0 0 [(.inr 20), (.inl x1)] S_c M (mm_Zv S_c res) := by
  refine r_meth (L := [some (.inr 20), some (.inl x1)]) rfl (fun D => ?_)
  unfold X2_beginRule at h
  refine r_aload_n (q := 1) dX2_beginRule_0 rfl rfl ?_
  refine r_geti (v := (M 20 0)) (q := 4) lk_X2_30 dX2_beginRule_1 sc_c_20 rfl rfl rfl ?_
  refine r_if_lt 62 (q := 7) dX2_beginRule_4 (by decide) rfl (fun c1 => ?_) (fun c1 => ?_)
  · rw [if_pos c1] at h
    subst h
    exact r_retv dX2_beginRule_62 rfl mm_Zv_rfl
  · rw [if_neg c1] at h
    refine r_aload_n (q := 8) dX2_beginRule_7 rfl rfl ?_
    refine r_geti (v := (M 20 0)) (q := 11) lk_X2_30 dX2_beginRule_8 sc_c_20 rfl rfl rfl ?_
    refine r_bipush (v := 16) (q := 13) dX2_beginRule_11 (by decide) rfl ?_
    refine r_icmp_ge 62 (q := 16) dX2_beginRule_13 (by decide) rfl (fun c2 => ?_) (fun c2 => ?_)
    · rw [if_pos c2] at h
      subst h
      exact r_retv dX2_beginRule_62 rfl mm_Zv_rfl
    · rw [if_neg c2] at h
      refine r_aload_n (q := 17) dX2_beginRule_16 rfl rfl ?_
      refine r_getr (b := 21) (q := 20) lk_X2_11 dX2_beginRule_17 sc_c_20 rfl rfl ?_
      refine r_aload_n (q := 21) dX2_beginRule_20 rfl rfl ?_
      refine r_geti (v := (M 20 0)) (q := 24) lk_X2_30 dX2_beginRule_21 sc_c_20 rfl rfl rfl ?_
      refine r_iload_n (q := 25) dX2_beginRule_24 rfl rfl ?_
      refine r_iast (j := (Int32.toNatClampNeg (M 20 0))) (q := 26) dX2_beginRule_25 sc_c_21 (mm_vp2 (Int32.not_lt.mp c1) (Int32.not_le.mp c2) (by decide)) rfl rfl ?_
      refine r_aload_n (q := 27) dX2_beginRule_26 rfl rfl ?_
      refine r_getr (b := 22) (q := 30) lk_X2_15 dX2_beginRule_27 sc_c_20 rfl rfl ?_
      refine r_aload_n (q := 31) dX2_beginRule_30 rfl rfl ?_
      refine r_geti (v := (M 20 0)) (q := 34) lk_X2_30 dX2_beginRule_31 sc_c_20 rfl rfl rfl ?_
      refine r_aload_n (q := 35) dX2_beginRule_34 rfl rfl ?_
      refine r_geti (v := (M 20 4)) (q := 38) lk_X2_34 dX2_beginRule_35 sc_c_20 rfl rfl rfl ?_
      refine r_iast (j := (Int32.toNatClampNeg (M 20 0))) (q := 39) dX2_beginRule_38 sc_c_22 (mm_vp2 (Int32.not_lt.mp c1) (Int32.not_le.mp c2) (by decide)) rfl rfl ?_
      refine r_aload_n (q := 40) dX2_beginRule_39 rfl rfl ?_
      refine r_getr (b := 23) (q := 43) lk_X2_18 dX2_beginRule_40 sc_c_20 rfl rfl ?_
      refine r_aload_n (q := 44) dX2_beginRule_43 rfl rfl ?_
      refine r_geti (v := (M 20 0)) (q := 47) lk_X2_30 dX2_beginRule_44 sc_c_20 rfl rfl rfl ?_
      refine r_aload_n (q := 48) dX2_beginRule_47 rfl rfl ?_
      refine r_geti (v := (M 20 4)) (q := 51) lk_X2_34 dX2_beginRule_48 sc_c_20 rfl rfl rfl ?_
      refine r_iast (j := (Int32.toNatClampNeg (M 20 0))) (q := 52) dX2_beginRule_51 sc_c_23 (mm_vp2 (Int32.not_lt.mp c1) (Int32.not_le.mp c2) (by decide)) rfl rfl ?_
      refine r_aload_n (q := 53) dX2_beginRule_52 rfl rfl ?_
      refine r_dup (q := 54) dX2_beginRule_53 rfl ?_
      refine r_geti (v := (M 20 0)) (q := 57) lk_X2_30 dX2_beginRule_54 sc_c_20 rfl rfl rfl ?_
      refine r_iconst (v := 1) (q := 58) dX2_beginRule_57 (by decide) rfl ?_
      refine r_iadd (q := 59) dX2_beginRule_58 rfl ?_
      refine r_puti (q := 62) lk_X2_30 ft_1_0 dX2_beginRule_59 sc_c_20 rfl rfl ?_
      subst h
      exact r_retv dX2_beginRule_62 rfl mm_Zv_rfl
noncomputable def X7_take (x1 : Int32) (M : mm_M) : (Bool × mm_M) := if (M 1 4) = x1 then mm_let (X7_step M) fun y3 => (true, y3) else mm_let (X7_fail 1 (M 1 2) M) fun y5 => (y5.1, y5.2)
set_option maxRecDepth 100000 in
set_option maxHeartbeats 400000 in
theorem t_X7_take {d : Nat} (hd : 1 ≤ d) (x1 : Int32) (M : mm_M) (res : (Bool × mm_M)) (h : X7_take x1 M = res) : mm_Meth jX7_take d 0 0 [(.inr 1), (.inl x1)] S_c M (mm_Zi (mm_b res.1) S_c res.2) := by
  refine r_meth (L := [some (.inr 1), some (.inl x1)]) rfl (fun D => ?_)
  unfold X7_take at h
  refine r_aload_n (q := 1) dX7_take_0 rfl rfl ?_
  refine r_geti (v := (M 1 4)) (q := 4) lk_X7_35 dX7_take_1 sc_c_1 rfl rfl rfl ?_
  refine r_iload_n (q := 5) dX7_take_4 rfl rfl ?_
  refine r_icmp_eq 18 (q := 8) dX7_take_5 (by decide) rfl (fun c1 => ?_) (fun c1 => ?_)
  · rw [if_pos c1] at h
    refine r_aload_n (q := 19) dX7_take_18 rfl rfl ?_
    obtain ⟨y3, e2, h⟩ := mm_let_elim h
    refine r_callV_v (av := []) (st := []) (q := 22) (d1 := 0) kc_X7_45 sc_c_1 dX7_take_19 rfl rfl (Nat.le_of_ble_eq_true rfl) (Nat.le_of_ble_eq_true rfl) (by omega) rfl rfl (t_X7_step (d := 0) (by omega) M _ e2) ?_
    refine r_iconst (v := 1) (q := 23) dX7_take_22 (by decide) rfl ?_
    subst h
    exact r_retb dX7_take_23 rfl (Or.inr rfl) mm_Zi_rfl
  · rw [if_neg c1] at h
    refine r_aload_n (q := 9) dX7_take_8 rfl rfl ?_
    refine r_iconst (v := 1) (q := 10) dX7_take_9 (by decide) rfl ?_
    refine r_aload_n (q := 11) dX7_take_10 rfl rfl ?_
    refine r_geti (v := (M 1 2)) (q := 14) lk_X7_23 dX7_take_11 sc_c_1 rfl rfl rfl ?_
    obtain ⟨y5, e4, h⟩ := mm_let_elim h
    refine r_callV_i (av := [(.inl 1), (.inl (M 1 2))]) (st := []) (q := 17) (d1 := 0) kc_X7_41 sc_c_1 dX7_take_14 rfl rfl (Nat.le_of_ble_eq_true rfl) (Nat.le_of_ble_eq_true rfl) (by omega) rfl rfl (t_X7_fail (d := 0) (by omega) 1 (M 1 2) M _ e4) ?_
    subst h
    exact r_retb dX7_take_17 rfl (mm_b01 _) mm_Zi_rfl
noncomputable def X7_isDigit (M : mm_M) : Bool := if (M 1 4) < 48 then false else if 57 < (M 1 4) then false else true
set_option maxRecDepth 100000 in
set_option maxHeartbeats 400000 in
theorem t_X7_isDigit {d : Nat} (hd : 0 ≤ d) (M : mm_M) (res : Bool) (h : X7_isDigit M = res) : mm_Meth jX7_isDigit d 0 0 [(.inr 1)] S_c M (mm_Zi (mm_b res) S_c M) := by
  refine r_meth (L := [some (.inr 1)]) rfl (fun D => ?_)
  unfold X7_isDigit at h
  refine r_aload_n (q := 1) dX7_isDigit_0 rfl rfl ?_
  refine r_geti (v := (M 1 4)) (q := 4) lk_X7_35 dX7_isDigit_1 sc_c_1 rfl rfl rfl ?_
  refine r_bipush (v := 48) (q := 6) dX7_isDigit_4 (by decide) rfl ?_
  refine r_icmp_lt 22 (q := 9) dX7_isDigit_6 (by decide) rfl (fun c1 => ?_) (fun c1 => ?_)
  · rw [if_pos c1] at h
    refine r_iconst (v := 0) (q := 23) dX7_isDigit_22 (by decide) rfl ?_
    subst h
    exact r_retb dX7_isDigit_23 rfl (Or.inl rfl) mm_Zi_rfl
  · rw [if_neg c1] at h
    refine r_aload_n (q := 10) dX7_isDigit_9 rfl rfl ?_
    refine r_geti (v := (M 1 4)) (q := 13) lk_X7_35 dX7_isDigit_10 sc_c_1 rfl rfl rfl ?_
    refine r_bipush (v := 57) (q := 15) dX7_isDigit_13 (by decide) rfl ?_
    refine r_icmp_gt 22 (q := 18) dX7_isDigit_15 (by decide) rfl (fun c2 => ?_) (fun c2 => ?_)
    · rw [if_pos c2] at h
      refine r_iconst (v := 0) (q := 23) dX7_isDigit_22 (by decide) rfl ?_
      subst h
      exact r_retb dX7_isDigit_23 rfl (Or.inl rfl) mm_Zi_rfl
    · rw [if_neg c2] at h
      refine r_iconst (v := 1) (q := 19) dX7_isDigit_18 (by decide) rfl ?_
      refine r_goto 23 dX7_isDigit_19 (by decide) ?_
      subst h
      exact r_retb dX7_isDigit_23 rfl (Or.inr rfl) mm_Zi_rfl
noncomputable def X2_add (x1 : Int32) (x2 : Int32) (M : mm_M) : (Int32 × mm_M) := if (M 20 4) < 0 then (((M 20 4) - 1), M) else if 256 ≤ (M 20 4) then (((M 20 4) - 1), M) else ((((M 20 4) + 1) - 1), (mm_U (mm_U (mm_U M 24 (Int32.toNatClampNeg (M 20 4)) x1) 25 (Int32.toNatClampNeg (M 20 4)) x2) 20 4 ((M 20 4) + 1)))
set_option maxRecDepth 100000 in
set_option maxHeartbeats 400000 in
theorem t_X2_add {d : Nat} (hd : 0 ≤ d) (x1 : Int32) (x2 : Int32) (M : mm_M) (res : (Int32 × mm_M)) (h : X2_add x1 x2 M = res) : mm_Meth jX2_add d 0 0 [(.inr 20), (.inl x1), (.inl x2)] S_c M (mm_Zi res.1 S_c res.2) := by
  refine r_meth (L := [some (.inr 20), some (.inl x1), some (.inl x2)]) rfl (fun D => ?_)
  unfold X2_add at h
  refine r_aload_n (q := 1) dX2_add_0 rfl rfl ?_
  refine r_geti (v := (M 20 4)) (q := 4) lk_X2_34 dX2_add_1 sc_c_20 rfl rfl rfl ?_
  refine r_if_lt 47 (q := 7) dX2_add_4 (by decide) rfl (fun c1 => ?_) (fun c1 => ?_)
  · rw [if_pos c1] at h
    refine r_aload_n (q := 48) dX2_add_47 rfl rfl ?_
    refine r_geti (v := (M 20 4)) (q := 51) lk_X2_34 dX2_add_48 sc_c_20 rfl rfl rfl ?_
    refine r_iconst (v := 1) (q := 52) dX2_add_51 (by decide) rfl ?_
    refine r_isub (q := 53) dX2_add_52 rfl ?_
    subst h
    exact r_ret dX2_add_53 rfl mm_Zi_rfl
  · rw [if_neg c1] at h
    refine r_aload_n (q := 8) dX2_add_7 rfl rfl ?_
    refine r_geti (v := (M 20 4)) (q := 11) lk_X2_34 dX2_add_8 sc_c_20 rfl rfl rfl ?_
    refine r_sipush (v := 256) (q := 14) dX2_add_11 (by decide) rfl ?_
    refine r_icmp_ge 47 (q := 17) dX2_add_14 (by decide) rfl (fun c2 => ?_) (fun c2 => ?_)
    · rw [if_pos c2] at h
      refine r_aload_n (q := 48) dX2_add_47 rfl rfl ?_
      refine r_geti (v := (M 20 4)) (q := 51) lk_X2_34 dX2_add_48 sc_c_20 rfl rfl rfl ?_
      refine r_iconst (v := 1) (q := 52) dX2_add_51 (by decide) rfl ?_
      refine r_isub (q := 53) dX2_add_52 rfl ?_
      subst h
      exact r_ret dX2_add_53 rfl mm_Zi_rfl
    · rw [if_neg c2] at h
      refine r_aload_n (q := 18) dX2_add_17 rfl rfl ?_
      refine r_getr (b := 24) (q := 21) lk_X2_21 dX2_add_18 sc_c_20 rfl rfl ?_
      refine r_aload_n (q := 22) dX2_add_21 rfl rfl ?_
      refine r_geti (v := (M 20 4)) (q := 25) lk_X2_34 dX2_add_22 sc_c_20 rfl rfl rfl ?_
      refine r_iload_n (q := 26) dX2_add_25 rfl rfl ?_
      refine r_iast (j := (Int32.toNatClampNeg (M 20 4))) (q := 27) dX2_add_26 sc_c_24 (mm_vp2 (Int32.not_lt.mp c1) (Int32.not_le.mp c2) (by decide)) rfl rfl ?_
      refine r_aload_n (q := 28) dX2_add_27 rfl rfl ?_
      refine r_getr (b := 25) (q := 31) lk_X2_24 dX2_add_28 sc_c_20 rfl rfl ?_
      refine r_aload_n (q := 32) dX2_add_31 rfl rfl ?_
      refine r_geti (v := (M 20 4)) (q := 35) lk_X2_34 dX2_add_32 sc_c_20 rfl rfl rfl ?_
      refine r_iload_n (q := 36) dX2_add_35 rfl rfl ?_
      refine r_iast (j := (Int32.toNatClampNeg (M 20 4))) (q := 37) dX2_add_36 sc_c_25 (mm_vp2 (Int32.not_lt.mp c1) (Int32.not_le.mp c2) (by decide)) rfl rfl ?_
      refine r_aload_n (q := 38) dX2_add_37 rfl rfl ?_
      refine r_dup (q := 39) dX2_add_38 rfl ?_
      refine r_geti (v := (M 20 4)) (q := 42) lk_X2_34 dX2_add_39 sc_c_20 rfl rfl rfl ?_
      refine r_iconst (v := 1) (q := 43) dX2_add_42 (by decide) rfl ?_
      refine r_iadd (q := 44) dX2_add_43 rfl ?_
      refine r_puti (q := 47) lk_X2_34 ft_1_4 dX2_add_44 sc_c_20 rfl rfl ?_
      refine r_aload_n (q := 48) dX2_add_47 rfl rfl ?_
      refine r_geti (v := ((M 20 4) + 1)) (q := 51) lk_X2_34 dX2_add_48 sc_c_20 rfl rfl rfl ?_
      refine r_iconst (v := 1) (q := 52) dX2_add_51 (by decide) rfl ?_
      refine r_isub (q := 53) dX2_add_52 rfl ?_
      subst h
      exact r_ret dX2_add_53 rfl mm_Zi_rfl
noncomputable def X3_readNumber_j109l6 (rec0 : Int32 → Int32 → mm_M → Option (Bool × mm_M)) (rec1 : Int32 → mm_M → Option (Bool × mm_M)) (x2 : Int32) (x3 : Int32) (x4 : Int32) (x5 : Int32) (x7 : Bool) (z0 : Bool) (M : mm_M) : Option ((Int32 × Int32 × mm_M) ⊕ (Bool × mm_M)) := if x3 = 0 then if z0 = true then mm_let (X7_step M) fun y14 => some (.inl (x4, (x5 + 1), y14)) else some (.inr (true, M)) else if x7 = true then mm_let (X7_step M) fun y17 => some (.inl (x4, (x5 + 1), y17)) else some (.inr (true, M))
set_option maxRecDepth 100000 in
set_option maxHeartbeats 400000 in
theorem t_X3_readNumber_j109l6 {D : mm_D} {d : Nat} (hd : 8 ≤ d) {rec0 : Int32 → Int32 → mm_M → Option (Bool × mm_M)} {rec1 : Int32 → mm_M → Option (Bool × mm_M)} {d' : Nat} (hdd : d' < d) (hrec0 : ∀ (w0 w1 : Int32) (M : mm_M) (res : Bool × mm_M), rec0 w0 w1 M = some res → mm_Meth jX3_readNumber d' 0 0 [.inr 1, .inr 20, .inl w0, .inl w1] S_c M (mm_Zi (mm_b res.1) S_c res.2)) (hrec1 : ∀ (w0 : Int32) (M : mm_M) (res : Bool × mm_M), rec1 w0 M = some res → mm_Meth jX3_readFactor d' 0 0 [.inr 1, .inr 20, .inl w0] S_c M (mm_Zi (mm_b res.1) S_c res.2)) {Z : Option Int32 → List mm_C → mm_M → Prop} (x2 : Int32) (x3 : Int32) (x4 : Int32) (x5 : Int32) (x7 : Bool) (z0 : Bool) (M : mm_M) (o : (Int32 × Int32 × mm_M) ⊕ (Bool × mm_M)) (h : X3_readNumber_j109l6 rec0 rec1 x2 x3 x4 x5 x7 z0 M = some o) (kb : ∀ s', o = .inl s' → mm_Go jX3_readNumber D d 0 0 6 [some (.inr 1), some (.inr 20), some (.inl x2), some (.inl x3), some (.inl s'.1), some (.inl s'.2.1), none, none, none] [] S_c s'.2.2 Z) (ke : ∀ r, o = .inr r → Z (some (mm_b r.1)) S_c r.2) : mm_Go jX3_readNumber D d 0 0 109 [some (.inr 1), some (.inr 20), some (.inl x2), some (.inl x3), some (.inl x4), some (.inl x5), none, some (.inl (mm_b x7)), none] [(.inl (mm_b z0))] S_c M Z := by
  unfold X3_readNumber_j109l6 at h
  refine r_istore (q := 111) (L' := [some (.inr 1), some (.inr 20), some (.inl x2), some (.inl x3), some (.inl x4), some (.inl x5), none, some (.inl (mm_b x7)), some (.inl (mm_b z0))]) dX3_readNumber_109 (by decide) rfl rfl ?_
  refine r_iload_n (q := 112) dX3_readNumber_111 rfl rfl ?_
  refine r_if_eq 123 (q := 115) dX3_readNumber_112 (by decide) rfl (fun c11 => ?_) (fun c11 => ?_)
  · rw [if_pos c11] at h
    refine r_iload (q := 125) dX3_readNumber_123 rfl rfl ?_
    refine r_if_ne 130 (q := 128) dX3_readNumber_125 (by decide) rfl (fun c12 => ?_) (fun c12 => ?_)
    · rw [if_pos (mm_b1 c12)] at h
      refine r_aload_n (q := 131) dX3_readNumber_130 rfl rfl ?_
      obtain ⟨y14, e13, h⟩ := mm_let_elim h
      refine r_callV_v (av := []) (st := []) (q := 134) (d1 := 0) kc_X3_41 sc_c_1 dX3_readNumber_131 rfl rfl (Nat.le_of_ble_eq_true rfl) (Nat.le_of_ble_eq_true rfl) (by omega) rfl rfl (t_X7_step (d := 0) (by omega) M _ e13) ?_
      refine r_iinc (v := 1) (q := 137) (L' := [some (.inr 1), some (.inr 20), some (.inl x2), some (.inl x3), some (.inl x4), some (.inl (x5 + 1)), none, some (.inl (mm_b x7)), some (.inl (mm_b z0))]) dX3_readNumber_134 (by decide) (by decide) rfl rfl rfl ?_
      refine r_goto 6 dX3_readNumber_137 (by decide) ?_
      refine r_forget (L' := [some (.inr 1), some (.inr 20), some (.inl x2), some (.inl x3), some (.inl x4), some (.inl (x5 + 1)), none, none, none]) [true, true, true, true, true, true, false, false, false] rfl ?_
      cases h
      have hk := kb _ rfl
      exact hk
    · rw [if_neg (mm_b0 c12)] at h
      refine r_iconst (v := 1) (q := 129) dX3_readNumber_128 (by decide) rfl ?_
      cases h
      have hk := ke _ rfl
      exact r_retb dX3_readNumber_129 rfl (Or.inr rfl) hk
  · rw [if_neg c11] at h
    refine r_iload (q := 117) dX3_readNumber_115 rfl rfl ?_
    refine r_if_eq 128 (q := 120) dX3_readNumber_117 (by decide) rfl (fun c15 => ?_) (fun c15 => ?_)
    · rw [if_neg (mm_b0 c15)] at h
      refine r_iconst (v := 1) (q := 129) dX3_readNumber_128 (by decide) rfl ?_
      cases h
      have hk := ke _ rfl
      exact r_retb dX3_readNumber_129 rfl (Or.inr rfl) hk
    · rw [if_pos (mm_b1 c15)] at h
      refine r_goto 130 dX3_readNumber_120 (by decide) ?_
      refine r_aload_n (q := 131) dX3_readNumber_130 rfl rfl ?_
      obtain ⟨y17, e16, h⟩ := mm_let_elim h
      refine r_callV_v (av := []) (st := []) (q := 134) (d1 := 0) kc_X3_41 sc_c_1 dX3_readNumber_131 rfl rfl (Nat.le_of_ble_eq_true rfl) (Nat.le_of_ble_eq_true rfl) (by omega) rfl rfl (t_X7_step (d := 0) (by omega) M _ e16) ?_
      refine r_iinc (v := 1) (q := 137) (L' := [some (.inr 1), some (.inr 20), some (.inl x2), some (.inl x3), some (.inl x4), some (.inl (x5 + 1)), none, some (.inl (mm_b x7)), some (.inl (mm_b z0))]) dX3_readNumber_134 (by decide) (by decide) rfl rfl rfl ?_
      refine r_goto 6 dX3_readNumber_137 (by decide) ?_
      refine r_forget (L' := [some (.inr 1), some (.inr 20), some (.inl x2), some (.inl x3), some (.inl x4), some (.inl (x5 + 1)), none, none, none]) [true, true, true, true, true, true, false, false, false] rfl ?_
      cases h
      have hk := kb _ rfl
      exact hk
noncomputable def X3_readNumber_j104l6 (rec0 : Int32 → Int32 → mm_M → Option (Bool × mm_M)) (rec1 : Int32 → mm_M → Option (Bool × mm_M)) (x2 : Int32) (x3 : Int32) (x4 : Int32) (x5 : Int32) (x7 : Bool) (M : mm_M) : Option ((Int32 × Int32 × mm_M) ⊕ (Bool × mm_M)) := X3_readNumber_j109l6 rec0 rec1 x2 x3 x4 x5 x7 true M
set_option maxRecDepth 100000 in
set_option maxHeartbeats 400000 in
theorem t_X3_readNumber_j104l6 {D : mm_D} {d : Nat} (hd : 8 ≤ d) {rec0 : Int32 → Int32 → mm_M → Option (Bool × mm_M)} {rec1 : Int32 → mm_M → Option (Bool × mm_M)} {d' : Nat} (hdd : d' < d) (hrec0 : ∀ (w0 w1 : Int32) (M : mm_M) (res : Bool × mm_M), rec0 w0 w1 M = some res → mm_Meth jX3_readNumber d' 0 0 [.inr 1, .inr 20, .inl w0, .inl w1] S_c M (mm_Zi (mm_b res.1) S_c res.2)) (hrec1 : ∀ (w0 : Int32) (M : mm_M) (res : Bool × mm_M), rec1 w0 M = some res → mm_Meth jX3_readFactor d' 0 0 [.inr 1, .inr 20, .inl w0] S_c M (mm_Zi (mm_b res.1) S_c res.2)) {Z : Option Int32 → List mm_C → mm_M → Prop} (x2 : Int32) (x3 : Int32) (x4 : Int32) (x5 : Int32) (x7 : Bool) (M : mm_M) (o : (Int32 × Int32 × mm_M) ⊕ (Bool × mm_M)) (h : X3_readNumber_j104l6 rec0 rec1 x2 x3 x4 x5 x7 M = some o) (kb : ∀ s', o = .inl s' → mm_Go jX3_readNumber D d 0 0 6 [some (.inr 1), some (.inr 20), some (.inl x2), some (.inl x3), some (.inl s'.1), some (.inl s'.2.1), none, none, none] [] S_c s'.2.2 Z) (ke : ∀ r, o = .inr r → Z (some (mm_b r.1)) S_c r.2) : mm_Go jX3_readNumber D d 0 0 104 [some (.inr 1), some (.inr 20), some (.inl x2), some (.inl x3), some (.inl x4), some (.inl x5), none, some (.inl (mm_b x7)), none] [] S_c M Z := by
  unfold X3_readNumber_j104l6 at h
  refine r_iconst (v := 1) (q := 105) dX3_readNumber_104 (by decide) rfl ?_
  refine r_goto 109 dX3_readNumber_105 (by decide) ?_
  exact t_X3_readNumber_j109l6 hd hdd hrec0 hrec1 x2 x3 x4 x5 x7 true M _ h kb ke
noncomputable def X3_readNumber_j88l6 (rec0 : Int32 → Int32 → mm_M → Option (Bool × mm_M)) (rec1 : Int32 → mm_M → Option (Bool × mm_M)) (x2 : Int32) (x3 : Int32) (x4 : Int32) (x5 : Int32) (z0 : Bool) (M : mm_M) : Option ((Int32 × Int32 × mm_M) ⊕ (Bool × mm_M)) := if x4 = 43 then X3_readNumber_j104l6 rec0 rec1 x2 x3 x4 x5 z0 M else if x4 = 45 then X3_readNumber_j104l6 rec0 rec1 x2 x3 x4 x5 z0 M else X3_readNumber_j109l6 rec0 rec1 x2 x3 x4 x5 z0 false M
set_option maxRecDepth 100000 in
set_option maxHeartbeats 400000 in
theorem t_X3_readNumber_j88l6 {D : mm_D} {d : Nat} (hd : 8 ≤ d) {rec0 : Int32 → Int32 → mm_M → Option (Bool × mm_M)} {rec1 : Int32 → mm_M → Option (Bool × mm_M)} {d' : Nat} (hdd : d' < d) (hrec0 : ∀ (w0 w1 : Int32) (M : mm_M) (res : Bool × mm_M), rec0 w0 w1 M = some res → mm_Meth jX3_readNumber d' 0 0 [.inr 1, .inr 20, .inl w0, .inl w1] S_c M (mm_Zi (mm_b res.1) S_c res.2)) (hrec1 : ∀ (w0 : Int32) (M : mm_M) (res : Bool × mm_M), rec1 w0 M = some res → mm_Meth jX3_readFactor d' 0 0 [.inr 1, .inr 20, .inl w0] S_c M (mm_Zi (mm_b res.1) S_c res.2)) {Z : Option Int32 → List mm_C → mm_M → Prop} (x2 : Int32) (x3 : Int32) (x4 : Int32) (x5 : Int32) (z0 : Bool) (M : mm_M) (o : (Int32 × Int32 × mm_M) ⊕ (Bool × mm_M)) (h : X3_readNumber_j88l6 rec0 rec1 x2 x3 x4 x5 z0 M = some o) (kb : ∀ s', o = .inl s' → mm_Go jX3_readNumber D d 0 0 6 [some (.inr 1), some (.inr 20), some (.inl x2), some (.inl x3), some (.inl s'.1), some (.inl s'.2.1), none, none, none] [] S_c s'.2.2 Z) (ke : ∀ r, o = .inr r → Z (some (mm_b r.1)) S_c r.2) : mm_Go jX3_readNumber D d 0 0 88 [some (.inr 1), some (.inr 20), some (.inl x2), some (.inl x3), some (.inl x4), some (.inl x5), none, none, none] [(.inl (mm_b z0))] S_c M Z := by
  unfold X3_readNumber_j88l6 at h
  refine r_istore (q := 90) (L' := [some (.inr 1), some (.inr 20), some (.inl x2), some (.inl x3), some (.inl x4), some (.inl x5), none, some (.inl (mm_b z0)), none]) dX3_readNumber_88 (by decide) rfl rfl ?_
  refine r_iload (q := 92) dX3_readNumber_90 rfl rfl ?_
  refine r_bipush (v := 43) (q := 94) dX3_readNumber_92 (by decide) rfl ?_
  refine r_icmp_eq 104 (q := 97) dX3_readNumber_94 (by decide) rfl (fun c10 => ?_) (fun c10 => ?_)
  · rw [if_pos c10] at h
    exact t_X3_readNumber_j104l6 hd hdd hrec0 hrec1 x2 x3 x4 x5 z0 M _ h kb ke
  · rw [if_neg c10] at h
    refine r_iload (q := 99) dX3_readNumber_97 rfl rfl ?_
    refine r_bipush (v := 45) (q := 101) dX3_readNumber_99 (by decide) rfl ?_
    refine r_icmp_ne 108 (q := 104) dX3_readNumber_101 (by decide) rfl (fun c18 => ?_) (fun c18 => ?_)
    · rw [if_neg c18] at h
      refine r_iconst (v := 0) (q := 109) dX3_readNumber_108 (by decide) rfl ?_
      exact t_X3_readNumber_j109l6 hd hdd hrec0 hrec1 x2 x3 x4 x5 z0 false M _ h kb ke
    · rw [if_pos c18] at h
      exact t_X3_readNumber_j104l6 hd hdd hrec0 hrec1 x2 x3 x4 x5 z0 M _ h kb ke
noncomputable def X3_readNumber_j83l6 (rec0 : Int32 → Int32 → mm_M → Option (Bool × mm_M)) (rec1 : Int32 → mm_M → Option (Bool × mm_M)) (x2 : Int32) (x3 : Int32) (x4 : Int32) (x5 : Int32) (M : mm_M) : Option ((Int32 × Int32 × mm_M) ⊕ (Bool × mm_M)) := X3_readNumber_j88l6 rec0 rec1 x2 x3 x4 x5 true M
set_option maxRecDepth 100000 in
set_option maxHeartbeats 400000 in
theorem t_X3_readNumber_j83l6 {D : mm_D} {d : Nat} (hd : 8 ≤ d) {rec0 : Int32 → Int32 → mm_M → Option (Bool × mm_M)} {rec1 : Int32 → mm_M → Option (Bool × mm_M)} {d' : Nat} (hdd : d' < d) (hrec0 : ∀ (w0 w1 : Int32) (M : mm_M) (res : Bool × mm_M), rec0 w0 w1 M = some res → mm_Meth jX3_readNumber d' 0 0 [.inr 1, .inr 20, .inl w0, .inl w1] S_c M (mm_Zi (mm_b res.1) S_c res.2)) (hrec1 : ∀ (w0 : Int32) (M : mm_M) (res : Bool × mm_M), rec1 w0 M = some res → mm_Meth jX3_readFactor d' 0 0 [.inr 1, .inr 20, .inl w0] S_c M (mm_Zi (mm_b res.1) S_c res.2)) {Z : Option Int32 → List mm_C → mm_M → Prop} (x2 : Int32) (x3 : Int32) (x4 : Int32) (x5 : Int32) (M : mm_M) (o : (Int32 × Int32 × mm_M) ⊕ (Bool × mm_M)) (h : X3_readNumber_j83l6 rec0 rec1 x2 x3 x4 x5 M = some o) (kb : ∀ s', o = .inl s' → mm_Go jX3_readNumber D d 0 0 6 [some (.inr 1), some (.inr 20), some (.inl x2), some (.inl x3), some (.inl s'.1), some (.inl s'.2.1), none, none, none] [] S_c s'.2.2 Z) (ke : ∀ r, o = .inr r → Z (some (mm_b r.1)) S_c r.2) : mm_Go jX3_readNumber D d 0 0 83 [some (.inr 1), some (.inr 20), some (.inl x2), some (.inl x3), some (.inl x4), some (.inl x5), none, none, none] [] S_c M Z := by
  unfold X3_readNumber_j83l6 at h
  refine r_iconst (v := 1) (q := 84) dX3_readNumber_83 (by decide) rfl ?_
  refine r_goto 88 dX3_readNumber_84 (by decide) ?_
  exact t_X3_readNumber_j88l6 hd hdd hrec0 hrec1 x2 x3 x4 x5 true M _ h kb ke
noncomputable def X3_readNumber_j56l6 (rec0 : Int32 → Int32 → mm_M → Option (Bool × mm_M)) (rec1 : Int32 → mm_M → Option (Bool × mm_M)) (x2 : Int32) (x3 : Int32) (x5 : Int32) (M : mm_M) : Option ((Int32 × Int32 × mm_M) ⊕ (Bool × mm_M)) := if (M 1 4) = 42 then X3_readNumber_j83l6 rec0 rec1 x2 x3 (M 1 4) x5 M else if (M 1 4) = 47 then X3_readNumber_j83l6 rec0 rec1 x2 x3 (M 1 4) x5 M else if (M 1 4) = 37 then X3_readNumber_j83l6 rec0 rec1 x2 x3 (M 1 4) x5 M else X3_readNumber_j88l6 rec0 rec1 x2 x3 (M 1 4) x5 false M
set_option maxRecDepth 100000 in
set_option maxHeartbeats 400000 in
theorem t_X3_readNumber_j56l6 {D : mm_D} {d : Nat} (hd : 8 ≤ d) {rec0 : Int32 → Int32 → mm_M → Option (Bool × mm_M)} {rec1 : Int32 → mm_M → Option (Bool × mm_M)} {d' : Nat} (hdd : d' < d) (hrec0 : ∀ (w0 w1 : Int32) (M : mm_M) (res : Bool × mm_M), rec0 w0 w1 M = some res → mm_Meth jX3_readNumber d' 0 0 [.inr 1, .inr 20, .inl w0, .inl w1] S_c M (mm_Zi (mm_b res.1) S_c res.2)) (hrec1 : ∀ (w0 : Int32) (M : mm_M) (res : Bool × mm_M), rec1 w0 M = some res → mm_Meth jX3_readFactor d' 0 0 [.inr 1, .inr 20, .inl w0] S_c M (mm_Zi (mm_b res.1) S_c res.2)) {Z : Option Int32 → List mm_C → mm_M → Prop} (x2 : Int32) (x3 : Int32) (x5 : Int32) (M : mm_M) (o : (Int32 × Int32 × mm_M) ⊕ (Bool × mm_M)) (h : X3_readNumber_j56l6 rec0 rec1 x2 x3 x5 M = some o) (kb : ∀ s', o = .inl s' → mm_Go jX3_readNumber D d 0 0 6 [some (.inr 1), some (.inr 20), some (.inl x2), some (.inl x3), some (.inl s'.1), some (.inl s'.2.1), none, none, none] [] S_c s'.2.2 Z) (ke : ∀ r, o = .inr r → Z (some (mm_b r.1)) S_c r.2) : mm_Go jX3_readNumber D d 0 0 56 [some (.inr 1), some (.inr 20), some (.inl x2), some (.inl x3), none, some (.inl x5), none, none, none] [] S_c M Z := by
  unfold X3_readNumber_j56l6 at h
  refine r_aload_n (q := 57) dX3_readNumber_56 rfl rfl ?_
  refine r_geti (v := (M 1 4)) (q := 60) lk_X3_20 dX3_readNumber_57 sc_c_1 rfl rfl rfl ?_
  refine r_istore (q := 62) (L' := [some (.inr 1), some (.inr 20), some (.inl x2), some (.inl x3), some (.inl (M 1 4)), some (.inl x5), none, none, none]) dX3_readNumber_60 (by decide) rfl rfl ?_
  refine r_iload (q := 64) dX3_readNumber_62 rfl rfl ?_
  refine r_bipush (v := 42) (q := 66) dX3_readNumber_64 (by decide) rfl ?_
  refine r_icmp_eq 83 (q := 69) dX3_readNumber_66 (by decide) rfl (fun c9 => ?_) (fun c9 => ?_)
  · rw [if_pos c9] at h
    exact t_X3_readNumber_j83l6 hd hdd hrec0 hrec1 x2 x3 (M 1 4) x5 M _ h kb ke
  · rw [if_neg c9] at h
    refine r_iload (q := 71) dX3_readNumber_69 rfl rfl ?_
    refine r_bipush (v := 47) (q := 73) dX3_readNumber_71 (by decide) rfl ?_
    refine r_icmp_eq 83 (q := 76) dX3_readNumber_73 (by decide) rfl (fun c19 => ?_) (fun c19 => ?_)
    · rw [if_pos c19] at h
      exact t_X3_readNumber_j83l6 hd hdd hrec0 hrec1 x2 x3 (M 1 4) x5 M _ h kb ke
    · rw [if_neg c19] at h
      refine r_iload (q := 78) dX3_readNumber_76 rfl rfl ?_
      refine r_bipush (v := 37) (q := 80) dX3_readNumber_78 (by decide) rfl ?_
      refine r_icmp_ne 87 (q := 83) dX3_readNumber_80 (by decide) rfl (fun c20 => ?_) (fun c20 => ?_)
      · rw [if_neg c20] at h
        refine r_iconst (v := 0) (q := 88) dX3_readNumber_87 (by decide) rfl ?_
        exact t_X3_readNumber_j88l6 hd hdd hrec0 hrec1 x2 x3 (M 1 4) x5 false M _ h kb ke
      · rw [if_pos c20] at h
        exact t_X3_readNumber_j83l6 hd hdd hrec0 hrec1 x2 x3 (M 1 4) x5 M _ h kb ke
noncomputable def X3_readNumber_j34l6 (rec0 : Int32 → Int32 → mm_M → Option (Bool × mm_M)) (rec1 : Int32 → mm_M → Option (Bool × mm_M)) (x2 : Int32) (x3 : Int32) (x4 : Int32) (x5 : Int32) (z0 : Bool) (M : mm_M) : Option ((Int32 × Int32 × mm_M) ⊕ (Bool × mm_M)) := if z0 = true then if x5 ≤ 0 then X3_readNumber_j56l6 rec0 rec1 x2 x3 x5 M else mm_let (X2_add x4 0 M) fun y22 => X3_readNumber_j56l6 rec0 rec1 x2 x3 x5 y22.2 else some (.inr (false, M))
set_option maxRecDepth 100000 in
set_option maxHeartbeats 400000 in
theorem t_X3_readNumber_j34l6 {D : mm_D} {d : Nat} (hd : 8 ≤ d) {rec0 : Int32 → Int32 → mm_M → Option (Bool × mm_M)} {rec1 : Int32 → mm_M → Option (Bool × mm_M)} {d' : Nat} (hdd : d' < d) (hrec0 : ∀ (w0 w1 : Int32) (M : mm_M) (res : Bool × mm_M), rec0 w0 w1 M = some res → mm_Meth jX3_readNumber d' 0 0 [.inr 1, .inr 20, .inl w0, .inl w1] S_c M (mm_Zi (mm_b res.1) S_c res.2)) (hrec1 : ∀ (w0 : Int32) (M : mm_M) (res : Bool × mm_M), rec1 w0 M = some res → mm_Meth jX3_readFactor d' 0 0 [.inr 1, .inr 20, .inl w0] S_c M (mm_Zi (mm_b res.1) S_c res.2)) {Z : Option Int32 → List mm_C → mm_M → Prop} (x2 : Int32) (x3 : Int32) (x4 : Int32) (x5 : Int32) (z0 : Bool) (M : mm_M) (o : (Int32 × Int32 × mm_M) ⊕ (Bool × mm_M)) (h : X3_readNumber_j34l6 rec0 rec1 x2 x3 x4 x5 z0 M = some o) (kb : ∀ s', o = .inl s' → mm_Go jX3_readNumber D d 0 0 6 [some (.inr 1), some (.inr 20), some (.inl x2), some (.inl x3), some (.inl s'.1), some (.inl s'.2.1), none, none, none] [] S_c s'.2.2 Z) (ke : ∀ r, o = .inr r → Z (some (mm_b r.1)) S_c r.2) : mm_Go jX3_readNumber D d 0 0 34 [some (.inr 1), some (.inr 20), some (.inl x2), some (.inl x3), some (.inl x4), some (.inl x5), none, none, none] [(.inl (mm_b z0))] S_c M Z := by
  unfold X3_readNumber_j34l6 at h
  refine r_istore (q := 36) (L' := [some (.inr 1), some (.inr 20), some (.inl x2), some (.inl x3), some (.inl x4), some (.inl x5), some (.inl (mm_b z0)), none, none]) dX3_readNumber_34 (by decide) rfl rfl ?_
  refine r_iload (q := 38) dX3_readNumber_36 rfl rfl ?_
  refine r_if_ne 43 (q := 41) dX3_readNumber_38 (by decide) rfl (fun c7 => ?_) (fun c7 => ?_)
  · rw [if_pos (mm_b1 c7)] at h
    refine r_iload (q := 45) dX3_readNumber_43 rfl rfl ?_
    refine r_if_le 56 (q := 48) dX3_readNumber_45 (by decide) rfl (fun c8 => ?_) (fun c8 => ?_)
    · rw [if_pos c8] at h
      refine r_forget (L' := [some (.inr 1), some (.inr 20), some (.inl x2), some (.inl x3), none, some (.inl x5), none, none, none]) [true, true, true, true, false, true, false, false, false] rfl ?_
      exact t_X3_readNumber_j56l6 hd hdd hrec0 hrec1 x2 x3 x5 M _ h kb ke
    · rw [if_neg c8] at h
      refine r_aload_n (q := 49) dX3_readNumber_48 rfl rfl ?_
      refine r_iload (q := 51) dX3_readNumber_49 rfl rfl ?_
      refine r_iconst (v := 0) (q := 52) dX3_readNumber_51 (by decide) rfl ?_
      obtain ⟨y22, e21, h⟩ := mm_let_elim h
      refine r_callV_i (av := [(.inl x4), (.inl 0)]) (st := []) (q := 55) (d1 := 0) kc_X3_52 sc_c_20 dX3_readNumber_52 rfl rfl (Nat.le_of_ble_eq_true rfl) (Nat.le_of_ble_eq_true rfl) (by omega) rfl rfl (t_X2_add (d := 0) (by omega) x4 0 M _ e21) ?_
      refine r_pop (q := 56) dX3_readNumber_55 rfl ?_
      refine r_forget (L' := [some (.inr 1), some (.inr 20), some (.inl x2), some (.inl x3), none, some (.inl x5), none, none, none]) [true, true, true, true, false, true, false, false, false] rfl ?_
      exact t_X3_readNumber_j56l6 hd hdd hrec0 hrec1 x2 x3 x5 y22.2 _ h kb ke
  · rw [if_neg (mm_b0 c7)] at h
    refine r_iconst (v := 0) (q := 42) dX3_readNumber_41 (by decide) rfl ?_
    cases h
    have hk := ke _ rfl
    exact r_retb dX3_readNumber_42 rfl (Or.inl rfl) hk
noncomputable def X3_readNumber_l6 (rec0 : Int32 → Int32 → mm_M → Option (Bool × mm_M)) (rec1 : Int32 → mm_M → Option (Bool × mm_M)) (x2 : Int32) (x3 : Int32) (s : (Int32 × Int32 × mm_M)) : Option ((Int32 × Int32 × mm_M) ⊕ (Bool × mm_M)) := if 240 < s.2.1 then mm_let (X7_fail 1 (s.2.2 1 2) s.2.2) fun y3 => some (.inr (y3.1, y3.2)) else if x3 = 0 then (rec0 x2 1 s.2.2).bind fun y6 => X3_readNumber_j34l6 rec0 rec1 x2 x3 s.1 s.2.1 y6.1 y6.2 else (rec1 x2 s.2.2).bind fun y24 => X3_readNumber_j34l6 rec0 rec1 x2 x3 s.1 s.2.1 y24.1 y24.2
set_option maxRecDepth 100000 in
set_option maxHeartbeats 400000 in
theorem t_X3_readNumber_l6 {D : mm_D} {d : Nat} (hd : 8 ≤ d) {rec0 : Int32 → Int32 → mm_M → Option (Bool × mm_M)} {rec1 : Int32 → mm_M → Option (Bool × mm_M)} {d' : Nat} (hdd : d' < d) (hrec0 : ∀ (w0 w1 : Int32) (M : mm_M) (res : Bool × mm_M), rec0 w0 w1 M = some res → mm_Meth jX3_readNumber d' 0 0 [.inr 1, .inr 20, .inl w0, .inl w1] S_c M (mm_Zi (mm_b res.1) S_c res.2)) (hrec1 : ∀ (w0 : Int32) (M : mm_M) (res : Bool × mm_M), rec1 w0 M = some res → mm_Meth jX3_readFactor d' 0 0 [.inr 1, .inr 20, .inl w0] S_c M (mm_Zi (mm_b res.1) S_c res.2)) {Z : Option Int32 → List mm_C → mm_M → Prop} (x2 : Int32) (x3 : Int32) (n : Nat) (s : (Int32 × Int32 × mm_M)) (r : (Bool × mm_M)) (h : mm_loop (X3_readNumber_l6 rec0 rec1 x2 x3) n s = some r) (hx : Z (some (mm_b r.1)) S_c r.2) : mm_Go jX3_readNumber D d 0 0 6 [some (.inr 1), some (.inr 20), some (.inl x2), some (.inl x3), some (.inl s.1), some (.inl s.2.1), none, none, none] [] S_c s.2.2 Z := by
  refine mm_loop_go (step := X3_readNumber_l6 rec0 rec1 x2 x3) (Hd := fun (s : (Int32 × Int32 × mm_M)) => mm_Go jX3_readNumber D d 0 0 6 [some (.inr 1), some (.inr 20), some (.inl x2), some (.inl x3), some (.inl s.1), some (.inl s.2.1), none, none, none] [] S_c s.2.2 Z) (Ex := fun (r : (Bool × mm_M)) => Z (some (mm_b r.1)) S_c r.2) ?_ n s r h hx
  intro s o h kb ke
  show mm_Go jX3_readNumber D d 0 0 6 [some (.inr 1), some (.inr 20), some (.inl x2), some (.inl x3), some (.inl s.1), some (.inl s.2.1), none, none, none] [] S_c s.2.2 Z
  unfold X3_readNumber_l6 at h
  refine r_iload (q := 8) dX3_readNumber_6 rfl rfl ?_
  refine r_sipush (v := 240) (q := 11) dX3_readNumber_8 (by decide) rfl ?_
  refine r_icmp_gt 140 (q := 14) dX3_readNumber_11 (by decide) rfl (fun c1 => ?_) (fun c1 => ?_)
  · rw [if_pos c1] at h
    refine r_aload_n (q := 141) dX3_readNumber_140 rfl rfl ?_
    refine r_iconst (v := 1) (q := 142) dX3_readNumber_141 (by decide) rfl ?_
    refine r_aload_n (q := 143) dX3_readNumber_142 rfl rfl ?_
    refine r_geti (v := (s.2.2 1 2)) (q := 146) lk_X3_30 dX3_readNumber_143 sc_c_1 rfl rfl rfl ?_
    obtain ⟨y3, e2, h⟩ := mm_let_elim h
    refine r_callV_i (av := [(.inl 1), (.inl (s.2.2 1 2))]) (st := []) (q := 149) (d1 := 0) kc_X3_33 sc_c_1 dX3_readNumber_146 rfl rfl (Nat.le_of_ble_eq_true rfl) (Nat.le_of_ble_eq_true rfl) (by omega) rfl rfl (t_X7_fail (d := 0) (by omega) 1 (s.2.2 1 2) s.2.2 _ e2) ?_
    cases h
    have hk := ke _ rfl
    exact r_retb dX3_readNumber_149 rfl (mm_b01 _) hk
  · rw [if_neg c1] at h
    refine r_iload_n (q := 15) dX3_readNumber_14 rfl rfl ?_
    refine r_if_eq 27 (q := 18) dX3_readNumber_15 (by decide) rfl (fun c4 => ?_) (fun c4 => ?_)
    · rw [if_pos c4] at h
      refine r_aload_n (q := 28) dX3_readNumber_27 rfl rfl ?_
      refine r_aload_n (q := 29) dX3_readNumber_28 rfl rfl ?_
      refine r_iload_n (q := 30) dX3_readNumber_29 rfl rfl ?_
      refine r_iconst (v := 1) (q := 31) dX3_readNumber_30 (by decide) rfl ?_
      obtain ⟨y6, e5, h⟩ := Option.bind_eq_some_iff.mp h
      refine r_callS_i (av := [(.inr 1), (.inr 20), (.inl x2), (.inl 1)]) (st := []) (q := 34) (d1 := d') kc_X3_48 dX3_readNumber_31 rfl rfl (Nat.le_of_ble_eq_true rfl) (Nat.le_of_ble_eq_true rfl) (by omega) rfl rfl (hrec0 x2 1 s.2.2 _ e5) ?_
      exact t_X3_readNumber_j34l6 hd hdd hrec0 hrec1 x2 x3 s.1 s.2.1 y6.1 y6.2 _ h kb ke
    · rw [if_neg c4] at h
      refine r_aload_n (q := 19) dX3_readNumber_18 rfl rfl ?_
      refine r_aload_n (q := 20) dX3_readNumber_19 rfl rfl ?_
      refine r_iload_n (q := 21) dX3_readNumber_20 rfl rfl ?_
      obtain ⟨y24, e23, h⟩ := Option.bind_eq_some_iff.mp h
      refine r_callS_i (av := [(.inr 1), (.inr 20), (.inl x2)]) (st := []) (q := 24) (d1 := d') kc_X3_69 dX3_readNumber_21 rfl rfl (Nat.le_of_ble_eq_true rfl) (Nat.le_of_ble_eq_true rfl) (by omega) rfl rfl (hrec1 x2 s.2.2 _ e23) ?_
      refine r_goto 34 dX3_readNumber_24 (by decide) ?_
      exact t_X3_readNumber_j34l6 hd hdd hrec0 hrec1 x2 x3 s.1 s.2.1 y24.1 y24.2 _ h kb ke
noncomputable def X3_readNumber_o (rec0 : Int32 → Int32 → mm_M → Option (Bool × mm_M)) (rec1 : Int32 → mm_M → Option (Bool × mm_M)) (x2 : Int32) (x3 : Int32) (M : mm_M) : Option (Bool × mm_M) := (mm_loop (X3_readNumber_l6 rec0 rec1 x2 x3) mm_fuel (0, 0, M))
set_option maxRecDepth 100000 in
set_option maxHeartbeats 400000 in
theorem t_X3_readNumber_o {d : Nat} (hd : 8 ≤ d) {rec0 : Int32 → Int32 → mm_M → Option (Bool × mm_M)} {rec1 : Int32 → mm_M → Option (Bool × mm_M)} {d' : Nat} (hdd : d' < d) (hrec0 : ∀ (w0 w1 : Int32) (M : mm_M) (res : Bool × mm_M), rec0 w0 w1 M = some res → mm_Meth jX3_readNumber d' 0 0 [.inr 1, .inr 20, .inl w0, .inl w1] S_c M (mm_Zi (mm_b res.1) S_c res.2)) (hrec1 : ∀ (w0 : Int32) (M : mm_M) (res : Bool × mm_M), rec1 w0 M = some res → mm_Meth jX3_readFactor d' 0 0 [.inr 1, .inr 20, .inl w0] S_c M (mm_Zi (mm_b res.1) S_c res.2)) (x2 : Int32) (x3 : Int32) (M : mm_M) (res : (Bool × mm_M)) (h : X3_readNumber_o rec0 rec1 x2 x3 M = some res) : mm_Meth jX3_readNumber d 0 0 [(.inr 1), (.inr 20), (.inl x2), (.inl x3)] S_c M (mm_Zi (mm_b res.1) S_c res.2) := by
  refine r_meth (L := [some (.inr 1), some (.inr 20), some (.inl x2), some (.inl x3), none, none, none, none, none]) rfl (fun D => ?_)
  unfold X3_readNumber_o at h
  refine r_iconst (v := 0) (q := 1) dX3_readNumber_0 (by decide) rfl ?_
  refine r_istore (q := 3) (L' := [some (.inr 1), some (.inr 20), some (.inl x2), some (.inl x3), some (.inl 0), none, none, none, none]) dX3_readNumber_1 (by decide) rfl rfl ?_
  refine r_iconst (v := 0) (q := 4) dX3_readNumber_3 (by decide) rfl ?_
  refine r_istore (q := 6) (L' := [some (.inr 1), some (.inr 20), some (.inl x2), some (.inl x3), some (.inl 0), some (.inl 0), none, none, none]) dX3_readNumber_4 (by decide) rfl rfl ?_
  exact t_X3_readNumber_l6 hd hdd hrec0 hrec1 x2 x3 mm_fuel (0, 0, M) _ h mm_Zi_rfl
noncomputable def X3_readFactor_l118 (rec0 : Int32 → Int32 → mm_M → Option (Bool × mm_M)) (rec1 : Int32 → mm_M → Option (Bool × mm_M)) (s : (Int32 × Int32 × mm_M)) : Option ((Int32 × Int32 × mm_M) ⊕ (Int32 × mm_M)) := if 5 ≤ s.2.1 then some (.inr (s.1, s.2.2)) else if (X7_isDigit s.2.2) = true then mm_let (X7_step s.2.2) fun y17 => some (.inl ((((s.1 * 10) + (s.2.2 1 4)) - 48), (s.2.1 + 1), y17)) else some (.inr (s.1, s.2.2))
set_option maxRecDepth 100000 in
set_option maxHeartbeats 400000 in
theorem t_X3_readFactor_l118 {D : mm_D} {d : Nat} (hd : 8 ≤ d) {rec0 : Int32 → Int32 → mm_M → Option (Bool × mm_M)} {rec1 : Int32 → mm_M → Option (Bool × mm_M)} {d' : Nat} (hdd : d' < d) (hrec0 : ∀ (w0 w1 : Int32) (M : mm_M) (res : Bool × mm_M), rec0 w0 w1 M = some res → mm_Meth jX3_readNumber d' 0 0 [.inr 1, .inr 20, .inl w0, .inl w1] S_c M (mm_Zi (mm_b res.1) S_c res.2)) (hrec1 : ∀ (w0 : Int32) (M : mm_M) (res : Bool × mm_M), rec1 w0 M = some res → mm_Meth jX3_readFactor d' 0 0 [.inr 1, .inr 20, .inl w0] S_c M (mm_Zi (mm_b res.1) S_c res.2)) {Z : Option Int32 → List mm_C → mm_M → Prop} (n : Nat) (s : (Int32 × Int32 × mm_M)) (r : (Int32 × mm_M)) (h : mm_loop (X3_readFactor_l118 rec0 rec1) n s = some r) (hx : mm_Go jX3_readFactor D d 0 0 154 [some (.inr 1), some (.inr 20), none, some (.inl r.1), none] [] S_c r.2 Z) : mm_Go jX3_readFactor D d 0 0 118 [some (.inr 1), some (.inr 20), none, some (.inl s.1), some (.inl s.2.1)] [] S_c s.2.2 Z := by
  refine mm_loop_go (step := X3_readFactor_l118 rec0 rec1) (Hd := fun (s : (Int32 × Int32 × mm_M)) => mm_Go jX3_readFactor D d 0 0 118 [some (.inr 1), some (.inr 20), none, some (.inl s.1), some (.inl s.2.1)] [] S_c s.2.2 Z) (Ex := fun (r : (Int32 × mm_M)) => mm_Go jX3_readFactor D d 0 0 154 [some (.inr 1), some (.inr 20), none, some (.inl r.1), none] [] S_c r.2 Z) ?_ n s r h hx
  intro s o h kb ke
  show mm_Go jX3_readFactor D d 0 0 118 [some (.inr 1), some (.inr 20), none, some (.inl s.1), some (.inl s.2.1)] [] S_c s.2.2 Z
  unfold X3_readFactor_l118 at h
  refine r_iload (q := 120) dX3_readFactor_118 rfl rfl ?_
  refine r_iconst (v := 5) (q := 121) dX3_readFactor_120 (by decide) rfl ?_
  refine r_icmp_ge 154 (q := 124) dX3_readFactor_121 (by decide) rfl (fun c14 => ?_) (fun c14 => ?_)
  · rw [if_pos c14] at h
    refine r_forget (L' := [some (.inr 1), some (.inr 20), none, some (.inl s.1), none]) [true, true, false, true, false] rfl ?_
    cases h
    have hk := ke _ rfl
    exact hk
  · rw [if_neg c14] at h
    refine r_aload_n (q := 125) dX3_readFactor_124 rfl rfl ?_
    refine r_callV_i (av := []) (st := []) (q := 128) (d1 := 0) kc_X3_72 sc_c_1 dX3_readFactor_125 rfl rfl (Nat.le_of_ble_eq_true rfl) (Nat.le_of_ble_eq_true rfl) (by omega) rfl rfl (t_X7_isDigit (d := 0) (by omega) s.2.2 _ rfl) ?_
    refine r_if_eq 154 (q := 131) dX3_readFactor_128 (by decide) rfl (fun c15 => ?_) (fun c15 => ?_)
    · rw [if_neg (mm_b0 c15)] at h
      refine r_forget (L' := [some (.inr 1), some (.inr 20), none, some (.inl s.1), none]) [true, true, false, true, false] rfl ?_
      cases h
      have hk := ke _ rfl
      exact hk
    · rw [if_pos (mm_b1 c15)] at h
      refine r_iload_n (q := 132) dX3_readFactor_131 rfl rfl ?_
      refine r_bipush (v := 10) (q := 134) dX3_readFactor_132 (by decide) rfl ?_
      refine r_imul (q := 135) dX3_readFactor_134 rfl ?_
      refine r_aload_n (q := 136) dX3_readFactor_135 rfl rfl ?_
      refine r_geti (v := (s.2.2 1 4)) (q := 139) lk_X3_20 dX3_readFactor_136 sc_c_1 rfl rfl rfl ?_
      refine r_iadd (q := 140) dX3_readFactor_139 rfl ?_
      refine r_bipush (v := 48) (q := 142) dX3_readFactor_140 (by decide) rfl ?_
      refine r_isub (q := 143) dX3_readFactor_142 rfl ?_
      refine r_istore_n (q := 144) (L' := [some (.inr 1), some (.inr 20), none, some (.inl (((s.1 * 10) + (s.2.2 1 4)) - 48)), some (.inl s.2.1)]) dX3_readFactor_143 (by decide) rfl rfl ?_
      refine r_aload_n (q := 145) dX3_readFactor_144 rfl rfl ?_
      obtain ⟨y17, e16, h⟩ := mm_let_elim h
      refine r_callV_v (av := []) (st := []) (q := 148) (d1 := 0) kc_X3_41 sc_c_1 dX3_readFactor_145 rfl rfl (Nat.le_of_ble_eq_true rfl) (Nat.le_of_ble_eq_true rfl) (by omega) rfl rfl (t_X7_step (d := 0) (by omega) s.2.2 _ e16) ?_
      refine r_iinc (v := 1) (q := 151) (L' := [some (.inr 1), some (.inr 20), none, some (.inl (((s.1 * 10) + (s.2.2 1 4)) - 48)), some (.inl (s.2.1 + 1))]) dX3_readFactor_148 (by decide) (by decide) rfl rfl rfl ?_
      refine r_goto 118 dX3_readFactor_151 (by decide) ?_
      cases h
      have hk := kb _ rfl
      exact hk
noncomputable def X3_readFactor_j154 (rec0 : Int32 → Int32 → mm_M → Option (Bool × mm_M)) (rec1 : Int32 → mm_M → Option (Bool × mm_M)) (x3 : Int32) (M : mm_M) : Option (Bool × mm_M) := mm_let (X2_add 1 x3 M) fun y21 => if (X7_isDigit y21.2) = true then mm_let (X7_fail 2 (y21.2 1 2) y21.2) fun y24 => if y24.1 = true then some (true, y24.2) else some (false, y24.2) else some (true, y21.2)
set_option maxRecDepth 100000 in
set_option maxHeartbeats 400000 in
theorem t_X3_readFactor_j154 {D : mm_D} {d : Nat} (hd : 8 ≤ d) {rec0 : Int32 → Int32 → mm_M → Option (Bool × mm_M)} {rec1 : Int32 → mm_M → Option (Bool × mm_M)} {d' : Nat} (hdd : d' < d) (hrec0 : ∀ (w0 w1 : Int32) (M : mm_M) (res : Bool × mm_M), rec0 w0 w1 M = some res → mm_Meth jX3_readNumber d' 0 0 [.inr 1, .inr 20, .inl w0, .inl w1] S_c M (mm_Zi (mm_b res.1) S_c res.2)) (hrec1 : ∀ (w0 : Int32) (M : mm_M) (res : Bool × mm_M), rec1 w0 M = some res → mm_Meth jX3_readFactor d' 0 0 [.inr 1, .inr 20, .inl w0] S_c M (mm_Zi (mm_b res.1) S_c res.2)) (x3 : Int32) (M : mm_M) (res : (Bool × mm_M)) (h : X3_readFactor_j154 rec0 rec1 x3 M = some res) : mm_Go jX3_readFactor D d 0 0 154 [some (.inr 1), some (.inr 20), none, some (.inl x3), none] [] S_c M (mm_Zi (mm_b res.1) S_c res.2) := by
  unfold X3_readFactor_j154 at h
  refine r_aload_n (q := 155) dX3_readFactor_154 rfl rfl ?_
  refine r_iconst (v := 1) (q := 156) dX3_readFactor_155 (by decide) rfl ?_
  refine r_iload_n (q := 157) dX3_readFactor_156 rfl rfl ?_
  obtain ⟨y21, e20, h⟩ := mm_let_elim h
  refine r_callV_i (av := [(.inl 1), (.inl x3)]) (st := []) (q := 160) (d1 := 0) kc_X3_52 sc_c_20 dX3_readFactor_157 rfl rfl (Nat.le_of_ble_eq_true rfl) (Nat.le_of_ble_eq_true rfl) (by omega) rfl rfl (t_X2_add (d := 0) (by omega) 1 x3 M _ e20) ?_
  refine r_pop (q := 161) dX3_readFactor_160 rfl ?_
  refine r_aload_n (q := 162) dX3_readFactor_161 rfl rfl ?_
  refine r_callV_i (av := []) (st := []) (q := 165) (d1 := 0) kc_X3_72 sc_c_1 dX3_readFactor_162 rfl rfl (Nat.le_of_ble_eq_true rfl) (Nat.le_of_ble_eq_true rfl) (by omega) rfl rfl (t_X7_isDigit (d := 0) (by omega) y21.2 _ rfl) ?_
  refine r_if_eq 180 (q := 168) dX3_readFactor_165 (by decide) rfl (fun c22 => ?_) (fun c22 => ?_)
  · rw [if_neg (mm_b0 c22)] at h
    refine r_iconst (v := 1) (q := 181) dX3_readFactor_180 (by decide) rfl ?_
    refine r_goto 185 dX3_readFactor_181 (by decide) ?_
    cases h
    exact r_retb dX3_readFactor_185 rfl (Or.inr rfl) mm_Zi_rfl
  · rw [if_pos (mm_b1 c22)] at h
    refine r_aload_n (q := 169) dX3_readFactor_168 rfl rfl ?_
    refine r_iconst (v := 2) (q := 170) dX3_readFactor_169 (by decide) rfl ?_
    refine r_aload_n (q := 171) dX3_readFactor_170 rfl rfl ?_
    refine r_geti (v := (y21.2 1 2)) (q := 174) lk_X3_30 dX3_readFactor_171 sc_c_1 rfl rfl rfl ?_
    obtain ⟨y24, e23, h⟩ := mm_let_elim h
    refine r_callV_i (av := [(.inl 2), (.inl (y21.2 1 2))]) (st := []) (q := 177) (d1 := 0) kc_X3_33 sc_c_1 dX3_readFactor_174 rfl rfl (Nat.le_of_ble_eq_true rfl) (Nat.le_of_ble_eq_true rfl) (by omega) rfl rfl (t_X7_fail (d := 0) (by omega) 2 (y21.2 1 2) y21.2 _ e23) ?_
    refine r_if_eq 184 (q := 180) dX3_readFactor_177 (by decide) rfl (fun c25 => ?_) (fun c25 => ?_)
    · rw [if_neg (mm_b0 c25)] at h
      refine r_iconst (v := 0) (q := 185) dX3_readFactor_184 (by decide) rfl ?_
      cases h
      exact r_retb dX3_readFactor_185 rfl (Or.inl rfl) mm_Zi_rfl
    · rw [if_pos (mm_b1 c25)] at h
      refine r_iconst (v := 1) (q := 181) dX3_readFactor_180 (by decide) rfl ?_
      refine r_goto 185 dX3_readFactor_181 (by decide) ?_
      cases h
      exact r_retb dX3_readFactor_185 rfl (Or.inr rfl) mm_Zi_rfl
noncomputable def X3_readFactor_j85 (rec0 : Int32 → Int32 → mm_M → Option (Bool × mm_M)) (rec1 : Int32 → mm_M → Option (Bool × mm_M)) (z0 : Int32) (M : mm_M) : Option (Bool × mm_M) := if 0 ≤ z0 then mm_let (X7_step M) fun y29 => mm_let (X2_add 2 z0 y29) fun y31 => some (true, y31.2) else mm_let (X7_fail 1 (M 1 2) M) fun y33 => some (y33.1, y33.2)
set_option maxRecDepth 100000 in
set_option maxHeartbeats 400000 in
theorem t_X3_readFactor_j85 {D : mm_D} {d : Nat} (hd : 8 ≤ d) {rec0 : Int32 → Int32 → mm_M → Option (Bool × mm_M)} {rec1 : Int32 → mm_M → Option (Bool × mm_M)} {d' : Nat} (hdd : d' < d) (hrec0 : ∀ (w0 w1 : Int32) (M : mm_M) (res : Bool × mm_M), rec0 w0 w1 M = some res → mm_Meth jX3_readNumber d' 0 0 [.inr 1, .inr 20, .inl w0, .inl w1] S_c M (mm_Zi (mm_b res.1) S_c res.2)) (hrec1 : ∀ (w0 : Int32) (M : mm_M) (res : Bool × mm_M), rec1 w0 M = some res → mm_Meth jX3_readFactor d' 0 0 [.inr 1, .inr 20, .inl w0] S_c M (mm_Zi (mm_b res.1) S_c res.2)) (z0 : Int32) (M : mm_M) (res : (Bool × mm_M)) (h : X3_readFactor_j85 rec0 rec1 z0 M = some res) : mm_Go jX3_readFactor D d 0 0 85 [some (.inr 1), some (.inr 20), none, none, none] [(.inl z0)] S_c M (mm_Zi (mm_b res.1) S_c res.2) := by
  unfold X3_readFactor_j85 at h
  refine r_istore_n (q := 86) (L' := [some (.inr 1), some (.inr 20), none, some (.inl z0), none]) dX3_readFactor_85 (by decide) rfl rfl ?_
  refine r_iload_n (q := 87) dX3_readFactor_86 rfl rfl ?_
  refine r_if_ge 100 (q := 90) dX3_readFactor_87 (by decide) rfl (fun c27 => ?_) (fun c27 => ?_)
  · rw [if_pos c27] at h
    refine r_aload_n (q := 101) dX3_readFactor_100 rfl rfl ?_
    obtain ⟨y29, e28, h⟩ := mm_let_elim h
    refine r_callV_v (av := []) (st := []) (q := 104) (d1 := 0) kc_X3_41 sc_c_1 dX3_readFactor_101 rfl rfl (Nat.le_of_ble_eq_true rfl) (Nat.le_of_ble_eq_true rfl) (by omega) rfl rfl (t_X7_step (d := 0) (by omega) M _ e28) ?_
    refine r_aload_n (q := 105) dX3_readFactor_104 rfl rfl ?_
    refine r_iconst (v := 2) (q := 106) dX3_readFactor_105 (by decide) rfl ?_
    refine r_iload_n (q := 107) dX3_readFactor_106 rfl rfl ?_
    obtain ⟨y31, e30, h⟩ := mm_let_elim h
    refine r_callV_i (av := [(.inl 2), (.inl z0)]) (st := []) (q := 110) (d1 := 0) kc_X3_52 sc_c_20 dX3_readFactor_107 rfl rfl (Nat.le_of_ble_eq_true rfl) (Nat.le_of_ble_eq_true rfl) (by omega) rfl rfl (t_X2_add (d := 0) (by omega) 2 z0 y29 _ e30) ?_
    refine r_pop (q := 111) dX3_readFactor_110 rfl ?_
    refine r_iconst (v := 1) (q := 112) dX3_readFactor_111 (by decide) rfl ?_
    cases h
    exact r_retb dX3_readFactor_112 rfl (Or.inr rfl) mm_Zi_rfl
  · rw [if_neg c27] at h
    refine r_aload_n (q := 91) dX3_readFactor_90 rfl rfl ?_
    refine r_iconst (v := 1) (q := 92) dX3_readFactor_91 (by decide) rfl ?_
    refine r_aload_n (q := 93) dX3_readFactor_92 rfl rfl ?_
    refine r_geti (v := (M 1 2)) (q := 96) lk_X3_30 dX3_readFactor_93 sc_c_1 rfl rfl rfl ?_
    obtain ⟨y33, e32, h⟩ := mm_let_elim h
    refine r_callV_i (av := [(.inl 1), (.inl (M 1 2))]) (st := []) (q := 99) (d1 := 0) kc_X3_33 sc_c_1 dX3_readFactor_96 rfl rfl (Nat.le_of_ble_eq_true rfl) (Nat.le_of_ble_eq_true rfl) (by omega) rfl rfl (t_X7_fail (d := 0) (by omega) 1 (M 1 2) M _ e32) ?_
    cases h
    exact r_retb dX3_readFactor_99 rfl (mm_b01 _) mm_Zi_rfl
noncomputable def X3_readFactor_o (rec0 : Int32 → Int32 → mm_M → Option (Bool × mm_M)) (rec1 : Int32 → mm_M → Option (Bool × mm_M)) (x2 : Int32) (M : mm_M) : Option (Bool × mm_M) := if (M 1 4) = 91 then if x2 < 6 then mm_let (X7_step M) fun y4 => (rec0 (x2 + 1) 0 y4).bind fun y6 => if y6.1 = true then mm_let (X7_take 93 y6.2) fun y9 => if y9.1 = true then some (true, y9.2) else some (false, y9.2) else some (false, y6.2) else mm_let (X7_fail 5 (M 1 2) M) fun y12 => some (y12.1, y12.2) else if (X7_isDigit M) = true then (mm_loop (X3_readFactor_l118 rec0 rec1) mm_fuel (0, 0, M)).bind fun y18 => X3_readFactor_j154 rec0 rec1 y18.1 y18.2 else if (M 1 4) = (-1) then X3_readFactor_j85 rec0 rec1 (-1) M else X3_readFactor_j85 rec0 rec1 (mm_ix (M 1 4)) M
set_option maxRecDepth 100000 in
set_option maxHeartbeats 400000 in
theorem t_X3_readFactor_o {d : Nat} (hd : 8 ≤ d) {rec0 : Int32 → Int32 → mm_M → Option (Bool × mm_M)} {rec1 : Int32 → mm_M → Option (Bool × mm_M)} {d' : Nat} (hdd : d' < d) (hrec0 : ∀ (w0 w1 : Int32) (M : mm_M) (res : Bool × mm_M), rec0 w0 w1 M = some res → mm_Meth jX3_readNumber d' 0 0 [.inr 1, .inr 20, .inl w0, .inl w1] S_c M (mm_Zi (mm_b res.1) S_c res.2)) (hrec1 : ∀ (w0 : Int32) (M : mm_M) (res : Bool × mm_M), rec1 w0 M = some res → mm_Meth jX3_readFactor d' 0 0 [.inr 1, .inr 20, .inl w0] S_c M (mm_Zi (mm_b res.1) S_c res.2)) (x2 : Int32) (M : mm_M) (res : (Bool × mm_M)) (h : X3_readFactor_o rec0 rec1 x2 M = some res) : mm_Meth jX3_readFactor d 0 0 [(.inr 1), (.inr 20), (.inl x2)] S_c M (mm_Zi (mm_b res.1) S_c res.2) := by
  refine r_meth (L := [some (.inr 1), some (.inr 20), some (.inl x2), none, none]) rfl (fun D => ?_)
  unfold X3_readFactor_o at h
  refine r_aload_n (q := 1) dX3_readFactor_0 rfl rfl ?_
  refine r_geti (v := (M 1 4)) (q := 4) lk_X3_20 dX3_readFactor_1 sc_c_1 rfl rfl rfl ?_
  refine r_bipush (v := 91) (q := 6) dX3_readFactor_4 (by decide) rfl ?_
  refine r_icmp_ne 56 (q := 9) dX3_readFactor_6 (by decide) rfl (fun c1 => ?_) (fun c1 => ?_)
  · rw [if_neg c1] at h
    refine r_aload_n (q := 57) dX3_readFactor_56 rfl rfl ?_
    refine r_callV_i (av := []) (st := []) (q := 60) (d1 := 0) kc_X3_72 sc_c_1 dX3_readFactor_57 rfl rfl (Nat.le_of_ble_eq_true rfl) (Nat.le_of_ble_eq_true rfl) (by omega) rfl rfl (t_X7_isDigit (d := 0) (by omega) M _ rfl) ?_
    refine r_if_ne 113 (q := 63) dX3_readFactor_60 (by decide) rfl (fun c13 => ?_) (fun c13 => ?_)
    · rw [if_pos (mm_b1 c13)] at h
      refine r_iconst (v := 0) (q := 114) dX3_readFactor_113 (by decide) rfl ?_
      refine r_istore_n (q := 115) (L' := [some (.inr 1), some (.inr 20), some (.inl x2), some (.inl 0), none]) dX3_readFactor_114 (by decide) rfl rfl ?_
      refine r_iconst (v := 0) (q := 116) dX3_readFactor_115 (by decide) rfl ?_
      refine r_istore (q := 118) (L' := [some (.inr 1), some (.inr 20), some (.inl x2), some (.inl 0), some (.inl 0)]) dX3_readFactor_116 (by decide) rfl rfl ?_
      refine r_forget (L' := [some (.inr 1), some (.inr 20), none, some (.inl 0), some (.inl 0)]) [true, true, false, true, true] rfl ?_
      obtain ⟨y18, e19, h⟩ := Option.bind_eq_some_iff.mp h
      refine t_X3_readFactor_l118 hd hdd hrec0 hrec1 mm_fuel (0, 0, M) _ e19 ?_
      show mm_Go jX3_readFactor _ _ _ _ 154 [some (.inr 1), some (.inr 20), none, some (.inl y18.1), none] [] S_c y18.2 _
      exact t_X3_readFactor_j154 hd hdd hrec0 hrec1 y18.1 y18.2 _ h
    · rw [if_neg (mm_b0 c13)] at h
      refine r_aload_n (q := 64) dX3_readFactor_63 rfl rfl ?_
      refine r_geti (v := (M 1 4)) (q := 67) lk_X3_20 dX3_readFactor_64 sc_c_1 rfl rfl rfl ?_
      refine r_iconst (v := (-1)) (q := 68) dX3_readFactor_67 (by decide) rfl ?_
      refine r_icmp_ne 75 (q := 71) dX3_readFactor_68 (by decide) rfl (fun c26 => ?_) (fun c26 => ?_)
      · rw [if_neg c26] at h
        refine r_ix (v := (M 1 4)) (q := 85) dX3_readFactor_75 dX3_readFactor_77 dX3_readFactor_78 dX3_readFactor_81 dX3_readFactor_82 rfl sc_c_1 rfl rfl rfl (by omega) (by decide) ?_
        refine r_forget (L' := [some (.inr 1), some (.inr 20), none, none, none]) [true, true, false, false, false] rfl ?_
        exact t_X3_readFactor_j85 hd hdd hrec0 hrec1 (mm_ix (M 1 4)) M _ h
      · rw [if_pos c26] at h
        refine r_iconst (v := (-1)) (q := 72) dX3_readFactor_71 (by decide) rfl ?_
        refine r_goto 85 dX3_readFactor_72 (by decide) ?_
        refine r_forget (L' := [some (.inr 1), some (.inr 20), none, none, none]) [true, true, false, false, false] rfl ?_
        exact t_X3_readFactor_j85 hd hdd hrec0 hrec1 (-1) M _ h
  · rw [if_pos c1] at h
    refine r_iload_n (q := 10) dX3_readFactor_9 rfl rfl ?_
    refine r_bipush (v := 6) (q := 12) dX3_readFactor_10 (by decide) rfl ?_
    refine r_icmp_lt 25 (q := 15) dX3_readFactor_12 (by decide) rfl (fun c2 => ?_) (fun c2 => ?_)
    · rw [if_pos c2] at h
      refine r_aload_n (q := 26) dX3_readFactor_25 rfl rfl ?_
      obtain ⟨y4, e3, h⟩ := mm_let_elim h
      refine r_callV_v (av := []) (st := []) (q := 29) (d1 := 0) kc_X3_41 sc_c_1 dX3_readFactor_26 rfl rfl (Nat.le_of_ble_eq_true rfl) (Nat.le_of_ble_eq_true rfl) (by omega) rfl rfl (t_X7_step (d := 0) (by omega) M _ e3) ?_
      refine r_aload_n (q := 30) dX3_readFactor_29 rfl rfl ?_
      refine r_aload_n (q := 31) dX3_readFactor_30 rfl rfl ?_
      refine r_iload_n (q := 32) dX3_readFactor_31 rfl rfl ?_
      refine r_iconst (v := 1) (q := 33) dX3_readFactor_32 (by decide) rfl ?_
      refine r_iadd (q := 34) dX3_readFactor_33 rfl ?_
      refine r_iconst (v := 0) (q := 35) dX3_readFactor_34 (by decide) rfl ?_
      obtain ⟨y6, e5, h⟩ := Option.bind_eq_some_iff.mp h
      refine r_callS_i (av := [(.inr 1), (.inr 20), (.inl (x2 + 1)), (.inl 0)]) (st := []) (q := 38) (d1 := d') kc_X3_48 dX3_readFactor_35 rfl rfl (Nat.le_of_ble_eq_true rfl) (Nat.le_of_ble_eq_true rfl) (by omega) rfl rfl (hrec0 (x2 + 1) 0 y4 _ e5) ?_
      refine r_if_eq 54 (q := 41) dX3_readFactor_38 (by decide) rfl (fun c7 => ?_) (fun c7 => ?_)
      · rw [if_neg (mm_b0 c7)] at h
        refine r_iconst (v := 0) (q := 55) dX3_readFactor_54 (by decide) rfl ?_
        cases h
        exact r_retb dX3_readFactor_55 rfl (Or.inl rfl) mm_Zi_rfl
      · rw [if_pos (mm_b1 c7)] at h
        refine r_aload_n (q := 42) dX3_readFactor_41 rfl rfl ?_
        refine r_bipush (v := 93) (q := 44) dX3_readFactor_42 (by decide) rfl ?_
        obtain ⟨y9, e8, h⟩ := mm_let_elim h
        refine r_callV_i (av := [(.inl 93)]) (st := []) (q := 47) (d1 := 1) kc_X3_26 sc_c_1 dX3_readFactor_44 rfl rfl (Nat.le_of_ble_eq_true rfl) (Nat.le_of_ble_eq_true rfl) (by omega) rfl rfl (t_X7_take (d := 1) (by omega) 93 y6.2 _ e8) ?_
        refine r_if_eq 54 (q := 50) dX3_readFactor_47 (by decide) rfl (fun c10 => ?_) (fun c10 => ?_)
        · rw [if_neg (mm_b0 c10)] at h
          refine r_iconst (v := 0) (q := 55) dX3_readFactor_54 (by decide) rfl ?_
          cases h
          exact r_retb dX3_readFactor_55 rfl (Or.inl rfl) mm_Zi_rfl
        · rw [if_pos (mm_b1 c10)] at h
          refine r_iconst (v := 1) (q := 51) dX3_readFactor_50 (by decide) rfl ?_
          refine r_goto 55 dX3_readFactor_51 (by decide) ?_
          cases h
          exact r_retb dX3_readFactor_55 rfl (Or.inr rfl) mm_Zi_rfl
    · rw [if_neg c2] at h
      refine r_aload_n (q := 16) dX3_readFactor_15 rfl rfl ?_
      refine r_iconst (v := 5) (q := 17) dX3_readFactor_16 (by decide) rfl ?_
      refine r_aload_n (q := 18) dX3_readFactor_17 rfl rfl ?_
      refine r_geti (v := (M 1 2)) (q := 21) lk_X3_30 dX3_readFactor_18 sc_c_1 rfl rfl rfl ?_
      obtain ⟨y12, e11, h⟩ := mm_let_elim h
      refine r_callV_i (av := [(.inl 5), (.inl (M 1 2))]) (st := []) (q := 24) (d1 := 0) kc_X3_33 sc_c_1 dX3_readFactor_21 rfl rfl (Nat.le_of_ble_eq_true rfl) (Nat.le_of_ble_eq_true rfl) (by omega) rfl rfl (t_X7_fail (d := 0) (by omega) 5 (M 1 2) M _ e11) ?_
      cases h
      exact r_retb dX3_readFactor_24 rfl (mm_b01 _) mm_Zi_rfl
