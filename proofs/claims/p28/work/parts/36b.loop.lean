set_option maxRecDepth 100000 in
set_option maxHeartbeats 4000000 in
theorem ll_loop {Rl : mm_M → mm_M → Prop} (hRl : ll_RelP Rl) {xL kc ks : Nat} {xs : Nat → Int32} (hL : xL ≤ 384) : ∀ (n i : Nat) (x3 : Int32) (M1 M2 : mm_M), xL < i + n → i ≤ 390 → x3 = nI i → Rl M1 M2 → ll_Go xL xs kc ks 18 [some (.inr 4000), some (.inr 0), some (.inr 1), some (.inl x3)] [] S_c M1 S_m M2 := by
  obtain ⟨E0, E1, E2, E3, E4, E5, E6, E7, E8, E9, E10, E11, E12, E13, E14, E15, E16, E17, E18, E19, E20, E21, E22, E23, E24, E25, E26, E27, E28, E29, E30⟩ := hRl
  intro n
  induction n with
  | zero =>
    intro i x3 M1 M2 hn hi e3 hR
    refine l_iload_n (q := 19) dL_law_18 rfl rfl ?_
    refine l_aload_n (q := 20) dL_law_19 rfl rfl ?_
    refine l_slen (v := Int32.ofNat xL) (q := 21) dL_law_20 rfl rfl ?_
    refine l_bipush (v := 6) (q := 23) dL_law_21 (by decide) rfl ?_
    refine l_isub (q := 24) dL_law_23 rfl ?_
    refine l_icmp_gt 1141 (q := 27) dL_law_24 (by decide) rfl (fun _ => ?_) (fun hc => ?_)
    · refine l_iconst (v := 1) (q := 1142) dL_law_1141 (by decide) rfl ?_
      exact l_ret dL_law_1142
    · exfalso
      apply hc
      rw [Int32.lt_iff_toInt_lt, e3, nI_toInt (by omega)]
      have h1 : (Int32.ofNat xL - 6).toInt = (xL : Int) - 6 := pk_sub_toInt (a := xL) (b := 6) (by omega) (by omega)
      omega
  | succ n ih =>
    intro i x3 M1 M2 hn hi e3 hR
    refine l_iload_n (q := 19) dL_law_18 rfl rfl ?_
    refine l_aload_n (q := 20) dL_law_19 rfl rfl ?_
    refine l_slen (v := Int32.ofNat xL) (q := 21) dL_law_20 rfl rfl ?_
    refine l_bipush (v := 6) (q := 23) dL_law_21 (by decide) rfl ?_
    refine l_isub (q := 24) dL_law_23 rfl ?_
    refine l_icmp_gt 1141 (q := 27) dL_law_24 (by decide) rfl (fun _ => ?_) (fun hc => ?_)
    · refine l_iconst (v := 1) (q := 1142) dL_law_1141 (by decide) rfl ?_
      exact l_ret dL_law_1142
    · have h6i : i + 6 ≤ xL := by
        rw [Int32.lt_iff_toInt_lt, e3, nI_toInt (by omega)] at hc
        have h1 : (Int32.ofNat xL - 6).toInt = (xL : Int) - 6 := pk_sub_toInt (a := xL) (b := 6) (by omega) (by omega)
        omega
      have h6 : ∀ j : Nat, j < 6 → vp_in (x3 + nI j) xL := fun j hj => by rw [e3]; exact ll_in h6i hL hj
      have h0 : vp_in x3 xL := by
        rw [e3]
        exact vp_in_nI (by omega) (by omega)
      have kk : ∀ M1' M2', Rl M1' M2' → ll_Go xL xs kc ks 1135 [some (.inr 4000), some (.inr 0), some (.inr 1), some (.inl x3)] [] S_c M1' S_m M2' := by
        intro M1' M2' hR'
        refine l_iinc (v := 6) (q := 1138) (L' := [some (.inr 4000), some (.inr 0), some (.inr 1), some (.inl (x3 + 6))]) dL_law_1135 (by decide) (by decide) rfl rfl rfl ?_
        refine l_goto 18 dL_law_1138 (by decide) ?_
        exact ih (i + 6) (x3 + 6) M1' M2' (by omega) (by omega) (by rw [e3]; exact nI_add i 6) hR'
      refine l_aload_n (q := 28) dL_law_27 rfl rfl ?_
      refine l_iload_n (q := 29) dL_law_28 rfl rfl ?_
      refine l_sld (v := xs (Int32.toNatClampNeg x3)) (q := 30) dL_law_29 h0 rfl rfl ?_
      refine l_bipush (v := 31) (q := 32) dL_law_30 (by decide) rfl ?_
      refine l_iand (q := 33) dL_law_32 rfl ?_
      generalize (xs (Int32.toNatClampNeg x3) &&& 31) = v
      by_cases c0 : v = 0
      · refine l_tableIn (off := 139) 172 dL_law_33 (by rw [c0]; decide) (by rw [c0]; decide) (by rw [c0]; rfl) (by decide) ?_
        exact ll_case0 E0 hR h6 kk
      by_cases c1 : v = 1
      · refine l_tableIn (off := 162) 195 dL_law_33 (by rw [c1]; decide) (by rw [c1]; decide) (by rw [c1]; rfl) (by decide) ?_
        exact ll_case1 E1 hR h6 kk
      by_cases c2 : v = 2
      · refine l_tableIn (off := 195) 228 dL_law_33 (by rw [c2]; decide) (by rw [c2]; decide) (by rw [c2]; rfl) (by decide) ?_
        exact ll_case2 E2 hR h6 kk
      by_cases c3 : v = 3
      · refine l_tableIn (off := 218) 251 dL_law_33 (by rw [c3]; decide) (by rw [c3]; decide) (by rw [c3]; rfl) (by decide) ?_
        exact ll_case3 E3 hR h6 kk
      by_cases c4 : v = 4
      · refine l_tableIn (off := 281) 314 dL_law_33 (by rw [c4]; decide) (by rw [c4]; decide) (by rw [c4]; rfl) (by decide) ?_
        exact ll_case4 E4 hR h6 kk
      by_cases c5 : v = 5
      · refine l_tableIn (off := 304) 337 dL_law_33 (by rw [c5]; decide) (by rw [c5]; decide) (by rw [c5]; rfl) (by decide) ?_
        exact ll_case5 E5 hR h6 kk
      by_cases c6 : v = 6
      · refine l_tableIn (off := 327) 360 dL_law_33 (by rw [c6]; decide) (by rw [c6]; decide) (by rw [c6]; rfl) (by decide) ?_
        exact ll_case6 E6 hR h6 kk
      by_cases c7 : v = 7
      · refine l_tableIn (off := 350) 383 dL_law_33 (by rw [c7]; decide) (by rw [c7]; decide) (by rw [c7]; rfl) (by decide) ?_
        exact ll_case7 E7 hR h6 kk
      by_cases c8 : v = 8
      · refine l_tableIn (off := 383) 416 dL_law_33 (by rw [c8]; decide) (by rw [c8]; decide) (by rw [c8]; rfl) (by decide) ?_
        exact ll_case8 E8 hR h6 kk
      by_cases c9 : v = 9
      · refine l_tableIn (off := 406) 439 dL_law_33 (by rw [c9]; decide) (by rw [c9]; decide) (by rw [c9]; rfl) (by decide) ?_
        exact ll_case9 E9 hR h6 kk
      by_cases c10 : v = 10
      · refine l_tableIn (off := 439) 472 dL_law_33 (by rw [c10]; decide) (by rw [c10]; decide) (by rw [c10]; rfl) (by decide) ?_
        exact ll_case10 E10 hR h6 kk
      by_cases c11 : v = 11
      · refine l_tableIn (off := 482) 515 dL_law_33 (by rw [c11]; decide) (by rw [c11]; decide) (by rw [c11]; rfl) (by decide) ?_
        exact ll_case11 E11 hR h6 kk
      by_cases c12 : v = 12
      · refine l_tableIn (off := 515) 548 dL_law_33 (by rw [c12]; decide) (by rw [c12]; decide) (by rw [c12]; rfl) (by decide) ?_
        exact ll_case12 E12 hR h6 kk
      by_cases c13 : v = 13
      · refine l_tableIn (off := 548) 581 dL_law_33 (by rw [c13]; decide) (by rw [c13]; decide) (by rw [c13]; rfl) (by decide) ?_
        exact ll_case13 E13 hR h6 kk
      by_cases c14 : v = 14
      · refine l_tableIn (off := 591) 624 dL_law_33 (by rw [c14]; decide) (by rw [c14]; decide) (by rw [c14]; rfl) (by decide) ?_
        exact ll_case14 E14 hR h6 kk
      by_cases c15 : v = 15
      · refine l_tableIn (off := 624) 657 dL_law_33 (by rw [c15]; decide) (by rw [c15]; decide) (by rw [c15]; rfl) (by decide) ?_
        exact ll_case15 E15 hR h6 kk
      by_cases c16 : v = 16
      · refine l_tableIn (off := 657) 690 dL_law_33 (by rw [c16]; decide) (by rw [c16]; decide) (by rw [c16]; rfl) (by decide) ?_
        exact ll_case16 E16 hR h6 kk
      by_cases c17 : v = 17
      · refine l_tableIn (off := 680) 713 dL_law_33 (by rw [c17]; decide) (by rw [c17]; decide) (by rw [c17]; rfl) (by decide) ?_
        exact ll_case17 E17 hR h6 kk
      by_cases c18 : v = 18
      · refine l_tableIn (off := 723) 756 dL_law_33 (by rw [c18]; decide) (by rw [c18]; decide) (by rw [c18]; rfl) (by decide) ?_
        exact ll_case18 E18 hR h6 kk
      by_cases c19 : v = 19
      · refine l_tableIn (off := 746) 779 dL_law_33 (by rw [c19]; decide) (by rw [c19]; decide) (by rw [c19]; rfl) (by decide) ?_
        exact ll_case19 E19 hR h6 kk
      by_cases c20 : v = 20
      · refine l_tableIn (off := 779) 812 dL_law_33 (by rw [c20]; decide) (by rw [c20]; decide) (by rw [c20]; rfl) (by decide) ?_
        exact ll_case20 E20 hR h6 kk
      by_cases c21 : v = 21
      · refine l_tableIn (off := 812) 845 dL_law_33 (by rw [c21]; decide) (by rw [c21]; decide) (by rw [c21]; rfl) (by decide) ?_
        exact ll_case21 E21 hR h6 kk
      by_cases c22 : v = 22
      · refine l_tableIn (off := 845) 878 dL_law_33 (by rw [c22]; decide) (by rw [c22]; decide) (by rw [c22]; rfl) (by decide) ?_
        exact ll_case22 E22 hR h6 kk
      by_cases c23 : v = 23
      · refine l_tableIn (off := 888) 921 dL_law_33 (by rw [c23]; decide) (by rw [c23]; decide) (by rw [c23]; rfl) (by decide) ?_
        exact ll_case23 E23 hR h6 kk
      by_cases c24 : v = 24
      · refine l_tableIn (off := 931) 964 dL_law_33 (by rw [c24]; decide) (by rw [c24]; decide) (by rw [c24]; rfl) (by decide) ?_
        exact ll_case24 E24 hR h6 kk
      by_cases c25 : v = 25
      · refine l_tableIn (off := 974) 1007 dL_law_33 (by rw [c25]; decide) (by rw [c25]; decide) (by rw [c25]; rfl) (by decide) ?_
        exact ll_case25 E25 hR h6 kk
      by_cases c26 : v = 26
      · refine l_tableIn (off := 997) 1030 dL_law_33 (by rw [c26]; decide) (by rw [c26]; decide) (by rw [c26]; rfl) (by decide) ?_
        exact ll_case26 E26 hR h6 kk
      by_cases c27 : v = 27
      · refine l_tableIn (off := 1020) 1053 dL_law_33 (by rw [c27]; decide) (by rw [c27]; decide) (by rw [c27]; rfl) (by decide) ?_
        exact ll_case27 E27 hR h6 kk
      by_cases c28 : v = 28
      · refine l_tableIn (off := 1033) 1066 dL_law_33 (by rw [c28]; decide) (by rw [c28]; decide) (by rw [c28]; rfl) (by decide) ?_
        exact ll_case28 E28 hR h6 kk
      by_cases c29 : v = 29
      · refine l_tableIn (off := 1046) 1079 dL_law_33 (by rw [c29]; decide) (by rw [c29]; decide) (by rw [c29]; rfl) (by decide) ?_
        exact ll_case29 E29 hR h6 kk
      by_cases c30 : v = 30
      · refine l_tableIn (off := 1079) 1112 dL_law_33 (by rw [c30]; decide) (by rw [c30]; decide) (by rw [c30]; rfl) (by decide) ?_
        exact ll_case30 E30 hR h6 kk
      have n0 : v.toInt ≠ 0 := fun e => c0 (Int32.toInt_inj.mp (e.trans (by decide)))
      have n1 : v.toInt ≠ 1 := fun e => c1 (Int32.toInt_inj.mp (e.trans (by decide)))
      have n2 : v.toInt ≠ 2 := fun e => c2 (Int32.toInt_inj.mp (e.trans (by decide)))
      have n3 : v.toInt ≠ 3 := fun e => c3 (Int32.toInt_inj.mp (e.trans (by decide)))
      have n4 : v.toInt ≠ 4 := fun e => c4 (Int32.toInt_inj.mp (e.trans (by decide)))
      have n5 : v.toInt ≠ 5 := fun e => c5 (Int32.toInt_inj.mp (e.trans (by decide)))
      have n6 : v.toInt ≠ 6 := fun e => c6 (Int32.toInt_inj.mp (e.trans (by decide)))
      have n7 : v.toInt ≠ 7 := fun e => c7 (Int32.toInt_inj.mp (e.trans (by decide)))
      have n8 : v.toInt ≠ 8 := fun e => c8 (Int32.toInt_inj.mp (e.trans (by decide)))
      have n9 : v.toInt ≠ 9 := fun e => c9 (Int32.toInt_inj.mp (e.trans (by decide)))
      have n10 : v.toInt ≠ 10 := fun e => c10 (Int32.toInt_inj.mp (e.trans (by decide)))
      have n11 : v.toInt ≠ 11 := fun e => c11 (Int32.toInt_inj.mp (e.trans (by decide)))
      have n12 : v.toInt ≠ 12 := fun e => c12 (Int32.toInt_inj.mp (e.trans (by decide)))
      have n13 : v.toInt ≠ 13 := fun e => c13 (Int32.toInt_inj.mp (e.trans (by decide)))
      have n14 : v.toInt ≠ 14 := fun e => c14 (Int32.toInt_inj.mp (e.trans (by decide)))
      have n15 : v.toInt ≠ 15 := fun e => c15 (Int32.toInt_inj.mp (e.trans (by decide)))
      have n16 : v.toInt ≠ 16 := fun e => c16 (Int32.toInt_inj.mp (e.trans (by decide)))
      have n17 : v.toInt ≠ 17 := fun e => c17 (Int32.toInt_inj.mp (e.trans (by decide)))
      have n18 : v.toInt ≠ 18 := fun e => c18 (Int32.toInt_inj.mp (e.trans (by decide)))
      have n19 : v.toInt ≠ 19 := fun e => c19 (Int32.toInt_inj.mp (e.trans (by decide)))
      have n20 : v.toInt ≠ 20 := fun e => c20 (Int32.toInt_inj.mp (e.trans (by decide)))
      have n21 : v.toInt ≠ 21 := fun e => c21 (Int32.toInt_inj.mp (e.trans (by decide)))
      have n22 : v.toInt ≠ 22 := fun e => c22 (Int32.toInt_inj.mp (e.trans (by decide)))
      have n23 : v.toInt ≠ 23 := fun e => c23 (Int32.toInt_inj.mp (e.trans (by decide)))
      have n24 : v.toInt ≠ 24 := fun e => c24 (Int32.toInt_inj.mp (e.trans (by decide)))
      have n25 : v.toInt ≠ 25 := fun e => c25 (Int32.toInt_inj.mp (e.trans (by decide)))
      have n26 : v.toInt ≠ 26 := fun e => c26 (Int32.toInt_inj.mp (e.trans (by decide)))
      have n27 : v.toInt ≠ 27 := fun e => c27 (Int32.toInt_inj.mp (e.trans (by decide)))
      have n28 : v.toInt ≠ 28 := fun e => c28 (Int32.toInt_inj.mp (e.trans (by decide)))
      have n29 : v.toInt ≠ 29 := fun e => c29 (Int32.toInt_inj.mp (e.trans (by decide)))
      have n30 : v.toInt ≠ 30 := fun e => c30 (Int32.toInt_inj.mp (e.trans (by decide)))
      refine l_tableOut 1135 dL_law_33 (by omega) (by decide) ?_
      exact kk M1 M2 hR
theorem ll_known {b : Nat} {s : State} (h : ∀ w ∈ lw_tbl, w.before #[Value.ref b] s = true) : ∃ (dC : Nat → ClassId) (dI : Nat → Nat → Nat), ∀ (k : Nat) (q : vw_C), vwCl[k]? = some q → u_Kn s q.1 q.2.1 q.2.2 (dC k) (dI k) := by
  obtain ⟨c0, s0, h0⟩ := u_known (C := RX1) (T := TX1) (N := 3) (n := 3) h (fun w hw => (List.mem_filter.mp (uw_0 w hw)).1) (h (.instantiable RX1 3) (List.mem_filter.mp wt_X1).1)
  obtain ⟨c1, s1, h1⟩ := u_known (C := RX2) (T := TX2) (N := 10) (n := 10) h (fun w hw => (List.mem_filter.mp (uw_1 w hw)).1) (h (.instantiable RX2 10) (List.mem_filter.mp wt_X2).1)
  obtain ⟨c2, s2, h2⟩ := u_known (C := RX4) (T := TX4) (N := 2) (n := 2) h (fun w hw => (List.mem_filter.mp (uw_2 w hw)).1) (h (.instantiable RX4 2) (List.mem_filter.mp wt_X4).1)
  obtain ⟨c3, s3, h3⟩ := u_known (C := RX5) (T := TX5) (N := 8) (n := 8) h (fun w hw => (List.mem_filter.mp (uw_3 w hw)).1) (h (.instantiable RX5 8) (List.mem_filter.mp wt_X5).1)
  obtain ⟨c4, s4, h4⟩ := u_known (C := RX6) (T := TX6) (N := 8) (n := 8) h (fun w hw => (List.mem_filter.mp (uw_4 w hw)).1) (h (.instantiable RX6 8) (List.mem_filter.mp wt_X6).1)
  obtain ⟨c5, s5, h5⟩ := u_known (C := RX7) (T := TX7) (N := 6) (n := 6) h (fun w hw => (List.mem_filter.mp (uw_5 w hw)).1) (h (.instantiable RX7 6) (List.mem_filter.mp wt_X7).1)
  obtain ⟨c6, s6, h6⟩ := u_known (C := RX8) (T := TX8) (N := 3) (n := 3) h (fun w hw => (List.mem_filter.mp (uw_6 w hw)).1) (h (.instantiable RX8 3) (List.mem_filter.mp wt_X8).1)
  obtain ⟨c7, s7, h7⟩ := u_known (C := RX10) (T := TX10) (N := 4) (n := 4) h (fun w hw => (List.mem_filter.mp (uw_7 w hw)).1) (h (.instantiable RX10 4) (List.mem_filter.mp wt_X10).1)
  obtain ⟨c8, s8, h8⟩ := u_known (C := RX11) (T := TX11) (N := 14) (n := 14) h (fun w hw => (List.mem_filter.mp (uw_8 w hw)).1) (h (.instantiable RX11 14) (List.mem_filter.mp wt_X11).1)
  obtain ⟨c9, s9, h9⟩ := u_known (C := RX12) (T := TX12) (N := 61) (n := 61) h (fun w hw => (List.mem_filter.mp (uw_9 w hw)).1) (h (.instantiable RX12 61) (List.mem_filter.mp wt_X12).1)
  refine ⟨fun k => if k = 0 then c0 else if k = 1 then c1 else if k = 2 then c2 else if k = 3 then c3 else if k = 4 then c4 else if k = 5 then c5 else if k = 6 then c6 else if k = 7 then c7 else if k = 8 then c8 else c9, fun k => if k = 0 then s0 else if k = 1 then s1 else if k = 2 then s2 else if k = 3 then s3 else if k = 4 then s4 else if k = 5 then s5 else if k = 6 then s6 else if k = 7 then s7 else if k = 8 then s8 else s9, ?_⟩
  intro k q hq
  match k, hq with
  | 0, hq => cases hq; exact h0
  | 1, hq => cases hq; exact h1
  | 2, hq => cases hq; exact h2
  | 3, hq => cases hq; exact h3
  | 4, hq => cases hq; exact h4
  | 5, hq => cases hq; exact h5
  | 6, hq => cases hq; exact h6
  | 7, hq => cases hq; exact h7
  | 8, hq => cases hq; exact h8
  | 9, hq => cases hq; exact h9
  | k + 10, hq => simp [vwCl] at hq
theorem ll_arrI {b : Nat} {s : State} (h : ∀ w ∈ lw_tbl, w.before #[Value.ref b] s = true) (hm : Cond.arrayClass .int ∈ lw_tbl) : ∃ cA : ClassId, ArrOfT s cA .int ∧ va_RA s cA .int := by
  obtain ⟨cA, kA, comp, h1, h2, h3⟩ := Cond.arrayClass_spec (h _ hm)
  exact ⟨cA, fun n z => ⟨fun k h => (by cases h), kA, h2, comp, h3⟩, h1⟩
theorem ll_arrB {b : Nat} {s : State} (h : ∀ w ∈ lw_tbl, w.before #[Value.ref b] s = true) (hm : Cond.arrayClass .byte ∈ lw_tbl) : ∃ cA : ClassId, ArrOfT s cA .byte ∧ va_RA s cA .byte := by
  obtain ⟨cA, kA, comp, h1, h2, h3⟩ := Cond.arrayClass_spec (h _ hm)
  exact ⟨cA, fun n z => ⟨fun k h => (by cases h), kA, h2, comp, h3⟩, h1⟩
set_option maxRecDepth 100000 in
set_option maxHeartbeats 4000000 in
/-- the law from its entry, over any such relation that holds at the start -/
theorem whole_open {Rl : mm_M → mm_M → Prop} (hRl : ll_RelP Rl) (hR0 : Rl (cm_14 (fun _ _ => 0)) (cm_15 (fun _ _ => 0))) {p : Program} {e : Env} {s : State} {m : MethodId} {below : List Frame} {meth : Method} {c : Code} (l : Launch) {b L : Nat} {xs : Nat → Int32} (hL : L ≤ 384) (C0 : lw_At p s m meth c b L xs) : W p l e room_1 s m #[Value.ref b] below meth c s.heap [] 0 0 (lw_Z below #[Value.ref b] s) (entryFrame m ([Value.ref b] : List Value).toArray 4) := by
  obtain ⟨hx, hb, hr, hml, hown, hts, hX, hbl, hlocks, hgv⟩ := id C0
  have go : ll_Go L xs 600000 7302250 0 [some (.inr 4000), none, none, none] [] [] (fun _ _ => 0) [] (fun _ _ => 0) := by
    refine l_new1 (ci := 8) (fs := [some none, some none, some none, some none, some none, none, some none, some none, some none, some none, some none, some none, some none, some none]) (kc' := 599999) (ks' := 7302236) (q := 3) tyX11 rfl uw_8 tyX11_ok wn_L_7 wt_X11 wj_X11 dL_law_0 rfl (by decide +kernel) rfl rfl rfl rfl ?_
    refine l_dup (q := 4) dL_law_3 rfl ?_
    refine l_ctor1 (kc' := 599957) (ks' := 7296968) (q := 7) (d1 := 2) kg_L_9 kn_L_9 rfl rfl (by decide) dL_law_4 rfl (by decide) (Nat.le_of_ble_eq_true rfl) (by decide) (by decide) (by decide) rfl (ct_c (d := 2) (Nat.le_refl _) _) ?_
    refine l_astore_n (q := 8) (L' := [some (.inr 4000), some (.inr 0), none, none]) dL_law_7 rfl rfl ?_
    refine l_new2 (ci := 9) (fs := [some none, some none, some none, some none, some none, some none, none, some none, none, none, none, none, none, none, none, none, none, none, some none, some none, some none, some none, some none, some none, some none, some none, some none, some none, some none, some none, some none, some none, some none, none, none, none, none, some none, some none, some none, some none, none, none, none, none, none, none, none, none, some none, some none, some none, some none, some none, some none, some none, some none, none, some none, some none, none]) (kc' := 599956) (ks' := 7296907) (q := 11) tyX12 rfl uw_9 tyX12_ok wn_L_10 wt_X12 wj_X12 dL_law_8 rfl (by decide +kernel) rfl rfl rfl rfl ?_
    refine l_dup (q := 12) dL_law_11 rfl ?_
    refine l_ctor2 (kc' := 599920) (ks' := 7289652) (q := 15) (d1 := 1) kg_L_12 kn_L_12 rfl rfl (by decide) dL_law_12 rfl (by decide) (Nat.le_of_ble_eq_true rfl) (by decide) (by decide) (by decide) rfl (ct_m (d := 1) (Nat.le_refl _) _) ?_
    refine l_astore_n (q := 16) (L' := [some (.inr 4000), some (.inr 0), some (.inr 1), none]) dL_law_15 rfl rfl ?_
    refine l_iconst (v := 0) (q := 17) dL_law_16 (by decide) rfl ?_
    refine l_istore_n (q := 18) (L' := [some (.inr 4000), some (.inr 0), some (.inr 1), some (.inl 0)]) dL_law_17 rfl rfl ?_
    exact ll_loop hRl hL (L + 1) 0 0 _ _ (by omega) (by omega) nI_0.symm hR0
  obtain ⟨dC, dI, hKc⟩ : ∃ (dC : Nat → ClassId) (dI : Nat → Nat → Nat), ∀ (k : Nat) (q : vw_C), vwCl[k]? = some q → u_Kn s q.1 q.2.1 q.2.2 (dC k) (dI k) := ll_known hts
  obtain ⟨cI, hI⟩ := ll_arrI hts (List.mem_filter.mp wa_0).1
  obtain ⟨cB, hB⟩ := ll_arrB hts (List.mem_filter.mp wa_1).1
  have hK : va_K (dC, dI) vwCl (mm_tys (fun k => if k = 0 then cI else cB)) s := by
    refine ⟨hKc, fun k q h => ?_⟩
    match k, h with
    | 0, h => cases h; exact hI
    | 1, h => cases h; exact hB
    | k + 2, h => simp [mm_tys] at h
  have hl := lv_entry ([.ref b]) (n := 4) (Nat.le_of_ble_eq_true rfl)
  rw [lg_entry_eq]
  refine go l (dC, dI) (fun k => if k = 0 then cI else cB) b (fun _ => b) (fun _ => b) (fun _ => b) p e s m below meth c s.heap [] 0 0 _ C0 hK (by omega) (by omega) ⟨⟨rfl, fun h => absurd rfl h, fun h => absurd rfl h⟩, fun k q h => by simp [mm_Ws] at h, ⟨fun i j p q h => by simp [mm_Ws] at h, fun k q h => by simp [mm_Ws] at h⟩, va_S.rf⟩ ?_
  refine mm_has_mono hl ?_
  rintro ⟨i, x⟩ hq
  obtain ⟨v, hv, rfl⟩ := mm_Ls_mem.mp hq
  match i, hv with
  | 0, hv => cases hv; exact List.mem_cons_self
  | 1, hv => cases hv
  | 2, hv => cases hv
  | 3, hv => cases hv
  | i + 4, hv => simp at hv
