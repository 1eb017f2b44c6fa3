/-! String.indexOf(I) of the text of the letters: the JDK's own methods, each a reader -/
theorem jx_S {s : State} : va_S (fun _ => False) s.heap s.heap [] := va_S.rf
theorem jx_blind {av : List Value} {K V : Nat} : FrameBlind (va_Pc av (fun U => jx_F K V (fun _ => False) U U.heap)) := by
  intro a U g mk q
  obtain ⟨q0, q1⟩ := q
  exact ⟨q0, jx_F.moved (u := U) (Vm.Alike.refl U.vm) q1⟩
theorem jx_pre {s : State} {av : List Value} {K V : Nat} (hF : jx_F K V (fun _ => False) s s.heap) : PreS s s.heap (va_Pc av (fun U => jx_F K V (fun _ => False) U U.heap)) av :=
  ⟨jx_blind, fun U hU hW => ⟨rfl, by show jx_F K V (fun _ => False) U U.heap; rw [hU]; exact jx_F.moved hW.alike hF⟩⟩
theorem jx_recv {s : State} {K V : Nat} (hF : jx_F K V (fun _ => False) s s.heap) : ∃ cell : Cell, s.heap[K]? = some cell ∧ cell.vm.isStatics = false ∧ s.vm.findClass RJ0 = some cell.cls := by
  obtain ⟨cell, h1, h2, h3, -⟩ := hF.1
  exact ⟨cell, h1, h2, h3⟩
set_option maxHeartbeats 4000000 in
set_option maxRecDepth 100000 in
theorem jc_canEncode (l : Launch) (K V : Nat) (x : Int32) : Met l yJ1_canEncode_9a6ad (.code yJ1_canEncode_9a6ad cJ1_canEncode_9a6ad 1 (some .boolean) :: mm_T) (mm_room 0 0 0) (va_Pc [.int x] (fun U => jx_F K V (fun _ => False) U U.heap)) (QcRead (if x < 0 then 0 else if 255 < x then 0 else 1)) 0 0 (fun _ => False) := by
  refine Met.ofW (cc := cJ1_canEncode_9a6ad) (maxL := 1) (ret := some .boolean) (by decide) rfl ?_
  intro p e s m args below meth c s₁ B hml hv
  obtain ⟨rfl, hF⟩ := hv
  have hx := B.exec
  have hb := B.bytes
  have hr := B.returns
  have hlocks := B.notSynchronized
  have hl := lv_entry ([.int x]) (n := 1) (Nat.le_of_ble_eq_true rfl)
  rw [lg_entry_eq]
  generalize (lg_sl ([.int x]) ++ List.replicate (1 - (lg_sl ([.int x])).length) Slot.unset).toArray = ls at hl ⊢
  have hl : lv_has ls 1 [(0, .int x)] := hl
  refine lv_iload_n hx hb dJ1_canEncode_9a6ad_0 rfl (lv_at hl 0 rfl) ?_
  refine lv_if_lt (tgt := 15) hx hb dJ1_canEncode_9a6ad_1 (by decide) (fun h => ?_) (fun h => ?_)
  · rw [if_pos h]
    refine lv_iconst (v := 0) hx hb dJ1_canEncode_9a6ad_15 (by decide) ?_
    exact W.zret (ty := .boolean) hx hb hr rfl (fun t ht _ => ⟨rfl, ht⟩) (fun q h => by cases h) dJ1_canEncode_9a6ad_16
  · rw [if_neg h]
    refine lv_iload_n hx hb dJ1_canEncode_9a6ad_4 rfl (lv_at hl 0 rfl) ?_
    refine lv_sipush (v := 255) hx hb dJ1_canEncode_9a6ad_5 (by decide) ?_
    refine lv_icmp_gt (tgt := 15) hx hb dJ1_canEncode_9a6ad_8 (by decide) (fun h => ?_) (fun h => ?_)
    · rw [if_pos h]
      refine lv_iconst (v := 0) hx hb dJ1_canEncode_9a6ad_15 (by decide) ?_
      exact W.zret (ty := .boolean) hx hb hr rfl (fun t ht _ => ⟨rfl, ht⟩) (fun q h => by cases h) dJ1_canEncode_9a6ad_16
    · rw [if_neg h]
      refine lv_iconst (v := 1) hx hb dJ1_canEncode_9a6ad_11 (by decide) ?_
      refine lv_goto (tgt := 16) hx hb dJ1_canEncode_9a6ad_12 (by decide) ?_
      exact W.zret (ty := .boolean) hx hb hr rfl (fun t ht _ => ⟨rfl, ht⟩) (fun q h => by cases h) dJ1_canEncode_9a6ad_16
/-- the place of a byte, from k on -/
def jx_lp (b : Int32) : Nat → Nat → Int32
  | 0, _ => -1
  | n + 1, k => if jx_B.getD k 0 = b then nI k else jx_lp b n (k + 1)
set_option maxHeartbeats 4000000 in
set_option maxRecDepth 100000 in
theorem jc_indexOfChar (l : Launch) (K V : Nat) (x : Int32) : Met l yJ1_indexOfChar_4cfef (.code yJ1_indexOfChar_4cfef cJ1_indexOfChar_4cfef 6 (some .int) :: mm_T) (mm_room 0 0 0) (va_Pc [.ref V, .int x, .int 0, .int 9] (fun U => jx_F K V (fun _ => False) U U.heap)) (QcRead (jx_lp x.toInt8.toInt32 9 0)) 0 0 (fun _ => False) := by
  refine Met.ofW (cc := cJ1_indexOfChar_4cfef) (maxL := 6) (ret := some .int) (by decide) rfl ?_
  intro p e s m args below meth c s₁ B hml hv
  obtain ⟨rfl, hF⟩ := hv
  have hx := B.exec
  have hb := B.bytes
  have hr := B.returns
  have hlocks := B.notSynchronized
  have hl := lv_entry ([.ref V, .int x, .int 0, .int 9]) (n := 6) (Nat.le_of_ble_eq_true rfl)
  rw [lg_entry_eq]
  generalize (lg_sl ([.ref V, .int x, .int 0, .int 9]) ++ List.replicate (6 - (lg_sl ([.ref V, .int x, .int 0, .int 9])).length) Slot.unset).toArray = ls at hl ⊢
  have hl : lv_has ls 6 [(0, .ref V), (1, .int x), (2, .int 0), (3, .int 9)] := hl
  refine lv_iload_n hx hb dJ1_indexOfChar_4cfef_0 rfl (lv_at hl 1 rfl) ?_
  refine lv_i2b hx hb dJ1_indexOfChar_4cfef_1 rfl ?_
  generalize x.toInt8.toInt32 = b
  refine lv_istore (lv' := [(4, .int b), (0, .ref V), (1, .int x), (2, .int 0), (3, .int 9)]) hx hb dJ1_indexOfChar_4cfef_2 hl (by decide) rfl (fun ls hl => ?_)
  refine lv_iload_n hx hb dJ1_indexOfChar_4cfef_4 rfl (lv_at hl 3 rfl) ?_
  refine lv_istore (lv' := [(5, .int (nI 0)), (4, .int b), (0, .ref V), (1, .int x), (2, .int 0), (3, .int 9)]) hx hb dJ1_indexOfChar_4cfef_5 hl (by decide) (by rw [nI_0]; rfl) (fun ls hl => ?_)
  have key : ∀ (n k : Nat), k + n = 9 → ∀ (ls : Array Slot), lv_has ls 6 [(5, .int (nI k)), (4, .int b), (0, .ref V), (1, .int x), (2, .int 0), (3, .int 9)] → W p l e (headSpec (Cond.code yJ1_indexOfChar_4cfef cJ1_indexOfChar_4cfef 6 (some FieldType.int) :: mm_T) (mm_room 0 0 0)).room s m #[Value.ref V, Value.int x, Value.int 0, Value.int 9] below meth c s.heap [] 0 0 (MQ below (QcRead (jx_lp b n k)) #[Value.ref V, Value.int x, Value.int 0, Value.int 9] s 0 0 (fun _ => False)) (F0 m 7 ls []) := by
    intro n
    induction n with
    | zero =>
      intro k hk ls hl
      have : k = 9 := by omega
      subst this
      refine lv_iload hx hb dJ1_indexOfChar_4cfef_7 (lv_at hl 0 rfl) ?_
      refine lv_iload_n hx hb dJ1_indexOfChar_4cfef_9 rfl (lv_at hl 5 rfl) ?_
      refine lv_icmp_ge (tgt := 31) hx hb dJ1_indexOfChar_4cfef_10 (by decide) (fun h => ?_) (fun h => absurd (show (9 : Int32) ≤ nI 9 by decide) h)
      refine lv_iconst (v := -1) hx hb dJ1_indexOfChar_4cfef_31 (by decide) ?_
      exact W.iret hx hb hr (fun t ht _ => ⟨rfl, ht⟩) (fun q h => by cases h) dJ1_indexOfChar_4cfef_32
    | succ n ih =>
      intro k hk ls hl
      refine lv_iload hx hb dJ1_indexOfChar_4cfef_7 (lv_at hl 0 rfl) ?_
      refine lv_iload_n hx hb dJ1_indexOfChar_4cfef_9 rfl (lv_at hl 5 rfl) ?_
      refine lv_icmp_ge (tgt := 31) hx hb dJ1_indexOfChar_4cfef_10 (by decide) (fun h => ?_) (fun h => ?_)
      · exfalso
        have h2 := Int32.le_iff_toInt_le.mp h
        rw [nI_toInt (by omega)] at h2
        have : (9 : Int32).toInt = 9 := rfl
        omega
      · refine lv_aload_n hx hb dJ1_indexOfChar_4cfef_13 rfl (lv_at hl 2 rfl) ?_
        refine lv_iload hx hb dJ1_indexOfChar_4cfef_14 (lv_at hl 0 rfl) ?_
        refine va_tb (v := .int (jx_B.getD k 0)) hx hb hF.2.2.2.1 jx_S (vp_in_nI (by omega) (by omega)) (by rw [nI_clamp (by omega)]) dJ1_indexOfChar_4cfef_16 ?_
        refine lv_iload hx hb dJ1_indexOfChar_4cfef_17 (lv_at hl 1 rfl) ?_
        refine lv_icmp_ne (tgt := 25) hx hb dJ1_indexOfChar_4cfef_19 (by decide) (fun h => ?_) (fun h => ?_)
        · rw [jx_lp, if_neg h]
          refine lv_iinc (k := 0) (v := nI (k + 1)) (lv' := [(5, .int (nI (k + 1))), (4, .int b), (0, .ref V), (1, .int x), (2, .int 0), (3, .int 9)]) hx hb dJ1_indexOfChar_4cfef_25 hl rfl (nI_1 k) (by decide) rfl (fun ls hl => ?_)
          refine lv_goto (tgt := 7) hx hb dJ1_indexOfChar_4cfef_28 (by decide) ?_
          exact ih (k + 1) (by omega) ls hl
        · rw [jx_lp, if_pos h]
          refine lv_iload hx hb dJ1_indexOfChar_4cfef_22 (lv_at hl 0 rfl) ?_
          exact W.iret hx hb hr (fun t ht _ => ⟨rfl, ht⟩) (fun q h => by cases h) dJ1_indexOfChar_4cfef_24
  exact key 9 0 rfl ls hl
/-- the answer -/
def jx_ans (x : Int32) : Int32 := if x < 0 then -1 else if 255 < x then -1 else jx_lp x.toInt8.toInt32 9 0
set_option maxHeartbeats 4000000 in
set_option maxRecDepth 100000 in
theorem jc_latin (l : Launch) (K V : Nat) (x : Int32) : Met l yJ1_indexOf_4cfef (.code yJ1_indexOf_4cfef cJ1_indexOf_4cfef 4 (some .int) :: mm_T) (mm_room 1 0 0) (va_Pc [.ref V, .int x, .int 0, .int 9] (fun U => jx_F K V (fun _ => False) U U.heap)) (QcRead (jx_ans x)) 0 0 (fun _ => False) := by
  refine Met.ofW (cc := cJ1_indexOf_4cfef) (maxL := 4) (ret := some .int) (by decide) rfl ?_
  intro p e s m args below meth c s₁ B hml hv
  obtain ⟨rfl, hF⟩ := hv
  have hx := B.exec
  have hb := B.bytes
  have hr := B.returns
  have hts0 := atoms_spec (ws := Cond.code yJ1_indexOf_4cfef cJ1_indexOf_4cfef 4 (some .int) :: mm_T) B.pre
  have hts := fun w hw => hts0 w (List.mem_cons_of_mem _ hw)
  have hown : s.vm.findClass RJ1 = some m.cls := findClass_of_methodNamed B.named
  have hlocks := B.notSynchronized
  have hl := lv_entry ([.ref V, .int x, .int 0, .int 9]) (n := 4) (Nat.le_of_ble_eq_true rfl)
  rw [lg_entry_eq]
  generalize (lg_sl ([.ref V, .int x, .int 0, .int 9]) ++ List.replicate (4 - (lg_sl ([.ref V, .int x, .int 0, .int 9])).length) Slot.unset).toArray = ls at hl ⊢
  have hl : lv_has ls 4 [(0, .ref V), (1, .int x), (2, .int 0), (3, .int 9)] := hl
  refine lv_iload_n hx hb dJ1_indexOf_4cfef_0 rfl (lv_at hl 1 rfl) ?_
  refine W.callR (W.runS (nL := 4) ⟨hx, hb, hml, hown, hts⟩ (jc_canEncode l K V x) ⟨callB_of 1 hts (mm_good jw_c_J1_canEncode_9a6ad) rfl rfl rfl (hts _ jw_n_1) (hts _ jw_l_RJ1_88) (by decide +kernel) ⟨by decide, by decide⟩, hts _ jw_s_J1_canEncode_9a6ad⟩ (jx_pre hF) rfl rfl hl.1 rfl (lv_room (by decide)) dJ1_indexOf_4cfef_1 ⟨Nat.le_refl _, Nat.le_refl _⟩) ?_
  refine W.eq (g2 := F0 m 4 ls [.int (if x < 0 then 0 else if 255 < x then 0 else 1)]) rfl ?_
  refine lv_if_ne (tgt := 9) hx hb dJ1_indexOf_4cfef_4 (by decide) (fun h => ?_) (fun h => ?_)
  · have e : jx_ans x = jx_lp x.toInt8.toInt32 9 0 := by
      unfold jx_ans
      by_cases c1 : x < 0
      · rw [if_pos c1] at h
        exact absurd rfl h
      · rw [if_neg c1] at h ⊢
        by_cases c2 : 255 < x
        · rw [if_pos c2] at h
          exact absurd rfl h
        · rw [if_neg c2]
    rw [e]
    refine lv_iload_n hx hb dJ1_indexOf_4cfef_9 rfl (lv_at hl 2 rfl) ?_
    refine lv_iconst (v := 0) hx hb dJ1_indexOf_4cfef_10 (by decide) ?_
    refine va_mmax hx hb (hml.trans hl.1.symm) hown (hts _ jw_m_92.1) (hts _ jw_m_92.2.1) (hts _ jw_m_92.2.2.1) (hts _ jw_m_92.2.2.2) (by decide) (by decide) (Nat.le_refl _) (Nat.le_refl _) dJ1_indexOf_4cfef_11 ?_
    refine lv_istore_n (lv' := [(2, .int 0), (0, .ref V), (1, .int x), (3, .int 9)]) hx hb dJ1_indexOf_4cfef_14 rfl hl (by decide) rfl (fun ls hl => ?_)
    refine lv_iload_n hx hb dJ1_indexOf_4cfef_15 rfl (lv_at hl 3 rfl) ?_
    refine lv_aload_n hx hb dJ1_indexOf_4cfef_16 rfl (lv_at hl 1 rfl) ?_
    refine va_tlen (v := 9) hx hb hF.2.2.2.1 jx_S (by decide) dJ1_indexOf_4cfef_17 ?_
    refine va_mmin hx hb (hml.trans hl.1.symm) hown (hts _ jw_m_38.1) (hts _ jw_m_38.2.1) (hts _ jw_m_38.2.2.1) (hts _ jw_m_38.2.2.2) (by decide) (by decide) (Nat.le_refl _) (Nat.le_refl _) dJ1_indexOf_4cfef_18 ?_
    refine lv_istore_n (lv' := [(3, .int 9), (2, .int 0), (0, .ref V), (1, .int x)]) hx hb dJ1_indexOf_4cfef_21 rfl hl (by decide) rfl (fun ls hl => ?_)
    refine lv_iload_n hx hb dJ1_indexOf_4cfef_22 rfl (lv_at hl 1 rfl) ?_
    refine lv_iload_n hx hb dJ1_indexOf_4cfef_23 rfl (lv_at hl 0 rfl) ?_
    refine lv_icmp_lt (tgt := 29) hx hb dJ1_indexOf_4cfef_24 (by decide) (fun _ => ?_) (fun h => absurd (show (0 : Int32) < 9 by decide) h)
    refine lv_aload_n hx hb dJ1_indexOf_4cfef_29 rfl (lv_at hl 2 rfl) ?_
    refine lv_iload_n hx hb dJ1_indexOf_4cfef_30 rfl (lv_at hl 3 rfl) ?_
    refine lv_iload_n hx hb dJ1_indexOf_4cfef_31 rfl (lv_at hl 1 rfl) ?_
    refine lv_iload_n hx hb dJ1_indexOf_4cfef_32 rfl (lv_at hl 0 rfl) ?_
    refine W.callR (W.runS (nL := 4) (As := [.ref V, .int x, .int 0, .int 9]) ⟨hx, hb, hml, hown, hts⟩ (jc_indexOfChar l K V x) ⟨callB_of 4 hts (mm_good jw_c_J1_indexOfChar_4cfef) rfl rfl rfl (hts _ jw_n_1) (hts _ jw_l_RJ1_95) (by decide +kernel) ⟨by decide, by decide⟩, hts _ jw_s_J1_indexOfChar_4cfef⟩ (jx_pre hF) rfl rfl hl.1 rfl (lv_room (by decide)) dJ1_indexOf_4cfef_33 ⟨Nat.le_refl _, Nat.le_refl _⟩) ?_
    refine W.eq (g2 := F0 m 36 ls [.int (jx_lp x.toInt8.toInt32 9 0)]) rfl ?_
    exact W.iret hx hb hr (fun t ht _ => ⟨rfl, ht⟩) (fun q h => by cases h) dJ1_indexOf_4cfef_36
  · have e : jx_ans x = -1 := by
      unfold jx_ans
      by_cases c1 : x < 0
      · rw [if_pos c1]
      · rw [if_neg c1] at h ⊢
        by_cases c2 : 255 < x
        · rw [if_pos c2]
        · rw [if_neg c2] at h
          exact absurd h (by decide)
    rw [e]
    refine lv_iconst (v := -1) hx hb dJ1_indexOf_4cfef_7 (by decide) ?_
    exact W.iret hx hb hr (fun t ht _ => ⟨rfl, ht⟩) (fun q h => by cases h) dJ1_indexOf_4cfef_8
set_option maxHeartbeats 4000000 in
set_option maxRecDepth 100000 in
theorem jc_isLatin1 (l : Launch) (K V : Nat) : Met l yJ0_isLatin1_aae02 (.code yJ0_isLatin1_aae02 cJ0_isLatin1_aae02 1 (some .boolean) :: mm_T) (mm_room 0 0 0) (va_Pc [.ref K] (fun U => jx_F K V (fun _ => False) U U.heap)) (QcRead 1) 0 0 (fun _ => False) := by
  refine Met.ofW (cc := cJ0_isLatin1_aae02) (maxL := 1) (ret := some .boolean) (by decide) rfl ?_
  intro p e s m args below meth c s₁ B hml hv
  obtain ⟨rfl, hF⟩ := hv
  have hx := B.exec
  have hb := B.bytes
  have hr := B.returns
  have hts0 := atoms_spec (ws := Cond.code yJ0_isLatin1_aae02 cJ0_isLatin1_aae02 1 (some .boolean) :: mm_T) B.pre
  have hts := fun w hw => hts0 w (List.mem_cons_of_mem _ hw)
  have hown : s.vm.findClass RJ0 = some m.cls := findClass_of_methodNamed B.named
  have hlocks := B.notSynchronized
  have hl := lv_entry ([.ref K]) (n := 1) (Nat.le_of_ble_eq_true rfl)
  rw [lg_entry_eq]
  generalize (lg_sl ([.ref K]) ++ List.replicate (1 - (lg_sl ([.ref K])).length) Slot.unset).toArray = ls at hl ⊢
  have hl : lv_has ls 1 [(0, .ref K)] := hl
  refine va_gets hx hb hF.2.2.2.2 jx_S hown (hts _ jw_f_38) (fun _ h => h) dJ0_isLatin1_aae02_0 ?_
  refine lv_if_eq (tgt := 17) hx hb dJ0_isLatin1_aae02_3 (by decide) (fun h => absurd h (by decide)) (fun _ => ?_)
  refine lv_aload_n hx hb dJ0_isLatin1_aae02_6 rfl (lv_at hl 0 rfl) ?_
  refine vk_getf hx hb hF.2.1 jx_S hown (hts _ jw_f_15) (fun _ h => h) dJ0_isLatin1_aae02_7 ?_
  refine lv_if_ne (tgt := 17) hx hb dJ0_isLatin1_aae02_10 (by decide) (fun h => absurd rfl h) (fun _ => ?_)
  refine lv_iconst (v := 1) hx hb dJ0_isLatin1_aae02_13 (by decide) ?_
  refine lv_goto (tgt := 18) hx hb dJ0_isLatin1_aae02_14 (by decide) ?_
  exact W.zret (ty := .boolean) hx hb hr rfl (fun t ht _ => ⟨rfl, ht⟩) (fun q h => by cases h) dJ0_isLatin1_aae02_18
set_option maxHeartbeats 4000000 in
set_option maxRecDepth 100000 in
theorem jc_coder (l : Launch) (K V : Nat) : Met l yJ0_coder_7d493 (.code yJ0_coder_7d493 cJ0_coder_7d493 1 (some .byte) :: mm_T) (mm_room 0 0 0) (va_Pc [.ref K] (fun U => jx_F K V (fun _ => False) U U.heap)) (QcRead 0) 0 0 (fun _ => False) := by
  refine Met.ofW (cc := cJ0_coder_7d493) (maxL := 1) (ret := some .byte) (by decide) rfl ?_
  intro p e s m args below meth c s₁ B hml hv
  obtain ⟨rfl, hF⟩ := hv
  have hx := B.exec
  have hb := B.bytes
  have hr := B.returns
  have hts0 := atoms_spec (ws := Cond.code yJ0_coder_7d493 cJ0_coder_7d493 1 (some .byte) :: mm_T) B.pre
  have hts := fun w hw => hts0 w (List.mem_cons_of_mem _ hw)
  have hown : s.vm.findClass RJ0 = some m.cls := findClass_of_methodNamed B.named
  have hlocks := B.notSynchronized
  have hl := lv_entry ([.ref K]) (n := 1) (Nat.le_of_ble_eq_true rfl)
  rw [lg_entry_eq]
  generalize (lg_sl ([.ref K]) ++ List.replicate (1 - (lg_sl ([.ref K])).length) Slot.unset).toArray = ls at hl ⊢
  have hl : lv_has ls 1 [(0, .ref K)] := hl
  refine va_gets hx hb hF.2.2.2.2 jx_S hown (hts _ jw_f_38) (fun _ h => h) dJ0_coder_7d493_0 ?_
  refine lv_if_eq (tgt := 13) hx hb dJ0_coder_7d493_3 (by decide) (fun h => absurd h (by decide)) (fun _ => ?_)
  refine lv_aload_n hx hb dJ0_coder_7d493_6 rfl (lv_at hl 0 rfl) ?_
  refine vk_getf hx hb hF.2.1 jx_S hown (hts _ jw_f_15) (fun _ h => h) dJ0_coder_7d493_7 ?_
  refine lv_goto (tgt := 14) hx hb dJ0_coder_7d493_10 (by decide) ?_
  exact W.zret (ty := .byte) hx hb hr rfl (fun t ht _ => ⟨rfl, ht⟩) (fun q h => by cases h) dJ0_coder_7d493_14
set_option maxHeartbeats 4000000 in
set_option maxRecDepth 100000 in
theorem jc_length (l : Launch) (K V : Nat) : Met l yJ0_length_8abf5 (.code yJ0_length_8abf5 cJ0_length_8abf5 1 (some .int) :: mm_T) (mm_room 1 0 0) (va_Pc [.ref K] (fun U => jx_F K V (fun _ => False) U U.heap)) (QcRead 9) 0 0 (fun _ => False) := by
  refine Met.ofW (cc := cJ0_length_8abf5) (maxL := 1) (ret := some .int) (by decide) rfl ?_
  intro p e s m args below meth c s₁ B hml hv
  obtain ⟨rfl, hF⟩ := hv
  have hx := B.exec
  have hb := B.bytes
  have hr := B.returns
  have hts0 := atoms_spec (ws := Cond.code yJ0_length_8abf5 cJ0_length_8abf5 1 (some .int) :: mm_T) B.pre
  have hts := fun w hw => hts0 w (List.mem_cons_of_mem _ hw)
  have hown : s.vm.findClass RJ0 = some m.cls := findClass_of_methodNamed B.named
  have hlocks := B.notSynchronized
  have hl := lv_entry ([.ref K]) (n := 1) (Nat.le_of_ble_eq_true rfl)
  rw [lg_entry_eq]
  generalize (lg_sl ([.ref K]) ++ List.replicate (1 - (lg_sl ([.ref K])).length) Slot.unset).toArray = ls at hl ⊢
  have hl : lv_has ls 1 [(0, .ref K)] := hl
  refine lv_aload_n hx hb dJ0_length_8abf5_0 rfl (lv_at hl 0 rfl) ?_
  refine vk_getf hx hb hF.2.2.1 jx_S hown (hts _ jw_f_9) (fun _ h => h) dJ0_length_8abf5_1 ?_
  refine va_tlen (v := 9) hx hb hF.2.2.2.1 jx_S (by decide) dJ0_length_8abf5_4 ?_
  refine lv_aload_n hx hb dJ0_length_8abf5_5 rfl (lv_at hl 0 rfl) ?_
  refine W.callR (W.runV (nL := 1) (As := []) (rest := [.int 9]) ⟨hx, hb, hml, hown, hts⟩ (jc_coder l K V) ⟨callB_of 0 hts (mm_good jw_c_J0_coder_7d493) rfl rfl rfl (hts _ jw_n_0) (hts _ jw_l_RJ0_335) (by decide +kernel) ⟨by decide, by decide⟩, hts _ jw_i_J0_coder_7d493, hts _ jw_s_J0_coder_7d493⟩ ⟨jx_blind, jx_recv hF, (jx_pre hF).2⟩ rfl rfl hl.1 rfl (lv_room (by decide)) dJ0_length_8abf5_6 ⟨Nat.le_refl _, Nat.le_refl _⟩) ?_
  refine W.eq (g2 := F0 m 9 ls [.int 0, .int 9]) rfl ?_
  refine lv_ishr hx hb dJ0_length_8abf5_9 ?_
  refine W.eq (g2 := F0 m 10 ls [.int 9]) rfl ?_
  exact W.iret hx hb hr (fun t ht _ => ⟨rfl, ht⟩) (fun q h => by cases h) dJ0_length_8abf5_10
set_option maxHeartbeats 4000000 in
set_option maxRecDepth 100000 in
theorem jc_indexOf2 (l : Launch) (K V : Nat) (x : Int32) : Met l yJ0_indexOf_7cf53 (.code yJ0_indexOf_7cf53 cJ0_indexOf_7cf53 3 (some .int) :: mm_T) (mm_room 2 0 0) (va_Pc [.ref K, .int x, .int 0] (fun U => jx_F K V (fun _ => False) U U.heap)) (QcRead (jx_ans x)) 0 0 (fun _ => False) := by
  refine Met.ofW (cc := cJ0_indexOf_7cf53) (maxL := 3) (ret := some .int) (by decide) rfl ?_
  intro p e s m args below meth c s₁ B hml hv
  obtain ⟨rfl, hF⟩ := hv
  have hx := B.exec
  have hb := B.bytes
  have hr := B.returns
  have hts0 := atoms_spec (ws := Cond.code yJ0_indexOf_7cf53 cJ0_indexOf_7cf53 3 (some .int) :: mm_T) B.pre
  have hts := fun w hw => hts0 w (List.mem_cons_of_mem _ hw)
  have hown : s.vm.findClass RJ0 = some m.cls := findClass_of_methodNamed B.named
  have hlocks := B.notSynchronized
  have hl := lv_entry ([.ref K, .int x, .int 0]) (n := 3) (Nat.le_of_ble_eq_true rfl)
  rw [lg_entry_eq]
  generalize (lg_sl ([.ref K, .int x, .int 0]) ++ List.replicate (3 - (lg_sl ([.ref K, .int x, .int 0])).length) Slot.unset).toArray = ls at hl ⊢
  have hl : lv_has ls 3 [(0, .ref K), (1, .int x), (2, .int 0)] := hl
  refine lv_aload_n hx hb dJ0_indexOf_7cf53_0 rfl (lv_at hl 0 rfl) ?_
  refine W.callR (W.runV (nL := 3) (As := []) (rest := []) ⟨hx, hb, hml, hown, hts⟩ (jc_isLatin1 l K V) ⟨callB_of 0 hts (mm_good jw_c_J0_isLatin1_aae02) rfl rfl rfl (hts _ jw_n_0) (hts _ jw_l_RJ0_492) (by decide +kernel) ⟨by decide, by decide⟩, hts _ jw_i_J0_isLatin1_aae02, hts _ jw_s_J0_isLatin1_aae02⟩ ⟨jx_blind, jx_recv hF, (jx_pre hF).2⟩ rfl rfl hl.1 rfl (lv_room (by decide)) dJ0_indexOf_7cf53_1 ⟨Nat.le_refl _, Nat.le_refl _⟩) ?_
  refine W.eq (g2 := F0 m 4 ls [.int 1]) rfl ?_
  refine lv_if_eq (tgt := 23) hx hb dJ0_indexOf_7cf53_4 (by decide) (fun h => absurd h (by decide)) (fun _ => ?_)
  refine lv_aload_n hx hb dJ0_indexOf_7cf53_7 rfl (lv_at hl 0 rfl) ?_
  refine vk_getf hx hb hF.2.2.1 jx_S hown (hts _ jw_f_9) (fun _ h => h) dJ0_indexOf_7cf53_8 ?_
  refine lv_iload_n hx hb dJ0_indexOf_7cf53_11 rfl (lv_at hl 1 rfl) ?_
  refine lv_iload_n hx hb dJ0_indexOf_7cf53_12 rfl (lv_at hl 2 rfl) ?_
  refine lv_aload_n hx hb dJ0_indexOf_7cf53_13 rfl (lv_at hl 0 rfl) ?_
  refine W.callR (W.runV (nL := 3) (As := []) (rest := [.int 0, .int x, .ref V]) ⟨hx, hb, hml, hown, hts⟩ (jc_length l K V) ⟨callB_of 0 hts (mm_good jw_c_J0_length_8abf5) rfl rfl rfl (hts _ jw_n_0) (hts _ jw_l_RJ0_505) (by decide +kernel) ⟨by decide, by decide⟩, hts _ jw_i_J0_length_8abf5, hts _ jw_s_J0_length_8abf5⟩ ⟨jx_blind, jx_recv hF, (jx_pre hF).2⟩ rfl rfl hl.1 rfl (lv_room (by show 1 + (1 + (1 + 0)) ≤ 8; decide)) dJ0_indexOf_7cf53_14 ⟨Nat.le_refl _, Nat.le_refl _⟩) ?_
  refine W.eq (g2 := F0 m 17 ls [.int 9, .int 0, .int x, .ref V]) rfl ?_
  refine W.callR (W.runS (nL := 3) (As := [.ref V, .int x, .int 0, .int 9]) (rest := []) ⟨hx, hb, hml, hown, hts⟩ (jc_latin l K V x) ⟨callB_of 4 hts (mm_good jw_c_J1_indexOf_4cfef) rfl rfl rfl (hts _ jw_n_1) (hts _ jw_l_RJ0_637) (by decide +kernel) ⟨by decide, by decide⟩, hts _ jw_s_J1_indexOf_4cfef⟩ (jx_pre hF) rfl rfl hl.1 rfl (lv_room (by decide)) dJ0_indexOf_7cf53_17 ⟨Nat.le_refl _, Nat.le_refl _⟩) ?_
  refine W.eq (g2 := F0 m 20 ls [.int (jx_ans x)]) rfl ?_
  refine lv_goto (tgt := 36) hx hb dJ0_indexOf_7cf53_20 (by decide) ?_
  exact W.iret hx hb hr (fun t ht _ => ⟨rfl, ht⟩) (fun q h => by cases h) dJ0_indexOf_7cf53_36
set_option maxHeartbeats 4000000 in
set_option maxRecDepth 100000 in
theorem jc_indexOf1 (l : Launch) (K V : Nat) (x : Int32) : Met l yJ0_indexOf_0f7a4 (.code yJ0_indexOf_0f7a4 cJ0_indexOf_0f7a4 2 (some .int) :: mm_T) (mm_room 3 0 0) (va_Pc [.ref K, .int x] (fun U => jx_F K V (fun _ => False) U U.heap)) (QcRead (jx_ans x)) 0 0 (fun _ => False) := by
  refine Met.ofW (cc := cJ0_indexOf_0f7a4) (maxL := 2) (ret := some .int) (by decide) rfl ?_
  intro p e s m args below meth c s₁ B hml hv
  obtain ⟨rfl, hF⟩ := hv
  have hx := B.exec
  have hb := B.bytes
  have hr := B.returns
  have hts0 := atoms_spec (ws := Cond.code yJ0_indexOf_0f7a4 cJ0_indexOf_0f7a4 2 (some .int) :: mm_T) B.pre
  have hts := fun w hw => hts0 w (List.mem_cons_of_mem _ hw)
  have hown : s.vm.findClass RJ0 = some m.cls := findClass_of_methodNamed B.named
  have hlocks := B.notSynchronized
  have hl := lv_entry ([.ref K, .int x]) (n := 2) (Nat.le_of_ble_eq_true rfl)
  rw [lg_entry_eq]
  generalize (lg_sl ([.ref K, .int x]) ++ List.replicate (2 - (lg_sl ([.ref K, .int x])).length) Slot.unset).toArray = ls at hl ⊢
  have hl : lv_has ls 2 [(0, .ref K), (1, .int x)] := hl
  refine lv_aload_n hx hb dJ0_indexOf_0f7a4_0 rfl (lv_at hl 0 rfl) ?_
  refine lv_iload_n hx hb dJ0_indexOf_0f7a4_1 rfl (lv_at hl 1 rfl) ?_
  refine lv_iconst (v := 0) hx hb dJ0_indexOf_0f7a4_2 (by decide) ?_
  refine W.callR (W.runV (nL := 2) (As := [.int x, .int 0]) (rest := []) ⟨hx, hb, hml, hown, hts⟩ (jc_indexOf2 l K V x) ⟨callB_of 2 hts (mm_good jw_c_J0_indexOf_7cf53) rfl rfl rfl (hts _ jw_n_0) (hts _ jw_l_RJ0_633) (by decide +kernel) ⟨by decide, by decide⟩, hts _ jw_i_J0_indexOf_7cf53, hts _ jw_s_J0_indexOf_7cf53⟩ ⟨jx_blind, jx_recv hF, (jx_pre hF).2⟩ rfl rfl hl.1 rfl (lv_room (by decide)) dJ0_indexOf_0f7a4_3 ⟨Nat.le_refl _, Nat.le_refl _⟩) ?_
  refine W.eq (g2 := F0 m 6 ls [.int (jx_ans x)]) rfl ?_
  exact W.iret hx hb hr (fun t ht _ => ⟨rfl, ht⟩) (fun q h => by cases h) dJ0_indexOf_0f7a4_6
/-- the place of a sign, as a char, in the text of the letters -/
def jx_at (c : Int32) : Int32 := if c = 113 then 0 else if c = 97 then 1 else if c = 108 then 2 else if c = 112 then 3 else if c = 98 then 4 else if c = 110 then 5 else if c = 115 then 6 else if c = 116 then 7 else if c = 119 then 8 else -1
def mm_ix (x : Int32) : Int32 := if (x.toUInt32 % 65536).toInt32 = 113 then 0 else if (x.toUInt32 % 65536).toInt32 = 97 then 1 else if (x.toUInt32 % 65536).toInt32 = 108 then 2 else if (x.toUInt32 % 65536).toInt32 = 112 then 3 else if (x.toUInt32 % 65536).toInt32 = 98 then 4 else if (x.toUInt32 % 65536).toInt32 = 110 then 5 else if (x.toUInt32 % 65536).toInt32 = 115 then 6 else if (x.toUInt32 % 65536).toInt32 = 116 then 7 else if (x.toUInt32 % 65536).toInt32 = 119 then 8 else -1
theorem jx_small : ∀ n : Nat, n < 256 → jx_ans (nI n) = jx_at (nI n) := by decide +kernel
theorem jx_out {c : Int32} (h : c.toInt < 0 ∨ 255 < c.toInt) : jx_at c = -1 := by
  have e : ∀ k : Int32, 0 ≤ k.toInt → k.toInt ≤ 255 → ¬ c = k := by
    intro k h1 h2 h3
    rw [h3] at h
    omega
  unfold jx_at
  rw [if_neg (e 113 (by decide) (by decide)), if_neg (e 97 (by decide) (by decide)), if_neg (e 108 (by decide) (by decide)), if_neg (e 112 (by decide) (by decide)), if_neg (e 98 (by decide) (by decide)), if_neg (e 110 (by decide) (by decide)), if_neg (e 115 (by decide) (by decide)), if_neg (e 116 (by decide) (by decide)), if_neg (e 119 (by decide) (by decide))]
theorem jx_eq (c : Int32) : jx_ans c = jx_at c := by
  have z0 : (0 : Int32).toInt = 0 := rfl
  have z1 : (255 : Int32).toInt = 255 := rfl
  by_cases h0 : c < 0
  · have h1 := Int32.lt_iff_toInt_lt.mp h0
    rw [jx_out (Or.inl (by omega))]
    unfold jx_ans
    rw [if_pos h0]
  · by_cases h2 : 255 < c
    · have h1 := Int32.lt_iff_toInt_lt.mp h2
      rw [jx_out (Or.inr (by omega))]
      unfold jx_ans
      rw [if_neg h0, if_pos h2]
    · have h3 : ¬ c.toInt < 0 := fun z => h0 (Int32.lt_iff_toInt_lt.mpr (by omega))
      have h4 : ¬ 255 < c.toInt := fun z => h2 (Int32.lt_iff_toInt_lt.mpr (by omega))
      have e : c = nI c.toInt.toNat := by
        apply Int32.toInt_inj.mp
        rw [nI_toInt (by omega)]
        omega
      rw [e]
      exact jx_small _ (by omega)
theorem jx_preH {s : State} {H : Heap} {av : List Value} {K V : Nat} (hF : jx_F K V (fun _ => False) s H) : ∀ U : State, U.heap = H → s.WarmedH U.vm → va_Pc av (fun U => jx_F K V (fun _ => False) U U.heap) av.toArray U :=
  fun U hU hW => ⟨rfl, by show jx_F K V (fun _ => False) U U.heap; rw [hU]; exact jx_F.moved hW.alike hF⟩
theorem jx_recvH {s : State} {H : Heap} {K V : Nat} (hF : jx_F K V (fun _ => False) s H) : ∃ cell : Cell, H[K]? = some cell ∧ cell.vm.isStatics = false ∧ s.vm.findClass RJ0 = some cell.cls := by
  obtain ⟨cell, h1, h2, h3, -⟩ := hF.1
  exact ⟨cell, h1, h2, h3⟩
set_option maxHeartbeats 4000000 in
set_option maxRecDepth 100000 in
theorem r_ix {D : mm_D} {d q : Nat} {L : List (Option mm_V)} {st : List mm_V} {S : List mm_C} {M : mm_M} {Z : Option Int32 → List mm_C → mm_M → Prop} {a : Nat} {fs : List (Option (Option Nat))} {v : Int32} (h0 : decode cX3_readFactor 75 = .ok (.ldc 75, 2)) (h1 : decode cX3_readFactor 77 = .ok (.aload_n 0, 1)) (h2 : decode cX3_readFactor 78 = .ok (.getfield 20, 3)) (h3 : decode cX3_readFactor 81 = .ok (.i2c, 1)) (h4 : decode cX3_readFactor 82 = .ok (.invokevirtual 77, 3)) (hL : L[0]? = some (some (.inr a))) (hS : S[a]? = some (.inr (5, fs))) (hf : fs[4]? = some none) (hv : M a 4 = v) (hq : 75 + 10 = q) (hd : 8 ≤ d) (hst : st.length ≤ 8 - 2) (kk : mm_Go jX3_readFactor D d 0 0 q L (.inl (mm_ix v) :: st) S M Z) : mm_Go jX3_readFactor D d 0 0 75 L st S M Z := by
  subst hq hv
  intro σ A p e R s m args below meth c H locs cells slots Q ls hAt hF hc hs hW hl
  have Kk := kk σ A p e R s m args below meth c H locs cells slots Q ls hAt hF hc hs hW hl
  obtain ⟨hx, hb, hr, hml, hown, hts, ⟨hname, hNs⟩, hR, hK, hA, -, ⟨KK, VV, hRf, hFF⟩⟩ := hAt
  obtain ⟨hσ, hn, hP, hD, hSS⟩ := hW
  have hown : s.vm.findClass RX3 = some m.cls := hown
  have hF0 : jx_F KK VV (fun _ => False) s H := (hFF.kept hSS.2.1).narrow (fun _ h => h.elim)
  refine va_ldcS (own := "AskedValley$LawReader") hx hb hown hRf h0 ?_
  refine lv_aload_n (x := σ a) hx hb h1 rfl (mm_has_at hl hL) ?_
  have fin : W p D.1 e R s m args below meth c H locs cells slots Q (F0 m 81 ls (.int (M a 4) :: .ref KK :: st.map (mm_R σ))) := by
    refine lv_i2c hx hb h3 rfl ?_
    generalize hc9 : ((M a 4).toUInt32 % 65536).toInt32 = c9
    have e9 : mm_ix (M a 4) = jx_ans c9 := by
      rw [jx_eq, ← hc9]
      rfl
    rw [e9] at Kk
    refine W.callR (W.runV (nL := 5) (As := [.int c9]) (rest := st.map (mm_R σ)) ⟨hx, hb, hml, hown, hts⟩ (jc_indexOf1 D.1 KK VV c9) ⟨callB_of 1 hts (mm_good jw_c_J0_indexOf_0f7a4) rfl rfl rfl (hts _ jw_n_0) (hts _ jw_l_X3_77) (by decide +kernel) ⟨by simp only [mm_room]; omega, by simp only [mm_room]; omega⟩, hts _ jw_i_J0_indexOf_0f7a4, hts _ jw_s_J0_indexOf_0f7a4⟩ ⟨jx_blind, jx_recvH hF0, jx_preH hF0⟩ rfl rfl hl.1 rfl (lv_room (by rw [mm_cats]; omega)) h4 ⟨by omega, by omega⟩) ?_
    exact Kk
  obtain ⟨C, T, N, hC, hk, hin, hlink⟩ := lk_X3_20
  have hg := mm_Ws_get (σ := σ) (cA := D.2.2.1) (M := M) hS
  have hfv : (fs.mapIdx (mm_F σ (M a)))[4]? = some (.int (M a 4)) := by
    simp only [List.getElem?_mapIdx, hf, Option.map_some]
    rfl
  rcases hlink with h | ⟨host, h⟩
  · exact va_get (v := .int (M a 4)) hx hb hts hin hown hK hP a hg hC 4 hk (hts _ h) (fun _ h => h) hfv h2 fin
  · exact va_getN (v := .int (M a 4)) hx hb hts hin hown hK hP a hg hC 4 hk (va_Nw.use rfl (hNs _ h)) (fun _ h => h) hfv h2 fin
