theorem ll_T {b : Nat} {s : State} (h : ∀ w ∈ lw_tbl, w.before #[Value.ref b] s = true) : (∀ w ∈ mm_T, w.before #[Value.ref b] s = true) ∧ ∀ w ∈ mm_N, va_Nw w s :=
  ⟨fun w hw => h w (List.mem_filter.mp hw).1, fun w hw => va_Nw.of (mm_N_on hw) (h w (List.mem_filter.mp hw).1)⟩
/-- the text of the letters, at the law's start -/
theorem ll_Tx {p : Program} {s : State} {m : MethodId} {meth : Method} {c : Code} {b L : Nat} {xs : Nat → Int32} (h : lw_At p s m meth c b L xs) : mm_Tx (fun q => s.heap.size ≤ q) s s.heap := by
  obtain ⟨-, -, -, -, -, hts, -, -, -, hgv⟩ := h
  have hs := flat_of_before _ hgv
  have hA : ∀ a : Nat, a < s.heap.size → ¬ (s.heap.size ≤ a) := fun a h => Nat.not_le.mpr h
  obtain ⟨adK, adV, hS, hE⟩ := vk_Sof (N := 1) (tm := fun _ => .string "AskedValley$LawReader" 75) (len := [9]) (byt := [jx_B]) (A := fun q => s.heap.size ≤ q) (args := #[Value.ref b]) (s := s)
    (fun i hi => by have : i = 0 := by omega
                    subst this; decide)
    (fun i hi => hs _ (by decide +kernel))
    (fun i hi => hs _ (by decide +kernel))
    (fun i hi => hs _ (by decide +kernel))
    (fun i hi => by have : i = 0 := by omega
                    subst this; exact hs _ (by decide +kernel))
    (fun i hi j hj => by
      have : i = 0 := by omega
      subst this
      have hj9 : j < 9 := hj
      match j, hj9 with
      | 0, _ => exact hs _ (by decide +kernel)
      | 1, _ => exact hs _ (by decide +kernel)
      | 2, _ => exact hs _ (by decide +kernel)
      | 3, _ => exact hs _ (by decide +kernel)
      | 4, _ => exact hs _ (by decide +kernel)
      | 5, _ => exact hs _ (by decide +kernel)
      | 6, _ => exact hs _ (by decide +kernel)
      | 7, _ => exact hs _ (by decide +kernel)
      | 8, _ => exact hs _ (by decide +kernel)
      | j + 9, h => omega)
    (fun i j hi hj hij => by omega) hA
  obtain ⟨h1, h2, h3, h4⟩ := hS.1 0 (by decide)
  have hR : vk_R "AskedValley$LawReader" 75 "qalpbnstw" (adK 0) s := by
    have e1 := hts (.stringRef "AskedValley$LawReader" 75 "qalpbnstw") (List.mem_of_getElem? (i := 472) (by decide +kernel))
    have e2 := hE 0 (by decide)
    exact vk_R.of (A := #[Value.ref b]) e1 e2
  have hZ : va_Z "java/lang/String" "COMPACT_STRINGS" "Z" (.int 1) (fun q => s.heap.size ≤ q) s s.heap := va_Zof (args := #[Value.ref b]) (hts _ (List.mem_of_getElem? (i := 486) (by decide +kernel))) (hts _ (List.mem_of_getElem? (i := 102) (by decide +kernel))) (va_eqi (hs _ (by decide +kernel))) hA
  exact ⟨adK 0, adV 0, hR, h1, h2, h3, h4, hZ⟩
section LLC
variable {xL : Nat} {xs : Nat → Int32} {kc ks kc' ks' pc q : Nat} {L L' : List (Option mm_V)} {st : List mm_V} {S1 S2 : List mm_C} {M1 M2 : mm_M}
theorem ll_after1 {ret1 : Option FieldType} {mc ms : Nat} {Z1 : Option Int32 → List mm_C → mm_M → Prop} {l : Launch} {G : va_G} {cA : Nat → ClassId} {b : Nat} {ρ σ1 σ2 : Nat → Nat} {p : Program} {e : Env} {s : State} {m : MethodId} {below : List Frame} {meth : Method} {c : Code} {H : Heap} {locs : List Loc} {cells slots : Nat} {ls : Array Slot} {st0 : List Value} {a : Array Value}
    (hAt : lw_At p s m meth c b xL xs) (hK : va_K G vwCl (mm_tys cA) s) (hc : cells + kc ≤ 600000) (hs : slots + ks ≤ 7302250) (hW : ll_Wd G cA b s ρ σ1 σ2 S1 M1 S2 M2 H locs) (hl : lv_has ls 4 (mm_Ls ρ L))
    (h1 : mc + kc' ≤ kc) (h2 : ms + ks' ≤ ks) (hne : 0 < S1.length)
    (run : va_Run p l e room_1 s m #[Value.ref b] below meth c H locs cells slots mc ms (F0 m pc ls st0) (st.map (mm_R ρ)) (mm_Q (l, G, cA, none, σ1, S1.length) ret1 (va_A (mm_Ws σ1 cA S1 M1) H.size) Z1 a) (va_A (mm_Ws σ1 cA S1 M1) H.size))
    (kk : ∀ r S' M', Z1 r S' M' → mm_nar ret1 r → ll_Go xL xs kc' ks' (pc + 3) L (r.toList.map Sum.inl ++ st) S' M' S2 M2) : W p l e room_1 s m #[Value.ref b] below meth c H locs cells slots (lw_Z below #[Value.ref b] s) (F0 m pc ls st0) := by
  intro T hT X
  obtain ⟨v, st₀, t, T', LL, e0, X', hL, e1, e2, ⟨σ', r, S', M', ho, hZ, hnar, hσ', hn', hP', hD', hFF⟩, go⟩ := run T hT X
  obtain ⟨⟨h4, h0r, h1r⟩, hP, hD, hS⟩ := hW
  have hsub : ∀ q, va_A (mm_Ws σ1 cA S1 M1) H.size q → s.heap.size ≤ q := by
    intro q hq
    rcases hq with ⟨k, en, hk⟩ | hq
    · exact (ll_D.mp hD).1.2 k _ hk
    · exact Nat.le_trans hS.1 hq
  have hv : v = r.map Value.int := by cases ho; rfl
  obtain ⟨hz, hk⟩ := hFF
  rw [e0] at hz hk
  rw [← e1] at hP' hz
  have hk' : ∀ q : Nat, q < H.size → ¬ va_A (mm_Ws σ1 cA S1 M1) H.size q → T'.heap[q]? = H[q]? := fun q q1 q2 => by rw [e1]; exact hk q q1 q2
  obtain ⟨jP, jD⟩ := ll_join hP hD hk' hP' hD' hsub
  have K := kk r S' M' hZ hnar l G cA b ρ σ' σ2 p e s m below meth c T'.heap (locs ++ LL) (cells + mc) (slots + ms) ls hAt hK (by omega) (by omega)
    ⟨⟨h4, fun _ => by rw [h0r (List.ne_nil_of_length_pos hne), hσ' 0 (Or.inl hne)], h1r⟩, jP, jD,
      ⟨Nat.le_trans hS.1 hz, fun q q1 q2 => by rw [hk' q (Nat.lt_of_lt_of_le q1 hS.1) (fun z => q2 (hsub q z))]; exact hS.2.1 q q1 q2, fun q hq => by
        rcases List.mem_append.mp hq with h | h
        · exact hS.2.2 q h
        · exact hsub _ (hL q h)⟩⟩ hl
  obtain ⟨t2, a1, b1⟩ := K T' rfl X'
  refine ⟨t2, go t2 ?_, b1⟩
  have e5 : v.toList ++ st.map (mm_R ρ) = (r.toList.map Sum.inl ++ st).map (mm_R ρ) := by
    rw [hv, List.map_append]
    cases r <;> rfl
  show Steps _ _ _ (T'.setTop { F0 m pc ls st0 with pc := pc + 3, stack := v.toList ++ st.map (mm_R ρ) }) t2
  rw [e5]
  exact a1
theorem ll_after2 {ret1 : Option FieldType} {mc ms : Nat} {Z1 : Option Int32 → List mm_C → mm_M → Prop} {l : Launch} {G : va_G} {cA : Nat → ClassId} {b : Nat} {ρ σ1 σ2 : Nat → Nat} {p : Program} {e : Env} {s : State} {m : MethodId} {below : List Frame} {meth : Method} {c : Code} {H : Heap} {locs : List Loc} {cells slots : Nat} {ls : Array Slot} {st0 : List Value} {a : Array Value}
    (hAt : lw_At p s m meth c b xL xs) (hK : va_K G vwCl (mm_tys cA) s) (hc : cells + kc ≤ 600000) (hs : slots + ks ≤ 7302250) (hW : ll_Wd G cA b s ρ σ1 σ2 S1 M1 S2 M2 H locs) (hl : lv_has ls 4 (mm_Ls ρ L))
    (h1 : mc + kc' ≤ kc) (h2 : ms + ks' ≤ ks) (hne : 0 < S2.length)
    (run : va_Run p l e room_1 s m #[Value.ref b] below meth c H locs cells slots mc ms (F0 m pc ls st0) (st.map (mm_R ρ)) (mm_Q (l, G, cA, none, σ2, S2.length) ret1 (va_A (mm_Ws σ2 cA S2 M2) H.size) Z1 a) (va_A (mm_Ws σ2 cA S2 M2) H.size))
    (kk : ∀ r S' M', Z1 r S' M' → mm_nar ret1 r → ll_Go xL xs kc' ks' (pc + 3) L (r.toList.map Sum.inl ++ st) S1 M1 S' M') : W p l e room_1 s m #[Value.ref b] below meth c H locs cells slots (lw_Z below #[Value.ref b] s) (F0 m pc ls st0) := by
  intro T hT X
  obtain ⟨v, st₀, t, T', LL, e0, X', hL, e1, e2, ⟨σ', r, S', M', ho, hZ, hnar, hσ', hn', hP', hD', hFF⟩, go⟩ := run T hT X
  obtain ⟨⟨h4, h0r, h1r⟩, hP, hD, hS⟩ := hW
  have hP := ll_P.mpr (ll_P.mp hP).symm
  have hD := ll_Dc hD
  have hsub : ∀ q, va_A (mm_Ws σ2 cA S2 M2) H.size q → s.heap.size ≤ q := by
    intro q hq
    rcases hq with ⟨k, en, hk⟩ | hq
    · exact (ll_D.mp hD).1.2 k _ hk
    · exact Nat.le_trans hS.1 hq
  have hv : v = r.map Value.int := by cases ho; rfl
  obtain ⟨hz, hk⟩ := hFF
  rw [e0] at hz hk
  rw [← e1] at hP' hz
  have hk' : ∀ q : Nat, q < H.size → ¬ va_A (mm_Ws σ2 cA S2 M2) H.size q → T'.heap[q]? = H[q]? := fun q q1 q2 => by rw [e1]; exact hk q q1 q2
  obtain ⟨jP, jD⟩ := ll_join hP hD hk' hP' hD' hsub
  have jP := ll_P.mpr (ll_P.mp jP).symm
  have jD := ll_Dc jD
  have K := kk r S' M' hZ hnar l G cA b ρ σ1 σ' p e s m below meth c T'.heap (locs ++ LL) (cells + mc) (slots + ms) ls hAt hK (by omega) (by omega)
    ⟨⟨h4, h0r, fun _ => by rw [h1r (List.ne_nil_of_length_pos hne), hσ' 0 (Or.inl hne)]⟩, jP, jD,
      ⟨Nat.le_trans hS.1 hz, fun q q1 q2 => by rw [hk' q (Nat.lt_of_lt_of_le q1 hS.1) (fun z => q2 (hsub q z))]; exact hS.2.1 q q1 q2, fun q hq => by
        rcases List.mem_append.mp hq with h | h
        · exact hS.2.2 q h
        · exact hsub _ (hL q h)⟩⟩ hl
  obtain ⟨t2, a1, b1⟩ := K T' rfl X'
  refine ⟨t2, go t2 ?_, b1⟩
  have e5 : v.toList ++ st.map (mm_R ρ) = (r.toList.map Sum.inl ++ st).map (mm_R ρ) := by
    rw [hv, List.map_append]
    cases r <;> rfl
  show Steps _ _ _ (T'.setTop { F0 m pc ls st0 with pc := pc + 3, stack := v.toList ++ st.map (mm_R ρ) }) t2
  rw [e5]
  exact a1
theorem l_call1 {J1 : mm_J} {idx ci n d1 : Nat} {fs : List (Option (Option Nat))} (vs : List Int32) {stk : List mm_V} {Z1 : Option Int32 → List mm_C → mm_M → Prop} (hg : mm_CV RL idx ci J1 n) (hS : S1[0]? = some (.inr (ci, fs))) (hd : decode code pc = .ok (.invokevirtual idx, 3)) (hstk : stk = (vs.map Sum.inl).reverse ++ .inr 0 :: st) (hn : vs.length = n) (hav : vs.length + 1 ≤ J1.2.2.1) (hst8 : st.length ≤ 8) (hd1 : d1 ≤ 1000) (hq : pc + 3 = q)
    (hm : mm_Meth J1 d1 0 0 (.inr 0 :: vs.map Sum.inl) S1 M1 Z1) (kk : ∀ r S' M', Z1 r S' M' → mm_nar J1.2.2.2 r → ll_Go xL xs kc ks q L (r.toList.map Sum.inl ++ st) S' M' S2 M2) : ll_Go xL xs kc ks pc L stk S1 M1 S2 M2 := by
  subst hstk hq hn
  intro l G cA b ρ σ1 σ2 p e s m below meth c H locs cells slots ls hAt hK hc hs hW hl
  obtain ⟨hx, hb, hr, hml, hown, hts0, hX, hbl, hlocks, hgv⟩ := id hAt
  obtain ⟨⟨h4, h0r, h1r⟩, hP, hD, hSS⟩ := id hW
  obtain ⟨hts, hNs⟩ := ll_T hts0
  have hown : s.vm.findClass RL = some m.cls := hown
  have hlt : 0 < S1.length := (List.getElem?_eq_some_iff.mp hS).1
  have hP1 := (ll_P.mp hP).1
  have hD1 := (ll_D.mp hD).1
  obtain ⟨⟨hpl, hcode, hini, hdd, h45, hlink⟩, hin, hse, ⟨qq, hqq, hqc⟩⟩ := hg
  have hrecv := va_recv hK hP1 hqq (mm_Ws_get hS)
  rw [hqc] at hrecv
  have hsv : ∀ τ : Nat → Nat, (vs.map Sum.inl).map (mm_R τ) = vs.map Value.int := fun τ => by
    rw [List.map_map]
    exact List.map_congr_left fun _ _ => rfl
  have hpre := mm_pre (av := .inr 0 :: vs.map Sum.inl) hK hP1 hD1 hNs (ll_Tx hAt) hSS (fun q h => h)
  have hM := hm.met hpl (by simpa using hav) l G cA σ1 H.size
  have est : ((vs.map Sum.inl).reverse ++ (Sum.inr 0 :: st) : List mm_V).map (mm_R ρ) = ((vs.map Sum.inl).map (mm_R σ1)).reverse ++ Value.ref (σ1 0) :: st.map (mm_R ρ) := by
    rw [List.map_append, List.map_reverse, hsv, hsv, List.map_cons]
    simp only [mm_R, h0r (List.ne_nil_of_length_pos hlt)]
  refine ll_after1 (st := st) (L := L) (Z1 := Z1) (mc := 0) (ms := 0) (kc' := kc) (ks' := ks) (a := (Value.ref (σ1 0) :: (vs.map Sum.inl).map (mm_R σ1)).toArray) (ret1 := J1.2.2.2) hAt hK hc hs hW hl (by omega) (by omega) hlt ?_ kk
  rw [est]
  rcases hlink with h | ⟨host, h⟩
  · exact va_runV ⟨hx, hb, hml, hown, hts⟩ hM ⟨callB_of vs.length hts (mm_good hcode) rfl rfl rfl (hts _ hini) (hts _ h) hdd ⟨by show d1 + 1 + 1 ≤ 2048; omega, by show 8 + (J1.2.2.1 + 11) + 64 * (d1 + 1) ≤ 84000; omega⟩, hts _ hin, hts _ hse⟩ ⟨hpre.1, hrecv, hpre.2⟩ rfl (by simp) hl.1 rfl (lv_room (by rw [mm_cats]; exact hst8)) hd ⟨by show cells + 0 ≤ 600000; omega, by show slots + 0 ≤ 7302250; omega⟩
  · exact va_runVN (host := host) ⟨hx, hb, hml, hown, hts⟩ hM ⟨va_cnB vs.length hts (mm_good hcode) rfl rfl rfl (hNs _ h) (hts _ hini) hdd ⟨by show d1 + 1 + 1 ≤ 2048; omega, by show 8 + (J1.2.2.1 + 11) + 64 * (d1 + 1) ≤ 84000; omega⟩, hts _ hin, hts _ hse⟩ ⟨hpre.1, hrecv, hpre.2⟩ rfl (by simp) hl.1 rfl (lv_room (by rw [mm_cats]; exact hst8)) hd ⟨by show cells + 0 ≤ 600000; omega, by show slots + 0 ≤ 7302250; omega⟩
theorem l_ctor1 {J1 : mm_J} {idx d1 mc ms : Nat} {stk : List mm_V} {S' : List mm_C} {M' : mm_M} (hg : mm_CallG RL idx J1 0) (hin : Cond.instanceMethod J1.1 ∈ mm_T) (hnm : J1.1.name = "<init>") (hrt : J1.2.2.2 = none) (hlt : 0 < S1.length) (hd : decode code pc = .ok (.invokespecial idx, 3)) (hstk : stk = .inr 0 :: st) (hav : 1 ≤ J1.2.2.1) (hst8 : st.length ≤ 8) (hd1 : d1 ≤ 1000) (h1 : mc + kc' ≤ kc) (h2 : ms + ks' ≤ ks) (hq : pc + 3 = q)
    (hm : mm_Meth J1 d1 mc ms [.inr 0] S1 M1 (mm_Zv S' M')) (kk : ll_Go xL xs kc' ks' q L st S' M' S2 M2) : ll_Go xL xs kc ks pc L stk S1 M1 S2 M2 := by
  subst hstk hq
  obtain ⟨y1, c1, n1, r1⟩ := J1
  dsimp only at hrt
  subst hrt
  intro l G cA b ρ σ1 σ2 p e s m below meth c H locs cells slots ls hAt hK hc hs hW hl
  obtain ⟨hx, hb, hr, hml, hown, hts0, hX, hbl, hlocks, hgv⟩ := id hAt
  obtain ⟨⟨h4, h0r, h1r⟩, hP, hD, hSS⟩ := id hW
  obtain ⟨hts, hNs⟩ := ll_T hts0
  have hown : s.vm.findClass RL = some m.cls := hown
  have hP1 := (ll_P.mp hP).1
  have hD1 := (ll_D.mp hD).1
  obtain ⟨hpl, hcode, hini, hdd, h45, hlink⟩ := hg
  dsimp only at hpl hcode hini hdd h45 hlink hin hnm hav
  have hpre := mm_pre (av := [.inr 0]) hK hP1 hD1 hNs (ll_Tx hAt) hSS (fun q h => h)
  have hM := hm.met hpl hav l G cA σ1 H.size
  have est : (Sum.inr 0 :: st : List mm_V).map (mm_R ρ) = ([] : List Value).reverse ++ Value.ref (σ1 0) :: st.map (mm_R ρ) := by
    simp only [List.map_cons, mm_R, h0r (List.ne_nil_of_length_pos hlt)]
    rfl
  refine ll_after1 (st := st) (L := L) (Z1 := mm_Zv S' M') (mc := mc) (ms := ms) (a := (Value.ref (σ1 0) :: []).toArray) (ret1 := none) hAt hK hc hs hW hl h1 h2 hlt ?_ ?_
  · rw [est]
    rcases hlink with h | ⟨host, h⟩
    · exact va_runI ⟨hx, hb, hml, hown, hts⟩ hM ⟨callB_of 0 hts (mm_good hcode) rfl rfl rfl (hts _ hini) (hts _ h) hdd ⟨by show d1 + 1 + 1 ≤ 2048; omega, by show 8 + (n1 + 11) + 64 * (d1 + 1) ≤ 84000; omega⟩, hnm, hts _ hin⟩ hpre rfl rfl hl.1 rfl (lv_room (by rw [mm_cats]; exact hst8)) hd ⟨by show cells + mc ≤ 600000; omega, by show slots + ms ≤ 7302250; omega⟩
    · exact va_runIN (host := host) ⟨hx, hb, hml, hown, hts⟩ hM ⟨va_cnB 0 hts (mm_good hcode) rfl rfl rfl (hNs _ h) (hts _ hini) hdd ⟨by show d1 + 1 + 1 ≤ 2048; omega, by show 8 + (n1 + 11) + 64 * (d1 + 1) ≤ 84000; omega⟩, hnm, hts _ hin⟩ hpre rfl rfl hl.1 rfl (lv_room (by rw [mm_cats]; exact hst8)) hd ⟨by show cells + mc ≤ 600000; omega, by show slots + ms ≤ 7302250; omega⟩
  · rintro r S' M' ⟨rfl, rfl, rfl⟩ _
    exact kk
theorem l_call2 {J1 : mm_J} {idx ci n d1 : Nat} {fs : List (Option (Option Nat))} (vs : List Int32) {stk : List mm_V} {Z1 : Option Int32 → List mm_C → mm_M → Prop} (hg : mm_CV RL idx ci J1 n) (hS : S2[0]? = some (.inr (ci, fs))) (hd : decode code pc = .ok (.invokevirtual idx, 3)) (hstk : stk = (vs.map Sum.inl).reverse ++ .inr 1 :: st) (hn : vs.length = n) (hav : vs.length + 1 ≤ J1.2.2.1) (hst8 : st.length ≤ 8) (hd1 : d1 ≤ 1000) (hq : pc + 3 = q)
    (hm : mm_Meth J1 d1 0 0 (.inr 0 :: vs.map Sum.inl) S2 M2 Z1) (kk : ∀ r S' M', Z1 r S' M' → mm_nar J1.2.2.2 r → ll_Go xL xs kc ks q L (r.toList.map Sum.inl ++ st) S1 M1 S' M') : ll_Go xL xs kc ks pc L stk S1 M1 S2 M2 := by
  subst hstk hq hn
  intro l G cA b ρ σ1 σ2 p e s m below meth c H locs cells slots ls hAt hK hc hs hW hl
  obtain ⟨hx, hb, hr, hml, hown, hts0, hX, hbl, hlocks, hgv⟩ := id hAt
  obtain ⟨⟨h4, h0r, h1r⟩, hP, hD, hSS⟩ := id hW
  obtain ⟨hts, hNs⟩ := ll_T hts0
  have hown : s.vm.findClass RL = some m.cls := hown
  have hlt : 0 < S2.length := (List.getElem?_eq_some_iff.mp hS).1
  have hP1 := (ll_P.mp hP).2
  have hD1 := (ll_D.mp hD).2.1
  obtain ⟨⟨hpl, hcode, hini, hdd, h45, hlink⟩, hin, hse, ⟨qq, hqq, hqc⟩⟩ := hg
  have hrecv := va_recv hK hP1 hqq (mm_Ws_get hS)
  rw [hqc] at hrecv
  have hsv : ∀ τ : Nat → Nat, (vs.map Sum.inl).map (mm_R τ) = vs.map Value.int := fun τ => by
    rw [List.map_map]
    exact List.map_congr_left fun _ _ => rfl
  have hpre := mm_pre (av := .inr 0 :: vs.map Sum.inl) hK hP1 hD1 hNs (ll_Tx hAt) hSS (fun q h => h)
  have hM := hm.met hpl (by simpa using hav) l G cA σ2 H.size
  have est : ((vs.map Sum.inl).reverse ++ (Sum.inr 1 :: st) : List mm_V).map (mm_R ρ) = ((vs.map Sum.inl).map (mm_R σ2)).reverse ++ Value.ref (σ2 0) :: st.map (mm_R ρ) := by
    rw [List.map_append, List.map_reverse, hsv, hsv, List.map_cons]
    simp only [mm_R, h1r (List.ne_nil_of_length_pos hlt)]
  refine ll_after2 (st := st) (L := L) (Z1 := Z1) (mc := 0) (ms := 0) (kc' := kc) (ks' := ks) (a := (Value.ref (σ2 0) :: (vs.map Sum.inl).map (mm_R σ2)).toArray) (ret1 := J1.2.2.2) hAt hK hc hs hW hl (by omega) (by omega) hlt ?_ kk
  rw [est]
  rcases hlink with h | ⟨host, h⟩
  · exact va_runV ⟨hx, hb, hml, hown, hts⟩ hM ⟨callB_of vs.length hts (mm_good hcode) rfl rfl rfl (hts _ hini) (hts _ h) hdd ⟨by show d1 + 1 + 1 ≤ 2048; omega, by show 8 + (J1.2.2.1 + 11) + 64 * (d1 + 1) ≤ 84000; omega⟩, hts _ hin, hts _ hse⟩ ⟨hpre.1, hrecv, hpre.2⟩ rfl (by simp) hl.1 rfl (lv_room (by rw [mm_cats]; exact hst8)) hd ⟨by show cells + 0 ≤ 600000; omega, by show slots + 0 ≤ 7302250; omega⟩
  · exact va_runVN (host := host) ⟨hx, hb, hml, hown, hts⟩ hM ⟨va_cnB vs.length hts (mm_good hcode) rfl rfl rfl (hNs _ h) (hts _ hini) hdd ⟨by show d1 + 1 + 1 ≤ 2048; omega, by show 8 + (J1.2.2.1 + 11) + 64 * (d1 + 1) ≤ 84000; omega⟩, hts _ hin, hts _ hse⟩ ⟨hpre.1, hrecv, hpre.2⟩ rfl (by simp) hl.1 rfl (lv_room (by rw [mm_cats]; exact hst8)) hd ⟨by show cells + 0 ≤ 600000; omega, by show slots + 0 ≤ 7302250; omega⟩
theorem l_ctor2 {J1 : mm_J} {idx d1 mc ms : Nat} {stk : List mm_V} {S' : List mm_C} {M' : mm_M} (hg : mm_CallG RL idx J1 0) (hin : Cond.instanceMethod J1.1 ∈ mm_T) (hnm : J1.1.name = "<init>") (hrt : J1.2.2.2 = none) (hlt : 0 < S2.length) (hd : decode code pc = .ok (.invokespecial idx, 3)) (hstk : stk = .inr 1 :: st) (hav : 1 ≤ J1.2.2.1) (hst8 : st.length ≤ 8) (hd1 : d1 ≤ 1000) (h1 : mc + kc' ≤ kc) (h2 : ms + ks' ≤ ks) (hq : pc + 3 = q)
    (hm : mm_Meth J1 d1 mc ms [.inr 0] S2 M2 (mm_Zv S' M')) (kk : ll_Go xL xs kc' ks' q L st S1 M1 S' M') : ll_Go xL xs kc ks pc L stk S1 M1 S2 M2 := by
  subst hstk hq
  obtain ⟨y1, c1, n1, r1⟩ := J1
  dsimp only at hrt
  subst hrt
  intro l G cA b ρ σ1 σ2 p e s m below meth c H locs cells slots ls hAt hK hc hs hW hl
  obtain ⟨hx, hb, hr, hml, hown, hts0, hX, hbl, hlocks, hgv⟩ := id hAt
  obtain ⟨⟨h4, h0r, h1r⟩, hP, hD, hSS⟩ := id hW
  obtain ⟨hts, hNs⟩ := ll_T hts0
  have hown : s.vm.findClass RL = some m.cls := hown
  have hP1 := (ll_P.mp hP).2
  have hD1 := (ll_D.mp hD).2.1
  obtain ⟨hpl, hcode, hini, hdd, h45, hlink⟩ := hg
  dsimp only at hpl hcode hini hdd h45 hlink hin hnm hav
  have hpre := mm_pre (av := [.inr 0]) hK hP1 hD1 hNs (ll_Tx hAt) hSS (fun q h => h)
  have hM := hm.met hpl hav l G cA σ2 H.size
  have est : (Sum.inr 1 :: st : List mm_V).map (mm_R ρ) = ([] : List Value).reverse ++ Value.ref (σ2 0) :: st.map (mm_R ρ) := by
    simp only [List.map_cons, mm_R, h1r (List.ne_nil_of_length_pos hlt)]
    rfl
  refine ll_after2 (st := st) (L := L) (Z1 := mm_Zv S' M') (mc := mc) (ms := ms) (a := (Value.ref (σ2 0) :: []).toArray) (ret1 := none) hAt hK hc hs hW hl h1 h2 hlt ?_ ?_
  · rw [est]
    rcases hlink with h | ⟨host, h⟩
    · exact va_runI ⟨hx, hb, hml, hown, hts⟩ hM ⟨callB_of 0 hts (mm_good hcode) rfl rfl rfl (hts _ hini) (hts _ h) hdd ⟨by show d1 + 1 + 1 ≤ 2048; omega, by show 8 + (n1 + 11) + 64 * (d1 + 1) ≤ 84000; omega⟩, hnm, hts _ hin⟩ hpre rfl rfl hl.1 rfl (lv_room (by rw [mm_cats]; exact hst8)) hd ⟨by show cells + mc ≤ 600000; omega, by show slots + ms ≤ 7302250; omega⟩
    · exact va_runIN (host := host) ⟨hx, hb, hml, hown, hts⟩ hM ⟨va_cnB 0 hts (mm_good hcode) rfl rfl rfl (hNs _ h) (hts _ hini) hdd ⟨by show d1 + 1 + 1 ≤ 2048; omega, by show 8 + (n1 + 11) + 64 * (d1 + 1) ≤ 84000; omega⟩, hnm, hts _ hin⟩ hpre rfl rfl hl.1 rfl (lv_room (by rw [mm_cats]; exact hst8)) hd ⟨by show cells + mc ≤ 600000; omega, by show slots + ms ≤ 7302250; omega⟩
  · rintro r S' M' ⟨rfl, rfl, rfl⟩ _
    exact kk
end LLC
