/-- what a method's end says of its caller's world -/
def mm_Q (D : mm_D) (ret : Option FieldType) (A : Nat → Prop) (Z : Option Int32 → List mm_C → mm_M → Prop) : Array Value → State → Outcome → State → Prop := fun _ st o t =>
  ∃ (σ : Nat → Nat) (r : Option Int32) (S : List mm_C) (M : mm_M), o = .returned (r.map Value.int) ∧ Z r S M ∧ mm_nar ret r ∧ (∀ a, a < D.2.2.2.2.2 ∨ a = 4000 → σ a = D.2.2.2.2.1 a) ∧ D.2.2.2.2.2 ≤ S.length ∧ va_P D.2.1 vwCl (mm_Ws σ D.2.2.1 S M) t.heap ∧ va_D A (mm_Ws σ D.2.2.1 S M) ∧ va_F A st t
def mm_Pc (G : va_G) (cA : Nat → ClassId) (σ : Nat → Nat) (av : List mm_V) (S : List mm_C) (M : mm_M) (sz : Nat) : Array Value → State → Prop := va_Pc (av.map (mm_R σ)) (fun U => U.heap.size = sz ∧ va_P (G) vwCl (mm_Ws σ cA S M) U.heap ∧ va_K G vwCl (mm_tys cA) U ∧ va_D (fun _ => True) (mm_Ws σ cA S M) ∧ (∀ w ∈ mm_N, va_Nw w U) ∧ mm_Tx (va_A (mm_Ws σ cA S M) sz) U U.heap)
theorem mm_sl (σ : Nat → Nat) : ∀ av : List mm_V, lg_sl (av.map (mm_R σ)) = (av.map (mm_R σ)).map Slot.val := by
  intro av
  induction av with
  | nil => rfl
  | cons v r ih =>
    have e : lg_sl (mm_R σ v :: r.map (mm_R σ)) = Slot.val (mm_R σ v) :: lg_sl (r.map (mm_R σ)) := by
      simp [lg_sl, mm_R_cat]
    simp only [List.map_cons, e, ih]
theorem mm_args_mem (σ : Nat → Nat) : ∀ (av : List mm_V) (b i : Nat) (v : mm_V), av[i]? = some v → (b + i, mm_R σ v) ∈ lv_args b (av.map (mm_R σ)) := by
  intro av
  induction av with
  | nil => intro b i v h; simp at h
  | cons w r ih =>
    intro b i v h
    cases i with
    | zero =>
      simp at h
      subst h
      cases w <;> simp [lv_args, mm_R]
    | succ j =>
      have h' : r[j]? = some v := by simpa using h
      have := ih (b + 1) j v h'
      have e : b + 1 + j = b + (j + 1) := by omega
      rw [e] at this
      cases w <;> simp [lv_args, mm_R, Value.category] at this ⊢ <;> exact this
theorem mm_entry (σ : Nat → Nat) (av : List mm_V) (n : Nat) (h : av.length ≤ n) : lv_has ((lg_sl (av.map (mm_R σ)) ++ List.replicate (n - (lg_sl (av.map (mm_R σ))).length) Slot.unset).toArray) n (mm_Ls σ (mm_ent av n)) := by
  have h1 : (lg_sl (av.map (mm_R σ))).length ≤ n := by rw [mm_sl]; simpa using h
  refine mm_has_mono (lv_entry (av.map (mm_R σ)) h1) ?_
  rintro ⟨i, w⟩ hq
  obtain ⟨v, hv, rfl⟩ := mm_Ls_mem.mp hq
  have hi : av[i]? = some v := by
    unfold mm_ent at hv
    rcases Nat.lt_or_ge i av.length with hl | hl
    · rw [List.getElem?_append_left (by simpa using hl)] at hv
      simpa using hv
    · rw [List.getElem?_append_right (by simpa using hl)] at hv
      simp only [List.getElem?_replicate] at hv
      split at hv <;> simp at hv
  simpa using mm_args_mem σ av 0 i v hi
theorem mm_Meth.met {J : mm_J} {d kc ks : Nat} {av : List mm_V} {S : List mm_C} {M : mm_M} {Z : Option Int32 → List mm_C → mm_M → Prop} (h : mm_Meth J d kc ks av S M Z) (hpl : plainName J.1.cls = true) (hav : av.length ≤ J.2.2.1) (l : Launch) (G : va_G) (cA : Nat → ClassId) (σ : Nat → Nat) (sz : Nat) :
    Met l J.1 (.code J.1 J.2.1 J.2.2.1 J.2.2.2 :: mm_T) (mm_room d kc ks) (mm_Pc G cA σ av S M sz) (mm_Q (l, G, cA, none, σ, S.length) J.2.2.2 (va_A (mm_Ws σ cA S M) sz) Z) kc ks (va_A (mm_Ws σ cA S M) sz) := by
  refine Met.ofW (cc := J.2.1) (maxL := J.2.2.1) (ret := J.2.2.2) hpl rfl ?_
  intro p e s m args below meth c s₁ B hml hv
  obtain ⟨rfl, hsz, hP, hK, hD0, hNs, hTx⟩ := hv
  have hx := B.exec
  have hb := B.bytes
  have hr := B.returns
  have hts0 := atoms_spec (ws := Cond.code J.1 J.2.1 J.2.2.1 J.2.2.2 :: mm_T) B.pre
  have hown : s.vm.findClass J.1.cls = some m.cls := findClass_of_methodNamed B.named
  have hlocks := B.notSynchronized
  have hnm : meth.name = J.1.name := (name_of_methodNamed B.named B.method).1
  subst hsz
  have hD := hD0.self (sz := s.heap.size)
  rw [lg_entry_eq]
  refine h l G cA σ σ (va_A (mm_Ws σ cA S M) s.heap.size) p e _ s m _ below meth c s.heap [] 0 0 _ _ ⟨hx, hb, hr, hml, hown, fun w hw => hts0 w (List.mem_cons_of_mem _ hw), ⟨hnm, hNs⟩, ⟨Nat.le_refl _, Nat.le_refl _⟩, hK, fun q hq => Or.inr hq, (fun x hx => by cases hx), hTx⟩ ?_ (Nat.le_of_eq (Nat.zero_add _)) (Nat.le_of_eq (Nat.zero_add _)) ⟨fun _ _ => rfl, Nat.le_refl _, hP, hD, va_S.rf⟩ (mm_entry σ av _ hav)
  intro σ' r S' M' H locs cells slots pc ls hc hs hW hZ hnar hm
  obtain ⟨hσ', hn', hP', hD', hS'⟩ := hW
  refine W.widen (k := kc) (n := ks) hc hs ?_
  have hq : ∀ t : State, t.heap = H → mm_Q (l, G, cA, none, σ, S.length) J.2.2.2 (va_A (mm_Ws σ cA S M) s.heap.size) Z (List.map (mm_R σ) av).toArray s (.returned (r.map Value.int)) t := fun t ht => ⟨σ', r, S', M', rfl, hZ, hnar, hσ', hn', by rw [ht]; exact hP', hD', hS'.F ht⟩
  cases r with
  | none =>
    obtain ⟨h1, h2⟩ := hm
    exact W.vret hx hb (hr.trans h1) (fun t ht _ => hq t ht) (fun q hq => hS'.2.2 q hq) h2
  | some v =>
    obtain ⟨⟨ty, h1⟩, h2⟩ := hm
    exact W.zret (ty := ty) hx hb (hr.trans h1) (hnar ty v h1 rfl) (fun t ht _ => hq t ht) (fun q hq => hS'.2.2 q hq) h2
def mm_okV (n : Nat) : mm_V → Bool
  | .inl _ => true
  | .inr a => Nat.blt a n || Nat.beq a 4000
/-- the places that locals and stack name are there -/
def mm_ok (n : Nat) (L : List (Option mm_V)) (st : List mm_V) : Bool := L.all (fun o => match o with | none => true | some v => mm_okV n v) && st.all (mm_okV n)
theorem mm_okV_eq {n : Nat} {v : mm_V} (h : mm_okV n v = true) {σ σ' : Nat → Nat} (hs : ∀ a, a < n ∨ a = 4000 → σ' a = σ a) : mm_R σ' v = mm_R σ v := by
  cases v with
  | inl x => rfl
  | inr a =>
    simp only [mm_okV, Bool.or_eq_true, Nat.blt_eq] at h
    simp only [mm_R, hs a (h.imp id Nat.eq_of_beq_eq_true)]
theorem mm_ok_eq {n : Nat} {L : List (Option mm_V)} {st : List mm_V} (h : mm_ok n L st = true) {σ σ' : Nat → Nat} (hs : ∀ a, a < n ∨ a = 4000 → σ' a = σ a) : L.map (Option.map (mm_R σ')) = L.map (Option.map (mm_R σ)) ∧ st.map (mm_R σ') = st.map (mm_R σ) := by
  simp only [mm_ok, Bool.and_eq_true, List.all_eq_true] at h
  refine ⟨List.map_congr_left fun o ho => ?_, List.map_congr_left fun v hv => mm_okV_eq (h.2 v hv) hs⟩
  cases o with
  | none => rfl
  | some v => simp only [Option.map_some, mm_okV_eq (h.1 _ ho) hs]
section CALLS
variable {J : mm_J} {D : mm_D} {d kc ks pc : Nat} {L : List (Option mm_V)} {st : List mm_V} {S : List mm_C} {M : mm_M} {Z : Option Int32 → List mm_C → mm_M → Prop}
/-- what goes on behind a call -/
theorem mm_after {J1 : mm_J} {mc ms kc' ks' : Nat} {Z1 : Option Int32 → List mm_C → mm_M → Prop} {σ : Nat → Nat} {A : Nat → Prop} {p : Program} {e : Env} {R : Room} {s : State} {m : MethodId} {args : Array Value} {below : List Frame} {meth : Method} {c : Code} {H : Heap} {locs : List Loc} {cells slots : Nat} {Q : State → Prop} {ls : Array Slot} {st0 : List Value} {a : Array Value}
    (hAt : mm_At J D d A p R s m args meth c) (hF : mm_Fin J D A Z p e R s m args below meth c Q) (hc : cells + kc ≤ R.cells) (hs : slots + ks ≤ R.slots) (hW : mm_Wd D A s σ S M H locs) (hl : lv_has ls J.2.2.1 (mm_Ls σ L))
    (h1 : mc + kc' ≤ kc) (h2 : ms + ks' ≤ ks) (hwf : ∀ σ' : Nat → Nat, (∀ a, a < S.length ∨ a = 4000 → σ' a = σ a) → L.map (Option.map (mm_R σ')) = L.map (Option.map (mm_R σ)) ∧ st.map (mm_R σ') = st.map (mm_R σ))
    (run : va_Run p D.1 e R s m args below meth c H locs cells slots mc ms (F0 m pc ls st0) (st.map (mm_R σ)) (mm_Q (D.1, D.2.1, D.2.2.1, none, σ, S.length) J1.2.2.2 (va_A (mm_Ws σ D.2.2.1 S M) H.size) Z1 a) (va_A (mm_Ws σ D.2.2.1 S M) H.size))
    (kk : ∀ r S' M', Z1 r S' M' → mm_nar J1.2.2.2 r → mm_Go J D d kc' ks' (pc + 3) L (r.toList.map Sum.inl ++ st) S' M' Z) : W p D.1 e R s m args below meth c H locs cells slots Q (F0 m pc ls st0) := by
  intro T hT X
  obtain ⟨v, st₀, t, T', LL, h0, X', hL, e1, e2, ⟨σ', r, S', M', ho, hZ, hnar, hσ', hn', hP', hD', hFF⟩, go⟩ := run T hT X
  obtain ⟨hσ, hn, hP, hD, hSS⟩ := hW
  have hA := hAt.2.2.2.2.2.2.2.2.2.1
  have hsub : ∀ q, va_A (mm_Ws σ D.2.2.1 S M) H.size q → A q := by
    intro q hq
    rcases hq with ⟨k, en, hk⟩ | hq
    · exact hD.2 k _ hk
    · exact hA q (Nat.le_trans hSS.1 hq)
  have hv : v = r.map Value.int := by cases ho; rfl
  obtain ⟨hz, hk⟩ := hFF
  rw [h0] at hz hk
  obtain ⟨hw1, hw2⟩ := hwf σ' hσ'
  have hl' : lv_has ls J.2.2.1 (mm_Ls σ' L) := by
    refine mm_has_mono hl ?_
    rintro ⟨i, w⟩ hq
    obtain ⟨x, hx, rfl⟩ := mm_Ls_mem.mp hq
    have e3 : (L.map (Option.map (mm_R σ')))[i]? = (L.map (Option.map (mm_R σ)))[i]? := by rw [hw1]
    simp only [List.getElem?_map, hx, Option.map_some] at e3
    exact mm_Ls_mem.mpr ⟨x, hx, by simpa using e3⟩
  have K := kk r S' M' hZ hnar σ' A p e R s m args below meth c T'.heap (locs ++ LL) (cells + mc) (slots + ms) Q ls hAt hF (by omega) (by omega)
    ⟨fun b hb => (hσ' b (hb.imp (fun h => Nat.lt_of_lt_of_le h hn) id)).trans (hσ b hb), Nat.le_trans hn hn', by rw [e1]; exact hP', ⟨hD'.1, fun k q hq => hsub _ (hD'.2 k q hq)⟩,
      ⟨Nat.le_trans hSS.1 (by rw [e1]; exact hz), fun q q1 q2 => by rw [e1, hk q (Nat.lt_of_lt_of_le q1 hSS.1) (fun z => q2 (hsub q z))]; exact hSS.2.1 q q1 q2, fun q hq => by
        rcases List.mem_append.mp hq with h | h
        · exact hSS.2.2 q h
        · exact hsub _ (hL q h)⟩⟩ hl'
  obtain ⟨t2, a1, b1⟩ := K T' rfl X'
  refine ⟨t2, go t2 ?_, b1⟩
  have e5 : v.toList ++ st.map (mm_R σ) = (r.toList.map Sum.inl ++ st).map (mm_R σ') := by
    rw [hv, List.map_append, hw2]
    cases r <;> rfl
  show Steps _ _ _ (T'.setTop { F0 m pc ls st0 with pc := pc + 3, stack := v.toList ++ st.map (mm_R σ) }) t2
  rw [e5]
  exact a1
theorem mm_pre {cA : Nat → ClassId} {G : va_G} {σ : Nat → Nat} {A : Nat → Prop} {av : List mm_V} {H : Heap} {s : State} {locs : List Loc} (hK : va_K G vwCl (mm_tys cA) s) (hP : va_P G vwCl (mm_Ws σ cA S M) H) (hD : va_D A (mm_Ws σ cA S M)) (hNs : ∀ w ∈ mm_N, va_Nw w s) (hTx : mm_Tx A s s.heap) (hSS : va_S A s.heap H locs) (hA : ∀ q, s.heap.size ≤ q → A q) : PreS s H (mm_Pc G cA σ av S M H.size) (av.map (mm_R σ)) := by
  refine ⟨?_, ?_⟩
  · intro a U g mk q
    obtain ⟨q0, q1, qP, qK, qD, qN, qT⟩ := q
    exact ⟨q0, q1, qP, va_K.moved (u := U) (U := U.calling g mk a) (Vm.Alike.refl U.vm) qK, qD, fun w hw => va_Nw.same (mm_N_on hw) (u := U) rfl (qN w hw), qT.calling⟩
  · intro U hU hW
    have hsub : ∀ q, va_A (mm_Ws σ cA S M) H.size q → A q := by
      intro q hq
      rcases hq with ⟨k, en, hk⟩ | hq
      · exact hD.2 k _ hk
      · exact hA q (Nat.le_trans hSS.1 hq)
    exact ⟨rfl, by rw [hU], by rw [hU]; exact hP, va_K.moved hW.alike hK, hD.weaken (fun _ _ _ _ => trivial), mm_N_warm hW hNs, by rw [hU]; exact ((hTx.kept hSS.2.1).narrow hsub).warm hW⟩
theorem mm_revmap (σ : Nat → Nat) (av : List mm_V) (st : List mm_V) : (av.reverse ++ st).map (mm_R σ) = (av.map (mm_R σ)).reverse ++ st.map (mm_R σ) := by simp
/-- invokestatic -/
theorem mm_callS (J1 : mm_J) (idx : Nat) {av stk : List mm_V} {d1 mc ms kc' ks' : Nat} {Z1 : Option Int32 → List mm_C → mm_M → Prop} (hg : mm_CallG J.1.cls idx J1 av.length) (hst : Cond.static J1.1 ∈ mm_T) (hd : decode J.2.1 pc = .ok (.invokestatic idx, 3)) (hstk : stk = av.reverse ++ st) (hav : av.length ≤ J1.2.2.1) (hst8 : st.length ≤ 8) (hd1 : d1 < d) (h1 : mc + kc' ≤ kc) (h2 : ms + ks' ≤ ks)
    (hwf : mm_ok S.length L st = true)
    (hm : mm_Meth J1 d1 mc ms av S M Z1) (kk : ∀ r S' M', Z1 r S' M' → mm_nar J1.2.2.2 r → mm_Go J D d kc' ks' (pc + 3) L (r.toList.map Sum.inl ++ st) S' M' Z) : mm_Go J D d kc ks pc L stk S M Z := by
  subst hstk
  intro σ A p e R s m args below meth c H locs cells slots Q ls hAt hF hc hs hW hl
  obtain ⟨hx, hb, hr, hml, hown, hts, ⟨hname, hNs⟩, hR, hK, hA, hXX⟩ := id hAt
  obtain ⟨hσ, hn, hP, hD, hSS⟩ := id hW
  obtain ⟨hpl, hcode, hini, hdd, h45, hlink⟩ := hg
  refine mm_after (J1 := J1) (a := (av.map (mm_R σ)).toArray) (mc := mc) (ms := ms) hAt hF hc hs hW hl h1 h2 (fun σ' h => mm_ok_eq hwf h) ?_ kk
  rw [mm_revmap]
  rcases hlink with h | ⟨host, h⟩
  · exact va_runS ⟨hx, hb, hml, hown, hts⟩ (hm.met hpl hav D.1 D.2.1 D.2.2.1 σ H.size) ⟨callB_of av.length hts (mm_good hcode) rfl rfl rfl (hts _ hini) (hts _ h) hdd ⟨by simp only [mm_room]; omega, by simp only [mm_room]; omega⟩, hts _ hst⟩ (mm_pre hK hP hD hNs hXX.2 hSS hA) rfl (by simp) hl.1 rfl (lv_room (by rw [mm_cats]; exact hst8)) hd ⟨by omega, by omega⟩
  · exact va_runSN (host := host) ⟨hx, hb, hml, hown, hts⟩ (hm.met hpl hav D.1 D.2.1 D.2.2.1 σ H.size) ⟨va_cnB av.length hts (mm_good hcode) rfl rfl rfl (hNs _ h) (hts _ hini) hdd ⟨by simp only [mm_room]; omega, by simp only [mm_room]; omega⟩, hts _ hst, trivial⟩ (mm_pre hK hP hD hNs hXX.2 hSS hA) rfl (by simp) hl.1 rfl (lv_room (by rw [mm_cats]; exact hst8)) hd ⟨by omega, by omega⟩
/-- invokevirtual -/
theorem mm_callV (J1 : mm_J) (idx ci : Nat) {b : Nat} {fs : List (Option (Option Nat))} {av stk : List mm_V} {d1 mc ms kc' ks' : Nat} {Z1 : Option Int32 → List mm_C → mm_M → Prop} (hg : mm_CallG J.1.cls idx J1 av.length) (hin : Cond.instanceMethod J1.1 ∈ mm_T) (hse : Cond.selects J1.1.cls J1.1 J1.1 ∈ mm_T) (hci : ∃ q, vwCl[ci]? = some q ∧ q.1 = J1.1.cls) (hS : S[b]? = some (.inr (ci, fs))) (hd : decode J.2.1 pc = .ok (.invokevirtual idx, 3)) (hstk : stk = av.reverse ++ .inr b :: st) (hav : av.length + 1 ≤ J1.2.2.1) (hst8 : st.length ≤ 8) (hd1 : d1 < d) (h1 : mc + kc' ≤ kc) (h2 : ms + ks' ≤ ks)
    (hwf : mm_ok S.length L st = true)
    (hm : mm_Meth J1 d1 mc ms (.inr b :: av) S M Z1) (kk : ∀ r S' M', Z1 r S' M' → mm_nar J1.2.2.2 r → mm_Go J D d kc' ks' (pc + 3) L (r.toList.map Sum.inl ++ st) S' M' Z) : mm_Go J D d kc ks pc L stk S M Z := by
  subst hstk
  intro σ A p e R s m args below meth c H locs cells slots Q ls hAt hF hc hs hW hl
  obtain ⟨hx, hb, hr, hml, hown, hts, ⟨hname, hNs⟩, hR, hK, hA, hXX⟩ := id hAt
  obtain ⟨hσ, hn, hP, hD, hSS⟩ := id hW
  obtain ⟨hpl, hcode, hini, hdd, h45, hlink⟩ := hg
  obtain ⟨q, hq, hqc⟩ := hci
  have hrecv := va_recv hK hP hq (mm_Ws_get hS)
  rw [hqc] at hrecv
  refine mm_after (J1 := J1) (a := (Value.ref (σ b) :: av.map (mm_R σ)).toArray) (mc := mc) (ms := ms) hAt hF hc hs hW hl h1 h2 (fun σ' h => mm_ok_eq hwf h) ?_ kk
  have est : (av.reverse ++ .inr b :: st).map (mm_R σ) = (av.map (mm_R σ)).reverse ++ Value.ref (σ b) :: st.map (mm_R σ) := by simp [mm_R]
  rw [est]
  have hpre := mm_pre (av := .inr b :: av) hK hP hD hNs hXX.2 hSS hA
  rcases hlink with h | ⟨host, h⟩
  · exact va_runV ⟨hx, hb, hml, hown, hts⟩ (hm.met hpl hav D.1 D.2.1 D.2.2.1 σ H.size) ⟨callB_of av.length hts (mm_good hcode) rfl rfl rfl (hts _ hini) (hts _ h) hdd ⟨by simp only [mm_room]; omega, by simp only [mm_room]; omega⟩, hts _ hin, hts _ hse⟩ ⟨hpre.1, hrecv, hpre.2⟩ rfl (by simp) hl.1 rfl (lv_room (by rw [mm_cats]; exact hst8)) hd ⟨by omega, by omega⟩
  · exact va_runVN (host := host) ⟨hx, hb, hml, hown, hts⟩ (hm.met hpl hav D.1 D.2.1 D.2.2.1 σ H.size) ⟨va_cnB av.length hts (mm_good hcode) rfl rfl rfl (hNs _ h) (hts _ hini) hdd ⟨by simp only [mm_room]; omega, by simp only [mm_room]; omega⟩, hts _ hin, hts _ hse⟩ ⟨hpre.1, hrecv, hpre.2⟩ rfl (by simp) hl.1 rfl (lv_room (by rw [mm_cats]; exact hst8)) hd ⟨by omega, by omega⟩
/-- invokespecial of a constructor -/
theorem mm_callI (J1 : mm_J) (idx : Nat) {b : Nat} {av stk : List mm_V} {d1 mc ms kc' ks' : Nat} {Z1 : Option Int32 → List mm_C → mm_M → Prop} (hg : mm_CallG J.1.cls idx J1 av.length) (hin : Cond.instanceMethod J1.1 ∈ mm_T) (hnm : J1.1.name = "<init>") (hrt : J1.2.2.2 = none) (hd : decode J.2.1 pc = .ok (.invokespecial idx, 3)) (hstk : stk = av.reverse ++ .inr b :: st) (hav : av.length + 1 ≤ J1.2.2.1) (hst8 : st.length ≤ 8) (hd1 : d1 < d) (h1 : mc + kc' ≤ kc) (h2 : ms + ks' ≤ ks)
    (hwf : mm_ok S.length L st = true)
    (hm : mm_Meth J1 d1 mc ms (.inr b :: av) S M Z1) (kk : ∀ r S' M', Z1 r S' M' → mm_nar J1.2.2.2 r → mm_Go J D d kc' ks' (pc + 3) L (r.toList.map Sum.inl ++ st) S' M' Z) : mm_Go J D d kc ks pc L stk S M Z := by
  subst hstk
  obtain ⟨y1, c1, n1, r1⟩ := J1
  dsimp only at hrt
  subst hrt
  intro σ A p e R s m args below meth c H locs cells slots Q ls hAt hF hc hs hW hl
  obtain ⟨hx, hb, hr, hml, hown, hts, ⟨hname, hNs⟩, hR, hK, hA, hXX⟩ := id hAt
  obtain ⟨hσ, hn, hP, hD, hSS⟩ := id hW
  obtain ⟨hpl, hcode, hini, hdd, h45, hlink⟩ := hg
  dsimp only at hpl hcode hini hdd h45 hlink hin hnm hav
  refine mm_after (J1 := (y1, c1, n1, none)) (a := (Value.ref (σ b) :: av.map (mm_R σ)).toArray) (mc := mc) (ms := ms) hAt hF hc hs hW hl h1 h2 (fun σ' h => mm_ok_eq hwf h) ?_ kk
  have est : (av.reverse ++ .inr b :: st).map (mm_R σ) = (av.map (mm_R σ)).reverse ++ Value.ref (σ b) :: st.map (mm_R σ) := by simp [mm_R]
  rw [est]
  have hpre := mm_pre (av := .inr b :: av) hK hP hD hNs hXX.2 hSS hA
  have hM := hm.met hpl hav D.1 D.2.1 D.2.2.1 σ H.size
  rcases hlink with h | ⟨host, h⟩
  · exact va_runI ⟨hx, hb, hml, hown, hts⟩ hM ⟨callB_of av.length hts (mm_good hcode) rfl rfl rfl (hts _ hini) (hts _ h) hdd ⟨by simp only [mm_room]; omega, by simp only [mm_room]; omega⟩, hnm, hts _ hin⟩ hpre rfl (by simp) hl.1 rfl (lv_room (by rw [mm_cats]; exact hst8)) hd ⟨by omega, by omega⟩
  · exact va_runIN (host := host) ⟨hx, hb, hml, hown, hts⟩ hM ⟨va_cnB av.length hts (mm_good hcode) rfl rfl rfl (hNs _ h) (hts _ hini) hdd ⟨by simp only [mm_room]; omega, by simp only [mm_room]; omega⟩, hnm, hts _ hin⟩ hpre rfl (by simp) hl.1 rfl (lv_room (by rw [mm_cats]; exact hst8)) hd ⟨by omega, by omega⟩
end CALLS
