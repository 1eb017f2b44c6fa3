section RULEH
variable {J : mm_J} {D : mm_D} {d kc ks pc : Nat} {L : List (Option mm_V)} {st : List mm_V} {S : List mm_C} {M : mm_M} {Z : Option Int32 → List mm_C → mm_M → Prop}
theorem mm_get (idx ci k : Nat) {a : Nat} {fs : List (Option (Option Nat))} {f : Option (Option Nat)} (hlk : mm_Link J.1.cls idx ci k) (hd : decode J.2.1 pc = .ok (.getfield idx, 3)) (hS : S[a]? = some (.inr (ci, fs))) (hf : fs[k]? = some f) {v : mm_V} (hv : (match f with | none => v = .inl (M a k) | some none => False | some (some b) => v = .inr b)) (kk : mm_Go J D d kc ks (pc + 3) L (v :: st) S M Z) : mm_Go J D d kc ks pc L (.inr a :: st) S M Z := by
  intro σ A p e R s m args below meth c H locs cells slots Q ls hAt hF hc hs hW hl
  have K := kk σ A p e R s m args below meth c H locs cells slots Q ls hAt hF hc hs hW hl
  obtain ⟨hx, hb, -, -, hown, hts, ⟨-, hNs⟩, -, hK, -, -⟩ := hAt
  obtain ⟨-, -, hP, -, -⟩ := hW
  obtain ⟨C, T, N, hC, hk, hin, hlink⟩ := hlk
  have hg := mm_Ws_get (σ := σ) (cA := D.2.2.1) (M := M) hS
  have hfv : (fs.mapIdx (mm_F σ (M a)))[k]? = some (mm_R σ v) := by
    simp only [List.getElem?_mapIdx, hf, Option.map_some]
    cases f with
    | none => cases hv; rfl
    | some f => cases f with
      | none => cases hv
      | some b => cases hv; rfl
  rcases hlink with h | ⟨host, h⟩
  · exact va_get (v := mm_R σ v) hx hb hts hin hown hK hP a hg hC k hk (hts _ h) (fun _ h => h) hfv hd K
  · exact va_getN (v := mm_R σ v) hx hb hts hin hown hK hP a hg hC k hk (va_Nw.use rfl (hNs _ h)) (fun _ h => h) hfv hd K
theorem mm_put (idx ci k : Nat) {a : Nat} {fs : List (Option (Option Nat))} {v : Int32} {ty : FieldType} (hlk : mm_Link J.1.cls idx ci k) (hty : mm_Ty ci k ty false) (hd : decode J.2.1 pc = .ok (.putfield idx, 3)) (hS : S[a]? = some (.inr (ci, fs))) (hf : fs[k]? = some none) (hn : narrow ty (.int v) = .int v) (hfit : fits ty (.int v) = true) (kk : mm_Go J D d kc ks (pc + 3) L st S (mm_U M a k v) Z) : mm_Go J D d kc ks pc L (.inl v :: .inr a :: st) S M Z := by
  intro σ A p e R s m args below meth c H locs cells slots Q ls hAt hF hc hs hW hl
  have K := fun H1 locs1 hW1 => kk σ A p e R s m args below meth c H1 locs1 cells slots Q ls hAt hF hc hs hW1 hl
  obtain ⟨hx, hb, -, -, hown, hts, ⟨-, hNs⟩, -, hK, -, -⟩ := hAt
  obtain ⟨hσ, hn0, hP, hD, hSS⟩ := hW
  obtain ⟨C, T, N, hC, hk, hin, hlink⟩ := hlk
  obtain ⟨C', T', N', ty0, hC', hpt, hnm, hpd, hfin, -⟩ := hty
  have he : (C', T', N') = (C, T, N) := Option.some.inj (hC'.symm.trans hC)
  cases he
  have hg := mm_Ws_get (σ := σ) (cA := D.2.2.1) (M := M) hS
  have hlen : k < (fs.mapIdx (mm_F σ (M a))).length := by
    have := (List.getElem?_eq_some_iff.mp hf).1
    simpa using this
  have hset : (mm_Ws σ D.2.2.1 S M).set a (σ a, .inr (ci, (fs.mapIdx (mm_F σ (M a))).set k (.int v))) = mm_Ws σ D.2.2.1 S (mm_U M a k v) := by
    refine mm_Ws_set hS (fun _ _ => rfl) (fun j h => mm_U_ne j h) ?_
    rw [hS, mm_U_eq, mm_F_upd hf]
    rfl
  have fin : ∀ (H1 : Heap) (locs1 : List Loc), va_P D.2.1 vwCl ((mm_Ws σ D.2.2.1 S M).set a (σ a, .inr (ci, (fs.mapIdx (mm_F σ (M a))).set k (.int v)))) H1 → va_D A ((mm_Ws σ D.2.2.1 S M).set a (σ a, .inr (ci, (fs.mapIdx (mm_F σ (M a))).set k (.int v)))) → va_S A s.heap H1 locs1 → W p D.1 e R s m args below meth c H1 locs1 cells slots Q (F0 m (pc + 3) ls (st.map (mm_R σ))) := by
    intro H1 locs1 g1 g2 g3
    rw [hset] at g1 g2
    exact K H1 locs1 ⟨hσ, hn0, g1, g2, g3⟩
  rcases hlink with h | ⟨host, h⟩
  · exact va_put hx hb hts hin ty0 hpt hnm hown hK hP hD hSS a hg hC k hk (hts _ h) (fun _ h => h) hfin hpd hn hfit hlen hd fin
  · exact va_putN hx hb hts hin ty0 hpt hnm hown hK hP hD hSS a hg hC k hk (va_Nw.use rfl (hNs _ h)) (fun _ h => h) hfin hpd hn hfit hlen hd fin
theorem mm_narI (v : Int32) : narrow .int (.int v) = .int v := rfl
theorem mm_fitI (v : Int32) : fits .int (.int v) = true := rfl
theorem mm_putr (idx ci k : Nat) {a b : Nat} {fs : List (Option (Option Nat))} {o : Option Nat} {ty : FieldType} (hlk : mm_Link J.1.cls idx ci k) (hty : mm_Ty ci k ty false) (hd : decode J.2.1 pc = .ok (.putfield idx, 3)) (hS : S[a]? = some (.inr (ci, fs))) (hf : fs[k]? = some (some o)) (hn : ∀ z, narrow ty (.ref z) = .ref z) (hfit : ∀ z, fits ty (.ref z) = true) (kk : mm_Go J D d kc ks (pc + 3) L st (S.set a (.inr (ci, fs.set k (some (some b))))) M Z) : mm_Go J D d kc ks pc L (.inr b :: .inr a :: st) S M Z := by
  intro σ A p e R s m args below meth c H locs cells slots Q ls hAt hF hc hs hW hl
  have K := fun H1 locs1 hW1 => kk σ A p e R s m args below meth c H1 locs1 cells slots Q ls hAt hF hc hs hW1 hl
  obtain ⟨hx, hb, -, -, hown, hts, ⟨-, hNs⟩, -, hK, -, -⟩ := hAt
  obtain ⟨hσ, hn0, hP, hD, hSS⟩ := hW
  obtain ⟨C, T, N, hC, hk, hin, hlink⟩ := hlk
  obtain ⟨C', T', N', ty0, hC', hpt, hnm, hpd, hfin, -⟩ := hty
  have he : (C', T', N') = (C, T, N) := Option.some.inj (hC'.symm.trans hC)
  cases he
  have hg := mm_Ws_get (σ := σ) (cA := D.2.2.1) (M := M) hS
  have hlt : a < S.length := (List.getElem?_eq_some_iff.mp hS).1
  have hlen : k < (fs.mapIdx (mm_F σ (M a))).length := by
    have := (List.getElem?_eq_some_iff.mp hf).1
    simpa using this
  have hset : (mm_Ws σ D.2.2.1 S M).set a (σ a, .inr (ci, (fs.mapIdx (mm_F σ (M a))).set k (.ref (σ b)))) = mm_Ws σ D.2.2.1 (S.set a (.inr (ci, fs.set k (some (some b))))) M := by
    refine mm_Ws_set hS (fun j h => List.getElem?_set_ne (Ne.symm h)) (fun j h => rfl) ?_
    rw [List.getElem?_set_self hlt, mm_F_set]
    rfl
  have fin : ∀ (H1 : Heap) (locs1 : List Loc), va_P D.2.1 vwCl ((mm_Ws σ D.2.2.1 S M).set a (σ a, .inr (ci, (fs.mapIdx (mm_F σ (M a))).set k (.ref (σ b))))) H1 → va_D A ((mm_Ws σ D.2.2.1 S M).set a (σ a, .inr (ci, (fs.mapIdx (mm_F σ (M a))).set k (.ref (σ b))))) → va_S A s.heap H1 locs1 → W p D.1 e R s m args below meth c H1 locs1 cells slots Q (F0 m (pc + 3) ls (st.map (mm_R σ))) := by
    intro H1 locs1 g1 g2 g3
    rw [hset] at g1 g2
    exact K H1 locs1 ⟨hσ, by simpa using hn0, g1, g2, g3⟩
  rcases hlink with h | ⟨host, h⟩
  · exact va_put hx hb hts hin ty0 hpt hnm hown hK hP hD hSS a hg hC k hk (hts _ h) (fun _ h => h) hfin hpd (hn _) (hfit _) hlen hd fin
  · exact va_putN hx hb hts hin ty0 hpt hnm hown hK hP hD hSS a hg hC k hk (va_Nw.use rfl (hNs _ h)) (fun _ h => h) hfin hpd (hn _) (hfit _) hlen hd fin
/-- a final field, in the constructor of its own class -/
theorem mm_putF (idx ci k : Nat) {a b : Nat} {fs : List (Option (Option Nat))} {o : Option Nat} {ty : FieldType} (hlk : ∃ (C : String) (T : u_T) (N : Nat), vwCl[ci]? = some (C, T, N) ∧ k < N ∧ (∀ w ∈ u_ws C T N, w ∈ mm_T) ∧ Cond.fieldLink J.1.cls idx (T k).1 (T k).2.1 (T k).2.2.1 ∈ mm_T ∧ C = J.1.cls) (hini : J.1.name = "<init>") (hty : mm_Ty ci k ty true) (hd : decode J.2.1 pc = .ok (.putfield idx, 3)) (hS : S[a]? = some (.inr (ci, fs))) (hf : fs[k]? = some (some o)) (hn : ∀ z, narrow ty (.ref z) = .ref z) (hfit : ∀ z, fits ty (.ref z) = true) (kk : mm_Go J D d kc ks (pc + 3) L st (S.set a (.inr (ci, fs.set k (some (some b))))) M Z) : mm_Go J D d kc ks pc L (.inr b :: .inr a :: st) S M Z := by
  intro σ A p e R s m args below meth c H locs cells slots Q ls hAt hF hc hs hW hl
  have K := fun H1 locs1 hW1 => kk σ A p e R s m args below meth c H1 locs1 cells slots Q ls hAt hF hc hs hW1 hl
  obtain ⟨hx, hb, -, -, hown, hts, ⟨hname, hNs⟩, -, hK, -, -⟩ := hAt
  obtain ⟨hσ, hn0, hP, hD, hSS⟩ := hW
  obtain ⟨C, T, N, hC, hk, hin, hlink, hcls⟩ := hlk
  obtain ⟨C', T', N', ty0, hC', hpt, hnm, hpd, hfin, hdecl⟩ := hty
  have he : (C', T', N') = (C, T, N) := Option.some.inj (hC'.symm.trans hC)
  cases he
  have hg := mm_Ws_get (σ := σ) (cA := D.2.2.1) (M := M) hS
  have hlt : a < S.length := (List.getElem?_eq_some_iff.mp hS).1
  have hlen : k < (fs.mapIdx (mm_F σ (M a))).length := by
    have := (List.getElem?_eq_some_iff.mp hf).1
    simpa using this
  have hset : (mm_Ws σ D.2.2.1 S M).set a (σ a, .inr (ci, (fs.mapIdx (mm_F σ (M a))).set k (.ref (σ b)))) = mm_Ws σ D.2.2.1 (S.set a (.inr (ci, fs.set k (some (some b))))) M := by
    refine mm_Ws_set hS (fun j h => List.getElem?_set_ne (Ne.symm h)) (fun j h => rfl) ?_
    rw [List.getElem?_set_self hlt, mm_F_set]
    rfl
  refine va_putF hx hb hts hin ty0 hpt hnm hown hK hP hD hSS a hg hC k hk (hts _ hlink) (fun _ h => h) hfin (by rw [hname]; exact hini) (hdecl.trans hcls) hpd (hn _) (hfit _) hlen hd ?_
  intro H1 locs1 g1 g2 g3
  rw [show mm_R σ (Sum.inr b) = Value.ref (σ b) from rfl, hset] at g1 g2
  exact K H1 locs1 ⟨hσ, by simpa using hn0, g1, g2, g3⟩
theorem mm_iald {a n : Nat} {i : Int32} (hd : decode J.2.1 pc = .ok (.iaload, 1)) (hS : S[a]? = some (.inl (0, n))) (hin : vp_in i n) (kk : mm_Go J D d kc ks (pc + 1) L (.inl (M a i.toNatClampNeg) :: st) S M Z) : mm_Go J D d kc ks pc L (.inl i :: .inr a :: st) S M Z := by
  intro σ A p e R s m args below meth c H locs cells slots Q ls hAt hF hc hs hW hl
  have K := kk σ A p e R s m args below meth c H locs cells slots Q ls hAt hF hc hs hW hl
  obtain ⟨hx, hb, -, -, hown, hts, ⟨-, hNs⟩, -, hK, -, -⟩ := hAt
  obtain ⟨-, -, hP, -, -⟩ := hW
  exact va_iald hx hb hK hP a 0 (mm_Ws_get hS) rfl hin hd K
theorem mm_bald {a n : Nat} {i : Int32} (hd : decode J.2.1 pc = .ok (.baload, 1)) (hS : S[a]? = some (.inl (1, n))) (hin : vp_in i n) (kk : mm_Go J D d kc ks (pc + 1) L (.inl (M a i.toNatClampNeg) :: st) S M Z) : mm_Go J D d kc ks pc L (.inl i :: .inr a :: st) S M Z := by
  intro σ A p e R s m args below meth c H locs cells slots Q ls hAt hF hc hs hW hl
  have K := kk σ A p e R s m args below meth c H locs cells slots Q ls hAt hF hc hs hW hl
  obtain ⟨hx, hb, -, -, hown, hts, ⟨-, hNs⟩, -, hK, -, -⟩ := hAt
  obtain ⟨-, -, hP, -, -⟩ := hW
  exact va_bald hx hb hK hP a 1 (mm_Ws_get hS) rfl hin hd K
theorem mm_iast {a n : Nat} {i x : Int32} (hd : decode J.2.1 pc = .ok (.iastore, 1)) (hS : S[a]? = some (.inl (0, n))) (hin : vp_in i n) (kk : mm_Go J D d kc ks (pc + 1) L st S (mm_U M a i.toNatClampNeg x) Z) : mm_Go J D d kc ks pc L (.inl x :: .inl i :: .inr a :: st) S M Z := by
  intro σ A p e R s m args below meth c H locs cells slots Q ls hAt hF hc hs hW hl
  have K := fun H1 locs1 hW1 => kk σ A p e R s m args below meth c H1 locs1 cells slots Q ls hAt hF hc hs hW1 hl
  obtain ⟨hx, hb, -, -, hown, hts, ⟨-, hNs⟩, -, hK, -, -⟩ := hAt
  obtain ⟨hσ, hn0, hP, hD, hSS⟩ := hW
  refine va_iast hx hb hK hP hD hSS a 0 (mm_Ws_get hS) rfl hin hd ?_
  intro H1 locs1 g1 g2 g3
  rw [mm_Ws_set (S' := S) (M' := mm_U M a i.toNatClampNeg x) hS (fun _ _ => rfl) (fun j h => mm_U_ne j h) (by rw [hS, mm_U_eq]; rfl)] at g1 g2
  exact K H1 locs1 ⟨hσ, hn0, g1, g2, g3⟩
theorem mm_bast {a n : Nat} {i x : Int32} (hd : decode J.2.1 pc = .ok (.bastore, 1)) (hS : S[a]? = some (.inl (1, n))) (hin : vp_in i n) (kk : mm_Go J D d kc ks (pc + 1) L st S (mm_U M a i.toNatClampNeg x.toInt8.toInt32) Z) : mm_Go J D d kc ks pc L (.inl x :: .inl i :: .inr a :: st) S M Z := by
  intro σ A p e R s m args below meth c H locs cells slots Q ls hAt hF hc hs hW hl
  have K := fun H1 locs1 hW1 => kk σ A p e R s m args below meth c H1 locs1 cells slots Q ls hAt hF hc hs hW1 hl
  obtain ⟨hx, hb, -, -, hown, hts, ⟨-, hNs⟩, -, hK, -, -⟩ := hAt
  obtain ⟨hσ, hn0, hP, hD, hSS⟩ := hW
  refine va_bast hx hb hK hP hD hSS a 1 (mm_Ws_get hS) rfl hin hd ?_
  intro H1 locs1 g1 g2 g3
  rw [mm_Ws_set (S' := S) (M' := mm_U M a i.toNatClampNeg x.toInt8.toInt32) hS (fun _ _ => rfl) (fun j h => mm_U_ne j h) (by rw [hS, mm_U_eq, vp_nar_byte]; rfl)] at g1 g2
  exact K H1 locs1 ⟨hσ, hn0, g1, g2, g3⟩
theorem mm_alen {a n k : Nat} (hd : decode J.2.1 pc = .ok (.arraylength, 1)) (hk : k = 0 ∨ k = 1) (hS : S[a]? = some (.inl (k, n))) (kk : mm_Go J D d kc ks (pc + 1) L (.inl (Int32.ofNat n) :: st) S M Z) : mm_Go J D d kc ks pc L (.inr a :: st) S M Z := by
  intro σ A p e R s m args below meth c H locs cells slots Q ls hAt hF hc hs hW hl
  have K := kk σ A p e R s m args below meth c H locs cells slots Q ls hAt hF hc hs hW hl
  obtain ⟨hx, hb, -, -, hown, hts, ⟨-, hNs⟩, -, hK, -, -⟩ := hAt
  obtain ⟨-, -, hP, -, -⟩ := hW
  rcases hk with rfl | rfl
  · exact va_alen hx hb hK hP a 0 (mm_Ws_get hS) rfl rfl hd K
  · exact va_alen hx hb hK hP a 1 (mm_Ws_get hS) rfl rfl hd K
/-- the law's own script -/
theorem mm_sld {x : Nat × (Nat → Int32)} {i : Int32} (hX : D.2.2.2.1 = some x) (hd : decode J.2.1 pc = .ok (.iaload, 1)) (hin : vp_in i x.1) (kk : mm_Go J D d kc ks (pc + 1) L (.inl (x.2 i.toNatClampNeg) :: st) S M Z) : mm_Go J D d kc ks pc L (.inl i :: .inr 4000 :: st) S M Z := by
  intro σ A p e R s m args below meth c H locs cells slots Q ls hAt hF hc hs hW hl
  have K := kk σ A p e R s m args below meth c H locs cells slots Q ls hAt hF hc hs hW hl
  obtain ⟨hx, hb, -, -, hown, hts, -, -, hK, -, hXX, -⟩ := hAt
  obtain ⟨hσ, -, hP, -, hSS⟩ := hW
  obtain ⟨h1, h2, h3⟩ := hXX x hX
  have e4 : mm_R σ (.inr 4000) = .ref (D.2.2.2.2.1 4000) := by
    show Value.ref (σ 4000) = _
    rw [hσ 4000 (Or.inr rfl)]
  show W _ _ _ _ _ _ _ _ _ _ _ _ _ _ _ (F0 m pc ls (.int i :: mm_R σ (.inr 4000) :: st.map (mm_R σ)))
  rw [e4]
  exact va_sld hx hb h1 h2 h3 hSS hin hd K
theorem mm_slen {x : Nat × (Nat → Int32)} (hX : D.2.2.2.1 = some x) (hd : decode J.2.1 pc = .ok (.arraylength, 1)) (kk : mm_Go J D d kc ks (pc + 1) L (.inl (Int32.ofNat x.1) :: st) S M Z) : mm_Go J D d kc ks pc L (.inr 4000 :: st) S M Z := by
  intro σ A p e R s m args below meth c H locs cells slots Q ls hAt hF hc hs hW hl
  have K := kk σ A p e R s m args below meth c H locs cells slots Q ls hAt hF hc hs hW hl
  obtain ⟨hx, hb, -, -, hown, hts, -, -, hK, -, hXX, -⟩ := hAt
  obtain ⟨hσ, -, hP, -, hSS⟩ := hW
  obtain ⟨h1, h2, h3⟩ := hXX x hX
  have e4 : mm_R σ (.inr 4000) = .ref (D.2.2.2.2.1 4000) := by
    show Value.ref (σ 4000) = _
    rw [hσ 4000 (Or.inr rfl)]
  show W _ _ _ _ _ _ _ _ _ _ _ _ _ _ _ (F0 m pc ls (mm_R σ (.inr 4000) :: st.map (mm_R σ)))
  rw [e4]
  exact va_slen hx hb h1 h2 h3 hSS hd K
theorem mm_ret {v : Int32} (hd : decode J.2.1 pc = .ok (.ireturn, 1)) (hr : ∃ ty, J.2.2.2 = some ty) (hn : mm_nar J.2.2.2 (some v)) (hZ : Z (some v) S M) : mm_Go J D d kc ks pc L [.inl v] S M Z := by
  intro σ A p e R s m args below meth c H locs cells slots Q ls hAt hF hc hs hW hl
  exact hF σ (some v) S M H locs cells slots pc ls (by omega) (by omega) hW hZ hn ⟨hr, hd⟩
theorem mm_retv (hd : decode J.2.1 pc = .ok (.return_, 1)) (hr : J.2.2.2 = none) (hZ : Z none S M) : mm_Go J D d kc ks pc L [] S M Z := by
  intro σ A p e R s m args below meth c H locs cells slots Q ls hAt hF hc hs hW hl
  exact hF σ none S M H locs cells slots pc ls (by omega) (by omega) hW hZ (fun ty v h => by rw [hr] at h; cases h) ⟨hr, hd⟩
theorem mm_tableIn {dflt lo hi : Int} {offs : Array Int} {len : Nat} {x : Int32} {off : Int} (tgt : Nat) (hd : decode J.2.1 pc = .ok (.tableswitch dflt lo hi offs, len)) (h1 : ¬ x.toInt < lo) (h2 : ¬ hi < x.toInt) (ho : offs[(x.toInt - lo).toNat]? = some off) (ht : (pc : Int) + off = (tgt : Int)) (kk : mm_Go J D d kc ks tgt L st S M Z) : mm_Go J D d kc ks pc L (.inl x :: st) S M Z := by
  intro σ A p e R s m args below meth c H locs cells slots Q ls hAt hF hc hs hW hl
  exact lv_tableIn hAt.1 hAt.2.1 hd h1 h2 ho ht (kk σ A p e R s m args below meth c H locs cells slots Q ls hAt hF hc hs hW hl)
theorem mm_tableOut {dflt lo hi : Int} {offs : Array Int} {len : Nat} {x : Int32} (tgt : Nat) (hd : decode J.2.1 pc = .ok (.tableswitch dflt lo hi offs, len)) (h : x.toInt < lo ∨ hi < x.toInt) (ht : (pc : Int) + dflt = (tgt : Int)) (kk : mm_Go J D d kc ks tgt L st S M Z) : mm_Go J D d kc ks pc L (.inl x :: st) S M Z := by
  intro σ A p e R s m args below meth c H locs cells slots Q ls hAt hF hc hs hW hl
  exact lv_tableOut hAt.1 hAt.2.1 hd h ht (kk σ A p e R s m args below meth c H locs cells slots Q ls hAt hF hc hs hW hl)
theorem mm_lookup {dflt : Int} {ps : Array (Int × Int)} {len : Nat} {x : Int32} {off : Int} (tgt : Nat) (hd : decode J.2.1 pc = .ok (.lookupswitch dflt ps, len)) (hp : (ps.toList.zip (ps.toList.drop 1)).all (fun (a, next) => a.1 < next.1) = true) (ho : Op.lookupswitch.offset ps.toList dflt x.toInt = off) (ht : (pc : Int) + off = (tgt : Int)) (kk : mm_Go J D d kc ks tgt L st S M Z) : mm_Go J D d kc ks pc L (.inl x :: st) S M Z := by
  intro σ A p e R s m args below meth c H locs cells slots Q ls hAt hF hc hs hW hl
  exact lv_lookup hAt.1 hAt.2.1 hd hp ho ht (kk σ A p e R s m args below meth c H locs cells slots Q ls hAt hF hc hs hW hl)
end RULEH
