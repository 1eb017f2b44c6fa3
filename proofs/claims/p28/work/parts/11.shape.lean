def S_c : List mm_C := [.inr (8, [some (some 1), some (some 3), some (some 4), some (some 5), some (some 6), none, some (some 7), some (some 10), some (some 13), some (some 20), some (some 27), some (some 29), some (some 31), some (some 36)]), .inr (5, [some (some 2), none, none, none, none, none]), .inl (0, 260), .inl (0, 8), .inr (4, [none, none, none, none, none, none, none, none]), .inr (4, [none, none, none, none, none, none, none, none]), .inr (4, [none, none, none, none, none, none, none, none]), .inr (6, [none, some (some 8), some (some 9)]), .inl (0, 80), .inl (0, 80), .inr (6, [none, some (some 11), some (some 12)]), .inl (0, 80), .inl (0, 80), .inr (1, [none, some (some 14), some (some 15), some (some 16), none, some (some 17), some (some 18), some (some 19), none, none]), .inl (0, 16), .inl (0, 16), .inl (0, 16), .inl (0, 256), .inl (0, 256), .inl (0, 64), .inr (1, [none, some (some 21), some (some 22), some (some 23), none, some (some 24), some (some 25), some (some 26), none, none]), .inl (0, 16), .inl (0, 16), .inl (0, 16), .inl (0, 256), .inl (0, 256), .inl (0, 64), .inr (2, [some (some 28), none]), .inl (0, 40), .inr (0, [some (some 30), none, none]), .inl (0, 9), .inr (7, [some (some 32), some (some 33), some (some 34), some (some 35)]), .inl (0, 8), .inl (0, 10), .inl (0, 100), .inl (0, 90), .inr (3, [some (some 37), some (some 38), some (some 39), some (some 40), some (some 41), some (some 42), none, none]), .inl (0, 1024), .inl (0, 1024), .inl (0, 1024), .inl (0, 10), .inl (0, 10), .inl (0, 10)]
theorem sc_c_0 : S_c[0]? = some (.inr (8, [some (some 1), some (some 3), some (some 4), some (some 5), some (some 6), none, some (some 7), some (some 10), some (some 13), some (some 20), some (some 27), some (some 29), some (some 31), some (some 36)])) := rfl
theorem sc_c_1 : S_c[1]? = some (.inr (5, [some (some 2), none, none, none, none, none])) := rfl
theorem sc_c_2 : S_c[2]? = some (.inl (0, 260)) := rfl
theorem sc_c_3 : S_c[3]? = some (.inl (0, 8)) := rfl
theorem sc_c_4 : S_c[4]? = some (.inr (4, [none, none, none, none, none, none, none, none])) := rfl
theorem sc_c_5 : S_c[5]? = some (.inr (4, [none, none, none, none, none, none, none, none])) := rfl
theorem sc_c_6 : S_c[6]? = some (.inr (4, [none, none, none, none, none, none, none, none])) := rfl
theorem sc_c_7 : S_c[7]? = some (.inr (6, [none, some (some 8), some (some 9)])) := rfl
theorem sc_c_8 : S_c[8]? = some (.inl (0, 80)) := rfl
theorem sc_c_9 : S_c[9]? = some (.inl (0, 80)) := rfl
theorem sc_c_10 : S_c[10]? = some (.inr (6, [none, some (some 11), some (some 12)])) := rfl
theorem sc_c_11 : S_c[11]? = some (.inl (0, 80)) := rfl
theorem sc_c_12 : S_c[12]? = some (.inl (0, 80)) := rfl
theorem sc_c_13 : S_c[13]? = some (.inr (1, [none, some (some 14), some (some 15), some (some 16), none, some (some 17), some (some 18), some (some 19), none, none])) := rfl
theorem sc_c_14 : S_c[14]? = some (.inl (0, 16)) := rfl
theorem sc_c_15 : S_c[15]? = some (.inl (0, 16)) := rfl
theorem sc_c_16 : S_c[16]? = some (.inl (0, 16)) := rfl
theorem sc_c_17 : S_c[17]? = some (.inl (0, 256)) := rfl
theorem sc_c_18 : S_c[18]? = some (.inl (0, 256)) := rfl
theorem sc_c_19 : S_c[19]? = some (.inl (0, 64)) := rfl
theorem sc_c_20 : S_c[20]? = some (.inr (1, [none, some (some 21), some (some 22), some (some 23), none, some (some 24), some (some 25), some (some 26), none, none])) := rfl
theorem sc_c_21 : S_c[21]? = some (.inl (0, 16)) := rfl
theorem sc_c_22 : S_c[22]? = some (.inl (0, 16)) := rfl
theorem sc_c_23 : S_c[23]? = some (.inl (0, 16)) := rfl
theorem sc_c_24 : S_c[24]? = some (.inl (0, 256)) := rfl
theorem sc_c_25 : S_c[25]? = some (.inl (0, 256)) := rfl
theorem sc_c_26 : S_c[26]? = some (.inl (0, 64)) := rfl
theorem sc_c_27 : S_c[27]? = some (.inr (2, [some (some 28), none])) := rfl
theorem sc_c_28 : S_c[28]? = some (.inl (0, 40)) := rfl
theorem sc_c_29 : S_c[29]? = some (.inr (0, [some (some 30), none, none])) := rfl
theorem sc_c_30 : S_c[30]? = some (.inl (0, 9)) := rfl
theorem sc_c_31 : S_c[31]? = some (.inr (7, [some (some 32), some (some 33), some (some 34), some (some 35)])) := rfl
theorem sc_c_32 : S_c[32]? = some (.inl (0, 8)) := rfl
theorem sc_c_33 : S_c[33]? = some (.inl (0, 10)) := rfl
theorem sc_c_34 : S_c[34]? = some (.inl (0, 100)) := rfl
theorem sc_c_35 : S_c[35]? = some (.inl (0, 90)) := rfl
theorem sc_c_36 : S_c[36]? = some (.inr (3, [some (some 37), some (some 38), some (some 39), some (some 40), some (some 41), some (some 42), none, none])) := rfl
theorem sc_c_37 : S_c[37]? = some (.inl (0, 1024)) := rfl
theorem sc_c_38 : S_c[38]? = some (.inl (0, 1024)) := rfl
theorem sc_c_39 : S_c[39]? = some (.inl (0, 1024)) := rfl
theorem sc_c_40 : S_c[40]? = some (.inl (0, 10)) := rfl
theorem sc_c_41 : S_c[41]? = some (.inl (0, 10)) := rfl
theorem sc_c_42 : S_c[42]? = some (.inl (0, 10)) := rfl
def S_m : List mm_C := [.inr (9, [some (some 1), some (some 2), some (some 3), some (some 4), some (some 5), some (some 6), none, some (some 7), none, none, none, none, none, none, none, none, none, none, some (some 8), some (some 9), some (some 10), some (some 11), some (some 12), some (some 13), some (some 14), some (some 15), some (some 16), some (some 17), some (some 18), some (some 19), some (some 20), some (some 21), some (some 22), none, none, none, none, some (some 23), some (some 24), some (some 25), some (some 26), none, none, none, none, none, none, none, none, some (some 27), some (some 28), some (some 29), some (some 30), some (some 31), some (some 32), some (some 33), some (some 34), none, some (some 35), some (some 36), none]), .inl (0, 8), .inl (0, 8), .inl (0, 8), .inl (0, 8), .inl (0, 80), .inl (0, 80), .inl (1, 260), .inl (0, 260), .inl (0, 260), .inl (0, 16), .inl (0, 16), .inl (0, 16), .inl (0, 16), .inl (0, 260), .inl (0, 16), .inl (0, 16), .inl (0, 16), .inl (0, 16), .inl (0, 260), .inl (0, 9), .inl (0, 80), .inl (0, 80), .inl (0, 40), .inl (0, 2), .inl (0, 2), .inl (0, 2), .inl (0, 10), .inl (0, 1024), .inl (0, 10), .inl (0, 100), .inl (0, 1024), .inl (0, 1024), .inl (0, 1024), .inl (0, 1024), .inl (0, 90), .inl (0, 90)]
theorem sc_m_0 : S_m[0]? = some (.inr (9, [some (some 1), some (some 2), some (some 3), some (some 4), some (some 5), some (some 6), none, some (some 7), none, none, none, none, none, none, none, none, none, none, some (some 8), some (some 9), some (some 10), some (some 11), some (some 12), some (some 13), some (some 14), some (some 15), some (some 16), some (some 17), some (some 18), some (some 19), some (some 20), some (some 21), some (some 22), none, none, none, none, some (some 23), some (some 24), some (some 25), some (some 26), none, none, none, none, none, none, none, none, some (some 27), some (some 28), some (some 29), some (some 30), some (some 31), some (some 32), some (some 33), some (some 34), none, some (some 35), some (some 36), none])) := rfl
theorem sc_m_1 : S_m[1]? = some (.inl (0, 8)) := rfl
theorem sc_m_2 : S_m[2]? = some (.inl (0, 8)) := rfl
theorem sc_m_3 : S_m[3]? = some (.inl (0, 8)) := rfl
theorem sc_m_4 : S_m[4]? = some (.inl (0, 8)) := rfl
theorem sc_m_5 : S_m[5]? = some (.inl (0, 80)) := rfl
theorem sc_m_6 : S_m[6]? = some (.inl (0, 80)) := rfl
theorem sc_m_7 : S_m[7]? = some (.inl (1, 260)) := rfl
theorem sc_m_8 : S_m[8]? = some (.inl (0, 260)) := rfl
theorem sc_m_9 : S_m[9]? = some (.inl (0, 260)) := rfl
theorem sc_m_10 : S_m[10]? = some (.inl (0, 16)) := rfl
theorem sc_m_11 : S_m[11]? = some (.inl (0, 16)) := rfl
theorem sc_m_12 : S_m[12]? = some (.inl (0, 16)) := rfl
theorem sc_m_13 : S_m[13]? = some (.inl (0, 16)) := rfl
theorem sc_m_14 : S_m[14]? = some (.inl (0, 260)) := rfl
theorem sc_m_15 : S_m[15]? = some (.inl (0, 16)) := rfl
theorem sc_m_16 : S_m[16]? = some (.inl (0, 16)) := rfl
theorem sc_m_17 : S_m[17]? = some (.inl (0, 16)) := rfl
theorem sc_m_18 : S_m[18]? = some (.inl (0, 16)) := rfl
theorem sc_m_19 : S_m[19]? = some (.inl (0, 260)) := rfl
theorem sc_m_20 : S_m[20]? = some (.inl (0, 9)) := rfl
theorem sc_m_21 : S_m[21]? = some (.inl (0, 80)) := rfl
theorem sc_m_22 : S_m[22]? = some (.inl (0, 80)) := rfl
theorem sc_m_23 : S_m[23]? = some (.inl (0, 40)) := rfl
theorem sc_m_24 : S_m[24]? = some (.inl (0, 2)) := rfl
theorem sc_m_25 : S_m[25]? = some (.inl (0, 2)) := rfl
theorem sc_m_26 : S_m[26]? = some (.inl (0, 2)) := rfl
theorem sc_m_27 : S_m[27]? = some (.inl (0, 10)) := rfl
theorem sc_m_28 : S_m[28]? = some (.inl (0, 1024)) := rfl
theorem sc_m_29 : S_m[29]? = some (.inl (0, 10)) := rfl
theorem sc_m_30 : S_m[30]? = some (.inl (0, 100)) := rfl
theorem sc_m_31 : S_m[31]? = some (.inl (0, 1024)) := rfl
theorem sc_m_32 : S_m[32]? = some (.inl (0, 1024)) := rfl
theorem sc_m_33 : S_m[33]? = some (.inl (0, 1024)) := rfl
theorem sc_m_34 : S_m[34]? = some (.inl (0, 1024)) := rfl
theorem sc_m_35 : S_m[35]? = some (.inl (0, 90)) := rfl
theorem sc_m_36 : S_m[36]? = some (.inl (0, 90)) := rfl
def S_law1 : List mm_C := [.inr (8, [some (some 1), some (some 3), some (some 4), some (some 5), some (some 6), none, some (some 7), some (some 10), some (some 20), some (some 20), some (some 27), some (some 29), some (some 31), some (some 36)]), .inr (5, [some (some 2), none, none, none, none, none]), .inl (0, 260), .inl (0, 8), .inr (4, [none, none, none, none, none, none, none, none]), .inr (4, [none, none, none, none, none, none, none, none]), .inr (4, [none, none, none, none, none, none, none, none]), .inr (6, [none, some (some 8), some (some 9)]), .inl (0, 80), .inl (0, 80), .inr (6, [none, some (some 11), some (some 12)]), .inl (0, 80), .inl (0, 80), .inr (1, [none, some (some 14), some (some 15), some (some 16), none, some (some 17), some (some 18), some (some 19), none, none]), .inl (0, 16), .inl (0, 16), .inl (0, 16), .inl (0, 256), .inl (0, 256), .inl (0, 64), .inr (1, [none, some (some 21), some (some 22), some (some 23), none, some (some 24), some (some 25), some (some 26), none, none]), .inl (0, 16), .inl (0, 16), .inl (0, 16), .inl (0, 256), .inl (0, 256), .inl (0, 64), .inr (2, [some (some 28), none]), .inl (0, 40), .inr (0, [some (some 30), none, none]), .inl (0, 9), .inr (7, [some (some 32), some (some 33), some (some 34), some (some 35)]), .inl (0, 8), .inl (0, 10), .inl (0, 100), .inl (0, 90), .inr (3, [some (some 37), some (some 38), some (some 39), some (some 40), some (some 41), some (some 42), none, none]), .inl (0, 1024), .inl (0, 1024), .inl (0, 1024), .inl (0, 10), .inl (0, 10), .inl (0, 10)]
def S_law2 : List mm_C := [.inr (8, [some (some 1), some (some 3), some (some 4), some (some 5), some (some 6), none, some (some 7), some (some 10), some (some 20), some (some 13), some (some 27), some (some 29), some (some 31), some (some 36)]), .inr (5, [some (some 2), none, none, none, none, none]), .inl (0, 260), .inl (0, 8), .inr (4, [none, none, none, none, none, none, none, none]), .inr (4, [none, none, none, none, none, none, none, none]), .inr (4, [none, none, none, none, none, none, none, none]), .inr (6, [none, some (some 8), some (some 9)]), .inl (0, 80), .inl (0, 80), .inr (6, [none, some (some 11), some (some 12)]), .inl (0, 80), .inl (0, 80), .inr (1, [none, some (some 14), some (some 15), some (some 16), none, some (some 17), some (some 18), some (some 19), none, none]), .inl (0, 16), .inl (0, 16), .inl (0, 16), .inl (0, 256), .inl (0, 256), .inl (0, 64), .inr (1, [none, some (some 21), some (some 22), some (some 23), none, some (some 24), some (some 25), some (some 26), none, none]), .inl (0, 16), .inl (0, 16), .inl (0, 16), .inl (0, 256), .inl (0, 256), .inl (0, 64), .inr (2, [some (some 28), none]), .inl (0, 40), .inr (0, [some (some 30), none, none]), .inl (0, 9), .inr (7, [some (some 32), some (some 33), some (some 34), some (some 35)]), .inl (0, 8), .inl (0, 10), .inl (0, 100), .inl (0, 90), .inr (3, [some (some 37), some (some 38), some (some 39), some (some 40), some (some 41), some (some 42), none, none]), .inl (0, 1024), .inl (0, 1024), .inl (0, 1024), .inl (0, 10), .inl (0, 10), .inl (0, 10)]
def S_valley1 : List mm_C := [.inr (8, [some (some 1), some (some 3), some (some 4), some (some 5), some (some 6), none, some (some 10), some (some 10), some (some 13), some (some 20), some (some 27), some (some 29), some (some 31), some (some 36)]), .inr (5, [some (some 2), none, none, none, none, none]), .inl (0, 260), .inl (0, 8), .inr (4, [none, none, none, none, none, none, none, none]), .inr (4, [none, none, none, none, none, none, none, none]), .inr (4, [none, none, none, none, none, none, none, none]), .inr (6, [none, some (some 8), some (some 9)]), .inl (0, 80), .inl (0, 80), .inr (6, [none, some (some 11), some (some 12)]), .inl (0, 80), .inl (0, 80), .inr (1, [none, some (some 14), some (some 15), some (some 16), none, some (some 17), some (some 18), some (some 19), none, none]), .inl (0, 16), .inl (0, 16), .inl (0, 16), .inl (0, 256), .inl (0, 256), .inl (0, 64), .inr (1, [none, some (some 21), some (some 22), some (some 23), none, some (some 24), some (some 25), some (some 26), none, none]), .inl (0, 16), .inl (0, 16), .inl (0, 16), .inl (0, 256), .inl (0, 256), .inl (0, 64), .inr (2, [some (some 28), none]), .inl (0, 40), .inr (0, [some (some 30), none, none]), .inl (0, 9), .inr (7, [some (some 32), some (some 33), some (some 34), some (some 35)]), .inl (0, 8), .inl (0, 10), .inl (0, 100), .inl (0, 90), .inr (3, [some (some 37), some (some 38), some (some 39), some (some 40), some (some 41), some (some 42), none, none]), .inl (0, 1024), .inl (0, 1024), .inl (0, 1024), .inl (0, 10), .inl (0, 10), .inl (0, 10)]
def S_valley2 : List mm_C := [.inr (8, [some (some 1), some (some 3), some (some 4), some (some 5), some (some 6), none, some (some 10), some (some 7), some (some 13), some (some 20), some (some 27), some (some 29), some (some 31), some (some 36)]), .inr (5, [some (some 2), none, none, none, none, none]), .inl (0, 260), .inl (0, 8), .inr (4, [none, none, none, none, none, none, none, none]), .inr (4, [none, none, none, none, none, none, none, none]), .inr (4, [none, none, none, none, none, none, none, none]), .inr (6, [none, some (some 8), some (some 9)]), .inl (0, 80), .inl (0, 80), .inr (6, [none, some (some 11), some (some 12)]), .inl (0, 80), .inl (0, 80), .inr (1, [none, some (some 14), some (some 15), some (some 16), none, some (some 17), some (some 18), some (some 19), none, none]), .inl (0, 16), .inl (0, 16), .inl (0, 16), .inl (0, 256), .inl (0, 256), .inl (0, 64), .inr (1, [none, some (some 21), some (some 22), some (some 23), none, some (some 24), some (some 25), some (some 26), none, none]), .inl (0, 16), .inl (0, 16), .inl (0, 16), .inl (0, 256), .inl (0, 256), .inl (0, 64), .inr (2, [some (some 28), none]), .inl (0, 40), .inr (0, [some (some 30), none, none]), .inl (0, 9), .inr (7, [some (some 32), some (some 33), some (some 34), some (some 35)]), .inl (0, 8), .inl (0, 10), .inl (0, 100), .inl (0, 90), .inr (3, [some (some 37), some (some 38), some (some 39), some (some 40), some (some 41), some (some 42), none, none]), .inl (0, 1024), .inl (0, 1024), .inl (0, 1024), .inl (0, 10), .inl (0, 10), .inl (0, 10)]
def mm_len (S : List mm_C) (a : Nat) : Nat := match S[a]? with
  | some (.inl (_, n)) => n
  | _ => 0
theorem mm_U_same {M : mm_M} {a k : Nat} {v : Int32} : mm_U M a k v a k = v := by simp [mm_U, upd]
theorem mm_Zi_rfl {v : Int32} {S : List mm_C} {M : mm_M} : mm_Zi v S M (some v) S M := ⟨rfl, rfl, rfl⟩
theorem mm_Zv_rfl {S : List mm_C} {M : mm_M} : mm_Zv S M none S M := ⟨rfl, rfl, rfl⟩
def mm_Zs (v : Int32) (S S2 : List mm_C) (b : Bool) (M : mm_M) : Option Int32 → List mm_C → mm_M → Prop := fun r S' M' => r = some v ∧ S' = (if b = true then S2 else S) ∧ M' = M
theorem mm_Zs_f {v : Int32} {S S2 : List mm_C} {M : mm_M} : mm_Zs v S S2 false M (some v) S M := ⟨rfl, rfl, rfl⟩
theorem mm_Zs_t {v : Int32} {S S2 : List mm_C} {M : mm_M} : mm_Zs v S S2 true M (some v) S2 M := ⟨rfl, rfl, rfl⟩
theorem r_meth {J : mm_J} {d : Nat} {av : List mm_V} {L : List (Option mm_V)} {S : List mm_C} {M : mm_M} {Z : Option Int32 → List mm_C → mm_M → Prop} (hL : mm_ent av J.2.2.1 = L) (k : ∀ D, mm_Go J D d 0 0 0 L [] S M Z) : mm_Meth J d 0 0 av S M Z := by
  intro l G cA σ0
  rw [hL]
  exact k _
theorem r_putr {J : mm_J} {D : mm_D} {d pc q : Nat} {L : List (Option mm_V)} {st : List mm_V} {S S' : List mm_C} {M : mm_M} {Z : Option Int32 → List mm_C → mm_M → Prop} {idx ci k a b : Nat} {fs : List (Option (Option Nat))} {o : Option Nat} {ty : FieldType} (hlk : mm_Link J.1.cls idx ci k) (hty : mm_Ty ci k ty false) (hd : decode J.2.1 pc = .ok (.putfield idx, 3)) (hS : S[a]? = some (.inr (ci, fs))) (hf : fs[k]? = some (some o)) (hn : ∀ z, narrow ty (.ref z) = .ref z) (hfit : ∀ z, fits ty (.ref z) = true) (hS' : S.set a (.inr (ci, fs.set k (some (some b)))) = S') (hq : pc + 3 = q) (kk : mm_Go J D d 0 0 q L st S' M Z) : mm_Go J D d 0 0 pc L (.inr b :: .inr a :: st) S M Z := by
  subst hq hS'
  exact mm_putr idx ci k hlk hty hd hS hf hn hfit kk
