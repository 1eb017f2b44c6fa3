noncomputable def X12_readsStateRule_j159 (x1 : Int32) (x2 : Int32) (x3 : Int32) (M : mm_M) : Option (Bool × mm_M) := if x3 < (M 0 33) then (X12_takes 61 (mm_U M 0 9 ((M 0 9) + 1))).bind fun y17 => if y17.1 = true then (X12_isDigit y17.2).bind fun y20 => if y20 = true then (X12_here y17.2).bind fun y23 => (X12_rules x1 x2 x3 (y23 - 48) y17.2).bind fun y25 => if x2 = (-1) then some (true, (mm_U (mm_U y25 0 9 ((y25 0 9) + 1)) 0 36 1)) else some (true, (mm_U (mm_U y25 0 9 ((y25 0 9) + 1)) 0 36 0)) else mm_let (X12_wrongAt 1 (y17.2 0 9) y17.2) fun y28 => some (y28.1, y28.2) else some (false, y17.2) else mm_let (X12_wrongAt 3 (M 0 9) M) fun y30 => some (y30.1, y30.2)
set_option maxRecDepth 100000 in
set_option maxHeartbeats 400000 in
theorem t_X12_readsStateRule_j159 {D : mm_D} {d : Nat} (hd : 2 ≤ d) (x1 : Int32) (x2 : Int32) (x3 : Int32) (M : mm_M) (res : (Bool × mm_M)) (h : X12_readsStateRule_j159 x1 x2 x3 M = some res) : mm_Go jX12_readsStateRule D d 0 0 159 [some (.inr 0), some (.inl x1), some (.inl x2), some (.inl x3)] [] S_m M (mm_Zi (mm_b res.1) S_m res.2) := by
  unfold X12_readsStateRule_j159 at h
  refine r_iload_n (q := 160) dX12_readsStateRule_159 rfl rfl ?_
  refine r_aload_n (q := 161) dX12_readsStateRule_160 rfl rfl ?_
  refine r_geti (v := (M 0 33)) (q := 164) lk_X12_249 dX12_readsStateRule_161 sc_m_0 rfl rfl rfl ?_
  refine r_icmp_lt 177 (q := 167) dX12_readsStateRule_164 (by decide) rfl (fun c15 => ?_) (fun c15 => ?_)
  · rw [if_pos c15] at h
    refine r_aload_n (q := 178) dX12_readsStateRule_177 rfl rfl ?_
    refine r_aload_n (q := 179) dX12_readsStateRule_178 rfl rfl ?_
    refine r_geti (v := (M 0 9)) (q := 182) lk_X12_145 dX12_readsStateRule_179 sc_m_0 rfl rfl rfl ?_
    refine r_iconst (v := 1) (q := 183) dX12_readsStateRule_182 (by decide) rfl ?_
    refine r_iadd (q := 184) dX12_readsStateRule_183 rfl ?_
    refine r_puti (q := 187) lk_X12_145 ft_9_9 dX12_readsStateRule_184 sc_m_0 rfl rfl ?_
    refine r_aload_n (q := 188) dX12_readsStateRule_187 rfl rfl ?_
    refine r_bipush (v := 61) (q := 190) dX12_readsStateRule_188 (by decide) rfl ?_
    obtain ⟨y17, e16, h⟩ := Option.bind_eq_some_iff.mp h
    refine r_callV_i (av := [(.inl 61)]) (st := []) (q := 193) (d1 := 1) kc_X12_235 sc_m_0 dX12_readsStateRule_190 rfl rfl (Nat.le_of_ble_eq_true rfl) (Nat.le_of_ble_eq_true rfl) (by omega) rfl rfl (t_X12_takes (d := 1) (by omega) 61 (mm_U M 0 9 ((M 0 9) + 1)) _ e16) ?_
    refine r_if_ne 198 (q := 196) dX12_readsStateRule_193 (by decide) rfl (fun c18 => ?_) (fun c18 => ?_)
    · rw [if_pos (mm_b1 c18)] at h
      refine r_aload_n (q := 199) dX12_readsStateRule_198 rfl rfl ?_
      obtain ⟨y20, e19, h⟩ := Option.bind_eq_some_iff.mp h
      refine r_callV_i (av := []) (st := []) (q := 202) (d1 := 1) kc_X12_164 sc_m_0 dX12_readsStateRule_199 rfl rfl (Nat.le_of_ble_eq_true rfl) (Nat.le_of_ble_eq_true rfl) (by omega) rfl rfl (t_X12_isDigit (d := 1) (by omega) y17.2 _ e19) ?_
      refine r_if_ne 215 (q := 205) dX12_readsStateRule_202 (by decide) rfl (fun c21 => ?_) (fun c21 => ?_)
      · rw [if_pos (mm_b1 c21)] at h
        refine r_aload_n (q := 216) dX12_readsStateRule_215 rfl rfl ?_
        refine r_iload_n (q := 217) dX12_readsStateRule_216 rfl rfl ?_
        refine r_iload_n (q := 218) dX12_readsStateRule_217 rfl rfl ?_
        refine r_iload_n (q := 219) dX12_readsStateRule_218 rfl rfl ?_
        refine r_aload_n (q := 220) dX12_readsStateRule_219 rfl rfl ?_
        obtain ⟨y23, e22, h⟩ := Option.bind_eq_some_iff.mp h
        refine r_callV_i (av := []) (st := [(.inl x3), (.inl x2), (.inl x1), (.inr 0)]) (q := 223) (d1 := 0) kc_X12_151 sc_m_0 dX12_readsStateRule_220 rfl rfl (Nat.le_of_ble_eq_true rfl) (Nat.le_of_ble_eq_true rfl) (by omega) rfl rfl (t_X12_here (d := 0) (by omega) y17.2 _ e22) ?_
        refine r_bipush (v := 48) (q := 225) dX12_readsStateRule_223 (by decide) rfl ?_
        refine r_isub (q := 226) dX12_readsStateRule_225 rfl ?_
        obtain ⟨y25, e24, h⟩ := Option.bind_eq_some_iff.mp h
        refine r_callV_v (av := [(.inl x1), (.inl x2), (.inl x3), (.inl (y23 - 48))]) (st := []) (q := 229) (d1 := 1) kc_X12_259 sc_m_0 dX12_readsStateRule_226 rfl rfl (Nat.le_of_ble_eq_true rfl) (Nat.le_of_ble_eq_true rfl) (by omega) rfl rfl (t_X12_rules (d := 1) (by omega) x1 x2 x3 (y23 - 48) y17.2 _ e24) ?_
        refine r_aload_n (q := 230) dX12_readsStateRule_229 rfl rfl ?_
        refine r_aload_n (q := 231) dX12_readsStateRule_230 rfl rfl ?_
        refine r_geti (v := (y25 0 9)) (q := 234) lk_X12_145 dX12_readsStateRule_231 sc_m_0 rfl rfl rfl ?_
        refine r_iconst (v := 1) (q := 235) dX12_readsStateRule_234 (by decide) rfl ?_
        refine r_iadd (q := 236) dX12_readsStateRule_235 rfl ?_
        refine r_puti (q := 239) lk_X12_145 ft_9_9 dX12_readsStateRule_236 sc_m_0 rfl rfl ?_
        refine r_aload_n (q := 240) dX12_readsStateRule_239 rfl rfl ?_
        refine r_iload_n (q := 241) dX12_readsStateRule_240 rfl rfl ?_
        refine r_iconst (v := (-1)) (q := 242) dX12_readsStateRule_241 (by decide) rfl ?_
        refine r_icmp_ne 249 (q := 245) dX12_readsStateRule_242 (by decide) rfl (fun c26 => ?_) (fun c26 => ?_)
        · rw [if_neg c26] at h
          refine r_iconst (v := 0) (q := 250) dX12_readsStateRule_249 (by decide) rfl ?_
          refine r_putb (q := 253) lk_X12_255 ft_9_36 dX12_readsStateRule_250 sc_m_0 rfl (Or.inl rfl) rfl ?_
          refine r_iconst (v := 1) (q := 254) dX12_readsStateRule_253 (by decide) rfl ?_
          cases h
          exact r_retb dX12_readsStateRule_254 rfl (Or.inr rfl) mm_Zi_rfl
        · rw [if_pos c26] at h
          refine r_iconst (v := 1) (q := 246) dX12_readsStateRule_245 (by decide) rfl ?_
          refine r_goto 250 dX12_readsStateRule_246 (by decide) ?_
          refine r_putb (q := 253) lk_X12_255 ft_9_36 dX12_readsStateRule_250 sc_m_0 rfl (Or.inr rfl) rfl ?_
          refine r_iconst (v := 1) (q := 254) dX12_readsStateRule_253 (by decide) rfl ?_
          cases h
          exact r_retb dX12_readsStateRule_254 rfl (Or.inr rfl) mm_Zi_rfl
      · rw [if_neg (mm_b0 c21)] at h
        refine r_aload_n (q := 206) dX12_readsStateRule_205 rfl rfl ?_
        refine r_iconst (v := 1) (q := 207) dX12_readsStateRule_206 (by decide) rfl ?_
        refine r_aload_n (q := 208) dX12_readsStateRule_207 rfl rfl ?_
        refine r_geti (v := (y17.2 0 9)) (q := 211) lk_X12_145 dX12_readsStateRule_208 sc_m_0 rfl rfl rfl ?_
        obtain ⟨y28, e27, h⟩ := mm_let_elim h
        refine r_callV_i (av := [(.inl 1), (.inl (y17.2 0 9))]) (st := []) (q := 214) (d1 := 0) kc_X12_158 sc_m_0 dX12_readsStateRule_211 rfl rfl (Nat.le_of_ble_eq_true rfl) (Nat.le_of_ble_eq_true rfl) (by omega) rfl rfl (t_X12_wrongAt (d := 0) (by omega) 1 (y17.2 0 9) y17.2 _ e27) ?_
        cases h
        exact r_retb dX12_readsStateRule_214 rfl (mm_b01 _) mm_Zi_rfl
    · rw [if_neg (mm_b0 c18)] at h
      refine r_iconst (v := 0) (q := 197) dX12_readsStateRule_196 (by decide) rfl ?_
      cases h
      exact r_retb dX12_readsStateRule_197 rfl (Or.inl rfl) mm_Zi_rfl
  · rw [if_neg c15] at h
    refine r_aload_n (q := 168) dX12_readsStateRule_167 rfl rfl ?_
    refine r_iconst (v := 3) (q := 169) dX12_readsStateRule_168 (by decide) rfl ?_
    refine r_aload_n (q := 170) dX12_readsStateRule_169 rfl rfl ?_
    refine r_geti (v := (M 0 9)) (q := 173) lk_X12_145 dX12_readsStateRule_170 sc_m_0 rfl rfl rfl ?_
    obtain ⟨y30, e29, h⟩ := mm_let_elim h
    refine r_callV_i (av := [(.inl 3), (.inl (M 0 9))]) (st := []) (q := 176) (d1 := 0) kc_X12_158 sc_m_0 dX12_readsStateRule_173 rfl rfl (Nat.le_of_ble_eq_true rfl) (Nat.le_of_ble_eq_true rfl) (by omega) rfl rfl (t_X12_wrongAt (d := 0) (by omega) 3 (M 0 9) M _ e29) ?_
    cases h
    exact r_retb dX12_readsStateRule_176 rfl (mm_b01 _) mm_Zi_rfl
noncomputable def X12_readsStateRule_j136 (x1 : Int32) (x2 : Int32) (z0 : Int32) (M : mm_M) : Option (Bool × mm_M) := if z0 = (-1) then X12_readsStateRule_j159 x1 x2 z0 M else (X12_isDigit M).bind fun y32 => if y32 = true then X12_readsStateRule_j159 x1 x2 z0 M else mm_let (X12_wrongAt 1 (M 0 9) M) fun y35 => some (y35.1, y35.2)
set_option maxRecDepth 100000 in
set_option maxHeartbeats 400000 in
theorem t_X12_readsStateRule_j136 {D : mm_D} {d : Nat} (hd : 2 ≤ d) (x1 : Int32) (x2 : Int32) (z0 : Int32) (M : mm_M) (res : (Bool × mm_M)) (h : X12_readsStateRule_j136 x1 x2 z0 M = some res) : mm_Go jX12_readsStateRule D d 0 0 136 [some (.inr 0), some (.inl x1), some (.inl x2), none] [(.inl z0)] S_m M (mm_Zi (mm_b res.1) S_m res.2) := by
  unfold X12_readsStateRule_j136 at h
  refine r_istore_n (q := 137) (L' := [some (.inr 0), some (.inl x1), some (.inl x2), some (.inl z0)]) dX12_readsStateRule_136 (by decide) rfl rfl ?_
  refine r_iload_n (q := 138) dX12_readsStateRule_137 rfl rfl ?_
  refine r_iconst (v := (-1)) (q := 139) dX12_readsStateRule_138 (by decide) rfl ?_
  refine r_icmp_eq 159 (q := 142) dX12_readsStateRule_139 (by decide) rfl (fun c14 => ?_) (fun c14 => ?_)
  · rw [if_pos c14] at h
    exact t_X12_readsStateRule_j159 hd x1 x2 z0 M _ h
  · rw [if_neg c14] at h
    refine r_aload_n (q := 143) dX12_readsStateRule_142 rfl rfl ?_
    obtain ⟨y32, e31, h⟩ := Option.bind_eq_some_iff.mp h
    refine r_callV_i (av := []) (st := []) (q := 146) (d1 := 1) kc_X12_164 sc_m_0 dX12_readsStateRule_143 rfl rfl (Nat.le_of_ble_eq_true rfl) (Nat.le_of_ble_eq_true rfl) (by omega) rfl rfl (t_X12_isDigit (d := 1) (by omega) M _ e31) ?_
    refine r_if_ne 159 (q := 149) dX12_readsStateRule_146 (by decide) rfl (fun c33 => ?_) (fun c33 => ?_)
    · rw [if_pos (mm_b1 c33)] at h
      exact t_X12_readsStateRule_j159 hd x1 x2 z0 M _ h
    · rw [if_neg (mm_b0 c33)] at h
      refine r_aload_n (q := 150) dX12_readsStateRule_149 rfl rfl ?_
      refine r_iconst (v := 1) (q := 151) dX12_readsStateRule_150 (by decide) rfl ?_
      refine r_aload_n (q := 152) dX12_readsStateRule_151 rfl rfl ?_
      refine r_geti (v := (M 0 9)) (q := 155) lk_X12_145 dX12_readsStateRule_152 sc_m_0 rfl rfl rfl ?_
      obtain ⟨y35, e34, h⟩ := mm_let_elim h
      refine r_callV_i (av := [(.inl 1), (.inl (M 0 9))]) (st := []) (q := 158) (d1 := 0) kc_X12_158 sc_m_0 dX12_readsStateRule_155 rfl rfl (Nat.le_of_ble_eq_true rfl) (Nat.le_of_ble_eq_true rfl) (by omega) rfl rfl (t_X12_wrongAt (d := 0) (by omega) 1 (M 0 9) M _ e34) ?_
      cases h
      exact r_retb dX12_readsStateRule_158 rfl (mm_b01 _) mm_Zi_rfl
noncomputable def X12_readsStateRule_j95 (x1 : Int32) (x2 : Int32) (M : mm_M) : Option (Bool × mm_M) := (X12_takes 62 (mm_U M 0 9 ((M 0 9) + 1))).bind fun y9 => if y9.1 = true then (X12_here y9.2).bind fun y12 => if y12 = 46 then X12_readsStateRule_j136 x1 x2 (-1) y9.2 else (X12_here y9.2).bind fun y37 => X12_readsStateRule_j136 x1 x2 (y37 - 48) y9.2 else some (false, y9.2)
set_option maxRecDepth 100000 in
set_option maxHeartbeats 400000 in
theorem t_X12_readsStateRule_j95 {D : mm_D} {d : Nat} (hd : 2 ≤ d) (x1 : Int32) (x2 : Int32) (M : mm_M) (res : (Bool × mm_M)) (h : X12_readsStateRule_j95 x1 x2 M = some res) : mm_Go jX12_readsStateRule D d 0 0 95 [some (.inr 0), some (.inl x1), some (.inl x2), none] [] S_m M (mm_Zi (mm_b res.1) S_m res.2) := by
  unfold X12_readsStateRule_j95 at h
  refine r_aload_n (q := 96) dX12_readsStateRule_95 rfl rfl ?_
  refine r_aload_n (q := 97) dX12_readsStateRule_96 rfl rfl ?_
  refine r_geti (v := (M 0 9)) (q := 100) lk_X12_145 dX12_readsStateRule_97 sc_m_0 rfl rfl rfl ?_
  refine r_iconst (v := 1) (q := 101) dX12_readsStateRule_100 (by decide) rfl ?_
  refine r_iadd (q := 102) dX12_readsStateRule_101 rfl ?_
  refine r_puti (q := 105) lk_X12_145 ft_9_9 dX12_readsStateRule_102 sc_m_0 rfl rfl ?_
  refine r_aload_n (q := 106) dX12_readsStateRule_105 rfl rfl ?_
  refine r_bipush (v := 62) (q := 108) dX12_readsStateRule_106 (by decide) rfl ?_
  obtain ⟨y9, e8, h⟩ := Option.bind_eq_some_iff.mp h
  refine r_callV_i (av := [(.inl 62)]) (st := []) (q := 111) (d1 := 1) kc_X12_235 sc_m_0 dX12_readsStateRule_108 rfl rfl (Nat.le_of_ble_eq_true rfl) (Nat.le_of_ble_eq_true rfl) (by omega) rfl rfl (t_X12_takes (d := 1) (by omega) 62 (mm_U M 0 9 ((M 0 9) + 1)) _ e8) ?_
  refine r_if_ne 116 (q := 114) dX12_readsStateRule_111 (by decide) rfl (fun c10 => ?_) (fun c10 => ?_)
  · rw [if_pos (mm_b1 c10)] at h
    refine r_aload_n (q := 117) dX12_readsStateRule_116 rfl rfl ?_
    obtain ⟨y12, e11, h⟩ := Option.bind_eq_some_iff.mp h
    refine r_callV_i (av := []) (st := []) (q := 120) (d1 := 0) kc_X12_151 sc_m_0 dX12_readsStateRule_117 rfl rfl (Nat.le_of_ble_eq_true rfl) (Nat.le_of_ble_eq_true rfl) (by omega) rfl rfl (t_X12_here (d := 0) (by omega) y9.2 _ e11) ?_
    refine r_bipush (v := 46) (q := 122) dX12_readsStateRule_120 (by decide) rfl ?_
    refine r_icmp_ne 129 (q := 125) dX12_readsStateRule_122 (by decide) rfl (fun c13 => ?_) (fun c13 => ?_)
    · rw [if_neg c13] at h
      refine r_aload_n (q := 130) dX12_readsStateRule_129 rfl rfl ?_
      obtain ⟨y37, e36, h⟩ := Option.bind_eq_some_iff.mp h
      refine r_callV_i (av := []) (st := []) (q := 133) (d1 := 0) kc_X12_151 sc_m_0 dX12_readsStateRule_130 rfl rfl (Nat.le_of_ble_eq_true rfl) (Nat.le_of_ble_eq_true rfl) (by omega) rfl rfl (t_X12_here (d := 0) (by omega) y9.2 _ e36) ?_
      refine r_bipush (v := 48) (q := 135) dX12_readsStateRule_133 (by decide) rfl ?_
      refine r_isub (q := 136) dX12_readsStateRule_135 rfl ?_
      exact t_X12_readsStateRule_j136 hd x1 x2 (y37 - 48) y9.2 _ h
    · rw [if_pos c13] at h
      refine r_iconst (v := (-1)) (q := 126) dX12_readsStateRule_125 (by decide) rfl ?_
      refine r_goto 136 dX12_readsStateRule_126 (by decide) ?_
      exact t_X12_readsStateRule_j136 hd x1 x2 (-1) y9.2 _ h
  · rw [if_neg (mm_b0 c10)] at h
    refine r_iconst (v := 0) (q := 115) dX12_readsStateRule_114 (by decide) rfl ?_
    cases h
    exact r_retb dX12_readsStateRule_115 rfl (Or.inl rfl) mm_Zi_rfl
noncomputable def X12_readsStateRule_j84 (M : mm_M) : Option (Bool × mm_M) := mm_let (X12_wrongAt 7 (M 0 9) M) fun y40 => some (y40.1, y40.2)
set_option maxRecDepth 100000 in
set_option maxHeartbeats 400000 in
theorem t_X12_readsStateRule_j84 {D : mm_D} {d : Nat} (hd : 2 ≤ d) (M : mm_M) (res : (Bool × mm_M)) (h : X12_readsStateRule_j84 M = some res) : mm_Go jX12_readsStateRule D d 0 0 84 [some (.inr 0), none, none, none] [] S_m M (mm_Zi (mm_b res.1) S_m res.2) := by
  unfold X12_readsStateRule_j84 at h
  refine r_aload_n (q := 85) dX12_readsStateRule_84 rfl rfl ?_
  refine r_bipush (v := 7) (q := 87) dX12_readsStateRule_85 (by decide) rfl ?_
  refine r_aload_n (q := 88) dX12_readsStateRule_87 rfl rfl ?_
  refine r_geti (v := (M 0 9)) (q := 91) lk_X12_145 dX12_readsStateRule_88 sc_m_0 rfl rfl rfl ?_
  obtain ⟨y40, e39, h⟩ := mm_let_elim h
  refine r_callV_i (av := [(.inl 7), (.inl (M 0 9))]) (st := []) (q := 94) (d1 := 0) kc_X12_158 sc_m_0 dX12_readsStateRule_91 rfl rfl (Nat.le_of_ble_eq_true rfl) (Nat.le_of_ble_eq_true rfl) (by omega) rfl rfl (t_X12_wrongAt (d := 0) (by omega) 7 (M 0 9) M _ e39) ?_
  cases h
  exact r_retb dX12_readsStateRule_94 rfl (mm_b01 _) mm_Zi_rfl
noncomputable def X12_readsStateRule_j43 (x1 : Int32) (x2 : Int32) (M : mm_M) : Option (Bool × mm_M) := if x2 < (M 0 33) then if (M 0 36) = 0 then if x2 = (-1) then X12_readsStateRule_j95 x1 x2 M else if (X12_has (M 0 35) x2) = true then X12_readsStateRule_j84 M else X12_readsStateRule_j95 x1 x2 M else X12_readsStateRule_j84 M else mm_let (X12_wrongAt 3 (M 0 9) M) fun y42 => some (y42.1, y42.2)
set_option maxRecDepth 100000 in
set_option maxHeartbeats 400000 in
theorem t_X12_readsStateRule_j43 {D : mm_D} {d : Nat} (hd : 2 ≤ d) (x1 : Int32) (x2 : Int32) (M : mm_M) (res : (Bool × mm_M)) (h : X12_readsStateRule_j43 x1 x2 M = some res) : mm_Go jX12_readsStateRule D d 0 0 43 [some (.inr 0), some (.inl x1), some (.inl x2), none] [] S_m M (mm_Zi (mm_b res.1) S_m res.2) := by
  unfold X12_readsStateRule_j43 at h
  refine r_iload_n (q := 44) dX12_readsStateRule_43 rfl rfl ?_
  refine r_aload_n (q := 45) dX12_readsStateRule_44 rfl rfl ?_
  refine r_geti (v := (M 0 33)) (q := 48) lk_X12_249 dX12_readsStateRule_45 sc_m_0 rfl rfl rfl ?_
  refine r_icmp_lt 61 (q := 51) dX12_readsStateRule_48 (by decide) rfl (fun c5 => ?_) (fun c5 => ?_)
  · rw [if_pos c5] at h
    refine r_aload_n (q := 62) dX12_readsStateRule_61 rfl rfl ?_
    refine r_geti (v := (M 0 36)) (q := 65) lk_X12_255 dX12_readsStateRule_62 sc_m_0 rfl rfl rfl ?_
    refine r_if_ne 84 (q := 68) dX12_readsStateRule_65 (by decide) rfl (fun c6 => ?_) (fun c6 => ?_)
    · rw [if_neg c6] at h
      refine r_forget (L' := [some (.inr 0), none, none, none]) [true, false, false, false] rfl ?_
      exact t_X12_readsStateRule_j84 hd M _ h
    · rw [if_pos c6] at h
      refine r_iload_n (q := 69) dX12_readsStateRule_68 rfl rfl ?_
      refine r_iconst (v := (-1)) (q := 70) dX12_readsStateRule_69 (by decide) rfl ?_
      refine r_icmp_eq 95 (q := 73) dX12_readsStateRule_70 (by decide) rfl (fun c7 => ?_) (fun c7 => ?_)
      · rw [if_pos c7] at h
        exact t_X12_readsStateRule_j95 hd x1 x2 M _ h
      · rw [if_neg c7] at h
        refine r_aload_n (q := 74) dX12_readsStateRule_73 rfl rfl ?_
        refine r_geti (v := (M 0 35)) (q := 77) lk_X12_252 dX12_readsStateRule_74 sc_m_0 rfl rfl rfl ?_
        refine r_iload_n (q := 78) dX12_readsStateRule_77 rfl rfl ?_
        refine r_callS_i (av := [(.inl (M 0 35)), (.inl x2)]) (st := []) (q := 81) (d1 := 0) kc_X12_119 dX12_readsStateRule_78 rfl rfl (Nat.le_of_ble_eq_true rfl) (Nat.le_of_ble_eq_true rfl) (by omega) rfl rfl (t_X12_has (d := 0) (by omega) (M 0 35) x2 M _ rfl) ?_
        refine r_if_eq 95 (q := 84) dX12_readsStateRule_81 (by decide) rfl (fun c38 => ?_) (fun c38 => ?_)
        · rw [if_neg (mm_b0 c38)] at h
          exact t_X12_readsStateRule_j95 hd x1 x2 M _ h
        · rw [if_pos (mm_b1 c38)] at h
          refine r_forget (L' := [some (.inr 0), none, none, none]) [true, false, false, false] rfl ?_
          exact t_X12_readsStateRule_j84 hd M _ h
  · rw [if_neg c5] at h
    refine r_aload_n (q := 52) dX12_readsStateRule_51 rfl rfl ?_
    refine r_iconst (v := 3) (q := 53) dX12_readsStateRule_52 (by decide) rfl ?_
    refine r_aload_n (q := 54) dX12_readsStateRule_53 rfl rfl ?_
    refine r_geti (v := (M 0 9)) (q := 57) lk_X12_145 dX12_readsStateRule_54 sc_m_0 rfl rfl rfl ?_
    obtain ⟨y42, e41, h⟩ := mm_let_elim h
    refine r_callV_i (av := [(.inl 3), (.inl (M 0 9))]) (st := []) (q := 60) (d1 := 0) kc_X12_158 sc_m_0 dX12_readsStateRule_57 rfl rfl (Nat.le_of_ble_eq_true rfl) (Nat.le_of_ble_eq_true rfl) (by omega) rfl rfl (t_X12_wrongAt (d := 0) (by omega) 3 (M 0 9) M _ e41) ?_
    cases h
    exact r_retb dX12_readsStateRule_60 rfl (mm_b01 _) mm_Zi_rfl
noncomputable def X12_readsStateRule_j20 (x1 : Int32) (z0 : Int32) (M : mm_M) : Option (Bool × mm_M) := if z0 = (-1) then X12_readsStateRule_j43 x1 z0 M else (X12_isDigit M).bind fun y44 => if y44 = true then X12_readsStateRule_j43 x1 z0 M else mm_let (X12_wrongAt 1 (M 0 9) M) fun y47 => some (y47.1, y47.2)
set_option maxRecDepth 100000 in
set_option maxHeartbeats 400000 in
theorem t_X12_readsStateRule_j20 {D : mm_D} {d : Nat} (hd : 2 ≤ d) (x1 : Int32) (z0 : Int32) (M : mm_M) (res : (Bool × mm_M)) (h : X12_readsStateRule_j20 x1 z0 M = some res) : mm_Go jX12_readsStateRule D d 0 0 20 [some (.inr 0), some (.inl x1), none, none] [(.inl z0)] S_m M (mm_Zi (mm_b res.1) S_m res.2) := by
  unfold X12_readsStateRule_j20 at h
  refine r_istore_n (q := 21) (L' := [some (.inr 0), some (.inl x1), some (.inl z0), none]) dX12_readsStateRule_20 (by decide) rfl rfl ?_
  refine r_iload_n (q := 22) dX12_readsStateRule_21 rfl rfl ?_
  refine r_iconst (v := (-1)) (q := 23) dX12_readsStateRule_22 (by decide) rfl ?_
  refine r_icmp_eq 43 (q := 26) dX12_readsStateRule_23 (by decide) rfl (fun c4 => ?_) (fun c4 => ?_)
  · rw [if_pos c4] at h
    exact t_X12_readsStateRule_j43 hd x1 z0 M _ h
  · rw [if_neg c4] at h
    refine r_aload_n (q := 27) dX12_readsStateRule_26 rfl rfl ?_
    obtain ⟨y44, e43, h⟩ := Option.bind_eq_some_iff.mp h
    refine r_callV_i (av := []) (st := []) (q := 30) (d1 := 1) kc_X12_164 sc_m_0 dX12_readsStateRule_27 rfl rfl (Nat.le_of_ble_eq_true rfl) (Nat.le_of_ble_eq_true rfl) (by omega) rfl rfl (t_X12_isDigit (d := 1) (by omega) M _ e43) ?_
    refine r_if_ne 43 (q := 33) dX12_readsStateRule_30 (by decide) rfl (fun c45 => ?_) (fun c45 => ?_)
    · rw [if_pos (mm_b1 c45)] at h
      exact t_X12_readsStateRule_j43 hd x1 z0 M _ h
    · rw [if_neg (mm_b0 c45)] at h
      refine r_aload_n (q := 34) dX12_readsStateRule_33 rfl rfl ?_
      refine r_iconst (v := 1) (q := 35) dX12_readsStateRule_34 (by decide) rfl ?_
      refine r_aload_n (q := 36) dX12_readsStateRule_35 rfl rfl ?_
      refine r_geti (v := (M 0 9)) (q := 39) lk_X12_145 dX12_readsStateRule_36 sc_m_0 rfl rfl rfl ?_
      obtain ⟨y47, e46, h⟩ := mm_let_elim h
      refine r_callV_i (av := [(.inl 1), (.inl (M 0 9))]) (st := []) (q := 42) (d1 := 0) kc_X12_158 sc_m_0 dX12_readsStateRule_39 rfl rfl (Nat.le_of_ble_eq_true rfl) (Nat.le_of_ble_eq_true rfl) (by omega) rfl rfl (t_X12_wrongAt (d := 0) (by omega) 1 (M 0 9) M _ e46) ?_
      cases h
      exact r_retb dX12_readsStateRule_42 rfl (mm_b01 _) mm_Zi_rfl
noncomputable def X12_readsStateRule (x1 : Int32) (M : mm_M) : Option (Bool × mm_M) := (X12_here M).bind fun y2 => if y2 = 42 then X12_readsStateRule_j20 x1 (-1) M else (X12_here M).bind fun y49 => X12_readsStateRule_j20 x1 (y49 - 48) M
set_option maxRecDepth 100000 in
set_option maxHeartbeats 400000 in
theorem t_X12_readsStateRule {d : Nat} (hd : 2 ≤ d) (x1 : Int32) (M : mm_M) (res : (Bool × mm_M)) (h : X12_readsStateRule x1 M = some res) : mm_Meth jX12_readsStateRule d 0 0 [(.inr 0), (.inl x1)] S_m M (mm_Zi (mm_b res.1) S_m res.2) := by
  refine r_meth (L := [some (.inr 0), some (.inl x1), none, none]) rfl (fun D => ?_)
  unfold X12_readsStateRule at h
  refine r_aload_n (q := 1) dX12_readsStateRule_0 rfl rfl ?_
  obtain ⟨y2, e1, h⟩ := Option.bind_eq_some_iff.mp h
  refine r_callV_i (av := []) (st := []) (q := 4) (d1 := 0) kc_X12_151 sc_m_0 dX12_readsStateRule_1 rfl rfl (Nat.le_of_ble_eq_true rfl) (Nat.le_of_ble_eq_true rfl) (by omega) rfl rfl (t_X12_here (d := 0) (by omega) M _ e1) ?_
  refine r_bipush (v := 42) (q := 6) dX12_readsStateRule_4 (by decide) rfl ?_
  refine r_icmp_ne 13 (q := 9) dX12_readsStateRule_6 (by decide) rfl (fun c3 => ?_) (fun c3 => ?_)
  · rw [if_neg c3] at h
    refine r_aload_n (q := 14) dX12_readsStateRule_13 rfl rfl ?_
    obtain ⟨y49, e48, h⟩ := Option.bind_eq_some_iff.mp h
    refine r_callV_i (av := []) (st := []) (q := 17) (d1 := 0) kc_X12_151 sc_m_0 dX12_readsStateRule_14 rfl rfl (Nat.le_of_ble_eq_true rfl) (Nat.le_of_ble_eq_true rfl) (by omega) rfl rfl (t_X12_here (d := 0) (by omega) M _ e48) ?_
    refine r_bipush (v := 48) (q := 19) dX12_readsStateRule_17 (by decide) rfl ?_
    refine r_isub (q := 20) dX12_readsStateRule_19 rfl ?_
    exact t_X12_readsStateRule_j20 hd x1 (y49 - 48) M _ h
  · rw [if_pos c3] at h
    refine r_iconst (v := (-1)) (q := 10) dX12_readsStateRule_9 (by decide) rfl ?_
    refine r_goto 20 dX12_readsStateRule_10 (by decide) ?_
    exact t_X12_readsStateRule_j20 hd x1 (-1) M _ h
noncomputable def X12_readsLine_l107 (x1 : Int32) (s : (Bool × mm_M)) : Option ((Bool × mm_M) ⊕ (Bool × mm_M)) := if s.1 = true then (X12_here s.2).bind fun y19 => if y19 = 44 then (X12_readsStateRule x1 (mm_U s.2 0 9 ((s.2 0 9) + 1))).bind fun y22 => some (.inl (y22.1, y22.2)) else some (.inr (s.1, s.2)) else some (.inr (s.1, s.2))
set_option maxRecDepth 100000 in
set_option maxHeartbeats 400000 in
theorem t_X12_readsLine_l107 {D : mm_D} {d : Nat} (hd : 3 ≤ d) {Z : Option Int32 → List mm_C → mm_M → Prop} (x1 : Int32) (n : Nat) (s : (Bool × mm_M)) (r : (Bool × mm_M)) (h : mm_loop (X12_readsLine_l107 x1) n s = some r) (hx : Z (some (mm_b r.1)) S_m r.2) : mm_Go jX12_readsLine D d 0 0 107 [some (.inr 0), some (.inl x1), some (.inl (mm_b s.1))] [] S_m s.2 Z := by
  refine mm_loop_go (step := X12_readsLine_l107 x1) (Hd := fun (s : (Bool × mm_M)) => mm_Go jX12_readsLine D d 0 0 107 [some (.inr 0), some (.inl x1), some (.inl (mm_b s.1))] [] S_m s.2 Z) (Ex := fun (r : (Bool × mm_M)) => Z (some (mm_b r.1)) S_m r.2) ?_ n s r h hx
  intro s o h kb ke
  show mm_Go jX12_readsLine D d 0 0 107 [some (.inr 0), some (.inl x1), some (.inl (mm_b s.1))] [] S_m s.2 Z
  unfold X12_readsLine_l107 at h
  refine r_iload_n (q := 108) dX12_readsLine_107 rfl rfl ?_
  refine r_if_eq 139 (q := 111) dX12_readsLine_108 (by decide) rfl (fun c17 => ?_) (fun c17 => ?_)
  · rw [if_neg (mm_b0 c17)] at h
    refine r_iload_n (q := 140) dX12_readsLine_139 rfl rfl ?_
    cases h
    have hk := ke _ rfl
    exact r_retb dX12_readsLine_140 rfl (mm_b01 _) hk
  · rw [if_pos (mm_b1 c17)] at h
    refine r_aload_n (q := 112) dX12_readsLine_111 rfl rfl ?_
    obtain ⟨y19, e18, h⟩ := Option.bind_eq_some_iff.mp h
    refine r_callV_i (av := []) (st := []) (q := 115) (d1 := 0) kc_X12_151 sc_m_0 dX12_readsLine_112 rfl rfl (Nat.le_of_ble_eq_true rfl) (Nat.le_of_ble_eq_true rfl) (by omega) rfl rfl (t_X12_here (d := 0) (by omega) s.2 _ e18) ?_
    refine r_bipush (v := 44) (q := 117) dX12_readsLine_115 (by decide) rfl ?_
    refine r_icmp_ne 139 (q := 120) dX12_readsLine_117 (by decide) rfl (fun c20 => ?_) (fun c20 => ?_)
    · rw [if_neg c20] at h
      refine r_iload_n (q := 140) dX12_readsLine_139 rfl rfl ?_
      cases h
      have hk := ke _ rfl
      exact r_retb dX12_readsLine_140 rfl (mm_b01 _) hk
    · rw [if_pos c20] at h
      refine r_aload_n (q := 121) dX12_readsLine_120 rfl rfl ?_
      refine r_aload_n (q := 122) dX12_readsLine_121 rfl rfl ?_
      refine r_geti (v := (s.2 0 9)) (q := 125) lk_X12_145 dX12_readsLine_122 sc_m_0 rfl rfl rfl ?_
      refine r_iconst (v := 1) (q := 126) dX12_readsLine_125 (by decide) rfl ?_
      refine r_iadd (q := 127) dX12_readsLine_126 rfl ?_
      refine r_puti (q := 130) lk_X12_145 ft_9_9 dX12_readsLine_127 sc_m_0 rfl rfl ?_
      refine r_aload_n (q := 131) dX12_readsLine_130 rfl rfl ?_
      refine r_iload_n (q := 132) dX12_readsLine_131 rfl rfl ?_
      obtain ⟨y22, e21, h⟩ := Option.bind_eq_some_iff.mp h
      refine r_callV_i (av := [(.inl x1)]) (st := []) (q := 135) (d1 := 2) kc_X12_269 sc_m_0 dX12_readsLine_132 rfl rfl (Nat.le_of_ble_eq_true rfl) (Nat.le_of_ble_eq_true rfl) (by omega) rfl rfl (t_X12_readsStateRule (d := 2) (by omega) x1 (mm_U s.2 0 9 ((s.2 0 9) + 1)) _ e21) ?_
      refine r_istore_n (q := 136) (L' := [some (.inr 0), some (.inl x1), some (.inl (mm_b y22.1))]) dX12_readsLine_135 (by decide) rfl rfl ?_
      refine r_goto 107 dX12_readsLine_136 (by decide) ?_
      cases h
      have hk := kb _ rfl
      exact hk
noncomputable def X12_readsLine (M : mm_M) : Option (Bool × mm_M) := (X12_takes 59 M).bind fun y2 => if y2.1 = true then (X12_isLetter y2.2).bind fun y5 => if y5 = true then (X12_here y2.2).bind fun y8 => if (X12_has (y2.2 0 34) (y8 - 97)) = true then mm_let (X12_wrongAt 6 (y2.2 0 9) y2.2) fun y11 => some (y11.1, y11.2) else (X12_takes 58 (mm_U (mm_U y2.2 0 34 ((y2.2 0 34) ||| ((1 : Int32) <<< ((y8 - 97) &&& 31)))) 0 9 ((y2.2 0 9) + 1))).bind fun y13 => if y13.1 = true then (X12_readsStateRule (y8 - 97) (mm_U (mm_U y13.2 0 35 0) 0 36 0)).bind fun y16 => (mm_loop (X12_readsLine_l107 (y8 - 97)) mm_fuel (y16.1, y16.2)) else some (false, y13.2) else mm_let (X12_wrongAt 1 (y2.2 0 9) y2.2) fun y26 => some (y26.1, y26.2) else some (false, y2.2)
set_option maxRecDepth 100000 in
set_option maxHeartbeats 400000 in
theorem t_X12_readsLine {d : Nat} (hd : 3 ≤ d) (M : mm_M) (res : (Bool × mm_M)) (h : X12_readsLine M = some res) : mm_Meth jX12_readsLine d 0 0 [(.inr 0)] S_m M (mm_Zi (mm_b res.1) S_m res.2) := by
  refine r_meth (L := [some (.inr 0), none, none]) rfl (fun D => ?_)
  unfold X12_readsLine at h
  refine r_aload_n (q := 1) dX12_readsLine_0 rfl rfl ?_
  refine r_bipush (v := 59) (q := 3) dX12_readsLine_1 (by decide) rfl ?_
  obtain ⟨y2, e1, h⟩ := Option.bind_eq_some_iff.mp h
  refine r_callV_i (av := [(.inl 59)]) (st := []) (q := 6) (d1 := 1) kc_X12_235 sc_m_0 dX12_readsLine_3 rfl rfl (Nat.le_of_ble_eq_true rfl) (Nat.le_of_ble_eq_true rfl) (by omega) rfl rfl (t_X12_takes (d := 1) (by omega) 59 M _ e1) ?_
  refine r_if_ne 11 (q := 9) dX12_readsLine_6 (by decide) rfl (fun c3 => ?_) (fun c3 => ?_)
  · rw [if_pos (mm_b1 c3)] at h
    refine r_aload_n (q := 12) dX12_readsLine_11 rfl rfl ?_
    obtain ⟨y5, e4, h⟩ := Option.bind_eq_some_iff.mp h
    refine r_callV_i (av := []) (st := []) (q := 15) (d1 := 1) kc_X12_263 sc_m_0 dX12_readsLine_12 rfl rfl (Nat.le_of_ble_eq_true rfl) (Nat.le_of_ble_eq_true rfl) (by omega) rfl rfl (t_X12_isLetter (d := 1) (by omega) y2.2 _ e4) ?_
    refine r_if_ne 28 (q := 18) dX12_readsLine_15 (by decide) rfl (fun c6 => ?_) (fun c6 => ?_)
    · rw [if_pos (mm_b1 c6)] at h
      refine r_aload_n (q := 29) dX12_readsLine_28 rfl rfl ?_
      obtain ⟨y8, e7, h⟩ := Option.bind_eq_some_iff.mp h
      refine r_callV_i (av := []) (st := []) (q := 32) (d1 := 0) kc_X12_151 sc_m_0 dX12_readsLine_29 rfl rfl (Nat.le_of_ble_eq_true rfl) (Nat.le_of_ble_eq_true rfl) (by omega) rfl rfl (t_X12_here (d := 0) (by omega) y2.2 _ e7) ?_
      refine r_bipush (v := 97) (q := 34) dX12_readsLine_32 (by decide) rfl ?_
      refine r_isub (q := 35) dX12_readsLine_34 rfl ?_
      refine r_istore_n (q := 36) (L' := [some (.inr 0), some (.inl (y8 - 97)), none]) dX12_readsLine_35 (by decide) rfl rfl ?_
      refine r_aload_n (q := 37) dX12_readsLine_36 rfl rfl ?_
      refine r_geti (v := (y2.2 0 34)) (q := 40) lk_X12_266 dX12_readsLine_37 sc_m_0 rfl rfl rfl ?_
      refine r_iload_n (q := 41) dX12_readsLine_40 rfl rfl ?_
      refine r_callS_i (av := [(.inl (y2.2 0 34)), (.inl (y8 - 97))]) (st := []) (q := 44) (d1 := 0) kc_X12_119 dX12_readsLine_41 rfl rfl (Nat.le_of_ble_eq_true rfl) (Nat.le_of_ble_eq_true rfl) (by omega) rfl rfl (t_X12_has (d := 0) (by omega) (y2.2 0 34) (y8 - 97) y2.2 _ rfl) ?_
      refine r_if_eq 58 (q := 47) dX12_readsLine_44 (by decide) rfl (fun c9 => ?_) (fun c9 => ?_)
      · rw [if_neg (mm_b0 c9)] at h
        refine r_aload_n (q := 59) dX12_readsLine_58 rfl rfl ?_
        refine r_aload_n (q := 60) dX12_readsLine_59 rfl rfl ?_
        refine r_geti (v := (y2.2 0 34)) (q := 63) lk_X12_266 dX12_readsLine_60 sc_m_0 rfl rfl rfl ?_
        refine r_iconst (v := 1) (q := 64) dX12_readsLine_63 (by decide) rfl ?_
        refine r_iload_n (q := 65) dX12_readsLine_64 rfl rfl ?_
        refine r_ishl (q := 66) dX12_readsLine_65 rfl ?_
        refine r_ior (q := 67) dX12_readsLine_66 rfl ?_
        refine r_puti (q := 70) lk_X12_266 ft_9_34 dX12_readsLine_67 sc_m_0 rfl rfl ?_
        refine r_aload_n (q := 71) dX12_readsLine_70 rfl rfl ?_
        refine r_aload_n (q := 72) dX12_readsLine_71 rfl rfl ?_
        refine r_geti (v := (y2.2 0 9)) (q := 75) lk_X12_145 dX12_readsLine_72 sc_m_0 rfl rfl rfl ?_
        refine r_iconst (v := 1) (q := 76) dX12_readsLine_75 (by decide) rfl ?_
        refine r_iadd (q := 77) dX12_readsLine_76 rfl ?_
        refine r_puti (q := 80) lk_X12_145 ft_9_9 dX12_readsLine_77 sc_m_0 rfl rfl ?_
        refine r_aload_n (q := 81) dX12_readsLine_80 rfl rfl ?_
        refine r_bipush (v := 58) (q := 83) dX12_readsLine_81 (by decide) rfl ?_
        obtain ⟨y13, e12, h⟩ := Option.bind_eq_some_iff.mp h
        refine r_callV_i (av := [(.inl 58)]) (st := []) (q := 86) (d1 := 1) kc_X12_235 sc_m_0 dX12_readsLine_83 rfl rfl (Nat.le_of_ble_eq_true rfl) (Nat.le_of_ble_eq_true rfl) (by omega) rfl rfl (t_X12_takes (d := 1) (by omega) 58 (mm_U (mm_U y2.2 0 34 ((y2.2 0 34) ||| ((1 : Int32) <<< ((y8 - 97) &&& 31)))) 0 9 ((y2.2 0 9) + 1)) _ e12) ?_
        refine r_if_ne 91 (q := 89) dX12_readsLine_86 (by decide) rfl (fun c14 => ?_) (fun c14 => ?_)
        · rw [if_pos (mm_b1 c14)] at h
          refine r_aload_n (q := 92) dX12_readsLine_91 rfl rfl ?_
          refine r_iconst (v := 0) (q := 93) dX12_readsLine_92 (by decide) rfl ?_
          refine r_puti (q := 96) lk_X12_252 ft_9_35 dX12_readsLine_93 sc_m_0 rfl rfl ?_
          refine r_aload_n (q := 97) dX12_readsLine_96 rfl rfl ?_
          refine r_iconst (v := 0) (q := 98) dX12_readsLine_97 (by decide) rfl ?_
          refine r_putb (q := 101) lk_X12_255 ft_9_36 dX12_readsLine_98 sc_m_0 rfl (Or.inl rfl) rfl ?_
          refine r_aload_n (q := 102) dX12_readsLine_101 rfl rfl ?_
          refine r_iload_n (q := 103) dX12_readsLine_102 rfl rfl ?_
          obtain ⟨y16, e15, h⟩ := Option.bind_eq_some_iff.mp h
          refine r_callV_i (av := [(.inl (y8 - 97))]) (st := []) (q := 106) (d1 := 2) kc_X12_269 sc_m_0 dX12_readsLine_103 rfl rfl (Nat.le_of_ble_eq_true rfl) (Nat.le_of_ble_eq_true rfl) (by omega) rfl rfl (t_X12_readsStateRule (d := 2) (by omega) (y8 - 97) (mm_U (mm_U y13.2 0 35 0) 0 36 0) _ e15) ?_
          refine r_istore_n (q := 107) (L' := [some (.inr 0), some (.inl (y8 - 97)), some (.inl (mm_b y16.1))]) dX12_readsLine_106 (by decide) rfl rfl ?_
          exact t_X12_readsLine_l107 hd (y8 - 97) mm_fuel (y16.1, y16.2) _ h mm_Zi_rfl
        · rw [if_neg (mm_b0 c14)] at h
          refine r_iconst (v := 0) (q := 90) dX12_readsLine_89 (by decide) rfl ?_
          cases h
          exact r_retb dX12_readsLine_90 rfl (Or.inl rfl) mm_Zi_rfl
      · rw [if_pos (mm_b1 c9)] at h
        refine r_aload_n (q := 48) dX12_readsLine_47 rfl rfl ?_
        refine r_bipush (v := 6) (q := 50) dX12_readsLine_48 (by decide) rfl ?_
        refine r_aload_n (q := 51) dX12_readsLine_50 rfl rfl ?_
        refine r_geti (v := (y2.2 0 9)) (q := 54) lk_X12_145 dX12_readsLine_51 sc_m_0 rfl rfl rfl ?_
        obtain ⟨y11, e10, h⟩ := mm_let_elim h
        refine r_callV_i (av := [(.inl 6), (.inl (y2.2 0 9))]) (st := []) (q := 57) (d1 := 0) kc_X12_158 sc_m_0 dX12_readsLine_54 rfl rfl (Nat.le_of_ble_eq_true rfl) (Nat.le_of_ble_eq_true rfl) (by omega) rfl rfl (t_X12_wrongAt (d := 0) (by omega) 6 (y2.2 0 9) y2.2 _ e10) ?_
        cases h
        exact r_retb dX12_readsLine_57 rfl (mm_b01 _) mm_Zi_rfl
    · rw [if_neg (mm_b0 c6)] at h
      refine r_aload_n (q := 19) dX12_readsLine_18 rfl rfl ?_
      refine r_iconst (v := 1) (q := 20) dX12_readsLine_19 (by decide) rfl ?_
      refine r_aload_n (q := 21) dX12_readsLine_20 rfl rfl ?_
      refine r_geti (v := (y2.2 0 9)) (q := 24) lk_X12_145 dX12_readsLine_21 sc_m_0 rfl rfl rfl ?_
      obtain ⟨y26, e25, h⟩ := mm_let_elim h
      refine r_callV_i (av := [(.inl 1), (.inl (y2.2 0 9))]) (st := []) (q := 27) (d1 := 0) kc_X12_158 sc_m_0 dX12_readsLine_24 rfl rfl (Nat.le_of_ble_eq_true rfl) (Nat.le_of_ble_eq_true rfl) (by omega) rfl rfl (t_X12_wrongAt (d := 0) (by omega) 1 (y2.2 0 9) y2.2 _ e25) ?_
      cases h
      exact r_retb dX12_readsLine_27 rfl (mm_b01 _) mm_Zi_rfl
  · rw [if_neg (mm_b0 c3)] at h
    refine r_iconst (v := 0) (q := 10) dX12_readsLine_9 (by decide) rfl ?_
    cases h
    exact r_retb dX12_readsLine_10 rfl (Or.inl rfl) mm_Zi_rfl
noncomputable def X12_valley_l33 (s : (Int32 × mm_M)) : Option ((Int32 × mm_M) ⊕ mm_M) := if 80 ≤ s.1 then some (.inr s.2) else if mm_in s.1 80 = true then if mm_in s.1 80 = true then some (.inl ((s.1 + 1), (mm_U (mm_U s.2 21 (Int32.toNatClampNeg s.1) 0) 22 (Int32.toNatClampNeg s.1) (s.1 - s.1 / 10 * 10)))) else none else none
set_option maxRecDepth 100000 in
set_option maxHeartbeats 400000 in
theorem t_X12_valley_l33 {D : mm_D} {d : Nat} (hd : 4 ≤ d) {Z : Option Int32 → List mm_C → mm_M → Prop} (n : Nat) (s : (Int32 × mm_M)) (r : mm_M) (h : mm_loop (X12_valley_l33) n s = some r) (hx : mm_Go jX12_valley D d 0 0 62 [some (.inr 0), none, none, none] [] S_m r Z) : mm_Go jX12_valley D d 0 0 33 [some (.inr 0), none, some (.inl s.1), none] [] S_m s.2 Z := by
  refine mm_loop_go (step := X12_valley_l33) (Hd := fun (s : (Int32 × mm_M)) => mm_Go jX12_valley D d 0 0 33 [some (.inr 0), none, some (.inl s.1), none] [] S_m s.2 Z) (Ex := fun (r : mm_M) => mm_Go jX12_valley D d 0 0 62 [some (.inr 0), none, none, none] [] S_m r Z) ?_ n s r h hx
  intro s o h kb ke
  show mm_Go jX12_valley D d 0 0 33 [some (.inr 0), none, some (.inl s.1), none] [] S_m s.2 Z
  unfold X12_valley_l33 at h
  refine r_iload_n (q := 34) dX12_valley_33 rfl rfl ?_
  refine r_bipush (v := 80) (q := 36) dX12_valley_34 (by decide) rfl ?_
  refine r_icmp_ge 62 (q := 39) dX12_valley_36 (by decide) rfl (fun c5 => ?_) (fun c5 => ?_)
  · rw [if_pos c5] at h
    refine r_forget (L' := [some (.inr 0), none, none, none]) [true, false, false, false] rfl ?_
    cases h
    have hk := ke _ rfl
    exact hk
  · rw [if_neg c5] at h
    refine r_aload_n (q := 40) dX12_valley_39 rfl rfl ?_
    refine r_getr (b := 21) (q := 43) lk_X12_71 dX12_valley_40 sc_m_0 rfl rfl ?_
    refine r_iload_n (q := 44) dX12_valley_43 rfl rfl ?_
    refine r_iconst (v := 0) (q := 45) dX12_valley_44 (by decide) rfl ?_
    obtain ⟨g6, h⟩ := mm_guard h
    refine r_iast (j := (Int32.toNatClampNeg s.1)) (q := 46) dX12_valley_45 sc_m_21 (mm_vp g6) rfl rfl ?_
    refine r_aload_n (q := 47) dX12_valley_46 rfl rfl ?_
    refine r_getr (b := 22) (q := 50) lk_X12_74 dX12_valley_47 sc_m_0 rfl rfl ?_
    refine r_iload_n (q := 51) dX12_valley_50 rfl rfl ?_
    refine r_iload_n (q := 52) dX12_valley_51 rfl rfl ?_
    refine r_bipush (v := 10) (q := 54) dX12_valley_52 (by decide) rfl ?_
    refine r_irem (q := 55) dX12_valley_54 (by decide) rfl ?_
    obtain ⟨g7, h⟩ := mm_guard h
    refine r_iast (j := (Int32.toNatClampNeg s.1)) (q := 56) dX12_valley_55 sc_m_22 (mm_vp g7) rfl rfl ?_
    refine r_iinc (v := 1) (q := 59) (L' := [some (.inr 0), none, some (.inl (s.1 + 1)), none]) dX12_valley_56 (by decide) (by decide) rfl rfl rfl ?_
    refine r_goto 33 dX12_valley_59 (by decide) ?_
    cases h
    have hk := kb _ rfl
    exact hk
noncomputable def X12_valley_l67 (s : (Bool × mm_M)) : Option ((Bool × mm_M) ⊕ (Bool × mm_M)) := if s.1 = true then if (s.2 0 10) ≤ (s.2 0 9) then some (.inr (s.1, s.2)) else (X12_readsLine s.2).bind fun y15 => some (.inl (y15.1, y15.2)) else some (.inr (s.1, s.2))
set_option maxRecDepth 100000 in
set_option maxHeartbeats 400000 in
theorem t_X12_valley_l67 {D : mm_D} {d : Nat} (hd : 4 ≤ d) {Z : Option Int32 → List mm_C → mm_M → Prop} (n : Nat) (s : (Bool × mm_M)) (r : (Bool × mm_M)) (h : mm_loop (X12_valley_l67) n s = some r) (hx : mm_Go jX12_valley D d 0 0 90 [some (.inr 0), none, some (.inl (mm_b r.1)), none] [] S_m r.2 Z) : mm_Go jX12_valley D d 0 0 67 [some (.inr 0), none, some (.inl (mm_b s.1)), none] [] S_m s.2 Z := by
  refine mm_loop_go (step := X12_valley_l67) (Hd := fun (s : (Bool × mm_M)) => mm_Go jX12_valley D d 0 0 67 [some (.inr 0), none, some (.inl (mm_b s.1)), none] [] S_m s.2 Z) (Ex := fun (r : (Bool × mm_M)) => mm_Go jX12_valley D d 0 0 90 [some (.inr 0), none, some (.inl (mm_b r.1)), none] [] S_m r.2 Z) ?_ n s r h hx
  intro s o h kb ke
  show mm_Go jX12_valley D d 0 0 67 [some (.inr 0), none, some (.inl (mm_b s.1)), none] [] S_m s.2 Z
  unfold X12_valley_l67 at h
  refine r_iload_n (q := 68) dX12_valley_67 rfl rfl ?_
  refine r_if_eq 90 (q := 71) dX12_valley_68 (by decide) rfl (fun c12 => ?_) (fun c12 => ?_)
  · rw [if_neg (mm_b0 c12)] at h
    cases h
    have hk := ke _ rfl
    exact hk
  · rw [if_pos (mm_b1 c12)] at h
    refine r_aload_n (q := 72) dX12_valley_71 rfl rfl ?_
    refine r_geti (v := (s.2 0 9)) (q := 75) lk_X12_145 dX12_valley_72 sc_m_0 rfl rfl rfl ?_
    refine r_aload_n (q := 76) dX12_valley_75 rfl rfl ?_
    refine r_geti (v := (s.2 0 10)) (q := 79) lk_X12_148 dX12_valley_76 sc_m_0 rfl rfl rfl ?_
    refine r_icmp_ge 90 (q := 82) dX12_valley_79 (by decide) rfl (fun c13 => ?_) (fun c13 => ?_)
    · rw [if_pos c13] at h
      cases h
      have hk := ke _ rfl
      exact hk
    · rw [if_neg c13] at h
      refine r_aload_n (q := 83) dX12_valley_82 rfl rfl ?_
      obtain ⟨y15, e14, h⟩ := Option.bind_eq_some_iff.mp h
      refine r_callV_i (av := []) (st := []) (q := 86) (d1 := 3) kc_X12_275 sc_m_0 dX12_valley_83 rfl rfl (Nat.le_of_ble_eq_true rfl) (Nat.le_of_ble_eq_true rfl) (by omega) rfl rfl (t_X12_readsLine (d := 3) (by omega) s.2 _ e14) ?_
      refine r_istore_n (q := 87) (L' := [some (.inr 0), none, some (.inl (mm_b y15.1)), none]) dX12_valley_86 (by decide) rfl rfl ?_
      refine r_goto 67 dX12_valley_87 (by decide) ?_
      cases h
      have hk := kb _ rfl
      exact hk
noncomputable def X12_valley_l114 (s : (Int32 × mm_M)) : Option ((Int32 × mm_M) ⊕ mm_M) := if 80 ≤ s.1 then some (.inr s.2) else if mm_in s.1 80 = true then if mm_in s.1 80 = true then if mm_in s.1 80 = true then if mm_in s.1 80 = true then some (.inl ((s.1 + 1), (mm_U (mm_U s.2 5 (Int32.toNatClampNeg s.1) (s.2 21 (Int32.toNatClampNeg s.1))) 6 (Int32.toNatClampNeg s.1) (s.2 22 (Int32.toNatClampNeg s.1))))) else none else none else none else none
set_option maxRecDepth 100000 in
set_option maxHeartbeats 400000 in
theorem t_X12_valley_l114 {D : mm_D} {d : Nat} (hd : 4 ≤ d) {Z : Option Int32 → List mm_C → mm_M → Prop} (n : Nat) (s : (Int32 × mm_M)) (r : mm_M) (h : mm_loop (X12_valley_l114) n s = some r) (hx : mm_Go jX12_valley D d 0 0 150 [some (.inr 0), none, none, none] [] S_m r Z) : mm_Go jX12_valley D d 0 0 114 [some (.inr 0), none, none, some (.inl s.1)] [] S_m s.2 Z := by
  refine mm_loop_go (step := X12_valley_l114) (Hd := fun (s : (Int32 × mm_M)) => mm_Go jX12_valley D d 0 0 114 [some (.inr 0), none, none, some (.inl s.1)] [] S_m s.2 Z) (Ex := fun (r : mm_M) => mm_Go jX12_valley D d 0 0 150 [some (.inr 0), none, none, none] [] S_m r Z) ?_ n s r h hx
  intro s o h kb ke
  show mm_Go jX12_valley D d 0 0 114 [some (.inr 0), none, none, some (.inl s.1)] [] S_m s.2 Z
  unfold X12_valley_l114 at h
  refine r_iload_n (q := 115) dX12_valley_114 rfl rfl ?_
  refine r_bipush (v := 80) (q := 117) dX12_valley_115 (by decide) rfl ?_
  refine r_icmp_ge 150 (q := 120) dX12_valley_117 (by decide) rfl (fun c19 => ?_) (fun c19 => ?_)
  · rw [if_pos c19] at h
    refine r_forget (L' := [some (.inr 0), none, none, none]) [true, false, false, false] rfl ?_
    cases h
    have hk := ke _ rfl
    exact hk
  · rw [if_neg c19] at h
    refine r_aload_n (q := 121) dX12_valley_120 rfl rfl ?_
    refine r_getr (b := 5) (q := 124) lk_X12_22 dX12_valley_121 sc_m_0 rfl rfl ?_
    refine r_iload_n (q := 125) dX12_valley_124 rfl rfl ?_
    refine r_aload_n (q := 126) dX12_valley_125 rfl rfl ?_
    refine r_getr (b := 21) (q := 129) lk_X12_71 dX12_valley_126 sc_m_0 rfl rfl ?_
    refine r_iload_n (q := 130) dX12_valley_129 rfl rfl ?_
    obtain ⟨g20, h⟩ := mm_guard h
    refine r_iald (v := (s.2 21 (Int32.toNatClampNeg s.1))) (q := 131) dX12_valley_130 sc_m_21 (mm_vp g20) rfl rfl ?_
    obtain ⟨g21, h⟩ := mm_guard h
    refine r_iast (j := (Int32.toNatClampNeg s.1)) (q := 132) dX12_valley_131 sc_m_5 (mm_vp g21) rfl rfl ?_
    refine r_aload_n (q := 133) dX12_valley_132 rfl rfl ?_
    refine r_getr (b := 6) (q := 136) lk_X12_25 dX12_valley_133 sc_m_0 rfl rfl ?_
    refine r_iload_n (q := 137) dX12_valley_136 rfl rfl ?_
    refine r_aload_n (q := 138) dX12_valley_137 rfl rfl ?_
    refine r_getr (b := 22) (q := 141) lk_X12_74 dX12_valley_138 sc_m_0 rfl rfl ?_
    refine r_iload_n (q := 142) dX12_valley_141 rfl rfl ?_
    obtain ⟨g22, h⟩ := mm_guard h
    refine r_iald (v := (s.2 22 (Int32.toNatClampNeg s.1))) (q := 143) dX12_valley_142 sc_m_22 (mm_vp g22) rfl rfl ?_
    obtain ⟨g23, h⟩ := mm_guard h
    refine r_iast (j := (Int32.toNatClampNeg s.1)) (q := 144) dX12_valley_143 sc_m_6 (mm_vp g23) rfl rfl ?_
    refine r_iinc (v := 1) (q := 147) (L' := [some (.inr 0), none, none, some (.inl (s.1 + 1))]) dX12_valley_144 (by decide) (by decide) rfl rfl rfl ?_
    refine r_goto 114 dX12_valley_147 (by decide) ?_
    cases h
    have hk := kb _ rfl
    exact hk
noncomputable def X12_valley_j90 (x2 : Bool) (M : mm_M) : Option (Int32 × mm_M) := if x2 = true then (mm_loop (X12_valley_l114) mm_fuel (0, (mm_U (mm_U M 0 8 0) 0 6 (M 0 33)))).bind fun y24 => some ((y24 0 6), (mm_U (mm_U (mm_U y24 1 0 0) 1 1 0) 1 2 8)) else some ((M 0 11), (mm_U M 0 8 0))
set_option maxRecDepth 100000 in
set_option maxHeartbeats 400000 in
theorem t_X12_valley_j90 {D : mm_D} {d : Nat} (hd : 4 ≤ d) (x2 : Bool) (M : mm_M) (res : (Int32 × mm_M)) (h : X12_valley_j90 x2 M = some res) : mm_Go jX12_valley D d 0 0 90 [some (.inr 0), none, some (.inl (mm_b x2)), none] [] S_m M (mm_Zi res.1 S_m res.2) := by
  unfold X12_valley_j90 at h
  refine r_aload_n (q := 91) dX12_valley_90 rfl rfl ?_
  refine r_iconst (v := 0) (q := 92) dX12_valley_91 (by decide) rfl ?_
  refine r_puti (q := 95) lk_X12_138 ft_9_8 dX12_valley_92 sc_m_0 rfl rfl ?_
  refine r_iload_n (q := 96) dX12_valley_95 rfl rfl ?_
  refine r_if_ne 104 (q := 99) dX12_valley_96 (by decide) rfl (fun c18 => ?_) (fun c18 => ?_)
  · rw [if_pos (mm_b1 c18)] at h
    refine r_aload_n (q := 105) dX12_valley_104 rfl rfl ?_
    refine r_aload_n (q := 106) dX12_valley_105 rfl rfl ?_
    refine r_geti (v := (M 0 33)) (q := 109) lk_X12_249 dX12_valley_106 sc_m_0 rfl rfl rfl ?_
    refine r_puti (q := 112) lk_X12_123 ft_9_6 dX12_valley_109 sc_m_0 rfl rfl ?_
    refine r_iconst (v := 0) (q := 113) dX12_valley_112 (by decide) rfl ?_
    refine r_istore_n (q := 114) (L' := [some (.inr 0), none, some (.inl (mm_b x2)), some (.inl 0)]) dX12_valley_113 (by decide) rfl rfl ?_
    refine r_forget (L' := [some (.inr 0), none, none, some (.inl 0)]) [true, false, false, true] rfl ?_
    obtain ⟨y24, e25, h⟩ := Option.bind_eq_some_iff.mp h
    refine t_X12_valley_l114 hd mm_fuel (0, (mm_U (mm_U M 0 8 0) 0 6 (M 0 33))) _ e25 ?_
    show mm_Go jX12_valley _ _ _ _ 150 [some (.inr 0), none, none, none] [] S_m y24 _
    refine r_aload_n (q := 151) dX12_valley_150 rfl rfl ?_
    refine r_getr (b := 1) (q := 154) lk_X12_7 dX12_valley_151 sc_m_0 rfl rfl ?_
    refine r_iconst (v := 0) (q := 155) dX12_valley_154 (by decide) rfl ?_
    refine r_iconst (v := 0) (q := 156) dX12_valley_155 (by decide) rfl ?_
    refine r_iast (j := 0) (q := 157) dX12_valley_156 sc_m_1 (mm_vp (by decide)) rfl rfl ?_
    refine r_aload_n (q := 158) dX12_valley_157 rfl rfl ?_
    refine r_getr (b := 1) (q := 161) lk_X12_7 dX12_valley_158 sc_m_0 rfl rfl ?_
    refine r_iconst (v := 1) (q := 162) dX12_valley_161 (by decide) rfl ?_
    refine r_iconst (v := 0) (q := 163) dX12_valley_162 (by decide) rfl ?_
    refine r_iast (j := 1) (q := 164) dX12_valley_163 sc_m_1 (mm_vp (by decide)) rfl rfl ?_
    refine r_aload_n (q := 165) dX12_valley_164 rfl rfl ?_
    refine r_getr (b := 1) (q := 168) lk_X12_7 dX12_valley_165 sc_m_0 rfl rfl ?_
    refine r_iconst (v := 2) (q := 169) dX12_valley_168 (by decide) rfl ?_
    refine r_bipush (v := 8) (q := 171) dX12_valley_169 (by decide) rfl ?_
    refine r_iast (j := 2) (q := 172) dX12_valley_171 sc_m_1 (mm_vp (by decide)) rfl rfl ?_
    refine r_aload_n (q := 173) dX12_valley_172 rfl rfl ?_
    refine r_geti (v := (y24 0 6)) (q := 176) lk_X12_123 dX12_valley_173 sc_m_0 rfl rfl rfl ?_
    cases h
    exact r_ret dX12_valley_176 rfl mm_Zi_rfl
  · rw [if_neg (mm_b0 c18)] at h
    refine r_aload_n (q := 100) dX12_valley_99 rfl rfl ?_
    refine r_geti (v := (M 0 11)) (q := 103) lk_X12_155 dX12_valley_100 sc_m_0 rfl rfl rfl ?_
    cases h
    exact r_ret dX12_valley_103 rfl mm_Zi_rfl
noncomputable def X12_valley (x1 : Int32) (M : mm_M) : Option (Int32 × mm_M) := if (X12_in x1 1 220) = true then if x1 ≤ (M 0 8) then mm_let (X12_beginsText x1 M) fun y4 => (mm_loop (X12_valley_l33) mm_fuel (0, (mm_U y4 0 34 0))).bind fun y8 => (X12_readsStates y8).bind fun y11 => (mm_loop (X12_valley_l67) mm_fuel (y11.1, y11.2)).bind fun y16 => X12_valley_j90 y16.1 y16.2 else some ((-1), M) else some ((-1), M)
set_option maxRecDepth 100000 in
set_option maxHeartbeats 400000 in
theorem t_X12_valley {d : Nat} (hd : 4 ≤ d) (x1 : Int32) (M : mm_M) (res : (Int32 × mm_M)) (h : X12_valley x1 M = some res) : mm_Meth jX12_valley d 0 0 [(.inr 0), (.inl x1)] S_m M (mm_Zi res.1 S_m res.2) := by
  refine r_meth (L := [some (.inr 0), some (.inl x1), none, none]) rfl (fun D => ?_)
  unfold X12_valley at h
  refine r_iload_n (q := 1) dX12_valley_0 rfl rfl ?_
  refine r_iconst (v := 1) (q := 2) dX12_valley_1 (by decide) rfl ?_
  refine r_sipush (v := 220) (q := 5) dX12_valley_2 (by decide) rfl ?_
  refine r_callS_i (av := [(.inl x1), (.inl 1), (.inl 220)]) (st := []) (q := 8) (d1 := 0) kc_X12_127 dX12_valley_5 rfl rfl (Nat.le_of_ble_eq_true rfl) (Nat.le_of_ble_eq_true rfl) (by omega) rfl rfl (t_X12_in (d := 0) (by omega) x1 1 220 M _ rfl) ?_
  refine r_if_eq 19 (q := 11) dX12_valley_8 (by decide) rfl (fun c1 => ?_) (fun c1 => ?_)
  · rw [if_neg (mm_b0 c1)] at h
    refine r_iconst (v := (-1)) (q := 20) dX12_valley_19 (by decide) rfl ?_
    cases h
    exact r_ret dX12_valley_20 rfl mm_Zi_rfl
  · rw [if_pos (mm_b1 c1)] at h
    refine r_iload_n (q := 12) dX12_valley_11 rfl rfl ?_
    refine r_aload_n (q := 13) dX12_valley_12 rfl rfl ?_
    refine r_geti (v := (M 0 8)) (q := 16) lk_X12_138 dX12_valley_13 sc_m_0 rfl rfl rfl ?_
    refine r_icmp_le 21 (q := 19) dX12_valley_16 (by decide) rfl (fun c2 => ?_) (fun c2 => ?_)
    · rw [if_pos c2] at h
      refine r_aload_n (q := 22) dX12_valley_21 rfl rfl ?_
      refine r_iload_n (q := 23) dX12_valley_22 rfl rfl ?_
      obtain ⟨y4, e3, h⟩ := mm_let_elim h
      refine r_callV_v (av := [(.inl x1)]) (st := []) (q := 26) (d1 := 0) kc_X12_229 sc_m_0 dX12_valley_23 rfl rfl (Nat.le_of_ble_eq_true rfl) (Nat.le_of_ble_eq_true rfl) (by omega) rfl rfl (t_X12_beginsText (d := 0) (by omega) x1 M _ e3) ?_
      refine r_aload_n (q := 27) dX12_valley_26 rfl rfl ?_
      refine r_iconst (v := 0) (q := 28) dX12_valley_27 (by decide) rfl ?_
      refine r_puti (q := 31) lk_X12_266 ft_9_34 dX12_valley_28 sc_m_0 rfl rfl ?_
      refine r_iconst (v := 0) (q := 32) dX12_valley_31 (by decide) rfl ?_
      refine r_istore_n (q := 33) (L' := [some (.inr 0), some (.inl x1), some (.inl 0), none]) dX12_valley_32 (by decide) rfl rfl ?_
      refine r_forget (L' := [some (.inr 0), none, some (.inl 0), none]) [true, false, true, false] rfl ?_
      obtain ⟨y8, e9, h⟩ := Option.bind_eq_some_iff.mp h
      refine t_X12_valley_l33 hd mm_fuel (0, (mm_U y4 0 34 0)) _ e9 ?_
      show mm_Go jX12_valley _ _ _ _ 62 [some (.inr 0), none, none, none] [] S_m y8 _
      refine r_aload_n (q := 63) dX12_valley_62 rfl rfl ?_
      obtain ⟨y11, e10, h⟩ := Option.bind_eq_some_iff.mp h
      refine r_callV_i (av := []) (st := []) (q := 66) (d1 := 2) kc_X12_272 sc_m_0 dX12_valley_63 rfl rfl (Nat.le_of_ble_eq_true rfl) (Nat.le_of_ble_eq_true rfl) (by omega) rfl rfl (t_X12_readsStates (d := 2) (by omega) y8 _ e10) ?_
      refine r_istore_n (q := 67) (L' := [some (.inr 0), none, some (.inl (mm_b y11.1)), none]) dX12_valley_66 (by decide) rfl rfl ?_
      obtain ⟨y16, e17, h⟩ := Option.bind_eq_some_iff.mp h
      refine t_X12_valley_l67 hd mm_fuel (y11.1, y11.2) _ e17 ?_
      show mm_Go jX12_valley _ _ _ _ 90 [some (.inr 0), none, some (.inl (mm_b y16.1)), none] [] S_m y16.2 _
      exact t_X12_valley_j90 hd y16.1 y16.2 _ h
    · rw [if_neg c2] at h
      refine r_iconst (v := (-1)) (q := 20) dX12_valley_19 (by decide) rfl ?_
      cases h
      exact r_ret dX12_valley_20 rfl mm_Zi_rfl
noncomputable def X12_readsTimes (M : mm_M) : Option mm_M := (X12_here (mm_U (mm_U M 0 43 (M 0 9)) 0 44 1)).bind fun y2 => if (X12_in y2 50 57) = true then (X12_here (mm_U (mm_U M 0 43 (M 0 9)) 0 44 1)).bind fun y5 => some (mm_U (mm_U (mm_U (mm_U M 0 43 (M 0 9)) 0 44 1) 0 44 (y5 - 48)) 0 9 ((M 0 9) + 1)) else some (mm_U (mm_U M 0 43 (M 0 9)) 0 44 1)
set_option maxRecDepth 100000 in
set_option maxHeartbeats 400000 in
theorem t_X12_readsTimes {d : Nat} (hd : 1 ≤ d) (M : mm_M) (res : mm_M) (h : X12_readsTimes M = some res) : mm_Meth jX12_readsTimes d 0 0 [(.inr 0)] S_m M (mm_Zv S_m res) := by
  refine r_meth (L := [some (.inr 0)]) rfl (fun D => ?_)
  unfold X12_readsTimes at h
  refine r_aload_n (q := 1) dX12_readsTimes_0 rfl rfl ?_
  refine r_aload_n (q := 2) dX12_readsTimes_1 rfl rfl ?_
  refine r_geti (v := (M 0 9)) (q := 5) lk_X12_145 dX12_readsTimes_2 sc_m_0 rfl rfl rfl ?_
  refine r_puti (q := 8) lk_X12_278 ft_9_43 dX12_readsTimes_5 sc_m_0 rfl rfl ?_
  refine r_aload_n (q := 9) dX12_readsTimes_8 rfl rfl ?_
  refine r_iconst (v := 1) (q := 10) dX12_readsTimes_9 (by decide) rfl ?_
  refine r_puti (q := 13) lk_X12_281 ft_9_44 dX12_readsTimes_10 sc_m_0 rfl rfl ?_
  refine r_aload_n (q := 14) dX12_readsTimes_13 rfl rfl ?_
  obtain ⟨y2, e1, h⟩ := Option.bind_eq_some_iff.mp h
  refine r_callV_i (av := []) (st := []) (q := 17) (d1 := 0) kc_X12_151 sc_m_0 dX12_readsTimes_14 rfl rfl (Nat.le_of_ble_eq_true rfl) (Nat.le_of_ble_eq_true rfl) (by omega) rfl rfl (t_X12_here (d := 0) (by omega) (mm_U (mm_U M 0 43 (M 0 9)) 0 44 1) _ e1) ?_
  refine r_bipush (v := 50) (q := 19) dX12_readsTimes_17 (by decide) rfl ?_
  refine r_bipush (v := 57) (q := 21) dX12_readsTimes_19 (by decide) rfl ?_
  refine r_callS_i (av := [(.inl y2), (.inl 50), (.inl 57)]) (st := []) (q := 24) (d1 := 0) kc_X12_127 dX12_readsTimes_21 rfl rfl (Nat.le_of_ble_eq_true rfl) (Nat.le_of_ble_eq_true rfl) (by omega) rfl rfl (t_X12_in (d := 0) (by omega) y2 50 57 (mm_U (mm_U M 0 43 (M 0 9)) 0 44 1) _ rfl) ?_
  refine r_if_ne 28 (q := 27) dX12_readsTimes_24 (by decide) rfl (fun c3 => ?_) (fun c3 => ?_)
  · rw [if_pos (mm_b1 c3)] at h
    refine r_aload_n (q := 29) dX12_readsTimes_28 rfl rfl ?_
    refine r_aload_n (q := 30) dX12_readsTimes_29 rfl rfl ?_
    obtain ⟨y5, e4, h⟩ := Option.bind_eq_some_iff.mp h
    refine r_callV_i (av := []) (st := [(.inr 0)]) (q := 33) (d1 := 0) kc_X12_151 sc_m_0 dX12_readsTimes_30 rfl rfl (Nat.le_of_ble_eq_true rfl) (Nat.le_of_ble_eq_true rfl) (by omega) rfl rfl (t_X12_here (d := 0) (by omega) (mm_U (mm_U M 0 43 (M 0 9)) 0 44 1) _ e4) ?_
    refine r_bipush (v := 48) (q := 35) dX12_readsTimes_33 (by decide) rfl ?_
    refine r_isub (q := 36) dX12_readsTimes_35 rfl ?_
    refine r_puti (q := 39) lk_X12_281 ft_9_44 dX12_readsTimes_36 sc_m_0 rfl rfl ?_
    refine r_aload_n (q := 40) dX12_readsTimes_39 rfl rfl ?_
    refine r_aload_n (q := 41) dX12_readsTimes_40 rfl rfl ?_
    refine r_geti (v := (M 0 9)) (q := 44) lk_X12_145 dX12_readsTimes_41 sc_m_0 rfl rfl rfl ?_
    refine r_iconst (v := 1) (q := 45) dX12_readsTimes_44 (by decide) rfl ?_
    refine r_iadd (q := 46) dX12_readsTimes_45 rfl ?_
    refine r_puti (q := 49) lk_X12_145 ft_9_9 dX12_readsTimes_46 sc_m_0 rfl rfl ?_
    cases h
    exact r_retv dX12_readsTimes_49 rfl mm_Zv_rfl
  · rw [if_neg (mm_b0 c3)] at h
    cases h
    exact r_retv dX12_readsTimes_27 rfl mm_Zv_rfl
noncomputable def X12_repeats_l31 (x1 : Int32) (x2 : Int32) (x4 : Int32) (s : (Int32 × mm_M)) : Option ((Int32 × mm_M) ⊕ mm_M) := if (x4 * x2) ≤ s.1 then some (.inr s.2) else if mm_in ((x1 + s.1) - x4) 40 = true then if mm_in (x1 + s.1) 40 = true then some (.inl ((s.1 + 1), (mm_U s.2 23 (Int32.toNatClampNeg (x1 + s.1)) (s.2 23 (Int32.toNatClampNeg ((x1 + s.1) - x4)))))) else none else none
set_option maxRecDepth 100000 in
set_option maxHeartbeats 400000 in
theorem t_X12_repeats_l31 {D : mm_D} {d : Nat} (hd : 1 ≤ d) {Z : Option Int32 → List mm_C → mm_M → Prop} (x1 : Int32) (x2 : Int32) (x4 : Int32) (n : Nat) (s : (Int32 × mm_M)) (r : mm_M) (h : mm_loop (X12_repeats_l31 x1 x2 x4) n s = some r) (hx : mm_Go jX12_repeats D d 0 0 67 [some (.inr 0), some (.inl x1), some (.inl x2), none, some (.inl x4), none] [] S_m r Z) : mm_Go jX12_repeats D d 0 0 31 [some (.inr 0), some (.inl x1), some (.inl x2), none, some (.inl x4), some (.inl s.1)] [] S_m s.2 Z := by
  refine mm_loop_go (step := X12_repeats_l31 x1 x2 x4) (Hd := fun (s : (Int32 × mm_M)) => mm_Go jX12_repeats D d 0 0 31 [some (.inr 0), some (.inl x1), some (.inl x2), none, some (.inl x4), some (.inl s.1)] [] S_m s.2 Z) (Ex := fun (r : mm_M) => mm_Go jX12_repeats D d 0 0 67 [some (.inr 0), some (.inl x1), some (.inl x2), none, some (.inl x4), none] [] S_m r Z) ?_ n s r h hx
  intro s o h kb ke
  show mm_Go jX12_repeats D d 0 0 31 [some (.inr 0), some (.inl x1), some (.inl x2), none, some (.inl x4), some (.inl s.1)] [] S_m s.2 Z
  unfold X12_repeats_l31 at h
  refine r_iload (q := 33) dX12_repeats_31 rfl rfl ?_
  refine r_iload (q := 35) dX12_repeats_33 rfl rfl ?_
  refine r_iload_n (q := 36) dX12_repeats_35 rfl rfl ?_
  refine r_imul (q := 37) dX12_repeats_36 rfl ?_
  refine r_icmp_ge 67 (q := 40) dX12_repeats_37 (by decide) rfl (fun c2 => ?_) (fun c2 => ?_)
  · rw [if_pos c2] at h
    refine r_forget (L' := [some (.inr 0), some (.inl x1), some (.inl x2), none, some (.inl x4), none]) [true, true, true, false, true, false] rfl ?_
    cases h
    have hk := ke _ rfl
    exact hk
  · rw [if_neg c2] at h
    refine r_aload_n (q := 41) dX12_repeats_40 rfl rfl ?_
    refine r_getr (b := 23) (q := 44) lk_X12_77 dX12_repeats_41 sc_m_0 rfl rfl ?_
    refine r_iload_n (q := 45) dX12_repeats_44 rfl rfl ?_
    refine r_iload (q := 47) dX12_repeats_45 rfl rfl ?_
    refine r_iadd (q := 48) dX12_repeats_47 rfl ?_
    refine r_aload_n (q := 49) dX12_repeats_48 rfl rfl ?_
    refine r_getr (b := 23) (q := 52) lk_X12_77 dX12_repeats_49 sc_m_0 rfl rfl ?_
    refine r_iload_n (q := 53) dX12_repeats_52 rfl rfl ?_
    refine r_iload (q := 55) dX12_repeats_53 rfl rfl ?_
    refine r_iadd (q := 56) dX12_repeats_55 rfl ?_
    refine r_iload (q := 58) dX12_repeats_56 rfl rfl ?_
    refine r_isub (q := 59) dX12_repeats_58 rfl ?_
    obtain ⟨g3, h⟩ := mm_guard h
    refine r_iald (v := (s.2 23 (Int32.toNatClampNeg ((x1 + s.1) - x4)))) (q := 60) dX12_repeats_59 sc_m_23 (mm_vp g3) rfl rfl ?_
    obtain ⟨g4, h⟩ := mm_guard h
    refine r_iast (j := (Int32.toNatClampNeg (x1 + s.1))) (q := 61) dX12_repeats_60 sc_m_23 (mm_vp g4) rfl rfl ?_
    refine r_iinc (v := 1) (q := 64) (L' := [some (.inr 0), some (.inl x1), some (.inl x2), none, some (.inl x4), some (.inl (s.1 + 1))]) dX12_repeats_61 (by decide) (by decide) rfl rfl rfl ?_
    refine r_goto 31 dX12_repeats_64 (by decide) ?_
    cases h
    have hk := kb _ rfl
    exact hk
noncomputable def X12_repeats (x1 : Int32) (x2 : Int32) (x3 : Int32) (M : mm_M) : Option (Bool × mm_M) := if (x1 + (((M 0 41) - x1) * x2)) ≤ 40 then (mm_loop (X12_repeats_l31 x1 x2 ((M 0 41) - x1)) mm_fuel (((M 0 41) - x1), M)).bind fun y5 => some (true, (mm_U y5 0 41 (x1 + (((M 0 41) - x1) * x2)))) else mm_let (X12_wrongAt 6 x3 M) fun y8 => some (y8.1, y8.2)
set_option maxRecDepth 100000 in
set_option maxHeartbeats 400000 in
theorem t_X12_repeats {d : Nat} (hd : 1 ≤ d) (x1 : Int32) (x2 : Int32) (x3 : Int32) (M : mm_M) (res : (Bool × mm_M)) (h : X12_repeats x1 x2 x3 M = some res) : mm_Meth jX12_repeats d 0 0 [(.inr 0), (.inl x1), (.inl x2), (.inl x3)] S_m M (mm_Zi (mm_b res.1) S_m res.2) := by
  refine r_meth (L := [some (.inr 0), some (.inl x1), some (.inl x2), some (.inl x3), none, none]) rfl (fun D => ?_)
  unfold X12_repeats at h
  refine r_aload_n (q := 1) dX12_repeats_0 rfl rfl ?_
  refine r_geti (v := (M 0 41)) (q := 4) lk_X12_284 dX12_repeats_1 sc_m_0 rfl rfl rfl ?_
  refine r_iload_n (q := 5) dX12_repeats_4 rfl rfl ?_
  refine r_isub (q := 6) dX12_repeats_5 rfl ?_
  refine r_istore (q := 8) (L' := [some (.inr 0), some (.inl x1), some (.inl x2), some (.inl x3), some (.inl ((M 0 41) - x1)), none]) dX12_repeats_6 (by decide) rfl rfl ?_
  refine r_iload_n (q := 9) dX12_repeats_8 rfl rfl ?_
  refine r_iload (q := 11) dX12_repeats_9 rfl rfl ?_
  refine r_iload_n (q := 12) dX12_repeats_11 rfl rfl ?_
  refine r_imul (q := 13) dX12_repeats_12 rfl ?_
  refine r_iadd (q := 14) dX12_repeats_13 rfl ?_
  refine r_bipush (v := 40) (q := 16) dX12_repeats_14 (by decide) rfl ?_
  refine r_icmp_le 27 (q := 19) dX12_repeats_16 (by decide) rfl (fun c1 => ?_) (fun c1 => ?_)
  · rw [if_pos c1] at h
    refine r_iload (q := 29) dX12_repeats_27 rfl rfl ?_
    refine r_istore (q := 31) (L' := [some (.inr 0), some (.inl x1), some (.inl x2), some (.inl x3), some (.inl ((M 0 41) - x1)), some (.inl ((M 0 41) - x1))]) dX12_repeats_29 (by decide) rfl rfl ?_
    refine r_forget (L' := [some (.inr 0), some (.inl x1), some (.inl x2), none, some (.inl ((M 0 41) - x1)), some (.inl ((M 0 41) - x1))]) [true, true, true, false, true, true] rfl ?_
    obtain ⟨y5, e6, h⟩ := Option.bind_eq_some_iff.mp h
    refine t_X12_repeats_l31 hd x1 x2 ((M 0 41) - x1) mm_fuel (((M 0 41) - x1), M) _ e6 ?_
    show mm_Go jX12_repeats _ _ _ _ 67 [some (.inr 0), some (.inl x1), some (.inl x2), none, some (.inl ((M 0 41) - x1)), none] [] S_m y5 _
    refine r_aload_n (q := 68) dX12_repeats_67 rfl rfl ?_
    refine r_iload_n (q := 69) dX12_repeats_68 rfl rfl ?_
    refine r_iload (q := 71) dX12_repeats_69 rfl rfl ?_
    refine r_iload_n (q := 72) dX12_repeats_71 rfl rfl ?_
    refine r_imul (q := 73) dX12_repeats_72 rfl ?_
    refine r_iadd (q := 74) dX12_repeats_73 rfl ?_
    refine r_puti (q := 77) lk_X12_284 ft_9_41 dX12_repeats_74 sc_m_0 rfl rfl ?_
    refine r_iconst (v := 1) (q := 78) dX12_repeats_77 (by decide) rfl ?_
    cases h
    exact r_retb dX12_repeats_78 rfl (Or.inr rfl) mm_Zi_rfl
  · rw [if_neg c1] at h
    refine r_aload_n (q := 20) dX12_repeats_19 rfl rfl ?_
    refine r_bipush (v := 6) (q := 22) dX12_repeats_20 (by decide) rfl ?_
    refine r_iload_n (q := 23) dX12_repeats_22 rfl rfl ?_
    obtain ⟨y8, e7, h⟩ := mm_let_elim h
    refine r_callV_i (av := [(.inl 6), (.inl x3)]) (st := []) (q := 26) (d1 := 0) kc_X12_158 sc_m_0 dX12_repeats_23 rfl rfl (Nat.le_of_ble_eq_true rfl) (Nat.le_of_ble_eq_true rfl) (by omega) rfl rfl (t_X12_wrongAt (d := 0) (by omega) 6 x3 M _ e7) ?_
    cases h
    exact r_retb dX12_repeats_26 rfl (mm_b01 _) mm_Zi_rfl
noncomputable def X12_readsAsked_l4 (s : mm_M) : Option (mm_M ⊕ ((Bool × mm_M) ⊕ mm_M)) := (X12_here s).bind fun y4 => if y4 = 40 then if (s 0 42) = 2 then mm_let (X12_wrongAt 5 (s 0 9) s) fun y8 => some (.inr (.inl (y8.1, y8.2))) else if mm_in (s 0 42) 2 = true then if mm_in (s 0 42) 2 = true then if mm_in (s 0 42) 2 = true then (X12_readsTimes (mm_U (mm_U (mm_U (mm_U (mm_U s 24 (Int32.toNatClampNeg (s 0 42)) (s 0 43)) 25 (Int32.toNatClampNeg (s 0 42)) (s 0 41)) 26 (Int32.toNatClampNeg (s 0 42)) (s 0 44)) 0 42 ((s 0 42) + 1)) 0 9 ((s 0 9) + 1))).bind fun y13 => some (.inl y13) else none else none else none else some (.inr (.inr s))
set_option maxRecDepth 100000 in
set_option maxHeartbeats 400000 in
theorem t_X12_readsAsked_l4 {D : mm_D} {d : Nat} (hd : 2 ≤ d) {Z : Option Int32 → List mm_C → mm_M → Prop} (n : Nat) (s : mm_M) (r : ((Bool × mm_M) ⊕ mm_M)) (h : mm_loop (X12_readsAsked_l4) n s = some r) (hx : (Sum.elim (fun (y : (Bool × mm_M)) => Z (some (mm_b y.1)) S_m y.2) (fun (s : mm_M) => mm_Go jX12_readsAsked D d 0 0 97 [some (.inr 0), none, none] [] S_m s Z) r)) : mm_Go jX12_readsAsked D d 0 0 4 [some (.inr 0), none, none] [] S_m s Z := by
  refine mm_loop_go (step := X12_readsAsked_l4) (Hd := fun (s : mm_M) => mm_Go jX12_readsAsked D d 0 0 4 [some (.inr 0), none, none] [] S_m s Z) (Ex := fun (r : ((Bool × mm_M) ⊕ mm_M)) => (Sum.elim (fun (y : (Bool × mm_M)) => Z (some (mm_b y.1)) S_m y.2) (fun (s : mm_M) => mm_Go jX12_readsAsked D d 0 0 97 [some (.inr 0), none, none] [] S_m s Z) r)) ?_ n s r h hx
  intro s o h kb ke
  show mm_Go jX12_readsAsked D d 0 0 4 [some (.inr 0), none, none] [] S_m s Z
  unfold X12_readsAsked_l4 at h
  refine r_aload_n (q := 5) dX12_readsAsked_4 rfl rfl ?_
  obtain ⟨y4, e3, h⟩ := Option.bind_eq_some_iff.mp h
  refine r_callV_i (av := []) (st := []) (q := 8) (d1 := 0) kc_X12_151 sc_m_0 dX12_readsAsked_5 rfl rfl (Nat.le_of_ble_eq_true rfl) (Nat.le_of_ble_eq_true rfl) (by omega) rfl rfl (t_X12_here (d := 0) (by omega) s _ e3) ?_
  refine r_bipush (v := 40) (q := 10) dX12_readsAsked_8 (by decide) rfl ?_
  refine r_icmp_ne 97 (q := 13) dX12_readsAsked_10 (by decide) rfl (fun c5 => ?_) (fun c5 => ?_)
  · rw [if_neg c5] at h
    cases h
    have hk := ke _ rfl
    exact hk
  · rw [if_pos c5] at h
    refine r_aload_n (q := 14) dX12_readsAsked_13 rfl rfl ?_
    refine r_geti (v := (s 0 42)) (q := 17) lk_X12_290 dX12_readsAsked_14 sc_m_0 rfl rfl rfl ?_
    refine r_iconst (v := 2) (q := 18) dX12_readsAsked_17 (by decide) rfl ?_
    refine r_icmp_ne 31 (q := 21) dX12_readsAsked_18 (by decide) rfl (fun c6 => ?_) (fun c6 => ?_)
    · rw [if_neg c6] at h
      refine r_aload_n (q := 32) dX12_readsAsked_31 rfl rfl ?_
      refine r_getr (b := 24) (q := 35) lk_X12_80 dX12_readsAsked_32 sc_m_0 rfl rfl ?_
      refine r_aload_n (q := 36) dX12_readsAsked_35 rfl rfl ?_
      refine r_geti (v := (s 0 42)) (q := 39) lk_X12_290 dX12_readsAsked_36 sc_m_0 rfl rfl rfl ?_
      refine r_aload_n (q := 40) dX12_readsAsked_39 rfl rfl ?_
      refine r_geti (v := (s 0 43)) (q := 43) lk_X12_278 dX12_readsAsked_40 sc_m_0 rfl rfl rfl ?_
      obtain ⟨g9, h⟩ := mm_guard h
      refine r_iast (j := (Int32.toNatClampNeg (s 0 42))) (q := 44) dX12_readsAsked_43 sc_m_24 (mm_vp g9) rfl rfl ?_
      refine r_aload_n (q := 45) dX12_readsAsked_44 rfl rfl ?_
      refine r_getr (b := 25) (q := 48) lk_X12_83 dX12_readsAsked_45 sc_m_0 rfl rfl ?_
      refine r_aload_n (q := 49) dX12_readsAsked_48 rfl rfl ?_
      refine r_geti (v := (s 0 42)) (q := 52) lk_X12_290 dX12_readsAsked_49 sc_m_0 rfl rfl rfl ?_
      refine r_aload_n (q := 53) dX12_readsAsked_52 rfl rfl ?_
      refine r_geti (v := (s 0 41)) (q := 56) lk_X12_284 dX12_readsAsked_53 sc_m_0 rfl rfl rfl ?_
      obtain ⟨g10, h⟩ := mm_guard h
      refine r_iast (j := (Int32.toNatClampNeg (s 0 42))) (q := 57) dX12_readsAsked_56 sc_m_25 (mm_vp g10) rfl rfl ?_
      refine r_aload_n (q := 58) dX12_readsAsked_57 rfl rfl ?_
      refine r_getr (b := 26) (q := 61) lk_X12_86 dX12_readsAsked_58 sc_m_0 rfl rfl ?_
      refine r_aload_n (q := 62) dX12_readsAsked_61 rfl rfl ?_
      refine r_geti (v := (s 0 42)) (q := 65) lk_X12_290 dX12_readsAsked_62 sc_m_0 rfl rfl rfl ?_
      refine r_aload_n (q := 66) dX12_readsAsked_65 rfl rfl ?_
      refine r_geti (v := (s 0 44)) (q := 69) lk_X12_281 dX12_readsAsked_66 sc_m_0 rfl rfl rfl ?_
      obtain ⟨g11, h⟩ := mm_guard h
      refine r_iast (j := (Int32.toNatClampNeg (s 0 42))) (q := 70) dX12_readsAsked_69 sc_m_26 (mm_vp g11) rfl rfl ?_
      refine r_aload_n (q := 71) dX12_readsAsked_70 rfl rfl ?_
      refine r_aload_n (q := 72) dX12_readsAsked_71 rfl rfl ?_
      refine r_geti (v := (s 0 42)) (q := 75) lk_X12_290 dX12_readsAsked_72 sc_m_0 rfl rfl rfl ?_
      refine r_iconst (v := 1) (q := 76) dX12_readsAsked_75 (by decide) rfl ?_
      refine r_iadd (q := 77) dX12_readsAsked_76 rfl ?_
      refine r_puti (q := 80) lk_X12_290 ft_9_42 dX12_readsAsked_77 sc_m_0 rfl rfl ?_
      refine r_aload_n (q := 81) dX12_readsAsked_80 rfl rfl ?_
      refine r_aload_n (q := 82) dX12_readsAsked_81 rfl rfl ?_
      refine r_geti (v := (s 0 9)) (q := 85) lk_X12_145 dX12_readsAsked_82 sc_m_0 rfl rfl rfl ?_
      refine r_iconst (v := 1) (q := 86) dX12_readsAsked_85 (by decide) rfl ?_
      refine r_iadd (q := 87) dX12_readsAsked_86 rfl ?_
      refine r_puti (q := 90) lk_X12_145 ft_9_9 dX12_readsAsked_87 sc_m_0 rfl rfl ?_
      refine r_aload_n (q := 91) dX12_readsAsked_90 rfl rfl ?_
      obtain ⟨y13, e12, h⟩ := Option.bind_eq_some_iff.mp h
      refine r_callV_v (av := []) (st := []) (q := 94) (d1 := 1) kc_X12_287 sc_m_0 dX12_readsAsked_91 rfl rfl (Nat.le_of_ble_eq_true rfl) (Nat.le_of_ble_eq_true rfl) (by omega) rfl rfl (t_X12_readsTimes (d := 1) (by omega) (mm_U (mm_U (mm_U (mm_U (mm_U s 24 (Int32.toNatClampNeg (s 0 42)) (s 0 43)) 25 (Int32.toNatClampNeg (s 0 42)) (s 0 41)) 26 (Int32.toNatClampNeg (s 0 42)) (s 0 44)) 0 42 ((s 0 42) + 1)) 0 9 ((s 0 9) + 1)) _ e12) ?_
      refine r_goto 4 dX12_readsAsked_94 (by decide) ?_
      cases h
      have hk := kb _ rfl
      exact hk
    · rw [if_pos c6] at h
      refine r_aload_n (q := 22) dX12_readsAsked_21 rfl rfl ?_
      refine r_iconst (v := 5) (q := 23) dX12_readsAsked_22 (by decide) rfl ?_
      refine r_aload_n (q := 24) dX12_readsAsked_23 rfl rfl ?_
      refine r_geti (v := (s 0 9)) (q := 27) lk_X12_145 dX12_readsAsked_24 sc_m_0 rfl rfl rfl ?_
      obtain ⟨y8, e7, h⟩ := mm_let_elim h
      refine r_callV_i (av := [(.inl 5), (.inl (s 0 9))]) (st := []) (q := 30) (d1 := 0) kc_X12_158 sc_m_0 dX12_readsAsked_27 rfl rfl (Nat.le_of_ble_eq_true rfl) (Nat.le_of_ble_eq_true rfl) (by omega) rfl rfl (t_X12_wrongAt (d := 0) (by omega) 5 (s 0 9) s _ e7) ?_
      cases h
      have hk := ke _ rfl
      exact r_retb dX12_readsAsked_30 rfl (mm_b01 _) hk
noncomputable def X12_readsAsked_l196 (s : mm_M) : Option (mm_M ⊕ (Bool × mm_M)) := (X12_here s).bind fun y27 => if y27 = 41 then if (s 0 42) ≤ 0 then some (.inr (true, s)) else if mm_in ((s 0 42) - 1) 2 = true then if mm_in ((s 0 42) - 1) 2 = true then if mm_in ((s 0 42) - 1) 2 = true then (X12_repeats (s 25 (Int32.toNatClampNeg ((s 0 42) - 1))) (s 26 (Int32.toNatClampNeg ((s 0 42) - 1))) (s 24 (Int32.toNatClampNeg ((s 0 42) - 1))) (mm_U (mm_U s 0 9 ((s 0 9) + 1)) 0 42 ((s 0 42) - 1))).bind fun y34 => if y34.1 = true then some (.inl y34.2) else some (.inr (false, y34.2)) else none else none else none else some (.inr (true, s))
set_option maxRecDepth 100000 in
set_option maxHeartbeats 400000 in
theorem t_X12_readsAsked_l196 {D : mm_D} {d : Nat} (hd : 2 ≤ d) {Z : Option Int32 → List mm_C → mm_M → Prop} (n : Nat) (s : mm_M) (r : (Bool × mm_M)) (h : mm_loop (X12_readsAsked_l196) n s = some r) (hx : Z (some (mm_b r.1)) S_m r.2) : mm_Go jX12_readsAsked D d 0 0 196 [some (.inr 0), none, none] [] S_m s Z := by
  refine mm_loop_go (step := X12_readsAsked_l196) (Hd := fun (s : mm_M) => mm_Go jX12_readsAsked D d 0 0 196 [some (.inr 0), none, none] [] S_m s Z) (Ex := fun (r : (Bool × mm_M)) => Z (some (mm_b r.1)) S_m r.2) ?_ n s r h hx
  intro s o h kb ke
  show mm_Go jX12_readsAsked D d 0 0 196 [some (.inr 0), none, none] [] S_m s Z
  unfold X12_readsAsked_l196 at h
  refine r_aload_n (q := 197) dX12_readsAsked_196 rfl rfl ?_
  obtain ⟨y27, e26, h⟩ := Option.bind_eq_some_iff.mp h
  refine r_callV_i (av := []) (st := []) (q := 200) (d1 := 0) kc_X12_151 sc_m_0 dX12_readsAsked_197 rfl rfl (Nat.le_of_ble_eq_true rfl) (Nat.le_of_ble_eq_true rfl) (by omega) rfl rfl (t_X12_here (d := 0) (by omega) s _ e26) ?_
  refine r_bipush (v := 41) (q := 202) dX12_readsAsked_200 (by decide) rfl ?_
  refine r_icmp_ne 268 (q := 205) dX12_readsAsked_202 (by decide) rfl (fun c28 => ?_) (fun c28 => ?_)
  · rw [if_neg c28] at h
    refine r_iconst (v := 1) (q := 269) dX12_readsAsked_268 (by decide) rfl ?_
    cases h
    have hk := ke _ rfl
    exact r_retb dX12_readsAsked_269 rfl (Or.inr rfl) hk
  · rw [if_pos c28] at h
    refine r_aload_n (q := 206) dX12_readsAsked_205 rfl rfl ?_
    refine r_geti (v := (s 0 42)) (q := 209) lk_X12_290 dX12_readsAsked_206 sc_m_0 rfl rfl rfl ?_
    refine r_if_le 268 (q := 212) dX12_readsAsked_209 (by decide) rfl (fun c29 => ?_) (fun c29 => ?_)
    · rw [if_pos c29] at h
      refine r_iconst (v := 1) (q := 269) dX12_readsAsked_268 (by decide) rfl ?_
      cases h
      have hk := ke _ rfl
      exact r_retb dX12_readsAsked_269 rfl (Or.inr rfl) hk
    · rw [if_neg c29] at h
      refine r_aload_n (q := 213) dX12_readsAsked_212 rfl rfl ?_
      refine r_aload_n (q := 214) dX12_readsAsked_213 rfl rfl ?_
      refine r_geti (v := (s 0 9)) (q := 217) lk_X12_145 dX12_readsAsked_214 sc_m_0 rfl rfl rfl ?_
      refine r_iconst (v := 1) (q := 218) dX12_readsAsked_217 (by decide) rfl ?_
      refine r_iadd (q := 219) dX12_readsAsked_218 rfl ?_
      refine r_puti (q := 222) lk_X12_145 ft_9_9 dX12_readsAsked_219 sc_m_0 rfl rfl ?_
      refine r_aload_n (q := 223) dX12_readsAsked_222 rfl rfl ?_
      refine r_aload_n (q := 224) dX12_readsAsked_223 rfl rfl ?_
      refine r_geti (v := (s 0 42)) (q := 227) lk_X12_290 dX12_readsAsked_224 sc_m_0 rfl rfl rfl ?_
      refine r_iconst (v := 1) (q := 228) dX12_readsAsked_227 (by decide) rfl ?_
      refine r_isub (q := 229) dX12_readsAsked_228 rfl ?_
      refine r_puti (q := 232) lk_X12_290 ft_9_42 dX12_readsAsked_229 sc_m_0 rfl rfl ?_
      refine r_aload_n (q := 233) dX12_readsAsked_232 rfl rfl ?_
      refine r_aload_n (q := 234) dX12_readsAsked_233 rfl rfl ?_
      refine r_getr (b := 25) (q := 237) lk_X12_83 dX12_readsAsked_234 sc_m_0 rfl rfl ?_
      refine r_aload_n (q := 238) dX12_readsAsked_237 rfl rfl ?_
      refine r_geti (v := ((s 0 42) - 1)) (q := 241) lk_X12_290 dX12_readsAsked_238 sc_m_0 rfl rfl rfl ?_
      obtain ⟨g30, h⟩ := mm_guard h
      refine r_iald (v := (s 25 (Int32.toNatClampNeg ((s 0 42) - 1)))) (q := 242) dX12_readsAsked_241 sc_m_25 (mm_vp g30) rfl rfl ?_
      refine r_aload_n (q := 243) dX12_readsAsked_242 rfl rfl ?_
      refine r_getr (b := 26) (q := 246) lk_X12_86 dX12_readsAsked_243 sc_m_0 rfl rfl ?_
      refine r_aload_n (q := 247) dX12_readsAsked_246 rfl rfl ?_
      refine r_geti (v := ((s 0 42) - 1)) (q := 250) lk_X12_290 dX12_readsAsked_247 sc_m_0 rfl rfl rfl ?_
      obtain ⟨g31, h⟩ := mm_guard h
      refine r_iald (v := (s 26 (Int32.toNatClampNeg ((s 0 42) - 1)))) (q := 251) dX12_readsAsked_250 sc_m_26 (mm_vp g31) rfl rfl ?_
      refine r_aload_n (q := 252) dX12_readsAsked_251 rfl rfl ?_
      refine r_getr (b := 24) (q := 255) lk_X12_80 dX12_readsAsked_252 sc_m_0 rfl rfl ?_
      refine r_aload_n (q := 256) dX12_readsAsked_255 rfl rfl ?_
      refine r_geti (v := ((s 0 42) - 1)) (q := 259) lk_X12_290 dX12_readsAsked_256 sc_m_0 rfl rfl rfl ?_
      obtain ⟨g32, h⟩ := mm_guard h
      refine r_iald (v := (s 24 (Int32.toNatClampNeg ((s 0 42) - 1)))) (q := 260) dX12_readsAsked_259 sc_m_24 (mm_vp g32) rfl rfl ?_
      obtain ⟨y34, e33, h⟩ := Option.bind_eq_some_iff.mp h
      refine r_callV_i (av := [(.inl (s 25 (Int32.toNatClampNeg ((s 0 42) - 1)))), (.inl (s 26 (Int32.toNatClampNeg ((s 0 42) - 1)))), (.inl (s 24 (Int32.toNatClampNeg ((s 0 42) - 1))))]) (st := []) (q := 263) (d1 := 1) kc_X12_293 sc_m_0 dX12_readsAsked_260 rfl rfl (Nat.le_of_ble_eq_true rfl) (Nat.le_of_ble_eq_true rfl) (by omega) rfl rfl (t_X12_repeats (d := 1) (by omega) (s 25 (Int32.toNatClampNeg ((s 0 42) - 1))) (s 26 (Int32.toNatClampNeg ((s 0 42) - 1))) (s 24 (Int32.toNatClampNeg ((s 0 42) - 1))) (mm_U (mm_U s 0 9 ((s 0 9) + 1)) 0 42 ((s 0 42) - 1)) _ e33) ?_
      refine r_if_ne 196 (q := 266) dX12_readsAsked_263 (by decide) rfl (fun c35 => ?_) (fun c35 => ?_)
      · rw [if_pos (mm_b1 c35)] at h
        cases h
        have hk := kb _ rfl
        exact hk
      · rw [if_neg (mm_b0 c35)] at h
        refine r_iconst (v := 0) (q := 267) dX12_readsAsked_266 (by decide) rfl ?_
        cases h
        have hk := ke _ rfl
        exact r_retb dX12_readsAsked_267 rfl (Or.inl rfl) hk
noncomputable def X12_readsAsked (M : mm_M) : Option (Bool × mm_M) := (X12_readsTimes M).bind fun y2 => (mm_loop (X12_readsAsked_l4) mm_fuel y2).bind fun y14 => (match y14 with | .inl y14r => some y14r | .inr y14s => (X12_isLetter y14s).bind fun y17 => if y17 = true then if ((y14s 0 41) + (y14s 0 44)) ≤ 40 then (X12_here y14s).bind fun y21 => if mm_in (y14s 0 41) 40 = true then (X12_repeats (((y14s 0 41) + 1) - 1) (y14s 0 44) (y14s 0 43) (mm_U (mm_U (mm_U y14s 23 (Int32.toNatClampNeg (y14s 0 41)) (y21 - 97)) 0 9 ((y14s 0 9) + 1)) 0 41 ((y14s 0 41) + 1))).bind fun y24 => if y24.1 = true then (mm_loop (X12_readsAsked_l196) mm_fuel y24.2) else some (false, y24.2) else none else mm_let (X12_wrongAt 6 (y14s 0 43) y14s) fun y39 => some (y39.1, y39.2) else mm_let (X12_wrongAt 1 (y14s 0 9) y14s) fun y41 => some (y41.1, y41.2))
set_option maxRecDepth 100000 in
set_option maxHeartbeats 400000 in
theorem t_X12_readsAsked {d : Nat} (hd : 2 ≤ d) (M : mm_M) (res : (Bool × mm_M)) (h : X12_readsAsked M = some res) : mm_Meth jX12_readsAsked d 0 0 [(.inr 0)] S_m M (mm_Zi (mm_b res.1) S_m res.2) := by
  refine r_meth (L := [some (.inr 0), none, none]) rfl (fun D => ?_)
  unfold X12_readsAsked at h
  refine r_aload_n (q := 1) dX12_readsAsked_0 rfl rfl ?_
  obtain ⟨y2, e1, h⟩ := Option.bind_eq_some_iff.mp h
  refine r_callV_v (av := []) (st := []) (q := 4) (d1 := 1) kc_X12_287 sc_m_0 dX12_readsAsked_1 rfl rfl (Nat.le_of_ble_eq_true rfl) (Nat.le_of_ble_eq_true rfl) (by omega) rfl rfl (t_X12_readsTimes (d := 1) (by omega) M _ e1) ?_
  obtain ⟨y14, e15, h⟩ := Option.bind_eq_some_iff.mp h
  refine t_X12_readsAsked_l4 hd mm_fuel y2 _ e15 ?_
  rcases y14 with y14r | y14s
  · dsimp only at h
    cases h
    exact mm_Zi_rfl
  · dsimp only at h
    show mm_Go jX12_readsAsked _ _ _ _ 97 [some (.inr 0), none, none] [] S_m y14s _
    refine r_aload_n (q := 98) dX12_readsAsked_97 rfl rfl ?_
    refine r_geti (v := (y14s 0 43)) (q := 101) lk_X12_278 dX12_readsAsked_98 sc_m_0 rfl rfl rfl ?_
    refine r_istore_n (q := 102) (L' := [some (.inr 0), some (.inl (y14s 0 43)), none]) dX12_readsAsked_101 (by decide) rfl rfl ?_
    refine r_aload_n (q := 103) dX12_readsAsked_102 rfl rfl ?_
    refine r_geti (v := (y14s 0 44)) (q := 106) lk_X12_281 dX12_readsAsked_103 sc_m_0 rfl rfl rfl ?_
    refine r_istore_n (q := 107) (L' := [some (.inr 0), some (.inl (y14s 0 43)), some (.inl (y14s 0 44))]) dX12_readsAsked_106 (by decide) rfl rfl ?_
    refine r_aload_n (q := 108) dX12_readsAsked_107 rfl rfl ?_
    obtain ⟨y17, e16, h⟩ := Option.bind_eq_some_iff.mp h
    refine r_callV_i (av := []) (st := []) (q := 111) (d1 := 1) kc_X12_263 sc_m_0 dX12_readsAsked_108 rfl rfl (Nat.le_of_ble_eq_true rfl) (Nat.le_of_ble_eq_true rfl) (by omega) rfl rfl (t_X12_isLetter (d := 1) (by omega) y14s _ e16) ?_
    refine r_if_ne 124 (q := 114) dX12_readsAsked_111 (by decide) rfl (fun c18 => ?_) (fun c18 => ?_)
    · rw [if_pos (mm_b1 c18)] at h
      refine r_aload_n (q := 125) dX12_readsAsked_124 rfl rfl ?_
      refine r_geti (v := (y14s 0 41)) (q := 128) lk_X12_284 dX12_readsAsked_125 sc_m_0 rfl rfl rfl ?_
      refine r_iload_n (q := 129) dX12_readsAsked_128 rfl rfl ?_
      refine r_iadd (q := 130) dX12_readsAsked_129 rfl ?_
      refine r_bipush (v := 40) (q := 132) dX12_readsAsked_130 (by decide) rfl ?_
      refine r_icmp_le 143 (q := 135) dX12_readsAsked_132 (by decide) rfl (fun c19 => ?_) (fun c19 => ?_)
      · rw [if_pos c19] at h
        refine r_aload_n (q := 144) dX12_readsAsked_143 rfl rfl ?_
        refine r_getr (b := 23) (q := 147) lk_X12_77 dX12_readsAsked_144 sc_m_0 rfl rfl ?_
        refine r_aload_n (q := 148) dX12_readsAsked_147 rfl rfl ?_
        refine r_geti (v := (y14s 0 41)) (q := 151) lk_X12_284 dX12_readsAsked_148 sc_m_0 rfl rfl rfl ?_
        refine r_aload_n (q := 152) dX12_readsAsked_151 rfl rfl ?_
        obtain ⟨y21, e20, h⟩ := Option.bind_eq_some_iff.mp h
        refine r_callV_i (av := []) (st := [(.inl (y14s 0 41)), (.inr 23)]) (q := 155) (d1 := 0) kc_X12_151 sc_m_0 dX12_readsAsked_152 rfl rfl (Nat.le_of_ble_eq_true rfl) (Nat.le_of_ble_eq_true rfl) (by omega) rfl rfl (t_X12_here (d := 0) (by omega) y14s _ e20) ?_
        refine r_bipush (v := 97) (q := 157) dX12_readsAsked_155 (by decide) rfl ?_
        refine r_isub (q := 158) dX12_readsAsked_157 rfl ?_
        obtain ⟨g22, h⟩ := mm_guard h
        refine r_iast (j := (Int32.toNatClampNeg (y14s 0 41))) (q := 159) dX12_readsAsked_158 sc_m_23 (mm_vp g22) rfl rfl ?_
        refine r_aload_n (q := 160) dX12_readsAsked_159 rfl rfl ?_
        refine r_aload_n (q := 161) dX12_readsAsked_160 rfl rfl ?_
        refine r_geti (v := (y14s 0 9)) (q := 164) lk_X12_145 dX12_readsAsked_161 sc_m_0 rfl rfl rfl ?_
        refine r_iconst (v := 1) (q := 165) dX12_readsAsked_164 (by decide) rfl ?_
        refine r_iadd (q := 166) dX12_readsAsked_165 rfl ?_
        refine r_puti (q := 169) lk_X12_145 ft_9_9 dX12_readsAsked_166 sc_m_0 rfl rfl ?_
        refine r_aload_n (q := 170) dX12_readsAsked_169 rfl rfl ?_
        refine r_aload_n (q := 171) dX12_readsAsked_170 rfl rfl ?_
        refine r_geti (v := (y14s 0 41)) (q := 174) lk_X12_284 dX12_readsAsked_171 sc_m_0 rfl rfl rfl ?_
        refine r_iconst (v := 1) (q := 175) dX12_readsAsked_174 (by decide) rfl ?_
        refine r_iadd (q := 176) dX12_readsAsked_175 rfl ?_
        refine r_puti (q := 179) lk_X12_284 ft_9_41 dX12_readsAsked_176 sc_m_0 rfl rfl ?_
        refine r_aload_n (q := 180) dX12_readsAsked_179 rfl rfl ?_
        refine r_aload_n (q := 181) dX12_readsAsked_180 rfl rfl ?_
        refine r_geti (v := ((y14s 0 41) + 1)) (q := 184) lk_X12_284 dX12_readsAsked_181 sc_m_0 rfl rfl rfl ?_
        refine r_iconst (v := 1) (q := 185) dX12_readsAsked_184 (by decide) rfl ?_
        refine r_isub (q := 186) dX12_readsAsked_185 rfl ?_
        refine r_iload_n (q := 187) dX12_readsAsked_186 rfl rfl ?_
        refine r_iload_n (q := 188) dX12_readsAsked_187 rfl rfl ?_
        obtain ⟨y24, e23, h⟩ := Option.bind_eq_some_iff.mp h
        refine r_callV_i (av := [(.inl (((y14s 0 41) + 1) - 1)), (.inl (y14s 0 44)), (.inl (y14s 0 43))]) (st := []) (q := 191) (d1 := 1) kc_X12_293 sc_m_0 dX12_readsAsked_188 rfl rfl (Nat.le_of_ble_eq_true rfl) (Nat.le_of_ble_eq_true rfl) (by omega) rfl rfl (t_X12_repeats (d := 1) (by omega) (((y14s 0 41) + 1) - 1) (y14s 0 44) (y14s 0 43) (mm_U (mm_U (mm_U y14s 23 (Int32.toNatClampNeg (y14s 0 41)) (y21 - 97)) 0 9 ((y14s 0 9) + 1)) 0 41 ((y14s 0 41) + 1)) _ e23) ?_
        refine r_if_ne 196 (q := 194) dX12_readsAsked_191 (by decide) rfl (fun c25 => ?_) (fun c25 => ?_)
        · rw [if_pos (mm_b1 c25)] at h
          refine r_forget (L' := [some (.inr 0), none, none]) [true, false, false] rfl ?_
          exact t_X12_readsAsked_l196 hd mm_fuel y24.2 _ h mm_Zi_rfl
        · rw [if_neg (mm_b0 c25)] at h
          refine r_iconst (v := 0) (q := 195) dX12_readsAsked_194 (by decide) rfl ?_
          cases h
          exact r_retb dX12_readsAsked_195 rfl (Or.inl rfl) mm_Zi_rfl
      · rw [if_neg c19] at h
        refine r_aload_n (q := 136) dX12_readsAsked_135 rfl rfl ?_
        refine r_bipush (v := 6) (q := 138) dX12_readsAsked_136 (by decide) rfl ?_
        refine r_iload_n (q := 139) dX12_readsAsked_138 rfl rfl ?_
        obtain ⟨y39, e38, h⟩ := mm_let_elim h
        refine r_callV_i (av := [(.inl 6), (.inl (y14s 0 43))]) (st := []) (q := 142) (d1 := 0) kc_X12_158 sc_m_0 dX12_readsAsked_139 rfl rfl (Nat.le_of_ble_eq_true rfl) (Nat.le_of_ble_eq_true rfl) (by omega) rfl rfl (t_X12_wrongAt (d := 0) (by omega) 6 (y14s 0 43) y14s _ e38) ?_
        cases h
        exact r_retb dX12_readsAsked_142 rfl (mm_b01 _) mm_Zi_rfl
    · rw [if_neg (mm_b0 c18)] at h
      refine r_aload_n (q := 115) dX12_readsAsked_114 rfl rfl ?_
      refine r_iconst (v := 1) (q := 116) dX12_readsAsked_115 (by decide) rfl ?_
      refine r_aload_n (q := 117) dX12_readsAsked_116 rfl rfl ?_
      refine r_geti (v := (y14s 0 9)) (q := 120) lk_X12_145 dX12_readsAsked_117 sc_m_0 rfl rfl rfl ?_
      obtain ⟨y41, e40, h⟩ := mm_let_elim h
      refine r_callV_i (av := [(.inl 1), (.inl (y14s 0 9))]) (st := []) (q := 123) (d1 := 0) kc_X12_158 sc_m_0 dX12_readsAsked_120 rfl rfl (Nat.le_of_ble_eq_true rfl) (Nat.le_of_ble_eq_true rfl) (by omega) rfl rfl (t_X12_wrongAt (d := 0) (by omega) 1 (y14s 0 9) y14s _ e40) ?_
      cases h
      exact r_retb dX12_readsAsked_123 rfl (mm_b01 _) mm_Zi_rfl
noncomputable def X12_readsCensus_l20 (s : (Bool × mm_M)) : Option ((Bool × mm_M) ⊕ (Bool × mm_M)) := if s.1 = true then if (s.2 0 9) < (s.2 0 10) then (X12_readsAsked s.2).bind fun y8 => some (.inl (y8.1, y8.2)) else if (s.2 0 42) ≤ 0 then some (.inr (s.1, (mm_U s.2 0 8 0))) else (X12_readsAsked s.2).bind fun y11 => some (.inl (y11.1, y11.2)) else some (.inr (s.1, (mm_U s.2 0 8 0)))
set_option maxRecDepth 100000 in
set_option maxHeartbeats 400000 in
theorem t_X12_readsCensus_l20 {D : mm_D} {d : Nat} (hd : 3 ≤ d) {Z : Option Int32 → List mm_C → mm_M → Prop} (n : Nat) (s : (Bool × mm_M)) (r : (Bool × mm_M)) (h : mm_loop (X12_readsCensus_l20) n s = some r) (hx : Z (some (mm_b r.1)) S_m r.2) : mm_Go jX12_readsCensus D d 0 0 20 [some (.inr 0), none, some (.inl (mm_b s.1))] [] S_m s.2 Z := by
  refine mm_loop_go (step := X12_readsCensus_l20) (Hd := fun (s : (Bool × mm_M)) => mm_Go jX12_readsCensus D d 0 0 20 [some (.inr 0), none, some (.inl (mm_b s.1))] [] S_m s.2 Z) (Ex := fun (r : (Bool × mm_M)) => Z (some (mm_b r.1)) S_m r.2) ?_ n s r h hx
  intro s o h kb ke
  show mm_Go jX12_readsCensus D d 0 0 20 [some (.inr 0), none, some (.inl (mm_b s.1))] [] S_m s.2 Z
  unfold X12_readsCensus_l20 at h
  refine r_iload_n (q := 21) dX12_readsCensus_20 rfl rfl ?_
  refine r_if_eq 50 (q := 24) dX12_readsCensus_21 (by decide) rfl (fun c5 => ?_) (fun c5 => ?_)
  · rw [if_neg (mm_b0 c5)] at h
    refine r_aload_n (q := 51) dX12_readsCensus_50 rfl rfl ?_
    refine r_iconst (v := 0) (q := 52) dX12_readsCensus_51 (by decide) rfl ?_
    refine r_puti (q := 55) lk_X12_138 ft_9_8 dX12_readsCensus_52 sc_m_0 rfl rfl ?_
    refine r_iload_n (q := 56) dX12_readsCensus_55 rfl rfl ?_
    cases h
    have hk := ke _ rfl
    exact r_retb dX12_readsCensus_56 rfl (mm_b01 _) hk
  · rw [if_pos (mm_b1 c5)] at h
    refine r_aload_n (q := 25) dX12_readsCensus_24 rfl rfl ?_
    refine r_geti (v := (s.2 0 9)) (q := 28) lk_X12_145 dX12_readsCensus_25 sc_m_0 rfl rfl rfl ?_
    refine r_aload_n (q := 29) dX12_readsCensus_28 rfl rfl ?_
    refine r_geti (v := (s.2 0 10)) (q := 32) lk_X12_148 dX12_readsCensus_29 sc_m_0 rfl rfl rfl ?_
    refine r_icmp_lt 42 (q := 35) dX12_readsCensus_32 (by decide) rfl (fun c6 => ?_) (fun c6 => ?_)
    · rw [if_pos c6] at h
      refine r_aload_n (q := 43) dX12_readsCensus_42 rfl rfl ?_
      obtain ⟨y8, e7, h⟩ := Option.bind_eq_some_iff.mp h
      refine r_callV_i (av := []) (st := []) (q := 46) (d1 := 2) kc_X12_296 sc_m_0 dX12_readsCensus_43 rfl rfl (Nat.le_of_ble_eq_true rfl) (Nat.le_of_ble_eq_true rfl) (by omega) rfl rfl (t_X12_readsAsked (d := 2) (by omega) s.2 _ e7) ?_
      refine r_istore_n (q := 47) (L' := [some (.inr 0), none, some (.inl (mm_b y8.1))]) dX12_readsCensus_46 (by decide) rfl rfl ?_
      refine r_goto 20 dX12_readsCensus_47 (by decide) ?_
      cases h
      have hk := kb _ rfl
      exact hk
    · rw [if_neg c6] at h
      refine r_aload_n (q := 36) dX12_readsCensus_35 rfl rfl ?_
      refine r_geti (v := (s.2 0 42)) (q := 39) lk_X12_290 dX12_readsCensus_36 sc_m_0 rfl rfl rfl ?_
      refine r_if_le 50 (q := 42) dX12_readsCensus_39 (by decide) rfl (fun c9 => ?_) (fun c9 => ?_)
      · rw [if_pos c9] at h
        refine r_aload_n (q := 51) dX12_readsCensus_50 rfl rfl ?_
        refine r_iconst (v := 0) (q := 52) dX12_readsCensus_51 (by decide) rfl ?_
        refine r_puti (q := 55) lk_X12_138 ft_9_8 dX12_readsCensus_52 sc_m_0 rfl rfl ?_
        refine r_iload_n (q := 56) dX12_readsCensus_55 rfl rfl ?_
        cases h
        have hk := ke _ rfl
        exact r_retb dX12_readsCensus_56 rfl (mm_b01 _) hk
      · rw [if_neg c9] at h
        refine r_aload_n (q := 43) dX12_readsCensus_42 rfl rfl ?_
        obtain ⟨y11, e10, h⟩ := Option.bind_eq_some_iff.mp h
        refine r_callV_i (av := []) (st := []) (q := 46) (d1 := 2) kc_X12_296 sc_m_0 dX12_readsCensus_43 rfl rfl (Nat.le_of_ble_eq_true rfl) (Nat.le_of_ble_eq_true rfl) (by omega) rfl rfl (t_X12_readsAsked (d := 2) (by omega) s.2 _ e10) ?_
        refine r_istore_n (q := 47) (L' := [some (.inr 0), none, some (.inl (mm_b y11.1))]) dX12_readsCensus_46 (by decide) rfl rfl ?_
        refine r_goto 20 dX12_readsCensus_47 (by decide) ?_
        cases h
        have hk := kb _ rfl
        exact hk
noncomputable def X12_readsCensus (x1 : Int32) (M : mm_M) : Option (Bool × mm_M) := mm_let (X12_beginsText x1 M) fun y2 => (X12_readsAsked (mm_U (mm_U y2 0 41 0) 0 42 0)).bind fun y4 => (mm_loop (X12_readsCensus_l20) mm_fuel (y4.1, y4.2))
set_option maxRecDepth 100000 in
set_option maxHeartbeats 400000 in
theorem t_X12_readsCensus {d : Nat} (hd : 3 ≤ d) (x1 : Int32) (M : mm_M) (res : (Bool × mm_M)) (h : X12_readsCensus x1 M = some res) : mm_Meth jX12_readsCensus d 0 0 [(.inr 0), (.inl x1)] S_m M (mm_Zi (mm_b res.1) S_m res.2) := by
  refine r_meth (L := [some (.inr 0), some (.inl x1), none]) rfl (fun D => ?_)
  unfold X12_readsCensus at h
  refine r_aload_n (q := 1) dX12_readsCensus_0 rfl rfl ?_
  refine r_iload_n (q := 2) dX12_readsCensus_1 rfl rfl ?_
  obtain ⟨y2, e1, h⟩ := mm_let_elim h
  refine r_callV_v (av := [(.inl x1)]) (st := []) (q := 5) (d1 := 0) kc_X12_229 sc_m_0 dX12_readsCensus_2 rfl rfl (Nat.le_of_ble_eq_true rfl) (Nat.le_of_ble_eq_true rfl) (by omega) rfl rfl (t_X12_beginsText (d := 0) (by omega) x1 M _ e1) ?_
  refine r_aload_n (q := 6) dX12_readsCensus_5 rfl rfl ?_
  refine r_iconst (v := 0) (q := 7) dX12_readsCensus_6 (by decide) rfl ?_
  refine r_puti (q := 10) lk_X12_284 ft_9_41 dX12_readsCensus_7 sc_m_0 rfl rfl ?_
  refine r_aload_n (q := 11) dX12_readsCensus_10 rfl rfl ?_
  refine r_iconst (v := 0) (q := 12) dX12_readsCensus_11 (by decide) rfl ?_
  refine r_puti (q := 15) lk_X12_290 ft_9_42 dX12_readsCensus_12 sc_m_0 rfl rfl ?_
  refine r_aload_n (q := 16) dX12_readsCensus_15 rfl rfl ?_
  obtain ⟨y4, e3, h⟩ := Option.bind_eq_some_iff.mp h
  refine r_callV_i (av := []) (st := []) (q := 19) (d1 := 2) kc_X12_296 sc_m_0 dX12_readsCensus_16 rfl rfl (Nat.le_of_ble_eq_true rfl) (Nat.le_of_ble_eq_true rfl) (by omega) rfl rfl (t_X12_readsAsked (d := 2) (by omega) (mm_U (mm_U y2 0 41 0) 0 42 0) _ e3) ?_
  refine r_istore_n (q := 20) (L' := [some (.inr 0), some (.inl x1), some (.inl (mm_b y4.1))]) dX12_readsCensus_19 (by decide) rfl rfl ?_
  refine r_forget (L' := [some (.inr 0), none, some (.inl (mm_b y4.1))]) [true, false, true] rfl ?_
  exact t_X12_readsCensus_l20 hd mm_fuel (y4.1, y4.2) _ h mm_Zi_rfl
noncomputable def X12_answer (x1 : Int32) (x2 : Int32) (M : mm_M) : Option Int32 := if mm_in (((10 : Int32) * x1) + x2) 80 = true then some (M 5 (Int32.toNatClampNeg (((10 : Int32) * x1) + x2))) else none
set_option maxRecDepth 100000 in
set_option maxHeartbeats 400000 in
theorem t_X12_answer {d : Nat} (hd : 0 ≤ d) (x1 : Int32) (x2 : Int32) (M : mm_M) (res : Int32) (h : X12_answer x1 x2 M = some res) : mm_Meth jX12_answer d 0 0 [(.inr 0), (.inl x1), (.inl x2)] S_m M (mm_Zi res S_m M) := by
  refine r_meth (L := [some (.inr 0), some (.inl x1), some (.inl x2)]) rfl (fun D => ?_)
  unfold X12_answer at h
  refine r_aload_n (q := 1) dX12_answer_0 rfl rfl ?_
  refine r_getr (b := 5) (q := 4) lk_X12_22 dX12_answer_1 sc_m_0 rfl rfl ?_
  refine r_bipush (v := 10) (q := 6) dX12_answer_4 (by decide) rfl ?_
  refine r_iload_n (q := 7) dX12_answer_6 rfl rfl ?_
  refine r_imul (q := 8) dX12_answer_7 rfl ?_
  refine r_iload_n (q := 9) dX12_answer_8 rfl rfl ?_
  refine r_iadd (q := 10) dX12_answer_9 rfl ?_
  obtain ⟨g1, h⟩ := mm_guard h
  refine r_iald (v := (M 5 (Int32.toNatClampNeg (((10 : Int32) * x1) + x2)))) (q := 11) dX12_answer_10 sc_m_5 (mm_vp g1) rfl rfl ?_
  cases h
  exact r_ret dX12_answer_11 rfl mm_Zi_rfl
