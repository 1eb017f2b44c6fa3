/-! every call ends on both sides and keeps what is kept and the day alike -/
theorem rk_rel : ll_RelP RK := by
  refine ⟨?_, ?_, ?_, ?_, ?_, ?_, ?_, ?_, ?_, ?_, ?_, ?_, ?_, ?_, ?_, ?_, ?_, ?_, ?_, ?_, ?_, ?_, ?_, ?_, ?_, ?_, ?_, ?_, ?_, ?_, ?_⟩
  · exact fun x1 M1 M2 h => rk_ab h (c_of (op_0 x1) h.1) (m_of (op_0 x1) h.2.1)
  · exact fun x1 x2 M1 M2 h => rk_ab h (c_of (op_1 x1 x2) h.1) (m_of (op_1 x1 x2) h.2.1)
  · exact fun x1 M1 M2 h => rk_ab h (c_of (op_2 x1) h.1) (m_of (op_2 x1) h.2.1)
  · exact fun x1 x2 x3 x4 x5 M1 M2 h => rk_ab h (c_of (op_3 x1 x2 x3 x4 x5) h.1) (m_of (op_3 x1 x2 x3 x4 x5) h.2.1)
  · exact fun x1 M1 M2 h => rk_ab h (c_4 x1 h.1) (m_4 x1 h.2.1)
  · exact fun x1 M1 M2 h => rk_ab h (c_5 x1 h.1) (m_5 x1 h.2.1)
  · exact fun x1 M1 M2 h => rk_ab h (c_6 x1 h.1) (m_6 x1 h.2.1)
  · exact fun x1 x2 M1 M2 h => rk_ab h (c_7 x1 x2 h.1) (m_7 x1 x2 h.2.1)
  · exact fun x1 M1 M2 h => rk_8 x1 M1 M2 h
  · exact fun x1 x2 M1 M2 h => rk_ab h (c_9 x1 x2 h.1) (m_9 x1 x2 h.2.1)
  · exact fun x1 x2 x3 M1 M2 h => rk_ab h (c_of (op_10 x1 x2 x3) h.1) (m_of (op_10 x1 x2 x3) h.2.1)
  · exact fun x1 x2 M1 M2 h => rk_ab h (c_of (op_11 x1 x2) h.1) (m_of (op_11 x1 x2) h.2.1)
  · exact fun x1 x2 M1 M2 h => rk_ab h (c_of (op_12 x1 x2) h.1) (m_of (op_12 x1 x2) h.2.1)
  · exact fun x1 x2 x3 M1 M2 h => rk_ab h (c_ofP (op_13 x1 x2 x3) h.1) (m_ofP (op_13 x1 x2 x3) h.2.1)
  · exact fun x1 x2 M1 M2 h => rk_ab h (c_ofP (op_14 x1 x2) h.1) (m_ofP (op_14 x1 x2) h.2.1)
  · exact fun x1 x2 M1 M2 h => rk_ab h (c_of (op_15 x1 x2) h.1) (m_of (op_15 x1 x2) h.2.1)
  · exact fun x1 M1 M2 h => rk_ab h (c_of (op_16 x1) h.1) (m_of (op_16 x1) h.2.1)
  · exact fun x1 x2 x3 M1 M2 h => rk_ab h (c_of (op_17 x1 x2 x3) h.1) (m_of (op_17 x1 x2 x3) h.2.1)
  · exact fun x1 M1 M2 h => rk_ab h (c_of (op_18 x1) h.1) (m_of (op_18 x1) h.2.1)
  · exact fun x1 x2 M1 M2 h => rk_ab h (c_of (op_19 x1 x2) h.1) (m_of (op_19 x1 x2) h.2.1)
  · exact fun x1 x2 M1 M2 h => rk_ab h (c_of (op_20 x1 x2) h.1) (m_of (op_20 x1 x2) h.2.1)
  · exact fun x1 x2 M1 M2 h => rk_ab h (c_of (op_21 x1 x2) h.1) (m_of (op_21 x1 x2) h.2.1)
  · exact fun x1 x2 x3 M1 M2 h => rk_ab h (c_of (op_22 x1 x2 x3) h.1) (m_of (op_22 x1 x2 x3) h.2.1)
  · exact fun x1 x2 x3 M1 M2 h => rk_ab h (c_of (op_23 x1 x2 x3) h.1) (m_of (op_23 x1 x2 x3) h.2.1)
  · exact fun x1 x2 x3 M1 M2 h => rk_ab h (c_of (op_24 x1 x2 x3) h.1) (m_of (op_24 x1 x2 x3) h.2.1)
  · exact fun x1 M1 M2 h => rk_ab h (c_of (op_25 x1) h.1) (m_of (op_25 x1) h.2.1)
  · exact fun x1 M1 M2 h => rk_ab h (c_of (op_26 x1) h.1) (m_of (op_26 x1) h.2.1)
  · exact rk_27
  · exact fun M1 M2 h => by
      obtain ⟨r, N1, N2, a, b, c⟩ := rk_28 M1 M2 h
      exact ⟨r, r, N1, N2, a, b, c⟩
  · exact fun x1 x2 M1 M2 h => rk_ab h (c_of (op_29 x1 x2) h.1) (m_of (op_29 x1 x2) h.2.1)
  · exact fun x1 M1 M2 h => rk_ab h (ok_s ⟨h.1, kp1_rfl⟩) (ok_s ⟨h.2.1, kp2_rfl⟩)
