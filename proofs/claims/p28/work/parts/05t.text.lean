/-! THE TEXT OF THE LETTERS: a constant of the class that its law reader asks; its cells are there from the start and nobody writes them -/
def jx_B : List Int32 := [113, 97, 108, 112, 98, 110, 115, 116, 119]
/-- the string at K, its bytes at V, and that strings are compact -/
def jx_F (K V : Nat) (A : Nat → Prop) (U : State) (H : Heap) : Prop :=
  va_O "java/lang/String" K A U H ∧ va_OF "java/lang/String" "coder" "B" (.int 0) K A U H ∧ va_OF "java/lang/String" "value" "[B" (.ref V) K A U H ∧ va_T .byte V 9 (fun j => .int (jx_B.getD j 0)) A U H ∧ va_Z "java/lang/String" "COMPACT_STRINGS" "Z" (.int 1) A U H
theorem jx_F.kept {K V : Nat} {A : Nat → Prop} {U : State} {H H1 : Heap} (h : jx_F K V A U H) (hq : ∀ a : Nat, a < H.size → ¬ A a → H1[a]? = H[a]?) : jx_F K V A U H1 := ⟨h.1.kept hq, h.2.1.kept hq, h.2.2.1.kept hq, h.2.2.2.1.kept hq, h.2.2.2.2.kept hq⟩
theorem jx_F.narrow {K V : Nat} {A B : Nat → Prop} {U : State} {H : Heap} (h : jx_F K V A U H) (hAB : ∀ q, B q → A q) : jx_F K V B U H := ⟨h.1.narrow hAB, h.2.1.narrow hAB, h.2.2.1.narrow hAB, h.2.2.2.1.narrow hAB, h.2.2.2.2.narrow hAB⟩
theorem jx_F.moved {K V : Nat} {A : Nat → Prop} {u U : State} {H : Heap} (hvm : u.vm.Alike U.vm) (h : jx_F K V A u H) : jx_F K V A U H := ⟨va_O.moved hvm h.1, va_OF.moved hvm h.2.1, va_OF.moved hvm h.2.2.1, va_T.moved hvm h.2.2.2.1, va_Z.moved hvm h.2.2.2.2⟩
def mm_Tx (A : Nat → Prop) (U : State) (H : Heap) : Prop := ∃ K V : Nat, vk_R "AskedValley$LawReader" 75 "qalpbnstw" K U ∧ jx_F K V A U H
theorem mm_Tx.kept {A : Nat → Prop} {U : State} {H H1 : Heap} (h : mm_Tx A U H) (hq : ∀ a : Nat, a < H.size → ¬ A a → H1[a]? = H[a]?) : mm_Tx A U H1 := by
  obtain ⟨K, V, h1, h2⟩ := h
  exact ⟨K, V, h1, h2.kept hq⟩
theorem mm_Tx.narrow {A B : Nat → Prop} {U : State} {H : Heap} (h : mm_Tx A U H) (hAB : ∀ q, B q → A q) : mm_Tx B U H := by
  obtain ⟨K, V, h1, h2⟩ := h
  exact ⟨K, V, h1, h2.narrow hAB⟩
theorem mm_Tx.warm {A : Nat → Prop} {s U : State} {H : Heap} (h : mm_Tx A s H) (hW : s.WarmedH U.vm) : mm_Tx A U H := by
  obtain ⟨K, V, h1, h2⟩ := h
  exact ⟨K, V, h1.warm hW, jx_F.moved hW.alike h2⟩
theorem mm_Tx.calling {A : Nat → Prop} {U : State} {H : Heap} (h : mm_Tx A U H) {g : JFrame} {mk : _} {a : Array Value} : mm_Tx A (U.calling g mk a) H := by
  obtain ⟨K, V, h1, h2⟩ := h
  exact ⟨K, V, vk_R.same (u := U) rfl h1, jx_F.moved (u := U) (Vm.Alike.refl U.vm) h2⟩
