/-! numbers, stores, bits -/
theorem ly_rd {A : Nat → Int32} {f : Nat → Nat} {n i : Nat} (h : ∀ j, j < n → A j = nI (f j)) (hi : i < n) (hn : n ≤ 24) : A (nI i).toNatClampNeg = nI (f i) := by
  rw [nI_clamp (by omega)]; exact h i hi
theorem ly_in {i : Nat} (h : i < 24) : vp_in (nI i) 24 := vp_in_nI h (by decide)
theorem ly_in16 {i : Nat} (h : i < 16) : vp_in (nI i) 16 := vp_in_nI h (by decide)
theorem ly_cl {i : Nat} (h : i < 2 ^ 31) : (nI i).toNatClampNeg = i := nI_clamp h
theorem ly_us {A : Nat → Int32} {i j : Nat} {x : Int32} (hi : i < 2 ^ 31) (h : j = i) : upd A (nI i).toNatClampNeg x j = x := by
  rw [nI_clamp hi, h]; exact pk_us
theorem ly_un {A : Nat → Int32} {i j : Nat} {x : Int32} (hi : i < 2 ^ 31) (h : j ≠ i) : upd A (nI i).toNatClampNeg x j = A j := by
  rw [nI_clamp hi]; exact pk_un h
theorem ly_eq2 {a b : Nat} (h : a = b) : nI a = nI b := congrArg nI h
theorem ly_p1 {a b : Nat} (h : a + 1 = b) : nI a + 1 = nI b := by rw [nI_1, h]
theorem ly_s1 {a b : Nat} (h : b + 1 = a) : nI a - 1 = nI b := by rw [← h]; exact nI_pred b
theorem ly_d1 {a b : Nat} (h : b + 1 = a) : nI a + (-1) = nI b := by rw [← h]; exact pk_m1 b
theorem ly_sb {a b c : Nat} (h : c + b = a) : nI a - nI b = nI c := by rw [pk_sub (by omega)]; exact ly_eq2 (by omega)
theorem ly_ad {a b c : Nat} (h : a + b = c) : nI a + nI b = nI c := by rw [nI_add, h]
theorem ly_m1lt : (-1 : Int32) < 0 := by decide
noncomputable def ly_bit (P : Prop) : Int32 := @ite Int32 P (Classical.propDecidable P) 1 0
theorem ly_bit_t {P : Prop} (h : P) : ly_bit P = 1 := if_pos h
theorem ly_bit_f {P : Prop} (h : ¬ P) : ly_bit P = 0 := if_neg h
theorem ly_bit_br {P A B : Prop} (f : P → B) (g : ¬ P → A) : (ly_bit P = 0 → A) ∧ (¬ ly_bit P = 0 → B) := by
  by_cases h : P
  · rw [ly_bit_t h]
    exact ⟨fun z => absurd z (by decide), fun _ => f h⟩
  · rw [ly_bit_f h]
    exact ⟨fun _ => g h, fun z => absurd rfl z⟩
theorem ly_nb0 : vp_nar .boolean 0 = 0 := by decide
theorem ly_nb1 : vp_nar .boolean 1 = 1 := by decide
/-- an int argument against a length: below 0, at or above, or within -/
theorem ly_ix3 (x : Int32) {n : Nat} (hn : n < 2 ^ 31) : x < 0 ∨ (¬ x < 0 ∧ ¬ x < nI n) ∨ ∃ j : Nat, j < n ∧ x = nI j := by
  rcases pk_ix x hn with h | h | h
  · exact Or.inl h
  · by_cases c : x < 0
    · exact Or.inl c
    · exact Or.inr (Or.inl ⟨c, Int32.not_lt.mpr h⟩)
  · exact Or.inr (Or.inr h)
