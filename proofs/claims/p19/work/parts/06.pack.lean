/-! numerals, the packed code -/
def ly_dl (z : Nat) : Nat := if z = 0 then 0 else if z < 3 then 1 else if z < 7 then 2 else if z < 15 then 3 else 4
def ly_tok (z d : Nat) : Nat := (z + 1) / 2 ^ d % 2
theorem ly_dl_0 : ly_dl 0 = 0 := rfl
theorem ly_dl_s {z : Nat} (h0 : 0 < z) (h : z ≤ 30) : ly_dl z = ly_dl ((z - 1) / 2) + 1 := by
  unfold ly_dl
  repeat' split
  all_goals omega
theorem ly_dl_le (z : Nat) : ly_dl z ≤ z := by
  unfold ly_dl
  repeat' split
  all_goals omega
theorem ly_dl_4 (z : Nat) : ly_dl z ≤ 4 := by
  unfold ly_dl
  repeat' split
  all_goals omega
theorem ly_dl_p {z : Nat} (h : z ≤ 30) : 2 ^ ly_dl z ≤ z + 1 ∧ z + 1 < 2 ^ (ly_dl z + 1) := by
  unfold ly_dl
  repeat' split
  all_goals omega
theorem ly_tok_0 (z : Nat) : ly_tok z 0 = (z + 1) % 2 := by
  unfold ly_tok
  rw [Nat.pow_zero, Nat.div_one]
theorem ly_tok_s {z : Nat} (h0 : 0 < z) (d : Nat) : ly_tok z (d + 1) = ly_tok ((z - 1) / 2) d := by
  unfold ly_tok
  rw [Nat.pow_succ, Nat.mul_comm, ← Nat.div_div_eq_div_mul]
  have e : (z + 1) / 2 = (z - 1) / 2 + 1 := by omega
  rw [e]
theorem ly_tok_le (z d : Nat) : ly_tok z d ≤ 1 := by
  unfold ly_tok
  omega
theorem ly_pw {k l : Nat} (h : k < l) : 2 ^ l = 2 ^ (k + 1) * 2 ^ (l - k - 1) := by
  rw [← Nat.pow_add]
  exact congrArg (2 ^ ·) (by omega)
theorem ly_tok_bits {z d l bits : Nat} (h : z + 1 = 2 ^ l + bits) (hd : d < l) : ly_tok z d = bits / 2 ^ d % 2 := by
  unfold ly_tok
  rw [h, ly_pw hd, Nat.pow_succ, Nat.mul_assoc, Nat.add_comm, Nat.add_mul_div_left _ _ (Nat.two_pow_pos d)]
  omega
/-- the value of k digits from f on -/
def ly_val (c : Nat → Nat) (f : Nat) : Nat → Nat
  | 0 => 0
  | k + 1 => ly_val c f k + 2 ^ k * (c (f + k) + 1)
theorem ly_val_s (c : Nat → Nat) (f k : Nat) : ly_val c f (k + 1) = ly_val c f k + 2 ^ k * (c (f + k) + 1) := rfl
theorem ly_val_bits (c : Nat → Nat) (f bits : Nat) : ∀ k, (∀ d, d < k → c (f + d) = bits / 2 ^ d % 2) → ly_val c f k + 1 = bits % 2 ^ k + 2 ^ k := by
  intro k
  induction k with
  | zero => intro _; show 0 + 1 = bits % 1 + 1; omega
  | succ k ih =>
    intro h
    have ih := ih (fun d hd => h d (by omega))
    rw [ly_val_s, h k (by omega), Nat.mod_pow_succ, Nat.pow_succ, Nat.mul_add]
    omega
theorem ly_val_le (c : Nat → Nat) (f : Nat) : ∀ k, (∀ d, d < k → c (f + d) ≤ 1) → ly_val c f k + 2 ≤ 2 ^ (k + 1) := by
  intro k
  induction k with
  | zero => intro _; show 0 + 2 ≤ 2; omega
  | succ k ih =>
    intro h
    have ih := ih (fun d hd => h d (by omega))
    have h1 := h k (by omega)
    have h2 : 2 ^ k * (c (f + k) + 1) ≤ 2 ^ k * 2 := Nat.mul_le_mul_left _ (by omega)
    rw [ly_val_s]
    rw [Nat.pow_succ] at ih
    rw [Nat.pow_succ, Nat.pow_succ]
    omega
theorem ly_val_congr {c e : Nat → Nat} {f : Nat} : ∀ k, (∀ d, d < k → c (f + d) = e (f + d)) → ly_val c f k = ly_val e f k := by
  intro k
  induction k with
  | zero => intro _; rfl
  | succ k ih =>
    intro h
    rw [ly_val_s, ly_val_s, ih (fun d hd => h d (by omega)), h k (by omega)]
/-- zeros that stand before i; tokens for all before them -/
def ly_zr (b : Nat → Nat) : Nat → Nat
  | 0 => 0
  | i + 1 => if b i = 0 then ly_zr b i + 1 else 0
def ly_M (b : Nat → Nat) : Nat → Nat
  | 0 => 0
  | i + 1 => if b i = 0 then ly_M b i else ly_M b i + ly_dl (ly_zr b i) + 1
def ly_Cf (b : Nat → Nat) : Nat → Nat → Nat
  | 0, _ => 0
  | i + 1, p => if b i = 0 then ly_Cf b i p else if p < ly_M b i then ly_Cf b i p else if p < ly_M b i + ly_dl (ly_zr b i) then ly_tok (ly_zr b i) (p - ly_M b i) else b i + 1
def ly_C (b : Nat → Nat) (n p : Nat) : Nat := if p < ly_M b n then ly_Cf b n p else ly_tok (ly_zr b n) (p - ly_M b n)
theorem ly_zr_t {b : Nat → Nat} {i : Nat} (h : b i = 0) : ly_zr b (i + 1) = ly_zr b i + 1 := if_pos h
theorem ly_zr_f {b : Nat → Nat} {i : Nat} (h : ¬ b i = 0) : ly_zr b (i + 1) = 0 := if_neg h
theorem ly_M_t {b : Nat → Nat} {i : Nat} (h : b i = 0) : ly_M b (i + 1) = ly_M b i := if_pos h
theorem ly_M_f {b : Nat → Nat} {i : Nat} (h : ¬ b i = 0) : ly_M b (i + 1) = ly_M b i + ly_dl (ly_zr b i) + 1 := if_neg h
theorem ly_Cf_t {b : Nat → Nat} {i : Nat} (h : b i = 0) (p : Nat) : ly_Cf b (i + 1) p = ly_Cf b i p := if_pos h
theorem ly_Cf_f {b : Nat → Nat} {i : Nat} (h : ¬ b i = 0) (p : Nat) : ly_Cf b (i + 1) p = if p < ly_M b i then ly_Cf b i p else if p < ly_M b i + ly_dl (ly_zr b i) then ly_tok (ly_zr b i) (p - ly_M b i) else b i + 1 := if_neg h
theorem ly_M_le (b : Nat → Nat) (i : Nat) : ly_M b i + ly_zr b i ≤ i := by
  induction i with
  | zero => exact Nat.le_refl 0
  | succ i ih =>
    by_cases c : b i = 0
    · rw [ly_M_t c, ly_zr_t c]; omega
    · rw [ly_M_f c, ly_zr_f c]
      have := ly_dl_le (ly_zr b i)
      omega
theorem ly_M_up (b : Nat → Nat) (i : Nat) : ly_M b i ≤ ly_M b (i + 1) := by
  by_cases c : b i = 0
  · rw [ly_M_t c]; omega
  · rw [ly_M_f c]; omega
/-- the content does not change where it has been written -/
theorem ly_Cf_old (b : Nat → Nat) (i d p : Nat) (hp : p < ly_M b i) : ly_Cf b (i + d) p = ly_Cf b i p ∧ p < ly_M b (i + d) := by
  induction d with
  | zero => exact ⟨rfl, hp⟩
  | succ d ih =>
    have h1 := ly_M_up b (i + d)
    refine ⟨?_, by rw [← Nat.add_assoc]; omega⟩
    rw [← Nat.add_assoc, ← ih.1]
    by_cases c : b (i + d) = 0
    · exact ly_Cf_t c p
    · rw [ly_Cf_f c, if_pos ih.2]
theorem ly_C_at {b : Nat → Nat} {n i p : Nat} (hi : i ≤ n) (hp : p < ly_M b i) : ly_C b n p = ly_Cf b i p := by
  have h := ly_Cf_old b i (n - i) p hp
  have e : i + (n - i) = n := by omega
  rw [e] at h
  unfold ly_C
  rw [if_pos h.2, h.1]
theorem ly_C_dig {b : Nat → Nat} {n i d : Nat} (hi : i < n) (hb : ¬ b i = 0) (hd : d < ly_dl (ly_zr b i)) : ly_C b n (ly_M b i + d) = ly_tok (ly_zr b i) d := by
  rw [ly_C_at (i := i + 1) (by omega) (by rw [ly_M_f hb]; omega), ly_Cf_f hb, if_neg (by omega), if_pos (by omega), Nat.add_sub_cancel_left]
theorem ly_C_sym {b : Nat → Nat} {n i : Nat} (hi : i < n) (hb : ¬ b i = 0) : ly_C b n (ly_M b i + ly_dl (ly_zr b i)) = b i + 1 := by
  rw [ly_C_at (i := i + 1) (by omega) (by rw [ly_M_f hb]; omega), ly_Cf_f hb, if_neg (by omega), if_neg (by omega)]
theorem ly_C_end {b : Nat → Nat} {n d : Nat} : ly_C b n (ly_M b n + d) = ly_tok (ly_zr b n) d := by
  unfold ly_C
  rw [if_neg (by omega), Nat.add_sub_cancel_left]
theorem ly_Cf_le {b : Nat → Nat} {n K : Nat} (hK : 1 ≤ K) (hb : ∀ j, j < n → b j < K) : ∀ i, i ≤ n → ∀ p, ly_Cf b i p ≤ K := by
  intro i
  induction i with
  | zero => exact fun _ _ => Nat.zero_le _
  | succ i ih =>
    intro hi p
    have h1 := ih (by omega) p
    by_cases c : b i = 0
    · rw [ly_Cf_t c]; exact h1
    · rw [ly_Cf_f c]
      have h2 := ly_tok_le (ly_zr b i) (p - ly_M b i)
      have h3 := hb i (by omega)
      split
      · exact h1
      · split <;> omega
theorem ly_C_le {b : Nat → Nat} {n K : Nat} (hK : 1 ≤ K) (hb : ∀ j, j < n → b j < K) (p : Nat) : ly_C b n p ≤ K := by
  unfold ly_C
  have h2 := ly_tok_le (ly_zr b n) (p - ly_M b n)
  split
  · exact ly_Cf_le hK hb n (Nat.le_refl n) p
  · omega
