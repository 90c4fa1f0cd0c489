/-! what a code stands for -/
def ly_w (c : Nat → Nat) : Nat → Nat
  | 0 => 1
  | i + 1 => if 2 ≤ c i then 1 else ly_w c i * 2
def ly_D (c : Nat → Nat) : Nat → Nat
  | 0 => 0
  | i + 1 => if 2 ≤ c i then ly_D c i + 1 else ly_D c i + (c i + 1) * ly_w c i
def ly_rs (c : Nat → Nat) : Nat → Nat
  | 0 => 0
  | i + 1 => if 2 ≤ c i then i + 1 else ly_rs c i
def ly_S (c : Nat → Nat) : Nat → Nat → Nat
  | 0, _ => 0
  | i + 1, p => if p < ly_D c i then ly_S c i p else if 2 ≤ c i then c i - 1 else 0
theorem ly_w_t {c : Nat → Nat} {i : Nat} (h : 2 ≤ c i) : ly_w c (i + 1) = 1 := if_pos h
theorem ly_w_f {c : Nat → Nat} {i : Nat} (h : ¬ 2 ≤ c i) : ly_w c (i + 1) = ly_w c i * 2 := if_neg h
theorem ly_D_t {c : Nat → Nat} {i : Nat} (h : 2 ≤ c i) : ly_D c (i + 1) = ly_D c i + 1 := if_pos h
theorem ly_D_f {c : Nat → Nat} {i : Nat} (h : ¬ 2 ≤ c i) : ly_D c (i + 1) = ly_D c i + (c i + 1) * ly_w c i := if_neg h
theorem ly_rs_t {c : Nat → Nat} {i : Nat} (h : 2 ≤ c i) : ly_rs c (i + 1) = i + 1 := if_pos h
theorem ly_rs_f {c : Nat → Nat} {i : Nat} (h : ¬ 2 ≤ c i) : ly_rs c (i + 1) = ly_rs c i := if_neg h
theorem ly_S_s (c : Nat → Nat) (i p : Nat) : ly_S c (i + 1) p = if p < ly_D c i then ly_S c i p else if 2 ≤ c i then c i - 1 else 0 := rfl
theorem ly_rs_le (c : Nat → Nat) (i : Nat) : ly_rs c i ≤ i := by
  induction i with
  | zero => exact Nat.le_refl 0
  | succ i ih =>
    by_cases h : 2 ≤ c i
    · rw [ly_rs_t h]; exact Nat.le_refl _
    · rw [ly_rs_f h]; omega
theorem ly_rs_lt (c : Nat → Nat) (i j : Nat) (h1 : ly_rs c i ≤ j) (h2 : j < i) : c j < 2 := by
  induction i with
  | zero => omega
  | succ i ih =>
    by_cases h : 2 ≤ c i
    · rw [ly_rs_t h] at h1; omega
    · rw [ly_rs_f h] at h1
      by_cases e : j = i
      · subst e; omega
      · exact ih h1 (by omega)
theorem ly_rs_pre (c : Nat → Nat) (i : Nat) (h : 0 < ly_rs c i) : 2 ≤ c (ly_rs c i - 1) := by
  induction i with
  | zero => exact absurd h (Nat.lt_irrefl 0)
  | succ i ih =>
    by_cases d : 2 ≤ c i
    · rw [ly_rs_t d]; exact d
    · rw [ly_rs_f d] at h ⊢
      exact ih h
theorem ly_w_eq (c : Nat → Nat) (i : Nat) : ly_w c i = 2 ^ (i - ly_rs c i) := by
  induction i with
  | zero => rfl
  | succ i ih =>
    by_cases h : 2 ≤ c i
    · rw [ly_w_t h, ly_rs_t h, Nat.sub_self]
    · have h1 := ly_rs_le c i
      have e : i + 1 - ly_rs c i = (i - ly_rs c i) + 1 := by omega
      rw [ly_w_f h, ly_rs_f h, ih, e, Nat.pow_succ]
theorem ly_w_le (c : Nat → Nat) (i : Nat) : ly_w c i ≤ 2 ^ i := by
  rw [ly_w_eq]
  exact Nat.pow_le_pow_right (by decide) (Nat.sub_le _ _)
theorem ly_D_le (c : Nat → Nat) (i : Nat) : ly_D c i + 2 ≤ 2 ^ (i + 1) := by
  induction i with
  | zero => exact Nat.le_refl 2
  | succ i ih =>
    have h1 := Nat.two_pow_pos i
    rw [Nat.pow_succ] at ih
    by_cases h : 2 ≤ c i
    · rw [ly_D_t h, Nat.pow_succ, Nat.pow_succ]; omega
    · have h2 := ly_w_le c i
      have h3 : (c i + 1) * ly_w c i ≤ 2 * 2 ^ i := Nat.mul_le_mul (by omega) h2
      rw [ly_D_f h, Nat.pow_succ, Nat.pow_succ]; omega
theorem ly_D_up (c : Nat → Nat) (i : Nat) : ly_D c i ≤ ly_D c (i + 1) := by
  by_cases h : 2 ≤ c i
  · rw [ly_D_t h]; omega
  · rw [ly_D_f h]; omega
theorem ly_D_mono (c : Nat → Nat) {i j : Nat} (h : i ≤ j) : ly_D c i ≤ ly_D c j := by
  induction j with
  | zero => obtain rfl : i = 0 := by omega
            exact Nat.le_refl _
  | succ j ih =>
    by_cases e : i = j + 1
    · rw [e]; exact Nat.le_refl _
    · exact Nat.le_trans (ih (by omega)) (ly_D_up c j)
/-- a run of digits counts as its value -/
theorem ly_D_val (c : Nat → Nat) (i : Nat) : ly_D c i = ly_D c (ly_rs c i) + ly_val c (ly_rs c i) (i - ly_rs c i) := by
  induction i with
  | zero => rfl
  | succ i ih =>
    by_cases h : 2 ≤ c i
    · rw [ly_rs_t h, Nat.sub_self]; rfl
    · have h1 := ly_rs_le c i
      have e : i + 1 - ly_rs c i = (i - ly_rs c i) + 1 := by omega
      have e2 : ly_rs c i + (i - ly_rs c i) = i := by omega
      rw [ly_D_f h, ly_rs_f h, e, ly_val_s, e2, ly_w_eq, Nat.mul_comm]
      omega
/-- the content does not change where it has been written -/
theorem ly_S_old (c : Nat → Nat) (i d p : Nat) (hp : p < ly_D c i) : ly_S c (i + d) p = ly_S c i p := by
  induction d with
  | zero => rfl
  | succ d ih =>
    have h1 := ly_D_mono c (i := i) (j := i + d) (by omega)
    rw [← Nat.add_assoc, ly_S_s, if_pos (by omega), ih]
theorem ly_S_sym {c : Nat → Nat} {m i : Nat} (hi : i < m) (h : 2 ≤ c i) : ly_S c m (ly_D c i) = c i - 1 := by
  have h1 := ly_S_old c (i + 1) (m - (i + 1)) (ly_D c i) (by rw [ly_D_t h]; omega)
  have e : i + 1 + (m - (i + 1)) = m := by omega
  rw [e] at h1
  rw [h1, ly_S_s, if_neg (Nat.lt_irrefl _), if_pos h]
theorem ly_S_dig {c : Nat → Nat} {m i p : Nat} (hi : i < m) (h : ¬ 2 ≤ c i) (h1 : ly_D c i ≤ p) (h2 : p < ly_D c (i + 1)) : ly_S c m p = 0 := by
  have h3 := ly_S_old c (i + 1) (m - (i + 1)) p h2
  have e : i + 1 + (m - (i + 1)) = m := by omega
  rw [e] at h3
  rw [h3, ly_S_s, if_neg (by omega), if_neg h]
theorem ly_S_run {c : Nat → Nat} {m p : Nat} : ∀ i, i < m → ¬ 2 ≤ c i → ly_D c (ly_rs c i) ≤ p → p < ly_D c (i + 1) → ly_S c m p = 0 := by
  intro i
  induction i with
  | zero => exact fun hi h h1 h2 => ly_S_dig hi h h1 h2
  | succ i ih =>
    intro hi h h1 h2
    by_cases d : ly_D c (i + 1) ≤ p
    · exact ly_S_dig hi h d h2
    · by_cases e : 2 ≤ c i
      · rw [ly_rs_t e] at h1; omega
      · rw [ly_rs_f e] at h1
        exact ih (by omega) e h1 (by omega)
theorem ly_S_lt {c : Nat → Nat} {m K : Nat} (hK : 1 ≤ K) (hc : ∀ j, j < m → c j ≤ K) : ∀ i, i ≤ m → ∀ p, ly_S c i p < K := by
  intro i
  induction i with
  | zero => exact fun _ _ => hK
  | succ i ih =>
    intro hi p
    have h1 := ih (by omega) p
    have h2 := hc i (by omega)
    rw [ly_S_s]
    split
    · exact h1
    · split <;> omega
/-- what the reference has counted when it has read i tokens -/
def ly_Yd (c : Nat → Nat) (m i : Nat) : Nat := if i < m ∧ c i < 2 then ly_D c (ly_rs c i) else ly_D c i
theorem ly_Yd_0 (c : Nat → Nat) (m : Nat) : ly_Yd c m 0 = 0 := by
  unfold ly_Yd
  split <;> rfl
theorem ly_Yd_m (c : Nat → Nat) (m : Nat) : ly_Yd c m m = ly_D c m := if_neg (by omega)
def ly_ye (c : Nat → Nat) (m i : Nat) : Nat := if 2 ≤ c i then 1 else if i + 1 < m ∧ c (i + 1) < 2 then 0 else ly_val c (ly_rs c i) (i + 1 - ly_rs c i)
theorem ly_Yd_s {c : Nat → Nat} {m i : Nat} (hi : i < m) : ly_Yd c m (i + 1) = ly_Yd c m i + ly_ye c m i := by
  unfold ly_Yd ly_ye
  by_cases h : 2 ≤ c i
  · rw [if_pos h, if_neg (c := i < m ∧ c i < 2) (by omega), ly_rs_t h, ly_D_t h]
    split <;> rfl
  · rw [if_neg h, if_pos (c := i < m ∧ c i < 2) (by omega), ly_rs_f h]
    by_cases d : i + 1 < m ∧ c (i + 1) < 2
    · rw [if_pos d, if_pos d]; rfl
    · rw [if_neg d, if_neg d]
      have := ly_D_val c (i + 1)
      rw [ly_rs_f h] at this
      exact this
