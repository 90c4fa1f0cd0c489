/-! endless words: agreement, order -/
theorem ly_cnt_perm {f : Nat → Nat} {P : Nat → Prop} {n : Nat} (h1 : ∀ i, i < n → f i < n) (h2 : ∀ i j, i < n → j < n → f i = f j → i = j) : ly_cnt (fun i => P (f i)) n = ly_cnt P n := by
  have hm : ∀ m, m ≤ n → ly_cnt (fun j => ∃ i, i < m ∧ f i = j ∧ P j) n = ly_cnt (fun i => P (f i)) m := by
    intro m
    induction m with
    | zero => exact fun _ => ly_cnt_none n (fun j _ ⟨i, hi, _⟩ => Nat.not_lt_zero i hi)
    | succ m ih =>
      intro hm
      have ih := ih (by omega)
      by_cases c : P (f m)
      · rw [ly_cnt_t (P := fun i => P (f i)) c, ← ih]
        have hn : ¬ ∃ i, i < m ∧ f i = f m ∧ P (f m) := by
          rintro ⟨i, hi, e, _⟩
          have := h2 i m (by omega) (by omega) e
          omega
        rw [← ly_cnt_add1 (P := fun j => ∃ i, i < m ∧ f i = j ∧ P j) n (f m) (h1 m (by omega)) hn]
        refine ly_cnt_congr n (fun j _ => ⟨?_, ?_⟩)
        · rintro ⟨i, hi, e, p⟩
          by_cases d : i = m
          · subst d; exact Or.inr e.symm
          · exact Or.inl ⟨i, by omega, e, p⟩
        · rintro (⟨i, hi, e, p⟩ | e)
          · exact ⟨i, by omega, e, p⟩
          · exact ⟨m, by omega, e.symm, by rw [e]; exact c⟩
      · rw [ly_cnt_f (P := fun i => P (f i)) c, ← ih]
        refine ly_cnt_congr n (fun j _ => ⟨?_, ?_⟩)
        · rintro ⟨i, hi, e, p⟩
          by_cases d : i = m
          · subst d; rw [e] at c; exact absurd p c
          · exact ⟨i, by omega, e, p⟩
        · rintro ⟨i, hi, e, p⟩
          exact ⟨i, by omega, e, p⟩
  rw [← hm n (Nat.le_refl n)]
  refine ly_cnt_congr n (fun j hj => ⟨fun ⟨i, hi, e, p⟩ => p, fun p => ?_⟩)
  obtain ⟨i, hi, e⟩ := ly_pigeon n f h1 h2 j hj
  exact ⟨i, hi, e, p⟩
theorem ly_cnt_from (e n : Nat) (h : e ≤ n) : ly_cnt (fun p => e ≤ p) n = n - e := by
  induction n with
  | zero => exact (Nat.zero_sub e).symm
  | succ n ih =>
    by_cases c : e = n + 1
    · subst c
      rw [ly_cnt_none (n + 1) (fun j hj => by omega)]; omega
    · rw [ly_cnt_t (P := fun p => e ≤ p) (by omega), ih (by omega)]; omega
theorem ly_agree {x y : Nat → Nat} {p q : Nat} (hx : ∀ i, x (i + p) = x i) (hy : ∀ i, y (i + q) = y i) (h1 : 1 ≤ p) (h2 : 1 ≤ q) (h : ∀ i, i < p + q → x i = y i) : ∀ i, x i = y i := by
  intro i
  induction i using Nat.strongRecOn with
  | ind i ih =>
    by_cases c : i < p + q
    · exact h i c
    · obtain ⟨j, rfl⟩ : ∃ j, i = j + q + p := ⟨i - q - p, by omega⟩
      have e1 : x (j + q + p) = x (j + q) := hx _
      have e2 : x (j + q) = y (j + q) := ih _ (by omega)
      have e3 : y (j + q) = y j := hy _
      have e4 : x j = y j := ih _ (by omega)
      have e5 : x (j + p) = x j := hx _
      have e6 : x (j + p) = y (j + p) := ih _ (by omega)
      have e7 : y (j + p + q) = y (j + p) := hy _
      have e8 : j + q + p = j + p + q := by omega
      rw [e1, e2, e3, ← e4, ← e5, e6, ← e7, e8]
def ly_wlt (x y : Nat → Nat) : Prop := ∃ k, (∀ i, i < k → x i = y i) ∧ x k < y k
theorem ly_wlt_ir (x : Nat → Nat) : ¬ ly_wlt x x := fun ⟨_, _, h⟩ => Nat.lt_irrefl _ h
theorem ly_wlt_tr {x y z : Nat → Nat} : ly_wlt x y → ly_wlt y z → ly_wlt x z := by
  rintro ⟨k, k2, k3⟩ ⟨l, l2, l3⟩
  by_cases c : k < l
  · exact ⟨k, fun i hi => (k2 i hi).trans (l2 i (by omega)), by rw [← l2 k c]; exact k3⟩
  · by_cases d : k = l
    · subst d
      exact ⟨k, fun i hi => (k2 i hi).trans (l2 i hi), by omega⟩
    · exact ⟨l, fun i hi => (k2 i (by omega)).trans (l2 i hi), by rw [k2 l (by omega)]; exact l3⟩
theorem ly_wlt_as {x y : Nat → Nat} (h : ly_wlt x y) : ¬ ly_wlt y x := fun g => ly_wlt_ir x (ly_wlt_tr h g)
theorem ly_wlt_tri (x y : Nat → Nat) : ly_wlt x y ∨ ly_wlt y x ∨ ∀ i, x i = y i := by
  by_cases h : ∃ k, x k ≠ y k
  · obtain ⟨k, k1, k2⟩ := pk_least _ h
    have k4 : ∀ i, i < k → x i = y i := fun i hi => by
      have := k2 i hi
      by_cases c : x i = y i
      · exact c
      · exact absurd c this
    by_cases c : x k < y k
    · exact Or.inl ⟨k, k4, c⟩
    · exact Or.inr (Or.inl ⟨k, fun i hi => (k4 i hi).symm, by omega⟩)
  · refine Or.inr (Or.inr fun i => ?_)
    by_cases c : x i = y i
    · exact c
    · exact absurd ⟨i, c⟩ h
theorem ly_wlt_l {x y z : Nat → Nat} (e : ∀ i, x i = y i) (h : ly_wlt y z) : ly_wlt x z := by
  obtain ⟨k, k1, k2⟩ := h
  exact ⟨k, fun i hi => (e i).trans (k1 i hi), by rw [e k]; exact k2⟩
theorem ly_wlt_r {x y z : Nat → Nat} (e : ∀ i, y i = z i) (h : ly_wlt x y) : ly_wlt x z := by
  obtain ⟨k, k1, k2⟩ := h
  exact ⟨k, fun i hi => (k1 i hi).trans (e i), by rw [← e k]; exact k2⟩
theorem ly_mod_s (x l : Nat) (h : 0 < l) : (x + 1) % l = if x % l + 1 = l then 0 else x % l + 1 := by
  have h1 := Nat.div_add_mod x l
  have h2 := Nat.mod_lt x h
  have e : x + 1 = l * (x / l) + (x % l + 1) := by omega
  rw [e, Nat.mul_add_mod]
  by_cases c : x % l + 1 = l
  · rw [if_pos c, c, Nat.mod_self]
  · rw [if_neg c, Nat.mod_eq_of_lt (by omega)]
/-! the words of a block -/
noncomputable def ly_l (b : Nat → Nat) (n p : Nat) : Nat := ly_en b n p - ly_st b n p
noncomputable def ly_W (b : Nat → Nat) (n p k : Nat) : Nat := b (ly_pos b n p k)
theorem ly_l_pos (b : Nat → Nat) {n p : Nat} (h : p < n) : 1 ≤ ly_l b n p ∧ ly_l b n p ≤ n := by
  have := ly_st_in b h
  unfold ly_l
  omega
theorem ly_pos_form (b : Nat → Nat) {n p : Nat} (h : p < n) (k : Nat) : ly_pos b n p k = ly_st b n p + (p - ly_st b n p + k) % ly_l b n p := by
  have h1 := ly_st_in b h
  have h2 := ly_l_pos b h
  induction k with
  | zero =>
    rw [Nat.add_zero, Nat.mod_eq_of_lt (by unfold ly_l; omega)]
    show p = _
    omega
  | succ k ih =>
    rw [ly_pos_nx b h, ih, ← Nat.add_assoc, ly_mod_s _ _ h2.1]
    by_cases c : (p - ly_st b n p + k) % ly_l b n p + 1 = ly_l b n p
    · have d : ly_st b n p + (p - ly_st b n p + k) % ly_l b n p + 1 = ly_en b n p := by unfold ly_l at c ⊢; omega
      rw [if_pos c, if_pos d]; rfl
    · have d : ¬ ly_st b n p + (p - ly_st b n p + k) % ly_l b n p + 1 = ly_en b n p := by unfold ly_l at c ⊢; omega
      rw [if_neg c, if_neg d]; omega
theorem ly_pos_per (b : Nat → Nat) {n p : Nat} (h : p < n) (k m : Nat) : ly_pos b n p (k + m * ly_l b n p) = ly_pos b n p k := by
  rw [ly_pos_form b h, ly_pos_form b h, ← Nat.add_assoc, Nat.add_mul_mod_self_right]
theorem ly_W_per (b : Nat → Nat) {n p : Nat} (h : p < n) (k : Nat) : ly_W b n p (k + ly_l b n p) = ly_W b n p k := by
  have := ly_pos_per b h k 1
  rw [Nat.one_mul] at this
  exact congrArg b this
theorem ly_pos_add (b : Nat → Nat) (n p k m : Nat) : ly_pos b n p (k + m) = ly_pos b n (ly_pos b n p k) m := by
  induction m with
  | zero => rfl
  | succ m ih =>
    show ly_nx b n (ly_pos b n p (k + m)) = ly_nx b n (ly_pos b n (ly_pos b n p k) m)
    rw [ih]
theorem ly_W_agree {b : Nat → Nat} {n p q : Nat} (hn : n ≤ 24) (hp : p < n) (hq : q < n) (h : ∀ k, k < 48 → ly_W b n p k = ly_W b n q k) : ∀ k, ly_W b n p k = ly_W b n q k := by
  have h1 := ly_l_pos b hp
  have h2 := ly_l_pos b hq
  exact ly_agree (ly_W_per b hp) (ly_W_per b hq) h1.1 h2.1 (fun i hi => h i (by omega))
/-- the rows' order, in endless words -/
theorem ly_bf_W {b : Nat → Nat} {n p q : Nat} (hn : n ≤ 24) (hp : p < n) (hq : q < n) : ly_bf b n p q ↔ (ly_wlt (ly_W b n p) (ly_W b n q) ∨ ((∀ k, ly_W b n p k = ly_W b n q k) ∧ p < q)) := by
  constructor
  · rintro (⟨k, _, k2, k3⟩ | ⟨k2, k3⟩)
    · exact Or.inl ⟨k, k2, k3⟩
    · exact Or.inr ⟨ly_W_agree hn hp hq k2, k3⟩
  · rintro (⟨k, k2, k3⟩ | ⟨k2, k3⟩)
    · by_cases c : k < 48
      · exact Or.inl ⟨k, c, k2, k3⟩
      · have := ly_W_agree hn hp hq (fun i hi => k2 i (by omega)) k
        omega
    · exact Or.inr ⟨fun i _ => k2 i, k3⟩
/-- the same with the other place first among equals -/
def ly_bg (b : Nat → Nat) (n p q : Nat) : Prop := ly_wlt (ly_W b n p) (ly_W b n q) ∨ ((∀ k, ly_W b n p k = ly_W b n q k) ∧ q < p)
theorem ly_bg_sto (b : Nat → Nat) (n : Nat) : ly_STO (ly_bg b n) n := by
  refine ⟨?_, ?_, ?_⟩
  · rintro p (h | h)
    · exact ly_wlt_ir _ h
    · omega
  · rintro p q r (h | ⟨h, h'⟩) (g | ⟨g, g'⟩)
    · exact Or.inl (ly_wlt_tr h g)
    · exact Or.inl (ly_wlt_r g h)
    · exact Or.inl (ly_wlt_l h g)
    · exact Or.inr ⟨fun k => (h k).trans (g k), by omega⟩
  · intro p q _ _ hne
    rcases ly_wlt_tri (ly_W b n p) (ly_W b n q) with h | h | h
    · exact Or.inl (Or.inl h)
    · exact Or.inr (Or.inl h)
    · by_cases c : q < p
      · exact Or.inl (Or.inr ⟨h, c⟩)
      · exact Or.inr (Or.inr ⟨fun k => (h k).symm, by omega⟩)
noncomputable def ly_rg (b : Nat → Nat) (n p : Nat) : Nat := ly_rk (ly_bg b n) n p
theorem ly_rg_lt {b : Nat → Nat} {n p : Nat} (hp : p < n) : ly_rg b n p < n := ly_rk_lt (ly_bg_sto b n) hp
theorem ly_rg_inj {b : Nat → Nat} {n p q : Nat} (hp : p < n) (hq : q < n) (e : ly_rg b n p = ly_rg b n q) : p = q := ly_rk_inj (ly_bg_sto b n) hp hq e
theorem ly_rg_ltI {b : Nat → Nat} {n p q : Nat} (hp : p < n) (hq : q < n) : ly_rg b n p < ly_rg b n q ↔ ly_bg b n p q := ly_rk_ltI (ly_bg_sto b n) hp hq
/-! the place before, round the factor -/
noncomputable def ly_pr (b : Nat → Nat) (n p : Nat) : Nat := if p = ly_st b n p then ly_en b n p - 1 else p - 1
theorem ly_pr_t {b : Nat → Nat} {n p : Nat} (h : p = ly_st b n p) : ly_pr b n p = ly_en b n p - 1 := if_pos h
theorem ly_pr_f {b : Nat → Nat} {n p : Nat} (h : ¬ p = ly_st b n p) : ly_pr b n p = p - 1 := if_neg h
theorem ly_ll_pr (b : Nat → Nat) (n p : Nat) : ly_ll b n p = b (ly_pr b n p) := by
  unfold ly_ll
  by_cases c : p = ly_st b n p
  · rw [if_pos c, ly_pr_t c]
  · rw [if_neg c, ly_pr_f c]
theorem ly_pr_in (b : Nat → Nat) {n p : Nat} (h : p < n) : ly_st b n p ≤ ly_pr b n p ∧ ly_pr b n p < ly_en b n p := by
  have h1 := ly_st_in b h
  by_cases c : p = ly_st b n p
  · rw [ly_pr_t c]; omega
  · rw [ly_pr_f c]; omega
theorem ly_pr_lt (b : Nat → Nat) {n p : Nat} (h : p < n) : ly_pr b n p < n := by
  have h1 := ly_pr_in b h
  have h2 := (ly_st_in b h).2.2
  omega
theorem ly_pr_st (b : Nat → Nat) {n p : Nat} (h : p < n) : ly_st b n (ly_pr b n p) = ly_st b n p := ly_st_same (ly_pr_in b h).1 (ly_pr_in b h).2
theorem ly_nx_pr (b : Nat → Nat) {n p : Nat} (h : p < n) : ly_nx b n (ly_pr b n p) = p := by
  have h1 := ly_st_in b h
  have h2 := ly_pr_in b h
  unfold ly_nx
  rw [ly_st_same h2.1 h2.2, ly_en_same h2.1 h2.2]
  by_cases c : p = ly_st b n p
  · rw [ly_pr_t c, if_pos (by omega)]; exact c.symm
  · rw [ly_pr_f c, if_neg (by omega)]; omega
theorem ly_pr_nx (b : Nat → Nat) {n p : Nat} (h : p < n) : ly_pr b n (ly_nx b n p) = p := by
  have h1 := ly_st_in b h
  have h2 := ly_nx_in b h
  by_cases c : p + 1 = ly_en b n p
  · have e : ly_nx b n p = ly_st b n p := if_pos c
    rw [e, ly_pr_t (ly_st_st b n p).symm, ly_en_same (Nat.le_refl _) (by omega)]
    omega
  · have e : ly_nx b n p = p + 1 := if_neg c
    rw [e] at h2
    have d := ly_st_same h2.1 h2.2
    rw [e, ly_pr_f (by rw [d]; omega)]
    omega
theorem ly_pr_inj {b : Nat → Nat} {n p q : Nat} (hp : p < n) (hq : q < n) (e : ly_pr b n p = ly_pr b n q) : p = q := by
  rw [← ly_nx_pr b hp, ← ly_nx_pr b hq, e]
theorem ly_W_pr0 (b : Nat → Nat) (n p : Nat) : ly_W b n (ly_pr b n p) 0 = b (ly_pr b n p) := rfl
theorem ly_W_prs (b : Nat → Nat) {n p : Nat} (h : p < n) (k : Nat) : ly_W b n (ly_pr b n p) (k + 1) = ly_W b n p k := by
  unfold ly_W
  rw [Nat.add_comm, ly_pos_add]
  show b (ly_pos b n (ly_nx b n (ly_pr b n p)) k) = _
  rw [ly_nx_pr b h]
theorem ly_pr_pos (b : Nat → Nat) {n p : Nat} (h : p < n) (m : Nat) (hm : 1 ≤ m) : ly_pos b n p (m * ly_l b n p - 1) = ly_pr b n p := by
  have h1 := ly_l_pos b h
  have h2 : 1 ≤ m * ly_l b n p := Nat.le_trans hm (Nat.le_mul_of_pos_right m h1.1)
  have e : ly_nx b n (ly_pos b n p (m * ly_l b n p - 1)) = p := by
    show ly_pos b n p (m * ly_l b n p - 1 + 1) = p
    have e2 : m * ly_l b n p - 1 + 1 = 0 + m * ly_l b n p := by omega
    rw [e2, ly_pos_per b h]
    rfl
  rw [← ly_pr_nx b (ly_pos_lt b h (m * ly_l b n p - 1)), e]
theorem ly_pr_eq {b : Nat → Nat} {n p q : Nat} (hp : p < n) (hq : q < n) (h : ∀ k, ly_W b n p k = ly_W b n q k) : b (ly_pr b n p) = b (ly_pr b n q) := by
  have h1 := ly_pr_pos b hp (ly_l b n q) (ly_l_pos b hq).1
  have h2 := ly_pr_pos b hq (ly_l b n p) (ly_l_pos b hp).1
  have h3 := h (ly_l b n q * ly_l b n p - 1)
  unfold ly_W at h3
  rw [h1, Nat.mul_comm, h2] at h3
  exact h3
theorem ly_W_preq {b : Nat → Nat} {n p q : Nat} (hp : p < n) (hq : q < n) (h : ∀ k, ly_W b n p k = ly_W b n q k) (k : Nat) : ly_W b n (ly_pr b n p) k = ly_W b n (ly_pr b n q) k := by
  cases k with
  | zero => exact ly_pr_eq hp hq h
  | succ k => rw [ly_W_prs b hp, ly_W_prs b hq]; exact h k
theorem ly_wlt_pr {b : Nat → Nat} {n p q : Nat} (hp : p < n) (hq : q < n) : ly_wlt (ly_W b n (ly_pr b n p)) (ly_W b n (ly_pr b n q)) ↔ (b (ly_pr b n p) < b (ly_pr b n q) ∨ (b (ly_pr b n p) = b (ly_pr b n q) ∧ ly_wlt (ly_W b n p) (ly_W b n q))) := by
  constructor
  · rintro ⟨k, k2, k3⟩
    cases k with
    | zero => exact Or.inl k3
    | succ k =>
      refine Or.inr ⟨k2 0 (by omega), k, fun i hi => ?_, ?_⟩
      · have := k2 (i + 1) (by omega)
        rw [ly_W_prs b hp, ly_W_prs b hq] at this
        exact this
      · rw [ly_W_prs b hp, ly_W_prs b hq] at k3
        exact k3
  · rintro (h | ⟨h, k, k2, k3⟩)
    · exact ⟨0, fun i hi => absurd hi (Nat.not_lt_zero i), h⟩
    · refine ⟨k + 1, fun i hi => ?_, ?_⟩
      · cases i with
        | zero => exact h
        | succ i => rw [ly_W_prs b hp, ly_W_prs b hq]; exact k2 i (by omega)
      · rw [ly_W_prs b hp, ly_W_prs b hq]; exact k3
