/-! counting below a bound, and the pigeons -/
noncomputable def ly_one (P : Prop) : Nat := @ite Nat P (Classical.propDecidable P) 1 0
theorem ly_one_t {P : Prop} (h : P) : ly_one P = 1 := if_pos h
theorem ly_one_f {P : Prop} (h : ¬ P) : ly_one P = 0 := if_neg h
noncomputable def ly_cnt (P : Nat → Prop) : Nat → Nat
  | 0 => 0
  | n + 1 => ly_cnt P n + ly_one (P n)
theorem ly_cnt_0 (P : Nat → Prop) : ly_cnt P 0 = 0 := rfl
theorem ly_cnt_t {P : Nat → Prop} {n : Nat} (h : P n) : ly_cnt P (n + 1) = ly_cnt P n + 1 := by
  show ly_cnt P n + ly_one (P n) = _
  rw [ly_one_t h]
theorem ly_cnt_f {P : Nat → Prop} {n : Nat} (h : ¬ P n) : ly_cnt P (n + 1) = ly_cnt P n := by
  show ly_cnt P n + ly_one (P n) = _
  rw [ly_one_f h]; rfl
theorem ly_cnt_le (P : Nat → Prop) (n : Nat) : ly_cnt P n ≤ n := by
  induction n with
  | zero => exact Nat.le_refl 0
  | succ n ih =>
    by_cases h : P n
    · rw [ly_cnt_t h]; omega
    · rw [ly_cnt_f h]; omega
theorem ly_cnt_mono {P Q : Nat → Prop} (n : Nat) (h : ∀ j, j < n → P j → Q j) : ly_cnt P n ≤ ly_cnt Q n := by
  induction n with
  | zero => exact Nat.le_refl 0
  | succ n ih =>
    have ih := ih (fun j hj => h j (by omega))
    by_cases hp : P n
    · rw [ly_cnt_t hp, ly_cnt_t (h n (by omega) hp)]; omega
    · rw [ly_cnt_f hp]
      by_cases hq : Q n
      · rw [ly_cnt_t hq]; omega
      · rw [ly_cnt_f hq]; omega
theorem ly_cnt_up (P : Nat → Prop) {m n : Nat} (h : m ≤ n) : ly_cnt P m ≤ ly_cnt P n := by
  induction n with
  | zero => obtain rfl : m = 0 := by omega
            exact Nat.le_refl _
  | succ n ih =>
    by_cases e : m = n + 1
    · rw [e]; exact Nat.le_refl _
    · have ih := ih (by omega)
      by_cases hp : P n
      · rw [ly_cnt_t hp]; omega
      · rw [ly_cnt_f hp]; omega
theorem ly_cnt_congr {P Q : Nat → Prop} (n : Nat) (h : ∀ j, j < n → (P j ↔ Q j)) : ly_cnt P n = ly_cnt Q n :=
  Nat.le_antisymm (ly_cnt_mono n fun j hj => (h j hj).1) (ly_cnt_mono n fun j hj => (h j hj).2)
theorem ly_cnt_lt {P Q : Nat → Prop} (n a : Nat) (h : ∀ j, j < n → P j → Q j) (ha : a < n) (hp : ¬ P a) (hq : Q a) : ly_cnt P n < ly_cnt Q n := by
  induction n with
  | zero => exact absurd ha (Nat.not_lt_zero a)
  | succ n ih =>
    by_cases e : a = n
    · subst e
      have h2 : ly_cnt P a ≤ ly_cnt Q a := ly_cnt_mono a (fun j hj => h j (by omega))
      rw [ly_cnt_f hp, ly_cnt_t hq]
      omega
    · have ih := ih (fun j hj => h j (by omega)) (by omega)
      by_cases hpn : P n
      · rw [ly_cnt_t hpn, ly_cnt_t (h n (by omega) hpn)]; omega
      · rw [ly_cnt_f hpn]
        by_cases hqn : Q n
        · rw [ly_cnt_t hqn]; omega
        · rw [ly_cnt_f hqn]; omega
theorem ly_cnt_all {P : Nat → Prop} (n : Nat) (h : ∀ j, j < n → P j) : ly_cnt P n = n := by
  induction n with
  | zero => rfl
  | succ n ih => rw [ly_cnt_t (h n (by omega)), ih (fun j hj => h j (by omega))]
theorem ly_cnt_none {P : Nat → Prop} (n : Nat) (h : ∀ j, j < n → ¬ P j) : ly_cnt P n = 0 := by
  induction n with
  | zero => rfl
  | succ n ih => rw [ly_cnt_f (h n (by omega)), ih (fun j hj => h j (by omega))]
theorem ly_cnt_ltn {P : Nat → Prop} (n a : Nat) (ha : a < n) (h : ¬ P a) : ly_cnt P n < n := by
  have h1 := ly_cnt_lt (P := P) (Q := fun _ => True) n a (fun _ _ _ => trivial) ha h trivial
  rw [ly_cnt_all (P := fun _ => True) n (fun _ _ => trivial)] at h1
  exact h1
theorem ly_cnt_full {P : Nat → Prop} (n : Nat) (e : ly_cnt P n = n) (j : Nat) (hj : j < n) : P j := by
  by_cases h : P j
  · exact h
  · have := ly_cnt_ltn n j hj h
    omega
theorem ly_cnt_add1 {P : Nat → Prop} (n a : Nat) (ha : a < n) (hp : ¬ P a) : ly_cnt (fun j => P j ∨ j = a) n = ly_cnt P n + 1 := by
  induction n with
  | zero => exact absurd ha (Nat.not_lt_zero a)
  | succ n ih =>
    by_cases e : a = n
    · subst e
      have h2 : ly_cnt (fun j => P j ∨ j = a) a = ly_cnt P a := ly_cnt_congr a (fun j hj => ⟨fun z => z.resolve_right (by omega), fun z => Or.inl z⟩)
      rw [ly_cnt_t (P := fun j => P j ∨ j = a) (Or.inr rfl), ly_cnt_f hp, h2]
    · have ih := ih (by omega)
      by_cases hn : P n
      · rw [ly_cnt_t (P := fun j => P j ∨ j = a) (Or.inl hn), ly_cnt_t hn, ih]
      · rw [ly_cnt_f (P := fun j => P j ∨ j = a) (fun z => z.elim hn (by omega)), ly_cnt_f hn, ih]
theorem ly_cnt_below (x n : Nat) (h : x ≤ n) : ly_cnt (fun y => y < x) n = x := by
  induction n with
  | zero => obtain rfl : x = 0 := by omega
            rfl
  | succ n ih =>
    by_cases e : x = n + 1
    · subst e
      exact ly_cnt_all _ (fun j hj => hj)
    · rw [ly_cnt_f (P := fun y => y < x) (by omega), ih (by omega)]
theorem ly_pigeon (n : Nat) : ∀ f : Nat → Nat, (∀ i, i < n → f i < n) → (∀ i j, i < n → j < n → f i = f j → i = j) → ∀ t, t < n → ∃ j, j < n ∧ f j = t := by
  induction n with
  | zero => exact fun f _ _ t ht => absurd ht (Nat.not_lt_zero t)
  | succ n ih =>
    intro f h1 h2 t ht
    have hS := ih (fun j => if f j = n then f n else f j) ?_ ?_
    · by_cases et : t = n
      · subst et
        by_cases ev : f t = t
        · exact ⟨t, by omega, ev⟩
        · obtain ⟨j, hj, ej⟩ := hS (f t) (by have := h1 t (by omega); omega)
          by_cases c : f j = t
          · exact ⟨j, by omega, c⟩
          · rw [if_neg c] at ej
            have := h2 j t (by omega) (by omega) ej
            omega
      · obtain ⟨j, hj, ej⟩ := hS t (by omega)
        by_cases c : f j = n
        · rw [if_pos c] at ej
          exact ⟨n, by omega, ej⟩
        · rw [if_neg c] at ej
          exact ⟨j, by omega, ej⟩
    · intro i hi
      by_cases c : f i = n
      · rw [if_pos c]
        have a := h1 n (by omega)
        have b : f n ≠ n := fun z => by
          have := h2 i n (by omega) (by omega) (c.trans z.symm)
          omega
        omega
      · rw [if_neg c]
        have a := h1 i (by omega)
        omega
    · intro i j hi hj e
      by_cases c : f i = n
      · by_cases d : f j = n
        · exact h2 i j (by omega) (by omega) (c.trans d.symm)
        · rw [if_pos c, if_neg d] at e
          have := h2 n j (by omega) (by omega) e
          omega
      · by_cases d : f j = n
        · rw [if_neg c, if_pos d] at e
          have := h2 i n (by omega) (by omega) e
          omega
        · rw [if_neg c, if_neg d] at e
          exact h2 i j (by omega) (by omega) e
/-! ranks in a strict total order -/
def ly_STO (R : Nat → Nat → Prop) (n : Nat) : Prop := (∀ p, ¬ R p p) ∧ (∀ p q r, R p q → R q r → R p r) ∧ (∀ p q, p < n → q < n → p ≠ q → R p q ∨ R q p)
noncomputable def ly_rk (R : Nat → Nat → Prop) (n p : Nat) : Nat := ly_cnt (fun q => R q p) n
theorem ly_rk_lt {R : Nat → Nat → Prop} {n p : Nat} (h : ly_STO R n) (hp : p < n) : ly_rk R n p < n := ly_cnt_ltn n p hp (h.1 p)
theorem ly_rk_mono {R : Nat → Nat → Prop} {n p q : Nat} (h : ly_STO R n) (hp : p < n) (hr : R p q) : ly_rk R n p < ly_rk R n q :=
  ly_cnt_lt n p (fun j _ hj => h.2.1 j p q hj hr) hp (h.1 p) hr
theorem ly_rk_inj {R : Nat → Nat → Prop} {n p q : Nat} (h : ly_STO R n) (hp : p < n) (hq : q < n) (e : ly_rk R n p = ly_rk R n q) : p = q := by
  by_cases c : p = q
  · exact c
  · rcases h.2.2 p q hp hq c with d | d
    · have := ly_rk_mono h hp d; omega
    · have := ly_rk_mono h hq d; omega
theorem ly_rk_surj {R : Nat → Nat → Prop} {n : Nat} (h : ly_STO R n) (r : Nat) (hr : r < n) : ∃ p, p < n ∧ ly_rk R n p = r :=
  ly_pigeon n (ly_rk R n) (fun _ hi => ly_rk_lt h hi) (fun _ _ hi hj e => ly_rk_inj h hi hj e) r hr
theorem ly_rk_ltI {R : Nat → Nat → Prop} {n p q : Nat} (h : ly_STO R n) (hp : p < n) (hq : q < n) : ly_rk R n p < ly_rk R n q ↔ R p q := by
  constructor
  · intro e
    by_cases c : p = q
    · subst c; omega
    · rcases h.2.2 p q hp hq c with d | d
      · exact d
      · have := ly_rk_mono h hq d; omega
  · exact ly_rk_mono h hp
/-! the dictionary order of the first m letters, then the smaller place -/
def ly_lex (f : Nat → Nat → Nat) (m p q : Nat) : Prop := (∃ k, k < m ∧ (∀ i, i < k → f p i = f q i) ∧ f p k < f q k) ∨ ((∀ i, i < m → f p i = f q i) ∧ p < q)
theorem ly_lex_sto (f : Nat → Nat → Nat) (m n : Nat) : ly_STO (ly_lex f m) n := by
  refine ⟨?_, ?_, ?_⟩
  · rintro p (⟨k, _, _, h⟩ | ⟨_, h⟩) <;> omega
  · rintro p q r (⟨k, k1, k2, k3⟩ | ⟨k2, k3⟩) (⟨l, l1, l2, l3⟩ | ⟨l2, l3⟩)
    · by_cases c : k < l
      · exact Or.inl ⟨k, k1, fun i hi => (k2 i hi).trans (l2 i (by omega)), by rw [← l2 k c]; exact k3⟩
      · by_cases d : k = l
        · subst d
          exact Or.inl ⟨k, k1, fun i hi => (k2 i hi).trans (l2 i hi), by omega⟩
        · exact Or.inl ⟨l, l1, fun i hi => (k2 i (by omega)).trans (l2 i hi), by rw [k2 l (by omega)]; exact l3⟩
    · exact Or.inl ⟨k, k1, fun i hi => (k2 i hi).trans (l2 i (by omega)), by rw [← l2 k k1]; exact k3⟩
    · exact Or.inl ⟨l, l1, fun i hi => (k2 i (by omega)).trans (l2 i hi), by rw [k2 l l1]; exact l3⟩
    · exact Or.inr ⟨fun i hi => (k2 i hi).trans (l2 i hi), by omega⟩
  · intro p q _ _ hne
    by_cases h : ∃ k, k < m ∧ f p k ≠ f q k
    · obtain ⟨k, ⟨k1, k2⟩, k3⟩ := pk_least _ h
      have k4 : ∀ i, i < k → f p i = f q i := fun i hi => by
        have := k3 i hi
        by_cases c : f p i = f q i
        · exact c
        · exact absurd ⟨by omega, c⟩ this
      by_cases c : f p k < f q k
      · exact Or.inl (Or.inl ⟨k, k1, k4, c⟩)
      · exact Or.inr (Or.inl ⟨k, k1, fun i hi => (k4 i hi).symm, by omega⟩)
    · have h2 : ∀ i, i < m → f p i = f q i := fun i hi => by
        by_cases c : f p i = f q i
        · exact c
        · exact absurd ⟨i, hi, c⟩ h
      by_cases c : p < q
      · exact Or.inl (Or.inr ⟨h2, c⟩)
      · exact Or.inr (Or.inr ⟨fun i hi => (h2 i hi).symm, by omega⟩)
