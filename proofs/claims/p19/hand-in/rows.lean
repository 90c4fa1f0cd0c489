section
/-! counting below a bound, and the pigeons -/
noncomputable def ly_one (P : Prop) : Nat := @ite Nat P (Classical.propDecidable P) 1 0
theorem ly_one_t {P : Prop} (h : P) : ly_one P = 1 := if_pos h
theorem ly_one_f {P : Prop} (h : ¬ P) : ly_one P = 0 := if_neg h
noncomputable def ly_cnt (P : Nat → Prop) : Nat → Nat
  | 0 => 0
  | n + 1 => ly_cnt P n + ly_one (P n)
theorem ly_cnt_0 (P : Nat → Prop) : ly_cnt P 0 = 0 := rfl
theorem ly_cnt_t {P : Nat → Prop} {n : Nat} (h : P n) : ly_cnt P (n + 1) = ly_cnt P n + 1 := by
  show ly_cnt P n + ly_one (P n) = _
  rw [ly_one_t h]
theorem ly_cnt_f {P : Nat → Prop} {n : Nat} (h : ¬ P n) : ly_cnt P (n + 1) = ly_cnt P n := by
  show ly_cnt P n + ly_one (P n) = _
  rw [ly_one_f h]; rfl
theorem ly_cnt_le (P : Nat → Prop) (n : Nat) : ly_cnt P n ≤ n := by
  induction n with
  | zero => exact Nat.le_refl 0
  | succ n ih =>
    by_cases h : P n
    · rw [ly_cnt_t h]; omega
    · rw [ly_cnt_f h]; omega
theorem ly_cnt_mono {P Q : Nat → Prop} (n : Nat) (h : ∀ j, j < n → P j → Q j) : ly_cnt P n ≤ ly_cnt Q n := by
  induction n with
  | zero => exact Nat.le_refl 0
  | succ n ih =>
    have ih := ih (fun j hj => h j (by omega))
    by_cases hp : P n
    · rw [ly_cnt_t hp, ly_cnt_t (h n (by omega) hp)]; omega
    · rw [ly_cnt_f hp]
      by_cases hq : Q n
      · rw [ly_cnt_t hq]; omega
      · rw [ly_cnt_f hq]; omega
theorem ly_cnt_up (P : Nat → Prop) {m n : Nat} (h : m ≤ n) : ly_cnt P m ≤ ly_cnt P n := by
  induction n with
  | zero => obtain rfl : m = 0 := by omega
            exact Nat.le_refl _
  | succ n ih =>
    by_cases e : m = n + 1
    · rw [e]; exact Nat.le_refl _
    · have ih := ih (by omega)
      by_cases hp : P n
      · rw [ly_cnt_t hp]; omega
      · rw [ly_cnt_f hp]; omega
theorem ly_cnt_congr {P Q : Nat → Prop} (n : Nat) (h : ∀ j, j < n → (P j ↔ Q j)) : ly_cnt P n = ly_cnt Q n :=
  Nat.le_antisymm (ly_cnt_mono n fun j hj => (h j hj).1) (ly_cnt_mono n fun j hj => (h j hj).2)
theorem ly_cnt_lt {P Q : Nat → Prop} (n a : Nat) (h : ∀ j, j < n → P j → Q j) (ha : a < n) (hp : ¬ P a) (hq : Q a) : ly_cnt P n < ly_cnt Q n := by
  induction n with
  | zero => exact absurd ha (Nat.not_lt_zero a)
  | succ n ih =>
    by_cases e : a = n
    · subst e
      have h2 : ly_cnt P a ≤ ly_cnt Q a := ly_cnt_mono a (fun j hj => h j (by omega))
      rw [ly_cnt_f hp, ly_cnt_t hq]
      omega
    · have ih := ih (fun j hj => h j (by omega)) (by omega)
      by_cases hpn : P n
      · rw [ly_cnt_t hpn, ly_cnt_t (h n (by omega) hpn)]; omega
      · rw [ly_cnt_f hpn]
        by_cases hqn : Q n
        · rw [ly_cnt_t hqn]; omega
        · rw [ly_cnt_f hqn]; omega
theorem ly_cnt_all {P : Nat → Prop} (n : Nat) (h : ∀ j, j < n → P j) : ly_cnt P n = n := by
  induction n with
  | zero => rfl
  | succ n ih => rw [ly_cnt_t (h n (by omega)), ih (fun j hj => h j (by omega))]
theorem ly_cnt_none {P : Nat → Prop} (n : Nat) (h : ∀ j, j < n → ¬ P j) : ly_cnt P n = 0 := by
  induction n with
  | zero => rfl
  | succ n ih => rw [ly_cnt_f (h n (by omega)), ih (fun j hj => h j (by omega))]
theorem ly_cnt_ltn {P : Nat → Prop} (n a : Nat) (ha : a < n) (h : ¬ P a) : ly_cnt P n < n := by
  have h1 := ly_cnt_lt (P := P) (Q := fun _ => True) n a (fun _ _ _ => trivial) ha h trivial
  rw [ly_cnt_all (P := fun _ => True) n (fun _ _ => trivial)] at h1
  exact h1
theorem ly_cnt_full {P : Nat → Prop} (n : Nat) (e : ly_cnt P n = n) (j : Nat) (hj : j < n) : P j := by
  by_cases h : P j
  · exact h
  · have := ly_cnt_ltn n j hj h
    omega
theorem ly_cnt_add1 {P : Nat → Prop} (n a : Nat) (ha : a < n) (hp : ¬ P a) : ly_cnt (fun j => P j ∨ j = a) n = ly_cnt P n + 1 := by
  induction n with
  | zero => exact absurd ha (Nat.not_lt_zero a)
  | succ n ih =>
    by_cases e : a = n
    · subst e
      have h2 : ly_cnt (fun j => P j ∨ j = a) a = ly_cnt P a := ly_cnt_congr a (fun j hj => ⟨fun z => z.resolve_right (by omega), fun z => Or.inl z⟩)
      rw [ly_cnt_t (P := fun j => P j ∨ j = a) (Or.inr rfl), ly_cnt_f hp, h2]
    · have ih := ih (by omega)
      by_cases hn : P n
      · rw [ly_cnt_t (P := fun j => P j ∨ j = a) (Or.inl hn), ly_cnt_t hn, ih]
      · rw [ly_cnt_f (P := fun j => P j ∨ j = a) (fun z => z.elim hn (by omega)), ly_cnt_f hn, ih]
theorem ly_cnt_below (x n : Nat) (h : x ≤ n) : ly_cnt (fun y => y < x) n = x := by
  induction n with
  | zero => obtain rfl : x = 0 := by omega
            rfl
  | succ n ih =>
    by_cases e : x = n + 1
    · subst e
      exact ly_cnt_all _ (fun j hj => hj)
    · rw [ly_cnt_f (P := fun y => y < x) (by omega), ih (by omega)]
theorem ly_pigeon (n : Nat) : ∀ f : Nat → Nat, (∀ i, i < n → f i < n) → (∀ i j, i < n → j < n → f i = f j → i = j) → ∀ t, t < n → ∃ j, j < n ∧ f j = t := by
  induction n with
  | zero => exact fun f _ _ t ht => absurd ht (Nat.not_lt_zero t)
  | succ n ih =>
    intro f h1 h2 t ht
    have hS := ih (fun j => if f j = n then f n else f j) ?_ ?_
    · by_cases et : t = n
      · subst et
        by_cases ev : f t = t
        · exact ⟨t, by omega, ev⟩
        · obtain ⟨j, hj, ej⟩ := hS (f t) (by have := h1 t (by omega); omega)
          by_cases c : f j = t
          · exact ⟨j, by omega, c⟩
          · rw [if_neg c] at ej
            have := h2 j t (by omega) (by omega) ej
            omega
      · obtain ⟨j, hj, ej⟩ := hS t (by omega)
        by_cases c : f j = n
        · rw [if_pos c] at ej
          exact ⟨n, by omega, ej⟩
        · rw [if_neg c] at ej
          exact ⟨j, by omega, ej⟩
    · intro i hi
      by_cases c : f i = n
      · rw [if_pos c]
        have a := h1 n (by omega)
        have b : f n ≠ n := fun z => by
          have := h2 i n (by omega) (by omega) (c.trans z.symm)
          omega
        omega
      · rw [if_neg c]
        have a := h1 i (by omega)
        omega
    · intro i j hi hj e
      by_cases c : f i = n
      · by_cases d : f j = n
        · exact h2 i j (by omega) (by omega) (c.trans d.symm)
        · rw [if_pos c, if_neg d] at e
          have := h2 n j (by omega) (by omega) e
          omega
      · by_cases d : f j = n
        · rw [if_neg c, if_pos d] at e
          have := h2 i n (by omega) (by omega) e
          omega
        · rw [if_neg c, if_neg d] at e
          exact h2 i j (by omega) (by omega) e
/-! ranks in a strict total order -/
def ly_STO (R : Nat → Nat → Prop) (n : Nat) : Prop := (∀ p, ¬ R p p) ∧ (∀ p q r, R p q → R q r → R p r) ∧ (∀ p q, p < n → q < n → p ≠ q → R p q ∨ R q p)
noncomputable def ly_rk (R : Nat → Nat → Prop) (n p : Nat) : Nat := ly_cnt (fun q => R q p) n
theorem ly_rk_lt {R : Nat → Nat → Prop} {n p : Nat} (h : ly_STO R n) (hp : p < n) : ly_rk R n p < n := ly_cnt_ltn n p hp (h.1 p)
theorem ly_rk_mono {R : Nat → Nat → Prop} {n p q : Nat} (h : ly_STO R n) (hp : p < n) (hr : R p q) : ly_rk R n p < ly_rk R n q :=
  ly_cnt_lt n p (fun j _ hj => h.2.1 j p q hj hr) hp (h.1 p) hr
theorem ly_rk_inj {R : Nat → Nat → Prop} {n p q : Nat} (h : ly_STO R n) (hp : p < n) (hq : q < n) (e : ly_rk R n p = ly_rk R n q) : p = q := by
  by_cases c : p = q
  · exact c
  · rcases h.2.2 p q hp hq c with d | d
    · have := ly_rk_mono h hp d; omega
    · have := ly_rk_mono h hq d; omega
theorem ly_rk_surj {R : Nat → Nat → Prop} {n : Nat} (h : ly_STO R n) (r : Nat) (hr : r < n) : ∃ p, p < n ∧ ly_rk R n p = r :=
  ly_pigeon n (ly_rk R n) (fun _ hi => ly_rk_lt h hi) (fun _ _ hi hj e => ly_rk_inj h hi hj e) r hr
theorem ly_rk_ltI {R : Nat → Nat → Prop} {n p q : Nat} (h : ly_STO R n) (hp : p < n) (hq : q < n) : ly_rk R n p < ly_rk R n q ↔ R p q := by
  constructor
  · intro e
    by_cases c : p = q
    · subst c; omega
    · rcases h.2.2 p q hp hq c with d | d
      · exact d
      · have := ly_rk_mono h hq d; omega
  · exact ly_rk_mono h hp
/-! the dictionary order of the first m letters, then the smaller place -/
def ly_lex (f : Nat → Nat → Nat) (m p q : Nat) : Prop := (∃ k, k < m ∧ (∀ i, i < k → f p i = f q i) ∧ f p k < f q k) ∨ ((∀ i, i < m → f p i = f q i) ∧ p < q)
theorem ly_lex_sto (f : Nat → Nat → Nat) (m n : Nat) : ly_STO (ly_lex f m) n := by
  refine ⟨?_, ?_, ?_⟩
  · rintro p (⟨k, _, _, h⟩ | ⟨_, h⟩) <;> omega
  · rintro p q r (⟨k, k1, k2, k3⟩ | ⟨k2, k3⟩) (⟨l, l1, l2, l3⟩ | ⟨l2, l3⟩)
    · by_cases c : k < l
      · exact Or.inl ⟨k, k1, fun i hi => (k2 i hi).trans (l2 i (by omega)), by rw [← l2 k c]; exact k3⟩
      · by_cases d : k = l
        · subst d
          exact Or.inl ⟨k, k1, fun i hi => (k2 i hi).trans (l2 i hi), by omega⟩
        · exact Or.inl ⟨l, l1, fun i hi => (k2 i (by omega)).trans (l2 i hi), by rw [k2 l (by omega)]; exact l3⟩
    · exact Or.inl ⟨k, k1, fun i hi => (k2 i hi).trans (l2 i (by omega)), by rw [← l2 k k1]; exact k3⟩
    · exact Or.inl ⟨l, l1, fun i hi => (k2 i (by omega)).trans (l2 i hi), by rw [k2 l l1]; exact l3⟩
    · exact Or.inr ⟨fun i hi => (k2 i hi).trans (l2 i hi), by omega⟩
  · intro p q _ _ hne
    by_cases h : ∃ k, k < m ∧ f p k ≠ f q k
    · obtain ⟨k, ⟨k1, k2⟩, k3⟩ := pk_least _ h
      have k4 : ∀ i, i < k → f p i = f q i := fun i hi => by
        have := k3 i hi
        by_cases c : f p i = f q i
        · exact c
        · exact absurd ⟨by omega, c⟩ this
      by_cases c : f p k < f q k
      · exact Or.inl (Or.inl ⟨k, k1, k4, c⟩)
      · exact Or.inr (Or.inl ⟨k, k1, fun i hi => (k4 i hi).symm, by omega⟩)
    · have h2 : ∀ i, i < m → f p i = f q i := fun i hi => by
        by_cases c : f p i = f q i
        · exact c
        · exact absurd ⟨i, hi, c⟩ h
      by_cases c : p < q
      · exact Or.inl (Or.inr ⟨h2, c⟩)
      · exact Or.inr (Or.inr ⟨fun i hi => (h2 i hi).symm, by omega⟩)
end
section
/-! prime words, the scan, the factors, the rows -/
def ly_Lt (b : Nat → Nat) (s t e : Nat) : Prop := ∃ k, t + k < e ∧ (∀ i, i < k → b (s + i) = b (t + i)) ∧ b (s + k) < b (t + k)
def ly_Pr (b : Nat → Nat) (s e : Nat) : Prop := ∀ t, s < t → t < e → ly_Lt b s t e
def ly_Dv (b : Nat → Nat) (s p i : Nat) : Prop := 1 ≤ p ∧ s + p ≤ i ∧ ly_Pr b s (s + p) ∧ ∀ j, s + p ≤ j → j < i → b j = b (j - p)
theorem ly_at {b : Nat → Nat} {i j : Nat} (h : i = j) : b i = b j := congrArg b h
theorem ly_Dv0 (b : Nat → Nat) (s : Nat) : ly_Dv b s 1 (s + 1) :=
  ⟨Nat.le_refl 1, Nat.le_refl _, fun t h1 h2 => by omega, fun j h1 h2 => by omega⟩
theorem ly_Dv_eq {b : Nat → Nat} {s p i : Nat} (D : ly_Dv b s p i) (h : b i = b (i - p)) : ly_Dv b s p (i + 1) := by
  obtain ⟨h1, h2, h3, h4⟩ := D
  refine ⟨h1, by omega, h3, fun j a c => ?_⟩
  by_cases e : j = i
  · subst e; exact h
  · exact h4 j a (by omega)
theorem ly_Dv_pr {b : Nat → Nat} {s p i : Nat} (D : ly_Dv b s p i) (h : b (i - p) < b i) : ∀ t, s < t → t < i + 1 → ly_Lt b s t (i + 1) := by
  obtain ⟨h1, h2, h3, h4⟩ := D
  intro t
  induction t using Nat.strongRecOn with
  | ind t ih =>
    intro hs ht
    by_cases c : t < s + p
    · obtain ⟨k, k1, k2, k3⟩ := h3 t hs c
      exact ⟨k, by omega, k2, k3⟩
    · by_cases c2 : t - p = s
      · refine ⟨i - t, by omega, fun j hj => ?_, ?_⟩
        · rw [h4 (t + j) (by omega) (by omega)]
          exact ly_at (by omega)
        · have e1 : s + (i - t) = i - p := by omega
          have e2 : t + (i - t) = i := by omega
          rw [e1, e2]; exact h
      · obtain ⟨k, k1, k2, k3⟩ := ih (t - p) (by omega) (by omega) (by omega)
        by_cases c3 : t + k < i
        · refine ⟨k, by omega, fun j hj => ?_, ?_⟩
          · rw [k2 j hj, h4 (t + j) (by omega) (by omega)]
            exact ly_at (by omega)
          · rw [h4 (t + k) (by omega) (by omega)]
            have e : t + k - p = t - p + k := by omega
            rw [e]; exact k3
        · refine ⟨i - t, by omega, fun j hj => ?_, ?_⟩
          · rw [k2 j (by omega), h4 (t + j) (by omega) (by omega)]
            exact ly_at (by omega)
          · have e2 : t + (i - t) = i := by omega
            have e3 : t - p + (i - t) = i - p := by omega
            rw [e2]
            by_cases c4 : i - t = k
            · have k4 : b (s + (i - t)) < b (t - p + (i - t)) := by rw [c4]; exact k3
              rw [e3] at k4
              omega
            · have k4 := k2 (i - t) (by omega)
              rw [e3] at k4
              rw [k4]; exact h
theorem ly_Dv_gt {b : Nat → Nat} {s p i : Nat} (D : ly_Dv b s p i) (h : b (i - p) < b i) : ly_Dv b s (i - s + 1) (i + 1) := by
  have hp := ly_Dv_pr D h
  obtain ⟨h1, h2, h3, h4⟩ := D
  have e : s + (i - s + 1) = i + 1 := by omega
  exact ⟨by omega, by omega, by rw [e]; exact hp, fun j a c => by omega⟩
theorem ly_Dv_no {b : Nat → Nat} {s p i : Nat} (D : ly_Dv b s p i) (l : Nat) (h : s + p < l) (hl : l ≤ i) : ¬ ly_Pr b s l := by
  obtain ⟨h1, h2, h3, h4⟩ := D
  intro hp
  obtain ⟨k, k1, k2, k3⟩ := hp (s + p) (by omega) h
  have h5 := h4 (s + p + k) (by omega) (by omega)
  have e : s + p + k - p = s + k := by omega
  rw [e] at h5
  omega
theorem ly_Dv_stop {b : Nat → Nat} {s p i : Nat} (D : ly_Dv b s p i) (h : b i < b (i - p)) (l : Nat) (hl : i < l) : ¬ ly_Pr b s l := by
  obtain ⟨h1, h2, h3, h4⟩ := D
  intro hp
  obtain ⟨k, k1, k2, k3⟩ := hp (s + p) (by omega) (by omega)
  by_cases c : s + p + k < i
  · have h5 := h4 (s + p + k) (by omega) c
    have e : s + p + k - p = s + k := by omega
    rw [e] at h5
    omega
  · by_cases d : s + p + k = i
    · have e : s + k = i - p := by omega
      rw [d, e] at k3
      omega
    · have h5 := k2 (i - s - p) (by omega)
      have e1 : s + (i - s - p) = i - p := by omega
      have e2 : s + p + (i - s - p) = i := by omega
      rw [e1, e2] at h5
      omega
/-- e ends the longest prime word that begins at s -/
def ly_isE (b : Nat → Nat) (n s e : Nat) : Prop := s < e ∧ e ≤ n ∧ ly_Pr b s e ∧ ∀ l, e < l → l ≤ n → ¬ ly_Pr b s l
theorem ly_isE_uniq {b : Nat → Nat} {n s e f : Nat} (h : ly_isE b n s e) (g : ly_isE b n s f) : e = f := by
  by_cases c : e < f
  · exact absurd g.2.2.1 (h.2.2.2 f c g.2.1)
  · by_cases d : f < e
    · exact absurd h.2.2.1 (g.2.2.2 e d h.2.1)
    · omega
theorem ly_Pr1 (b : Nat → Nat) (s : Nat) : ly_Pr b s (s + 1) := fun t h1 h2 => by omega
theorem ly_isE_ex (b : Nat → Nat) (n s : Nat) (h : s < n) : ∃ e, ly_isE b n s e := by
  induction n with
  | zero => omega
  | succ n ih =>
    by_cases c : ly_Pr b s (n + 1)
    · exact ⟨n + 1, h, Nat.le_refl _, c, fun l a d => by omega⟩
    · by_cases e : s = n
      · subst e
        exact absurd (ly_Pr1 b s) c
      · obtain ⟨e, e1, e2, e3, e4⟩ := ih (by omega)
        refine ⟨e, e1, by omega, e3, fun l a d => ?_⟩
        by_cases f : l = n + 1
        · rw [f]; exact c
        · exact e4 l a (by omega)
noncomputable def ly_E (b : Nat → Nat) (n s : Nat) : Nat := Classical.epsilon (ly_isE b n s)
theorem ly_E_is (b : Nat → Nat) {n s : Nat} (h : s < n) : ly_isE b n s (ly_E b n s) := Classical.epsilon_spec (ly_isE_ex b n s h)
theorem ly_E_eq {b : Nat → Nat} {n s e : Nat} (h : ly_isE b n s e) : ly_E b n s = e := ly_isE_uniq (ly_E_is b (by have := h.1; have := h.2.1; omega)) h
theorem ly_E_dv {b : Nat → Nat} {n s p i : Nat} (D : ly_Dv b s p i) (hi : i ≤ n) (h : i = n ∨ b i < b (i - p)) : ly_E b n s = s + p := by
  refine ly_E_eq ⟨by have := D.1; omega, by have := D.2.1; omega, D.2.2.1, fun l a c => ?_⟩
  by_cases d : l ≤ i
  · exact ly_Dv_no D l a d
  · rcases h with h | h
    · omega
    · exact ly_Dv_stop D h l (by omega)
/-- the factor of p: st p .. en p - 1 -/
noncomputable def ly_st (b : Nat → Nat) (n : Nat) : Nat → Nat
  | 0 => 0
  | p + 1 => if p + 1 = ly_E b n (ly_st b n p) then p + 1 else ly_st b n p
noncomputable def ly_en (b : Nat → Nat) (n p : Nat) : Nat := ly_E b n (ly_st b n p)
theorem ly_st_t {b : Nat → Nat} {n p : Nat} (h : p + 1 = ly_en b n p) : ly_st b n (p + 1) = p + 1 := if_pos h
theorem ly_st_f {b : Nat → Nat} {n p : Nat} (h : ¬ p + 1 = ly_en b n p) : ly_st b n (p + 1) = ly_st b n p := if_neg h
theorem ly_st_in (b : Nat → Nat) {n p : Nat} (h : p < n) : ly_st b n p ≤ p ∧ p < ly_en b n p ∧ ly_en b n p ≤ n := by
  induction p with
  | zero =>
    have a := ly_E_is b (n := n) (s := 0) h
    exact ⟨Nat.le_refl 0, a.1, a.2.1⟩
  | succ p ih =>
    obtain ⟨h1, h2, h3⟩ := ih (by omega)
    by_cases c : p + 1 = ly_en b n p
    · have a := ly_E_is b (n := n) (s := p + 1) h
      unfold ly_en
      rw [ly_st_t c]
      exact ⟨Nat.le_refl _, a.1, a.2.1⟩
    · have e : ly_en b n (p + 1) = ly_en b n p := by unfold ly_en; rw [ly_st_f c]
      rw [e, ly_st_f c]
      exact ⟨by omega, by omega, h3⟩
theorem ly_st_st (b : Nat → Nat) (n p : Nat) : ly_st b n (ly_st b n p) = ly_st b n p := by
  induction p with
  | zero => rfl
  | succ p ih =>
    by_cases c : p + 1 = ly_en b n p
    · rw [ly_st_t c, ly_st_t c]
    · rw [ly_st_f c]; exact ih
theorem ly_st_up (b : Nat → Nat) (n p : Nat) : ∀ d, p + d < ly_en b n p → ly_st b n (p + d) = ly_st b n p := by
  intro d
  induction d with
  | zero => exact fun _ => rfl
  | succ d ih =>
    intro h
    have ih := ih (by omega)
    have e : ly_en b n (p + d) = ly_en b n p := by unfold ly_en; rw [ih]
    have := ly_st_f (b := b) (n := n) (p := p + d) (by rw [e]; omega)
    rw [← Nat.add_assoc, this]; exact ih
theorem ly_st_same {b : Nat → Nat} {n p u : Nat} (h1 : ly_st b n p ≤ u) (h2 : u < ly_en b n p) : ly_st b n u = ly_st b n p := by
  have e : ly_en b n (ly_st b n p) = ly_en b n p := by unfold ly_en; rw [ly_st_st]
  have := ly_st_up b n (ly_st b n p) (u - ly_st b n p) (by rw [e]; omega)
  rw [ly_st_st] at this
  rw [← this]
  exact congrArg (ly_st b n) (by omega)
theorem ly_en_same {b : Nat → Nat} {n p u : Nat} (h1 : ly_st b n p ≤ u) (h2 : u < ly_en b n p) : ly_en b n u = ly_en b n p := by
  unfold ly_en; rw [ly_st_same h1 h2]
/-- where the next factor must begin when all before p is cut -/
noncomputable def ly_pe (b : Nat → Nat) (n : Nat) : Nat → Nat
  | 0 => 0
  | p + 1 => ly_en b n p
noncomputable def ly_ps (b : Nat → Nat) (n : Nat) : Nat → Nat
  | 0 => 0
  | p + 1 => ly_st b n p
theorem ly_st_pe_t {b : Nat → Nat} {n p : Nat} (h : p = ly_pe b n p) : ly_st b n p = p := by
  cases p with
  | zero => rfl
  | succ p => exact ly_st_t h
theorem ly_st_pe_f {b : Nat → Nat} {n p : Nat} (h : ¬ p = ly_pe b n p) : ly_st b n p = ly_ps b n p ∧ ly_en b n p = ly_pe b n p := by
  cases p with
  | zero => exact absurd rfl h
  | succ p =>
    have e : ly_st b n (p + 1) = ly_st b n p := ly_st_f h
    refine ⟨e, ?_⟩
    show ly_E b n (ly_st b n (p + 1)) = _
    rw [e]; rfl
theorem ly_st_pe_ne {b : Nat → Nat} {n p : Nat} (hp : p < n) (h : ¬ p = ly_pe b n p) : ¬ ly_st b n p = p := by
  cases p with
  | zero => exact absurd rfl h
  | succ p =>
    have e : ly_st b n (p + 1) = ly_st b n p := ly_st_f h
    have := (ly_st_in b (n := n) (p := p) (by omega)).1
    omega
theorem ly_pe_le {b : Nat → Nat} {n p : Nat} (hp : p < n) : p ≤ ly_pe b n p ∧ ly_pe b n p ≤ n := by
  cases p with
  | zero => exact ⟨Nat.le_refl 0, Nat.zero_le _⟩
  | succ p =>
    have := (ly_st_in b (n := n) (p := p) (by omega)).2
    exact ⟨this.1, this.2⟩
/-- round and round in the factor -/
noncomputable def ly_nx (b : Nat → Nat) (n p : Nat) : Nat := if p + 1 = ly_en b n p then ly_st b n p else p + 1
theorem ly_nx_in (b : Nat → Nat) {n p : Nat} (h : p < n) : ly_st b n p ≤ ly_nx b n p ∧ ly_nx b n p < ly_en b n p := by
  have h1 := ly_st_in b h
  unfold ly_nx
  by_cases c : p + 1 = ly_en b n p
  · rw [if_pos c]; omega
  · rw [if_neg c]; omega
noncomputable def ly_pos (b : Nat → Nat) (n p : Nat) : Nat → Nat
  | 0 => p
  | k + 1 => ly_nx b n (ly_pos b n p k)
theorem ly_pos_in (b : Nat → Nat) {n p : Nat} (h : p < n) (k : Nat) : ly_st b n p ≤ ly_pos b n p k ∧ ly_pos b n p k < ly_en b n p := by
  induction k with
  | zero => exact ⟨(ly_st_in b h).1, (ly_st_in b h).2.1⟩
  | succ k ih =>
    have hl : ly_pos b n p k < n := by have := (ly_st_in b h).2.2; omega
    have := ly_nx_in b hl
    rw [ly_st_same ih.1 ih.2, ly_en_same ih.1 ih.2] at this
    exact this
theorem ly_pos_lt (b : Nat → Nat) {n p : Nat} (h : p < n) (k : Nat) : ly_pos b n p k < n := by
  have h1 := ly_pos_in b h k
  have h2 := (ly_st_in b h).2.2
  omega
theorem ly_pos_nx (b : Nat → Nat) {n p : Nat} (h : p < n) (k : Nat) : ly_pos b n p (k + 1) = if ly_pos b n p k + 1 = ly_en b n p then ly_st b n p else ly_pos b n p k + 1 := by
  have h1 := ly_pos_in b h k
  show ly_nx b n (ly_pos b n p k) = _
  unfold ly_nx
  rw [ly_st_same h1.1 h1.2, ly_en_same h1.1 h1.2]
def ly_bf (b : Nat → Nat) (n : Nat) : Nat → Nat → Prop := ly_lex (fun p k => b (ly_pos b n p k)) 48
theorem ly_bf_sto (b : Nat → Nat) (n : Nat) : ly_STO (ly_bf b n) n := ly_lex_sto _ 48 n
noncomputable def ly_row (b : Nat → Nat) (n r : Nat) : Nat := Classical.epsilon (fun p => p < n ∧ ly_rk (ly_bf b n) n p = r)
theorem ly_row_is (b : Nat → Nat) {n r : Nat} (h : r < n) : ly_row b n r < n ∧ ly_rk (ly_bf b n) n (ly_row b n r) = r := Classical.epsilon_spec (ly_rk_surj (ly_bf_sto b n) r h)
theorem ly_row_eq {b : Nat → Nat} {n p : Nat} (h : p < n) : ly_row b n (ly_rk (ly_bf b n) n p) = p :=
  have h1 := ly_row_is b (ly_rk_lt (ly_bf_sto b n) h)
  ly_rk_inj (ly_bf_sto b n) h1.1 h h1.2
/-- the last letter of p, the transformed block, the number of factors -/
noncomputable def ly_ll (b : Nat → Nat) (n p : Nat) : Nat := if p = ly_st b n p then b (ly_en b n p - 1) else b (p - 1)
noncomputable def ly_T (b : Nat → Nat) (n r : Nat) : Nat := if r < n then ly_ll b n (ly_row b n r) else 0
theorem ly_T_at (b : Nat → Nat) {n r : Nat} (h : r < n) : ly_T b n r = ly_ll b n (ly_row b n r) := if_pos h
theorem ly_T_out (b : Nat → Nat) {n r : Nat} (h : n ≤ r) : ly_T b n r = 0 := if_neg (by omega)
noncomputable def ly_fc (b : Nat → Nat) (n : Nat) : Nat → Nat := ly_cnt (fun p => ly_st b n p = p)
theorem ly_ll_lt {b : Nat → Nat} {n p K : Nat} (hb : ∀ j, j < n → b j < K) (h : p < n) : ly_ll b n p < K := by
  have h1 := ly_st_in b h
  unfold ly_ll
  by_cases c : p = ly_st b n p
  · rw [if_pos c]; exact hb _ (by omega)
  · rw [if_neg c]; exact hb _ (by omega)
theorem ly_T_lt {b : Nat → Nat} {n r K : Nat} (hb : ∀ j, j < n → b j < K) (h : r < n) : ly_T b n r < K := by
  rw [ly_T_at b h]
  exact ly_ll_lt hb (ly_row_is b h).1
/-- nothing of all this looks beyond n -/
theorem ly_Lt_congr {b c : Nat → Nat} {n s t e : Nat} (h : ∀ j, j < n → b j = c j) (hs : s ≤ t) (he : e ≤ n) (H : ly_Lt b s t e) : ly_Lt c s t e := by
  obtain ⟨k, k1, k2, k3⟩ := H
  refine ⟨k, k1, fun i hi => ?_, ?_⟩
  · rw [← h _ (by omega), ← h _ (by omega)]; exact k2 i hi
  · rw [← h _ (by omega), ← h _ (by omega)]; exact k3
theorem ly_Pr_congr {b c : Nat → Nat} {n s e : Nat} (h : ∀ j, j < n → b j = c j) (he : e ≤ n) (H : ly_Pr b s e) : ly_Pr c s e :=
  fun t h1 h2 => ly_Lt_congr h (by omega) he (H t h1 h2)
end
section
/-! the order by letter and place, its permutation, the cycles -/
def ly_gR (b : Nat → Nat) (j i : Nat) : Prop := b j < b i ∨ (b j = b i ∧ j < i)
theorem ly_gR_sto (b : Nat → Nat) (n : Nat) : ly_STO (ly_gR b) n := by
  refine ⟨fun p h => ?_, fun p q r h1 h2 => ?_, fun p q _ _ h => ?_⟩
  · unfold ly_gR at h; omega
  · unfold ly_gR at *; omega
  · unfold ly_gR; omega
def ly_perm (g : Nat → Nat) (n : Nat) : Prop := (∀ i, i < n → g i < n) ∧ (∀ i j, i < n → j < n → g i = g j → i = j)
theorem ly_g_perm (b : Nat → Nat) (n : Nat) : ly_perm (ly_rk (ly_gR b) n) n :=
  ⟨fun _ hi => ly_rk_lt (ly_gR_sto b n) hi, fun _ _ hi hj e => ly_rk_inj (ly_gR_sto b n) hi hj e⟩
def ly_it (g : Nat → Nat) (a : Nat) : Nat → Nat
  | 0 => a
  | k + 1 => g (ly_it g a k)
theorem ly_it_lt {g : Nat → Nat} {n a : Nat} (h : ly_perm g n) (ha : a < n) (k : Nat) : ly_it g a k < n := by
  induction k with
  | zero => exact ha
  | succ k ih => exact h.1 _ ih
theorem ly_it_add (g : Nat → Nat) (a k l : Nat) : ly_it g a (k + l) = ly_it g (ly_it g a k) l := by
  induction l with
  | zero => rfl
  | succ l ih =>
    show g (ly_it g a (k + l)) = g (ly_it g (ly_it g a k) l)
    rw [ih]
theorem ly_it_inj {g : Nat → Nat} {n : Nat} (h : ly_perm g n) (k : Nat) : ∀ x y, x < n → y < n → ly_it g x k = ly_it g y k → x = y := by
  induction k with
  | zero => exact fun x y _ _ e => e
  | succ k ih => exact fun x y hx hy e => ih x y hx hy (h.2 _ _ (ly_it_lt h hx k) (ly_it_lt h hy k) e)
theorem ly_it_sub {g : Nat → Nat} {n a i j : Nat} (h : ly_perm g n) (ha : a < n) (hij : i ≤ j) (e : ly_it g a i = ly_it g a j) : ly_it g a (j - i) = a := by
  have e2 : j = (j - i) + i := by omega
  rw [e2, ly_it_add g a (j - i) i] at e
  exact (ly_it_inj h i a (ly_it g a (j - i)) ha (ly_it_lt h ha _) e).symm
theorem ly_cyc_ex {g : Nat → Nat} {n a : Nat} (h : ly_perm g n) (ha : a < n) : ∃ L, 1 ≤ L ∧ L ≤ n ∧ ly_it g a L = a := by
  by_cases c : ∃ L, 1 ≤ L ∧ L ≤ n ∧ ly_it g a L = a
  · exact c
  · have hinj : ∀ i j, i < n → j < n → ly_it g a i = ly_it g a j → i = j := by
      intro i j hi hj e
      by_cases d : i = j
      · exact d
      · by_cases l : i < j
        · exact absurd ⟨j - i, by omega, by omega, ly_it_sub h ha (by omega) e⟩ c
        · exact absurd ⟨i - j, by omega, by omega, ly_it_sub h ha (by omega) e.symm⟩ c
    obtain ⟨j, hj, ej⟩ := ly_pigeon n (ly_it g a) (fun i _ => ly_it_lt h ha i) hinj (ly_it g a n) (ly_it_lt h ha n)
    exact ⟨n - j, by omega, by omega, ly_it_sub h ha (by omega) ej⟩
def ly_isL (g : Nat → Nat) (a L : Nat) : Prop := (1 ≤ L ∧ ly_it g a L = a) ∧ ∀ j, j < L → ¬ (1 ≤ j ∧ ly_it g a j = a)
theorem ly_isL_ex {g : Nat → Nat} {n a : Nat} (h : ly_perm g n) (ha : a < n) : ∃ L, ly_isL g a L := by
  obtain ⟨L, h1, _, h3⟩ := ly_cyc_ex h ha
  exact pk_least (fun L => 1 ≤ L ∧ ly_it g a L = a) ⟨L, h1, h3⟩
noncomputable def ly_len (g : Nat → Nat) (a : Nat) : Nat := Classical.epsilon (ly_isL g a)
theorem ly_len_is {g : Nat → Nat} {n a : Nat} (h : ly_perm g n) (ha : a < n) : ly_isL g a (ly_len g a) := Classical.epsilon_spec (ly_isL_ex h ha)
theorem ly_len_pos {g : Nat → Nat} {n a : Nat} (h : ly_perm g n) (ha : a < n) : 1 ≤ ly_len g a := (ly_len_is h ha).1.1
theorem ly_len_it {g : Nat → Nat} {n a : Nat} (h : ly_perm g n) (ha : a < n) : ly_it g a (ly_len g a) = a := (ly_len_is h ha).1.2
theorem ly_len_min {g : Nat → Nat} {n a j : Nat} (h : ly_perm g n) (ha : a < n) (h1 : 1 ≤ j) (e : ly_it g a j = a) : ly_len g a ≤ j := by
  by_cases c : j < ly_len g a
  · exact absurd ⟨h1, e⟩ ((ly_len_is h ha).2 j c)
  · omega
theorem ly_len_le {g : Nat → Nat} {n a : Nat} (h : ly_perm g n) (ha : a < n) : ly_len g a ≤ n := by
  obtain ⟨L, h1, h2, h3⟩ := ly_cyc_ex h ha
  have := ly_len_min h ha h1 h3
  omega
theorem ly_len_ne {g : Nat → Nat} {n a i j : Nat} (h : ly_perm g n) (ha : a < n) (hij : i < j) (hj : j < ly_len g a) : ly_it g a i ≠ ly_it g a j := by
  intro e
  have := ly_len_min h ha (by omega) (ly_it_sub h ha (by omega) e)
  omega
/-! orbits -/
def ly_O (g : Nat → Nat) (a j : Nat) : Prop := ∃ k, ly_it g a k = j
theorem ly_O_k (g : Nat → Nat) (a k : Nat) : ly_O g a (ly_it g a k) := ⟨k, rfl⟩
theorem ly_O_tr {g : Nat → Nat} {a j l : Nat} (h1 : ly_O g a j) (h2 : ly_O g j l) : ly_O g a l := by
  obtain ⟨k, rfl⟩ := h1
  obtain ⟨m, rfl⟩ := h2
  exact ⟨k + m, ly_it_add g a k m⟩
theorem ly_O_lt {g : Nat → Nat} {n a j : Nat} (h : ly_perm g n) (ha : a < n) (H : ly_O g a j) : ∃ k, k < ly_len g a ∧ ly_it g a k = j := by
  obtain ⟨k, hk⟩ := H
  induction k using Nat.strongRecOn with
  | ind k ih =>
    by_cases c : k < ly_len g a
    · exact ⟨k, c, hk⟩
    · have h1 := ly_len_pos h ha
      refine ih (k - ly_len g a) (by omega) ?_
      have e : k = ly_len g a + (k - ly_len g a) := by omega
      rw [e, ly_it_add, ly_len_it h ha] at hk
      exact hk
theorem ly_O_sym {g : Nat → Nat} {n a j : Nat} (h : ly_perm g n) (ha : a < n) (H : ly_O g a j) : ly_O g j a := by
  obtain ⟨k, hk, rfl⟩ := ly_O_lt h ha H
  refine ⟨ly_len g a - k, ?_⟩
  rw [← ly_it_add]
  have e : k + (ly_len g a - k) = ly_len g a := by omega
  rw [e, ly_len_it h ha]
theorem ly_O_in {g : Nat → Nat} {n a j : Nat} (h : ly_perm g n) (ha : a < n) (H : ly_O g a j) : j < n := by
  obtain ⟨k, rfl⟩ := H
  exact ly_it_lt h ha k
/-- visited when all cycles with a member below i have been walked -/
def ly_V (g : Nat → Nat) (i j : Nat) : Prop := ∃ a, a < i ∧ ly_O g a j
theorem ly_V_0 (g : Nat → Nat) (j : Nat) : ¬ ly_V g 0 j := fun ⟨a, h, _⟩ => Nat.not_lt_zero a h
theorem ly_V_s (g : Nat → Nat) (i j : Nat) : ly_V g (i + 1) j ↔ (ly_V g i j ∨ ly_O g i j) := by
  constructor
  · rintro ⟨a, h1, h2⟩
    by_cases c : a = i
    · subst c; exact Or.inr h2
    · exact Or.inl ⟨a, by omega, h2⟩
  · rintro (⟨a, h1, h2⟩ | h)
    · exact ⟨a, by omega, h2⟩
    · exact ⟨i, by omega, h⟩
theorem ly_V_back {g : Nat → Nat} {n i a j : Nat} (h : ly_perm g n) (ha : a < n) (H : ly_O g a j) (v : ly_V g i j) : ly_V g i a := by
  obtain ⟨c, h1, h2⟩ := v
  exact ⟨c, h1, ly_O_tr h2 (ly_O_sym h ha H)⟩
theorem ly_V_old {g : Nat → Nat} {i : Nat} (v : ly_V g i i) (j : Nat) : ly_V g (i + 1) j ↔ ly_V g i j := by
  rw [ly_V_s]
  constructor
  · rintro (h | h)
    · exact h
    · obtain ⟨c, h1, h2⟩ := v
      exact ⟨c, h1, ly_O_tr h2 h⟩
  · exact Or.inl
theorem ly_V_n {g : Nat → Nat} {n j : Nat} (hj : j < n) : ly_V g n j := ⟨j, hj, 0, rfl⟩
/-- not visited: the smallest of its cycle -/
theorem ly_V_sm {g : Nat → Nat} {n a : Nat} (h : ly_perm g n) (ha : a < n) : ¬ ly_V g a a ↔ ∀ k, k < ly_len g a → a ≤ ly_it g a k := by
  constructor
  · intro hv k hk
    by_cases c : a ≤ ly_it g a k
    · exact c
    · exact absurd ⟨ly_it g a k, by omega, ly_O_sym h ha (ly_O_k g a k)⟩ hv
  · rintro H ⟨c, h1, h2⟩
    have hc : c < n := by omega
    obtain ⟨k, hk, e⟩ := ly_O_lt h ha (ly_O_sym h hc h2)
    have := H k hk
    omega
/-- in the midst of a walk: k cells of the cycle of i are done -/
def ly_Vk (g : Nat → Nat) (i k j : Nat) : Prop := ly_V g i j ∨ ∃ l, l < k ∧ ly_it g i l = j
theorem ly_Vk_0 (g : Nat → Nat) (i j : Nat) : ly_Vk g i 0 j ↔ ly_V g i j :=
  ⟨fun h => h.elim id (fun ⟨l, hl, _⟩ => absurd hl (Nat.not_lt_zero l)), Or.inl⟩
theorem ly_Vk_s (g : Nat → Nat) (i k j : Nat) : ly_Vk g i (k + 1) j ↔ (ly_Vk g i k j ∨ j = ly_it g i k) := by
  constructor
  · rintro (h | ⟨l, h1, h2⟩)
    · exact Or.inl (Or.inl h)
    · by_cases c : l = k
      · subst c; exact Or.inr h2.symm
      · exact Or.inl (Or.inr ⟨l, by omega, h2⟩)
  · rintro ((h | ⟨l, h1, h2⟩) | h)
    · exact Or.inl h
    · exact Or.inr ⟨l, by omega, h2⟩
    · exact Or.inr ⟨k, by omega, h.symm⟩
theorem ly_Vk_new {g : Nat → Nat} {n i k : Nat} (h : ly_perm g n) (hi : i < n) (hv : ¬ ly_V g i i) (hk : k < ly_len g i) : ¬ ly_Vk g i k (ly_it g i k) := by
  rintro (v | ⟨l, h1, h2⟩)
  · exact hv (ly_V_back h hi (ly_O_k g i k) v)
  · exact ly_len_ne h hi h1 hk h2
theorem ly_Vk_end {g : Nat → Nat} {n i : Nat} (h : ly_perm g n) (hi : i < n) : ly_Vk g i (ly_len g i) (ly_it g i (ly_len g i)) :=
  Or.inr ⟨0, ly_len_pos h hi, (ly_len_it h hi).symm⟩
theorem ly_Vk_L {g : Nat → Nat} {n i : Nat} (h : ly_perm g n) (hi : i < n) (j : Nat) : ly_Vk g i (ly_len g i) j ↔ ly_V g (i + 1) j := by
  rw [ly_V_s]
  constructor
  · rintro (v | ⟨l, h1, h2⟩)
    · exact Or.inl v
    · exact Or.inr ⟨l, h2⟩
  · rintro (v | v)
    · exact Or.inl v
    · exact Or.inr (ly_O_lt h hi v)
theorem ly_Vk_cnt {g : Nat → Nat} {n i : Nat} (h : ly_perm g n) (hi : i < n) (hv : ¬ ly_V g i i) : ∀ k, k ≤ ly_len g i → ly_cnt (ly_Vk g i k) n = ly_cnt (ly_V g i) n + k := by
  intro k
  induction k with
  | zero => exact fun _ => ly_cnt_congr n (fun j _ => ly_Vk_0 g i j)
  | succ k ih =>
    intro hk
    have e1 : ly_cnt (ly_Vk g i (k + 1)) n = ly_cnt (fun j => ly_Vk g i k j ∨ j = ly_it g i k) n := ly_cnt_congr n (fun j _ => ly_Vk_s g i k j)
    rw [e1, ly_cnt_add1 n _ (ly_it_lt h hi k) (ly_Vk_new h hi hv (by omega)), ih (by omega)]
    omega
/-- how many cells are unwritten at the head of turn i -/
noncomputable def ly_U (g : Nat → Nat) (n i : Nat) : Nat := n - ly_cnt (ly_V g i) n
theorem ly_U_le (g : Nat → Nat) (n i : Nat) : ly_U g n i ≤ n := Nat.sub_le _ _
theorem ly_U_0 (g : Nat → Nat) (n : Nat) : ly_U g n 0 = n := by
  unfold ly_U
  rw [ly_cnt_none n (fun j _ => ly_V_0 g j)]; rfl
theorem ly_U_n (g : Nat → Nat) (n : Nat) : ly_U g n n = 0 := by
  unfold ly_U
  rw [ly_cnt_all n (fun j hj => ly_V_n hj)]; omega
theorem ly_U_old {g : Nat → Nat} {n i : Nat} (v : ly_V g i i) : ly_U g n (i + 1) = ly_U g n i := by
  unfold ly_U
  rw [ly_cnt_congr n (fun j _ => ly_V_old v j)]
theorem ly_U_new {g : Nat → Nat} {n i : Nat} (h : ly_perm g n) (hi : i < n) (hv : ¬ ly_V g i i) : ly_U g n i = ly_U g n (i + 1) + ly_len g i := by
  unfold ly_U
  have e1 : ly_cnt (ly_V g (i + 1)) n = ly_cnt (ly_V g i) n + ly_len g i := by
    rw [← ly_Vk_cnt h hi hv _ (Nat.le_refl _)]
    exact ly_cnt_congr n (fun j _ => (ly_Vk_L h hi j).symm)
  have e2 := ly_cnt_le (ly_V g (i + 1)) n
  omega
theorem ly_U_mono {g : Nat → Nat} {n : Nat} (i j : Nat) (hij : i ≤ j) : ly_U g n j ≤ ly_U g n i := by
  unfold ly_U
  have := ly_cnt_mono (P := ly_V g i) (Q := ly_V g j) n (fun l _ ⟨a, h1, h2⟩ => ⟨a, by omega, h2⟩)
  omega
/-- what the new block holds -/
def ly_isR (b : Nat → Nat) (g : Nat → Nat) (n i : Nat) (R : Nat → Nat) : Prop := ∀ a, a < i → ¬ ly_V g a a → ∀ k, k < ly_len g a → R (ly_U g n a - 1 - k) = b (ly_it g a k)
theorem ly_isR_ex {b g : Nat → Nat} {n K : Nat} (h : ly_perm g n) (hK : 0 < K) (hb : ∀ j, j < n → b j < K) : ∀ i, i ≤ n → ∃ R : Nat → Nat, ly_isR b g n i R ∧ ∀ j, R j < K := by
  intro i
  induction i with
  | zero => exact fun _ => ⟨fun _ => 0, fun a ha => absurd ha (Nat.not_lt_zero a), fun _ => hK⟩
  | succ i ih =>
    intro hi
    obtain ⟨R, h1, h2⟩ := ih (by omega)
    refine ⟨fun p => if ly_U g n i ≤ p then R p else b (ly_it g i (ly_U g n i - 1 - p)), fun a ha hv k hk => ?_, fun j => ?_⟩
    · dsimp only
      have hn := ly_U_new h (i := a) (by omega) hv
      by_cases c : a = i
      · subst c
        rw [if_neg (by omega)]
        exact congrArg (fun x => b (ly_it g a x)) (by omega)
      · have hm := ly_U_mono (g := g) (n := n) (a + 1) i (by omega)
        rw [if_pos (by omega)]
        exact h1 a (by omega) hv k hk
    · dsimp only
      by_cases c : ly_U g n i ≤ j
      · rw [if_pos c]; exact h2 j
      · rw [if_neg c]; exact hb _ (ly_it_lt h (by omega) _)
/-- every cell is a cell of some cycle's word -/
theorem ly_cover {g : Nat → Nat} {n : Nat} (h : ly_perm g n) : ∀ i, i ≤ n → ∀ p, ly_U g n i ≤ p → p < n → ∃ a, a < i ∧ ¬ ly_V g a a ∧ ∃ k, k < ly_len g a ∧ p = ly_U g n a - 1 - k := by
  intro i
  induction i with
  | zero => intro _ p h1 h2; rw [ly_U_0] at h1; omega
  | succ i ih =>
    intro hi p h1 h2
    by_cases c : ly_U g n i ≤ p
    · obtain ⟨a, ha, r⟩ := ih (by omega) p c h2
      exact ⟨a, by omega, r⟩
    · by_cases v : ly_V g i i
      · rw [ly_U_old v] at h1; omega
      · have := ly_U_new h (i := i) (by omega) v
        exact ⟨i, by omega, v, ly_U g n i - 1 - p, by omega, by omega⟩
theorem ly_isR_uniq {b g R S : Nat → Nat} {n : Nat} (h : ly_perm g n) (h1 : ly_isR b g n n R) (h2 : ly_isR b g n n S) (p : Nat) (hp : p < n) : R p = S p := by
  obtain ⟨a, ha, v, k, hk, rfl⟩ := ly_cover h n (Nat.le_refl n) p (by rw [ly_U_n]; omega) hp
  rw [h1 a ha v k hk, h2 a ha v k hk]
noncomputable def ly_cc (g : Nat → Nat) : Nat → Nat := ly_cnt (fun a => ¬ ly_V g a a)
end
section
/-! recent symbols: when a symbol was moved last, and its place -/
def ly_lm (t : Nat → Nat) (s : Nat) : Nat → Int
  | 0 => -1 - (s : Int)
  | i + 1 => if t i = s then (i : Int) else ly_lm t s i
theorem ly_lm_0 (t : Nat → Nat) (s : Nat) : ly_lm t s 0 = -1 - (s : Int) := rfl
theorem ly_lm_t {t : Nat → Nat} {s i : Nat} (h : t i = s) : ly_lm t s (i + 1) = (i : Int) := if_pos h
theorem ly_lm_f {t : Nat → Nat} {s i : Nat} (h : ¬ t i = s) : ly_lm t s (i + 1) = ly_lm t s i := if_neg h
theorem ly_lm_is (t : Nat → Nat) (s i : Nat) : ly_lm t s i = -1 - (s : Int) ∨ ∃ j, j < i ∧ t j = s ∧ ly_lm t s i = (j : Int) := by
  induction i with
  | zero => exact Or.inl rfl
  | succ i ih =>
    by_cases c : t i = s
    · exact Or.inr ⟨i, by omega, c, ly_lm_t c⟩
    · rw [ly_lm_f c]
      rcases ih with h | ⟨j, h1, h2, h3⟩
      · exact Or.inl h
      · exact Or.inr ⟨j, by omega, h2, h3⟩
theorem ly_lm_lt (t : Nat → Nat) (s i : Nat) : ly_lm t s i < (i : Int) := by
  rcases ly_lm_is t s i with h | ⟨j, h1, _, h3⟩ <;> omega
theorem ly_lm_ge (t : Nat → Nat) (s i : Nat) : -1 - (s : Int) ≤ ly_lm t s i := by
  rcases ly_lm_is t s i with h | ⟨j, h1, _, h3⟩ <;> omega
theorem ly_lm_inj {t : Nat → Nat} {x y i : Nat} (h : ly_lm t x i = ly_lm t y i) : x = y := by
  rcases ly_lm_is t x i with h1 | ⟨j, h1, h2, h3⟩ <;> rcases ly_lm_is t y i with k1 | ⟨l, k1, k2, k3⟩
  · omega
  · omega
  · omega
  · obtain rfl : j = l := by omega
    omega
theorem ly_lm_congr {t u : Nat → Nat} {s i : Nat} (h : ∀ j, j < i → t j = u j) : ly_lm t s i = ly_lm u s i := by
  induction i with
  | zero => rfl
  | succ i ih =>
    have ih := ih (fun j hj => h j (by omega))
    have e := h i (by omega)
    by_cases c : t i = s
    · rw [ly_lm_t c, ly_lm_t (e.symm.trans c)]
    · rw [ly_lm_f c, ly_lm_f (fun z => c (e.trans z)), ih]
def ly_mR (t : Nat → Nat) (i x y : Nat) : Prop := ly_lm t y i < ly_lm t x i
theorem ly_mR_sto (t : Nat → Nat) (i K : Nat) : ly_STO (ly_mR t i) K := by
  refine ⟨fun p h => ?_, fun p q r h1 h2 => ?_, fun p q _ _ h => ?_⟩
  · unfold ly_mR at h; omega
  · unfold ly_mR at *; omega
  · unfold ly_mR
    have h2 : ly_lm t p i ≠ ly_lm t q i := fun e => h (ly_lm_inj e)
    omega
/-- the place of x in the list at step i -/
noncomputable def ly_pl (t : Nat → Nat) (K i x : Nat) : Nat := ly_rk (ly_mR t i) K x
theorem ly_pl_congr {t u : Nat → Nat} {K i x : Nat} (h : ∀ j, j < i → t j = u j) : ly_pl t K i x = ly_pl u K i x :=
  ly_cnt_congr K (fun y _ => by unfold ly_mR; rw [ly_lm_congr (s := x) h, ly_lm_congr (s := y) h])
theorem ly_pl_lt {t : Nat → Nat} {K i x : Nat} (hx : x < K) : ly_pl t K i x < K := ly_rk_lt (ly_mR_sto t i K) hx
theorem ly_pl_inj {t : Nat → Nat} {K i x y : Nat} (hx : x < K) (hy : y < K) (e : ly_pl t K i x = ly_pl t K i y) : x = y := ly_rk_inj (ly_mR_sto t i K) hx hy e
theorem ly_pl_0 (t : Nat → Nat) {K x : Nat} (hx : x < K) : ly_pl t K 0 x = x := by
  have e : ly_pl t K 0 x = ly_cnt (fun y => y < x) K := ly_cnt_congr K (fun y _ => by
    unfold ly_mR
    rw [ly_lm_0, ly_lm_0]
    omega)
  rw [e, ly_cnt_below x K (by omega)]
theorem ly_pl_self (t : Nat → Nat) (K i : Nat) : ly_pl t K (i + 1) (t i) = 0 :=
  ly_cnt_none K (fun y _ => by
    unfold ly_mR
    rw [ly_lm_t rfl]
    have := ly_lm_lt t y (i + 1)
    omega)
theorem ly_mR_s {t : Nat → Nat} {i x : Nat} (hx : ¬ t i = x) (y : Nat) : ly_mR t (i + 1) y x ↔ (ly_mR t i y x ∨ y = t i) := by
  unfold ly_mR
  rw [ly_lm_f hx]
  by_cases c : t i = y
  · rw [ly_lm_t c]
    have := ly_lm_lt t x i
    constructor
    · exact fun _ => Or.inr c.symm
    · exact fun _ => by omega
  · rw [ly_lm_f c]
    constructor
    · exact Or.inl
    · exact fun h => h.elim id (fun z => absurd z.symm c)
theorem ly_pl_after {t : Nat → Nat} {K i x : Nat} (hs : t i < K) (hx : x < K) (h : ly_pl t K i (t i) < ly_pl t K i x) : ly_pl t K (i + 1) x = ly_pl t K i x := by
  have hr : ly_mR t i (t i) x := (ly_rk_ltI (ly_mR_sto t i K) hs hx).1 h
  have hne : ¬ t i = x := fun z => by rw [z] at h; omega
  refine ly_cnt_congr K (fun y _ => ?_)
  rw [ly_mR_s hne y]
  constructor
  · rintro (z | z)
    · exact z
    · rw [z]; exact hr
  · exact Or.inl
theorem ly_pl_before {t : Nat → Nat} {K i x : Nat} (hs : t i < K) (hx : x < K) (h : ly_pl t K i x < ly_pl t K i (t i)) : ly_pl t K (i + 1) x = ly_pl t K i x + 1 := by
  have hr : ¬ ly_mR t i (t i) x := fun z => by
    have := (ly_rk_ltI (ly_mR_sto t i K) hs hx).2 z
    unfold ly_pl at h
    omega
  have hne : ¬ t i = x := fun z => by rw [z] at h; omega
  have e : ly_pl t K (i + 1) x = ly_cnt (fun y => ly_mR t i y x ∨ y = t i) K := ly_cnt_congr K (fun y _ => ly_mR_s hne y)
  rw [e]
  exact ly_cnt_add1 (P := fun y => ly_mR t i y x) K (t i) hs hr
/-- the list at step i -/
def ly_Rc (t : Nat → Nat) (K i : Nat) (R : Nat → Nat) : Prop := ∀ p, p < K → R p < K ∧ ly_pl t K i (R p) = p
theorem ly_Rc_0 (t : Nat → Nat) (K : Nat) : ly_Rc t K 0 (fun p => p) := fun p hp => ⟨hp, ly_pl_0 t hp⟩
theorem ly_Rc_at {t R : Nat → Nat} {K i x : Nat} (h : ly_Rc t K i R) (hx : x < K) : R (ly_pl t K i x) = x := by
  have hp := h (ly_pl t K i x) (ly_pl_lt hx)
  exact ly_pl_inj hp.1 hx hp.2
theorem ly_Rc_ne {t R : Nat → Nat} {K i x p : Nat} (h : ly_Rc t K i R) (hp : p < K) (hne : p ≠ ly_pl t K i x) : R p ≠ x := by
  intro e
  have := (h p hp).2
  rw [e] at this
  omega
def ly_mv (R : Nat → Nat) (j s : Nat) : Nat → Nat := fun p => if p = 0 then s else if p ≤ j then R (p - 1) else R p
theorem ly_Rc_s {t R : Nat → Nat} {K i : Nat} (h : ly_Rc t K i R) (hs : t i < K) : ly_Rc t K (i + 1) (ly_mv R (ly_pl t K i (t i)) (t i)) := by
  intro p hp
  unfold ly_mv
  by_cases c : p = 0
  · subst c
    rw [if_pos rfl]
    exact ⟨hs, ly_pl_self t K i⟩
  · rw [if_neg c]
    by_cases d : p ≤ ly_pl t K i (t i)
    · rw [if_pos d]
      have h1 := h (p - 1) (by omega)
      refine ⟨h1.1, ?_⟩
      rw [ly_pl_before hs h1.1 (by omega), h1.2]
      omega
    · rw [if_neg d]
      have h1 := h p hp
      refine ⟨h1.1, ?_⟩
      rw [ly_pl_after hs h1.1 (by omega), h1.2]
/-- the block that front makes; what unfront must find -/
noncomputable def ly_F (b : Nat → Nat) (K i : Nat) : Nat := ly_pl b K i (b i)
def ly_isD (b : Nat → Nat) (K n : Nat) (D : Nat → Nat) : Prop := ∀ i, i < n → D i < K ∧ ly_pl D K i (D i) = b i
theorem ly_isD_ex {b : Nat → Nat} {K n : Nat} (hb : ∀ j, j < n → b j < K) : ∀ i, i ≤ n → ∃ D, ly_isD b K i D := by
  intro i
  induction i with
  | zero => exact fun _ => ⟨fun _ => 0, fun j hj => absurd hj (Nat.not_lt_zero j)⟩
  | succ i ih =>
    intro hi
    obtain ⟨D, hD⟩ := ih (by omega)
    obtain ⟨x, hx, ex⟩ := ly_rk_surj (ly_mR_sto D i K) (b i) (hb i (by omega))
    have hag : ∀ l, l ≤ i → ∀ j, j < l → (fun j => if j = i then x else D j) j = D j := fun l hl j hj => if_neg (by omega)
    refine ⟨fun j => if j = i then x else D j, fun j hj => ?_⟩
    rw [ly_pl_congr (hag j (by omega))]
    dsimp only
    by_cases c : j = i
    · subst c
      rw [if_pos rfl]
      exact ⟨hx, ex⟩
    · rw [if_neg c]
      exact hD j (by omega)
end
section
/-! numerals, the packed code -/
def ly_dl (z : Nat) : Nat := if z = 0 then 0 else if z < 3 then 1 else if z < 7 then 2 else if z < 15 then 3 else 4
def ly_tok (z d : Nat) : Nat := (z + 1) / 2 ^ d % 2
theorem ly_dl_0 : ly_dl 0 = 0 := rfl
theorem ly_dl_s {z : Nat} (h0 : 0 < z) (h : z ≤ 30) : ly_dl z = ly_dl ((z - 1) / 2) + 1 := by
  unfold ly_dl
  repeat' split
  all_goals omega
theorem ly_dl_le (z : Nat) : ly_dl z ≤ z := by
  unfold ly_dl
  repeat' split
  all_goals omega
theorem ly_dl_4 (z : Nat) : ly_dl z ≤ 4 := by
  unfold ly_dl
  repeat' split
  all_goals omega
theorem ly_dl_p {z : Nat} (h : z ≤ 30) : 2 ^ ly_dl z ≤ z + 1 ∧ z + 1 < 2 ^ (ly_dl z + 1) := by
  unfold ly_dl
  repeat' split
  all_goals omega
theorem ly_tok_0 (z : Nat) : ly_tok z 0 = (z + 1) % 2 := by
  unfold ly_tok
  rw [Nat.pow_zero, Nat.div_one]
theorem ly_tok_s {z : Nat} (h0 : 0 < z) (d : Nat) : ly_tok z (d + 1) = ly_tok ((z - 1) / 2) d := by
  unfold ly_tok
  rw [Nat.pow_succ, Nat.mul_comm, ← Nat.div_div_eq_div_mul]
  have e : (z + 1) / 2 = (z - 1) / 2 + 1 := by omega
  rw [e]
theorem ly_tok_le (z d : Nat) : ly_tok z d ≤ 1 := by
  unfold ly_tok
  omega
theorem ly_pw {k l : Nat} (h : k < l) : 2 ^ l = 2 ^ (k + 1) * 2 ^ (l - k - 1) := by
  rw [← Nat.pow_add]
  exact congrArg (2 ^ ·) (by omega)
theorem ly_tok_bits {z d l bits : Nat} (h : z + 1 = 2 ^ l + bits) (hd : d < l) : ly_tok z d = bits / 2 ^ d % 2 := by
  unfold ly_tok
  rw [h, ly_pw hd, Nat.pow_succ, Nat.mul_assoc, Nat.add_comm, Nat.add_mul_div_left _ _ (Nat.two_pow_pos d)]
  omega
/-- the value of k digits from f on -/
def ly_val (c : Nat → Nat) (f : Nat) : Nat → Nat
  | 0 => 0
  | k + 1 => ly_val c f k + 2 ^ k * (c (f + k) + 1)
theorem ly_val_s (c : Nat → Nat) (f k : Nat) : ly_val c f (k + 1) = ly_val c f k + 2 ^ k * (c (f + k) + 1) := rfl
theorem ly_val_bits (c : Nat → Nat) (f bits : Nat) : ∀ k, (∀ d, d < k → c (f + d) = bits / 2 ^ d % 2) → ly_val c f k + 1 = bits % 2 ^ k + 2 ^ k := by
  intro k
  induction k with
  | zero => intro _; show 0 + 1 = bits % 1 + 1; omega
  | succ k ih =>
    intro h
    have ih := ih (fun d hd => h d (by omega))
    rw [ly_val_s, h k (by omega), Nat.mod_pow_succ, Nat.pow_succ, Nat.mul_add]
    omega
theorem ly_val_le (c : Nat → Nat) (f : Nat) : ∀ k, (∀ d, d < k → c (f + d) ≤ 1) → ly_val c f k + 2 ≤ 2 ^ (k + 1) := by
  intro k
  induction k with
  | zero => intro _; show 0 + 2 ≤ 2; omega
  | succ k ih =>
    intro h
    have ih := ih (fun d hd => h d (by omega))
    have h1 := h k (by omega)
    have h2 : 2 ^ k * (c (f + k) + 1) ≤ 2 ^ k * 2 := Nat.mul_le_mul_left _ (by omega)
    rw [ly_val_s]
    rw [Nat.pow_succ] at ih
    rw [Nat.pow_succ, Nat.pow_succ]
    omega
theorem ly_val_congr {c e : Nat → Nat} {f : Nat} : ∀ k, (∀ d, d < k → c (f + d) = e (f + d)) → ly_val c f k = ly_val e f k := by
  intro k
  induction k with
  | zero => intro _; rfl
  | succ k ih =>
    intro h
    rw [ly_val_s, ly_val_s, ih (fun d hd => h d (by omega)), h k (by omega)]
/-- zeros that stand before i; tokens for all before them -/
def ly_zr (b : Nat → Nat) : Nat → Nat
  | 0 => 0
  | i + 1 => if b i = 0 then ly_zr b i + 1 else 0
def ly_M (b : Nat → Nat) : Nat → Nat
  | 0 => 0
  | i + 1 => if b i = 0 then ly_M b i else ly_M b i + ly_dl (ly_zr b i) + 1
def ly_Cf (b : Nat → Nat) : Nat → Nat → Nat
  | 0, _ => 0
  | i + 1, p => if b i = 0 then ly_Cf b i p else if p < ly_M b i then ly_Cf b i p else if p < ly_M b i + ly_dl (ly_zr b i) then ly_tok (ly_zr b i) (p - ly_M b i) else b i + 1
def ly_C (b : Nat → Nat) (n p : Nat) : Nat := if p < ly_M b n then ly_Cf b n p else ly_tok (ly_zr b n) (p - ly_M b n)
theorem ly_zr_t {b : Nat → Nat} {i : Nat} (h : b i = 0) : ly_zr b (i + 1) = ly_zr b i + 1 := if_pos h
theorem ly_zr_f {b : Nat → Nat} {i : Nat} (h : ¬ b i = 0) : ly_zr b (i + 1) = 0 := if_neg h
theorem ly_M_t {b : Nat → Nat} {i : Nat} (h : b i = 0) : ly_M b (i + 1) = ly_M b i := if_pos h
theorem ly_M_f {b : Nat → Nat} {i : Nat} (h : ¬ b i = 0) : ly_M b (i + 1) = ly_M b i + ly_dl (ly_zr b i) + 1 := if_neg h
theorem ly_Cf_t {b : Nat → Nat} {i : Nat} (h : b i = 0) (p : Nat) : ly_Cf b (i + 1) p = ly_Cf b i p := if_pos h
theorem ly_Cf_f {b : Nat → Nat} {i : Nat} (h : ¬ b i = 0) (p : Nat) : ly_Cf b (i + 1) p = if p < ly_M b i then ly_Cf b i p else if p < ly_M b i + ly_dl (ly_zr b i) then ly_tok (ly_zr b i) (p - ly_M b i) else b i + 1 := if_neg h
theorem ly_M_le (b : Nat → Nat) (i : Nat) : ly_M b i + ly_zr b i ≤ i := by
  induction i with
  | zero => exact Nat.le_refl 0
  | succ i ih =>
    by_cases c : b i = 0
    · rw [ly_M_t c, ly_zr_t c]; omega
    · rw [ly_M_f c, ly_zr_f c]
      have := ly_dl_le (ly_zr b i)
      omega
theorem ly_M_up (b : Nat → Nat) (i : Nat) : ly_M b i ≤ ly_M b (i + 1) := by
  by_cases c : b i = 0
  · rw [ly_M_t c]; omega
  · rw [ly_M_f c]; omega
/-- the content does not change where it has been written -/
theorem ly_Cf_old (b : Nat → Nat) (i d p : Nat) (hp : p < ly_M b i) : ly_Cf b (i + d) p = ly_Cf b i p ∧ p < ly_M b (i + d) := by
  induction d with
  | zero => exact ⟨rfl, hp⟩
  | succ d ih =>
    have h1 := ly_M_up b (i + d)
    refine ⟨?_, by rw [← Nat.add_assoc]; omega⟩
    rw [← Nat.add_assoc, ← ih.1]
    by_cases c : b (i + d) = 0
    · exact ly_Cf_t c p
    · rw [ly_Cf_f c, if_pos ih.2]
theorem ly_C_at {b : Nat → Nat} {n i p : Nat} (hi : i ≤ n) (hp : p < ly_M b i) : ly_C b n p = ly_Cf b i p := by
  have h := ly_Cf_old b i (n - i) p hp
  have e : i + (n - i) = n := by omega
  rw [e] at h
  unfold ly_C
  rw [if_pos h.2, h.1]
theorem ly_C_dig {b : Nat → Nat} {n i d : Nat} (hi : i < n) (hb : ¬ b i = 0) (hd : d < ly_dl (ly_zr b i)) : ly_C b n (ly_M b i + d) = ly_tok (ly_zr b i) d := by
  rw [ly_C_at (i := i + 1) (by omega) (by rw [ly_M_f hb]; omega), ly_Cf_f hb, if_neg (by omega), if_pos (by omega), Nat.add_sub_cancel_left]
theorem ly_C_sym {b : Nat → Nat} {n i : Nat} (hi : i < n) (hb : ¬ b i = 0) : ly_C b n (ly_M b i + ly_dl (ly_zr b i)) = b i + 1 := by
  rw [ly_C_at (i := i + 1) (by omega) (by rw [ly_M_f hb]; omega), ly_Cf_f hb, if_neg (by omega), if_neg (by omega)]
theorem ly_C_end {b : Nat → Nat} {n d : Nat} : ly_C b n (ly_M b n + d) = ly_tok (ly_zr b n) d := by
  unfold ly_C
  rw [if_neg (by omega), Nat.add_sub_cancel_left]
theorem ly_Cf_le {b : Nat → Nat} {n K : Nat} (hK : 1 ≤ K) (hb : ∀ j, j < n → b j < K) : ∀ i, i ≤ n → ∀ p, ly_Cf b i p ≤ K := by
  intro i
  induction i with
  | zero => exact fun _ _ => Nat.zero_le _
  | succ i ih =>
    intro hi p
    have h1 := ih (by omega) p
    by_cases c : b i = 0
    · rw [ly_Cf_t c]; exact h1
    · rw [ly_Cf_f c]
      have h2 := ly_tok_le (ly_zr b i) (p - ly_M b i)
      have h3 := hb i (by omega)
      split
      · exact h1
      · split <;> omega
theorem ly_C_le {b : Nat → Nat} {n K : Nat} (hK : 1 ≤ K) (hb : ∀ j, j < n → b j < K) (p : Nat) : ly_C b n p ≤ K := by
  unfold ly_C
  have h2 := ly_tok_le (ly_zr b n) (p - ly_M b n)
  split
  · exact ly_Cf_le hK hb n (Nat.le_refl n) p
  · omega
end
section
/-! what a code stands for -/
def ly_w (c : Nat → Nat) : Nat → Nat
  | 0 => 1
  | i + 1 => if 2 ≤ c i then 1 else ly_w c i * 2
def ly_D (c : Nat → Nat) : Nat → Nat
  | 0 => 0
  | i + 1 => if 2 ≤ c i then ly_D c i + 1 else ly_D c i + (c i + 1) * ly_w c i
def ly_rs (c : Nat → Nat) : Nat → Nat
  | 0 => 0
  | i + 1 => if 2 ≤ c i then i + 1 else ly_rs c i
def ly_S (c : Nat → Nat) : Nat → Nat → Nat
  | 0, _ => 0
  | i + 1, p => if p < ly_D c i then ly_S c i p else if 2 ≤ c i then c i - 1 else 0
theorem ly_w_t {c : Nat → Nat} {i : Nat} (h : 2 ≤ c i) : ly_w c (i + 1) = 1 := if_pos h
theorem ly_w_f {c : Nat → Nat} {i : Nat} (h : ¬ 2 ≤ c i) : ly_w c (i + 1) = ly_w c i * 2 := if_neg h
theorem ly_D_t {c : Nat → Nat} {i : Nat} (h : 2 ≤ c i) : ly_D c (i + 1) = ly_D c i + 1 := if_pos h
theorem ly_D_f {c : Nat → Nat} {i : Nat} (h : ¬ 2 ≤ c i) : ly_D c (i + 1) = ly_D c i + (c i + 1) * ly_w c i := if_neg h
theorem ly_rs_t {c : Nat → Nat} {i : Nat} (h : 2 ≤ c i) : ly_rs c (i + 1) = i + 1 := if_pos h
theorem ly_rs_f {c : Nat → Nat} {i : Nat} (h : ¬ 2 ≤ c i) : ly_rs c (i + 1) = ly_rs c i := if_neg h
theorem ly_S_s (c : Nat → Nat) (i p : Nat) : ly_S c (i + 1) p = if p < ly_D c i then ly_S c i p else if 2 ≤ c i then c i - 1 else 0 := rfl
theorem ly_rs_le (c : Nat → Nat) (i : Nat) : ly_rs c i ≤ i := by
  induction i with
  | zero => exact Nat.le_refl 0
  | succ i ih =>
    by_cases h : 2 ≤ c i
    · rw [ly_rs_t h]; exact Nat.le_refl _
    · rw [ly_rs_f h]; omega
theorem ly_rs_lt (c : Nat → Nat) (i j : Nat) (h1 : ly_rs c i ≤ j) (h2 : j < i) : c j < 2 := by
  induction i with
  | zero => omega
  | succ i ih =>
    by_cases h : 2 ≤ c i
    · rw [ly_rs_t h] at h1; omega
    · rw [ly_rs_f h] at h1
      by_cases e : j = i
      · subst e; omega
      · exact ih h1 (by omega)
theorem ly_rs_pre (c : Nat → Nat) (i : Nat) (h : 0 < ly_rs c i) : 2 ≤ c (ly_rs c i - 1) := by
  induction i with
  | zero => exact absurd h (Nat.lt_irrefl 0)
  | succ i ih =>
    by_cases d : 2 ≤ c i
    · rw [ly_rs_t d]; exact d
    · rw [ly_rs_f d] at h ⊢
      exact ih h
theorem ly_w_eq (c : Nat → Nat) (i : Nat) : ly_w c i = 2 ^ (i - ly_rs c i) := by
  induction i with
  | zero => rfl
  | succ i ih =>
    by_cases h : 2 ≤ c i
    · rw [ly_w_t h, ly_rs_t h, Nat.sub_self]
    · have h1 := ly_rs_le c i
      have e : i + 1 - ly_rs c i = (i - ly_rs c i) + 1 := by omega
      rw [ly_w_f h, ly_rs_f h, ih, e, Nat.pow_succ]
theorem ly_w_le (c : Nat → Nat) (i : Nat) : ly_w c i ≤ 2 ^ i := by
  rw [ly_w_eq]
  exact Nat.pow_le_pow_right (by decide) (Nat.sub_le _ _)
theorem ly_D_le (c : Nat → Nat) (i : Nat) : ly_D c i + 2 ≤ 2 ^ (i + 1) := by
  induction i with
  | zero => exact Nat.le_refl 2
  | succ i ih =>
    have h1 := Nat.two_pow_pos i
    rw [Nat.pow_succ] at ih
    by_cases h : 2 ≤ c i
    · rw [ly_D_t h, Nat.pow_succ, Nat.pow_succ]; omega
    · have h2 := ly_w_le c i
      have h3 : (c i + 1) * ly_w c i ≤ 2 * 2 ^ i := Nat.mul_le_mul (by omega) h2
      rw [ly_D_f h, Nat.pow_succ, Nat.pow_succ]; omega
theorem ly_D_up (c : Nat → Nat) (i : Nat) : ly_D c i ≤ ly_D c (i + 1) := by
  by_cases h : 2 ≤ c i
  · rw [ly_D_t h]; omega
  · rw [ly_D_f h]; omega
theorem ly_D_mono (c : Nat → Nat) {i j : Nat} (h : i ≤ j) : ly_D c i ≤ ly_D c j := by
  induction j with
  | zero => obtain rfl : i = 0 := by omega
            exact Nat.le_refl _
  | succ j ih =>
    by_cases e : i = j + 1
    · rw [e]; exact Nat.le_refl _
    · exact Nat.le_trans (ih (by omega)) (ly_D_up c j)
/-- a run of digits counts as its value -/
theorem ly_D_val (c : Nat → Nat) (i : Nat) : ly_D c i = ly_D c (ly_rs c i) + ly_val c (ly_rs c i) (i - ly_rs c i) := by
  induction i with
  | zero => rfl
  | succ i ih =>
    by_cases h : 2 ≤ c i
    · rw [ly_rs_t h, Nat.sub_self]; rfl
    · have h1 := ly_rs_le c i
      have e : i + 1 - ly_rs c i = (i - ly_rs c i) + 1 := by omega
      have e2 : ly_rs c i + (i - ly_rs c i) = i := by omega
      rw [ly_D_f h, ly_rs_f h, e, ly_val_s, e2, ly_w_eq, Nat.mul_comm]
      omega
/-- the content does not change where it has been written -/
theorem ly_S_old (c : Nat → Nat) (i d p : Nat) (hp : p < ly_D c i) : ly_S c (i + d) p = ly_S c i p := by
  induction d with
  | zero => rfl
  | succ d ih =>
    have h1 := ly_D_mono c (i := i) (j := i + d) (by omega)
    rw [← Nat.add_assoc, ly_S_s, if_pos (by omega), ih]
theorem ly_S_sym {c : Nat → Nat} {m i : Nat} (hi : i < m) (h : 2 ≤ c i) : ly_S c m (ly_D c i) = c i - 1 := by
  have h1 := ly_S_old c (i + 1) (m - (i + 1)) (ly_D c i) (by rw [ly_D_t h]; omega)
  have e : i + 1 + (m - (i + 1)) = m := by omega
  rw [e] at h1
  rw [h1, ly_S_s, if_neg (Nat.lt_irrefl _), if_pos h]
theorem ly_S_dig {c : Nat → Nat} {m i p : Nat} (hi : i < m) (h : ¬ 2 ≤ c i) (h1 : ly_D c i ≤ p) (h2 : p < ly_D c (i + 1)) : ly_S c m p = 0 := by
  have h3 := ly_S_old c (i + 1) (m - (i + 1)) p h2
  have e : i + 1 + (m - (i + 1)) = m := by omega
  rw [e] at h3
  rw [h3, ly_S_s, if_neg (by omega), if_neg h]
theorem ly_S_run {c : Nat → Nat} {m p : Nat} : ∀ i, i < m → ¬ 2 ≤ c i → ly_D c (ly_rs c i) ≤ p → p < ly_D c (i + 1) → ly_S c m p = 0 := by
  intro i
  induction i with
  | zero => exact fun hi h h1 h2 => ly_S_dig hi h h1 h2
  | succ i ih =>
    intro hi h h1 h2
    by_cases d : ly_D c (i + 1) ≤ p
    · exact ly_S_dig hi h d h2
    · by_cases e : 2 ≤ c i
      · rw [ly_rs_t e] at h1; omega
      · rw [ly_rs_f e] at h1
        exact ih (by omega) e h1 (by omega)
theorem ly_S_lt {c : Nat → Nat} {m K : Nat} (hK : 1 ≤ K) (hc : ∀ j, j < m → c j ≤ K) : ∀ i, i ≤ m → ∀ p, ly_S c i p < K := by
  intro i
  induction i with
  | zero => exact fun _ _ => hK
  | succ i ih =>
    intro hi p
    have h1 := ih (by omega) p
    have h2 := hc i (by omega)
    rw [ly_S_s]
    split
    · exact h1
    · split <;> omega
/-- what the reference has counted when it has read i tokens -/
def ly_Yd (c : Nat → Nat) (m i : Nat) : Nat := if i < m ∧ c i < 2 then ly_D c (ly_rs c i) else ly_D c i
theorem ly_Yd_0 (c : Nat → Nat) (m : Nat) : ly_Yd c m 0 = 0 := by
  unfold ly_Yd
  split <;> rfl
theorem ly_Yd_m (c : Nat → Nat) (m : Nat) : ly_Yd c m m = ly_D c m := if_neg (by omega)
def ly_ye (c : Nat → Nat) (m i : Nat) : Nat := if 2 ≤ c i then 1 else if i + 1 < m ∧ c (i + 1) < 2 then 0 else ly_val c (ly_rs c i) (i + 1 - ly_rs c i)
theorem ly_Yd_s {c : Nat → Nat} {m i : Nat} (hi : i < m) : ly_Yd c m (i + 1) = ly_Yd c m i + ly_ye c m i := by
  unfold ly_Yd ly_ye
  by_cases h : 2 ≤ c i
  · rw [if_pos h, if_neg (c := i < m ∧ c i < 2) (by omega), ly_rs_t h, ly_D_t h]
    split <;> rfl
  · rw [if_neg h, if_pos (c := i < m ∧ c i < 2) (by omega), ly_rs_f h]
    by_cases d : i + 1 < m ∧ c (i + 1) < 2
    · rw [if_pos d, if_pos d]; rfl
    · rw [if_neg d, if_neg d]
      have := ly_D_val c (i + 1)
      rw [ly_rs_f h] at this
      exact this
end
section
/-! numbers, stores, bits -/
theorem ly_rd {A : Nat → Int32} {f : Nat → Nat} {n i : Nat} (h : ∀ j, j < n → A j = nI (f j)) (hi : i < n) (hn : n ≤ 24) : A (nI i).toNatClampNeg = nI (f i) := by
  rw [nI_clamp (by omega)]; exact h i hi
theorem ly_in {i : Nat} (h : i < 24) : vp_in (nI i) 24 := vp_in_nI h (by decide)
theorem ly_in16 {i : Nat} (h : i < 16) : vp_in (nI i) 16 := vp_in_nI h (by decide)
theorem ly_cl {i : Nat} (h : i < 2 ^ 31) : (nI i).toNatClampNeg = i := nI_clamp h
theorem ly_us {A : Nat → Int32} {i j : Nat} {x : Int32} (hi : i < 2 ^ 31) (h : j = i) : upd A (nI i).toNatClampNeg x j = x := by
  rw [nI_clamp hi, h]; exact pk_us
theorem ly_un {A : Nat → Int32} {i j : Nat} {x : Int32} (hi : i < 2 ^ 31) (h : j ≠ i) : upd A (nI i).toNatClampNeg x j = A j := by
  rw [nI_clamp hi]; exact pk_un h
theorem ly_eq2 {a b : Nat} (h : a = b) : nI a = nI b := congrArg nI h
theorem ly_p1 {a b : Nat} (h : a + 1 = b) : nI a + 1 = nI b := by rw [nI_1, h]
theorem ly_s1 {a b : Nat} (h : b + 1 = a) : nI a - 1 = nI b := by rw [← h]; exact nI_pred b
theorem ly_d1 {a b : Nat} (h : b + 1 = a) : nI a + (-1) = nI b := by rw [← h]; exact pk_m1 b
theorem ly_sb {a b c : Nat} (h : c + b = a) : nI a - nI b = nI c := by rw [pk_sub (by omega)]; exact ly_eq2 (by omega)
theorem ly_ad {a b c : Nat} (h : a + b = c) : nI a + nI b = nI c := by rw [nI_add, h]
theorem ly_m1lt : (-1 : Int32) < 0 := by decide
noncomputable def ly_bit (P : Prop) : Int32 := @ite Int32 P (Classical.propDecidable P) 1 0
theorem ly_bit_t {P : Prop} (h : P) : ly_bit P = 1 := if_pos h
theorem ly_bit_f {P : Prop} (h : ¬ P) : ly_bit P = 0 := if_neg h
theorem ly_bit_br {P A B : Prop} (f : P → B) (g : ¬ P → A) : (ly_bit P = 0 → A) ∧ (¬ ly_bit P = 0 → B) := by
  by_cases h : P
  · rw [ly_bit_t h]
    exact ⟨fun z => absurd z (by decide), fun _ => f h⟩
  · rw [ly_bit_f h]
    exact ⟨fun _ => g h, fun z => absurd rfl z⟩
theorem ly_nb0 : vp_nar .boolean 0 = 0 := by decide
theorem ly_nb1 : vp_nar .boolean 1 = 1 := by decide
/-- an int argument against a length: below 0, at or above, or within -/
theorem ly_ix3 (x : Int32) {n : Nat} (hn : n < 2 ^ 31) : x < 0 ∨ (¬ x < 0 ∧ ¬ x < nI n) ∨ ∃ j : Nat, j < n ∧ x = nI j := by
  rcases pk_ix x hn with h | h | h
  · exact Or.inl h
  · by_cases c : x < 0
    · exact Or.inl c
    · exact Or.inr (Or.inl ⟨c, Int32.not_lt.mpr h⟩)
  · exact Or.inr (Or.inr h)
end
section
/-! the class: the scan and the cut -/
section
variable {K C n m : Nat} {b : Nat → Nat} {B Cd Fs Fi La Rw Su Vi Nb Re : Nat → Int32}
theorem lx_lpl_loop {post : Int32 → Prop} {s : Nat} (hn : n ≤ 24) (hb : ∀ j, j < n → b j < 16) (hB : ∀ j, j < n → B j = nI (b j)) (hp : post (nI (ly_E b n s - s))) : ∀ d p i, i + d = n → ly_Dv b s p i → wX_longestPrimeLength_6 post (nI s) (nI K) (nI C) (nI n) (nI m) B Cd Fs Fi La Rw Su Vi Nb Re (d + 1) (nI p) (nI i) := by
  intro d
  induction d with
  | zero =>
    intro p i hi D
    have e := ly_E_dv D (by omega) (Or.inl (by omega) : i = n ∨ b i < b (i - p))
    refine pk_le n i (fun _ => ?_) (fun h => by omega)
    have e2 : ly_E b n s - s = p := by omega
    rw [e2] at hp
    exact hp
  | succ d ih =>
    intro p i hi D
    have D1 := D.1
    have D2 := D.2.1
    have b1 := hb i (by omega)
    have b2 := hb (i - p) (by omega)
    refine pk_le n i (fun h => by omega) (fun _ => And.intro (pk_in (i - p) 24 (by omega) (pk_sub (by omega)) (by decide)) ?_)
    refine nm_r (e' := nI (b (i - p))) (by rw [pk_sub (by omega)]; exact ly_rd hB (by omega) hn) ?_
    refine And.intro (ly_in (by omega)) ?_
    refine pk_le (b (i - p)) (b i) (fun h1 => ?_) (fun h1 => ?_) rfl (ly_rd hB (by omega) hn)
    · refine And.intro (ly_in (by omega)) ?_
      refine pk_le (b i) (b (i - p)) (fun h2 => ?_) (fun h2 => ?_) (ly_rd hB (by omega) hn) rfl
      · exact nm_r (nI_1 i) (ih p (i + 1) (by omega) (ly_Dv_eq D (by omega)))
      · exact nm_r (by rw [ly_sb (c := i - s) (by omega), nI_1]) (nm_r (nI_1 i) (ih (i - s + 1) (i + 1) (by omega) (ly_Dv_gt D h2)))
    · have e := ly_E_dv D (by omega : i ≤ n) (Or.inr h1)
      have e2 : ly_E b n s - s = p := by omega
      rw [e2] at hp
      exact hp
theorem lx_lpl {post : Int32 → Prop} {s : Nat} (hn : n ≤ 24) (hb : ∀ j, j < n → b j < 16) (hB : ∀ j, j < n → B j = nI (b j)) (hs : s < n) (hp : post (nI (ly_E b n s - s))) : wpX_longestPrimeLength post (nI K, nI C, nI n, nI m, B, Cd, Fs, Fi, La, Rw, Su, Vi, Nb, Re) (nI s) :=
  nm_r (nI_1 s) ⟨_, lx_lpl_loop hn hb hB hp (n - (s + 1)) 1 (s + 1) (by omega) (ly_Dv0 b s)⟩
def ly_cutI (b : Nat → Nat) (n p : Nat) (Fs Fi La : Nat → Int32) : Prop := (∀ q, q < p → ly_st b n q = q → Fs (ly_fc b n q) = nI q) ∧ (∀ q, q < p → Fi q = nI (ly_st b n q)) ∧ (∀ q, q < p → La q = nI (ly_en b n q - 1))
theorem lx_cut_loop {post : Int32 → St2 → Prop} (hn : n ≤ 24) (hb : ∀ j, j < n → b j < 16) (hB : ∀ j, j < n → B j = nI (b j)) (hp : ∀ Fs Fi La, ly_cutI b n n Fs Fi La → post (nI (ly_fc b n n)) (nI K, nI C, nI n, nI m, B, Cd, Fs, Fi, La, Rw, Su, Vi, Nb, Re)) : ∀ d p, p + d = n → ∀ x1 x2 x3 x4 Fs Fi La, x1 = nI (ly_fc b n p) → x2 = nI (ly_ps b n p) → x3 = nI (ly_pe b n p) → x4 = nI p → ly_cutI b n p Fs Fi La → wX_cutIntoFactors_9 post (nI K) (nI C) (nI n) (nI m) (d + 1) x1 x2 x3 x4 B Cd Fs Fi La Rw Su Vi Nb Re := by
  intro d
  induction d with
  | zero =>
    rintro p hpd x1 x2 x3 x4 Fs Fi La rfl rfl rfl rfl hI
    obtain rfl : p = n := by omega
    exact pk_le p p (fun _ => hp Fs Fi La hI) (fun h => by omega)
  | succ d ih =>
    rintro p hpd x1 x2 x3 x4 Fs Fi La rfl rfl rfl rfl hI
    have hpn : p < n := by omega
    have h1 := ly_pe_le (b := b) hpn
    have h2 := ly_st_in b hpn
    have h3 : ly_fc b n p ≤ p := ly_cnt_le _ p
    refine pk_le n p (fun h => by omega) (fun _ => ?_)
    refine pk_eq p (ly_pe b n p) (fun hq => ?_) (fun hq => ?_)
    · have hst := ly_st_pe_t hq
      have hen : ly_en b n p = ly_E b n p := by unfold ly_en; rw [hst]
      refine lx_lpl hn hb hB hpn ?_
      refine nm_r (ly_ad (c := ly_en b n p) (by omega)) (And.intro (ly_in (by omega)) ?_)
      intro a1 ea1 y1 ey1
      refine And.intro (ly_in (by omega)) ?_
      intro a2 ea2
      refine And.intro (ly_in (by omega)) ?_
      intro a3 ea3 y4 ey4
      refine ih (p + 1) (by omega) _ _ _ _ a1 a2 a3 ?_ ?_ rfl ?_ ?_
      · rw [ey1, nI_1]; exact ly_eq2 (ly_cnt_t (P := fun p => ly_st b n p = p) hst).symm
      · exact ly_eq2 hst.symm
      · rw [ey4, nI_1]
      · refine ⟨lt_s (fun q hq1 hq2 => ?_) (fun _ => ?_), lt_s (fun q hq1 => ?_) ?_, lt_s (fun q hq1 => ?_) ?_⟩
        · have h4 : ly_fc b n q < ly_fc b n p := by
            have h5 := ly_cnt_up (fun p => ly_st b n p = p) (m := q + 1) (n := p) (by omega)
            rw [ly_cnt_t (P := fun p => ly_st b n p = p) hq2] at h5
            exact h5
          rw [ea1, ly_un (by omega) (by omega)]
          exact hI.1 q hq1 hq2
        · rw [ea1]; exact ly_us (by omega) rfl
        · rw [ea2, ly_un (by omega) (by omega)]; exact hI.2.1 q hq1
        · rw [ea2, ly_us (by omega) rfl, hst]
        · rw [ea3, ly_un (by omega) (by omega)]; exact hI.2.2 q hq1
        · rw [ea3, ly_us (by omega) rfl]; exact ly_s1 (by omega)
    · have hst := ly_st_pe_f hq
      have hne := ly_st_pe_ne hpn hq
      refine And.intro (ly_in (by omega)) ?_
      intro a2 ea2
      refine And.intro (ly_in (by omega)) ?_
      intro a3 ea3 y4 ey4
      refine ih (p + 1) (by omega) _ _ _ _ Fs a2 a3 ?_ ?_ ?_ ?_ ?_
      · exact ly_eq2 (ly_cnt_f (P := fun p => ly_st b n p = p) hne).symm
      · exact ly_eq2 hst.1.symm
      · exact ly_eq2 hst.2.symm
      · rw [ey4, nI_1]
      · refine ⟨lt_s (fun q hq1 hq2 => hI.1 q hq1 hq2) (fun z => absurd z hne), lt_s (fun q hq1 => ?_) ?_, lt_s (fun q hq1 => ?_) ?_⟩
        · rw [ea2, ly_un (by omega) (by omega)]; exact hI.2.1 q hq1
        · rw [ea2, ly_us (by omega) rfl, hst.1]
        · rw [ea3, ly_un (by omega) (by omega)]; exact hI.2.2 q hq1
        · rw [ea3, ly_us (by omega) rfl, hst.2]; exact ly_s1 (by omega)
theorem lx_cut {post : Int32 → St2 → Prop} (hn : n ≤ 24) (hb : ∀ j, j < n → b j < 16) (hB : ∀ j, j < n → B j = nI (b j)) (hp : ∀ Fs Fi La, ly_cutI b n n Fs Fi La → post (nI (ly_fc b n n)) (nI K, nI C, nI n, nI m, B, Cd, Fs, Fi, La, Rw, Su, Vi, Nb, Re)) : wpX_cutIntoFactors post (nI K, nI C, nI n, nI m, B, Cd, Fs, Fi, La, Rw, Su, Vi, Nb, Re) :=
  ⟨_, lx_cut_loop hn hb hB hp n 0 (by omega) _ _ _ _ Fs Fi La rfl rfl rfl rfl ⟨fun q h => absurd h (Nat.not_lt_zero q), fun q h => absurd h (Nat.not_lt_zero q), fun q h => absurd h (Nat.not_lt_zero q)⟩⟩
end
end
section
/-! the class: rows, transform -/
section
variable {K C n m : Nat} {b : Nat → Nat} {B Cd Fs Fi La Rw Su Vi Nb Re : Nat → Int32}
theorem lx_round {post : Int32 → Prop} {u : Nat} (hn : n ≤ 24) (hF : ∀ j, j < n → Fi j = nI (ly_st b n j)) (hL : ∀ j, j < n → La j = nI (ly_en b n j - 1)) (hu : u < n) (hp : post (nI (ly_nx b n u))) : wpX_roundInFactor post (nI K, nI C, nI n, nI m, B, Cd, Fs, Fi, La, Rw, Su, Vi, Nb, Re) (nI u) := by
  have h1 := ly_st_in b hu
  refine And.intro (ly_in (by omega)) ?_
  refine pk_eq u (ly_en b n u - 1) (fun e => And.intro (ly_in (by omega)) ?_) (fun e => ?_) rfl (ly_rd hL hu hn)
  · rw [ly_rd hF hu hn]
    have e2 : ly_nx b n u = ly_st b n u := if_pos (by omega)
    rw [e2] at hp
    exact hp
  · have e2 : ly_nx b n u = u + 1 := if_neg (by omega)
    rw [e2] at hp
    rw [nI_1]
    exact hp
theorem lx_before_loop {post : Int32 → Prop} {p q : Nat} (hn : n ≤ 24) (hb : ∀ j, j < n → b j < 16) (hB : ∀ j, j < n → B j = nI (b j)) (hF : ∀ j, j < n → Fi j = nI (ly_st b n j)) (hL : ∀ j, j < n → La j = nI (ly_en b n j - 1)) (hpn : p < n) (hqn : q < n) (hp : post (ly_bit (ly_bf b n p q))) : ∀ d k, k + d = 48 → (∀ i, i < k → b (ly_pos b n p i) = b (ly_pos b n q i)) → wX_comesBefore_8 post (nI p) (nI q) (nI K) (nI C) (nI n) (nI m) B Cd Fs Fi La Rw Su Vi Nb Re (d + 1) (nI (ly_pos b n p k)) (nI (ly_pos b n q k)) (nI k) := by
  intro d
  induction d with
  | zero =>
    intro k hk he
    obtain rfl : k = 48 := by omega
    refine pk_le 48 48 (fun _ => ?_) (fun h => by omega)
    refine pk_le q p (fun h => ?_) (fun h => ?_)
    · rw [ly_bit_f (fun z => by
        rcases z with ⟨k, k1, k2, k3⟩ | ⟨_, l⟩
        · have := he k k1
          dsimp only at k3
          omega
        · omega)] at hp
      exact hp
    · rw [ly_bit_t (P := ly_bf b n p q) (Or.inr ⟨he, h⟩)] at hp
      exact hp
  | succ d ih =>
    intro k hk he
    have hpk := ly_pos_lt b hpn k
    have hqk := ly_pos_lt b hqn k
    have b1 := hb _ hpk
    have b2 := hb _ hqk
    refine pk_le 48 k (fun h => by omega) (fun _ => And.intro (ly_in (by omega)) (And.intro (ly_in (by omega)) ?_))
    refine pk_eq (b (ly_pos b n p k)) (b (ly_pos b n q k)) (fun e => ?_) (fun e => ?_) (ly_rd hB hpk hn) (ly_rd hB hqk hn)
    · refine lx_round hn hF hL hpk (lx_round hn hF hL hqk ?_)
      exact nm_r (nI_1 k) (ih (k + 1) (by omega) (lt_s he e))
    · refine And.intro (ly_in (by omega)) (And.intro (ly_in (by omega)) ?_)
      refine pk_le (b (ly_pos b n q k)) (b (ly_pos b n p k)) (fun l => ?_) (fun l => ?_) (ly_rd hB hqk hn) (ly_rd hB hpk hn)
      · rw [ly_bit_f (fun z => by
          rcases z with ⟨i, i1, i2, i3⟩ | ⟨i2, _⟩
          · dsimp only at i2 i3
            by_cases c : i < k
            · have := he i c; omega
            · by_cases c2 : i = k
              · subst c2; omega
              · exact e (i2 k (by omega))
          · exact e (i2 k (by omega)))] at hp
        exact hp
      · rw [ly_bit_t (P := ly_bf b n p q) (Or.inl ⟨k, by omega, he, l⟩)] at hp
        exact hp
theorem lx_before {post : Int32 → Prop} {p q : Nat} (hn : n ≤ 24) (hb : ∀ j, j < n → b j < 16) (hB : ∀ j, j < n → B j = nI (b j)) (hF : ∀ j, j < n → Fi j = nI (ly_st b n j)) (hL : ∀ j, j < n → La j = nI (ly_en b n j - 1)) (hpn : p < n) (hqn : q < n) (hp : post (ly_bit (ly_bf b n p q))) : wpX_comesBefore post (nI K, nI C, nI n, nI m, B, Cd, Fs, Fi, La, Rw, Su, Vi, Nb, Re) (nI p) (nI q) :=
  ⟨_, lx_before_loop hn hb hB hF hL hpn hqn hp 48 0 rfl (fun i h => absurd h (Nat.not_lt_zero i))⟩
theorem lx_count_loop {post : Int32 → Prop} {p : Nat} (hn : n ≤ 24) (hb : ∀ j, j < n → b j < 16) (hB : ∀ j, j < n → B j = nI (b j)) (hF : ∀ j, j < n → Fi j = nI (ly_st b n j)) (hL : ∀ j, j < n → La j = nI (ly_en b n j - 1)) (hpn : p < n) (hp : post (nI (ly_rk (ly_bf b n) n p))) : ∀ d j, j + d = n → ∀ x2 x3, x2 = nI (ly_cnt (fun q => ly_bf b n q p) j) → x3 = nI j → wX_countBefore_4 post (nI p) (nI K) (nI C) (nI n) (nI m) B Cd Fs Fi La Rw Su Vi Nb Re (d + 1) x2 x3 := by
  intro d
  induction d with
  | zero =>
    rintro j hj x2 x3 rfl rfl
    obtain rfl : j = n := by omega
    exact pk_le j j (fun _ => hp) (fun h => by omega)
  | succ d ih =>
    rintro j hj x2 x3 rfl rfl
    refine pk_le n j (fun h => by omega) (fun _ => lx_before hn hb hB hF hL (by omega) hpn ?_)
    refine ly_bit_br (fun h => ?_) (fun h => ?_)
    · intro y2 e2 y3 e3
      refine ih (j + 1) (by omega) _ _ ?_ ?_
      · rw [e2, nI_1, ly_cnt_t (P := fun q => ly_bf b n q p) h]
      · rw [e3, nI_1]
    · intro y3 e3
      refine ih (j + 1) (by omega) _ _ ?_ ?_
      · rw [ly_cnt_f (P := fun q => ly_bf b n q p) h]
      · rw [e3, nI_1]
theorem lx_count {post : Int32 → Prop} {p : Nat} (hn : n ≤ 24) (hb : ∀ j, j < n → b j < 16) (hB : ∀ j, j < n → B j = nI (b j)) (hF : ∀ j, j < n → Fi j = nI (ly_st b n j)) (hL : ∀ j, j < n → La j = nI (ly_en b n j - 1)) (hpn : p < n) (hp : post (nI (ly_rk (ly_bf b n) n p))) : wpX_countBefore post (nI K, nI C, nI n, nI m, B, Cd, Fs, Fi, La, Rw, Su, Vi, Nb, Re) (nI p) :=
  ⟨_, lx_count_loop hn hb hB hF hL hpn hp n 0 (by omega) _ _ rfl rfl⟩
theorem lx_order_loop {post : St2 → Prop} (hn : n ≤ 24) (hb : ∀ j, j < n → b j < 16) (hB : ∀ j, j < n → B j = nI (b j)) (hF : ∀ j, j < n → Fi j = nI (ly_st b n j)) (hL : ∀ j, j < n → La j = nI (ly_en b n j - 1)) (hp : ∀ Rw, (∀ q, q < n → Rw (ly_rk (ly_bf b n) n q) = nI q) → post (nI K, nI C, nI n, nI m, B, Cd, Fs, Fi, La, Rw, Su, Vi, Nb, Re)) : ∀ d p, p + d = n → ∀ x1 Rw, x1 = nI p → (∀ q, q < p → Rw (ly_rk (ly_bf b n) n q) = nI q) → wX_orderRows_2 post (nI K) (nI C) (nI n) (nI m) (d + 1) x1 B Cd Fs Fi La Rw Su Vi Nb Re := by
  intro d
  induction d with
  | zero =>
    rintro p hpd x1 Rw rfl hI
    obtain rfl : p = n := by omega
    exact pk_le p p (fun _ => hp Rw hI) (fun h => by omega)
  | succ d ih =>
    rintro p hpd x1 Rw rfl hI
    have hpn : p < n := by omega
    have hr := ly_rk_lt (ly_bf_sto b n) hpn
    refine pk_le n p (fun h => by omega) (fun _ => lx_count hn hb hB hF hL hpn ?_)
    refine And.intro (ly_in (by omega)) ?_
    intro a ea y ey
    refine ih (p + 1) (by omega) _ a (by rw [ey, nI_1]) (lt_s (fun q hq => ?_) ?_)
    · rw [ea, ly_un (by omega) (fun z => by
        have := ly_rk_inj (ly_bf_sto b n) (by omega) hpn z
        omega)]
      exact hI q hq
    · rw [ea]; exact ly_us (by omega) rfl
theorem lx_order {post : St2 → Prop} (hn : n ≤ 24) (hb : ∀ j, j < n → b j < 16) (hB : ∀ j, j < n → B j = nI (b j)) (hF : ∀ j, j < n → Fi j = nI (ly_st b n j)) (hL : ∀ j, j < n → La j = nI (ly_en b n j - 1)) (hp : ∀ Rw, (∀ q, q < n → Rw (ly_rk (ly_bf b n) n q) = nI q) → post (nI K, nI C, nI n, nI m, B, Cd, Fs, Fi, La, Rw, Su, Vi, Nb, Re)) : wpX_orderRows post (nI K, nI C, nI n, nI m, B, Cd, Fs, Fi, La, Rw, Su, Vi, Nb, Re) :=
  ⟨_, lx_order_loop hn hb hB hF hL hp n 0 (by omega) _ Rw rfl (fun q h => absurd h (Nat.not_lt_zero q))⟩
theorem lx_rowsAt {r : Nat} (h : ∀ q, q < n → Rw (ly_rk (ly_bf b n) n q) = nI q) (hr : r < n) : Rw r = nI (ly_row b n r) := by
  have h1 := ly_row_is b hr
  have h2 := h _ h1.1
  rw [h1.2] at h2
  exact h2
theorem lx_last {post : Int32 → Prop} {p : Nat} (hn : n ≤ 24) (hB : ∀ j, j < n → B j = nI (b j)) (hF : ∀ j, j < n → Fi j = nI (ly_st b n j)) (hL : ∀ j, j < n → La j = nI (ly_en b n j - 1)) (hpn : p < n) (hp : post (nI (ly_ll b n p))) : wpX_lastLetter post (nI K, nI C, nI n, nI m, B, Cd, Fs, Fi, La, Rw, Su, Vi, Nb, Re) (nI p) := by
  have h1 := ly_st_in b hpn
  refine And.intro (ly_in (by omega)) ?_
  refine pk_eq p (ly_st b n p) (fun e => ?_) (fun e => ?_) rfl (ly_rd hF hpn hn)
  · refine And.intro (ly_in (by omega)) ?_
    rw [ly_rd hL hpn hn]
    refine And.intro (ly_in (by omega)) ?_
    rw [ly_rd hB (by omega) hn]
    have e2 : ly_ll b n p = b (ly_en b n p - 1) := if_pos e
    rw [e2] at hp
    exact hp
  · rw [ly_s1 (b := p - 1) (by omega)]
    refine And.intro (ly_in (by omega)) ?_
    rw [ly_rd hB (by omega) hn]
    have e2 : ly_ll b n p = b (p - 1) := if_neg e
    rw [e2] at hp
    exact hp
theorem lx_take_loop {post : St2 → Prop} (hn : n ≤ 24) (hp : ∀ B, (∀ j, j < n → B j = Nb j) → post (nI K, nI C, nI n, nI m, B, Cd, Fs, Fi, La, Rw, Su, Vi, Nb, Re)) : ∀ d i, i + d = n → ∀ x1 B, x1 = nI i → (∀ j, j < i → B j = Nb j) → wX_takeNextBlock_2 post (nI K) (nI C) (nI n) (nI m) (d + 1) x1 B Cd Fs Fi La Rw Su Vi Nb Re := by
  intro d
  induction d with
  | zero =>
    rintro i hi x1 B rfl hI
    obtain rfl : i = n := by omega
    exact pk_le i i (fun _ => hp B hI) (fun h => by omega)
  | succ d ih =>
    rintro i hi x1 B rfl hI
    refine pk_le n i (fun h => by omega) (fun _ => And.intro (ly_in (by omega)) (And.intro (ly_in (by omega)) ?_))
    intro a ea y ey
    refine ih (i + 1) (by omega) _ a (by rw [ey, nI_1]) (lt_s (fun q hq => ?_) ?_)
    · rw [ea, ly_un (by omega) (by omega)]; exact hI q hq
    · rw [ea, ly_us (by omega) rfl, ly_cl (by omega)]
theorem lx_take {post : St2 → Prop} (hn : n ≤ 24) (hp : ∀ B, (∀ j, j < n → B j = Nb j) → post (nI K, nI C, nI n, nI m, B, Cd, Fs, Fi, La, Rw, Su, Vi, Nb, Re)) : wpX_takeNextBlock post (nI K, nI C, nI n, nI m, B, Cd, Fs, Fi, La, Rw, Su, Vi, Nb, Re) :=
  ⟨_, lx_take_loop hn hp n 0 (by omega) _ B rfl (fun q h => absurd h (Nat.not_lt_zero q))⟩
theorem lx_trans_loop {post : Int32 → St2 → Prop} {x : Int32} (hn : n ≤ 24) (hB : ∀ j, j < n → B j = nI (b j)) (hF : ∀ j, j < n → Fi j = nI (ly_st b n j)) (hL : ∀ j, j < n → La j = nI (ly_en b n j - 1)) (hR : ∀ q, q < n → Rw (ly_rk (ly_bf b n) n q) = nI q) (hp : ∀ B Nb, (∀ j, j < n → B j = nI (ly_T b n j)) → post x (nI K, nI C, nI n, nI m, B, Cd, Fs, Fi, La, Rw, Su, Vi, Nb, Re)) : ∀ d r, r + d = n → ∀ x2 Nb, x2 = nI r → (∀ j, j < r → Nb j = nI (ly_T b n j)) → wX_transform_11 post x (nI K) (nI C) (nI n) (nI m) (d + 1) x2 B Cd Fs Fi La Rw Su Vi Nb Re := by
  intro d
  induction d with
  | zero =>
    rintro r hr x2 Nb rfl hI
    obtain rfl : r = n := by omega
    refine pk_le r r (fun _ => lx_take hn (fun B' hB' => ?_)) (fun h => by omega)
    exact hp B' Nb (fun j hj => (hB' j hj).trans (hI j hj))
  | succ d ih =>
    rintro r hr x2 Nb rfl hI
    have hrn : r < n := by omega
    have h1 := ly_row_is b hrn
    refine pk_le n r (fun h => by omega) (fun _ => And.intro (ly_in (by omega)) ?_)
    rw [ly_cl (by omega), lx_rowsAt hR hrn]
    refine lx_last hn hB hF hL h1.1 ?_
    refine And.intro (ly_in (by omega)) ?_
    intro a ea y ey
    refine ih (r + 1) (by omega) _ a (by rw [ey, nI_1]) (lt_s (fun q hq => ?_) ?_)
    · rw [ea, pk_un (by omega)]; exact hI q hq
    · rw [ea, pk_us, ly_T_at b hrn]
theorem lx_transform {post : Int32 → St2 → Prop} (hn : n ≤ 24) (hb : ∀ j, j < n → b j < 16) (hB : ∀ j, j < n → B j = nI (b j)) (hp : ∀ B Fs Fi La Rw Nb, (∀ j, j < n → B j = nI (ly_T b n j)) → post (nI (ly_fc b n n)) (nI K, nI C, nI n, nI m, B, Cd, Fs, Fi, La, Rw, Su, Vi, Nb, Re)) : wpX_transform post (nI K, nI C, nI n, nI m, B, Cd, Fs, Fi, La, Rw, Su, Vi, Nb, Re) := by
  refine lx_cut hn hb hB (fun Fs' Fi' La' hc => ?_)
  refine lx_order hn hb hB hc.2.1 hc.2.2 (fun Rw' hR => ?_)
  exact ⟨_, lx_trans_loop hn hB hc.2.1 hc.2.2 hR (fun B' Nb' h => hp B' Fs' Fi' La' Rw' Nb' h) n 0 (by omega) _ Nb rfl (fun q h => absurd h (Nat.not_lt_zero q))⟩
/-- what factorStart answers -/
def ly_isFS (b : Nat → Nat) (n : Nat) (v r : Int32) : Prop := (∃ p, p < n ∧ ly_st b n p = p ∧ v = nI (ly_fc b n p) ∧ r = nI p) ∨ ((∀ p, p < n → ly_st b n p = p → ¬ v = nI (ly_fc b n p)) ∧ r = -1)
theorem ly_isFS_uniq {v r s : Int32} (hn : n ≤ 24) (h : ly_isFS b n v r) (g : ly_isFS b n v s) : s = r := by
  rcases h with ⟨p, h1, h2, h3, h4⟩ | ⟨h1, h2⟩ <;> rcases g with ⟨q, g1, g2, g3, g4⟩ | ⟨g1, g2⟩
  · have e : ly_fc b n p = ly_fc b n q := by
      have a1 : ly_fc b n p ≤ p := ly_cnt_le _ p
      have a2 : ly_fc b n q ≤ q := ly_cnt_le _ q
      exact (nI_eq (by omega) (by omega)).1 (h3.symm.trans g3)
    have hpq : ∀ p q, ly_st b n p = p → p < q → ly_fc b n p < ly_fc b n q := fun p q hp hpq => by
      have h5 := ly_cnt_up (fun p => ly_st b n p = p) (m := p + 1) (n := q) (by omega)
      rw [ly_cnt_t (P := fun p => ly_st b n p = p) hp] at h5
      exact h5
    by_cases c : p = q
    · rw [g4, h4, c]
    · by_cases d : p < q
      · have := hpq p q h2 d; omega
      · have := hpq q p g2 (by omega); omega
  · exact absurd h3 (g1 p h1 h2)
  · exact absurd g3 (h1 q g1 g2)
  · rw [g2, h2]
theorem ly_fc_find (b : Nat → Nat) (n : Nat) : ∀ i j, j < ly_fc b n i → ∃ p, p < i ∧ ly_st b n p = p ∧ ly_fc b n p = j := by
  intro i
  induction i with
  | zero => exact fun j h => absurd h (Nat.not_lt_zero j)
  | succ i ih =>
    intro j hj
    by_cases c : ly_st b n i = i
    · have e : ly_fc b n (i + 1) = ly_fc b n i + 1 := ly_cnt_t (P := fun p => ly_st b n p = p) c
      by_cases d : j = ly_fc b n i
      · exact ⟨i, by omega, c, d.symm⟩
      · obtain ⟨p, p1, p2⟩ := ih j (by omega)
        exact ⟨p, by omega, p2⟩
    · have e : ly_fc b n (i + 1) = ly_fc b n i := ly_cnt_f (P := fun p => ly_st b n p = p) c
      obtain ⟨p, p1, p2⟩ := ih j (by omega)
      exact ⟨p, by omega, p2⟩
theorem lx_factorStart {post : Int32 → St2 → Prop} {v : Int32} (hn : n ≤ 24) (hb : ∀ j, j < n → b j < 16) (hB : ∀ j, j < n → B j = nI (b j)) (hp : ∀ r Fs Fi La, ly_isFS b n v r → post r (nI K, nI C, nI n, nI m, B, Cd, Fs, Fi, La, Rw, Su, Vi, Nb, Re)) : wpX_factorStart post (nI K, nI C, nI n, nI m, B, Cd, Fs, Fi, La, Rw, Su, Vi, Nb, Re) v := by
  refine lx_cut hn hb hB (fun Fs' Fi' La' hc => ?_)
  have h1 : ly_fc b n n ≤ n := ly_cnt_le _ n
  have hlt : ∀ p, p < n → ly_st b n p = p → ly_fc b n p < ly_fc b n n := fun p hp hs => by
    have h5 := ly_cnt_up (fun p => ly_st b n p = p) (m := p + 1) (n := n) (by omega)
    rw [ly_cnt_t (P := fun p => ly_st b n p = p) hs] at h5
    exact h5
  rcases ly_ix3 v (n := ly_fc b n n) (by omega) with h | ⟨h, h2⟩ | ⟨j, hj, rfl⟩
  · refine br_t h (hp _ _ _ _ (Or.inr ⟨fun p _ _ z => ?_, rfl⟩))
    have a1 : ly_fc b n p ≤ n := by have := hlt p (by assumption) (by assumption); omega
    rw [z] at h
    exact nI_pos (by omega) h
  · refine br_f h (br_f h2 (hp _ _ _ _ (Or.inr ⟨fun p q1 q2 z => ?_, rfl⟩)))
    have a1 := hlt p q1 q2
    rw [z] at h2
    exact h2 (nI_lt a1 (by omega))
  · obtain ⟨p, p1, p2, p3⟩ := ly_fc_find b n n j hj
    refine br_f (nI_pos (by omega)) (br_t (nI_lt hj (by omega)) (And.intro (ly_in (by omega)) ?_))
    have e := hc.1 p p1 p2
    rw [p3] at e
    rw [ly_cl (by omega), e]
    exact hp _ _ _ _ (Or.inl ⟨p, p1, p2, by rw [p3], rfl⟩)
def ly_isRow (b : Nat → Nat) (n : Nat) (v r : Int32) : Prop := (∃ j, j < n ∧ v = nI j ∧ r = nI (ly_row b n j)) ∨ ((v < 0 ∨ ¬ v < nI n) ∧ r = -1)
theorem ly_isRow_uniq {v r s : Int32} (hn : n ≤ 24) (h : ly_isRow b n v r) (g : ly_isRow b n v s) : s = r := by
  have hx : ∀ j, j < n → v = nI j → ¬ (v < 0 ∨ ¬ v < nI n) := by
    rintro j hj rfl (z | z)
    · exact nI_pos (by omega) z
    · exact z (nI_lt hj (by omega))
  rcases h with ⟨j, h1, h2, h3⟩ | ⟨h1, h2⟩ <;> rcases g with ⟨l, g1, g2, g3⟩ | ⟨g1, g2⟩
  · have e : j = l := (nI_eq (by omega) (by omega)).1 (h2.symm.trans g2)
    rw [g3, h3, e]
  · exact absurd g1 (hx j h1 h2)
  · exact absurd h1 (hx l g1 g2)
  · rw [g2, h2]
theorem lx_rowAt {post : Int32 → St2 → Prop} {v : Int32} (hn : n ≤ 24) (hb : ∀ j, j < n → b j < 16) (hB : ∀ j, j < n → B j = nI (b j)) (hp : ∀ r Fs Fi La Rw, ly_isRow b n v r → post r (nI K, nI C, nI n, nI m, B, Cd, Fs, Fi, La, Rw, Su, Vi, Nb, Re)) : wpX_rowAt post (nI K, nI C, nI n, nI m, B, Cd, Fs, Fi, La, Rw, Su, Vi, Nb, Re) v := by
  rcases ly_ix3 v (n := n) (by omega) with h | ⟨h, h2⟩ | ⟨j, hj, rfl⟩
  · exact br_t h (hp _ _ _ _ _ (Or.inr ⟨Or.inl h, rfl⟩))
  · exact br_f h (br_f h2 (hp _ _ _ _ _ (Or.inr ⟨Or.inr h2, rfl⟩)))
  · refine br_f (nI_pos (by omega)) (br_t (nI_lt hj (by omega)) ?_)
    refine lx_cut hn hb hB (fun Fs' Fi' La' hc => ?_)
    refine lx_order hn hb hB hc.2.1 hc.2.2 (fun Rw' hR => ?_)
    refine And.intro (ly_in (by omega)) ?_
    rw [ly_cl (by omega), lx_rowsAt hR hj]
    exact hp _ _ _ _ _ (Or.inl ⟨j, hj, rfl, rfl⟩)
end
end
section
/-! the class: invert -/
section
variable {K C n m : Nat} {b R : Nat → Nat} {B Cd Fs Fi La Rw Su Vi Nb Re : Nat → Int32}
noncomputable def ly_g (b : Nat → Nat) (n : Nat) : Nat → Nat := ly_rk (ly_gR b) n
theorem ly_gp (b : Nat → Nat) (n : Nat) : ly_perm (ly_g b n) n := ly_g_perm b n
theorem lx_sorted_loop {post : Int32 → Prop} {i : Nat} (hn : n ≤ 24) (hb : ∀ j, j < n → b j < 16) (hB : ∀ j, j < n → B j = nI (b j)) (hi : i < n) (hp : post (nI (ly_g b n i))) : ∀ d j, j + d = n → ∀ x2 x3, x2 = nI (ly_cnt (fun q => ly_gR b q i) j) → x3 = nI j → wX_sortedPlace_4 post (nI i) (nI K) (nI C) (nI n) (nI m) B Cd Fs Fi La Rw Su Vi Nb Re (d + 1) x2 x3 := by
  intro d
  induction d with
  | zero =>
    rintro j hj x2 x3 rfl rfl
    obtain rfl : j = n := by omega
    exact pk_le j j (fun _ => hp) (fun h => by omega)
  | succ d ih =>
    rintro j hj x2 x3 rfl rfl
    have b1 := hb j (by omega)
    have b2 := hb i hi
    have yes : ly_gR b j i → ∀ y2 : Int32, y2 = nI (ly_cnt (fun q => ly_gR b q i) j) + 1 → ∀ y3 : Int32, y3 = nI j + 1 → wX_sortedPlace_4 post (nI i) (nI K) (nI C) (nI n) (nI m) B Cd Fs Fi La Rw Su Vi Nb Re (d + 1) y2 y3 := fun h y2 e2 y3 e3 => by
      refine ih (j + 1) (by omega) _ _ ?_ ?_
      · rw [e2, nI_1, ly_cnt_t (P := fun q => ly_gR b q i) h]
      · rw [e3, nI_1]
    have no : ¬ ly_gR b j i → ∀ y3 : Int32, y3 = nI j + 1 → wX_sortedPlace_4 post (nI i) (nI K) (nI C) (nI n) (nI m) B Cd Fs Fi La Rw Su Vi Nb Re (d + 1) (nI (ly_cnt (fun q => ly_gR b q i) j)) y3 := fun h y3 e3 => by
      refine ih (j + 1) (by omega) _ _ ?_ ?_
      · rw [ly_cnt_f (P := fun q => ly_gR b q i) h]
      · rw [e3, nI_1]
    refine pk_le n j (fun h => by omega) (fun _ => And.intro (ly_in (by omega)) (And.intro (ly_in (by omega)) ?_))
    refine pk_lt (b j) (b i) (fun h => yes (Or.inl h)) (fun h => ?_) (ly_rd hB (by omega) hn) (ly_rd hB hi hn)
    refine And.intro (ly_in (by omega)) (And.intro (ly_in (by omega)) ?_)
    refine pk_eq (b j) (b i) (fun e => ?_) (fun e => no (fun z => by unfold ly_gR at z; omega)) (ly_rd hB (by omega) hn) (ly_rd hB hi hn)
    exact pk_le i j (fun l => no (fun z => by unfold ly_gR at z; omega)) (fun l => yes (Or.inr ⟨e, l⟩))
theorem lx_sorted {post : Int32 → Prop} {i : Nat} (hn : n ≤ 24) (hb : ∀ j, j < n → b j < 16) (hB : ∀ j, j < n → B j = nI (b j)) (hi : i < n) (hp : post (nI (ly_g b n i))) : wpX_sortedPlace post (nI K, nI C, nI n, nI m, B, Cd, Fs, Fi, La, Rw, Su, Vi, Nb, Re) (nI i) :=
  ⟨_, lx_sorted_loop hn hb hB hi hp n 0 (by omega) _ _ rfl rfl⟩
theorem lx_find_loop {post : St2 → Prop} (hn : n ≤ 24) (hb : ∀ j, j < n → b j < 16) (hB : ∀ j, j < n → B j = nI (b j)) (hp : ∀ Su Vi, (∀ q, q < n → Su q = nI (ly_g b n q)) → (∀ q, q < n → Vi q = 0) → post (nI K, nI C, nI n, nI m, B, Cd, Fs, Fi, La, Rw, Su, Vi, Nb, Re)) : ∀ d i, i + d = n → ∀ x1 Su Vi, x1 = nI i → (∀ q, q < i → Su q = nI (ly_g b n q)) → (∀ q, q < i → Vi q = 0) → wX_findSuccessors_2 post (nI K) (nI C) (nI n) (nI m) (d + 1) x1 B Cd Fs Fi La Rw Su Vi Nb Re := by
  intro d
  induction d with
  | zero =>
    rintro i hi x1 Su Vi rfl h1 h2
    obtain rfl : i = n := by omega
    exact pk_le i i (fun _ => hp Su Vi h1 h2) (fun h => by omega)
  | succ d ih =>
    rintro i hi x1 Su Vi rfl h1 h2
    refine pk_le n i (fun h => by omega) (fun _ => lx_sorted hn hb hB (by omega) ?_)
    refine And.intro (ly_in (by omega)) ?_
    intro a ea
    refine And.intro (ly_in (by omega)) ?_
    intro a2 ea2 y ey
    refine ih (i + 1) (by omega) _ a a2 (by rw [ey, nI_1]) (lt_s (fun q hq => ?_) ?_) (lt_s (fun q hq => ?_) ?_)
    · rw [ea, ly_un (by omega) (by omega)]; exact h1 q hq
    · rw [ea]; exact ly_us (by omega) rfl
    · rw [ea2, ly_un (by omega) (by omega)]; exact h2 q hq
    · rw [ea2, ly_us (by omega) rfl]
theorem lx_find {post : St2 → Prop} (hn : n ≤ 24) (hb : ∀ j, j < n → b j < 16) (hB : ∀ j, j < n → B j = nI (b j)) (hp : ∀ Su Vi, (∀ q, q < n → Su q = nI (ly_g b n q)) → (∀ q, q < n → Vi q = 0) → post (nI K, nI C, nI n, nI m, B, Cd, Fs, Fi, La, Rw, Su, Vi, Nb, Re)) : wpX_findSuccessors post (nI K, nI C, nI n, nI m, B, Cd, Fs, Fi, La, Rw, Su, Vi, Nb, Re) :=
  ⟨_, lx_find_loop hn hb hB hp n 0 (by omega) _ Su Vi rfl (fun q h => absurd h (Nat.not_lt_zero q)) (fun q h => absurd h (Nat.not_lt_zero q))⟩
theorem lx_write_loop {post : Int32 → St2 → Prop} {i : Nat} (hn : n ≤ 24) (hB : ∀ j, j < n → B j = nI (b j)) (hS : ∀ q, q < n → Su q = nI (ly_g b n q)) (hR : ly_isR b (ly_g b n) n n R) (hi : i < n) (hv : ¬ ly_V (ly_g b n) i i) (hp : ∀ Vi Nb, (∀ j, j < n → Vi j = ly_bit (ly_V (ly_g b n) (i + 1) j)) → (∀ j, ly_U (ly_g b n) n (i + 1) ≤ j → j < n → Nb j = nI (R j)) → post (nI (ly_U (ly_g b n) n (i + 1))) (nI K, nI C, nI n, nI m, B, Cd, Fs, Fi, La, Rw, Su, Vi, Nb, Re)) : ∀ d k, k + d = ly_len (ly_g b n) i → ∀ x3 x4 Vi Nb, x3 = nI (ly_it (ly_g b n) i k) → x4 = nI (ly_U (ly_g b n) n i - k) → (∀ j, j < n → Vi j = ly_bit (ly_Vk (ly_g b n) i k j)) → (∀ j, ly_U (ly_g b n) n i - k ≤ j → j < n → Nb j = nI (R j)) → wX_writeCycleBackwards_5 post (nI K) (nI C) (nI n) (nI m) (d + 1) x3 x4 B Cd Fs Fi La Rw Su Vi Nb Re := by
  have hU := ly_U_new (ly_gp b n) hi hv
  have hUn := ly_U_le (ly_g b n) n i
  intro d
  induction d with
  | zero =>
    rintro k hk x3 x4 Vi Nb rfl rfl h1 h2
    obtain rfl : k = ly_len (ly_g b n) i := by omega
    have e : ly_U (ly_g b n) n i - ly_len (ly_g b n) i = ly_U (ly_g b n) n (i + 1) := by omega
    have hf := hp Vi Nb (fun j hj => by rw [h1 j hj]; exact congrArg ly_bit (propext (ly_Vk_L (ly_gp b n) hi j))) (fun j a c => h2 j (by omega) c)
    have hl := ly_it_lt (ly_gp b n) hi (ly_len (ly_g b n) i)
    rw [e]
    refine pk_le (ly_U (ly_g b n) n (i + 1)) 0 (fun z => ?_) (fun z => And.intro (ly_in (by omega)) ?_)
    · have e0 : ly_U (ly_g b n) n (i + 1) = 0 := by omega
      rw [e0] at hf
      exact hf
    · rw [ly_cl (by omega), h1 _ hl]
      exact ly_bit_br (fun _ => hf) (fun z => absurd (ly_Vk_end (ly_gp b n) hi) z)
  | succ d ih =>
    rintro k hk x3 x4 Vi Nb rfl rfl h1 h2
    have hl := ly_it_lt (ly_gp b n) hi k
    refine pk_le (ly_U (ly_g b n) n i - k) 0 (fun z => by omega) (fun z => And.intro (ly_in (by omega)) ?_)
    have hnew := ly_Vk_new (ly_gp b n) hi hv (k := k) (by omega)
    rw [ly_cl (by omega), h1 _ hl]
    refine ly_bit_br (fun z => absurd z hnew) (fun _ => And.intro (ly_in (by omega)) ?_)
    intro a ea
    refine And.intro (ly_in (by omega)) ?_
    rw [ly_s1 (b := ly_U (ly_g b n) n i - 1 - k) (by omega)]
    refine And.intro (ly_in (by omega)) ?_
    intro a2 ea2
    refine And.intro (ly_in (by omega)) ?_
    intro y3 e3 y4 e4
    refine ih (k + 1) (by omega) _ _ a a2 ?_ ?_ (fun j hj => ?_) (fun j hj hj2 => ?_)
    · rw [e3]
      first | exact hS _ hl | (rw [ly_cl (by omega)]; exact hS _ hl)
    · rw [e4]; exact ly_d1 (by omega)
    · by_cases c : j = ly_it (ly_g b n) i k
      · rw [ea, c, pk_us, ly_bit_t ((ly_Vk_s _ i k _).2 (Or.inr rfl))]
      · rw [ea, pk_un c, h1 j hj]
        exact congrArg ly_bit (propext ⟨fun z => (ly_Vk_s _ i k j).2 (Or.inl z), fun z => ((ly_Vk_s _ i k j).1 z).resolve_right c⟩)
    · by_cases c : j = ly_U (ly_g b n) n i - 1 - k
      · rw [ea2, ly_us (by omega) c, hB _ hl, c, hR i hi hv k (by omega)]
      · rw [ea2, ly_un (by omega) c]
        exact h2 j (by omega) hj2
theorem lx_write {post : Int32 → St2 → Prop} {i : Nat} (hn : n ≤ 24) (hB : ∀ j, j < n → B j = nI (b j)) (hS : ∀ q, q < n → Su q = nI (ly_g b n q)) (hR : ly_isR b (ly_g b n) n n R) (hi : i < n) (hv : ¬ ly_V (ly_g b n) i i) (h1 : ∀ j, j < n → Vi j = ly_bit (ly_V (ly_g b n) i j)) (h2 : ∀ j, ly_U (ly_g b n) n i ≤ j → j < n → Nb j = nI (R j)) (hp : ∀ Vi Nb, (∀ j, j < n → Vi j = ly_bit (ly_V (ly_g b n) (i + 1) j)) → (∀ j, ly_U (ly_g b n) n (i + 1) ≤ j → j < n → Nb j = nI (R j)) → post (nI (ly_U (ly_g b n) n (i + 1))) (nI K, nI C, nI n, nI m, B, Cd, Fs, Fi, La, Rw, Su, Vi, Nb, Re)) : wpX_writeCycleBackwards post (nI K, nI C, nI n, nI m, B, Cd, Fs, Fi, La, Rw, Su, Vi, Nb, Re) (nI i) (nI (ly_U (ly_g b n) n i)) :=
  ⟨_, lx_write_loop hn hB hS hR hi hv hp (ly_len (ly_g b n) i) 0 (by omega) _ _ Vi Nb rfl rfl (fun j hj => by rw [h1 j hj]; exact congrArg ly_bit (propext (ly_Vk_0 _ i j).symm)) h2⟩
theorem lx_inv_loop {post : Int32 → St2 → Prop} (hn : n ≤ 24) (hB : ∀ j, j < n → B j = nI (b j)) (hS : ∀ q, q < n → Su q = nI (ly_g b n q)) (hR : ly_isR b (ly_g b n) n n R) (hp : ∀ B Vi Nb, (∀ j, j < n → B j = nI (R j)) → post (nI (ly_cc (ly_g b n) n)) (nI K, nI C, nI n, nI m, B, Cd, Fs, Fi, La, Rw, Su, Vi, Nb, Re)) : ∀ d i, i + d = n → ∀ x1 x2 x3 Vi Nb, x1 = nI (ly_cc (ly_g b n) i) → x2 = nI (ly_U (ly_g b n) n i) → x3 = nI i → (∀ j, j < n → Vi j = ly_bit (ly_V (ly_g b n) i j)) → (∀ j, ly_U (ly_g b n) n i ≤ j → j < n → Nb j = nI (R j)) → wX_invert_13 post (d + 1) x1 x2 x3 (nI K) (nI C) (nI n) (nI m) B Cd Fs Fi La Rw Su Vi Nb Re := by
  intro d
  induction d with
  | zero =>
    rintro i hi x1 x2 x3 Vi Nb rfl rfl rfl h1 h2
    obtain rfl : i = n := by omega
    refine pk_le i i (fun _ => lx_take hn (fun B' hB' => ?_)) (fun h => by omega)
    refine hp B' Vi Nb (fun j hj => (hB' j hj).trans (h2 j ?_ hj))
    rw [ly_U_n]; omega
  | succ d ih =>
    rintro i hi x1 x2 x3 Vi Nb rfl rfl rfl h1 h2
    refine pk_le n i (fun h => by omega) (fun _ => And.intro (ly_in (by omega)) ?_)
    rw [ly_cl (by omega), h1 i (by omega)]
    refine ly_bit_br (fun hv => ?_) (fun hv => ?_)
    · intro y ey
      refine ih (i + 1) (by omega) _ _ _ Vi Nb ?_ ?_ (by rw [ey, nI_1]) (fun j hj => ?_) (fun j a c => ?_)
      · exact ly_eq2 (ly_cnt_f (P := fun a => ¬ ly_V (ly_g b n) a a) (fun z => z hv)).symm
      · rw [ly_U_old hv]
      · rw [h1 j hj]; exact congrArg ly_bit (propext (ly_V_old hv j).symm)
      · rw [ly_U_old hv] at a; exact h2 j a c
    · refine lx_write hn hB hS hR (by omega) hv h1 h2 (fun Vi' Nb' g1 g2 => ?_)
      intro y1 e1 y3 e3
      refine ih (i + 1) (by omega) _ _ _ Vi' Nb' ?_ rfl (by rw [e3, nI_1]) g1 g2
      rw [e1, nI_1]
      exact ly_eq2 (ly_cnt_t (P := fun a => ¬ ly_V (ly_g b n) a a) hv).symm
theorem lx_invert {post : Int32 → St2 → Prop} (hn : n ≤ 24) (hb : ∀ j, j < n → b j < 16) (hB : ∀ j, j < n → B j = nI (b j)) (hR : ly_isR b (ly_g b n) n n R) (hp : ∀ B Su Vi Nb, (∀ j, j < n → B j = nI (R j)) → post (nI (ly_cc (ly_g b n) n)) (nI K, nI C, nI n, nI m, B, Cd, Fs, Fi, La, Rw, Su, Vi, Nb, Re)) : wpX_invert post (nI K, nI C, nI n, nI m, B, Cd, Fs, Fi, La, Rw, Su, Vi, Nb, Re) := by
  refine lx_find hn hb hB (fun Su' Vi' hS hV => ?_)
  refine ⟨_, lx_inv_loop hn hB hS hR (fun B' Vi'' Nb' h => hp B' Su' Vi'' Nb' h) n 0 (by omega) _ _ _ Vi' Nb rfl ?_ rfl (fun j hj => ?_) (fun j a c => ?_)⟩
  · rw [ly_U_0]
  · rw [hV j hj, ly_bit_f (ly_V_0 _ j)]
  · rw [ly_U_0] at a; omega
end
end
section
/-! the class: front and unfront -/
section
variable {K C n m : Nat} {b t R D : Nat → Nat} {B Cd Fs Fi La Rw Su Vi Nb Re : Nat → Int32}
theorem lx_reset_loop {post : St2 → Prop} (hK : K ≤ 16) (hp : ∀ Re, (∀ q, q < K → Re q = nI q) → post (nI K, nI C, nI n, nI m, B, Cd, Fs, Fi, La, Rw, Su, Vi, Nb, Re)) : ∀ d i, i + d = K → ∀ x1 Re, x1 = nI i → (∀ q, q < i → Re q = nI q) → wX_resetRecent_2 post (nI K) (nI C) (nI n) (nI m) (d + 1) x1 B Cd Fs Fi La Rw Su Vi Nb Re := by
  intro d
  induction d with
  | zero =>
    rintro i hi x1 Re rfl h1
    obtain rfl : i = K := by omega
    exact pk_le i i (fun _ => hp Re h1) (fun h => by omega)
  | succ d ih =>
    rintro i hi x1 Re rfl h1
    refine pk_le K i (fun h => by omega) (fun _ => And.intro (ly_in16 (by omega)) ?_)
    intro a ea y ey
    refine ih (i + 1) (by omega) _ a (by rw [ey, nI_1]) (lt_s (fun q hq => ?_) ?_)
    · rw [ea, ly_un (by omega) (by omega)]; exact h1 q hq
    · rw [ea]; exact ly_us (by omega) rfl
theorem lx_reset {post : St2 → Prop} (hK : K ≤ 16) (hp : ∀ Re, (∀ q, q < K → Re q = nI q) → post (nI K, nI C, nI n, nI m, B, Cd, Fs, Fi, La, Rw, Su, Vi, Nb, Re)) : wpX_resetRecent post (nI K, nI C, nI n, nI m, B, Cd, Fs, Fi, La, Rw, Su, Vi, Nb, Re) :=
  ⟨_, lx_reset_loop hK hp K 0 (by omega) _ Re rfl (fun q h => absurd h (Nat.not_lt_zero q))⟩
theorem lx_place_loop {post : Int32 → Prop} {i s : Nat} (hK : K ≤ 16) (hK1 : 1 ≤ K) (hs : s < K) (hR : ly_Rc t K i R) (hRe : ∀ q, q < K → Re q = nI (R q)) (hp : post (nI (ly_pl t K i s))) : ∀ d p, p + d = K - 1 → p ≤ ly_pl t K i s → ∀ x3, x3 = nI p → wX_placeOf_9 post (nI s) (nI (K - 1)) (nI K) (nI C) (nI n) (nI m) B Cd Fs Fi La Rw Su Vi Nb Re (d + 1) x3 := by
  have hl := ly_pl_lt (t := t) (i := i) hs
  intro d
  induction d with
  | zero =>
    rintro p hpd hle x3 rfl
    refine pk_le (K - 1) p (fun _ => ?_) (fun h => by omega)
    have e : ly_pl t K i s = K - 1 := by omega
    rw [e] at hp
    exact hp
  | succ d ih =>
    rintro p hpd hle x3 rfl
    have h1 := hR p (by omega)
    refine pk_le (K - 1) p (fun h => by omega) (fun _ => And.intro (ly_in16 (by omega)) ?_)
    rw [ly_cl (by omega), hRe p (by omega)]
    refine pk_eq (R p) s (fun e => ?_) (fun e => ?_)
    · have h2 := h1.2
      rw [e] at h2
      rw [h2] at hp
      exact hp
    · intro y ey
      refine ih (p + 1) (by omega) ?_ _ (by rw [ey, nI_1])
      by_cases c : p = ly_pl t K i s
      · have := ly_Rc_at hR hs
        rw [← c] at this
        exact absurd this e
      · omega
theorem lx_place {post : Int32 → Prop} {i s : Nat} (hK : K ≤ 16) (hK1 : 1 ≤ K) (hs : s < K) (hR : ly_Rc t K i R) (hRe : ∀ q, q < K → Re q = nI (R q)) (hp : post (nI (ly_pl t K i s))) : wpX_placeOf post (nI K, nI C, nI n, nI m, B, Cd, Fs, Fi, La, Rw, Su, Vi, Nb, Re) (nI s) :=
  nm_r (ly_s1 (b := K - 1) (by omega)) ⟨_, lx_place_loop hK hK1 hs hR hRe hp (K - 1) 0 (by omega) (by omega) _ rfl⟩
theorem lx_bring_loop {post : Int32 → St2 → Prop} {j : Nat} (hK : K ≤ 16) (hj : j < K) (hp : ∀ Re, (∀ p, p < K → Re p = nI (ly_mv R j (R j) p)) → post (nI (R j)) (nI K, nI C, nI n, nI m, B, Cd, Fs, Fi, La, Rw, Su, Vi, Nb, Re)) : ∀ k, k ≤ j → ∀ x3 Re, x3 = nI k → (∀ p, p < K → Re p = nI (if k < p ∧ p ≤ j then R (p - 1) else R p)) → wX_bringToFront_9 post (nI (R j)) (nI K) (nI C) (nI n) (nI m) (k + 1) x3 B Cd Fs Fi La Rw Su Vi Nb Re := by
  intro k
  induction k with
  | zero =>
    rintro hk x3 Re rfl h1
    refine pk_le 0 0 (fun _ => ?_) (fun h => by omega)
    intro a ea
    refine hp a (fun p hpK => ?_)
    unfold ly_mv
    by_cases c : p = 0
    · rw [ea, c, pk_us, if_pos rfl]
    · rw [ea, pk_un c, h1 p hpK, if_neg c]
      by_cases d : p ≤ j
      · rw [if_pos d, if_pos ⟨by omega, d⟩]
      · rw [if_neg d, if_neg (fun z => d z.2)]
  | succ k ih =>
    rintro hk x3 Re rfl h1
    refine pk_le (k + 1) 0 (fun h => by omega) (fun _ => ?_)
    rw [ly_s1 (b := k) rfl]
    refine And.intro (ly_in16 (by omega)) (And.intro (ly_in16 (by omega)) ?_)
    intro a ea y ey
    refine ih (by omega) _ a (by rw [ey]; exact ly_d1 rfl) (fun p hpK => ?_)
    by_cases c : p = k + 1
    · rw [ea, ly_us (by omega) c, ly_cl (by omega), h1 k (by omega), if_neg (by omega), if_pos ⟨by omega, by omega⟩, c]
      rfl
    · rw [ea, ly_un (by omega) c, h1 p hpK]
      by_cases d : k + 1 < p ∧ p ≤ j
      · rw [if_pos d, if_pos ⟨by omega, d.2⟩]
      · rw [if_neg d, if_neg (fun z => d ⟨by omega, z.2⟩)]
theorem lx_bring {post : Int32 → St2 → Prop} {j : Nat} (hK : K ≤ 16) (hj : j < K) (hRe : ∀ q, q < K → Re q = nI (R q)) (hp : ∀ Re, (∀ p, p < K → Re p = nI (ly_mv R j (R j) p)) → post (nI (R j)) (nI K, nI C, nI n, nI m, B, Cd, Fs, Fi, La, Rw, Su, Vi, Nb, Re)) : wpX_bringToFront post (nI K, nI C, nI n, nI m, B, Cd, Fs, Fi, La, Rw, Su, Vi, Nb, Re) (nI j) := by
  refine And.intro (ly_in16 (by omega)) (nm_r (e' := nI (R j)) (by rw [ly_cl (by omega)]; exact hRe j hj) ?_)
  refine ⟨_, lx_bring_loop hK hj hp j (Nat.le_refl j) _ Re rfl (fun p hpK => ?_)⟩
  rw [hRe p hpK, if_neg (by omega)]
theorem lx_bring2_loop {post : Int32 → St2 → Prop} {j : Nat} (hK : K ≤ 16) (hj : j < K) (hp : ∀ Re, (∀ p, p < K → Re p = nI (ly_mv R j (R j) p)) → post (nI (R j)) (nI K, nI C, nI n, nI m, B, Cd, Fs, Fi, La, Rw, Su, Vi, Nb, Re)) : ∀ k, k ≤ j → ∀ x3 Re, x3 = nI k → (∀ p, p < K → Re p = nI (if k < p ∧ p ≤ j then R (p - 1) else R p)) → wX_bringToFront_2_9 post (nI (R j)) (nI K) (nI C) (nI n) (nI m) (k + 1) x3 B Cd Fs Fi La Rw Su Vi Nb Re := by
  intro k
  induction k with
  | zero =>
    rintro hk x3 Re rfl h1
    refine pk_le 0 0 (fun _ => ?_) (fun h => by omega)
    intro a ea
    refine hp a (fun p hpK => ?_)
    unfold ly_mv
    by_cases c : p = 0
    · rw [ea, c, pk_us, if_pos rfl]
    · rw [ea, pk_un c, h1 p hpK, if_neg c]
      by_cases d : p ≤ j
      · rw [if_pos d, if_pos ⟨by omega, d⟩]
      · rw [if_neg d, if_neg (fun z => d z.2)]
  | succ k ih =>
    rintro hk x3 Re rfl h1
    refine pk_le (k + 1) 0 (fun h => by omega) (fun _ => ?_)
    rw [ly_s1 (b := k) rfl]
    refine And.intro (ly_in16 (by omega)) (And.intro (ly_in16 (by omega)) ?_)
    intro a ea y ey
    refine ih (by omega) _ a (by rw [ey]; exact ly_d1 rfl) (fun p hpK => ?_)
    by_cases c : p = k + 1
    · rw [ea, ly_us (by omega) c, ly_cl (by omega), h1 k (by omega), if_neg (by omega), if_pos ⟨by omega, by omega⟩, c]
      rfl
    · rw [ea, ly_un (by omega) c, h1 p hpK]
      by_cases d : k + 1 < p ∧ p ≤ j
      · rw [if_pos d, if_pos ⟨by omega, d.2⟩]
      · rw [if_neg d, if_neg (fun z => d ⟨by omega, z.2⟩)]
theorem lx_bring2 {post : Int32 → St2 → Prop} {j : Nat} (hK : K ≤ 16) (hj : j < K) (hRe : ∀ q, q < K → Re q = nI (R q)) (hp : ∀ Re, (∀ p, p < K → Re p = nI (ly_mv R j (R j) p)) → post (nI (R j)) (nI K, nI C, nI n, nI m, B, Cd, Fs, Fi, La, Rw, Su, Vi, Nb, Re)) : wpX_bringToFront_2 post (nI K, nI C, nI n, nI m, B, Cd, Fs, Fi, La, Rw, Su, Vi, Nb, Re) (nI j) := by
  refine And.intro (ly_in16 (by omega)) (nm_r (e' := nI (R j)) (by rw [ly_cl (by omega)]; exact hRe j hj) ?_)
  refine ⟨_, lx_bring2_loop hK hj hp j (Nat.le_refl j) _ Re rfl (fun p hpK => ?_)⟩
  rw [hRe p hpK, if_neg (by omega)]
theorem lx_front_loop {post : St2 → Prop} (hK : K ≤ 16) (hK1 : 1 ≤ K) (hn : n ≤ 24) (hb : ∀ j, j < n → b j < K) (hp : ∀ B Re, (∀ j, j < n → B j = nI (ly_F b K j)) → post (nI K, nI C, nI n, nI m, B, Cd, Fs, Fi, La, Rw, Su, Vi, Nb, Re)) : ∀ d i, i + d = n → ∀ x1 B Re R, x1 = nI i → ly_Rc b K i R → (∀ q, q < K → Re q = nI (R q)) → (∀ j, j < i → B j = nI (ly_F b K j)) → (∀ j, i ≤ j → j < n → B j = nI (b j)) → wX_front_6 post (d + 1) x1 (nI K) (nI C) (nI n) (nI m) B Cd Fs Fi La Rw Su Vi Nb Re := by
  intro d
  induction d with
  | zero =>
    rintro i hi x1 B Re R rfl h1 h2 h3 h4
    obtain rfl : i = n := by omega
    exact pk_le i i (fun _ => hp B Re h3) (fun h => by omega)
  | succ d ih =>
    rintro i hi x1 B Re R rfl h1 h2 h3 h4
    have hbi := hb i (by omega)
    refine pk_le n i (fun h => by omega) (fun _ => And.intro (ly_in (by omega)) ?_)
    rw [ly_cl (by omega), h4 i (Nat.le_refl i) (by omega)]
    refine lx_place hK hK1 hbi h1 h2 ?_
    refine lx_bring2 hK (ly_pl_lt hbi) h2 (fun Re' hRe' => ?_)
    rw [ly_Rc_at h1 hbi] at hRe'
    refine And.intro (ly_in (by omega)) ?_
    intro a ea y ey
    refine ih (i + 1) (by omega) _ a Re' _ (by rw [ey, nI_1]) (ly_Rc_s h1 hbi) hRe' (lt_s (fun j hj => ?_) ?_) (fun j hj hj2 => ?_)
    · rw [ea, pk_un (by omega)]; exact h3 j hj
    · rw [ea, pk_us]; rfl
    · rw [ea, pk_un (by omega)]; exact h4 j (by omega) hj2
theorem lx_front {post : St2 → Prop} (hK : K ≤ 16) (hK1 : 1 ≤ K) (hn : n ≤ 24) (hb : ∀ j, j < n → b j < K) (hB : ∀ j, j < n → B j = nI (b j)) (hp : ∀ B Re, (∀ j, j < n → B j = nI (ly_F b K j)) → post (nI K, nI C, nI n, nI m, B, Cd, Fs, Fi, La, Rw, Su, Vi, Nb, Re)) : wpX_front post (nI K, nI C, nI n, nI m, B, Cd, Fs, Fi, La, Rw, Su, Vi, Nb, Re) := by
  refine lx_reset hK (fun Re' hRe' => ?_)
  exact ⟨_, lx_front_loop hK hK1 hn hb hp n 0 (by omega) _ B Re' (fun p => p) rfl (ly_Rc_0 b K) hRe' (fun q h => absurd h (Nat.not_lt_zero q)) (fun j _ hj => hB j hj)⟩
theorem lx_unfront_loop {post : St2 → Prop} (hK : K ≤ 16) (hn : n ≤ 24) (hb : ∀ j, j < n → b j < K) (hD : ly_isD b K n D) (hp : ∀ B Re, (∀ j, j < n → B j = nI (D j)) → post (nI K, nI C, nI n, nI m, B, Cd, Fs, Fi, La, Rw, Su, Vi, Nb, Re)) : ∀ d i, i + d = n → ∀ x1 B Re R, x1 = nI i → ly_Rc D K i R → (∀ q, q < K → Re q = nI (R q)) → (∀ j, j < i → B j = nI (D j)) → (∀ j, i ≤ j → j < n → B j = nI (b j)) → wX_unfront_6 post (d + 1) x1 (nI K) (nI C) (nI n) (nI m) B Cd Fs Fi La Rw Su Vi Nb Re := by
  intro d
  induction d with
  | zero =>
    rintro i hi x1 B Re R rfl h1 h2 h3 h4
    obtain rfl : i = n := by omega
    exact pk_le i i (fun _ => hp B Re h3) (fun h => by omega)
  | succ d ih =>
    rintro i hi x1 B Re R rfl h1 h2 h3 h4
    have hbi := hb i (by omega)
    have hDi := hD i (by omega)
    have hat := ly_Rc_at h1 hDi.1
    rw [hDi.2] at hat
    refine pk_le n i (fun h => by omega) (fun _ => And.intro (ly_in (by omega)) ?_)
    rw [ly_cl (by omega), h4 i (Nat.le_refl i) (by omega)]
    refine lx_bring hK hbi h2 (fun Re' hRe' => ?_)
    rw [hat] at hRe' ⊢
    refine And.intro (ly_in (by omega)) ?_
    intro a ea y ey
    have hs := ly_Rc_s h1 hDi.1
    rw [hDi.2] at hs
    refine ih (i + 1) (by omega) _ a Re' _ (by rw [ey, nI_1]) hs hRe' (lt_s (fun j hj => ?_) ?_) (fun j hj hj2 => ?_)
    · rw [ea, pk_un (by omega)]; exact h3 j hj
    · rw [ea, pk_us]
    · rw [ea, pk_un (by omega)]; exact h4 j (by omega) hj2
theorem lx_unfront {post : St2 → Prop} (hK : K ≤ 16) (hn : n ≤ 24) (hb : ∀ j, j < n → b j < K) (hB : ∀ j, j < n → B j = nI (b j)) (hD : ly_isD b K n D) (hp : ∀ B Re, (∀ j, j < n → B j = nI (D j)) → post (nI K, nI C, nI n, nI m, B, Cd, Fs, Fi, La, Rw, Su, Vi, Nb, Re)) : wpX_unfront post (nI K, nI C, nI n, nI m, B, Cd, Fs, Fi, La, Rw, Su, Vi, Nb, Re) := by
  refine lx_reset hK (fun Re' hRe' => ?_)
  exact ⟨_, lx_unfront_loop hK hn hb hD hp n 0 (by omega) _ B Re' (fun p => p) rfl (ly_Rc_0 D K) hRe' (fun q h => absurd h (Nat.not_lt_zero q)) (fun j _ hj => hB j hj)⟩
end
end
section
/-! the class: pack, unpack, the appends -/
section
variable {K C n m : Nat} {b c s : Nat → Nat} {B Cd Fs Fi La Rw Su Vi Nb Re : Nat → Int32}
theorem ly_2 : (2 : Int32) = nI 2 := rfl
theorem ly_rem2 {z : Nat} (h : z < 2 ^ 31) : nI z - nI z / 2 * 2 = nI (z % 2) := pk_rem (d := 2) h (by decide) (by decide)
theorem ly_div2 {z : Nat} (h : z < 2 ^ 31) : nI z / 2 = nI (z / 2) := pk_div (d := 2) h (by decide) (by decide)
theorem ly_mul2 (z : Nat) : nI z * 2 = nI (z * 2) := pk_mul z 2
theorem ly_sub2 {z : Nat} (h : 2 ≤ z) : nI z - 2 = nI (z - 2) := pk_sub (b := 2) h
theorem lx_appSym {post : St2 → Prop} {x : Int32} (hC : C ≤ 24) (h : n < C) (hp : ∀ B', B' = upd B n x → post (nI K, nI C, nI (n + 1), nI m, B', Cd, Fs, Fi, La, Rw, Su, Vi, Nb, Re)) : wpX_appendSymbol post (nI K, nI C, nI n, nI m, B, Cd, Fs, Fi, La, Rw, Su, Vi, Nb, Re) x := by
  refine pk_le C n (fun z => by omega) (fun _ => And.intro (ly_in (by omega)) ?_)
  intro a ea
  refine nm_r (nI_1 n) (hp a ?_)
  rw [ea, ly_cl (by omega)]
theorem lx_appTok {post : St2 → Prop} {x : Int32} (hC : C ≤ 24) (h : m < C) (hp : ∀ Cd', Cd' = upd Cd m x → post (nI K, nI C, nI n, nI (m + 1), B, Cd', Fs, Fi, La, Rw, Su, Vi, Nb, Re)) : wpX_appendToken post (nI K, nI C, nI n, nI m, B, Cd, Fs, Fi, La, Rw, Su, Vi, Nb, Re) x := by
  refine pk_le C m (fun z => by omega) (fun _ => And.intro (ly_in (by omega)) ?_)
  intro a ea
  refine nm_r (nI_1 m) (hp a ?_)
  rw [ea, ly_cl (by omega)]
theorem lx_num_loop {post : St2 → Prop} {z e1 : Nat} (hC : C ≤ 24) (hz : z ≤ 30) (he : e1 ≤ C) (hp : ∀ Cd, (∀ j, j < e1 → Cd j = nI (c j)) → post (nI K, nI C, nI n, nI e1, B, Cd, Fs, Fi, La, Rw, Su, Vi, Nb, Re)) : ∀ f r e k, r < f → e + r ≤ z → k + ly_dl r = e1 → (∀ d, d < ly_dl r → c (k + d) = ly_tok r d) → ∀ x2 x3 Cd, x2 = nI r → x3 = nI e → (∀ j, j < k → Cd j = nI (c j)) → wX_appendNumeral_4 post (nI z) f x2 x3 (nI K) (nI C) (nI n) (nI k) B Cd Fs Fi La Rw Su Vi Nb Re := by
  intro f
  induction f with
  | zero => exact fun r e k h => absurd h (Nat.not_lt_zero r)
  | succ f ih =>
    rintro r e k hrf her hke hc x2 x3 Cd rfl rfl h1
    by_cases c0 : r = 0
    · subst c0
      obtain rfl : k = e1 := hke
      exact pk_le z e (fun _ => hp Cd h1) (fun _ => pk_le 0 0 (fun _ => hp Cd h1) (fun h => by omega))
    · have hs := ly_dl_s (z := r) (by omega) (by omega)
      have ht := hc 0 (by omega)
      rw [ly_tok_0, Nat.add_zero] at ht
      have hc2 : ∀ d, d < ly_dl ((r - 1) / 2) → c (k + 1 + d) = ly_tok ((r - 1) / 2) d := fun d hd => by
        have := hc (d + 1) (by omega)
        rw [ly_tok_s (by omega)] at this
        rw [← this]
        exact congrArg c (by omega)
      refine pk_le z e (fun h => by omega) (fun _ => pk_le r 0 (fun h => by omega) (fun _ => And.intro (by decide) ?_))
      rw [ly_rem2 (by omega)]
      refine pk_eq (r % 2) 1 (fun h => ?_) (fun h => ?_)
      · refine lx_appTok hC (by omega) (fun Cd' e' => And.intro (by decide) ?_)
        intro y2 e2 y3 e3
        refine ih ((r - 1) / 2) (e + 1) (k + 1) (by omega) (by omega) (by omega) hc2 _ _ Cd' ?_ (by rw [e3, nI_1]) (lt_s (fun j hj => ?_) ?_)
        · rw [e2, ly_s1 (b := r - 1) (by omega), ly_div2 (by omega)]
        · rw [e', pk_un (by omega)]; exact h1 j hj
        · have e0 : (r + 1) % 2 = 0 := by omega
          rw [e', pk_us, ht, e0]; rfl
      · refine lx_appTok hC (by omega) (fun Cd' e' => And.intro (by decide) ?_)
        intro y2 e2 y3 e3
        refine ih ((r - 1) / 2) (e + 1) (k + 1) (by omega) (by omega) (by omega) hc2 _ _ Cd' ?_ (by rw [e3, nI_1]) (lt_s (fun j hj => ?_) ?_)
        · rw [e2, ly_sub2 (by omega), ly_div2 (by omega)]; exact ly_eq2 (by omega)
        · rw [e', pk_un (by omega)]; exact h1 j hj
        · have e0 : (r + 1) % 2 = 1 := by omega
          rw [e', pk_us, ht, e0]; rfl
theorem lx_num {post : St2 → Prop} {z : Nat} (hC : C ≤ 24) (hz : z ≤ 30) (he : m + ly_dl z ≤ C) (hc : ∀ d, d < ly_dl z → c (m + d) = ly_tok z d) (h1 : ∀ j, j < m → Cd j = nI (c j)) (hp : ∀ Cd, (∀ j, j < m + ly_dl z → Cd j = nI (c j)) → post (nI K, nI C, nI n, nI (m + ly_dl z), B, Cd, Fs, Fi, La, Rw, Su, Vi, Nb, Re)) : wpX_appendNumeral post (nI K, nI C, nI n, nI m, B, Cd, Fs, Fi, La, Rw, Su, Vi, Nb, Re) (nI z) :=
  ⟨_, lx_num_loop hC hz he hp (z + 1) z 0 m (by omega) (by omega) rfl hc _ _ Cd rfl rfl h1⟩
theorem lx_pack_loop {post : Int32 → St2 → Prop} (hC : C ≤ 24) (hn : n ≤ C) (hb : ∀ j, j < n → b j < 16) (hB : ∀ j, j < n → B j = nI (b j)) (hp : ∀ Cd, (∀ j, j < ly_M b n + ly_dl (ly_zr b n) → Cd j = nI (ly_C b n j)) → post (nI (ly_M b n + ly_dl (ly_zr b n))) (nI K, nI C, nI n, nI (ly_M b n + ly_dl (ly_zr b n)), B, Cd, Fs, Fi, La, Rw, Su, Vi, Nb, Re)) : ∀ d i, i + d = n → ∀ x1 x2 m Cd, x1 = nI (ly_zr b i) → x2 = nI i → m = ly_M b i → (∀ j, j < m → Cd j = nI (ly_C b n j)) → wX_pack_9 post (d + 1) x1 x2 (nI K) (nI C) (nI n) (nI m) B Cd Fs Fi La Rw Su Vi Nb Re := by
  intro d
  induction d with
  | zero =>
    rintro i hi x1 x2 m Cd rfl rfl rfl h1
    obtain rfl : i = n := by omega
    have h2 := ly_M_le b i
    have h3 := ly_dl_le (ly_zr b i)
    refine pk_le i i (fun _ => ?_) (fun h => by omega)
    exact lx_num hC (by omega) (by omega) (fun d _ => ly_C_end) h1 (fun Cd' h => hp Cd' h)
  | succ d ih =>
    rintro i hi x1 x2 m Cd rfl rfl rfl h1
    have h2 := ly_M_le b i
    have h3 := ly_dl_le (ly_zr b i)
    have hbi := hb i (by omega)
    refine pk_le n i (fun h => by omega) (fun _ => And.intro (ly_in (by omega)) ?_)
    refine pk_eq (b i) 0 (fun e => ?_) (fun e => ?_) (ly_rd hB (by omega) (by omega)) rfl
    · intro y1 e1 y2 e2
      refine ih (i + 1) (by omega) _ _ _ Cd ?_ (by rw [e2, nI_1]) (ly_M_t e).symm h1
      rw [e1, nI_1, ly_zr_t e]
    · refine lx_num hC (by omega) (by omega) (fun d hd => ly_C_dig (by omega) e hd) h1 (fun Cd' h => ?_)
      refine And.intro (ly_in (by omega)) ?_
      rw [ly_rd hB (by omega) (by omega), nI_1 (b i)]
      refine lx_appTok hC (by omega) (fun Cd'' e'' => ?_)
      intro y2 e2
      refine ih (i + 1) (by omega) _ _ _ Cd'' ?_ (by rw [e2, nI_1]) (ly_M_f e).symm (lt_s (fun j hj => ?_) ?_)
      · rw [ly_zr_f e]; rfl
      · rw [e'', pk_un (by omega)]; exact h j hj
      · rw [e'', pk_us, ly_C_sym (by omega) e]
theorem lx_pack {post : Int32 → St2 → Prop} (hC : C ≤ 24) (hn : n ≤ C) (hb : ∀ j, j < n → b j < 16) (hB : ∀ j, j < n → B j = nI (b j)) (hp : ∀ Cd, (∀ j, j < ly_M b n + ly_dl (ly_zr b n) → Cd j = nI (ly_C b n j)) → post (nI (ly_M b n + ly_dl (ly_zr b n))) (nI K, nI C, nI n, nI (ly_M b n + ly_dl (ly_zr b n)), B, Cd, Fs, Fi, La, Rw, Su, Vi, Nb, Re)) : wpX_pack post (nI K, nI C, nI n, nI m, B, Cd, Fs, Fi, La, Rw, Su, Vi, Nb, Re) :=
  ⟨_, lx_pack_loop hC hn hb hB hp n 0 (by omega) _ _ 0 Cd rfl rfl rfl (fun q h => absurd h (Nat.not_lt_zero q))⟩
theorem ly_D_31 {i : Nat} (h : i ≤ 24) : ly_D c i < 2 ^ 30 := by
  have h1 := ly_D_le c i
  have h2 : 2 ^ (i + 1) ≤ 2 ^ 25 := Nat.pow_le_pow_right (by decide) (by omega)
  omega
theorem lx_dec_loop {post : Int32 → Prop} (hm : m ≤ 24) (hc : ∀ j, j < m → c j ≤ 16) (hCd : ∀ j, j < m → Cd j = nI (c j)) (hp : post (nI (ly_D c m))) : ∀ d i, i + d = m → ∀ x1 x2 x3, x1 = nI (ly_D c i) → x2 = nI (ly_w c i) → x3 = nI i → wX_decodedLength_6 post (nI K) (nI C) (nI n) (nI m) B Cd Fs Fi La Rw Su Vi Nb Re (d + 1) x1 x2 x3 := by
  intro d
  induction d with
  | zero =>
    rintro i hi x1 x2 x3 rfl rfl rfl
    obtain rfl : i = m := by omega
    exact pk_le i i (fun _ => hp) (fun h => by omega)
  | succ d ih =>
    rintro i hi x1 x2 x3 rfl rfl rfl
    have hci := hc i (by omega)
    refine pk_le m i (fun h => by omega) (fun _ => And.intro (ly_in (by omega)) ?_)
    rw [ly_rd hCd (by omega) hm]
    refine pk_lt (c i) 2 (fun h => And.intro (ly_in (by omega)) ?_) (fun h => ?_)
    · intro y1 e1 y2 e2 y3 e3
      refine ih (i + 1) (by omega) _ _ _ ?_ ?_ (by rw [e3, nI_1])
      · rw [e1, nI_1, pk_mul, nI_add, ly_D_f (by omega)]
      · rw [e2, ly_mul2, ly_w_f (by omega)]
    · intro y1 e1 y3 e3
      refine ih (i + 1) (by omega) _ _ _ ?_ ?_ (by rw [e3, nI_1])
      · rw [e1, nI_1, ly_D_t h]
      · rw [ly_w_t h]; rfl
theorem lx_dec {post : Int32 → Prop} (hm : m ≤ 24) (hc : ∀ j, j < m → c j ≤ 16) (hCd : ∀ j, j < m → Cd j = nI (c j)) (hp : post (nI (ly_D c m))) : wpX_decodedLength post (nI K, nI C, nI n, nI m, B, Cd, Fs, Fi, La, Rw, Su, Vi, Nb, Re) :=
  ⟨_, lx_dec_loop hm hc hCd hp m 0 (by omega) _ _ _ rfl rfl rfl⟩
theorem lx_zeros_loop {post : St2 → Prop} {n0 q : Nat} (hC : C ≤ 24) (hq : n0 + q ≤ C) (hs : ∀ j, n0 ≤ j → j < n0 + q → s j = 0) (hp : ∀ B, (∀ j, j < n0 + q → B j = nI (s j)) → post (nI K, nI C, nI (n0 + q), nI m, B, Cd, Fs, Fi, La, Rw, Su, Vi, Nb, Re)) : ∀ d k, k + d = q → ∀ x2 n B, x2 = nI k → n = n0 + k → (∀ j, j < n0 + k → B j = nI (s j)) → wX_appendZeros_2 post (nI q) (d + 1) x2 (nI K) (nI C) (nI n) (nI m) B Cd Fs Fi La Rw Su Vi Nb Re := by
  intro d
  induction d with
  | zero =>
    rintro k hk x2 n B rfl rfl h1
    obtain rfl : k = q := by omega
    exact pk_le k k (fun _ => hp B h1) (fun h => by omega)
  | succ d ih =>
    rintro k hk x2 n B rfl rfl h1
    refine pk_le q k (fun h => by omega) (fun _ => lx_appSym hC (by omega) (fun B' e' => ?_))
    intro y ey
    refine ih (k + 1) (by omega) _ _ B' (by rw [ey, nI_1]) rfl (fun j hj => ?_)
    by_cases z : j = n0 + k
    · rw [e', z, pk_us, hs _ (by omega) (by omega)]; rfl
    · rw [e', pk_un z]; exact h1 j (by omega)
theorem lx_zeros {post : St2 → Prop} {q : Nat} (hC : C ≤ 24) (hq : n + q ≤ C) (hs : ∀ j, n ≤ j → j < n + q → s j = 0) (h1 : ∀ j, j < n → B j = nI (s j)) (hp : ∀ B, (∀ j, j < n + q → B j = nI (s j)) → post (nI K, nI C, nI (n + q), nI m, B, Cd, Fs, Fi, La, Rw, Su, Vi, Nb, Re)) : wpX_appendZeros post (nI K, nI C, nI n, nI m, B, Cd, Fs, Fi, La, Rw, Su, Vi, Nb, Re) (nI q) :=
  ⟨_, lx_zeros_loop hC hq hs hp q 0 (by omega) _ _ B rfl rfl h1⟩
theorem lx_unp_loop {post : Int32 → St2 → Prop} {x : Int32} (hC : C ≤ 24) (hm : m ≤ C) (hd : ly_D c m ≤ C) (hc : ∀ j, j < m → c j ≤ 16) (hCd : ∀ j, j < m → Cd j = nI (c j)) (hp : ∀ B, (∀ j, j < ly_D c m → B j = nI (ly_S c m j)) → post x (nI K, nI C, nI (ly_D c m), nI m, B, Cd, Fs, Fi, La, Rw, Su, Vi, Nb, Re)) : ∀ d i, i + d = m → ∀ x2 x3 n B, x2 = nI (ly_w c i) → x3 = nI i → n = ly_D c i → (∀ j, j < n → B j = nI (ly_S c m j)) → wX_unpack_25 post x (d + 1) x2 x3 (nI K) (nI C) (nI n) (nI m) B Cd Fs Fi La Rw Su Vi Nb Re := by
  intro d
  induction d with
  | zero =>
    rintro i hi x2 x3 n B rfl rfl rfl h1
    obtain rfl : i = m := by omega
    exact pk_le i i (fun _ => hp B h1) (fun h => by omega)
  | succ d ih =>
    rintro i hi x2 x3 n B rfl rfl rfl h1
    have hci := hc i (by omega)
    have hmo := ly_D_mono c (i := i + 1) (j := m) (by omega)
    refine pk_le m i (fun h => by omega) (fun _ => And.intro (ly_in (by omega)) ?_)
    rw [ly_rd hCd (by omega) (by omega)]
    refine pk_lt (c i) 2 (fun h => And.intro (ly_in (by omega)) ?_) (fun h => And.intro (ly_in (by omega)) ?_)
    · have e := ly_D_f (c := c) (i := i) (by omega)
      rw [nI_1 (c i), pk_mul (c i + 1) (ly_w c i)]
      refine lx_zeros hC (by omega) (fun j j1 j2 => ly_S_dig (i := i) (by omega) (by omega) j1 (by omega)) h1 (fun B' h => ?_)
      intro y2 e2 y3 e3
      refine ih (i + 1) (by omega) _ _ _ B' ?_ (by rw [e3, nI_1]) e.symm h
      rw [e2, ly_mul2, ly_w_f (by omega)]
    · have e := ly_D_t (c := c) (i := i) h
      rw [ly_s1 (b := c i - 1) (by omega)]
      refine lx_appSym hC (by omega) (fun B' e' => ?_)
      intro y3 e3
      refine ih (i + 1) (by omega) _ _ _ B' ?_ (by rw [e3, nI_1]) e.symm (lt_s (fun j hj => ?_) ?_)
      · rw [ly_w_t h]; rfl
      · rw [e', pk_un (by omega)]; exact h1 j hj
      · rw [e', pk_us, ly_S_sym (by omega) h]
theorem lx_unpack {post : Int32 → St2 → Prop} (hC : C ≤ 24) (hm : m ≤ C) (hc : ∀ j, j < m → c j ≤ 16) (hCd : ∀ j, j < m → Cd j = nI (c j)) (hy : ly_D c m ≤ C → ∀ B, (∀ j, j < ly_D c m → B j = nI (ly_S c m j)) → post (nI (ly_D c m)) (nI K, nI C, nI (ly_D c m), nI m, B, Cd, Fs, Fi, La, Rw, Su, Vi, Nb, Re)) (hno : C < ly_D c m → post (-4) (nI K, nI C, nI n, nI m, B, Cd, Fs, Fi, La, Rw, Su, Vi, Nb, Re)) : wpX_unpack post (nI K, nI C, nI n, nI m, B, Cd, Fs, Fi, La, Rw, Su, Vi, Nb, Re) := by
  have h1 := ly_D_31 (c := c) (i := m) (by omega)
  refine lx_dec (by omega) hc hCd ?_
  refine pk_le (ly_D c m) C (fun h => ?_) (fun h => hno h)
  exact ⟨_, lx_unp_loop hC hm h hc hCd (hy h) m 0 (by omega) _ _ 0 B rfl rfl rfl (fun q h => absurd h (Nat.not_lt_zero q))⟩
end
end
section
/-! endless words: agreement, order -/
theorem ly_cnt_perm {f : Nat → Nat} {P : Nat → Prop} {n : Nat} (h1 : ∀ i, i < n → f i < n) (h2 : ∀ i j, i < n → j < n → f i = f j → i = j) : ly_cnt (fun i => P (f i)) n = ly_cnt P n := by
  have hm : ∀ m, m ≤ n → ly_cnt (fun j => ∃ i, i < m ∧ f i = j ∧ P j) n = ly_cnt (fun i => P (f i)) m := by
    intro m
    induction m with
    | zero => exact fun _ => ly_cnt_none n (fun j _ ⟨i, hi, _⟩ => Nat.not_lt_zero i hi)
    | succ m ih =>
      intro hm
      have ih := ih (by omega)
      by_cases c : P (f m)
      · rw [ly_cnt_t (P := fun i => P (f i)) c, ← ih]
        have hn : ¬ ∃ i, i < m ∧ f i = f m ∧ P (f m) := by
          rintro ⟨i, hi, e, _⟩
          have := h2 i m (by omega) (by omega) e
          omega
        rw [← ly_cnt_add1 (P := fun j => ∃ i, i < m ∧ f i = j ∧ P j) n (f m) (h1 m (by omega)) hn]
        refine ly_cnt_congr n (fun j _ => ⟨?_, ?_⟩)
        · rintro ⟨i, hi, e, p⟩
          by_cases d : i = m
          · subst d; exact Or.inr e.symm
          · exact Or.inl ⟨i, by omega, e, p⟩
        · rintro (⟨i, hi, e, p⟩ | e)
          · exact ⟨i, by omega, e, p⟩
          · exact ⟨m, by omega, e.symm, by rw [e]; exact c⟩
      · rw [ly_cnt_f (P := fun i => P (f i)) c, ← ih]
        refine ly_cnt_congr n (fun j _ => ⟨?_, ?_⟩)
        · rintro ⟨i, hi, e, p⟩
          by_cases d : i = m
          · subst d; rw [e] at c; exact absurd p c
          · exact ⟨i, by omega, e, p⟩
        · rintro ⟨i, hi, e, p⟩
          exact ⟨i, by omega, e, p⟩
  rw [← hm n (Nat.le_refl n)]
  refine ly_cnt_congr n (fun j hj => ⟨fun ⟨i, hi, e, p⟩ => p, fun p => ?_⟩)
  obtain ⟨i, hi, e⟩ := ly_pigeon n f h1 h2 j hj
  exact ⟨i, hi, e, p⟩
theorem ly_cnt_from (e n : Nat) (h : e ≤ n) : ly_cnt (fun p => e ≤ p) n = n - e := by
  induction n with
  | zero => exact (Nat.zero_sub e).symm
  | succ n ih =>
    by_cases c : e = n + 1
    · subst c
      rw [ly_cnt_none (n + 1) (fun j hj => by omega)]; omega
    · rw [ly_cnt_t (P := fun p => e ≤ p) (by omega), ih (by omega)]; omega
theorem ly_agree {x y : Nat → Nat} {p q : Nat} (hx : ∀ i, x (i + p) = x i) (hy : ∀ i, y (i + q) = y i) (h1 : 1 ≤ p) (h2 : 1 ≤ q) (h : ∀ i, i < p + q → x i = y i) : ∀ i, x i = y i := by
  intro i
  induction i using Nat.strongRecOn with
  | ind i ih =>
    by_cases c : i < p + q
    · exact h i c
    · obtain ⟨j, rfl⟩ : ∃ j, i = j + q + p := ⟨i - q - p, by omega⟩
      have e1 : x (j + q + p) = x (j + q) := hx _
      have e2 : x (j + q) = y (j + q) := ih _ (by omega)
      have e3 : y (j + q) = y j := hy _
      have e4 : x j = y j := ih _ (by omega)
      have e5 : x (j + p) = x j := hx _
      have e6 : x (j + p) = y (j + p) := ih _ (by omega)
      have e7 : y (j + p + q) = y (j + p) := hy _
      have e8 : j + q + p = j + p + q := by omega
      rw [e1, e2, e3, ← e4, ← e5, e6, ← e7, e8]
def ly_wlt (x y : Nat → Nat) : Prop := ∃ k, (∀ i, i < k → x i = y i) ∧ x k < y k
theorem ly_wlt_ir (x : Nat → Nat) : ¬ ly_wlt x x := fun ⟨_, _, h⟩ => Nat.lt_irrefl _ h
theorem ly_wlt_tr {x y z : Nat → Nat} : ly_wlt x y → ly_wlt y z → ly_wlt x z := by
  rintro ⟨k, k2, k3⟩ ⟨l, l2, l3⟩
  by_cases c : k < l
  · exact ⟨k, fun i hi => (k2 i hi).trans (l2 i (by omega)), by rw [← l2 k c]; exact k3⟩
  · by_cases d : k = l
    · subst d
      exact ⟨k, fun i hi => (k2 i hi).trans (l2 i hi), by omega⟩
    · exact ⟨l, fun i hi => (k2 i (by omega)).trans (l2 i hi), by rw [k2 l (by omega)]; exact l3⟩
theorem ly_wlt_as {x y : Nat → Nat} (h : ly_wlt x y) : ¬ ly_wlt y x := fun g => ly_wlt_ir x (ly_wlt_tr h g)
theorem ly_wlt_tri (x y : Nat → Nat) : ly_wlt x y ∨ ly_wlt y x ∨ ∀ i, x i = y i := by
  by_cases h : ∃ k, x k ≠ y k
  · obtain ⟨k, k1, k2⟩ := pk_least _ h
    have k4 : ∀ i, i < k → x i = y i := fun i hi => by
      have := k2 i hi
      by_cases c : x i = y i
      · exact c
      · exact absurd c this
    by_cases c : x k < y k
    · exact Or.inl ⟨k, k4, c⟩
    · exact Or.inr (Or.inl ⟨k, fun i hi => (k4 i hi).symm, by omega⟩)
  · refine Or.inr (Or.inr fun i => ?_)
    by_cases c : x i = y i
    · exact c
    · exact absurd ⟨i, c⟩ h
theorem ly_wlt_l {x y z : Nat → Nat} (e : ∀ i, x i = y i) (h : ly_wlt y z) : ly_wlt x z := by
  obtain ⟨k, k1, k2⟩ := h
  exact ⟨k, fun i hi => (e i).trans (k1 i hi), by rw [e k]; exact k2⟩
theorem ly_wlt_r {x y z : Nat → Nat} (e : ∀ i, y i = z i) (h : ly_wlt x y) : ly_wlt x z := by
  obtain ⟨k, k1, k2⟩ := h
  exact ⟨k, fun i hi => (k1 i hi).trans (e i), by rw [← e k]; exact k2⟩
theorem ly_mod_s (x l : Nat) (h : 0 < l) : (x + 1) % l = if x % l + 1 = l then 0 else x % l + 1 := by
  have h1 := Nat.div_add_mod x l
  have h2 := Nat.mod_lt x h
  have e : x + 1 = l * (x / l) + (x % l + 1) := by omega
  rw [e, Nat.mul_add_mod]
  by_cases c : x % l + 1 = l
  · rw [if_pos c, c, Nat.mod_self]
  · rw [if_neg c, Nat.mod_eq_of_lt (by omega)]
/-! the words of a block -/
noncomputable def ly_l (b : Nat → Nat) (n p : Nat) : Nat := ly_en b n p - ly_st b n p
noncomputable def ly_W (b : Nat → Nat) (n p k : Nat) : Nat := b (ly_pos b n p k)
theorem ly_l_pos (b : Nat → Nat) {n p : Nat} (h : p < n) : 1 ≤ ly_l b n p ∧ ly_l b n p ≤ n := by
  have := ly_st_in b h
  unfold ly_l
  omega
theorem ly_pos_form (b : Nat → Nat) {n p : Nat} (h : p < n) (k : Nat) : ly_pos b n p k = ly_st b n p + (p - ly_st b n p + k) % ly_l b n p := by
  have h1 := ly_st_in b h
  have h2 := ly_l_pos b h
  induction k with
  | zero =>
    rw [Nat.add_zero, Nat.mod_eq_of_lt (by unfold ly_l; omega)]
    show p = _
    omega
  | succ k ih =>
    rw [ly_pos_nx b h, ih, ← Nat.add_assoc, ly_mod_s _ _ h2.1]
    by_cases c : (p - ly_st b n p + k) % ly_l b n p + 1 = ly_l b n p
    · have d : ly_st b n p + (p - ly_st b n p + k) % ly_l b n p + 1 = ly_en b n p := by unfold ly_l at c ⊢; omega
      rw [if_pos c, if_pos d]; rfl
    · have d : ¬ ly_st b n p + (p - ly_st b n p + k) % ly_l b n p + 1 = ly_en b n p := by unfold ly_l at c ⊢; omega
      rw [if_neg c, if_neg d]; omega
theorem ly_pos_per (b : Nat → Nat) {n p : Nat} (h : p < n) (k m : Nat) : ly_pos b n p (k + m * ly_l b n p) = ly_pos b n p k := by
  rw [ly_pos_form b h, ly_pos_form b h, ← Nat.add_assoc, Nat.add_mul_mod_self_right]
theorem ly_W_per (b : Nat → Nat) {n p : Nat} (h : p < n) (k : Nat) : ly_W b n p (k + ly_l b n p) = ly_W b n p k := by
  have := ly_pos_per b h k 1
  rw [Nat.one_mul] at this
  exact congrArg b this
theorem ly_pos_add (b : Nat → Nat) (n p k m : Nat) : ly_pos b n p (k + m) = ly_pos b n (ly_pos b n p k) m := by
  induction m with
  | zero => rfl
  | succ m ih =>
    show ly_nx b n (ly_pos b n p (k + m)) = ly_nx b n (ly_pos b n (ly_pos b n p k) m)
    rw [ih]
theorem ly_W_agree {b : Nat → Nat} {n p q : Nat} (hn : n ≤ 24) (hp : p < n) (hq : q < n) (h : ∀ k, k < 48 → ly_W b n p k = ly_W b n q k) : ∀ k, ly_W b n p k = ly_W b n q k := by
  have h1 := ly_l_pos b hp
  have h2 := ly_l_pos b hq
  exact ly_agree (ly_W_per b hp) (ly_W_per b hq) h1.1 h2.1 (fun i hi => h i (by omega))
/-- the rows' order, in endless words -/
theorem ly_bf_W {b : Nat → Nat} {n p q : Nat} (hn : n ≤ 24) (hp : p < n) (hq : q < n) : ly_bf b n p q ↔ (ly_wlt (ly_W b n p) (ly_W b n q) ∨ ((∀ k, ly_W b n p k = ly_W b n q k) ∧ p < q)) := by
  constructor
  · rintro (⟨k, _, k2, k3⟩ | ⟨k2, k3⟩)
    · exact Or.inl ⟨k, k2, k3⟩
    · exact Or.inr ⟨ly_W_agree hn hp hq k2, k3⟩
  · rintro (⟨k, k2, k3⟩ | ⟨k2, k3⟩)
    · by_cases c : k < 48
      · exact Or.inl ⟨k, c, k2, k3⟩
      · have := ly_W_agree hn hp hq (fun i hi => k2 i (by omega)) k
        omega
    · exact Or.inr ⟨fun i _ => k2 i, k3⟩
/-- the same with the other place first among equals -/
def ly_bg (b : Nat → Nat) (n p q : Nat) : Prop := ly_wlt (ly_W b n p) (ly_W b n q) ∨ ((∀ k, ly_W b n p k = ly_W b n q k) ∧ q < p)
theorem ly_bg_sto (b : Nat → Nat) (n : Nat) : ly_STO (ly_bg b n) n := by
  refine ⟨?_, ?_, ?_⟩
  · rintro p (h | h)
    · exact ly_wlt_ir _ h
    · omega
  · rintro p q r (h | ⟨h, h'⟩) (g | ⟨g, g'⟩)
    · exact Or.inl (ly_wlt_tr h g)
    · exact Or.inl (ly_wlt_r g h)
    · exact Or.inl (ly_wlt_l h g)
    · exact Or.inr ⟨fun k => (h k).trans (g k), by omega⟩
  · intro p q _ _ hne
    rcases ly_wlt_tri (ly_W b n p) (ly_W b n q) with h | h | h
    · exact Or.inl (Or.inl h)
    · exact Or.inr (Or.inl h)
    · by_cases c : q < p
      · exact Or.inl (Or.inr ⟨h, c⟩)
      · exact Or.inr (Or.inr ⟨fun k => (h k).symm, by omega⟩)
noncomputable def ly_rg (b : Nat → Nat) (n p : Nat) : Nat := ly_rk (ly_bg b n) n p
theorem ly_rg_lt {b : Nat → Nat} {n p : Nat} (hp : p < n) : ly_rg b n p < n := ly_rk_lt (ly_bg_sto b n) hp
theorem ly_rg_inj {b : Nat → Nat} {n p q : Nat} (hp : p < n) (hq : q < n) (e : ly_rg b n p = ly_rg b n q) : p = q := ly_rk_inj (ly_bg_sto b n) hp hq e
theorem ly_rg_ltI {b : Nat → Nat} {n p q : Nat} (hp : p < n) (hq : q < n) : ly_rg b n p < ly_rg b n q ↔ ly_bg b n p q := ly_rk_ltI (ly_bg_sto b n) hp hq
/-! the place before, round the factor -/
noncomputable def ly_pr (b : Nat → Nat) (n p : Nat) : Nat := if p = ly_st b n p then ly_en b n p - 1 else p - 1
theorem ly_pr_t {b : Nat → Nat} {n p : Nat} (h : p = ly_st b n p) : ly_pr b n p = ly_en b n p - 1 := if_pos h
theorem ly_pr_f {b : Nat → Nat} {n p : Nat} (h : ¬ p = ly_st b n p) : ly_pr b n p = p - 1 := if_neg h
theorem ly_ll_pr (b : Nat → Nat) (n p : Nat) : ly_ll b n p = b (ly_pr b n p) := by
  unfold ly_ll
  by_cases c : p = ly_st b n p
  · rw [if_pos c, ly_pr_t c]
  · rw [if_neg c, ly_pr_f c]
theorem ly_pr_in (b : Nat → Nat) {n p : Nat} (h : p < n) : ly_st b n p ≤ ly_pr b n p ∧ ly_pr b n p < ly_en b n p := by
  have h1 := ly_st_in b h
  by_cases c : p = ly_st b n p
  · rw [ly_pr_t c]; omega
  · rw [ly_pr_f c]; omega
theorem ly_pr_lt (b : Nat → Nat) {n p : Nat} (h : p < n) : ly_pr b n p < n := by
  have h1 := ly_pr_in b h
  have h2 := (ly_st_in b h).2.2
  omega
theorem ly_pr_st (b : Nat → Nat) {n p : Nat} (h : p < n) : ly_st b n (ly_pr b n p) = ly_st b n p := ly_st_same (ly_pr_in b h).1 (ly_pr_in b h).2
theorem ly_nx_pr (b : Nat → Nat) {n p : Nat} (h : p < n) : ly_nx b n (ly_pr b n p) = p := by
  have h1 := ly_st_in b h
  have h2 := ly_pr_in b h
  unfold ly_nx
  rw [ly_st_same h2.1 h2.2, ly_en_same h2.1 h2.2]
  by_cases c : p = ly_st b n p
  · rw [ly_pr_t c, if_pos (by omega)]; exact c.symm
  · rw [ly_pr_f c, if_neg (by omega)]; omega
theorem ly_pr_nx (b : Nat → Nat) {n p : Nat} (h : p < n) : ly_pr b n (ly_nx b n p) = p := by
  have h1 := ly_st_in b h
  have h2 := ly_nx_in b h
  by_cases c : p + 1 = ly_en b n p
  · have e : ly_nx b n p = ly_st b n p := if_pos c
    rw [e, ly_pr_t (ly_st_st b n p).symm, ly_en_same (Nat.le_refl _) (by omega)]
    omega
  · have e : ly_nx b n p = p + 1 := if_neg c
    rw [e] at h2
    have d := ly_st_same h2.1 h2.2
    rw [e, ly_pr_f (by rw [d]; omega)]
    omega
theorem ly_pr_inj {b : Nat → Nat} {n p q : Nat} (hp : p < n) (hq : q < n) (e : ly_pr b n p = ly_pr b n q) : p = q := by
  rw [← ly_nx_pr b hp, ← ly_nx_pr b hq, e]
theorem ly_W_pr0 (b : Nat → Nat) (n p : Nat) : ly_W b n (ly_pr b n p) 0 = b (ly_pr b n p) := rfl
theorem ly_W_prs (b : Nat → Nat) {n p : Nat} (h : p < n) (k : Nat) : ly_W b n (ly_pr b n p) (k + 1) = ly_W b n p k := by
  unfold ly_W
  rw [Nat.add_comm, ly_pos_add]
  show b (ly_pos b n (ly_nx b n (ly_pr b n p)) k) = _
  rw [ly_nx_pr b h]
theorem ly_pr_pos (b : Nat → Nat) {n p : Nat} (h : p < n) (m : Nat) (hm : 1 ≤ m) : ly_pos b n p (m * ly_l b n p - 1) = ly_pr b n p := by
  have h1 := ly_l_pos b h
  have h2 : 1 ≤ m * ly_l b n p := Nat.le_trans hm (Nat.le_mul_of_pos_right m h1.1)
  have e : ly_nx b n (ly_pos b n p (m * ly_l b n p - 1)) = p := by
    show ly_pos b n p (m * ly_l b n p - 1 + 1) = p
    have e2 : m * ly_l b n p - 1 + 1 = 0 + m * ly_l b n p := by omega
    rw [e2, ly_pos_per b h]
    rfl
  rw [← ly_pr_nx b (ly_pos_lt b h (m * ly_l b n p - 1)), e]
theorem ly_pr_eq {b : Nat → Nat} {n p q : Nat} (hp : p < n) (hq : q < n) (h : ∀ k, ly_W b n p k = ly_W b n q k) : b (ly_pr b n p) = b (ly_pr b n q) := by
  have h1 := ly_pr_pos b hp (ly_l b n q) (ly_l_pos b hq).1
  have h2 := ly_pr_pos b hq (ly_l b n p) (ly_l_pos b hp).1
  have h3 := h (ly_l b n q * ly_l b n p - 1)
  unfold ly_W at h3
  rw [h1, Nat.mul_comm, h2] at h3
  exact h3
theorem ly_W_preq {b : Nat → Nat} {n p q : Nat} (hp : p < n) (hq : q < n) (h : ∀ k, ly_W b n p k = ly_W b n q k) (k : Nat) : ly_W b n (ly_pr b n p) k = ly_W b n (ly_pr b n q) k := by
  cases k with
  | zero => exact ly_pr_eq hp hq h
  | succ k => rw [ly_W_prs b hp, ly_W_prs b hq]; exact h k
theorem ly_wlt_pr {b : Nat → Nat} {n p q : Nat} (hp : p < n) (hq : q < n) : ly_wlt (ly_W b n (ly_pr b n p)) (ly_W b n (ly_pr b n q)) ↔ (b (ly_pr b n p) < b (ly_pr b n q) ∨ (b (ly_pr b n p) = b (ly_pr b n q) ∧ ly_wlt (ly_W b n p) (ly_W b n q))) := by
  constructor
  · rintro ⟨k, k2, k3⟩
    cases k with
    | zero => exact Or.inl k3
    | succ k =>
      refine Or.inr ⟨k2 0 (by omega), k, fun i hi => ?_, ?_⟩
      · have := k2 (i + 1) (by omega)
        rw [ly_W_prs b hp, ly_W_prs b hq] at this
        exact this
      · rw [ly_W_prs b hp, ly_W_prs b hq] at k3
        exact k3
  · rintro (h | ⟨h, k, k2, k3⟩)
    · exact ⟨0, fun i hi => absurd hi (Nat.not_lt_zero i), h⟩
    · refine ⟨k + 1, fun i hi => ?_, ?_⟩
      · cases i with
        | zero => exact h
        | succ i => rw [ly_W_prs b hp, ly_W_prs b hq]; exact k2 i (by omega)
      · rw [ly_W_prs b hp, ly_W_prs b hq]; exact k3
end
section
/-! the start is the least place of its factor -/
theorem ly_pos_fw (b : Nat → Nat) {n p : Nat} (h : p < n) (k : Nat) (hk : p + k < ly_en b n p) : ly_pos b n p k = p + k := by
  induction k with
  | zero => rfl
  | succ k ih =>
    have ih := ih (by omega)
    rw [ly_pos_nx b h, ih, if_neg (by omega)]; rfl
theorem ly_isE_st (b : Nat → Nat) {n p : Nat} (h : p < n) : ly_isE b n (ly_st b n p) (ly_en b n p) :=
  ly_E_is b (by have := ly_st_in b h; omega)
theorem ly_st_min {b : Nat → Nat} {n p : Nat} (h : p < n) (hne : ¬ p = ly_st b n p) : ly_wlt (ly_W b n (ly_st b n p)) (ly_W b n p) := by
  have h1 := ly_st_in b h
  obtain ⟨k, k1, k2, k3⟩ := (ly_isE_st b h).2.2.1 p (by omega) h1.2.1
  have hs : ly_st b n p < n := by omega
  have es : ly_en b n (ly_st b n p) = ly_en b n p := ly_en_same (Nat.le_refl _) (by omega)
  have f1 : ∀ i, i ≤ k → ly_W b n (ly_st b n p) i = b (ly_st b n p + i) := fun i hi => congrArg b (ly_pos_fw b hs i (by rw [es]; omega))
  have f2 : ∀ i, i ≤ k → ly_W b n p i = b (p + i) := fun i hi => congrArg b (ly_pos_fw b h i (by omega))
  refine ⟨k, fun i hi => ?_, ?_⟩
  · rw [f1 i (by omega), f2 i (by omega)]; exact k2 i hi
  · rw [f1 k (Nat.le_refl k), f2 k (Nat.le_refl k)]; exact k3
theorem ly_st_nlt {b : Nat → Nat} {n p : Nat} (h : p < n) : ¬ ly_wlt (ly_W b n p) (ly_W b n (ly_st b n p)) := by
  intro hw
  by_cases c : p = ly_st b n p
  · rw [← c] at hw; exact ly_wlt_ir _ hw
  · exact ly_wlt_as (ly_st_min h c) hw
theorem ly_W_shift {b : Nat → Nat} {n p q : Nat} (h : ∀ k, ly_W b n p k = ly_W b n q k) (m : Nat) : ∀ k, ly_W b n (ly_pos b n p m) k = ly_W b n (ly_pos b n q m) k := by
  intro k
  have := h (m + k)
  unfold ly_W at this ⊢
  rw [ly_pos_add, ly_pos_add] at this
  exact this
theorem ly_to_st (b : Nat → Nat) {n p : Nat} (h : p < n) : ∃ m, ly_pos b n p m = ly_st b n p := by
  have h1 := ly_st_in b h
  refine ⟨ly_en b n p - p - 1 + 1, ?_⟩
  rw [ly_pos_nx b h, ly_pos_fw b h _ (by omega), if_pos (by omega)]
theorem ly_st_eq {b : Nat → Nat} {n p q : Nat} (hp : p < n) (hq : q < n) (h : ∀ k, ly_W b n p k = ly_W b n q k) (e : p = ly_st b n p) : q = ly_st b n q := by
  by_cases c : q = ly_st b n q
  · exact c
  · obtain ⟨m, hm⟩ := ly_to_st b hq
    have h1 := ly_W_shift h m
    rw [hm] at h1
    have h2 : ly_wlt (ly_W b n (ly_pos b n p m)) (ly_W b n p) := ly_wlt_l h1 (ly_wlt_r (fun k => (h k).symm) (ly_st_min hq c))
    have h3 := ly_pos_in b hp m
    have h4 := ly_st_same h3.1 h3.2
    have h5 := ly_st_nlt (b := b) (p := ly_pos b n p m) (ly_pos_lt b hp m)
    rw [h4, ← e] at h5
    exact absurd h2 h5
theorem ly_pr_tie {b : Nat → Nat} {n p q : Nat} (hp : p < n) (hq : q < n) (h : ∀ k, ly_W b n p k = ly_W b n q k) (l : q < p) : ly_pr b n q < ly_pr b n p := by
  have h1 := ly_st_in b hp
  have h2 := ly_st_in b hq
  by_cases c : p = ly_st b n p
  · have d := ly_st_eq hp hq h c
    rw [ly_pr_t c, ly_pr_t d]
    have h3 : ly_en b n q ≤ p := by
      by_cases e : ly_en b n q ≤ p
      · exact e
      · have := ly_st_same (b := b) (n := n) (p := q) (u := p) (by omega) (by omega)
        omega
    omega
  · have d : ¬ q = ly_st b n q := fun z => c (ly_st_eq hq hp (fun k => (h k).symm) z)
    rw [ly_pr_f c, ly_pr_f d]
    omega
theorem ly_pr_tieI {b : Nat → Nat} {n p q : Nat} (hp : p < n) (hq : q < n) (h : ∀ k, ly_W b n p k = ly_W b n q k) : ly_pr b n q < ly_pr b n p ↔ q < p := by
  constructor
  · intro l
    by_cases c : q < p
    · exact c
    · by_cases d : p = q
      · subst d; omega
      · have := ly_pr_tie hq hp (fun k => (h k).symm) (by omega)
        omega
  · exact ly_pr_tie hp hq h
/-! the transformed block by the other ranks -/
theorem ly_row_W {b : Nat → Nat} {n p q : Nat} (hn : n ≤ 24) (hp : p < n) (hq : q < n) (e : ly_rk (ly_bf b n) n q = ly_rg b n p) : ∀ k, ly_W b n q k = ly_W b n p k := by
  rcases ly_wlt_tri (ly_W b n q) (ly_W b n p) with h | h | h
  · have := ly_cnt_lt (P := fun x => ly_bf b n x q) (Q := fun x => ly_bg b n x p) n q (fun x hx hb => by
      rcases (ly_bf_W hn hx hq).1 hb with g | ⟨g, _⟩
      · exact Or.inl (ly_wlt_tr g h)
      · exact Or.inl (ly_wlt_l g h)) hq ((ly_bf_sto b n).1 q) (Or.inl h)
    unfold ly_rg ly_rk at e
    omega
  · have := ly_cnt_lt (P := fun x => ly_bg b n x p) (Q := fun x => ly_bf b n x q) n p (fun x hx hb => by
      refine (ly_bf_W hn hx hq).2 ?_
      rcases hb with g | ⟨g, _⟩
      · exact Or.inl (ly_wlt_tr g h)
      · exact Or.inl (ly_wlt_l g h)) hp ((ly_bg_sto b n).1 p) ((ly_bf_W hn hp hq).2 (Or.inl h))
    unfold ly_rg ly_rk at e
    omega
  · exact h
theorem ly_T_rg {b : Nat → Nat} {n p : Nat} (hn : n ≤ 24) (hp : p < n) : ly_T b n (ly_rg b n p) = b (ly_pr b n p) := by
  have h1 := ly_row_is b (ly_rg_lt (b := b) hp)
  have h2 := ly_row_W hn hp h1.1 h1.2
  rw [ly_T_at b (ly_rg_lt hp), ly_ll_pr]
  exact ly_pr_eq h1.1 hp h2
theorem ly_gT {b : Nat → Nat} {n p q : Nat} (hn : n ≤ 24) (hp : p < n) (hq : q < n) : ly_gR (ly_T b n) (ly_rg b n p) (ly_rg b n q) ↔ ly_bg b n (ly_pr b n p) (ly_pr b n q) := by
  unfold ly_gR
  rw [ly_T_rg hn hp, ly_T_rg hn hq, ly_rg_ltI hp hq]
  constructor
  · rintro (h | ⟨h, g | ⟨g, l⟩⟩)
    · exact Or.inl ((ly_wlt_pr hp hq).2 (Or.inl h))
    · exact Or.inl ((ly_wlt_pr hp hq).2 (Or.inr ⟨h, g⟩))
    · exact Or.inr ⟨ly_W_preq hp hq g, (ly_pr_tieI hp hq g).2 l⟩
  · rintro (h | ⟨h, l⟩)
    · rcases (ly_wlt_pr hp hq).1 h with g | ⟨g, g2⟩
      · exact Or.inl g
      · exact Or.inr ⟨g, Or.inl g2⟩
    · have g : ∀ k, ly_W b n p k = ly_W b n q k := fun k => by
        have := h (k + 1)
        rw [ly_W_prs b hp, ly_W_prs b hq] at this
        exact this
      exact Or.inr ⟨h 0, Or.inr ⟨g, (ly_pr_tieI hp hq g).1 l⟩⟩
noncomputable def ly_gt (b : Nat → Nat) (n : Nat) : Nat → Nat := ly_rk (ly_gR (ly_T b n)) n
theorem ly_gt_perm (b : Nat → Nat) (n : Nat) : ly_perm (ly_gt b n) n := ly_g_perm (ly_T b n) n
theorem ly_gt_rg {b : Nat → Nat} {n p : Nat} (hn : n ≤ 24) (hp : p < n) : ly_gt b n (ly_rg b n p) = ly_rg b n (ly_pr b n p) := by
  have e1 : ly_gt b n (ly_rg b n p) = ly_cnt (fun q => ly_gR (ly_T b n) (ly_rg b n q) (ly_rg b n p)) n :=
    (ly_cnt_perm (f := ly_rg b n) (P := fun j => ly_gR (ly_T b n) j (ly_rg b n p)) (fun i hi => ly_rg_lt hi) (fun i j hi hj e => ly_rg_inj hi hj e)).symm
  have e2 : ly_rg b n (ly_pr b n p) = ly_cnt (fun q => ly_bg b n (ly_pr b n q) (ly_pr b n p)) n :=
    (ly_cnt_perm (f := ly_pr b n) (P := fun q => ly_bg b n q (ly_pr b n p)) (fun i hi => ly_pr_lt b hi) (fun i j hi hj e => ly_pr_inj hi hj e)).symm
  rw [e1, e2]
  exact ly_cnt_congr n (fun q hq => ly_gT hn hq hp)
/-! walks -/
theorem ly_prk_in (b : Nat → Nat) {n p : Nat} (h : p < n) (k : Nat) : ly_it (ly_pr b n) p k < n ∧ ly_st b n (ly_it (ly_pr b n) p k) = ly_st b n p := by
  induction k with
  | zero => exact ⟨h, rfl⟩
  | succ k ih => exact ⟨ly_pr_lt b ih.1, (ly_pr_st b ih.1).trans ih.2⟩
theorem ly_gt_it {b : Nat → Nat} {n p : Nat} (hn : n ≤ 24) (hp : p < n) (k : Nat) : ly_it (ly_gt b n) (ly_rg b n p) k = ly_rg b n (ly_it (ly_pr b n) p k) := by
  induction k with
  | zero => rfl
  | succ k ih =>
    show ly_gt b n (ly_it (ly_gt b n) (ly_rg b n p) k) = ly_rg b n (ly_pr b n (ly_it (ly_pr b n) p k))
    rw [ih, ly_gt_rg hn (ly_prk_in b hp k).1]
theorem ly_prk_st (b : Nat → Nat) {n s : Nat} (h : s < n) (hs : s = ly_st b n s) (k : Nat) (h1 : 1 ≤ k) (h2 : k ≤ ly_l b n s) : ly_it (ly_pr b n) s k = ly_en b n s - k := by
  have h3 := ly_st_in b h
  unfold ly_l at h2
  induction k with
  | zero => omega
  | succ k ih =>
    show ly_pr b n (ly_it (ly_pr b n) s k) = _
    by_cases c : k = 0
    · subst c
      exact ly_pr_t hs
    · rw [ih (by omega) (by omega)]
      have e := ly_st_same (b := b) (n := n) (p := s) (u := ly_en b n s - k) (by omega) (by omega)
      rw [ly_pr_f (by rw [e]; omega)]
      omega
theorem ly_prk_to (b : Nat → Nat) {n p : Nat} (h : p < n) : ∃ k, ly_it (ly_pr b n) (ly_st b n p) k = p := by
  have h1 := ly_st_in b h
  have hs : ly_st b n p < n := by omega
  have es : ly_en b n (ly_st b n p) = ly_en b n p := ly_en_same (Nat.le_refl _) (by omega)
  refine ⟨ly_en b n p - p, ?_⟩
  rw [ly_prk_st b hs (ly_st_st b n p).symm _ (by omega) (by unfold ly_l; rw [es, ly_st_st]; omega), es]
  omega
theorem ly_rg_st {b : Nat → Nat} {n p : Nat} (h : p < n) : ly_rg b n (ly_st b n p) ≤ ly_rg b n p := by
  by_cases c : p = ly_st b n p
  · rw [← c]; exact Nat.le_refl _
  · have h1 := ly_st_in b h
    have := (ly_rg_ltI (b := b) (n := n) (p := ly_st b n p) (q := p) (by omega) h).2 (Or.inl (ly_st_min h c))
    omega
theorem ly_rg_ex {b : Nat → Nat} {n : Nat} (r : Nat) (hr : r < n) : ∃ p, p < n ∧ ly_rg b n p = r := ly_rk_surj (ly_bg_sto b n) r hr
/-- visited ahead of a: the factors whose start has a smaller rank -/
theorem ly_V_rg {b : Nat → Nat} {n a p : Nat} (hn : n ≤ 24) (ha : a ≤ n) (hp : p < n) : ly_V (ly_gt b n) a (ly_rg b n p) ↔ ly_rg b n (ly_st b n p) < a := by
  have h1 := ly_st_in b hp
  constructor
  · rintro ⟨c, hc, k, hk⟩
    obtain ⟨q, hq, rfl⟩ := ly_rg_ex (b := b) c (by omega : c < n)
    rw [ly_gt_it hn hq] at hk
    have h2 := ly_prk_in b hq k
    have e := ly_rg_inj h2.1 hp hk
    have h3 := ly_rg_st (b := b) hq
    rw [e] at h2
    rw [h2.2]
    omega
  · intro h
    obtain ⟨k, hk⟩ := ly_prk_to b hp
    refine ⟨_, h, k, ?_⟩
    rw [ly_gt_it hn (by omega), hk]
theorem ly_V_st {b : Nat → Nat} {n p : Nat} (hn : n ≤ 24) (hp : p < n) : ¬ ly_V (ly_gt b n) (ly_rg b n p) (ly_rg b n p) ↔ ly_st b n p = p := by
  rw [ly_V_rg hn (Nat.le_of_lt (ly_rg_lt hp)) hp]
  have h1 := ly_st_in b hp
  constructor
  · intro h
    have h2 := ly_rg_st (b := b) hp
    exact ly_rg_inj (b := b) (by omega) hp (by omega)
  · intro h
    rw [h]; omega
theorem ly_len_rg {b : Nat → Nat} {n s : Nat} (hn : n ≤ 24) (h : s < n) (hs : s = ly_st b n s) : ly_len (ly_gt b n) (ly_rg b n s) = ly_l b n s := by
  have h1 := ly_l_pos b h
  have h3 := ly_st_in b h
  have hr := ly_rg_lt (b := b) h
  have hm := ly_len_min (ly_gt_perm b n) hr h1.1 (by
    rw [ly_gt_it hn h, ly_prk_st b h hs _ h1.1 (Nat.le_refl _)]
    exact congrArg (ly_rg b n) (by unfold ly_l; omega))
  by_cases c : ly_len (ly_gt b n) (ly_rg b n s) = ly_l b n s
  · exact c
  · have h4 := ly_len_pos (ly_gt_perm b n) hr
    have h5 := ly_len_it (ly_gt_perm b n) hr
    rw [ly_gt_it hn h] at h5
    have h6 := ly_rg_inj (ly_prk_in b h _).1 h h5
    rw [ly_prk_st b h hs _ h4 (by omega)] at h6
    unfold ly_l at c hm
    omega
/-! factors do not increase -/
theorem ly_Lt_tr {b : Nat → Nat} {s e t f : Nat} (h1 : ly_Lt b s e f) (h2 : ly_Lt b e t f) (h : e ≤ t) : ly_Lt b s t f := by
  obtain ⟨k, k1, k2, k3⟩ := h1
  obtain ⟨l, l1, l2, l3⟩ := h2
  by_cases c : k < l
  · exact ⟨k, by omega, fun i hi => (k2 i hi).trans (l2 i (by omega)), by rw [← l2 k c]; exact k3⟩
  · by_cases d : k = l
    · subst d
      exact ⟨k, l1, fun i hi => (k2 i hi).trans (l2 i hi), by omega⟩
    · exact ⟨l, l1, fun i hi => (k2 i (by omega)).trans (l2 i hi), by rw [k2 l (by omega)]; exact l3⟩
theorem ly_noninc {b : Nat → Nat} {n s e : Nat} (h : s < n) (hs : s = ly_st b n s) (he : e = ly_en b n s) (hen : e < n) : ¬ ly_wlt (ly_W b n s) (ly_W b n e) := by
  intro hw
  have h1 := ly_st_in b h
  have hse : s < e := by omega
  have hste : ly_st b n e = e := by
    cases e with
    | zero => omega
    | succ e =>
      have e2 : ly_en b n e = ly_en b n s := ly_en_same (by omega) (by omega)
      exact ly_st_t (by rw [e2]; exact he)
  have h2 := ly_st_in b hen
  rw [hste] at h2
  have hE1 := ly_isE_st b h
  rw [← hs, ← he] at hE1
  have hE2 := ly_isE_st b hen
  rw [hste] at hE2
  have f1 : ∀ i, s + i < e → ly_W b n s i = b (s + i) := fun i hi => congrArg b (ly_pos_fw b h i (by omega))
  have f2 : ∀ i, e + i < ly_en b n e → ly_W b n e i = b (e + i) := fun i hi => congrArg b (ly_pos_fw b hen i hi)
  have key : ly_Lt b s e (ly_en b n e) := by
    obtain ⟨k, k2, k3⟩ := hw
    by_cases c : e + k < ly_en b n e
    · by_cases d : s + k < e
      · refine ⟨k, c, fun i hi => ?_, ?_⟩
        · rw [← f1 i (by omega), ← f2 i (by omega)]; exact k2 i hi
        · rw [← f1 k d, ← f2 k c]; exact k3
      · -- the second begins with the first
        have hb : ∀ i, s + i < e → b (s + i) = b (e + i) := fun i hi => by
          rw [← f1 i hi, ← f2 i (by omega)]; exact k2 i (by omega)
        obtain ⟨m, m1, m2, m3⟩ := hE2.2.2.1 (e + (e - s)) (by omega) (by omega)
        refine ⟨e - s + m, by omega, fun i hi => ?_, ?_⟩
        · by_cases q : s + i < e
          · exact hb i q
          · have := m2 (i - (e - s)) (by omega)
            have e1 : e + (i - (e - s)) = s + i := by omega
            have e2 : e + (e - s) + (i - (e - s)) = e + i := by omega
            rw [e1, e2] at this
            exact this
        · have e1 : s + (e - s + m) = e + m := by omega
          have e2 : e + (e - s + m) = e + (e - s) + m := by omega
          rw [e1, e2]
          exact m3
    · by_cases d : e - s ≤ ly_en b n e - e
      · -- they agree all along the second, which is at least as long
        by_cases q : e - s = ly_en b n e - e
        · exfalso
          have hl : ly_l b n s = ly_l b n e := by unfold ly_l; rw [← hs, ← he, hste]; exact q
          have hp : ∀ i, ly_W b n e (i + ly_l b n s) = ly_W b n e i := fun i => by rw [hl]; exact ly_W_per b hen i
          have hall : ∀ i, ly_W b n s i = ly_W b n e i := by
            intro i
            induction i using Nat.strongRecOn with
            | ind i ih =>
              by_cases z : i < k
              · exact k2 i z
              · have hl2 : ly_l b n s = e - s := by unfold ly_l; rw [← hs, ← he]
                have e1 := ly_W_per b h (i - ly_l b n s)
                have e2 := hp (i - ly_l b n s)
                have e3 : i - ly_l b n s + ly_l b n s = i := by omega
                rw [e3] at e1 e2
                rw [e1, e2]
                exact ih _ (by omega)
          have := hall k
          omega
        · have hb : ∀ i, s + i < e → b (s + i) = b (e + i) := fun i hi => by
            rw [← f1 i hi, ← f2 i (by omega)]; exact k2 i (by omega)
          obtain ⟨m, m1, m2, m3⟩ := hE2.2.2.1 (e + (e - s)) (by omega) (by omega)
          refine ⟨e - s + m, by omega, fun i hi => ?_, ?_⟩
          · by_cases q : s + i < e
            · exact hb i q
            · have := m2 (i - (e - s)) (by omega)
              have e1 : e + (i - (e - s)) = s + i := by omega
              have e2 : e + (e - s) + (i - (e - s)) = e + i := by omega
              rw [e1, e2] at this
              exact this
          · have e1 : s + (e - s + m) = e + m := by omega
            have e2 : e + (e - s + m) = e + (e - s) + m := by omega
            rw [e1, e2]
            exact m3
      · -- the second is a proper beginning of the first: then its word is the smaller
        exfalso
        have hb : ∀ i, e + i < ly_en b n e → b (s + i) = b (e + i) := fun i hi => by
          rw [← f1 i (by omega), ← f2 i hi]; exact k2 i (by omega)
        have hl2 : ly_l b n e = ly_en b n e - e := by unfold ly_l; rw [hste]
        obtain ⟨m, m1, m2, m3⟩ := hE1.2.2.1 (s + (ly_en b n e - e)) (by omega) (by omega)
        have hper : ∀ i, i < ly_en b n e - e + m → ly_W b n s i = ly_W b n e i := by
          intro i
          induction i using Nat.strongRecOn with
          | ind i ih =>
            intro hi
            by_cases z : e + i < ly_en b n e
            · rw [f1 i (by omega), f2 i z]; exact hb i z
            · have e1 := ly_W_per b hen (i - ly_l b n e)
              have e3 : i - ly_l b n e + ly_l b n e = i := by omega
              rw [e3] at e1
              have e4 := m2 (i - (ly_en b n e - e)) (by omega)
              have e5 : s + (ly_en b n e - e) + (i - (ly_en b n e - e)) = s + i := by omega
              rw [e5] at e4
              rw [e1, ← ih _ (by omega) (by omega), hl2, f1 i (by omega), f1 _ (by omega)]
              exact e4.symm
        have hgt : ly_W b n e (ly_en b n e - e + m) < ly_W b n s (ly_en b n e - e + m) := by
          have e1 := ly_W_per b hen m
          rw [hl2, Nat.add_comm m] at e1
          rw [e1, ← hper m (by omega), f1 m (by omega), f1 _ (by omega)]
          have e5 : s + (ly_en b n e - e) + m = s + (ly_en b n e - e + m) := by omega
          rw [e5] at m3
          exact m3
        exact ly_wlt_as ⟨k, k2, k3⟩ ⟨ly_en b n e - e + m, fun i hi => (hper i hi).symm, hgt⟩
  refine hE1.2.2.2 (ly_en b n e) (by omega) h2.2.2 (fun t t1 t2 => ?_)
  by_cases c : t < e
  · obtain ⟨k, k1, k2, k3⟩ := hE1.2.2.1 t t1 c
    exact ⟨k, by omega, k2, k3⟩
  · by_cases d : t = e
    · rw [d]; exact key
    · exact ly_Lt_tr key (hE2.2.2.1 t (by omega) t2) (by omega)
end
section
theorem ly_noninc_all {b : Nat → Nat} {n t : Nat} (ht : t < n) (hst : t = ly_st b n t) : ∀ d s, s + d = t → 0 < d → s = ly_st b n s → ¬ ly_wlt (ly_W b n s) (ly_W b n t) := by
  intro d
  induction d using Nat.strongRecOn with
  | ind d ih =>
    intro s hd h0 hs hw
    have h : s < n := by omega
    have h1 := ly_st_in b h
    have hle : ly_en b n s ≤ t := by
      by_cases c : ly_en b n s ≤ t
      · exact c
      · have := ly_st_same (b := b) (n := n) (p := s) (u := t) (by omega) (by omega)
        omega
    have h2 := ly_noninc h hs rfl (by omega : ly_en b n s < n)
    by_cases c : ly_en b n s = t
    · rw [c] at h2; exact h2 hw
    · have hse : ly_en b n s = ly_st b n (ly_en b n s) := by
        obtain ⟨e, he⟩ : ∃ e, ly_en b n s = e + 1 := ⟨ly_en b n s - 1, by omega⟩
        rw [he]
        have e2 : ly_en b n e = ly_en b n s := ly_en_same (by omega) (by omega)
        exact (ly_st_t (by rw [e2]; exact he.symm)).symm
      have h3 := ih (t - ly_en b n s) (by omega) (ly_en b n s) (by omega) (by omega) hse
      rcases ly_wlt_tri (ly_W b n s) (ly_W b n (ly_en b n s)) with g | g | g
      · exact h2 g
      · exact h3 (ly_wlt_tr g hw)
      · exact h3 (ly_wlt_l (fun k => (g k).symm) hw)
theorem ly_rg_starts {b : Nat → Nat} {n s t : Nat} (hs : s < n) (ht : t < n) (es : s = ly_st b n s) (et : t = ly_st b n t) (h : s < t) : ly_rg b n t < ly_rg b n s := by
  refine (ly_rg_ltI ht hs).2 ?_
  have h1 := ly_noninc_all ht et (t - s) s (by omega) (by omega) es
  rcases ly_wlt_tri (ly_W b n t) (ly_W b n s) with g | g | g
  · exact Or.inl g
  · exact absurd g h1
  · exact Or.inr ⟨g, h⟩
theorem ly_V_en {b : Nat → Nat} {n s p : Nat} (hn : n ≤ 24) (hs : s < n) (es : s = ly_st b n s) (hp : p < n) : ly_V (ly_gt b n) (ly_rg b n s) (ly_rg b n p) ↔ ly_en b n s ≤ p := by
  rw [ly_V_rg hn (Nat.le_of_lt (ly_rg_lt hs)) hp]
  have h1 := ly_st_in b hp
  have h2 := ly_st_in b hs
  have ep : ly_st b n p = ly_st b n (ly_st b n p) := (ly_st_st b n p).symm
  constructor
  · intro h
    by_cases c : ly_en b n s ≤ p
    · exact c
    · exfalso
      by_cases d : s ≤ p
      · have := ly_st_same (b := b) (n := n) (p := s) (u := p) (by omega) (by omega)
        rw [this, ← es] at h
        omega
      · have := ly_rg_starts (b := b) (n := n) (s := ly_st b n p) (t := s) (by omega) hs ep es (by omega)
        omega
  · intro h
    refine ly_rg_starts hs (by omega) es ep ?_
    by_cases c : s < ly_st b n p
    · exact c
    · exfalso
      have h3 := ly_st_same (b := b) (n := n) (p := p) (u := s) (by omega) (by omega)
      have h4 : ly_en b n s = ly_en b n p := ly_en_same (by omega) (by omega)
      omega
theorem ly_U_rg {b : Nat → Nat} {n s : Nat} (hn : n ≤ 24) (hs : s < n) (es : s = ly_st b n s) : ly_U (ly_gt b n) n (ly_rg b n s) = ly_en b n s := by
  have h2 := ly_st_in b hs
  have e : ly_cnt (ly_V (ly_gt b n) (ly_rg b n s)) n = n - ly_en b n s := by
    rw [← ly_cnt_from (ly_en b n s) n h2.2.2, ← ly_cnt_perm (f := ly_rg b n) (P := ly_V (ly_gt b n) (ly_rg b n s)) (fun i hi => ly_rg_lt hi) (fun i j hi hj e => ly_rg_inj hi hj e)]
    exact ly_cnt_congr n (fun p hp => ly_V_en hn hs es hp)
  unfold ly_U
  rw [e]
  omega
/-- the inverse of the transformed block is the block -/
theorem ly_undo {b : Nat → Nat} {n : Nat} (hn : n ≤ 24) : ly_isR (ly_T b n) (ly_gt b n) n n b := by
  intro a ha hv k hk
  obtain ⟨s, hs, rfl⟩ := ly_rg_ex (b := b) a ha
  have es := ((ly_V_st hn hs).1 hv).symm
  rw [ly_len_rg hn hs es] at hk
  have h2 := ly_st_in b hs
  rw [ly_U_rg hn hs es, ly_gt_it hn hs, ly_T_rg hn (ly_prk_in b hs k).1]
  have e := ly_prk_st b hs es (k + 1) (by omega) (by omega)
  have e2 : ly_pr b n (ly_it (ly_pr b n) s k) = ly_en b n s - (k + 1) := e
  rw [e2]
  exact congrArg b (by omega)
theorem ly_undo_cc {b : Nat → Nat} {n : Nat} (hn : n ≤ 24) : ly_cc (ly_gt b n) n = ly_fc b n n := by
  unfold ly_cc ly_fc
  rw [← ly_cnt_perm (f := ly_rg b n) (P := fun a => ¬ ly_V (ly_gt b n) a a) (fun i hi => ly_rg_lt hi) (fun i j hi hj e => ly_rg_inj hi hj e)]
  exact ly_cnt_congr n (fun p hp => ly_V_st hn hp)
/-! every block is a transformed one -/
def ly_enc (K : Nat) (f : Nat → Nat) : Nat → Nat
  | 0 => 0
  | i + 1 => ly_enc K f i + f i * K ^ i
theorem ly_enc_lt {K : Nat} {f : Nat → Nat} : ∀ n, (∀ j, j < n → f j < K) → ly_enc K f n < K ^ n := by
  intro n
  induction n with
  | zero => intro _; show 0 < 1; omega
  | succ n ih =>
    intro h
    have ih := ih (fun j hj => h j (by omega))
    have h1 := h n (by omega)
    have h2 : (f n + 1) * K ^ n ≤ K * K ^ n := Nat.mul_le_mul_right _ h1
    show ly_enc K f n + f n * K ^ n < K ^ (n + 1)
    rw [Nat.pow_succ, Nat.mul_comm (K ^ n) K]
    rw [Nat.add_mul, Nat.one_mul] at h2
    omega
theorem ly_enc_congr {K : Nat} {f g : Nat → Nat} : ∀ n, (∀ j, j < n → f j = g j) → ly_enc K f n = ly_enc K g n := by
  intro n
  induction n with
  | zero => intro _; rfl
  | succ n ih =>
    intro h
    show ly_enc K f n + f n * K ^ n = ly_enc K g n + g n * K ^ n
    rw [ih (fun j hj => h j (by omega)), h n (by omega)]
theorem ly_enc_inj {K : Nat} {f g : Nat → Nat} (hK : 0 < K) : ∀ n, (∀ j, j < n → f j < K) → (∀ j, j < n → g j < K) → ly_enc K f n = ly_enc K g n → ∀ j, j < n → f j = g j := by
  intro n
  induction n with
  | zero => exact fun _ _ _ j hj => absurd hj (Nat.not_lt_zero j)
  | succ n ih =>
    intro hf hg e j hj
    have e : ly_enc K f n + f n * K ^ n = ly_enc K g n + g n * K ^ n := e
    have hp : 0 < K ^ n := Nat.pow_pos hK
    have h1 := ly_enc_lt n (fun j hj => hf j (by omega : j < n + 1))
    have h2 := ly_enc_lt n (fun j hj => hg j (by omega : j < n + 1))
    have e1 : (ly_enc K f n + f n * K ^ n) / K ^ n = f n := by
      rw [Nat.add_mul_div_right _ _ hp, Nat.div_eq_of_lt h1, Nat.zero_add]
    have e2 : (ly_enc K g n + g n * K ^ n) / K ^ n = g n := by
      rw [Nat.add_mul_div_right _ _ hp, Nat.div_eq_of_lt h2, Nat.zero_add]
    have e3 : f n = g n := by rw [← e1, ← e2, e]
    by_cases c : j = n
    · rw [c]; exact e3
    · rw [e3] at e
      exact ih (fun j hj => hf j (by omega)) (fun j hj => hg j (by omega)) (by omega) j (by omega)
theorem ly_enc_ex {K : Nat} (hK : 0 < K) : ∀ n v, v < K ^ n → ∃ f : Nat → Nat, (∀ j, f j < K) ∧ (∀ j, n ≤ j → f j = 0) ∧ ly_enc K f n = v := by
  intro n
  induction n with
  | zero => exact fun v hv => ⟨fun _ => 0, fun _ => hK, fun _ _ => rfl, by have : v < 1 := hv; show 0 = v; omega⟩
  | succ n ih =>
    intro v hv
    have hp : 0 < K ^ n := Nat.pow_pos hK
    obtain ⟨f, h1, h2, h3⟩ := ih (v % K ^ n) (Nat.mod_lt v hp)
    have hd : v / K ^ n < K := by
      rw [Nat.pow_succ] at hv
      exact Nat.div_lt_of_lt_mul hv
    refine ⟨fun j => if j = n then v / K ^ n else f j, fun j => ?_, fun j hj => ?_, ?_⟩
    · dsimp only
      by_cases c : j = n
      · rw [if_pos c]; exact hd
      · rw [if_neg c]; exact h1 j
    · dsimp only
      rw [if_neg (by omega)]
      exact h2 j (by omega)
    · show ly_enc K _ n + (if n = n then v / K ^ n else f n) * K ^ n = v
      rw [ly_enc_congr (g := f) n (fun j hj => if_neg (by omega)), h3, if_pos rfl, Nat.mul_comm]
      have := Nat.div_add_mod v (K ^ n)
      omega
noncomputable def ly_dec (K n v : Nat) : Nat → Nat := Classical.epsilon (fun f : Nat → Nat => (∀ j, f j < K) ∧ (∀ j, n ≤ j → f j = 0) ∧ ly_enc K f n = v)
theorem ly_dec_is {K n v : Nat} (hK : 0 < K) (hv : v < K ^ n) : (∀ j, ly_dec K n v j < K) ∧ (∀ j, n ≤ j → ly_dec K n v j = 0) ∧ ly_enc K (ly_dec K n v) n = v :=
  Classical.epsilon_spec (p := fun f : Nat → Nat => (∀ j, f j < K) ∧ (∀ j, n ≤ j → f j = 0) ∧ ly_enc K f n = v) (ly_enc_ex hK n v hv)
theorem ly_onto {b : Nat → Nat} {K n : Nat} (hn : n ≤ 24) (hK : 0 < K) (hb : ∀ j, j < n → b j < K) (h0 : ∀ j, n ≤ j → b j = 0) : ∃ c : Nat → Nat, (∀ j, c j < K) ∧ (∀ j, n ≤ j → c j = 0) ∧ ly_T c n = b := by
  have hT : ∀ v, v < K ^ n → ∀ j, j < n → ly_T (ly_dec K n v) n j < K := fun v hv j hj => ly_T_lt (fun i _ => (ly_dec_is hK hv).1 i) hj
  obtain ⟨v, hv, e⟩ := ly_pigeon (K ^ n) (fun v => ly_enc K (ly_T (ly_dec K n v) n) n) (fun v hv => ly_enc_lt n (hT v hv)) (fun v w hv hw e => by
    have h1 := ly_enc_inj hK n (hT v hv) (hT w hw) e
    have h2 : ly_T (ly_dec K n v) n = ly_T (ly_dec K n w) n := by
      funext j
      by_cases c : j < n
      · exact h1 j c
      · rw [ly_T_out _ (by omega), ly_T_out _ (by omega)]
    have h3 := ly_undo (b := ly_dec K n v) hn
    have h4 := ly_undo (b := ly_dec K n w) hn
    unfold ly_gt at h3 h4
    rw [h2] at h3
    have h5 := ly_isR_uniq (ly_g_perm (ly_T (ly_dec K n w) n) n) h3 h4
    rw [← (ly_dec_is hK hv).2.2, ← (ly_dec_is hK hw).2.2]
    exact ly_enc_congr n h5) (ly_enc K b n) (ly_enc_lt n hb)
  refine ⟨ly_dec K n v, (ly_dec_is hK hv).1, (ly_dec_is hK hv).2.1, ?_⟩
  have h1 := ly_enc_inj hK n (hT v hv) hb e
  funext j
  by_cases c : j < n
  · exact h1 j c
  · rw [ly_T_out _ (by omega), h0 j (by omega)]
end
section
/-! a method on any object that holds K, C, block and code: its answer and what it holds then -/
section
variable {K C n m : Nat} {b c R : Nat → Nat}
def ly_Num (K C n m : Nat) (b c : Nat → Nat) : Prop := 2 ≤ K ∧ K ≤ 16 ∧ 8 ≤ C ∧ C ≤ 24 ∧ n ≤ C ∧ m ≤ C ∧ (∀ j, j < n → b j < K) ∧ (∀ j, j < m → c j ≤ K)
def ly_XS (K C n m : Nat) (b c : Nat → Nat) (u : St2) : Prop := match u with
  | (f1, f2, f3, f4, B, Cd, _, _, _, _, _, _, _, _) => f1 = nI K ∧ f2 = nI C ∧ f3 = nI n ∧ f4 = nI m ∧ (∀ j, j < n → B j = nI (b j)) ∧ (∀ j, j < m → Cd j = nI (c j))
def lz_M (K C n m : Nat) (b c : Nat → Nat) (W : (Int32 → St2 → Prop) → St2 → Prop) : Prop := ∃ (r : Int32) (n' m' : Nat) (b' c' : Nat → Nat), ly_Num K C n' m' b' c' ∧ ∀ u, ly_XS K C n m b c u → ∀ post : Int32 → St2 → Prop, (∀ u', ly_XS K C n' m' b' c' u' → post r u') → W post u
theorem lz_put (v : Int32) (N : ly_Num K C n m b c) : lz_M K C n m b c (fun post u => wpX_put post u v) := by
  have N2 := N
  obtain ⟨K1, K2, C1, C2, hn, hm, hb, hc⟩ := N
  rcases ly_ix3 v (n := K) (by omega) with h | ⟨h, h2⟩ | ⟨s, hs, rfl⟩
  · refine ⟨-2, n, m, b, c, N2, fun u hu post hp => ?_⟩
    obtain ⟨f1, f2, f3, f4, B, Cd, Fs, Fi, La, Rw, Su, Vi, Nb, Re⟩ := u
    obtain ⟨rfl, rfl, rfl, rfl, hB, hCd⟩ := hu
    exact br_t h (hp _ ⟨rfl, rfl, rfl, rfl, hB, hCd⟩)
  · refine ⟨-2, n, m, b, c, N2, fun u hu post hp => ?_⟩
    obtain ⟨f1, f2, f3, f4, B, Cd, Fs, Fi, La, Rw, Su, Vi, Nb, Re⟩ := u
    obtain ⟨rfl, rfl, rfl, rfl, hB, hCd⟩ := hu
    exact br_f h (br_f h2 (hp _ ⟨rfl, rfl, rfl, rfl, hB, hCd⟩))
  · have a1 := nI_pos (n := s) (by omega)
    have a2 := nI_lt hs (by omega)
    by_cases d : n < C
    · refine ⟨0, n + 1, m, fun j => if j = n then s else b j, c, ⟨K1, K2, C1, C2, d, hm, fun j hj => ?_, hc⟩, fun u hu post hp => ?_⟩
      · dsimp only
        by_cases z : j = n
        · rw [if_pos z]; exact hs
        · rw [if_neg z]; exact hb j (by omega)
      · obtain ⟨f1, f2, f3, f4, B, Cd, Fs, Fi, La, Rw, Su, Vi, Nb, Re⟩ := u
        obtain ⟨rfl, rfl, rfl, rfl, hB, hCd⟩ := hu
        refine br_f a1 (br_t a2 (br_t (nI_lt d (by omega)) (lx_appSym C2 d (fun B1 e1 => hp _ ⟨rfl, rfl, rfl, rfl, fun j hj => ?_, hCd⟩))))
        dsimp only
        by_cases z : j = n
        · rw [e1, z, pk_us, if_pos rfl]
        · rw [e1, pk_un z, if_neg z]; exact hB j (by omega)
    · refine ⟨-3, n, m, b, c, N2, fun u hu post hp => ?_⟩
      obtain ⟨f1, f2, f3, f4, B, Cd, Fs, Fi, La, Rw, Su, Vi, Nb, Re⟩ := u
      obtain ⟨rfl, rfl, rfl, rfl, hB, hCd⟩ := hu
      exact br_f a1 (br_t a2 (br_f (nI_nlt (a := n) (b := C) (by omega) (by omega)) (hp _ ⟨rfl, rfl, rfl, rfl, hB, hCd⟩)))
theorem lz_putToken (v : Int32) (N : ly_Num K C n m b c) : lz_M K C n m b c (fun post u => wpX_putToken post u v) := by
  have N2 := N
  obtain ⟨K1, K2, C1, C2, hn, hm, hb, hc⟩ := N
  by_cases h : v < 0
  · refine ⟨-2, n, m, b, c, N2, fun u hu post hp => ?_⟩
    obtain ⟨f1, f2, f3, f4, B, Cd, Fs, Fi, La, Rw, Su, Vi, Nb, Re⟩ := u
    obtain ⟨rfl, rfl, rfl, rfl, hB, hCd⟩ := hu
    exact br_t h (hp _ ⟨rfl, rfl, rfl, rfl, hB, hCd⟩)
  · obtain ⟨s, hs31, rfl⟩ := nI_of h
    by_cases hs : s ≤ K
    · have a2 := nI_le hs (by omega : K < 2 ^ 31)
      by_cases d : m < C
      · refine ⟨0, n, m + 1, b, fun j => if j = m then s else c j, ⟨K1, K2, C1, C2, hn, d, hb, fun j hj => ?_⟩, fun u hu post hp => ?_⟩
        · dsimp only
          by_cases z : j = m
          · rw [if_pos z]; exact hs
          · rw [if_neg z]; exact hc j (by omega)
        · obtain ⟨f1, f2, f3, f4, B, Cd, Fs, Fi, La, Rw, Su, Vi, Nb, Re⟩ := u
          obtain ⟨rfl, rfl, rfl, rfl, hB, hCd⟩ := hu
          refine br_f h (br_t a2 (br_t (nI_lt d (by omega)) (lx_appTok C2 d (fun B1 e1 => hp _ ⟨rfl, rfl, rfl, rfl, hB, fun j hj => ?_⟩))))
          dsimp only
          by_cases z : j = m
          · rw [e1, z, pk_us, if_pos rfl]
          · rw [e1, pk_un z, if_neg z]; exact hCd j (by omega)
      · refine ⟨-3, n, m, b, c, N2, fun u hu post hp => ?_⟩
        obtain ⟨f1, f2, f3, f4, B, Cd, Fs, Fi, La, Rw, Su, Vi, Nb, Re⟩ := u
        obtain ⟨rfl, rfl, rfl, rfl, hB, hCd⟩ := hu
        exact br_f h (br_t a2 (br_f (nI_nlt (a := m) (b := C) (by omega) (by omega)) (hp _ ⟨rfl, rfl, rfl, rfl, hB, hCd⟩)))
    · refine ⟨-2, n, m, b, c, N2, fun u hu post hp => ?_⟩
      obtain ⟨f1, f2, f3, f4, B, Cd, Fs, Fi, La, Rw, Su, Vi, Nb, Re⟩ := u
      obtain ⟨rfl, rfl, rfl, rfl, hB, hCd⟩ := hu
      exact br_f h (br_f (nI_ge (a := K) (b := s) (by omega) hs31) (hp _ ⟨rfl, rfl, rfl, rfl, hB, hCd⟩))
theorem lz_clear (N : ly_Num K C n m b c) : lz_M K C n m b c (fun post u => wpX_clear (post 0) u) := by
  obtain ⟨K1, K2, C1, C2, hn, hm, hb, hc⟩ := N
  refine ⟨0, 0, m, b, c, ⟨K1, K2, C1, C2, Nat.zero_le C, hm, fun j h => absurd h (Nat.not_lt_zero j), hc⟩, fun u hu post hp => ?_⟩
  obtain ⟨f1, f2, f3, f4, B, Cd, Fs, Fi, La, Rw, Su, Vi, Nb, Re⟩ := u
  obtain ⟨rfl, rfl, rfl, rfl, hB, hCd⟩ := hu
  exact hp _ ⟨rfl, rfl, rfl, rfl, fun j h => absurd h (Nat.not_lt_zero j), hCd⟩
theorem lz_transform_s (N : ly_Num K C n m b c) : ly_Num K C n m (ly_T b n) c ∧ ∀ u, ly_XS K C n m b c u → ∀ post : Int32 → St2 → Prop, (∀ u', ly_XS K C n m (ly_T b n) c u' → post (nI (ly_fc b n n)) u') → wpX_transform post u := by
  obtain ⟨K1, K2, C1, C2, hn, hm, hb, hc⟩ := N
  refine ⟨⟨K1, K2, C1, C2, hn, hm, fun j hj => ly_T_lt hb hj, hc⟩, fun u hu post hp => ?_⟩
  obtain ⟨f1, f2, f3, f4, B, Cd, Fs, Fi, La, Rw, Su, Vi, Nb, Re⟩ := u
  obtain ⟨rfl, rfl, rfl, rfl, hB, hCd⟩ := hu
  exact lx_transform (by omega) (fun j hj => Nat.lt_of_lt_of_le (hb j hj) K2) hB (fun B1 Fs1 Fi1 La1 Rw1 Nb1 h1 => hp _ ⟨rfl, rfl, rfl, rfl, h1, hCd⟩)
theorem lz_transform (N : ly_Num K C n m b c) : lz_M K C n m b c wpX_transform :=
  ⟨_, n, m, ly_T b n, c, (lz_transform_s N).1, (lz_transform_s N).2⟩
theorem lz_invert_s (N : ly_Num K C n m b c) (hR : ly_isR b (ly_g b n) n n R) : ∀ u, ly_XS K C n m b c u → ∀ post : Int32 → St2 → Prop, (∀ u', ly_XS K C n m R c u' → post (nI (ly_cc (ly_g b n) n)) u') → wpX_invert post u := by
  obtain ⟨K1, K2, C1, C2, hn, hm, hb, hc⟩ := N
  intro u hu post hp
  obtain ⟨f1, f2, f3, f4, B, Cd, Fs, Fi, La, Rw, Su, Vi, Nb, Re⟩ := u
  obtain ⟨rfl, rfl, rfl, rfl, hB, hCd⟩ := hu
  exact lx_invert (by omega) (fun j hj => Nat.lt_of_lt_of_le (hb j hj) K2) hB hR (fun B1 Su1 Vi1 Nb1 h1 => hp _ ⟨rfl, rfl, rfl, rfl, h1, hCd⟩)
theorem lz_invert (N : ly_Num K C n m b c) : lz_M K C n m b c wpX_invert := by
  have N2 := N
  obtain ⟨K1, K2, C1, C2, hn, hm, hb, hc⟩ := N
  obtain ⟨R, hR, hRK⟩ := ly_isR_ex (ly_gp b n) (by omega : 0 < K) hb n (Nat.le_refl n)
  exact ⟨_, n, m, R, c, ⟨K1, K2, C1, C2, hn, hm, fun j _ => hRK j, hc⟩, lz_invert_s N2 hR⟩
theorem lz_front (N : ly_Num K C n m b c) : lz_M K C n m b c (fun post u => wpX_front (post 0) u) := by
  obtain ⟨K1, K2, C1, C2, hn, hm, hb, hc⟩ := N
  refine ⟨0, n, m, ly_F b K, c, ⟨K1, K2, C1, C2, hn, hm, fun j hj => ly_pl_lt (hb j hj), hc⟩, fun u hu post hp => ?_⟩
  obtain ⟨f1, f2, f3, f4, B, Cd, Fs, Fi, La, Rw, Su, Vi, Nb, Re⟩ := u
  obtain ⟨rfl, rfl, rfl, rfl, hB, hCd⟩ := hu
  exact lx_front K2 (by omega) (by omega) hb hB (fun B1 Re1 h1 => hp _ ⟨rfl, rfl, rfl, rfl, h1, hCd⟩)
theorem lz_unfront (N : ly_Num K C n m b c) : lz_M K C n m b c (fun post u => wpX_unfront (post 0) u) := by
  obtain ⟨K1, K2, C1, C2, hn, hm, hb, hc⟩ := N
  obtain ⟨D, hD⟩ := ly_isD_ex hb n (Nat.le_refl n)
  refine ⟨0, n, m, D, c, ⟨K1, K2, C1, C2, hn, hm, fun j hj => (hD j hj).1, hc⟩, fun u hu post hp => ?_⟩
  obtain ⟨f1, f2, f3, f4, B, Cd, Fs, Fi, La, Rw, Su, Vi, Nb, Re⟩ := u
  obtain ⟨rfl, rfl, rfl, rfl, hB, hCd⟩ := hu
  exact lx_unfront K2 (by omega) hb hB hD (fun B1 Re1 h1 => hp _ ⟨rfl, rfl, rfl, rfl, h1, hCd⟩)
theorem lz_pack (N : ly_Num K C n m b c) : lz_M K C n m b c wpX_pack := by
  obtain ⟨K1, K2, C1, C2, hn, hm, hb, hc⟩ := N
  have h1 := ly_M_le b n
  have h2 := ly_dl_le (ly_zr b n)
  refine ⟨nI (ly_M b n + ly_dl (ly_zr b n)), n, ly_M b n + ly_dl (ly_zr b n), b, ly_C b n, ⟨K1, K2, C1, C2, hn, by omega, hb, fun j _ => ly_C_le (by omega) hb j⟩, fun u hu post hp => ?_⟩
  obtain ⟨f1, f2, f3, f4, B, Cd, Fs, Fi, La, Rw, Su, Vi, Nb, Re⟩ := u
  obtain ⟨rfl, rfl, rfl, rfl, hB, hCd⟩ := hu
  exact lx_pack C2 hn (fun j hj => Nat.lt_of_lt_of_le (hb j hj) K2) hB (fun Cd1 h1 => hp _ ⟨rfl, rfl, rfl, rfl, hB, h1⟩)
theorem lz_unpack (N : ly_Num K C n m b c) : lz_M K C n m b c wpX_unpack := by
  have N2 := N
  obtain ⟨K1, K2, C1, C2, hn, hm, hb, hc⟩ := N
  have hc16 : ∀ j, j < m → c j ≤ 16 := fun j hj => Nat.le_trans (hc j hj) K2
  by_cases hd : ly_D c m ≤ C
  · refine ⟨nI (ly_D c m), ly_D c m, m, ly_S c m, c, ⟨K1, K2, C1, C2, hd, hm, fun j _ => ly_S_lt (by omega) hc m (Nat.le_refl m) j, hc⟩, fun u hu post hp => ?_⟩
    obtain ⟨f1, f2, f3, f4, B, Cd, Fs, Fi, La, Rw, Su, Vi, Nb, Re⟩ := u
    obtain ⟨rfl, rfl, rfl, rfl, hB, hCd⟩ := hu
    exact lx_unpack C2 hm hc16 hCd (fun _ B1 h1 => hp _ ⟨rfl, rfl, rfl, rfl, h1, hCd⟩) (fun z => by omega)
  · refine ⟨-4, n, m, b, c, N2, fun u hu post hp => ?_⟩
    obtain ⟨f1, f2, f3, f4, B, Cd, Fs, Fi, La, Rw, Su, Vi, Nb, Re⟩ := u
    obtain ⟨rfl, rfl, rfl, rfl, hB, hCd⟩ := hu
    exact lx_unpack C2 hm hc16 hCd (fun z => by omega) (fun _ => hp _ ⟨rfl, rfl, rfl, rfl, hB, hCd⟩)
/-! what only answers -/
theorem lz_length {u : St2} {post : Int32 → Prop} (hu : ly_XS K C n m b c u) (hp : post (nI n)) : wpX_length post u := by
  obtain ⟨f1, f2, f3, f4, B, Cd, Fs, Fi, La, Rw, Su, Vi, Nb, Re⟩ := u
  obtain ⟨rfl, rfl, rfl, rfl, hB, hCd⟩ := hu
  exact hp
theorem lz_codeLength {u : St2} {post : Int32 → Prop} (hu : ly_XS K C n m b c u) (hp : post (nI m)) : wpX_codeLength post u := by
  obtain ⟨f1, f2, f3, f4, B, Cd, Fs, Fi, La, Rw, Su, Vi, Nb, Re⟩ := u
  obtain ⟨rfl, rfl, rfl, rfl, hB, hCd⟩ := hu
  exact hp
theorem lz_at (hn : n ≤ 24) (v : Int32) : ∃ r : Int32, ∀ u, ly_XS K C n m b c u → ∀ post : Int32 → Prop, post r → wpX_at post u v := by
  rcases ly_ix3 v (n := n) (by omega) with h | ⟨h, h2⟩ | ⟨s, hs, rfl⟩
  · refine ⟨-1, fun u hu post hp => ?_⟩
    obtain ⟨f1, f2, f3, f4, B, Cd, Fs, Fi, La, Rw, Su, Vi, Nb, Re⟩ := u
    obtain ⟨rfl, rfl, rfl, rfl, hB, hCd⟩ := hu
    exact br_t h hp
  · refine ⟨-1, fun u hu post hp => ?_⟩
    obtain ⟨f1, f2, f3, f4, B, Cd, Fs, Fi, La, Rw, Su, Vi, Nb, Re⟩ := u
    obtain ⟨rfl, rfl, rfl, rfl, hB, hCd⟩ := hu
    exact br_f h (br_f h2 hp)
  · refine ⟨nI (b s), fun u hu post hp => ?_⟩
    obtain ⟨f1, f2, f3, f4, B, Cd, Fs, Fi, La, Rw, Su, Vi, Nb, Re⟩ := u
    obtain ⟨rfl, rfl, rfl, rfl, hB, hCd⟩ := hu
    refine br_f (nI_pos (by omega)) (br_t (nI_lt hs (by omega)) (And.intro (ly_in (by omega)) ?_))
    rw [ly_rd hB hs hn]
    exact hp
theorem lz_codeAt (hm : m ≤ 24) (v : Int32) : ∃ r : Int32, ∀ b u, ly_XS K C n m b c u → ∀ post : Int32 → Prop, post r → wpX_codeAt post u v := by
  rcases ly_ix3 v (n := m) (by omega) with h | ⟨h, h2⟩ | ⟨s, hs, rfl⟩
  · refine ⟨-1, fun b u hu post hp => ?_⟩
    obtain ⟨f1, f2, f3, f4, B, Cd, Fs, Fi, La, Rw, Su, Vi, Nb, Re⟩ := u
    obtain ⟨rfl, rfl, rfl, rfl, hB, hCd⟩ := hu
    exact br_t h hp
  · refine ⟨-1, fun b u hu post hp => ?_⟩
    obtain ⟨f1, f2, f3, f4, B, Cd, Fs, Fi, La, Rw, Su, Vi, Nb, Re⟩ := u
    obtain ⟨rfl, rfl, rfl, rfl, hB, hCd⟩ := hu
    exact br_f h (br_f h2 hp)
  · refine ⟨nI (c s), fun b u hu post hp => ?_⟩
    obtain ⟨f1, f2, f3, f4, B, Cd, Fs, Fi, La, Rw, Su, Vi, Nb, Re⟩ := u
    obtain ⟨rfl, rfl, rfl, rfl, hB, hCd⟩ := hu
    refine br_f (nI_pos (by omega)) (br_t (nI_lt hs (by omega)) (And.intro (ly_in (by omega)) ?_))
    rw [ly_rd hCd hs hm]
    exact hp
theorem lz_limit (v : Int32) : ∃ r : Int32, ∀ b u, ly_XS K C n m b c u → ∀ post : Int32 → Prop, post r → wpX_limit post u v := by
  by_cases c0 : v = 0
  · refine ⟨nI K, fun b u hu post hp => ?_⟩
    obtain ⟨f1, f2, f3, f4, B, Cd, Fs, Fi, La, Rw, Su, Vi, Nb, Re⟩ := u
    obtain ⟨rfl, rfl, rfl, rfl, hB, hCd⟩ := hu
    exact br_t c0 hp
  · by_cases c1 : v = 1
    · refine ⟨nI C, fun b u hu post hp => ?_⟩
      obtain ⟨f1, f2, f3, f4, B, Cd, Fs, Fi, La, Rw, Su, Vi, Nb, Re⟩ := u
      obtain ⟨rfl, rfl, rfl, rfl, hB, hCd⟩ := hu
      exact br_f c0 (br_t c1 hp)
    · refine ⟨-1, fun b u hu post hp => ?_⟩
      obtain ⟨f1, f2, f3, f4, B, Cd, Fs, Fi, La, Rw, Su, Vi, Nb, Re⟩ := u
      obtain ⟨rfl, rfl, rfl, rfl, hB, hCd⟩ := hu
      exact br_f c0 (br_f c1 hp)
theorem lz_isFS_ex (b : Nat → Nat) (n : Nat) (v : Int32) : ∃ r, ly_isFS b n v r := by
  by_cases h : ∃ p, p < n ∧ ly_st b n p = p ∧ v = nI (ly_fc b n p)
  · obtain ⟨p, h1, h2, h3⟩ := h
    exact ⟨nI p, Or.inl ⟨p, h1, h2, h3, rfl⟩⟩
  · exact ⟨-1, Or.inr ⟨fun p h1 h2 h3 => h ⟨p, h1, h2, h3⟩, rfl⟩⟩
theorem lz_factorStart (N : ly_Num K C n m b c) (v : Int32) : ∃ r : Int32, ∀ u, ly_XS K C n m b c u → ∀ post : Int32 → St2 → Prop, (∀ u', ly_XS K C n m b c u' → post r u') → wpX_factorStart post u v := by
  obtain ⟨K1, K2, C1, C2, hn, hm, hb, hc⟩ := N
  obtain ⟨r, hr⟩ := lz_isFS_ex b n v
  refine ⟨r, fun u hu post hp => ?_⟩
  obtain ⟨f1, f2, f3, f4, B, Cd, Fs, Fi, La, Rw, Su, Vi, Nb, Re⟩ := u
  obtain ⟨rfl, rfl, rfl, rfl, hB, hCd⟩ := hu
  refine lx_factorStart (by omega) (fun j hj => Nat.lt_of_lt_of_le (hb j hj) K2) hB (fun r' Fs1 Fi1 La1 hr' => ?_)
  rw [ly_isFS_uniq (by omega) hr hr']
  exact hp _ ⟨rfl, rfl, rfl, rfl, hB, hCd⟩
theorem lz_rowAt (N : ly_Num K C n m b c) (v : Int32) : ∃ r : Int32, ∀ u, ly_XS K C n m b c u → ∀ post : Int32 → St2 → Prop, (∀ u', ly_XS K C n m b c u' → post r u') → wpX_rowAt post u v := by
  obtain ⟨K1, K2, C1, C2, hn, hm, hb, hc⟩ := N
  obtain ⟨r, hr⟩ : ∃ r, ly_isRow b n v r := by
    rcases ly_ix3 v (n := n) (by omega) with h | ⟨h, h2⟩ | ⟨j, hj, rfl⟩
    · exact ⟨-1, Or.inr ⟨Or.inl h, rfl⟩⟩
    · exact ⟨-1, Or.inr ⟨Or.inr h2, rfl⟩⟩
    · exact ⟨_, Or.inl ⟨j, hj, rfl, rfl⟩⟩
  refine ⟨r, fun u hu post hp => ?_⟩
  obtain ⟨f1, f2, f3, f4, B, Cd, Fs, Fi, La, Rw, Su, Vi, Nb, Re⟩ := u
  obtain ⟨rfl, rfl, rfl, rfl, hB, hCd⟩ := hu
  refine lx_rowAt (by omega) (fun j hj => Nat.lt_of_lt_of_le (hb j hj) K2) hB (fun r' Fs1 Fi1 La1 Rw1 hr' => ?_)
  rw [ly_isRow_uniq (by omega) hr hr']
  exact hp _ ⟨rfl, rfl, rfl, rfl, hB, hCd⟩
/-! the two pairs -/
theorem lz_pair1 (N : ly_Num K C n m b c) : ∃ r : Int32, ∃ b1 : Nat → Nat, (∀ u, ly_XS K C n m b c u → ∀ post : Int32 → St2 → Prop, (∀ u', ly_XS K C n m b1 c u' → post r u') → wpX_transform post u) ∧ (∀ u, ly_XS K C n m b1 c u → ∀ post : Int32 → St2 → Prop, (∀ u', ly_XS K C n m b c u' → post r u') → wpX_invert post u) := by
  have hn : n ≤ 24 := by obtain ⟨K1, K2, C1, C2, hn, hm, hb, hc⟩ := N; omega
  have h1 := lz_transform_s N
  have h2 := lz_invert_s h1.1 (R := b) (ly_undo hn)
  have e : ly_cc (ly_g (ly_T b n) n) n = ly_fc b n n := ly_undo_cc hn
  rw [e] at h2
  exact ⟨_, ly_T b n, h1.2, h2⟩
theorem lz_XS_congr {b' : Nat → Nat} {u : St2} (h : ∀ j, j < n → b j = b' j) (hu : ly_XS K C n m b c u) : ly_XS K C n m b' c u := by
  obtain ⟨f1, f2, f3, f4, B, Cd, Fs, Fi, La, Rw, Su, Vi, Nb, Re⟩ := u
  obtain ⟨rfl, rfl, rfl, rfl, hB, hCd⟩ := hu
  exact ⟨rfl, rfl, rfl, rfl, fun j hj => by rw [hB j hj, h j hj], hCd⟩
theorem lz_pair2 (N : ly_Num K C n m b c) : ∃ r : Int32, ∃ b1 : Nat → Nat, (∀ u, ly_XS K C n m b c u → ∀ post : Int32 → St2 → Prop, (∀ u', ly_XS K C n m b1 c u' → post r u') → wpX_invert post u) ∧ (∀ u, ly_XS K C n m b1 c u → ∀ post : Int32 → St2 → Prop, (∀ u', ly_XS K C n m b c u' → post r u') → wpX_transform post u) := by
  obtain ⟨K1, K2, C1, C2, hn, hm, hb, hc⟩ := N
  have hn24 : n ≤ 24 := by omega
  have hcl : ∀ j, j < n → b j = (fun j => if j < n then b j else 0) j := fun j hj => (if_pos hj).symm
  obtain ⟨d, d1, d2, d3⟩ := ly_onto (b := fun j => if j < n then b j else 0) (K := K) hn24 (by omega) (fun j hj => by rw [if_pos hj]; exact hb j hj) (fun j hj => if_neg (by omega))
  have Nb : ly_Num K C n m (fun j => if j < n then b j else 0) c := ⟨K1, K2, C1, C2, hn, hm, fun j hj => by rw [← hcl j hj]; exact hb j hj, hc⟩
  have Nd : ly_Num K C n m d c := ⟨K1, K2, C1, C2, hn, hm, fun j _ => d1 j, hc⟩
  have hR := ly_undo (b := d) hn24
  have e := ly_undo_cc (b := d) hn24
  have h1 := lz_transform_s Nd
  unfold ly_gt at hR e
  rw [d3] at hR e h1
  have h2 := lz_invert_s Nb (R := d) hR
  have e2 : ly_cc (ly_g (fun j => if j < n then b j else 0) n) n = ly_fc d n n := e
  rw [e2] at h2
  exact ⟨_, d, fun u hu post hp => h2 u (lz_XS_congr hcl hu) post hp, fun u hu post hp => h1.2 u hu post (fun u' hu' => hp u' (lz_XS_congr (fun j hj => (hcl j hj).symm) hu'))⟩
end
end
section
/-! the law -/
section
def lz_Q (u t : St2) : Prop := ∃ (K C n m : Nat) (b c : Nat → Nat), ly_Num K C n m b c ∧ ly_XS K C n m b c u ∧ ly_XS K C n m b c t
theorem lz_two {W : (Int32 → St2 → Prop) → St2 → Prop} (hW : ∀ {K C n m : Nat} {b c : Nat → Nat}, ly_Num K C n m b c → lz_M K C n m b c W) {G : (Int32 → Int32 → Int32 → Int32 → (Nat → Int32) → (Nat → Int32) → (Nat → Int32) → (Nat → Int32) → (Nat → Int32) → (Nat → Int32) → (Nat → Int32) → (Nat → Int32) → (Nat → Int32) → (Nat → Int32) → Int32 → Int32 → Int32 → Int32 → (Nat → Int32) → (Nat → Int32) → (Nat → Int32) → (Nat → Int32) → (Nat → Int32) → (Nat → Int32) → (Nat → Int32) → (Nat → Int32) → (Nat → Int32) → (Nat → Int32) → Prop)} (hG : ∀ (p1 p2 p3 p4 : Int32) (A1 A2 A3 A4 A5 A6 A7 A8 A9 A10 : Nat → Int32) (q1 q2 q3 q4 : Int32) (T1 T2 T3 T4 T5 T6 T7 T8 T9 T10 : Nat → Int32), lz_Q (p1, p2, p3, p4, A1, A2, A3, A4, A5, A6, A7, A8, A9, A10) (q1, q2, q3, q4, T1, T2, T3, T4, T5, T6, T7, T8, T9, T10) → G p1 p2 p3 p4 A1 A2 A3 A4 A5 A6 A7 A8 A9 A10 q1 q2 q3 q4 T1 T2 T3 T4 T5 T6 T7 T8 T9 T10) {u t : St2} (q : lz_Q u t) : W (fun _ u => match u with | (p1, p2, p3, p4, A1, A2, A3, A4, A5, A6, A7, A8, A9, A10) => W (fun _ t => match t with | (q1, q2, q3, q4, T1, T2, T3, T4, T5, T6, T7, T8, T9, T10) => G p1 p2 p3 p4 A1 A2 A3 A4 A5 A6 A7 A8 A9 A10 q1 q2 q3 q4 T1 T2 T3 T4 T5 T6 T7 T8 T9 T10) t) u := by
  obtain ⟨K, C, n, m, b, c, N, hu, ht⟩ := q
  obtain ⟨r, n', m', b', c', N', H⟩ := hW N
  refine H u hu _ (fun u' hu' => ?_)
  obtain ⟨p1, p2, p3, p4, A1, A2, A3, A4, A5, A6, A7, A8, A9, A10⟩ := u'
  refine H t ht _ (fun t' ht' => ?_)
  obtain ⟨q1, q2, q3, q4, T1, T2, T3, T4, T5, T6, T7, T8, T9, T10⟩ := t'
  exact hG _ _ _ _ _ _ _ _ _ _ _ _ _ _ _ _ _ _ _ _ _ _ _ _ _ _ _ _ ⟨K, C, n', m', b', c', N', hu', ht'⟩
theorem lz_cell {post : Int32 → Prop} {L : Nat} {xs : Nat → Int32} {k : Nat} (hL : L ≤ 260) (hk : k < 2 ^ 31) (hp : ∀ r, post r) : wpL_cell post L xs () (nI k) := by
  refine pk_le L k (fun _ => hp _) (fun h => And.intro (vp_in_nI h (by omega)) (hp _)) rfl rfl
theorem lz_mod {post : Int32 → Prop} {x : Int32} {q : Nat} (hq : 0 < q) (hq2 : q < 2 ^ 31) (hp : ∀ j, j < q → post (nI j)) : wpL_mod post () x (nI q) := by
  obtain ⟨a, ha, ea⟩ := pk_andE x (m := 2147483647) 31 (by decide)
  refine And.intro (nI_ne0 hq hq2) ?_
  rw [ea, pk_rem (by omega) hq hq2]
  exact hp _ (Nat.mod_lt a hq)
theorem lz_mix {post : Int32 → Prop} {x : Int32} (hp : ∀ r, post r) : wpL_mix post () x :=
  fun _ _ _ _ _ _ _ _ _ _ => hp _
theorem lz_letter {post : Int32 → Prop} {h i : Int32} {p w : Nat} (hp0 : 0 < p) (hp1 : p < 2 ^ 31) (hw0 : 0 < w) (hw1 : w < 2 ^ 31) (hp : ∀ r, post r) : wpL_letter post () h i (nI p) (nI w) :=
  And.intro (nI_ne0 hp0 hp1) (lz_mix (fun _ => lz_mod hw0 hw1 (fun _ _ => hp _)))
theorem lz_m1p (k : Nat) {y : Int32} (e : y = nI k - 1 + 1) : y = nI (k + 1) - 1 := by
  rw [e, ly_s1 (b := k) rfl, Int32.sub_add_cancel]
theorem lz_24 {k : Nat} (h : k < 26) : ¬ (24 : Int32) < nI k - 1 := by
  cases k with
  | zero => decide
  | succ k =>
    rw [ly_s1 (b := k) rfl]
    exact nI_nlt (a := 24) (b := k) (by omega) (by decide)
theorem lz_25 : (24 : Int32) < nI 26 - 1 := by decide
variable {post : Int32 → Prop} {L : Nat} {xs : Nat → Int32} {J76 J585 : (Int32 → Int32 → Int32 → Int32 → Int32 → (Nat → Int32) → (Nat → Int32) → (Nat → Int32) → (Nat → Int32) → (Nat → Int32) → (Nat → Int32) → (Nat → Int32) → (Nat → Int32) → (Nat → Int32) → (Nat → Int32) → Int32 → Int32 → Int32 → Int32 → (Nat → Int32) → (Nat → Int32) → (Nat → Int32) → (Nat → Int32) → (Nat → Int32) → (Nat → Int32) → (Nat → Int32) → (Nat → Int32) → (Nat → Int32) → (Nat → Int32) → Prop)} {x3 x6 x7 x9 x10 x11 x12 x13 x14 : Int32} {kc ks : Nat} {K C n m : Nat} {b b1 c : Nat → Nat}
theorem lz_773 (N : ly_Num K C n m b c) (hJ : ∀ (p1 p2 p3 p4 : Int32) (A1 A2 A3 A4 A5 A6 A7 A8 A9 A10 : Nat → Int32) (q1 q2 q3 q4 : Int32) (T1 T2 T3 T4 T5 T6 T7 T8 T9 T10 : Nat → Int32), lz_Q (p1, p2, p3, p4, A1, A2, A3, A4, A5, A6, A7, A8, A9, A10) (q1, q2, q3, q4, T1, T2, T3, T4, T5, T6, T7, T8, T9, T10) → J585 (x10 + 1) p1 p2 p3 p4 A1 A2 A3 A4 A5 A6 A7 A8 A9 A10 q1 q2 q3 q4 T1 T2 T3 T4 T5 T6 T7 T8 T9 T10) : ∀ d k, k + d = 26 → ∀ x15 (p1 p2 p3 p4 : Int32) (A1 A2 A3 A4 A5 A6 A7 A8 A9 A10 : Nat → Int32) (q1 q2 q3 q4 : Int32) (T1 T2 T3 T4 T5 T6 T7 T8 T9 T10 : Nat → Int32), x15 = nI k - 1 → ly_XS K C n m b c (p1, p2, p3, p4, A1, A2, A3, A4, A5, A6, A7, A8, A9, A10) → ly_XS K C n m b c (q1, q2, q3, q4, T1, T2, T3, T4, T5, T6, T7, T8, T9, T10) → wL_law_773 post L xs J76 J585 x3 x6 x10 kc ks (d + 1) x15 p1 p2 p3 p4 A1 A2 A3 A4 A5 A6 A7 A8 A9 A10 q1 q2 q3 q4 T1 T2 T3 T4 T5 T6 T7 T8 T9 T10 := by
  have hn : n ≤ 24 := by obtain ⟨K1, K2, C1, C2, hn, hm, hb, hc⟩ := N; omega
  have hm : m ≤ 24 := by obtain ⟨K1, K2, C1, C2, hn, hm, hb, hc⟩ := N; omega
  intro d
  induction d with
  | zero =>
    intro k hk x15 p1 p2 p3 p4 A1 A2 A3 A4 A5 A6 A7 A8 A9 A10 q1 q2 q3 q4 T1 T2 T3 T4 T5 T6 T7 T8 T9 T10 ex hu ht
    obtain rfl : k = 26 := by omega
    subst ex
    exact br_t lz_25 (nm_e (hJ _ _ _ _ _ _ _ _ _ _ _ _ _ _ _ _ _ _ _ _ _ _ _ _ _ _ _ _ ⟨K, C, n, m, b, c, N, hu, ht⟩))
  | succ d ih =>
    intro k hk x15 p1 p2 p3 p4 A1 A2 A3 A4 A5 A6 A7 A8 A9 A10 q1 q2 q3 q4 T1 T2 T3 T4 T5 T6 T7 T8 T9 T10 ex hu ht
    subst ex
    refine br_f (lz_24 (by omega)) ?_
    obtain ⟨r1, H1⟩ := lz_at (K := K) (C := C) (m := m) (b := b) (c := c) hn (nI k - 1)
    refine H1 _ hu _ (H1 _ ht _ (br_t rfl ?_))
    obtain ⟨r2, H2⟩ := lz_codeAt (K := K) (C := C) (n := n) (c := c) hm (nI k - 1)
    refine H2 b _ hu _ (H2 b _ ht _ (br_t rfl ?_))
    obtain ⟨r3, H3⟩ := lz_limit (K := K) (C := C) (n := n) (m := m) (c := c) (nI k - 1)
    refine H3 b _ hu _ (H3 b _ ht _ (br_t rfl ?_))
    obtain ⟨r4, H4⟩ := lz_factorStart N (nI k - 1)
    refine H4 _ hu _ (fun u1 hu1 => ?_)
    obtain ⟨p1, p2, p3, p4, A1, A2, A3, A4, A5, A6, A7, A8, A9, A10⟩ := u1
    refine H4 _ ht _ (fun t1 ht1 => ?_)
    obtain ⟨q1, q2, q3, q4, T1, T2, T3, T4, T5, T6, T7, T8, T9, T10⟩ := t1
    refine br_t rfl ?_
    obtain ⟨r5, H5⟩ := lz_rowAt N (nI k - 1)
    refine H5 _ hu1 _ (fun u2 hu2 => ?_)
    obtain ⟨p1, p2, p3, p4, A1, A2, A3, A4, A5, A6, A7, A8, A9, A10⟩ := u2
    refine H5 _ ht1 _ (fun t2 ht2 => ?_)
    obtain ⟨q1, q2, q3, q4, T1, T2, T3, T4, T5, T6, T7, T8, T9, T10⟩ := t2
    refine br_t rfl ?_
    intro y ey
    exact ih (k + 1) (by omega) _ _ _ _ _ _ _ _ _ _ _ _ _ _ _ _ _ _ _ _ _ _ _ _ _ _ _ _ _ (lz_m1p k ey) hu2 ht2
theorem lz_739 {p1 p2 p3 p4 : Int32} {A1 A2 A3 A4 A5 A6 A7 A8 A9 A10 : Nat → Int32} {q1 q2 q3 q4 : Int32} {T1 T2 T3 T4 T5 T6 T7 T8 T9 T10 : Nat → Int32} (N : ly_Num K C n m b c) (hu : ly_XS K C n m b c (p1, p2, p3, p4, A1, A2, A3, A4, A5, A6, A7, A8, A9, A10)) (ht : ly_XS K C n m b c (q1, q2, q3, q4, T1, T2, T3, T4, T5, T6, T7, T8, T9, T10)) (hJ : ∀ (p1 p2 p3 p4 : Int32) (A1 A2 A3 A4 A5 A6 A7 A8 A9 A10 : Nat → Int32) (q1 q2 q3 q4 : Int32) (T1 T2 T3 T4 T5 T6 T7 T8 T9 T10 : Nat → Int32), lz_Q (p1, p2, p3, p4, A1, A2, A3, A4, A5, A6, A7, A8, A9, A10) (q1, q2, q3, q4, T1, T2, T3, T4, T5, T6, T7, T8, T9, T10) → J585 (x10 + 1) p1 p2 p3 p4 A1 A2 A3 A4 A5 A6 A7 A8 A9 A10 q1 q2 q3 q4 T1 T2 T3 T4 T5 T6 T7 T8 T9 T10) : wL_law_739 post L xs J76 J585 x3 x6 x10 (nI n) (nI m) x13 x13 kc ks p1 p2 p3 p4 A1 A2 A3 A4 A5 A6 A7 A8 A9 A10 q1 q2 q3 q4 T1 T2 T3 T4 T5 T6 T7 T8 T9 T10 := by
  refine br_t rfl (lz_length hu (br_t rfl (lz_codeLength hu (br_t rfl ?_))))
  exact ⟨_, lz_773 N hJ 26 0 rfl _ _ _ _ _ _ _ _ _ _ _ _ _ _ _ _ _ _ _ _ _ _ _ _ _ _ _ _ _ rfl hu ht⟩
theorem lz_662 {p1 p2 p3 p4 : Int32} {A1 A2 A3 A4 A5 A6 A7 A8 A9 A10 : Nat → Int32} {q1 q2 q3 q4 : Int32} {T1 T2 T3 T4 T5 T6 T7 T8 T9 T10 : Nat → Int32} (hm : m ≤ 24) (hu : ly_XS K C n m b1 c (p1, p2, p3, p4, A1, A2, A3, A4, A5, A6, A7, A8, A9, A10)) (ht : ly_XS K C n m b c (q1, q2, q3, q4, T1, T2, T3, T4, T5, T6, T7, T8, T9, T10)) (hE : (x10 = 1 → wpX_invert (fun r u => match u with | (p1, p2, p3, p4, A1, A2, A3, A4, A5, A6, A7, A8, A9, A10) => wL_law_726 post L xs J76 J585 x3 x6 x10 x11 x12 x13 r kc ks p1 p2 p3 p4 A1 A2 A3 A4 A5 A6 A7 A8 A9 A10 q1 q2 q3 q4 T1 T2 T3 T4 T5 T6 T7 T8 T9 T10) (p1, p2, p3, p4, A1, A2, A3, A4, A5, A6, A7, A8, A9, A10)) ∧ (¬ x10 = 1 → wL_law_726 post L xs J76 J585 x3 x6 x10 x11 x12 x13 x14 kc ks p1 p2 p3 p4 A1 A2 A3 A4 A5 A6 A7 A8 A9 A10 q1 q2 q3 q4 T1 T2 T3 T4 T5 T6 T7 T8 T9 T10)) : ∀ d k, k + d = 26 → ∀ x15, x15 = nI k - 1 → wL_law_662 post L xs J76 J585 x3 x6 x10 x11 x12 x13 x14 kc ks p1 p2 p3 p4 A1 A2 A3 A4 A5 A6 A7 A8 A9 A10 q1 q2 q3 q4 T1 T2 T3 T4 T5 T6 T7 T8 T9 T10 (d + 1) x15 := by
  intro d
  induction d with
  | zero =>
    intro k hk x15 ex
    obtain rfl : k = 26 := by omega
    subst ex
    exact br_t lz_25 hE
  | succ d ih =>
    intro k hk x15 ex
    subst ex
    refine br_f (lz_24 (by omega)) ?_
    obtain ⟨r2, H2⟩ := lz_codeAt (K := K) (C := C) (n := n) (c := c) hm (nI k - 1)
    refine H2 b1 _ hu _ (H2 b _ ht _ (br_t rfl ?_))
    obtain ⟨r3, H3⟩ := lz_limit (K := K) (C := C) (n := n) (m := m) (c := c) (nI k - 1)
    refine H3 b1 _ hu _ (H3 b _ ht _ (br_t rfl ?_))
    intro y ey
    exact ih (k + 1) (by omega) _ (lz_m1p k ey)
theorem lz_637 {p1 p2 p3 p4 : Int32} {A1 A2 A3 A4 A5 A6 A7 A8 A9 A10 : Nat → Int32} {q1 q2 q3 q4 : Int32} {T1 T2 T3 T4 T5 T6 T7 T8 T9 T10 : Nat → Int32} (hm : m ≤ 24) (hu : ly_XS K C n m b1 c (p1, p2, p3, p4, A1, A2, A3, A4, A5, A6, A7, A8, A9, A10)) (ht : ly_XS K C n m b c (q1, q2, q3, q4, T1, T2, T3, T4, T5, T6, T7, T8, T9, T10)) (hE : (x10 = 1 → wpX_invert (fun r u => match u with | (p1, p2, p3, p4, A1, A2, A3, A4, A5, A6, A7, A8, A9, A10) => wL_law_726 post L xs J76 J585 x3 x6 x10 (nI n) (nI m) x13 r kc ks p1 p2 p3 p4 A1 A2 A3 A4 A5 A6 A7 A8 A9 A10 q1 q2 q3 q4 T1 T2 T3 T4 T5 T6 T7 T8 T9 T10) (p1, p2, p3, p4, A1, A2, A3, A4, A5, A6, A7, A8, A9, A10)) ∧ (¬ x10 = 1 → wL_law_726 post L xs J76 J585 x3 x6 x10 (nI n) (nI m) x13 x14 kc ks p1 p2 p3 p4 A1 A2 A3 A4 A5 A6 A7 A8 A9 A10 q1 q2 q3 q4 T1 T2 T3 T4 T5 T6 T7 T8 T9 T10)) : wL_law_637 post L xs J76 J585 x3 x6 x10 (nI n) (nI m) x13 x14 kc ks p1 p2 p3 p4 A1 A2 A3 A4 A5 A6 A7 A8 A9 A10 q1 q2 q3 q4 T1 T2 T3 T4 T5 T6 T7 T8 T9 T10 := by
  unfold wL_law_637
  refine lz_length hu (br_t rfl (lz_codeLength hu (br_t rfl ?_)))
  exact ⟨_, lz_662 hm hu ht hE 26 0 rfl _ rfl⟩
/-- a phase of the check -/
theorem lz_585 (hJ : ∀ (p1 p2 p3 p4 : Int32) (A1 A2 A3 A4 A5 A6 A7 A8 A9 A10 : Nat → Int32) (q1 q2 q3 q4 : Int32) (T1 T2 T3 T4 T5 T6 T7 T8 T9 T10 : Nat → Int32), lz_Q (p1, p2, p3, p4, A1, A2, A3, A4, A5, A6, A7, A8, A9, A10) (q1, q2, q3, q4, T1, T2, T3, T4, T5, T6, T7, T8, T9, T10) → J76 (x6 + 2) p1 p2 p3 p4 A1 A2 A3 A4 A5 A6 A7 A8 A9 A10 q1 q2 q3 q4 T1 T2 T3 T4 T5 T6 T7 T8 T9 T10) : ∀ d k, k + d = 3 → ∀ x10 (p1 p2 p3 p4 : Int32) (A1 A2 A3 A4 A5 A6 A7 A8 A9 A10 : Nat → Int32) (q1 q2 q3 q4 : Int32) (T1 T2 T3 T4 T5 T6 T7 T8 T9 T10 : Nat → Int32), x10 = nI k → lz_Q (p1, p2, p3, p4, A1, A2, A3, A4, A5, A6, A7, A8, A9, A10) (q1, q2, q3, q4, T1, T2, T3, T4, T5, T6, T7, T8, T9, T10) → wL_law_585 post L xs J76 x3 x6 kc ks (d + 1) x10 p1 p2 p3 p4 A1 A2 A3 A4 A5 A6 A7 A8 A9 A10 q1 q2 q3 q4 T1 T2 T3 T4 T5 T6 T7 T8 T9 T10 := by
  intro d
  induction d with
  | zero =>
    intro k hk x10 p1 p2 p3 p4 A1 A2 A3 A4 A5 A6 A7 A8 A9 A10 q1 q2 q3 q4 T1 T2 T3 T4 T5 T6 T7 T8 T9 T10 ex q
    obtain rfl : k = 3 := by omega
    subst ex
    exact pk_le 3 3 (fun _ => nm_e (hJ _ _ _ _ _ _ _ _ _ _ _ _ _ _ _ _ _ _ _ _ _ _ _ _ _ _ _ _ q)) (fun h => by omega)
  | succ d ih =>
    intro k hk x10 p1 p2 p3 p4 A1 A2 A3 A4 A5 A6 A7 A8 A9 A10 q1 q2 q3 q4 T1 T2 T3 T4 T5 T6 T7 T8 T9 T10 ex q
    subst ex
    have hJ5 : ∀ (p1 p2 p3 p4 : Int32) (A1 A2 A3 A4 A5 A6 A7 A8 A9 A10 : Nat → Int32) (q1 q2 q3 q4 : Int32) (T1 T2 T3 T4 T5 T6 T7 T8 T9 T10 : Nat → Int32), lz_Q (p1, p2, p3, p4, A1, A2, A3, A4, A5, A6, A7, A8, A9, A10) (q1, q2, q3, q4, T1, T2, T3, T4, T5, T6, T7, T8, T9, T10) → wL_law_585 post L xs J76 x3 x6 kc ks (d + 1) (nI k + 1) p1 p2 p3 p4 A1 A2 A3 A4 A5 A6 A7 A8 A9 A10 q1 q2 q3 q4 T1 T2 T3 T4 T5 T6 T7 T8 T9 T10 := by
      intro p1 p2 p3 p4 A1 A2 A3 A4 A5 A6 A7 A8 A9 A10 q1 q2 q3 q4 T1 T2 T3 T4 T5 T6 T7 T8 T9 T10 q
      exact ih (k + 1) (by omega) _ _ _ _ _ _ _ _ _ _ _ _ _ _ _ _ _ _ _ _ _ _ _ _ _ _ _ _ _ (nI_1 k) q
    obtain ⟨K, C, n, m, b, c, N, hu, ht⟩ := q
    have hm : m ≤ 24 := by obtain ⟨K1, K2, C1, C2, hn, hm, hb, hc⟩ := N; omega
    refine pk_le 3 k (fun h => by omega) (fun _ => lz_length ht (lz_codeLength ht ?_))
    by_cases c1 : k = 1
    · subst c1
      obtain ⟨r, b1, H1, H2⟩ := lz_pair1 N
      refine br_t rfl (H1 _ hu _ (fun u' hu' => ?_))
      obtain ⟨p1, p2, p3, p4, A1, A2, A3, A4, A5, A6, A7, A8, A9, A10⟩ := u'
      refine br_f (by decide) (lz_637 hm hu' ht (br_t rfl (H2 _ hu' _ (fun u2 hu2 => ?_))))
      obtain ⟨p1, p2, p3, p4, A1, A2, A3, A4, A5, A6, A7, A8, A9, A10⟩ := u2
      exact br_f (by decide) (lz_739 N hu2 ht hJ5)
    · have n1 : ¬ nI k = 1 := fun z => c1 ((nI_eq (a := k) (b := 1) (by omega) (by decide)).1 z)
      refine br_f n1 ?_
      by_cases c2 : k = 2
      · subst c2
        obtain ⟨r, b1, H1, H2⟩ := lz_pair2 N
        refine br_t rfl (H1 _ hu _ (fun u' hu' => ?_))
        obtain ⟨p1, p2, p3, p4, A1, A2, A3, A4, A5, A6, A7, A8, A9, A10⟩ := u'
        refine lz_637 hm hu' ht (br_f (by decide) (br_t rfl (H2 _ hu' _ (fun u2 hu2 => ?_))))
        obtain ⟨p1, p2, p3, p4, A1, A2, A3, A4, A5, A6, A7, A8, A9, A10⟩ := u2
        exact lz_739 N hu2 ht hJ5
      · have n2 : ¬ nI k = 2 := fun z => c2 ((nI_eq (a := k) (b := 2) (by omega) (by decide)).1 z)
        exact br_f n2 (lz_637 hm hu ht (br_f n1 (br_f n2 (lz_739 N hu ht hJ5))))
theorem lz_567 (hJ : ∀ (p1 p2 p3 p4 : Int32) (A1 A2 A3 A4 A5 A6 A7 A8 A9 A10 : Nat → Int32) (q1 q2 q3 q4 : Int32) (T1 T2 T3 T4 T5 T6 T7 T8 T9 T10 : Nat → Int32), lz_Q (p1, p2, p3, p4, A1, A2, A3, A4, A5, A6, A7, A8, A9, A10) (q1, q2, q3, q4, T1, T2, T3, T4, T5, T6, T7, T8, T9, T10) → J76 (x6 + 2) p1 p2 p3 p4 A1 A2 A3 A4 A5 A6 A7 A8 A9 A10 q1 q2 q3 q4 T1 T2 T3 T4 T5 T6 T7 T8 T9 T10) : ∀ (p1 p2 p3 p4 : Int32) (A1 A2 A3 A4 A5 A6 A7 A8 A9 A10 : Nat → Int32) (q1 q2 q3 q4 : Int32) (T1 T2 T3 T4 T5 T6 T7 T8 T9 T10 : Nat → Int32), lz_Q (p1, p2, p3, p4, A1, A2, A3, A4, A5, A6, A7, A8, A9, A10) (q1, q2, q3, q4, T1, T2, T3, T4, T5, T6, T7, T8, T9, T10) → wL_law_567 post L xs J76 x3 x6 x7 kc ks p1 p2 p3 p4 A1 A2 A3 A4 A5 A6 A7 A8 A9 A10 q1 q2 q3 q4 T1 T2 T3 T4 T5 T6 T7 T8 T9 T10 := by
  intro p1 p2 p3 p4 A1 A2 A3 A4 A5 A6 A7 A8 A9 A10 q1 q2 q3 q4 T1 T2 T3 T4 T5 T6 T7 T8 T9 T10 q
  have h := lz_585 (post := post) (L := L) (xs := xs) (x3 := x3) (kc := kc) (ks := ks) hJ 3 0 rfl 0 _ _ _ _ _ _ _ _ _ _ _ _ _ _ _ _ _ _ _ _ _ _ _ _ _ _ _ _ rfl q
  exact br_c (fun _ => ⟨_, h⟩) (fun _ => br_c (fun _ => nm_e (hJ _ _ _ _ _ _ _ _ _ _ _ _ _ _ _ _ _ _ _ _ _ _ _ _ _ _ _ _ q)) (fun _ => ⟨_, h⟩))
theorem lz_402 {p w e : Nat} (hp0 : 0 < p) (hp1 : p < 2 ^ 31) (hw0 : 0 < w) (hw1 : w < 2 ^ 31) (he : e < 2 ^ 31) (hJ : ∀ (p1 p2 p3 p4 : Int32) (A1 A2 A3 A4 A5 A6 A7 A8 A9 A10 : Nat → Int32) (q1 q2 q3 q4 : Int32) (T1 T2 T3 T4 T5 T6 T7 T8 T9 T10 : Nat → Int32), lz_Q (p1, p2, p3, p4, A1, A2, A3, A4, A5, A6, A7, A8, A9, A10) (q1, q2, q3, q4, T1, T2, T3, T4, T5, T6, T7, T8, T9, T10) → J76 (x6 + 2) p1 p2 p3 p4 A1 A2 A3 A4 A5 A6 A7 A8 A9 A10 q1 q2 q3 q4 T1 T2 T3 T4 T5 T6 T7 T8 T9 T10) : ∀ d k, k + d = e → ∀ x13 (p1 p2 p3 p4 : Int32) (A1 A2 A3 A4 A5 A6 A7 A8 A9 A10 : Nat → Int32) (q1 q2 q3 q4 : Int32) (T1 T2 T3 T4 T5 T6 T7 T8 T9 T10 : Nat → Int32), x13 = nI k → lz_Q (p1, p2, p3, p4, A1, A2, A3, A4, A5, A6, A7, A8, A9, A10) (q1, q2, q3, q4, T1, T2, T3, T4, T5, T6, T7, T8, T9, T10) → wL_law_402 post L xs J76 x3 x6 x7 x9 (nI e) (nI w) (nI p) kc ks (d + 1) x13 p1 p2 p3 p4 A1 A2 A3 A4 A5 A6 A7 A8 A9 A10 q1 q2 q3 q4 T1 T2 T3 T4 T5 T6 T7 T8 T9 T10 := by
  intro d
  induction d with
  | zero =>
    intro k hk x13 p1 p2 p3 p4 A1 A2 A3 A4 A5 A6 A7 A8 A9 A10 q1 q2 q3 q4 T1 T2 T3 T4 T5 T6 T7 T8 T9 T10 ex q
    obtain rfl : k = e := by omega
    subst ex
    exact pk_le k k (fun _ => lz_567 hJ _ _ _ _ _ _ _ _ _ _ _ _ _ _ _ _ _ _ _ _ _ _ _ _ _ _ _ _ q) (fun h => by omega)
  | succ d ih =>
    intro k hk x13 p1 p2 p3 p4 A1 A2 A3 A4 A5 A6 A7 A8 A9 A10 q1 q2 q3 q4 T1 T2 T3 T4 T5 T6 T7 T8 T9 T10 ex q
    subst ex
    refine pk_le e k (fun h => by omega) (fun _ => lz_letter hp0 hp1 hw0 hw1 (fun r => ?_))
    refine lz_two (W := fun post u => wpX_put post u r) (lz_put r) (G := fun p1 p2 p3 p4 A1 A2 A3 A4 A5 A6 A7 A8 A9 A10 q1 q2 q3 q4 T1 T2 T3 T4 T5 T6 T7 T8 T9 T10 => ∀ y : Int32, y = nI k + 1 → wL_law_402 post L xs J76 x3 x6 x7 x9 (nI e) (nI w) (nI p) kc ks (d + 1) y p1 p2 p3 p4 A1 A2 A3 A4 A5 A6 A7 A8 A9 A10 q1 q2 q3 q4 T1 T2 T3 T4 T5 T6 T7 T8 T9 T10) ?_ q
    intro p1 p2 p3 p4 A1 A2 A3 A4 A5 A6 A7 A8 A9 A10 q1 q2 q3 q4 T1 T2 T3 T4 T5 T6 T7 T8 T9 T10 q y ey
    exact ih (k + 1) (by omega) _ _ _ _ _ _ _ _ _ _ _ _ _ _ _ _ _ _ _ _ _ _ _ _ _ _ _ _ _ (by rw [ey, nI_1]) q
theorem lz_202 {w e : Nat} (hw0 : 0 < w) (hw1 : w < 2 ^ 31) (he : e < 2 ^ 31) (hJ : ∀ (p1 p2 p3 p4 : Int32) (A1 A2 A3 A4 A5 A6 A7 A8 A9 A10 : Nat → Int32) (q1 q2 q3 q4 : Int32) (T1 T2 T3 T4 T5 T6 T7 T8 T9 T10 : Nat → Int32), lz_Q (p1, p2, p3, p4, A1, A2, A3, A4, A5, A6, A7, A8, A9, A10) (q1, q2, q3, q4, T1, T2, T3, T4, T5, T6, T7, T8, T9, T10) → J76 (x6 + 2) p1 p2 p3 p4 A1 A2 A3 A4 A5 A6 A7 A8 A9 A10 q1 q2 q3 q4 T1 T2 T3 T4 T5 T6 T7 T8 T9 T10) : ∀ d k, k + d = e → ∀ x11 (p1 p2 p3 p4 : Int32) (A1 A2 A3 A4 A5 A6 A7 A8 A9 A10 : Nat → Int32) (q1 q2 q3 q4 : Int32) (T1 T2 T3 T4 T5 T6 T7 T8 T9 T10 : Nat → Int32), x11 = nI k → lz_Q (p1, p2, p3, p4, A1, A2, A3, A4, A5, A6, A7, A8, A9, A10) (q1, q2, q3, q4, T1, T2, T3, T4, T5, T6, T7, T8, T9, T10) → wL_law_202 post L xs J76 (nI w) x6 x7 x9 (nI e) kc ks (d + 1) x11 p1 p2 p3 p4 A1 A2 A3 A4 A5 A6 A7 A8 A9 A10 q1 q2 q3 q4 T1 T2 T3 T4 T5 T6 T7 T8 T9 T10 := by
  intro d
  induction d with
  | zero =>
    intro k hk x11 p1 p2 p3 p4 A1 A2 A3 A4 A5 A6 A7 A8 A9 A10 q1 q2 q3 q4 T1 T2 T3 T4 T5 T6 T7 T8 T9 T10 ex q
    obtain rfl : k = e := by omega
    subst ex
    exact pk_le k k (fun _ => lz_567 hJ _ _ _ _ _ _ _ _ _ _ _ _ _ _ _ _ _ _ _ _ _ _ _ _ _ _ _ _ q) (fun h => by omega)
  | succ d ih =>
    intro k hk x11 p1 p2 p3 p4 A1 A2 A3 A4 A5 A6 A7 A8 A9 A10 q1 q2 q3 q4 T1 T2 T3 T4 T5 T6 T7 T8 T9 T10 ex q
    subst ex
    refine pk_le e k (fun h => by omega) (fun _ => lz_letter (p := 6) (by decide) (by decide) hw0 hw1 (fun r => ?_))
    refine lz_two (W := fun post u => wpX_put post u r) (lz_put r) (G := fun p1 p2 p3 p4 A1 A2 A3 A4 A5 A6 A7 A8 A9 A10 q1 q2 q3 q4 T1 T2 T3 T4 T5 T6 T7 T8 T9 T10 => ∀ y : Int32, y = nI k + 1 → wL_law_202 post L xs J76 (nI w) x6 x7 x9 (nI e) kc ks (d + 1) y p1 p2 p3 p4 A1 A2 A3 A4 A5 A6 A7 A8 A9 A10 q1 q2 q3 q4 T1 T2 T3 T4 T5 T6 T7 T8 T9 T10) ?_ q
    intro p1 p2 p3 p4 A1 A2 A3 A4 A5 A6 A7 A8 A9 A10 q1 q2 q3 q4 T1 T2 T3 T4 T5 T6 T7 T8 T9 T10 q y ey
    exact ih (k + 1) (by omega) _ _ _ _ _ _ _ _ _ _ _ _ _ _ _ _ _ _ _ _ _ _ _ _ _ _ _ _ _ (by rw [ey, nI_1]) q
theorem lz_371 {p1 p2 p3 p4 : Int32} {A1 A2 A3 A4 A5 A6 A7 A8 A9 A10 : Nat → Int32} {q1 q2 q3 q4 : Int32} {T1 T2 T3 T4 T5 T6 T7 T8 T9 T10 : Nat → Int32} {w e : Nat} (hw0 : 0 < w) (hw1 : w < 2 ^ 31) (he : e < 2 ^ 31) (hJ : ∀ (p1 p2 p3 p4 : Int32) (A1 A2 A3 A4 A5 A6 A7 A8 A9 A10 : Nat → Int32) (q1 q2 q3 q4 : Int32) (T1 T2 T3 T4 T5 T6 T7 T8 T9 T10 : Nat → Int32), lz_Q (p1, p2, p3, p4, A1, A2, A3, A4, A5, A6, A7, A8, A9, A10) (q1, q2, q3, q4, T1, T2, T3, T4, T5, T6, T7, T8, T9, T10) → J76 (x6 + 2) p1 p2 p3 p4 A1 A2 A3 A4 A5 A6 A7 A8 A9 A10 q1 q2 q3 q4 T1 T2 T3 T4 T5 T6 T7 T8 T9 T10) (q : lz_Q (p1, p2, p3, p4, A1, A2, A3, A4, A5, A6, A7, A8, A9, A10) (q1, q2, q3, q4, T1, T2, T3, T4, T5, T6, T7, T8, T9, T10)) : wL_law_371 post L xs J76 x3 x6 x7 x9 (nI e) (nI w) kc ks p1 p2 p3 p4 A1 A2 A3 A4 A5 A6 A7 A8 A9 A10 q1 q2 q3 q4 T1 T2 T3 T4 T5 T6 T7 T8 T9 T10 := by
  unfold wL_law_371
  refine lz_mix (fun r1 => lz_mod (q := 30) (by decide) (by decide) (fun j hj => nm_r (ly_ad (a := 1) (b := j) (c := 1 + j) rfl) ?_))
  refine lz_two (W := fun post u => wpX_clear (post 0) u) lz_clear (G := fun p1 p2 p3 p4 A1 A2 A3 A4 A5 A6 A7 A8 A9 A10 q1 q2 q3 q4 T1 T2 T3 T4 T5 T6 T7 T8 T9 T10 => ∃ f : Nat, wL_law_402 post L xs J76 x3 x6 x7 x9 (nI e) (nI w) (nI (1 + j)) kc ks f 0 p1 p2 p3 p4 A1 A2 A3 A4 A5 A6 A7 A8 A9 A10 q1 q2 q3 q4 T1 T2 T3 T4 T5 T6 T7 T8 T9 T10) ?_ q
  intro p1 p2 p3 p4 A1 A2 A3 A4 A5 A6 A7 A8 A9 A10 q1 q2 q3 q4 T1 T2 T3 T4 T5 T6 T7 T8 T9 T10 q
  exact ⟨_, lz_402 (by omega) (by omega) hw0 hw1 he hJ e 0 (by omega) _ _ _ _ _ _ _ _ _ _ _ _ _ _ _ _ _ _ _ _ _ _ _ _ _ _ _ _ _ rfl q⟩
theorem lz_110 {p1 p2 p3 p4 : Int32} {A1 A2 A3 A4 A5 A6 A7 A8 A9 A10 : Nat → Int32} {q1 q2 q3 q4 : Int32} {T1 T2 T3 T4 T5 T6 T7 T8 T9 T10 : Nat → Int32} {κ k : Nat} {z0 : Int32} (hL : L ≤ 260) (h2 : 2 ≤ κ) (h16 : κ ≤ 16) (hk : k < 1000) (hJ : ∀ (p1 p2 p3 p4 : Int32) (A1 A2 A3 A4 A5 A6 A7 A8 A9 A10 : Nat → Int32) (q1 q2 q3 q4 : Int32) (T1 T2 T3 T4 T5 T6 T7 T8 T9 T10 : Nat → Int32), lz_Q (p1, p2, p3, p4, A1, A2, A3, A4, A5, A6, A7, A8, A9, A10) (q1, q2, q3, q4, T1, T2, T3, T4, T5, T6, T7, T8, T9, T10) → J76 (nI k + 2) p1 p2 p3 p4 A1 A2 A3 A4 A5 A6 A7 A8 A9 A10 q1 q2 q3 q4 T1 T2 T3 T4 T5 T6 T7 T8 T9 T10) (q : lz_Q (p1, p2, p3, p4, A1, A2, A3, A4, A5, A6, A7, A8, A9, A10) (q1, q2, q3, q4, T1, T2, T3, T4, T5, T6, T7, T8, T9, T10)) : wL_law_110 post L xs J76 (nI κ) (nI k) z0 kc ks p1 p2 p3 p4 A1 A2 A3 A4 A5 A6 A7 A8 A9 A10 q1 q2 q3 q4 T1 T2 T3 T4 T5 T6 T7 T8 T9 T10 := by
  unfold wL_law_110
  rw [nI_1 k]
  refine lz_cell hL (by omega) (fun r1 => lz_cell hL (by omega) (fun r2 => ?_))
  intro x9 _
  have F : ∀ z0 : Int32, ∀ (p1 p2 p3 p4 : Int32) (A1 A2 A3 A4 A5 A6 A7 A8 A9 A10 : Nat → Int32) (q1 q2 q3 q4 : Int32) (T1 T2 T3 T4 T5 T6 T7 T8 T9 T10 : Nat → Int32), lz_Q (p1, p2, p3, p4, A1, A2, A3, A4, A5, A6, A7, A8, A9, A10) (q1, q2, q3, q4, T1, T2, T3, T4, T5, T6, T7, T8, T9, T10) → wL_law_567 post L xs J76 (nI κ) (nI k) z0 kc ks p1 p2 p3 p4 A1 A2 A3 A4 A5 A6 A7 A8 A9 A10 q1 q2 q3 q4 T1 T2 T3 T4 T5 T6 T7 T8 T9 T10 := fun z0 => lz_567 hJ
  refine br_c (fun _ => ?_) (fun _ => br_c (fun _ => ?_) (fun _ => br_c (fun _ => ?_) (fun _ => br_c (fun _ => ?_) (fun _ => br_c (fun _ => br_c (fun _ => ?_) (fun _ => br_c (fun _ => ?_) (fun _ => br_c (fun _ => ?_) (fun _ => br_c (fun _ => ?_) (fun _ => ?_))))) (fun _ => ?_)))))
  · have e2 : nI κ + 2 = nI (κ + 2) := ly_ad (b := 2) rfl
    rw [e2]
    refine lz_mod (by omega) (by omega) (fun j _ => nm_e ?_)
    exact lz_two (W := fun post u => wpX_put post u (nI j - 1)) (lz_put _) (F _) q
  · refine lz_mod (q := 6) (by decide) (by decide) (fun j hj => nm_r (ly_ad (a := 1) (b := j) (c := 1 + j) rfl) ?_)
    exact ⟨_, lz_202 (by omega) (by omega) (by omega) hJ (1 + j) 0 (by omega) _ _ _ _ _ _ _ _ _ _ _ _ _ _ _ _ _ _ _ _ _ _ _ _ _ _ _ _ _ rfl q⟩
  · have e3 : nI κ + 3 = nI (κ + 3) := ly_ad (b := 3) rfl
    rw [e3]
    refine lz_mod (by omega) (by omega) (fun j _ => nm_e ?_)
    exact lz_two (W := fun post u => wpX_putToken post u (nI j - 1)) (lz_putToken _) (F _) q
  · refine lz_mod (q := 2) (by decide) (by decide) (fun j _ => ?_)
    exact lz_two (W := fun post u => wpX_put post u (nI j)) (lz_put _) (F _) q
  · exact lz_two (W := wpX_transform) lz_transform (F _) q
  · exact lz_two (W := wpX_invert) lz_invert (F _) q
  · refine lz_mod (q := 2) (by decide) (by decide) (fun j _ => br_c (fun _ => ?_) (fun _ => ?_))
    · exact lz_two (W := fun post u => wpX_front (post 0) u) lz_front (F _) q
    · exact lz_two (W := fun post u => wpX_unfront (post 0) u) lz_unfront (F _) q
  · exact lz_two (W := wpX_pack) lz_pack (F _) q
  · exact lz_two (W := wpX_unpack) lz_unpack (F _) q
  · refine lz_mix (fun r3 => lz_mod (q := 27) (by decide) (by decide) (fun e he => lz_mix (fun r4 => lz_mod (q := 3) (by decide) (by decide) (fun s _ => br_c (fun _ => ?_) (fun _ => ?_)))))
    · rw [ly_s1 (a := κ) (b := κ - 1) (by omega)]
      refine lz_mix (fun r5 => lz_mod (by omega) (by omega) (fun w hw => ?_))
      have e4 : 2 + nI w = nI (2 + w) := ly_ad (a := 2) rfl
      rw [e4]
      exact lz_371 (by omega) (by omega) (by omega) hJ q
    · exact lz_371 (w := 2) (by decide) (by decide) (by omega) hJ q
theorem lz_76 {κ : Nat} (hL : L ≤ 260) (h2 : 2 ≤ κ) (h16 : κ ≤ 16) : ∀ d k, 2 ≤ k → L ≤ k + 2 * d → (k = 2 → 1 ≤ d) → k + 2 * d ≤ 600 → ∀ x6 (p1 p2 p3 p4 : Int32) (A1 A2 A3 A4 A5 A6 A7 A8 A9 A10 : Nat → Int32) (q1 q2 q3 q4 : Int32) (T1 T2 T3 T4 T5 T6 T7 T8 T9 T10 : Nat → Int32), x6 = nI k → lz_Q (p1, p2, p3, p4, A1, A2, A3, A4, A5, A6, A7, A8, A9, A10) (q1, q2, q3, q4, T1, T2, T3, T4, T5, T6, T7, T8, T9, T10) → wL_law_76 (fun r => r = 1) L xs (nI κ) kc ks (d + 1) x6 p1 p2 p3 p4 A1 A2 A3 A4 A5 A6 A7 A8 A9 A10 q1 q2 q3 q4 T1 T2 T3 T4 T5 T6 T7 T8 T9 T10 := by
  intro d
  induction d with
  | zero =>
    intro k hk0 h1 hk2 hk6 x6 p1 p2 p3 p4 A1 A2 A3 A4 A5 A6 A7 A8 A9 A10 q1 q2 q3 q4 T1 T2 T3 T4 T5 T6 T7 T8 T9 T10 ex q
    subst ex
    have n2 : ¬ nI k = 2 := fun z => by
      have := (nI_eq (a := k) (b := 2) (by omega) (by decide)).1 z
      omega
    exact br_f n2 (pk_le L k (fun _ => rfl) (fun h => by omega))
  | succ d ih =>
    intro k hk0 h1 hk2 hk6 x6 p1 p2 p3 p4 A1 A2 A3 A4 A5 A6 A7 A8 A9 A10 q1 q2 q3 q4 T1 T2 T3 T4 T5 T6 T7 T8 T9 T10 ex q
    subst ex
    have hJ : ∀ (p1 p2 p3 p4 : Int32) (A1 A2 A3 A4 A5 A6 A7 A8 A9 A10 : Nat → Int32) (q1 q2 q3 q4 : Int32) (T1 T2 T3 T4 T5 T6 T7 T8 T9 T10 : Nat → Int32), lz_Q (p1, p2, p3, p4, A1, A2, A3, A4, A5, A6, A7, A8, A9, A10) (q1, q2, q3, q4, T1, T2, T3, T4, T5, T6, T7, T8, T9, T10) → wL_law_76 (fun r => r = 1) L xs (nI κ) kc ks (d + 1) (nI k + 2) p1 p2 p3 p4 A1 A2 A3 A4 A5 A6 A7 A8 A9 A10 q1 q2 q3 q4 T1 T2 T3 T4 T5 T6 T7 T8 T9 T10 := by
      intro p1 p2 p3 p4 A1 A2 A3 A4 A5 A6 A7 A8 A9 A10 q1 q2 q3 q4 T1 T2 T3 T4 T5 T6 T7 T8 T9 T10 q
      exact ih (k + 2) (by omega) (by omega) (fun z => by omega) (by omega) _ _ _ _ _ _ _ _ _ _ _ _ _ _ _ _ _ _ _ _ _ _ _ _ _ _ _ _ _ (ly_ad rfl) q
    have h89 : wL_law_89 (fun r => r = 1) L xs (wL_law_76 (fun r => r = 1) L xs (nI κ) kc ks (d + 1)) (nI κ) (nI k) kc ks p1 p2 p3 p4 A1 A2 A3 A4 A5 A6 A7 A8 A9 A10 q1 q2 q3 q4 T1 T2 T3 T4 T5 T6 T7 T8 T9 T10 :=
      br_c (fun _ => lz_110 hL h2 h16 (by omega) hJ q) (fun _ => lz_cell hL (by omega) (fun r => lz_mod (q := 12) (by decide) (by decide) (fun j _ => lz_110 hL h2 h16 (by omega) hJ q)))
    exact br_c (fun _ => h89) (fun _ => br_c (fun _ => rfl) (fun _ => h89))
theorem lz_clampX (x : Int32) (lo hi : Nat) (h : lo ≤ hi) (hh : hi < 2 ^ 31) : ∃ q : Nat, lo ≤ q ∧ q ≤ hi ∧ (∀ post : Int32 → Prop, post (nI q) → (nI lo ≤ x → ((x ≤ nI hi → post x) ∧ (¬ x ≤ nI hi → post (nI hi)))) ∧ (¬ nI lo ≤ x → post (nI lo))) := by
  by_cases c1 : nI lo ≤ x
  · obtain ⟨j, hj, rfl⟩ := nI_of (x := x) (fun z => by
      have h2 := Int32.le_iff_toInt_le.1 c1
      have h3 := Int32.lt_iff_toInt_lt.1 z
      rw [nI_toInt (by omega)] at h2
      have h4 : (0 : Int32).toInt = 0 := by decide
      omega)
    rw [nI_leI (by omega) hj] at c1
    by_cases c2 : j ≤ hi
    · exact ⟨j, c1, c2, fun post hp => ⟨fun _ => ⟨fun _ => hp, fun z => absurd (nI_le c2 hh) z⟩, fun z => absurd (nI_le c1 hj) z⟩⟩
    · exact ⟨hi, h, Nat.le_refl hi, fun post hp => ⟨fun _ => ⟨fun z => absurd z (nI_ge (by omega) hj), fun _ => hp⟩, fun z => absurd (nI_le c1 hj) z⟩⟩
  · exact ⟨lo, Nat.le_refl lo, h, fun post hp => ⟨fun z => absurd z c1, fun _ => hp⟩⟩
theorem lz_init (x1 x2 : Int32) : ∃ K C : Nat, ly_Num K C 0 0 (fun _ => 0) (fun _ => 0) ∧ ∀ post : St2 → Prop, (∀ u, ly_XS K C 0 0 (fun _ => 0) (fun _ => 0) u → post u) → wpX_init post 10 232 (0, 0, 0, 0) x1 x2 := by
  obtain ⟨K, K1, K2, HK⟩ := lz_clampX x1 2 16 (by decide) (by decide)
  obtain ⟨C, C1, C2, HC⟩ := lz_clampX x2 8 24 (by decide) (by decide)
  refine ⟨K, C, ⟨K1, K2, C1, C2, Nat.zero_le C, Nat.zero_le C, fun j h => absurd h (Nat.not_lt_zero j), fun j h => absurd h (Nat.not_lt_zero j)⟩, fun post hp => ?_⟩
  have XK : ∀ post : Int32 → Prop, post (nI K) → wpX_clamp post () x1 2 16 := fun post hp => HK post hp
  have XC : ∀ post : Int32 → Prop, post (nI C) → wpX_clamp post () x2 8 24 := fun post hp => HC post hp
  refine ⟨by omega, by omega, by omega, by omega, by omega, by omega, by omega, by omega, by omega, by omega, by omega, by omega, by omega, by omega, by omega, by omega, by omega, by omega, by omega, by omega, ?_⟩
  refine XK _ ?_
  refine XC _ ?_
  exact hp _ ⟨rfl, rfl, rfl, rfl, fun j h => absurd h (Nat.not_lt_zero j), fun j h => absurd h (Nat.not_lt_zero j)⟩
theorem lz_50 {κ : Nat} {x1 x2 : Int32} (hL : L ≤ 260) (h2 : 2 ≤ κ) (h16 : κ ≤ 16) : wL_law_50 (fun r => r = 1) L xs x1 x2 (nI κ) 0 0 := by
  obtain ⟨K, C, N, H⟩ := lz_init x1 x2
  refine ⟨by omega, by omega, 10, 232, by omega, by omega, H _ (fun u hu => ?_)⟩
  obtain ⟨p1, p2, p3, p4, A1, A2, A3, A4, A5, A6, A7, A8, A9, A10⟩ := u
  refine ⟨by omega, by omega, 10, 232, by omega, by omega, H _ (fun t ht => ?_)⟩
  obtain ⟨q1, q2, q3, q4, T1, T2, T3, T4, T5, T6, T7, T8, T9, T10⟩ := t
  exact ⟨_, lz_76 hL h2 h16 260 2 (by omega) (by omega) (fun _ => by omega) (by omega) _ _ _ _ _ _ _ _ _ _ _ _ _ _ _ _ _ _ _ _ _ _ _ _ _ _ _ _ _ rfl ⟨K, C, 0, 0, _, _, N, hu, ht⟩⟩
end
end
section
theorem i_vc (xs : Nat → Int32) (L : Nat) (hL : L ≤ 260) : wpL_law (fun r => r = 1) L xs := by
  unfold wpL_law
  refine lz_cell (k := 0) hL (by decide) (fun r1 => lz_mod (q := 20) (by decide) (by decide) (fun s hs => lz_cell (k := 1) hL (by decide) (fun r3 => lz_mod (q := 23) (by decide) (by decide) (fun j hj => nm_e ?_))))
  refine pk_le 2 s (fun h => pk_le s 16 (fun h2 => lz_50 hL h h2) (fun _ => lz_50 (κ := 16) hL (by decide) (by decide))) (fun _ => lz_50 (κ := 2) hL (by decide) (by decide))
end
