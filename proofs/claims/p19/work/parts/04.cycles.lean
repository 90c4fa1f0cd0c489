/-! the order by letter and place, its permutation, the cycles -/
def ly_gR (b : Nat → Nat) (j i : Nat) : Prop := b j < b i ∨ (b j = b i ∧ j < i)
theorem ly_gR_sto (b : Nat → Nat) (n : Nat) : ly_STO (ly_gR b) n := by
  refine ⟨fun p h => ?_, fun p q r h1 h2 => ?_, fun p q _ _ h => ?_⟩
  · unfold ly_gR at h; omega
  · unfold ly_gR at *; omega
  · unfold ly_gR; omega
def ly_perm (g : Nat → Nat) (n : Nat) : Prop := (∀ i, i < n → g i < n) ∧ (∀ i j, i < n → j < n → g i = g j → i = j)
theorem ly_g_perm (b : Nat → Nat) (n : Nat) : ly_perm (ly_rk (ly_gR b) n) n :=
  ⟨fun _ hi => ly_rk_lt (ly_gR_sto b n) hi, fun _ _ hi hj e => ly_rk_inj (ly_gR_sto b n) hi hj e⟩
def ly_it (g : Nat → Nat) (a : Nat) : Nat → Nat
  | 0 => a
  | k + 1 => g (ly_it g a k)
theorem ly_it_lt {g : Nat → Nat} {n a : Nat} (h : ly_perm g n) (ha : a < n) (k : Nat) : ly_it g a k < n := by
  induction k with
  | zero => exact ha
  | succ k ih => exact h.1 _ ih
theorem ly_it_add (g : Nat → Nat) (a k l : Nat) : ly_it g a (k + l) = ly_it g (ly_it g a k) l := by
  induction l with
  | zero => rfl
  | succ l ih =>
    show g (ly_it g a (k + l)) = g (ly_it g (ly_it g a k) l)
    rw [ih]
theorem ly_it_inj {g : Nat → Nat} {n : Nat} (h : ly_perm g n) (k : Nat) : ∀ x y, x < n → y < n → ly_it g x k = ly_it g y k → x = y := by
  induction k with
  | zero => exact fun x y _ _ e => e
  | succ k ih => exact fun x y hx hy e => ih x y hx hy (h.2 _ _ (ly_it_lt h hx k) (ly_it_lt h hy k) e)
theorem ly_it_sub {g : Nat → Nat} {n a i j : Nat} (h : ly_perm g n) (ha : a < n) (hij : i ≤ j) (e : ly_it g a i = ly_it g a j) : ly_it g a (j - i) = a := by
  have e2 : j = (j - i) + i := by omega
  rw [e2, ly_it_add g a (j - i) i] at e
  exact (ly_it_inj h i a (ly_it g a (j - i)) ha (ly_it_lt h ha _) e).symm
theorem ly_cyc_ex {g : Nat → Nat} {n a : Nat} (h : ly_perm g n) (ha : a < n) : ∃ L, 1 ≤ L ∧ L ≤ n ∧ ly_it g a L = a := by
  by_cases c : ∃ L, 1 ≤ L ∧ L ≤ n ∧ ly_it g a L = a
  · exact c
  · have hinj : ∀ i j, i < n → j < n → ly_it g a i = ly_it g a j → i = j := by
      intro i j hi hj e
      by_cases d : i = j
      · exact d
      · by_cases l : i < j
        · exact absurd ⟨j - i, by omega, by omega, ly_it_sub h ha (by omega) e⟩ c
        · exact absurd ⟨i - j, by omega, by omega, ly_it_sub h ha (by omega) e.symm⟩ c
    obtain ⟨j, hj, ej⟩ := ly_pigeon n (ly_it g a) (fun i _ => ly_it_lt h ha i) hinj (ly_it g a n) (ly_it_lt h ha n)
    exact ⟨n - j, by omega, by omega, ly_it_sub h ha (by omega) ej⟩
def ly_isL (g : Nat → Nat) (a L : Nat) : Prop := (1 ≤ L ∧ ly_it g a L = a) ∧ ∀ j, j < L → ¬ (1 ≤ j ∧ ly_it g a j = a)
theorem ly_isL_ex {g : Nat → Nat} {n a : Nat} (h : ly_perm g n) (ha : a < n) : ∃ L, ly_isL g a L := by
  obtain ⟨L, h1, _, h3⟩ := ly_cyc_ex h ha
  exact pk_least (fun L => 1 ≤ L ∧ ly_it g a L = a) ⟨L, h1, h3⟩
noncomputable def ly_len (g : Nat → Nat) (a : Nat) : Nat := Classical.epsilon (ly_isL g a)
theorem ly_len_is {g : Nat → Nat} {n a : Nat} (h : ly_perm g n) (ha : a < n) : ly_isL g a (ly_len g a) := Classical.epsilon_spec (ly_isL_ex h ha)
theorem ly_len_pos {g : Nat → Nat} {n a : Nat} (h : ly_perm g n) (ha : a < n) : 1 ≤ ly_len g a := (ly_len_is h ha).1.1
theorem ly_len_it {g : Nat → Nat} {n a : Nat} (h : ly_perm g n) (ha : a < n) : ly_it g a (ly_len g a) = a := (ly_len_is h ha).1.2
theorem ly_len_min {g : Nat → Nat} {n a j : Nat} (h : ly_perm g n) (ha : a < n) (h1 : 1 ≤ j) (e : ly_it g a j = a) : ly_len g a ≤ j := by
  by_cases c : j < ly_len g a
  · exact absurd ⟨h1, e⟩ ((ly_len_is h ha).2 j c)
  · omega
theorem ly_len_le {g : Nat → Nat} {n a : Nat} (h : ly_perm g n) (ha : a < n) : ly_len g a ≤ n := by
  obtain ⟨L, h1, h2, h3⟩ := ly_cyc_ex h ha
  have := ly_len_min h ha h1 h3
  omega
theorem ly_len_ne {g : Nat → Nat} {n a i j : Nat} (h : ly_perm g n) (ha : a < n) (hij : i < j) (hj : j < ly_len g a) : ly_it g a i ≠ ly_it g a j := by
  intro e
  have := ly_len_min h ha (by omega) (ly_it_sub h ha (by omega) e)
  omega
/-! orbits -/
def ly_O (g : Nat → Nat) (a j : Nat) : Prop := ∃ k, ly_it g a k = j
theorem ly_O_k (g : Nat → Nat) (a k : Nat) : ly_O g a (ly_it g a k) := ⟨k, rfl⟩
theorem ly_O_tr {g : Nat → Nat} {a j l : Nat} (h1 : ly_O g a j) (h2 : ly_O g j l) : ly_O g a l := by
  obtain ⟨k, rfl⟩ := h1
  obtain ⟨m, rfl⟩ := h2
  exact ⟨k + m, ly_it_add g a k m⟩
theorem ly_O_lt {g : Nat → Nat} {n a j : Nat} (h : ly_perm g n) (ha : a < n) (H : ly_O g a j) : ∃ k, k < ly_len g a ∧ ly_it g a k = j := by
  obtain ⟨k, hk⟩ := H
  induction k using Nat.strongRecOn with
  | ind k ih =>
    by_cases c : k < ly_len g a
    · exact ⟨k, c, hk⟩
    · have h1 := ly_len_pos h ha
      refine ih (k - ly_len g a) (by omega) ?_
      have e : k = ly_len g a + (k - ly_len g a) := by omega
      rw [e, ly_it_add, ly_len_it h ha] at hk
      exact hk
theorem ly_O_sym {g : Nat → Nat} {n a j : Nat} (h : ly_perm g n) (ha : a < n) (H : ly_O g a j) : ly_O g j a := by
  obtain ⟨k, hk, rfl⟩ := ly_O_lt h ha H
  refine ⟨ly_len g a - k, ?_⟩
  rw [← ly_it_add]
  have e : k + (ly_len g a - k) = ly_len g a := by omega
  rw [e, ly_len_it h ha]
theorem ly_O_in {g : Nat → Nat} {n a j : Nat} (h : ly_perm g n) (ha : a < n) (H : ly_O g a j) : j < n := by
  obtain ⟨k, rfl⟩ := H
  exact ly_it_lt h ha k
/-- visited when all cycles with a member below i have been walked -/
def ly_V (g : Nat → Nat) (i j : Nat) : Prop := ∃ a, a < i ∧ ly_O g a j
theorem ly_V_0 (g : Nat → Nat) (j : Nat) : ¬ ly_V g 0 j := fun ⟨a, h, _⟩ => Nat.not_lt_zero a h
theorem ly_V_s (g : Nat → Nat) (i j : Nat) : ly_V g (i + 1) j ↔ (ly_V g i j ∨ ly_O g i j) := by
  constructor
  · rintro ⟨a, h1, h2⟩
    by_cases c : a = i
    · subst c; exact Or.inr h2
    · exact Or.inl ⟨a, by omega, h2⟩
  · rintro (⟨a, h1, h2⟩ | h)
    · exact ⟨a, by omega, h2⟩
    · exact ⟨i, by omega, h⟩
theorem ly_V_back {g : Nat → Nat} {n i a j : Nat} (h : ly_perm g n) (ha : a < n) (H : ly_O g a j) (v : ly_V g i j) : ly_V g i a := by
  obtain ⟨c, h1, h2⟩ := v
  exact ⟨c, h1, ly_O_tr h2 (ly_O_sym h ha H)⟩
theorem ly_V_old {g : Nat → Nat} {i : Nat} (v : ly_V g i i) (j : Nat) : ly_V g (i + 1) j ↔ ly_V g i j := by
  rw [ly_V_s]
  constructor
  · rintro (h | h)
    · exact h
    · obtain ⟨c, h1, h2⟩ := v
      exact ⟨c, h1, ly_O_tr h2 h⟩
  · exact Or.inl
theorem ly_V_n {g : Nat → Nat} {n j : Nat} (hj : j < n) : ly_V g n j := ⟨j, hj, 0, rfl⟩
/-- not visited: the smallest of its cycle -/
theorem ly_V_sm {g : Nat → Nat} {n a : Nat} (h : ly_perm g n) (ha : a < n) : ¬ ly_V g a a ↔ ∀ k, k < ly_len g a → a ≤ ly_it g a k := by
  constructor
  · intro hv k hk
    by_cases c : a ≤ ly_it g a k
    · exact c
    · exact absurd ⟨ly_it g a k, by omega, ly_O_sym h ha (ly_O_k g a k)⟩ hv
  · rintro H ⟨c, h1, h2⟩
    have hc : c < n := by omega
    obtain ⟨k, hk, e⟩ := ly_O_lt h ha (ly_O_sym h hc h2)
    have := H k hk
    omega
/-- in the midst of a walk: k cells of the cycle of i are done -/
def ly_Vk (g : Nat → Nat) (i k j : Nat) : Prop := ly_V g i j ∨ ∃ l, l < k ∧ ly_it g i l = j
theorem ly_Vk_0 (g : Nat → Nat) (i j : Nat) : ly_Vk g i 0 j ↔ ly_V g i j :=
  ⟨fun h => h.elim id (fun ⟨l, hl, _⟩ => absurd hl (Nat.not_lt_zero l)), Or.inl⟩
theorem ly_Vk_s (g : Nat → Nat) (i k j : Nat) : ly_Vk g i (k + 1) j ↔ (ly_Vk g i k j ∨ j = ly_it g i k) := by
  constructor
  · rintro (h | ⟨l, h1, h2⟩)
    · exact Or.inl (Or.inl h)
    · by_cases c : l = k
      · subst c; exact Or.inr h2.symm
      · exact Or.inl (Or.inr ⟨l, by omega, h2⟩)
  · rintro ((h | ⟨l, h1, h2⟩) | h)
    · exact Or.inl h
    · exact Or.inr ⟨l, by omega, h2⟩
    · exact Or.inr ⟨k, by omega, h.symm⟩
theorem ly_Vk_new {g : Nat → Nat} {n i k : Nat} (h : ly_perm g n) (hi : i < n) (hv : ¬ ly_V g i i) (hk : k < ly_len g i) : ¬ ly_Vk g i k (ly_it g i k) := by
  rintro (v | ⟨l, h1, h2⟩)
  · exact hv (ly_V_back h hi (ly_O_k g i k) v)
  · exact ly_len_ne h hi h1 hk h2
theorem ly_Vk_end {g : Nat → Nat} {n i : Nat} (h : ly_perm g n) (hi : i < n) : ly_Vk g i (ly_len g i) (ly_it g i (ly_len g i)) :=
  Or.inr ⟨0, ly_len_pos h hi, (ly_len_it h hi).symm⟩
theorem ly_Vk_L {g : Nat → Nat} {n i : Nat} (h : ly_perm g n) (hi : i < n) (j : Nat) : ly_Vk g i (ly_len g i) j ↔ ly_V g (i + 1) j := by
  rw [ly_V_s]
  constructor
  · rintro (v | ⟨l, h1, h2⟩)
    · exact Or.inl v
    · exact Or.inr ⟨l, h2⟩
  · rintro (v | v)
    · exact Or.inl v
    · exact Or.inr (ly_O_lt h hi v)
theorem ly_Vk_cnt {g : Nat → Nat} {n i : Nat} (h : ly_perm g n) (hi : i < n) (hv : ¬ ly_V g i i) : ∀ k, k ≤ ly_len g i → ly_cnt (ly_Vk g i k) n = ly_cnt (ly_V g i) n + k := by
  intro k
  induction k with
  | zero => exact fun _ => ly_cnt_congr n (fun j _ => ly_Vk_0 g i j)
  | succ k ih =>
    intro hk
    have e1 : ly_cnt (ly_Vk g i (k + 1)) n = ly_cnt (fun j => ly_Vk g i k j ∨ j = ly_it g i k) n := ly_cnt_congr n (fun j _ => ly_Vk_s g i k j)
    rw [e1, ly_cnt_add1 n _ (ly_it_lt h hi k) (ly_Vk_new h hi hv (by omega)), ih (by omega)]
    omega
/-- how many cells are unwritten at the head of turn i -/
noncomputable def ly_U (g : Nat → Nat) (n i : Nat) : Nat := n - ly_cnt (ly_V g i) n
theorem ly_U_le (g : Nat → Nat) (n i : Nat) : ly_U g n i ≤ n := Nat.sub_le _ _
theorem ly_U_0 (g : Nat → Nat) (n : Nat) : ly_U g n 0 = n := by
  unfold ly_U
  rw [ly_cnt_none n (fun j _ => ly_V_0 g j)]; rfl
theorem ly_U_n (g : Nat → Nat) (n : Nat) : ly_U g n n = 0 := by
  unfold ly_U
  rw [ly_cnt_all n (fun j hj => ly_V_n hj)]; omega
theorem ly_U_old {g : Nat → Nat} {n i : Nat} (v : ly_V g i i) : ly_U g n (i + 1) = ly_U g n i := by
  unfold ly_U
  rw [ly_cnt_congr n (fun j _ => ly_V_old v j)]
theorem ly_U_new {g : Nat → Nat} {n i : Nat} (h : ly_perm g n) (hi : i < n) (hv : ¬ ly_V g i i) : ly_U g n i = ly_U g n (i + 1) + ly_len g i := by
  unfold ly_U
  have e1 : ly_cnt (ly_V g (i + 1)) n = ly_cnt (ly_V g i) n + ly_len g i := by
    rw [← ly_Vk_cnt h hi hv _ (Nat.le_refl _)]
    exact ly_cnt_congr n (fun j _ => (ly_Vk_L h hi j).symm)
  have e2 := ly_cnt_le (ly_V g (i + 1)) n
  omega
theorem ly_U_mono {g : Nat → Nat} {n : Nat} (i j : Nat) (hij : i ≤ j) : ly_U g n j ≤ ly_U g n i := by
  unfold ly_U
  have := ly_cnt_mono (P := ly_V g i) (Q := ly_V g j) n (fun l _ ⟨a, h1, h2⟩ => ⟨a, by omega, h2⟩)
  omega
/-- what the new block holds -/
def ly_isR (b : Nat → Nat) (g : Nat → Nat) (n i : Nat) (R : Nat → Nat) : Prop := ∀ a, a < i → ¬ ly_V g a a → ∀ k, k < ly_len g a → R (ly_U g n a - 1 - k) = b (ly_it g a k)
theorem ly_isR_ex {b g : Nat → Nat} {n K : Nat} (h : ly_perm g n) (hK : 0 < K) (hb : ∀ j, j < n → b j < K) : ∀ i, i ≤ n → ∃ R : Nat → Nat, ly_isR b g n i R ∧ ∀ j, R j < K := by
  intro i
  induction i with
  | zero => exact fun _ => ⟨fun _ => 0, fun a ha => absurd ha (Nat.not_lt_zero a), fun _ => hK⟩
  | succ i ih =>
    intro hi
    obtain ⟨R, h1, h2⟩ := ih (by omega)
    refine ⟨fun p => if ly_U g n i ≤ p then R p else b (ly_it g i (ly_U g n i - 1 - p)), fun a ha hv k hk => ?_, fun j => ?_⟩
    · dsimp only
      have hn := ly_U_new h (i := a) (by omega) hv
      by_cases c : a = i
      · subst c
        rw [if_neg (by omega)]
        exact congrArg (fun x => b (ly_it g a x)) (by omega)
      · have hm := ly_U_mono (g := g) (n := n) (a + 1) i (by omega)
        rw [if_pos (by omega)]
        exact h1 a (by omega) hv k hk
    · dsimp only
      by_cases c : ly_U g n i ≤ j
      · rw [if_pos c]; exact h2 j
      · rw [if_neg c]; exact hb _ (ly_it_lt h (by omega) _)
/-- every cell is a cell of some cycle's word -/
theorem ly_cover {g : Nat → Nat} {n : Nat} (h : ly_perm g n) : ∀ i, i ≤ n → ∀ p, ly_U g n i ≤ p → p < n → ∃ a, a < i ∧ ¬ ly_V g a a ∧ ∃ k, k < ly_len g a ∧ p = ly_U g n a - 1 - k := by
  intro i
  induction i with
  | zero => intro _ p h1 h2; rw [ly_U_0] at h1; omega
  | succ i ih =>
    intro hi p h1 h2
    by_cases c : ly_U g n i ≤ p
    · obtain ⟨a, ha, r⟩ := ih (by omega) p c h2
      exact ⟨a, by omega, r⟩
    · by_cases v : ly_V g i i
      · rw [ly_U_old v] at h1; omega
      · have := ly_U_new h (i := i) (by omega) v
        exact ⟨i, by omega, v, ly_U g n i - 1 - p, by omega, by omega⟩
theorem ly_isR_uniq {b g R S : Nat → Nat} {n : Nat} (h : ly_perm g n) (h1 : ly_isR b g n n R) (h2 : ly_isR b g n n S) (p : Nat) (hp : p < n) : R p = S p := by
  obtain ⟨a, ha, v, k, hk, rfl⟩ := ly_cover h n (Nat.le_refl n) p (by rw [ly_U_n]; omega) hp
  rw [h1 a ha v k hk, h2 a ha v k hk]
noncomputable def ly_cc (g : Nat → Nat) : Nat → Nat := ly_cnt (fun a => ¬ ly_V g a a)
