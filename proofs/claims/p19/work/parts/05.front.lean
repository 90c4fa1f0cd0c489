/-! recent symbols: when a symbol was moved last, and its place -/
def ly_lm (t : Nat → Nat) (s : Nat) : Nat → Int
  | 0 => -1 - (s : Int)
  | i + 1 => if t i = s then (i : Int) else ly_lm t s i
theorem ly_lm_0 (t : Nat → Nat) (s : Nat) : ly_lm t s 0 = -1 - (s : Int) := rfl
theorem ly_lm_t {t : Nat → Nat} {s i : Nat} (h : t i = s) : ly_lm t s (i + 1) = (i : Int) := if_pos h
theorem ly_lm_f {t : Nat → Nat} {s i : Nat} (h : ¬ t i = s) : ly_lm t s (i + 1) = ly_lm t s i := if_neg h
theorem ly_lm_is (t : Nat → Nat) (s i : Nat) : ly_lm t s i = -1 - (s : Int) ∨ ∃ j, j < i ∧ t j = s ∧ ly_lm t s i = (j : Int) := by
  induction i with
  | zero => exact Or.inl rfl
  | succ i ih =>
    by_cases c : t i = s
    · exact Or.inr ⟨i, by omega, c, ly_lm_t c⟩
    · rw [ly_lm_f c]
      rcases ih with h | ⟨j, h1, h2, h3⟩
      · exact Or.inl h
      · exact Or.inr ⟨j, by omega, h2, h3⟩
theorem ly_lm_lt (t : Nat → Nat) (s i : Nat) : ly_lm t s i < (i : Int) := by
  rcases ly_lm_is t s i with h | ⟨j, h1, _, h3⟩ <;> omega
theorem ly_lm_ge (t : Nat → Nat) (s i : Nat) : -1 - (s : Int) ≤ ly_lm t s i := by
  rcases ly_lm_is t s i with h | ⟨j, h1, _, h3⟩ <;> omega
theorem ly_lm_inj {t : Nat → Nat} {x y i : Nat} (h : ly_lm t x i = ly_lm t y i) : x = y := by
  rcases ly_lm_is t x i with h1 | ⟨j, h1, h2, h3⟩ <;> rcases ly_lm_is t y i with k1 | ⟨l, k1, k2, k3⟩
  · omega
  · omega
  · omega
  · obtain rfl : j = l := by omega
    omega
theorem ly_lm_congr {t u : Nat → Nat} {s i : Nat} (h : ∀ j, j < i → t j = u j) : ly_lm t s i = ly_lm u s i := by
  induction i with
  | zero => rfl
  | succ i ih =>
    have ih := ih (fun j hj => h j (by omega))
    have e := h i (by omega)
    by_cases c : t i = s
    · rw [ly_lm_t c, ly_lm_t (e.symm.trans c)]
    · rw [ly_lm_f c, ly_lm_f (fun z => c (e.trans z)), ih]
def ly_mR (t : Nat → Nat) (i x y : Nat) : Prop := ly_lm t y i < ly_lm t x i
theorem ly_mR_sto (t : Nat → Nat) (i K : Nat) : ly_STO (ly_mR t i) K := by
  refine ⟨fun p h => ?_, fun p q r h1 h2 => ?_, fun p q _ _ h => ?_⟩
  · unfold ly_mR at h; omega
  · unfold ly_mR at *; omega
  · unfold ly_mR
    have h2 : ly_lm t p i ≠ ly_lm t q i := fun e => h (ly_lm_inj e)
    omega
/-- the place of x in the list at step i -/
noncomputable def ly_pl (t : Nat → Nat) (K i x : Nat) : Nat := ly_rk (ly_mR t i) K x
theorem ly_pl_congr {t u : Nat → Nat} {K i x : Nat} (h : ∀ j, j < i → t j = u j) : ly_pl t K i x = ly_pl u K i x :=
  ly_cnt_congr K (fun y _ => by unfold ly_mR; rw [ly_lm_congr (s := x) h, ly_lm_congr (s := y) h])
theorem ly_pl_lt {t : Nat → Nat} {K i x : Nat} (hx : x < K) : ly_pl t K i x < K := ly_rk_lt (ly_mR_sto t i K) hx
theorem ly_pl_inj {t : Nat → Nat} {K i x y : Nat} (hx : x < K) (hy : y < K) (e : ly_pl t K i x = ly_pl t K i y) : x = y := ly_rk_inj (ly_mR_sto t i K) hx hy e
theorem ly_pl_0 (t : Nat → Nat) {K x : Nat} (hx : x < K) : ly_pl t K 0 x = x := by
  have e : ly_pl t K 0 x = ly_cnt (fun y => y < x) K := ly_cnt_congr K (fun y _ => by
    unfold ly_mR
    rw [ly_lm_0, ly_lm_0]
    omega)
  rw [e, ly_cnt_below x K (by omega)]
theorem ly_pl_self (t : Nat → Nat) (K i : Nat) : ly_pl t K (i + 1) (t i) = 0 :=
  ly_cnt_none K (fun y _ => by
    unfold ly_mR
    rw [ly_lm_t rfl]
    have := ly_lm_lt t y (i + 1)
    omega)
theorem ly_mR_s {t : Nat → Nat} {i x : Nat} (hx : ¬ t i = x) (y : Nat) : ly_mR t (i + 1) y x ↔ (ly_mR t i y x ∨ y = t i) := by
  unfold ly_mR
  rw [ly_lm_f hx]
  by_cases c : t i = y
  · rw [ly_lm_t c]
    have := ly_lm_lt t x i
    constructor
    · exact fun _ => Or.inr c.symm
    · exact fun _ => by omega
  · rw [ly_lm_f c]
    constructor
    · exact Or.inl
    · exact fun h => h.elim id (fun z => absurd z.symm c)
theorem ly_pl_after {t : Nat → Nat} {K i x : Nat} (hs : t i < K) (hx : x < K) (h : ly_pl t K i (t i) < ly_pl t K i x) : ly_pl t K (i + 1) x = ly_pl t K i x := by
  have hr : ly_mR t i (t i) x := (ly_rk_ltI (ly_mR_sto t i K) hs hx).1 h
  have hne : ¬ t i = x := fun z => by rw [z] at h; omega
  refine ly_cnt_congr K (fun y _ => ?_)
  rw [ly_mR_s hne y]
  constructor
  · rintro (z | z)
    · exact z
    · rw [z]; exact hr
  · exact Or.inl
theorem ly_pl_before {t : Nat → Nat} {K i x : Nat} (hs : t i < K) (hx : x < K) (h : ly_pl t K i x < ly_pl t K i (t i)) : ly_pl t K (i + 1) x = ly_pl t K i x + 1 := by
  have hr : ¬ ly_mR t i (t i) x := fun z => by
    have := (ly_rk_ltI (ly_mR_sto t i K) hs hx).2 z
    unfold ly_pl at h
    omega
  have hne : ¬ t i = x := fun z => by rw [z] at h; omega
  have e : ly_pl t K (i + 1) x = ly_cnt (fun y => ly_mR t i y x ∨ y = t i) K := ly_cnt_congr K (fun y _ => ly_mR_s hne y)
  rw [e]
  exact ly_cnt_add1 (P := fun y => ly_mR t i y x) K (t i) hs hr
/-- the list at step i -/
def ly_Rc (t : Nat → Nat) (K i : Nat) (R : Nat → Nat) : Prop := ∀ p, p < K → R p < K ∧ ly_pl t K i (R p) = p
theorem ly_Rc_0 (t : Nat → Nat) (K : Nat) : ly_Rc t K 0 (fun p => p) := fun p hp => ⟨hp, ly_pl_0 t hp⟩
theorem ly_Rc_at {t R : Nat → Nat} {K i x : Nat} (h : ly_Rc t K i R) (hx : x < K) : R (ly_pl t K i x) = x := by
  have hp := h (ly_pl t K i x) (ly_pl_lt hx)
  exact ly_pl_inj hp.1 hx hp.2
theorem ly_Rc_ne {t R : Nat → Nat} {K i x p : Nat} (h : ly_Rc t K i R) (hp : p < K) (hne : p ≠ ly_pl t K i x) : R p ≠ x := by
  intro e
  have := (h p hp).2
  rw [e] at this
  omega
def ly_mv (R : Nat → Nat) (j s : Nat) : Nat → Nat := fun p => if p = 0 then s else if p ≤ j then R (p - 1) else R p
theorem ly_Rc_s {t R : Nat → Nat} {K i : Nat} (h : ly_Rc t K i R) (hs : t i < K) : ly_Rc t K (i + 1) (ly_mv R (ly_pl t K i (t i)) (t i)) := by
  intro p hp
  unfold ly_mv
  by_cases c : p = 0
  · subst c
    rw [if_pos rfl]
    exact ⟨hs, ly_pl_self t K i⟩
  · rw [if_neg c]
    by_cases d : p ≤ ly_pl t K i (t i)
    · rw [if_pos d]
      have h1 := h (p - 1) (by omega)
      refine ⟨h1.1, ?_⟩
      rw [ly_pl_before hs h1.1 (by omega), h1.2]
      omega
    · rw [if_neg d]
      have h1 := h p hp
      refine ⟨h1.1, ?_⟩
      rw [ly_pl_after hs h1.1 (by omega), h1.2]
/-- the block that front makes; what unfront must find -/
noncomputable def ly_F (b : Nat → Nat) (K i : Nat) : Nat := ly_pl b K i (b i)
def ly_isD (b : Nat → Nat) (K n : Nat) (D : Nat → Nat) : Prop := ∀ i, i < n → D i < K ∧ ly_pl D K i (D i) = b i
theorem ly_isD_ex {b : Nat → Nat} {K n : Nat} (hb : ∀ j, j < n → b j < K) : ∀ i, i ≤ n → ∃ D, ly_isD b K i D := by
  intro i
  induction i with
  | zero => exact fun _ => ⟨fun _ => 0, fun j hj => absurd hj (Nat.not_lt_zero j)⟩
  | succ i ih =>
    intro hi
    obtain ⟨D, hD⟩ := ih (by omega)
    obtain ⟨x, hx, ex⟩ := ly_rk_surj (ly_mR_sto D i K) (b i) (hb i (by omega))
    have hag : ∀ l, l ≤ i → ∀ j, j < l → (fun j => if j = i then x else D j) j = D j := fun l hl j hj => if_neg (by omega)
    refine ⟨fun j => if j = i then x else D j, fun j hj => ?_⟩
    rw [ly_pl_congr (hag j (by omega))]
    dsimp only
    by_cases c : j = i
    · subst c
      rw [if_pos rfl]
      exact ⟨hx, ex⟩
    · rw [if_neg c]
      exact hD j (by omega)
