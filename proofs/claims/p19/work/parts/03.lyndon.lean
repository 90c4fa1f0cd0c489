/-! prime words, the scan, the factors, the rows -/
def ly_Lt (b : Nat → Nat) (s t e : Nat) : Prop := ∃ k, t + k < e ∧ (∀ i, i < k → b (s + i) = b (t + i)) ∧ b (s + k) < b (t + k)
def ly_Pr (b : Nat → Nat) (s e : Nat) : Prop := ∀ t, s < t → t < e → ly_Lt b s t e
def ly_Dv (b : Nat → Nat) (s p i : Nat) : Prop := 1 ≤ p ∧ s + p ≤ i ∧ ly_Pr b s (s + p) ∧ ∀ j, s + p ≤ j → j < i → b j = b (j - p)
theorem ly_at {b : Nat → Nat} {i j : Nat} (h : i = j) : b i = b j := congrArg b h
theorem ly_Dv0 (b : Nat → Nat) (s : Nat) : ly_Dv b s 1 (s + 1) :=
  ⟨Nat.le_refl 1, Nat.le_refl _, fun t h1 h2 => by omega, fun j h1 h2 => by omega⟩
theorem ly_Dv_eq {b : Nat → Nat} {s p i : Nat} (D : ly_Dv b s p i) (h : b i = b (i - p)) : ly_Dv b s p (i + 1) := by
  obtain ⟨h1, h2, h3, h4⟩ := D
  refine ⟨h1, by omega, h3, fun j a c => ?_⟩
  by_cases e : j = i
  · subst e; exact h
  · exact h4 j a (by omega)
theorem ly_Dv_pr {b : Nat → Nat} {s p i : Nat} (D : ly_Dv b s p i) (h : b (i - p) < b i) : ∀ t, s < t → t < i + 1 → ly_Lt b s t (i + 1) := by
  obtain ⟨h1, h2, h3, h4⟩ := D
  intro t
  induction t using Nat.strongRecOn with
  | ind t ih =>
    intro hs ht
    by_cases c : t < s + p
    · obtain ⟨k, k1, k2, k3⟩ := h3 t hs c
      exact ⟨k, by omega, k2, k3⟩
    · by_cases c2 : t - p = s
      · refine ⟨i - t, by omega, fun j hj => ?_, ?_⟩
        · rw [h4 (t + j) (by omega) (by omega)]
          exact ly_at (by omega)
        · have e1 : s + (i - t) = i - p := by omega
          have e2 : t + (i - t) = i := by omega
          rw [e1, e2]; exact h
      · obtain ⟨k, k1, k2, k3⟩ := ih (t - p) (by omega) (by omega) (by omega)
        by_cases c3 : t + k < i
        · refine ⟨k, by omega, fun j hj => ?_, ?_⟩
          · rw [k2 j hj, h4 (t + j) (by omega) (by omega)]
            exact ly_at (by omega)
          · rw [h4 (t + k) (by omega) (by omega)]
            have e : t + k - p = t - p + k := by omega
            rw [e]; exact k3
        · refine ⟨i - t, by omega, fun j hj => ?_, ?_⟩
          · rw [k2 j (by omega), h4 (t + j) (by omega) (by omega)]
            exact ly_at (by omega)
          · have e2 : t + (i - t) = i := by omega
            have e3 : t - p + (i - t) = i - p := by omega
            rw [e2]
            by_cases c4 : i - t = k
            · have k4 : b (s + (i - t)) < b (t - p + (i - t)) := by rw [c4]; exact k3
              rw [e3] at k4
              omega
            · have k4 := k2 (i - t) (by omega)
              rw [e3] at k4
              rw [k4]; exact h
theorem ly_Dv_gt {b : Nat → Nat} {s p i : Nat} (D : ly_Dv b s p i) (h : b (i - p) < b i) : ly_Dv b s (i - s + 1) (i + 1) := by
  have hp := ly_Dv_pr D h
  obtain ⟨h1, h2, h3, h4⟩ := D
  have e : s + (i - s + 1) = i + 1 := by omega
  exact ⟨by omega, by omega, by rw [e]; exact hp, fun j a c => by omega⟩
theorem ly_Dv_no {b : Nat → Nat} {s p i : Nat} (D : ly_Dv b s p i) (l : Nat) (h : s + p < l) (hl : l ≤ i) : ¬ ly_Pr b s l := by
  obtain ⟨h1, h2, h3, h4⟩ := D
  intro hp
  obtain ⟨k, k1, k2, k3⟩ := hp (s + p) (by omega) h
  have h5 := h4 (s + p + k) (by omega) (by omega)
  have e : s + p + k - p = s + k := by omega
  rw [e] at h5
  omega
theorem ly_Dv_stop {b : Nat → Nat} {s p i : Nat} (D : ly_Dv b s p i) (h : b i < b (i - p)) (l : Nat) (hl : i < l) : ¬ ly_Pr b s l := by
  obtain ⟨h1, h2, h3, h4⟩ := D
  intro hp
  obtain ⟨k, k1, k2, k3⟩ := hp (s + p) (by omega) (by omega)
  by_cases c : s + p + k < i
  · have h5 := h4 (s + p + k) (by omega) c
    have e : s + p + k - p = s + k := by omega
    rw [e] at h5
    omega
  · by_cases d : s + p + k = i
    · have e : s + k = i - p := by omega
      rw [d, e] at k3
      omega
    · have h5 := k2 (i - s - p) (by omega)
      have e1 : s + (i - s - p) = i - p := by omega
      have e2 : s + p + (i - s - p) = i := by omega
      rw [e1, e2] at h5
      omega
/-- e ends the longest prime word that begins at s -/
def ly_isE (b : Nat → Nat) (n s e : Nat) : Prop := s < e ∧ e ≤ n ∧ ly_Pr b s e ∧ ∀ l, e < l → l ≤ n → ¬ ly_Pr b s l
theorem ly_isE_uniq {b : Nat → Nat} {n s e f : Nat} (h : ly_isE b n s e) (g : ly_isE b n s f) : e = f := by
  by_cases c : e < f
  · exact absurd g.2.2.1 (h.2.2.2 f c g.2.1)
  · by_cases d : f < e
    · exact absurd h.2.2.1 (g.2.2.2 e d h.2.1)
    · omega
theorem ly_Pr1 (b : Nat → Nat) (s : Nat) : ly_Pr b s (s + 1) := fun t h1 h2 => by omega
theorem ly_isE_ex (b : Nat → Nat) (n s : Nat) (h : s < n) : ∃ e, ly_isE b n s e := by
  induction n with
  | zero => omega
  | succ n ih =>
    by_cases c : ly_Pr b s (n + 1)
    · exact ⟨n + 1, h, Nat.le_refl _, c, fun l a d => by omega⟩
    · by_cases e : s = n
      · subst e
        exact absurd (ly_Pr1 b s) c
      · obtain ⟨e, e1, e2, e3, e4⟩ := ih (by omega)
        refine ⟨e, e1, by omega, e3, fun l a d => ?_⟩
        by_cases f : l = n + 1
        · rw [f]; exact c
        · exact e4 l a (by omega)
noncomputable def ly_E (b : Nat → Nat) (n s : Nat) : Nat := Classical.epsilon (ly_isE b n s)
theorem ly_E_is (b : Nat → Nat) {n s : Nat} (h : s < n) : ly_isE b n s (ly_E b n s) := Classical.epsilon_spec (ly_isE_ex b n s h)
theorem ly_E_eq {b : Nat → Nat} {n s e : Nat} (h : ly_isE b n s e) : ly_E b n s = e := ly_isE_uniq (ly_E_is b (by have := h.1; have := h.2.1; omega)) h
theorem ly_E_dv {b : Nat → Nat} {n s p i : Nat} (D : ly_Dv b s p i) (hi : i ≤ n) (h : i = n ∨ b i < b (i - p)) : ly_E b n s = s + p := by
  refine ly_E_eq ⟨by have := D.1; omega, by have := D.2.1; omega, D.2.2.1, fun l a c => ?_⟩
  by_cases d : l ≤ i
  · exact ly_Dv_no D l a d
  · rcases h with h | h
    · omega
    · exact ly_Dv_stop D h l (by omega)
/-- the factor of p: st p .. en p - 1 -/
noncomputable def ly_st (b : Nat → Nat) (n : Nat) : Nat → Nat
  | 0 => 0
  | p + 1 => if p + 1 = ly_E b n (ly_st b n p) then p + 1 else ly_st b n p
noncomputable def ly_en (b : Nat → Nat) (n p : Nat) : Nat := ly_E b n (ly_st b n p)
theorem ly_st_t {b : Nat → Nat} {n p : Nat} (h : p + 1 = ly_en b n p) : ly_st b n (p + 1) = p + 1 := if_pos h
theorem ly_st_f {b : Nat → Nat} {n p : Nat} (h : ¬ p + 1 = ly_en b n p) : ly_st b n (p + 1) = ly_st b n p := if_neg h
theorem ly_st_in (b : Nat → Nat) {n p : Nat} (h : p < n) : ly_st b n p ≤ p ∧ p < ly_en b n p ∧ ly_en b n p ≤ n := by
  induction p with
  | zero =>
    have a := ly_E_is b (n := n) (s := 0) h
    exact ⟨Nat.le_refl 0, a.1, a.2.1⟩
  | succ p ih =>
    obtain ⟨h1, h2, h3⟩ := ih (by omega)
    by_cases c : p + 1 = ly_en b n p
    · have a := ly_E_is b (n := n) (s := p + 1) h
      unfold ly_en
      rw [ly_st_t c]
      exact ⟨Nat.le_refl _, a.1, a.2.1⟩
    · have e : ly_en b n (p + 1) = ly_en b n p := by unfold ly_en; rw [ly_st_f c]
      rw [e, ly_st_f c]
      exact ⟨by omega, by omega, h3⟩
theorem ly_st_st (b : Nat → Nat) (n p : Nat) : ly_st b n (ly_st b n p) = ly_st b n p := by
  induction p with
  | zero => rfl
  | succ p ih =>
    by_cases c : p + 1 = ly_en b n p
    · rw [ly_st_t c, ly_st_t c]
    · rw [ly_st_f c]; exact ih
theorem ly_st_up (b : Nat → Nat) (n p : Nat) : ∀ d, p + d < ly_en b n p → ly_st b n (p + d) = ly_st b n p := by
  intro d
  induction d with
  | zero => exact fun _ => rfl
  | succ d ih =>
    intro h
    have ih := ih (by omega)
    have e : ly_en b n (p + d) = ly_en b n p := by unfold ly_en; rw [ih]
    have := ly_st_f (b := b) (n := n) (p := p + d) (by rw [e]; omega)
    rw [← Nat.add_assoc, this]; exact ih
theorem ly_st_same {b : Nat → Nat} {n p u : Nat} (h1 : ly_st b n p ≤ u) (h2 : u < ly_en b n p) : ly_st b n u = ly_st b n p := by
  have e : ly_en b n (ly_st b n p) = ly_en b n p := by unfold ly_en; rw [ly_st_st]
  have := ly_st_up b n (ly_st b n p) (u - ly_st b n p) (by rw [e]; omega)
  rw [ly_st_st] at this
  rw [← this]
  exact congrArg (ly_st b n) (by omega)
theorem ly_en_same {b : Nat → Nat} {n p u : Nat} (h1 : ly_st b n p ≤ u) (h2 : u < ly_en b n p) : ly_en b n u = ly_en b n p := by
  unfold ly_en; rw [ly_st_same h1 h2]
/-- where the next factor must begin when all before p is cut -/
noncomputable def ly_pe (b : Nat → Nat) (n : Nat) : Nat → Nat
  | 0 => 0
  | p + 1 => ly_en b n p
noncomputable def ly_ps (b : Nat → Nat) (n : Nat) : Nat → Nat
  | 0 => 0
  | p + 1 => ly_st b n p
theorem ly_st_pe_t {b : Nat → Nat} {n p : Nat} (h : p = ly_pe b n p) : ly_st b n p = p := by
  cases p with
  | zero => rfl
  | succ p => exact ly_st_t h
theorem ly_st_pe_f {b : Nat → Nat} {n p : Nat} (h : ¬ p = ly_pe b n p) : ly_st b n p = ly_ps b n p ∧ ly_en b n p = ly_pe b n p := by
  cases p with
  | zero => exact absurd rfl h
  | succ p =>
    have e : ly_st b n (p + 1) = ly_st b n p := ly_st_f h
    refine ⟨e, ?_⟩
    show ly_E b n (ly_st b n (p + 1)) = _
    rw [e]; rfl
theorem ly_st_pe_ne {b : Nat → Nat} {n p : Nat} (hp : p < n) (h : ¬ p = ly_pe b n p) : ¬ ly_st b n p = p := by
  cases p with
  | zero => exact absurd rfl h
  | succ p =>
    have e : ly_st b n (p + 1) = ly_st b n p := ly_st_f h
    have := (ly_st_in b (n := n) (p := p) (by omega)).1
    omega
theorem ly_pe_le {b : Nat → Nat} {n p : Nat} (hp : p < n) : p ≤ ly_pe b n p ∧ ly_pe b n p ≤ n := by
  cases p with
  | zero => exact ⟨Nat.le_refl 0, Nat.zero_le _⟩
  | succ p =>
    have := (ly_st_in b (n := n) (p := p) (by omega)).2
    exact ⟨this.1, this.2⟩
/-- round and round in the factor -/
noncomputable def ly_nx (b : Nat → Nat) (n p : Nat) : Nat := if p + 1 = ly_en b n p then ly_st b n p else p + 1
theorem ly_nx_in (b : Nat → Nat) {n p : Nat} (h : p < n) : ly_st b n p ≤ ly_nx b n p ∧ ly_nx b n p < ly_en b n p := by
  have h1 := ly_st_in b h
  unfold ly_nx
  by_cases c : p + 1 = ly_en b n p
  · rw [if_pos c]; omega
  · rw [if_neg c]; omega
noncomputable def ly_pos (b : Nat → Nat) (n p : Nat) : Nat → Nat
  | 0 => p
  | k + 1 => ly_nx b n (ly_pos b n p k)
theorem ly_pos_in (b : Nat → Nat) {n p : Nat} (h : p < n) (k : Nat) : ly_st b n p ≤ ly_pos b n p k ∧ ly_pos b n p k < ly_en b n p := by
  induction k with
  | zero => exact ⟨(ly_st_in b h).1, (ly_st_in b h).2.1⟩
  | succ k ih =>
    have hl : ly_pos b n p k < n := by have := (ly_st_in b h).2.2; omega
    have := ly_nx_in b hl
    rw [ly_st_same ih.1 ih.2, ly_en_same ih.1 ih.2] at this
    exact this
theorem ly_pos_lt (b : Nat → Nat) {n p : Nat} (h : p < n) (k : Nat) : ly_pos b n p k < n := by
  have h1 := ly_pos_in b h k
  have h2 := (ly_st_in b h).2.2
  omega
theorem ly_pos_nx (b : Nat → Nat) {n p : Nat} (h : p < n) (k : Nat) : ly_pos b n p (k + 1) = if ly_pos b n p k + 1 = ly_en b n p then ly_st b n p else ly_pos b n p k + 1 := by
  have h1 := ly_pos_in b h k
  show ly_nx b n (ly_pos b n p k) = _
  unfold ly_nx
  rw [ly_st_same h1.1 h1.2, ly_en_same h1.1 h1.2]
def ly_bf (b : Nat → Nat) (n : Nat) : Nat → Nat → Prop := ly_lex (fun p k => b (ly_pos b n p k)) 48
theorem ly_bf_sto (b : Nat → Nat) (n : Nat) : ly_STO (ly_bf b n) n := ly_lex_sto _ 48 n
noncomputable def ly_row (b : Nat → Nat) (n r : Nat) : Nat := Classical.epsilon (fun p => p < n ∧ ly_rk (ly_bf b n) n p = r)
theorem ly_row_is (b : Nat → Nat) {n r : Nat} (h : r < n) : ly_row b n r < n ∧ ly_rk (ly_bf b n) n (ly_row b n r) = r := Classical.epsilon_spec (ly_rk_surj (ly_bf_sto b n) r h)
theorem ly_row_eq {b : Nat → Nat} {n p : Nat} (h : p < n) : ly_row b n (ly_rk (ly_bf b n) n p) = p :=
  have h1 := ly_row_is b (ly_rk_lt (ly_bf_sto b n) h)
  ly_rk_inj (ly_bf_sto b n) h1.1 h h1.2
/-- the last letter of p, the transformed block, the number of factors -/
noncomputable def ly_ll (b : Nat → Nat) (n p : Nat) : Nat := if p = ly_st b n p then b (ly_en b n p - 1) else b (p - 1)
noncomputable def ly_T (b : Nat → Nat) (n r : Nat) : Nat := if r < n then ly_ll b n (ly_row b n r) else 0
theorem ly_T_at (b : Nat → Nat) {n r : Nat} (h : r < n) : ly_T b n r = ly_ll b n (ly_row b n r) := if_pos h
theorem ly_T_out (b : Nat → Nat) {n r : Nat} (h : n ≤ r) : ly_T b n r = 0 := if_neg (by omega)
noncomputable def ly_fc (b : Nat → Nat) (n : Nat) : Nat → Nat := ly_cnt (fun p => ly_st b n p = p)
theorem ly_ll_lt {b : Nat → Nat} {n p K : Nat} (hb : ∀ j, j < n → b j < K) (h : p < n) : ly_ll b n p < K := by
  have h1 := ly_st_in b h
  unfold ly_ll
  by_cases c : p = ly_st b n p
  · rw [if_pos c]; exact hb _ (by omega)
  · rw [if_neg c]; exact hb _ (by omega)
theorem ly_T_lt {b : Nat → Nat} {n r K : Nat} (hb : ∀ j, j < n → b j < K) (h : r < n) : ly_T b n r < K := by
  rw [ly_T_at b h]
  exact ly_ll_lt hb (ly_row_is b h).1
/-- nothing of all this looks beyond n -/
theorem ly_Lt_congr {b c : Nat → Nat} {n s t e : Nat} (h : ∀ j, j < n → b j = c j) (hs : s ≤ t) (he : e ≤ n) (H : ly_Lt b s t e) : ly_Lt c s t e := by
  obtain ⟨k, k1, k2, k3⟩ := H
  refine ⟨k, k1, fun i hi => ?_, ?_⟩
  · rw [← h _ (by omega), ← h _ (by omega)]; exact k2 i hi
  · rw [← h _ (by omega), ← h _ (by omega)]; exact k3
theorem ly_Pr_congr {b c : Nat → Nat} {n s e : Nat} (h : ∀ j, j < n → b j = c j) (he : e ≤ n) (H : ly_Pr b s e) : ly_Pr c s e :=
  fun t h1 h2 => ly_Lt_congr h (by omega) he (H t h1 h2)
