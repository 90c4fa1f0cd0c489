theorem ly_noninc_all {b : Nat → Nat} {n t : Nat} (ht : t < n) (hst : t = ly_st b n t) : ∀ d s, s + d = t → 0 < d → s = ly_st b n s → ¬ ly_wlt (ly_W b n s) (ly_W b n t) := by
  intro d
  induction d using Nat.strongRecOn with
  | ind d ih =>
    intro s hd h0 hs hw
    have h : s < n := by omega
    have h1 := ly_st_in b h
    have hle : ly_en b n s ≤ t := by
      by_cases c : ly_en b n s ≤ t
      · exact c
      · have := ly_st_same (b := b) (n := n) (p := s) (u := t) (by omega) (by omega)
        omega
    have h2 := ly_noninc h hs rfl (by omega : ly_en b n s < n)
    by_cases c : ly_en b n s = t
    · rw [c] at h2; exact h2 hw
    · have hse : ly_en b n s = ly_st b n (ly_en b n s) := by
        obtain ⟨e, he⟩ : ∃ e, ly_en b n s = e + 1 := ⟨ly_en b n s - 1, by omega⟩
        rw [he]
        have e2 : ly_en b n e = ly_en b n s := ly_en_same (by omega) (by omega)
        exact (ly_st_t (by rw [e2]; exact he.symm)).symm
      have h3 := ih (t - ly_en b n s) (by omega) (ly_en b n s) (by omega) (by omega) hse
      rcases ly_wlt_tri (ly_W b n s) (ly_W b n (ly_en b n s)) with g | g | g
      · exact h2 g
      · exact h3 (ly_wlt_tr g hw)
      · exact h3 (ly_wlt_l (fun k => (g k).symm) hw)
theorem ly_rg_starts {b : Nat → Nat} {n s t : Nat} (hs : s < n) (ht : t < n) (es : s = ly_st b n s) (et : t = ly_st b n t) (h : s < t) : ly_rg b n t < ly_rg b n s := by
  refine (ly_rg_ltI ht hs).2 ?_
  have h1 := ly_noninc_all ht et (t - s) s (by omega) (by omega) es
  rcases ly_wlt_tri (ly_W b n t) (ly_W b n s) with g | g | g
  · exact Or.inl g
  · exact absurd g h1
  · exact Or.inr ⟨g, h⟩
theorem ly_V_en {b : Nat → Nat} {n s p : Nat} (hn : n ≤ 24) (hs : s < n) (es : s = ly_st b n s) (hp : p < n) : ly_V (ly_gt b n) (ly_rg b n s) (ly_rg b n p) ↔ ly_en b n s ≤ p := by
  rw [ly_V_rg hn (Nat.le_of_lt (ly_rg_lt hs)) hp]
  have h1 := ly_st_in b hp
  have h2 := ly_st_in b hs
  have ep : ly_st b n p = ly_st b n (ly_st b n p) := (ly_st_st b n p).symm
  constructor
  · intro h
    by_cases c : ly_en b n s ≤ p
    · exact c
    · exfalso
      by_cases d : s ≤ p
      · have := ly_st_same (b := b) (n := n) (p := s) (u := p) (by omega) (by omega)
        rw [this, ← es] at h
        omega
      · have := ly_rg_starts (b := b) (n := n) (s := ly_st b n p) (t := s) (by omega) hs ep es (by omega)
        omega
  · intro h
    refine ly_rg_starts hs (by omega) es ep ?_
    by_cases c : s < ly_st b n p
    · exact c
    · exfalso
      have h3 := ly_st_same (b := b) (n := n) (p := p) (u := s) (by omega) (by omega)
      have h4 : ly_en b n s = ly_en b n p := ly_en_same (by omega) (by omega)
      omega
theorem ly_U_rg {b : Nat → Nat} {n s : Nat} (hn : n ≤ 24) (hs : s < n) (es : s = ly_st b n s) : ly_U (ly_gt b n) n (ly_rg b n s) = ly_en b n s := by
  have h2 := ly_st_in b hs
  have e : ly_cnt (ly_V (ly_gt b n) (ly_rg b n s)) n = n - ly_en b n s := by
    rw [← ly_cnt_from (ly_en b n s) n h2.2.2, ← ly_cnt_perm (f := ly_rg b n) (P := ly_V (ly_gt b n) (ly_rg b n s)) (fun i hi => ly_rg_lt hi) (fun i j hi hj e => ly_rg_inj hi hj e)]
    exact ly_cnt_congr n (fun p hp => ly_V_en hn hs es hp)
  unfold ly_U
  rw [e]
  omega
/-- the inverse of the transformed block is the block -/
theorem ly_undo {b : Nat → Nat} {n : Nat} (hn : n ≤ 24) : ly_isR (ly_T b n) (ly_gt b n) n n b := by
  intro a ha hv k hk
  obtain ⟨s, hs, rfl⟩ := ly_rg_ex (b := b) a ha
  have es := ((ly_V_st hn hs).1 hv).symm
  rw [ly_len_rg hn hs es] at hk
  have h2 := ly_st_in b hs
  rw [ly_U_rg hn hs es, ly_gt_it hn hs, ly_T_rg hn (ly_prk_in b hs k).1]
  have e := ly_prk_st b hs es (k + 1) (by omega) (by omega)
  have e2 : ly_pr b n (ly_it (ly_pr b n) s k) = ly_en b n s - (k + 1) := e
  rw [e2]
  exact congrArg b (by omega)
theorem ly_undo_cc {b : Nat → Nat} {n : Nat} (hn : n ≤ 24) : ly_cc (ly_gt b n) n = ly_fc b n n := by
  unfold ly_cc ly_fc
  rw [← ly_cnt_perm (f := ly_rg b n) (P := fun a => ¬ ly_V (ly_gt b n) a a) (fun i hi => ly_rg_lt hi) (fun i j hi hj e => ly_rg_inj hi hj e)]
  exact ly_cnt_congr n (fun p hp => ly_V_st hn hp)
/-! every block is a transformed one -/
def ly_enc (K : Nat) (f : Nat → Nat) : Nat → Nat
  | 0 => 0
  | i + 1 => ly_enc K f i + f i * K ^ i
theorem ly_enc_lt {K : Nat} {f : Nat → Nat} : ∀ n, (∀ j, j < n → f j < K) → ly_enc K f n < K ^ n := by
  intro n
  induction n with
  | zero => intro _; show 0 < 1; omega
  | succ n ih =>
    intro h
    have ih := ih (fun j hj => h j (by omega))
    have h1 := h n (by omega)
    have h2 : (f n + 1) * K ^ n ≤ K * K ^ n := Nat.mul_le_mul_right _ h1
    show ly_enc K f n + f n * K ^ n < K ^ (n + 1)
    rw [Nat.pow_succ, Nat.mul_comm (K ^ n) K]
    rw [Nat.add_mul, Nat.one_mul] at h2
    omega
theorem ly_enc_congr {K : Nat} {f g : Nat → Nat} : ∀ n, (∀ j, j < n → f j = g j) → ly_enc K f n = ly_enc K g n := by
  intro n
  induction n with
  | zero => intro _; rfl
  | succ n ih =>
    intro h
    show ly_enc K f n + f n * K ^ n = ly_enc K g n + g n * K ^ n
    rw [ih (fun j hj => h j (by omega)), h n (by omega)]
theorem ly_enc_inj {K : Nat} {f g : Nat → Nat} (hK : 0 < K) : ∀ n, (∀ j, j < n → f j < K) → (∀ j, j < n → g j < K) → ly_enc K f n = ly_enc K g n → ∀ j, j < n → f j = g j := by
  intro n
  induction n with
  | zero => exact fun _ _ _ j hj => absurd hj (Nat.not_lt_zero j)
  | succ n ih =>
    intro hf hg e j hj
    have e : ly_enc K f n + f n * K ^ n = ly_enc K g n + g n * K ^ n := e
    have hp : 0 < K ^ n := Nat.pow_pos hK
    have h1 := ly_enc_lt n (fun j hj => hf j (by omega : j < n + 1))
    have h2 := ly_enc_lt n (fun j hj => hg j (by omega : j < n + 1))
    have e1 : (ly_enc K f n + f n * K ^ n) / K ^ n = f n := by
      rw [Nat.add_mul_div_right _ _ hp, Nat.div_eq_of_lt h1, Nat.zero_add]
    have e2 : (ly_enc K g n + g n * K ^ n) / K ^ n = g n := by
      rw [Nat.add_mul_div_right _ _ hp, Nat.div_eq_of_lt h2, Nat.zero_add]
    have e3 : f n = g n := by rw [← e1, ← e2, e]
    by_cases c : j = n
    · rw [c]; exact e3
    · rw [e3] at e
      exact ih (fun j hj => hf j (by omega)) (fun j hj => hg j (by omega)) (by omega) j (by omega)
theorem ly_enc_ex {K : Nat} (hK : 0 < K) : ∀ n v, v < K ^ n → ∃ f : Nat → Nat, (∀ j, f j < K) ∧ (∀ j, n ≤ j → f j = 0) ∧ ly_enc K f n = v := by
  intro n
  induction n with
  | zero => exact fun v hv => ⟨fun _ => 0, fun _ => hK, fun _ _ => rfl, by have : v < 1 := hv; show 0 = v; omega⟩
  | succ n ih =>
    intro v hv
    have hp : 0 < K ^ n := Nat.pow_pos hK
    obtain ⟨f, h1, h2, h3⟩ := ih (v % K ^ n) (Nat.mod_lt v hp)
    have hd : v / K ^ n < K := by
      rw [Nat.pow_succ] at hv
      exact Nat.div_lt_of_lt_mul hv
    refine ⟨fun j => if j = n then v / K ^ n else f j, fun j => ?_, fun j hj => ?_, ?_⟩
    · dsimp only
      by_cases c : j = n
      · rw [if_pos c]; exact hd
      · rw [if_neg c]; exact h1 j
    · dsimp only
      rw [if_neg (by omega)]
      exact h2 j (by omega)
    · show ly_enc K _ n + (if n = n then v / K ^ n else f n) * K ^ n = v
      rw [ly_enc_congr (g := f) n (fun j hj => if_neg (by omega)), h3, if_pos rfl, Nat.mul_comm]
      have := Nat.div_add_mod v (K ^ n)
      omega
noncomputable def ly_dec (K n v : Nat) : Nat → Nat := Classical.epsilon (fun f : Nat → Nat => (∀ j, f j < K) ∧ (∀ j, n ≤ j → f j = 0) ∧ ly_enc K f n = v)
theorem ly_dec_is {K n v : Nat} (hK : 0 < K) (hv : v < K ^ n) : (∀ j, ly_dec K n v j < K) ∧ (∀ j, n ≤ j → ly_dec K n v j = 0) ∧ ly_enc K (ly_dec K n v) n = v :=
  Classical.epsilon_spec (p := fun f : Nat → Nat => (∀ j, f j < K) ∧ (∀ j, n ≤ j → f j = 0) ∧ ly_enc K f n = v) (ly_enc_ex hK n v hv)
theorem ly_onto {b : Nat → Nat} {K n : Nat} (hn : n ≤ 24) (hK : 0 < K) (hb : ∀ j, j < n → b j < K) (h0 : ∀ j, n ≤ j → b j = 0) : ∃ c : Nat → Nat, (∀ j, c j < K) ∧ (∀ j, n ≤ j → c j = 0) ∧ ly_T c n = b := by
  have hT : ∀ v, v < K ^ n → ∀ j, j < n → ly_T (ly_dec K n v) n j < K := fun v hv j hj => ly_T_lt (fun i _ => (ly_dec_is hK hv).1 i) hj
  obtain ⟨v, hv, e⟩ := ly_pigeon (K ^ n) (fun v => ly_enc K (ly_T (ly_dec K n v) n) n) (fun v hv => ly_enc_lt n (hT v hv)) (fun v w hv hw e => by
    have h1 := ly_enc_inj hK n (hT v hv) (hT w hw) e
    have h2 : ly_T (ly_dec K n v) n = ly_T (ly_dec K n w) n := by
      funext j
      by_cases c : j < n
      · exact h1 j c
      · rw [ly_T_out _ (by omega), ly_T_out _ (by omega)]
    have h3 := ly_undo (b := ly_dec K n v) hn
    have h4 := ly_undo (b := ly_dec K n w) hn
    unfold ly_gt at h3 h4
    rw [h2] at h3
    have h5 := ly_isR_uniq (ly_g_perm (ly_T (ly_dec K n w) n) n) h3 h4
    rw [← (ly_dec_is hK hv).2.2, ← (ly_dec_is hK hw).2.2]
    exact ly_enc_congr n h5) (ly_enc K b n) (ly_enc_lt n hb)
  refine ⟨ly_dec K n v, (ly_dec_is hK hv).1, (ly_dec_is hK hv).2.1, ?_⟩
  have h1 := ly_enc_inj hK n (hT v hv) hb e
  funext j
  by_cases c : j < n
  · exact h1 j c
  · rw [ly_T_out _ (by omega), h0 j (by omega)]
