/-! the class: rows, transform -/
section
variable {K C n m : Nat} {b : Nat → Nat} {B Cd Fs Fi La Rw Su Vi Nb Re : Nat → Int32}
theorem lx_round {post : Int32 → Prop} {u : Nat} (hn : n ≤ 24) (hF : ∀ j, j < n → Fi j = nI (ly_st b n j)) (hL : ∀ j, j < n → La j = nI (ly_en b n j - 1)) (hu : u < n) (hp : post (nI (ly_nx b n u))) : wpX_roundInFactor post (nI K, nI C, nI n, nI m, B, Cd, Fs, Fi, La, Rw, Su, Vi, Nb, Re) (nI u) := by
  have h1 := ly_st_in b hu
  refine And.intro (ly_in (by omega)) ?_
  refine pk_eq u (ly_en b n u - 1) (fun e => And.intro (ly_in (by omega)) ?_) (fun e => ?_) rfl (ly_rd hL hu hn)
  · rw [ly_rd hF hu hn]
    have e2 : ly_nx b n u = ly_st b n u := if_pos (by omega)
    rw [e2] at hp
    exact hp
  · have e2 : ly_nx b n u = u + 1 := if_neg (by omega)
    rw [e2] at hp
    rw [nI_1]
    exact hp
theorem lx_before_loop {post : Int32 → Prop} {p q : Nat} (hn : n ≤ 24) (hb : ∀ j, j < n → b j < 16) (hB : ∀ j, j < n → B j = nI (b j)) (hF : ∀ j, j < n → Fi j = nI (ly_st b n j)) (hL : ∀ j, j < n → La j = nI (ly_en b n j - 1)) (hpn : p < n) (hqn : q < n) (hp : post (ly_bit (ly_bf b n p q))) : ∀ d k, k + d = 48 → (∀ i, i < k → b (ly_pos b n p i) = b (ly_pos b n q i)) → wX_comesBefore_8 post (nI p) (nI q) (nI K) (nI C) (nI n) (nI m) B Cd Fs Fi La Rw Su Vi Nb Re (d + 1) (nI (ly_pos b n p k)) (nI (ly_pos b n q k)) (nI k) := by
  intro d
  induction d with
  | zero =>
    intro k hk he
    obtain rfl : k = 48 := by omega
    refine pk_le 48 48 (fun _ => ?_) (fun h => by omega)
    refine pk_le q p (fun h => ?_) (fun h => ?_)
    · rw [ly_bit_f (fun z => by
        rcases z with ⟨k, k1, k2, k3⟩ | ⟨_, l⟩
        · have := he k k1
          dsimp only at k3
          omega
        · omega)] at hp
      exact hp
    · rw [ly_bit_t (P := ly_bf b n p q) (Or.inr ⟨he, h⟩)] at hp
      exact hp
  | succ d ih =>
    intro k hk he
    have hpk := ly_pos_lt b hpn k
    have hqk := ly_pos_lt b hqn k
    have b1 := hb _ hpk
    have b2 := hb _ hqk
    refine pk_le 48 k (fun h => by omega) (fun _ => And.intro (ly_in (by omega)) (And.intro (ly_in (by omega)) ?_))
    refine pk_eq (b (ly_pos b n p k)) (b (ly_pos b n q k)) (fun e => ?_) (fun e => ?_) (ly_rd hB hpk hn) (ly_rd hB hqk hn)
    · refine lx_round hn hF hL hpk (lx_round hn hF hL hqk ?_)
      exact nm_r (nI_1 k) (ih (k + 1) (by omega) (lt_s he e))
    · refine And.intro (ly_in (by omega)) (And.intro (ly_in (by omega)) ?_)
      refine pk_le (b (ly_pos b n q k)) (b (ly_pos b n p k)) (fun l => ?_) (fun l => ?_) (ly_rd hB hqk hn) (ly_rd hB hpk hn)
      · rw [ly_bit_f (fun z => by
          rcases z with ⟨i, i1, i2, i3⟩ | ⟨i2, _⟩
          · dsimp only at i2 i3
            by_cases c : i < k
            · have := he i c; omega
            · by_cases c2 : i = k
              · subst c2; omega
              · exact e (i2 k (by omega))
          · exact e (i2 k (by omega)))] at hp
        exact hp
      · rw [ly_bit_t (P := ly_bf b n p q) (Or.inl ⟨k, by omega, he, l⟩)] at hp
        exact hp
theorem lx_before {post : Int32 → Prop} {p q : Nat} (hn : n ≤ 24) (hb : ∀ j, j < n → b j < 16) (hB : ∀ j, j < n → B j = nI (b j)) (hF : ∀ j, j < n → Fi j = nI (ly_st b n j)) (hL : ∀ j, j < n → La j = nI (ly_en b n j - 1)) (hpn : p < n) (hqn : q < n) (hp : post (ly_bit (ly_bf b n p q))) : wpX_comesBefore post (nI K, nI C, nI n, nI m, B, Cd, Fs, Fi, La, Rw, Su, Vi, Nb, Re) (nI p) (nI q) :=
  ⟨_, lx_before_loop hn hb hB hF hL hpn hqn hp 48 0 rfl (fun i h => absurd h (Nat.not_lt_zero i))⟩
theorem lx_count_loop {post : Int32 → Prop} {p : Nat} (hn : n ≤ 24) (hb : ∀ j, j < n → b j < 16) (hB : ∀ j, j < n → B j = nI (b j)) (hF : ∀ j, j < n → Fi j = nI (ly_st b n j)) (hL : ∀ j, j < n → La j = nI (ly_en b n j - 1)) (hpn : p < n) (hp : post (nI (ly_rk (ly_bf b n) n p))) : ∀ d j, j + d = n → ∀ x2 x3, x2 = nI (ly_cnt (fun q => ly_bf b n q p) j) → x3 = nI j → wX_countBefore_4 post (nI p) (nI K) (nI C) (nI n) (nI m) B Cd Fs Fi La Rw Su Vi Nb Re (d + 1) x2 x3 := by
  intro d
  induction d with
  | zero =>
    rintro j hj x2 x3 rfl rfl
    obtain rfl : j = n := by omega
    exact pk_le j j (fun _ => hp) (fun h => by omega)
  | succ d ih =>
    rintro j hj x2 x3 rfl rfl
    refine pk_le n j (fun h => by omega) (fun _ => lx_before hn hb hB hF hL (by omega) hpn ?_)
    refine ly_bit_br (fun h => ?_) (fun h => ?_)
    · intro y2 e2 y3 e3
      refine ih (j + 1) (by omega) _ _ ?_ ?_
      · rw [e2, nI_1, ly_cnt_t (P := fun q => ly_bf b n q p) h]
      · rw [e3, nI_1]
    · intro y3 e3
      refine ih (j + 1) (by omega) _ _ ?_ ?_
      · rw [ly_cnt_f (P := fun q => ly_bf b n q p) h]
      · rw [e3, nI_1]
theorem lx_count {post : Int32 → Prop} {p : Nat} (hn : n ≤ 24) (hb : ∀ j, j < n → b j < 16) (hB : ∀ j, j < n → B j = nI (b j)) (hF : ∀ j, j < n → Fi j = nI (ly_st b n j)) (hL : ∀ j, j < n → La j = nI (ly_en b n j - 1)) (hpn : p < n) (hp : post (nI (ly_rk (ly_bf b n) n p))) : wpX_countBefore post (nI K, nI C, nI n, nI m, B, Cd, Fs, Fi, La, Rw, Su, Vi, Nb, Re) (nI p) :=
  ⟨_, lx_count_loop hn hb hB hF hL hpn hp n 0 (by omega) _ _ rfl rfl⟩
theorem lx_order_loop {post : St2 → Prop} (hn : n ≤ 24) (hb : ∀ j, j < n → b j < 16) (hB : ∀ j, j < n → B j = nI (b j)) (hF : ∀ j, j < n → Fi j = nI (ly_st b n j)) (hL : ∀ j, j < n → La j = nI (ly_en b n j - 1)) (hp : ∀ Rw, (∀ q, q < n → Rw (ly_rk (ly_bf b n) n q) = nI q) → post (nI K, nI C, nI n, nI m, B, Cd, Fs, Fi, La, Rw, Su, Vi, Nb, Re)) : ∀ d p, p + d = n → ∀ x1 Rw, x1 = nI p → (∀ q, q < p → Rw (ly_rk (ly_bf b n) n q) = nI q) → wX_orderRows_2 post (nI K) (nI C) (nI n) (nI m) (d + 1) x1 B Cd Fs Fi La Rw Su Vi Nb Re := by
  intro d
  induction d with
  | zero =>
    rintro p hpd x1 Rw rfl hI
    obtain rfl : p = n := by omega
    exact pk_le p p (fun _ => hp Rw hI) (fun h => by omega)
  | succ d ih =>
    rintro p hpd x1 Rw rfl hI
    have hpn : p < n := by omega
    have hr := ly_rk_lt (ly_bf_sto b n) hpn
    refine pk_le n p (fun h => by omega) (fun _ => lx_count hn hb hB hF hL hpn ?_)
    refine And.intro (ly_in (by omega)) ?_
    intro a ea y ey
    refine ih (p + 1) (by omega) _ a (by rw [ey, nI_1]) (lt_s (fun q hq => ?_) ?_)
    · rw [ea, ly_un (by omega) (fun z => by
        have := ly_rk_inj (ly_bf_sto b n) (by omega) hpn z
        omega)]
      exact hI q hq
    · rw [ea]; exact ly_us (by omega) rfl
theorem lx_order {post : St2 → Prop} (hn : n ≤ 24) (hb : ∀ j, j < n → b j < 16) (hB : ∀ j, j < n → B j = nI (b j)) (hF : ∀ j, j < n → Fi j = nI (ly_st b n j)) (hL : ∀ j, j < n → La j = nI (ly_en b n j - 1)) (hp : ∀ Rw, (∀ q, q < n → Rw (ly_rk (ly_bf b n) n q) = nI q) → post (nI K, nI C, nI n, nI m, B, Cd, Fs, Fi, La, Rw, Su, Vi, Nb, Re)) : wpX_orderRows post (nI K, nI C, nI n, nI m, B, Cd, Fs, Fi, La, Rw, Su, Vi, Nb, Re) :=
  ⟨_, lx_order_loop hn hb hB hF hL hp n 0 (by omega) _ Rw rfl (fun q h => absurd h (Nat.not_lt_zero q))⟩
theorem lx_rowsAt {r : Nat} (h : ∀ q, q < n → Rw (ly_rk (ly_bf b n) n q) = nI q) (hr : r < n) : Rw r = nI (ly_row b n r) := by
  have h1 := ly_row_is b hr
  have h2 := h _ h1.1
  rw [h1.2] at h2
  exact h2
theorem lx_last {post : Int32 → Prop} {p : Nat} (hn : n ≤ 24) (hB : ∀ j, j < n → B j = nI (b j)) (hF : ∀ j, j < n → Fi j = nI (ly_st b n j)) (hL : ∀ j, j < n → La j = nI (ly_en b n j - 1)) (hpn : p < n) (hp : post (nI (ly_ll b n p))) : wpX_lastLetter post (nI K, nI C, nI n, nI m, B, Cd, Fs, Fi, La, Rw, Su, Vi, Nb, Re) (nI p) := by
  have h1 := ly_st_in b hpn
  refine And.intro (ly_in (by omega)) ?_
  refine pk_eq p (ly_st b n p) (fun e => ?_) (fun e => ?_) rfl (ly_rd hF hpn hn)
  · refine And.intro (ly_in (by omega)) ?_
    rw [ly_rd hL hpn hn]
    refine And.intro (ly_in (by omega)) ?_
    rw [ly_rd hB (by omega) hn]
    have e2 : ly_ll b n p = b (ly_en b n p - 1) := if_pos e
    rw [e2] at hp
    exact hp
  · rw [ly_s1 (b := p - 1) (by omega)]
    refine And.intro (ly_in (by omega)) ?_
    rw [ly_rd hB (by omega) hn]
    have e2 : ly_ll b n p = b (p - 1) := if_neg e
    rw [e2] at hp
    exact hp
theorem lx_take_loop {post : St2 → Prop} (hn : n ≤ 24) (hp : ∀ B, (∀ j, j < n → B j = Nb j) → post (nI K, nI C, nI n, nI m, B, Cd, Fs, Fi, La, Rw, Su, Vi, Nb, Re)) : ∀ d i, i + d = n → ∀ x1 B, x1 = nI i → (∀ j, j < i → B j = Nb j) → wX_takeNextBlock_2 post (nI K) (nI C) (nI n) (nI m) (d + 1) x1 B Cd Fs Fi La Rw Su Vi Nb Re := by
  intro d
  induction d with
  | zero =>
    rintro i hi x1 B rfl hI
    obtain rfl : i = n := by omega
    exact pk_le i i (fun _ => hp B hI) (fun h => by omega)
  | succ d ih =>
    rintro i hi x1 B rfl hI
    refine pk_le n i (fun h => by omega) (fun _ => And.intro (ly_in (by omega)) (And.intro (ly_in (by omega)) ?_))
    intro a ea y ey
    refine ih (i + 1) (by omega) _ a (by rw [ey, nI_1]) (lt_s (fun q hq => ?_) ?_)
    · rw [ea, ly_un (by omega) (by omega)]; exact hI q hq
    · rw [ea, ly_us (by omega) rfl, ly_cl (by omega)]
theorem lx_take {post : St2 → Prop} (hn : n ≤ 24) (hp : ∀ B, (∀ j, j < n → B j = Nb j) → post (nI K, nI C, nI n, nI m, B, Cd, Fs, Fi, La, Rw, Su, Vi, Nb, Re)) : wpX_takeNextBlock post (nI K, nI C, nI n, nI m, B, Cd, Fs, Fi, La, Rw, Su, Vi, Nb, Re) :=
  ⟨_, lx_take_loop hn hp n 0 (by omega) _ B rfl (fun q h => absurd h (Nat.not_lt_zero q))⟩
theorem lx_trans_loop {post : Int32 → St2 → Prop} {x : Int32} (hn : n ≤ 24) (hB : ∀ j, j < n → B j = nI (b j)) (hF : ∀ j, j < n → Fi j = nI (ly_st b n j)) (hL : ∀ j, j < n → La j = nI (ly_en b n j - 1)) (hR : ∀ q, q < n → Rw (ly_rk (ly_bf b n) n q) = nI q) (hp : ∀ B Nb, (∀ j, j < n → B j = nI (ly_T b n j)) → post x (nI K, nI C, nI n, nI m, B, Cd, Fs, Fi, La, Rw, Su, Vi, Nb, Re)) : ∀ d r, r + d = n → ∀ x2 Nb, x2 = nI r → (∀ j, j < r → Nb j = nI (ly_T b n j)) → wX_transform_11 post x (nI K) (nI C) (nI n) (nI m) (d + 1) x2 B Cd Fs Fi La Rw Su Vi Nb Re := by
  intro d
  induction d with
  | zero =>
    rintro r hr x2 Nb rfl hI
    obtain rfl : r = n := by omega
    refine pk_le r r (fun _ => lx_take hn (fun B' hB' => ?_)) (fun h => by omega)
    exact hp B' Nb (fun j hj => (hB' j hj).trans (hI j hj))
  | succ d ih =>
    rintro r hr x2 Nb rfl hI
    have hrn : r < n := by omega
    have h1 := ly_row_is b hrn
    refine pk_le n r (fun h => by omega) (fun _ => And.intro (ly_in (by omega)) ?_)
    rw [ly_cl (by omega), lx_rowsAt hR hrn]
    refine lx_last hn hB hF hL h1.1 ?_
    refine And.intro (ly_in (by omega)) ?_
    intro a ea y ey
    refine ih (r + 1) (by omega) _ a (by rw [ey, nI_1]) (lt_s (fun q hq => ?_) ?_)
    · rw [ea, pk_un (by omega)]; exact hI q hq
    · rw [ea, pk_us, ly_T_at b hrn]
theorem lx_transform {post : Int32 → St2 → Prop} (hn : n ≤ 24) (hb : ∀ j, j < n → b j < 16) (hB : ∀ j, j < n → B j = nI (b j)) (hp : ∀ B Fs Fi La Rw Nb, (∀ j, j < n → B j = nI (ly_T b n j)) → post (nI (ly_fc b n n)) (nI K, nI C, nI n, nI m, B, Cd, Fs, Fi, La, Rw, Su, Vi, Nb, Re)) : wpX_transform post (nI K, nI C, nI n, nI m, B, Cd, Fs, Fi, La, Rw, Su, Vi, Nb, Re) := by
  refine lx_cut hn hb hB (fun Fs' Fi' La' hc => ?_)
  refine lx_order hn hb hB hc.2.1 hc.2.2 (fun Rw' hR => ?_)
  exact ⟨_, lx_trans_loop hn hB hc.2.1 hc.2.2 hR (fun B' Nb' h => hp B' Fs' Fi' La' Rw' Nb' h) n 0 (by omega) _ Nb rfl (fun q h => absurd h (Nat.not_lt_zero q))⟩
/-- what factorStart answers -/
def ly_isFS (b : Nat → Nat) (n : Nat) (v r : Int32) : Prop := (∃ p, p < n ∧ ly_st b n p = p ∧ v = nI (ly_fc b n p) ∧ r = nI p) ∨ ((∀ p, p < n → ly_st b n p = p → ¬ v = nI (ly_fc b n p)) ∧ r = -1)
theorem ly_isFS_uniq {v r s : Int32} (hn : n ≤ 24) (h : ly_isFS b n v r) (g : ly_isFS b n v s) : s = r := by
  rcases h with ⟨p, h1, h2, h3, h4⟩ | ⟨h1, h2⟩ <;> rcases g with ⟨q, g1, g2, g3, g4⟩ | ⟨g1, g2⟩
  · have e : ly_fc b n p = ly_fc b n q := by
      have a1 : ly_fc b n p ≤ p := ly_cnt_le _ p
      have a2 : ly_fc b n q ≤ q := ly_cnt_le _ q
      exact (nI_eq (by omega) (by omega)).1 (h3.symm.trans g3)
    have hpq : ∀ p q, ly_st b n p = p → p < q → ly_fc b n p < ly_fc b n q := fun p q hp hpq => by
      have h5 := ly_cnt_up (fun p => ly_st b n p = p) (m := p + 1) (n := q) (by omega)
      rw [ly_cnt_t (P := fun p => ly_st b n p = p) hp] at h5
      exact h5
    by_cases c : p = q
    · rw [g4, h4, c]
    · by_cases d : p < q
      · have := hpq p q h2 d; omega
      · have := hpq q p g2 (by omega); omega
  · exact absurd h3 (g1 p h1 h2)
  · exact absurd g3 (h1 q g1 g2)
  · rw [g2, h2]
theorem ly_fc_find (b : Nat → Nat) (n : Nat) : ∀ i j, j < ly_fc b n i → ∃ p, p < i ∧ ly_st b n p = p ∧ ly_fc b n p = j := by
  intro i
  induction i with
  | zero => exact fun j h => absurd h (Nat.not_lt_zero j)
  | succ i ih =>
    intro j hj
    by_cases c : ly_st b n i = i
    · have e : ly_fc b n (i + 1) = ly_fc b n i + 1 := ly_cnt_t (P := fun p => ly_st b n p = p) c
      by_cases d : j = ly_fc b n i
      · exact ⟨i, by omega, c, d.symm⟩
      · obtain ⟨p, p1, p2⟩ := ih j (by omega)
        exact ⟨p, by omega, p2⟩
    · have e : ly_fc b n (i + 1) = ly_fc b n i := ly_cnt_f (P := fun p => ly_st b n p = p) c
      obtain ⟨p, p1, p2⟩ := ih j (by omega)
      exact ⟨p, by omega, p2⟩
theorem lx_factorStart {post : Int32 → St2 → Prop} {v : Int32} (hn : n ≤ 24) (hb : ∀ j, j < n → b j < 16) (hB : ∀ j, j < n → B j = nI (b j)) (hp : ∀ r Fs Fi La, ly_isFS b n v r → post r (nI K, nI C, nI n, nI m, B, Cd, Fs, Fi, La, Rw, Su, Vi, Nb, Re)) : wpX_factorStart post (nI K, nI C, nI n, nI m, B, Cd, Fs, Fi, La, Rw, Su, Vi, Nb, Re) v := by
  refine lx_cut hn hb hB (fun Fs' Fi' La' hc => ?_)
  have h1 : ly_fc b n n ≤ n := ly_cnt_le _ n
  have hlt : ∀ p, p < n → ly_st b n p = p → ly_fc b n p < ly_fc b n n := fun p hp hs => by
    have h5 := ly_cnt_up (fun p => ly_st b n p = p) (m := p + 1) (n := n) (by omega)
    rw [ly_cnt_t (P := fun p => ly_st b n p = p) hs] at h5
    exact h5
  rcases ly_ix3 v (n := ly_fc b n n) (by omega) with h | ⟨h, h2⟩ | ⟨j, hj, rfl⟩
  · refine br_t h (hp _ _ _ _ (Or.inr ⟨fun p _ _ z => ?_, rfl⟩))
    have a1 : ly_fc b n p ≤ n := by have := hlt p (by assumption) (by assumption); omega
    rw [z] at h
    exact nI_pos (by omega) h
  · refine br_f h (br_f h2 (hp _ _ _ _ (Or.inr ⟨fun p q1 q2 z => ?_, rfl⟩)))
    have a1 := hlt p q1 q2
    rw [z] at h2
    exact h2 (nI_lt a1 (by omega))
  · obtain ⟨p, p1, p2, p3⟩ := ly_fc_find b n n j hj
    refine br_f (nI_pos (by omega)) (br_t (nI_lt hj (by omega)) (And.intro (ly_in (by omega)) ?_))
    have e := hc.1 p p1 p2
    rw [p3] at e
    rw [ly_cl (by omega), e]
    exact hp _ _ _ _ (Or.inl ⟨p, p1, p2, by rw [p3], rfl⟩)
def ly_isRow (b : Nat → Nat) (n : Nat) (v r : Int32) : Prop := (∃ j, j < n ∧ v = nI j ∧ r = nI (ly_row b n j)) ∨ ((v < 0 ∨ ¬ v < nI n) ∧ r = -1)
theorem ly_isRow_uniq {v r s : Int32} (hn : n ≤ 24) (h : ly_isRow b n v r) (g : ly_isRow b n v s) : s = r := by
  have hx : ∀ j, j < n → v = nI j → ¬ (v < 0 ∨ ¬ v < nI n) := by
    rintro j hj rfl (z | z)
    · exact nI_pos (by omega) z
    · exact z (nI_lt hj (by omega))
  rcases h with ⟨j, h1, h2, h3⟩ | ⟨h1, h2⟩ <;> rcases g with ⟨l, g1, g2, g3⟩ | ⟨g1, g2⟩
  · have e : j = l := (nI_eq (by omega) (by omega)).1 (h2.symm.trans g2)
    rw [g3, h3, e]
  · exact absurd g1 (hx j h1 h2)
  · exact absurd h1 (hx l g1 g2)
  · rw [g2, h2]
theorem lx_rowAt {post : Int32 → St2 → Prop} {v : Int32} (hn : n ≤ 24) (hb : ∀ j, j < n → b j < 16) (hB : ∀ j, j < n → B j = nI (b j)) (hp : ∀ r Fs Fi La Rw, ly_isRow b n v r → post r (nI K, nI C, nI n, nI m, B, Cd, Fs, Fi, La, Rw, Su, Vi, Nb, Re)) : wpX_rowAt post (nI K, nI C, nI n, nI m, B, Cd, Fs, Fi, La, Rw, Su, Vi, Nb, Re) v := by
  rcases ly_ix3 v (n := n) (by omega) with h | ⟨h, h2⟩ | ⟨j, hj, rfl⟩
  · exact br_t h (hp _ _ _ _ _ (Or.inr ⟨Or.inl h, rfl⟩))
  · exact br_f h (br_f h2 (hp _ _ _ _ _ (Or.inr ⟨Or.inr h2, rfl⟩)))
  · refine br_f (nI_pos (by omega)) (br_t (nI_lt hj (by omega)) ?_)
    refine lx_cut hn hb hB (fun Fs' Fi' La' hc => ?_)
    refine lx_order hn hb hB hc.2.1 hc.2.2 (fun Rw' hR => ?_)
    refine And.intro (ly_in (by omega)) ?_
    rw [ly_cl (by omega), lx_rowsAt hR hj]
    exact hp _ _ _ _ _ (Or.inl ⟨j, hj, rfl, rfl⟩)
end
