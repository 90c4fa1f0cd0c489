/-! the class: front and unfront -/
section
variable {K C n m : Nat} {b t R D : Nat → Nat} {B Cd Fs Fi La Rw Su Vi Nb Re : Nat → Int32}
theorem lx_reset_loop {post : St2 → Prop} (hK : K ≤ 16) (hp : ∀ Re, (∀ q, q < K → Re q = nI q) → post (nI K, nI C, nI n, nI m, B, Cd, Fs, Fi, La, Rw, Su, Vi, Nb, Re)) : ∀ d i, i + d = K → ∀ x1 Re, x1 = nI i → (∀ q, q < i → Re q = nI q) → wX_resetRecent_2 post (nI K) (nI C) (nI n) (nI m) (d + 1) x1 B Cd Fs Fi La Rw Su Vi Nb Re := by
  intro d
  induction d with
  | zero =>
    rintro i hi x1 Re rfl h1
    obtain rfl : i = K := by omega
    exact pk_le i i (fun _ => hp Re h1) (fun h => by omega)
  | succ d ih =>
    rintro i hi x1 Re rfl h1
    refine pk_le K i (fun h => by omega) (fun _ => And.intro (ly_in16 (by omega)) ?_)
    intro a ea y ey
    refine ih (i + 1) (by omega) _ a (by rw [ey, nI_1]) (lt_s (fun q hq => ?_) ?_)
    · rw [ea, ly_un (by omega) (by omega)]; exact h1 q hq
    · rw [ea]; exact ly_us (by omega) rfl
theorem lx_reset {post : St2 → Prop} (hK : K ≤ 16) (hp : ∀ Re, (∀ q, q < K → Re q = nI q) → post (nI K, nI C, nI n, nI m, B, Cd, Fs, Fi, La, Rw, Su, Vi, Nb, Re)) : wpX_resetRecent post (nI K, nI C, nI n, nI m, B, Cd, Fs, Fi, La, Rw, Su, Vi, Nb, Re) :=
  ⟨_, lx_reset_loop hK hp K 0 (by omega) _ Re rfl (fun q h => absurd h (Nat.not_lt_zero q))⟩
theorem lx_place_loop {post : Int32 → Prop} {i s : Nat} (hK : K ≤ 16) (hK1 : 1 ≤ K) (hs : s < K) (hR : ly_Rc t K i R) (hRe : ∀ q, q < K → Re q = nI (R q)) (hp : post (nI (ly_pl t K i s))) : ∀ d p, p + d = K - 1 → p ≤ ly_pl t K i s → ∀ x3, x3 = nI p → wX_placeOf_9 post (nI s) (nI (K - 1)) (nI K) (nI C) (nI n) (nI m) B Cd Fs Fi La Rw Su Vi Nb Re (d + 1) x3 := by
  have hl := ly_pl_lt (t := t) (i := i) hs
  intro d
  induction d with
  | zero =>
    rintro p hpd hle x3 rfl
    refine pk_le (K - 1) p (fun _ => ?_) (fun h => by omega)
    have e : ly_pl t K i s = K - 1 := by omega
    rw [e] at hp
    exact hp
  | succ d ih =>
    rintro p hpd hle x3 rfl
    have h1 := hR p (by omega)
    refine pk_le (K - 1) p (fun h => by omega) (fun _ => And.intro (ly_in16 (by omega)) ?_)
    rw [ly_cl (by omega), hRe p (by omega)]
    refine pk_eq (R p) s (fun e => ?_) (fun e => ?_)
    · have h2 := h1.2
      rw [e] at h2
      rw [h2] at hp
      exact hp
    · intro y ey
      refine ih (p + 1) (by omega) ?_ _ (by rw [ey, nI_1])
      by_cases c : p = ly_pl t K i s
      · have := ly_Rc_at hR hs
        rw [← c] at this
        exact absurd this e
      · omega
theorem lx_place {post : Int32 → Prop} {i s : Nat} (hK : K ≤ 16) (hK1 : 1 ≤ K) (hs : s < K) (hR : ly_Rc t K i R) (hRe : ∀ q, q < K → Re q = nI (R q)) (hp : post (nI (ly_pl t K i s))) : wpX_placeOf post (nI K, nI C, nI n, nI m, B, Cd, Fs, Fi, La, Rw, Su, Vi, Nb, Re) (nI s) :=
  nm_r (ly_s1 (b := K - 1) (by omega)) ⟨_, lx_place_loop hK hK1 hs hR hRe hp (K - 1) 0 (by omega) (by omega) _ rfl⟩
theorem lx_bring_loop {post : Int32 → St2 → Prop} {j : Nat} (hK : K ≤ 16) (hj : j < K) (hp : ∀ Re, (∀ p, p < K → Re p = nI (ly_mv R j (R j) p)) → post (nI (R j)) (nI K, nI C, nI n, nI m, B, Cd, Fs, Fi, La, Rw, Su, Vi, Nb, Re)) : ∀ k, k ≤ j → ∀ x3 Re, x3 = nI k → (∀ p, p < K → Re p = nI (if k < p ∧ p ≤ j then R (p - 1) else R p)) → wX_bringToFront_9 post (nI (R j)) (nI K) (nI C) (nI n) (nI m) (k + 1) x3 B Cd Fs Fi La Rw Su Vi Nb Re := by
  intro k
  induction k with
  | zero =>
    rintro hk x3 Re rfl h1
    refine pk_le 0 0 (fun _ => ?_) (fun h => by omega)
    intro a ea
    refine hp a (fun p hpK => ?_)
    unfold ly_mv
    by_cases c : p = 0
    · rw [ea, c, pk_us, if_pos rfl]
    · rw [ea, pk_un c, h1 p hpK, if_neg c]
      by_cases d : p ≤ j
      · rw [if_pos d, if_pos ⟨by omega, d⟩]
      · rw [if_neg d, if_neg (fun z => d z.2)]
  | succ k ih =>
    rintro hk x3 Re rfl h1
    refine pk_le (k + 1) 0 (fun h => by omega) (fun _ => ?_)
    rw [ly_s1 (b := k) rfl]
    refine And.intro (ly_in16 (by omega)) (And.intro (ly_in16 (by omega)) ?_)
    intro a ea y ey
    refine ih (by omega) _ a (by rw [ey]; exact ly_d1 rfl) (fun p hpK => ?_)
    by_cases c : p = k + 1
    · rw [ea, ly_us (by omega) c, ly_cl (by omega), h1 k (by omega), if_neg (by omega), if_pos ⟨by omega, by omega⟩, c]
      rfl
    · rw [ea, ly_un (by omega) c, h1 p hpK]
      by_cases d : k + 1 < p ∧ p ≤ j
      · rw [if_pos d, if_pos ⟨by omega, d.2⟩]
      · rw [if_neg d, if_neg (fun z => d ⟨by omega, z.2⟩)]
theorem lx_bring {post : Int32 → St2 → Prop} {j : Nat} (hK : K ≤ 16) (hj : j < K) (hRe : ∀ q, q < K → Re q = nI (R q)) (hp : ∀ Re, (∀ p, p < K → Re p = nI (ly_mv R j (R j) p)) → post (nI (R j)) (nI K, nI C, nI n, nI m, B, Cd, Fs, Fi, La, Rw, Su, Vi, Nb, Re)) : wpX_bringToFront post (nI K, nI C, nI n, nI m, B, Cd, Fs, Fi, La, Rw, Su, Vi, Nb, Re) (nI j) := by
  refine And.intro (ly_in16 (by omega)) (nm_r (e' := nI (R j)) (by rw [ly_cl (by omega)]; exact hRe j hj) ?_)
  refine ⟨_, lx_bring_loop hK hj hp j (Nat.le_refl j) _ Re rfl (fun p hpK => ?_)⟩
  rw [hRe p hpK, if_neg (by omega)]
theorem lx_bring2_loop {post : Int32 → St2 → Prop} {j : Nat} (hK : K ≤ 16) (hj : j < K) (hp : ∀ Re, (∀ p, p < K → Re p = nI (ly_mv R j (R j) p)) → post (nI (R j)) (nI K, nI C, nI n, nI m, B, Cd, Fs, Fi, La, Rw, Su, Vi, Nb, Re)) : ∀ k, k ≤ j → ∀ x3 Re, x3 = nI k → (∀ p, p < K → Re p = nI (if k < p ∧ p ≤ j then R (p - 1) else R p)) → wX_bringToFront_2_9 post (nI (R j)) (nI K) (nI C) (nI n) (nI m) (k + 1) x3 B Cd Fs Fi La Rw Su Vi Nb Re := by
  intro k
  induction k with
  | zero =>
    rintro hk x3 Re rfl h1
    refine pk_le 0 0 (fun _ => ?_) (fun h => by omega)
    intro a ea
    refine hp a (fun p hpK => ?_)
    unfold ly_mv
    by_cases c : p = 0
    · rw [ea, c, pk_us, if_pos rfl]
    · rw [ea, pk_un c, h1 p hpK, if_neg c]
      by_cases d : p ≤ j
      · rw [if_pos d, if_pos ⟨by omega, d⟩]
      · rw [if_neg d, if_neg (fun z => d z.2)]
  | succ k ih =>
    rintro hk x3 Re rfl h1
    refine pk_le (k + 1) 0 (fun h => by omega) (fun _ => ?_)
    rw [ly_s1 (b := k) rfl]
    refine And.intro (ly_in16 (by omega)) (And.intro (ly_in16 (by omega)) ?_)
    intro a ea y ey
    refine ih (by omega) _ a (by rw [ey]; exact ly_d1 rfl) (fun p hpK => ?_)
    by_cases c : p = k + 1
    · rw [ea, ly_us (by omega) c, ly_cl (by omega), h1 k (by omega), if_neg (by omega), if_pos ⟨by omega, by omega⟩, c]
      rfl
    · rw [ea, ly_un (by omega) c, h1 p hpK]
      by_cases d : k + 1 < p ∧ p ≤ j
      · rw [if_pos d, if_pos ⟨by omega, d.2⟩]
      · rw [if_neg d, if_neg (fun z => d ⟨by omega, z.2⟩)]
theorem lx_bring2 {post : Int32 → St2 → Prop} {j : Nat} (hK : K ≤ 16) (hj : j < K) (hRe : ∀ q, q < K → Re q = nI (R q)) (hp : ∀ Re, (∀ p, p < K → Re p = nI (ly_mv R j (R j) p)) → post (nI (R j)) (nI K, nI C, nI n, nI m, B, Cd, Fs, Fi, La, Rw, Su, Vi, Nb, Re)) : wpX_bringToFront_2 post (nI K, nI C, nI n, nI m, B, Cd, Fs, Fi, La, Rw, Su, Vi, Nb, Re) (nI j) := by
  refine And.intro (ly_in16 (by omega)) (nm_r (e' := nI (R j)) (by rw [ly_cl (by omega)]; exact hRe j hj) ?_)
  refine ⟨_, lx_bring2_loop hK hj hp j (Nat.le_refl j) _ Re rfl (fun p hpK => ?_)⟩
  rw [hRe p hpK, if_neg (by omega)]
theorem lx_front_loop {post : St2 → Prop} (hK : K ≤ 16) (hK1 : 1 ≤ K) (hn : n ≤ 24) (hb : ∀ j, j < n → b j < K) (hp : ∀ B Re, (∀ j, j < n → B j = nI (ly_F b K j)) → post (nI K, nI C, nI n, nI m, B, Cd, Fs, Fi, La, Rw, Su, Vi, Nb, Re)) : ∀ d i, i + d = n → ∀ x1 B Re R, x1 = nI i → ly_Rc b K i R → (∀ q, q < K → Re q = nI (R q)) → (∀ j, j < i → B j = nI (ly_F b K j)) → (∀ j, i ≤ j → j < n → B j = nI (b j)) → wX_front_6 post (d + 1) x1 (nI K) (nI C) (nI n) (nI m) B Cd Fs Fi La Rw Su Vi Nb Re := by
  intro d
  induction d with
  | zero =>
    rintro i hi x1 B Re R rfl h1 h2 h3 h4
    obtain rfl : i = n := by omega
    exact pk_le i i (fun _ => hp B Re h3) (fun h => by omega)
  | succ d ih =>
    rintro i hi x1 B Re R rfl h1 h2 h3 h4
    have hbi := hb i (by omega)
    refine pk_le n i (fun h => by omega) (fun _ => And.intro (ly_in (by omega)) ?_)
    rw [ly_cl (by omega), h4 i (Nat.le_refl i) (by omega)]
    refine lx_place hK hK1 hbi h1 h2 ?_
    refine lx_bring2 hK (ly_pl_lt hbi) h2 (fun Re' hRe' => ?_)
    rw [ly_Rc_at h1 hbi] at hRe'
    refine And.intro (ly_in (by omega)) ?_
    intro a ea y ey
    refine ih (i + 1) (by omega) _ a Re' _ (by rw [ey, nI_1]) (ly_Rc_s h1 hbi) hRe' (lt_s (fun j hj => ?_) ?_) (fun j hj hj2 => ?_)
    · rw [ea, pk_un (by omega)]; exact h3 j hj
    · rw [ea, pk_us]; rfl
    · rw [ea, pk_un (by omega)]; exact h4 j (by omega) hj2
theorem lx_front {post : St2 → Prop} (hK : K ≤ 16) (hK1 : 1 ≤ K) (hn : n ≤ 24) (hb : ∀ j, j < n → b j < K) (hB : ∀ j, j < n → B j = nI (b j)) (hp : ∀ B Re, (∀ j, j < n → B j = nI (ly_F b K j)) → post (nI K, nI C, nI n, nI m, B, Cd, Fs, Fi, La, Rw, Su, Vi, Nb, Re)) : wpX_front post (nI K, nI C, nI n, nI m, B, Cd, Fs, Fi, La, Rw, Su, Vi, Nb, Re) := by
  refine lx_reset hK (fun Re' hRe' => ?_)
  exact ⟨_, lx_front_loop hK hK1 hn hb hp n 0 (by omega) _ B Re' (fun p => p) rfl (ly_Rc_0 b K) hRe' (fun q h => absurd h (Nat.not_lt_zero q)) (fun j _ hj => hB j hj)⟩
theorem lx_unfront_loop {post : St2 → Prop} (hK : K ≤ 16) (hn : n ≤ 24) (hb : ∀ j, j < n → b j < K) (hD : ly_isD b K n D) (hp : ∀ B Re, (∀ j, j < n → B j = nI (D j)) → post (nI K, nI C, nI n, nI m, B, Cd, Fs, Fi, La, Rw, Su, Vi, Nb, Re)) : ∀ d i, i + d = n → ∀ x1 B Re R, x1 = nI i → ly_Rc D K i R → (∀ q, q < K → Re q = nI (R q)) → (∀ j, j < i → B j = nI (D j)) → (∀ j, i ≤ j → j < n → B j = nI (b j)) → wX_unfront_6 post (d + 1) x1 (nI K) (nI C) (nI n) (nI m) B Cd Fs Fi La Rw Su Vi Nb Re := by
  intro d
  induction d with
  | zero =>
    rintro i hi x1 B Re R rfl h1 h2 h3 h4
    obtain rfl : i = n := by omega
    exact pk_le i i (fun _ => hp B Re h3) (fun h => by omega)
  | succ d ih =>
    rintro i hi x1 B Re R rfl h1 h2 h3 h4
    have hbi := hb i (by omega)
    have hDi := hD i (by omega)
    have hat := ly_Rc_at h1 hDi.1
    rw [hDi.2] at hat
    refine pk_le n i (fun h => by omega) (fun _ => And.intro (ly_in (by omega)) ?_)
    rw [ly_cl (by omega), h4 i (Nat.le_refl i) (by omega)]
    refine lx_bring hK hbi h2 (fun Re' hRe' => ?_)
    rw [hat] at hRe' ⊢
    refine And.intro (ly_in (by omega)) ?_
    intro a ea y ey
    have hs := ly_Rc_s h1 hDi.1
    rw [hDi.2] at hs
    refine ih (i + 1) (by omega) _ a Re' _ (by rw [ey, nI_1]) hs hRe' (lt_s (fun j hj => ?_) ?_) (fun j hj hj2 => ?_)
    · rw [ea, pk_un (by omega)]; exact h3 j hj
    · rw [ea, pk_us]
    · rw [ea, pk_un (by omega)]; exact h4 j (by omega) hj2
theorem lx_unfront {post : St2 → Prop} (hK : K ≤ 16) (hn : n ≤ 24) (hb : ∀ j, j < n → b j < K) (hB : ∀ j, j < n → B j = nI (b j)) (hD : ly_isD b K n D) (hp : ∀ B Re, (∀ j, j < n → B j = nI (D j)) → post (nI K, nI C, nI n, nI m, B, Cd, Fs, Fi, La, Rw, Su, Vi, Nb, Re)) : wpX_unfront post (nI K, nI C, nI n, nI m, B, Cd, Fs, Fi, La, Rw, Su, Vi, Nb, Re) := by
  refine lx_reset hK (fun Re' hRe' => ?_)
  exact ⟨_, lx_unfront_loop hK hn hb hD hp n 0 (by omega) _ B Re' (fun p => p) rfl (ly_Rc_0 D K) hRe' (fun q h => absurd h (Nat.not_lt_zero q)) (fun j _ hj => hB j hj)⟩
end
