/-! the reference: cut, factorStart, rowAt, transform -/
section
variable {K C n m : Nat} {b : Nat → Nat} {B Cd Tm Sa Ea : Nat → Int32}
theorem ls_small_loop {post : Int32 → Prop} {s t e : Nat} (hn : n ≤ 24) (hb : ∀ j, j < n → b j < 16) (hB : ∀ j, j < n → B j = nI (b j)) (hst : s < t) (he : e ≤ n) (hp : post (ly_bit (ly_Lt b s t e))) : ∀ d i, t + i + d = e → (∀ j, j < i → b (s + j) = b (t + j)) → ∀ x4, x4 = nI i → wY_smallerThanSuffix_3 post (nI s) (nI t) (nI e) (nI K) (nI C) (nI n) (nI m) B Cd Tm Sa Ea (d + 1) x4 := by
  intro d
  induction d with
  | zero =>
    rintro i hi h1 x4 rfl
    refine pk_le e (t + i) (fun _ => ?_) (fun h => by omega) rfl (nI_add t i)
    rw [ly_bit_f (fun z => by
      obtain ⟨k, k1, k2, k3⟩ := z
      have := h1 k (by omega)
      omega)] at hp
    exact hp
  | succ d ih =>
    rintro i hi h1 x4 rfl
    have b1 := hb (s + i) (by omega)
    have b2 := hb (t + i) (by omega)
    refine pk_le e (t + i) (fun h => by omega) (fun _ => ?_) rfl (nI_add t i)
    rw [nI_add s i, nI_add t i]
    refine And.intro (ly_in (by omega)) (And.intro (ly_in (by omega)) ?_)
    rw [ly_rd hB (i := s + i) (by omega) hn, ly_rd hB (i := t + i) (by omega) hn]
    refine pk_eq (b (s + i)) (b (t + i)) (fun e1 => ?_) (fun e1 => ?_)
    · intro y ey
      exact ih (i + 1) (by omega) (lt_s h1 e1) _ (by rw [ey, nI_1])
    · refine And.intro (ly_in (by omega)) (And.intro (ly_in (by omega)) ?_)
      refine pk_le (b (t + i)) (b (s + i)) (fun l => ?_) (fun l => ?_)
      · rw [ly_bit_f (fun z => by
          obtain ⟨k, k1, k2, k3⟩ := z
          by_cases c1 : k < i
          · have := h1 k c1; omega
          · by_cases c2 : k = i
            · subst c2; omega
            · exact e1 (k2 i (by omega)))] at hp
        exact hp
      · rw [ly_bit_t (P := ly_Lt b s t e) ⟨i, by omega, h1, l⟩] at hp
        exact hp
theorem ls_small {post : Int32 → Prop} {s t e : Nat} (hn : n ≤ 24) (hb : ∀ j, j < n → b j < 16) (hB : ∀ j, j < n → B j = nI (b j)) (hst : s < t) (hte : t ≤ e) (he : e ≤ n) (hp : post (ly_bit (ly_Lt b s t e))) : wpY_smallerThanSuffix post (nI K, nI C, nI n, nI m, B, Cd, Tm, Sa, Ea) (nI s) (nI t) (nI e) :=
  ⟨_, ls_small_loop hn hb hB hst he hp (e - t) 0 (by omega) (fun i h => absurd h (Nat.not_lt_zero i)) _ rfl⟩
theorem ls_prime_loop {post : Int32 → Prop} {s e : Nat} (hn : n ≤ 24) (hb : ∀ j, j < n → b j < 16) (hB : ∀ j, j < n → B j = nI (b j)) (he : e ≤ n) (hp : post (ly_bit (ly_Pr b s e))) : ∀ d t, t + d = e → s < t → (∀ q, s < q → q < t → ly_Lt b s q e) → ∀ x3, x3 = nI t → wY_prime_4 post (nI s) (nI e) (nI K) (nI C) (nI n) (nI m) B Cd Tm Sa Ea (d + 1) x3 := by
  intro d
  induction d with
  | zero =>
    rintro t ht hst h1 x3 rfl
    obtain rfl : t = e := by omega
    refine pk_le t t (fun _ => ?_) (fun h => by omega)
    rw [ly_bit_t (P := ly_Pr b s t) h1] at hp
    exact hp
  | succ d ih =>
    rintro t ht hst h1 x3 rfl
    refine pk_le e t (fun h => by omega) (fun _ => ls_small hn hb hB hst (by omega) he ?_)
    refine ly_bit_br (fun h => ?_) (fun h => ?_)
    · intro y ey
      refine ih (t + 1) (by omega) (by omega) (fun q q1 q2 => ?_) _ (by rw [ey, nI_1])
      by_cases c : q = t
      · rw [c]; exact h
      · exact h1 q q1 (by omega)
    · rw [ly_bit_f (P := ly_Pr b s e) (fun z => h (z t hst (by omega)))] at hp
      exact hp
theorem ls_prime {post : Int32 → Prop} {s e : Nat} (hn : n ≤ 24) (hb : ∀ j, j < n → b j < 16) (hB : ∀ j, j < n → B j = nI (b j)) (hse : s < e) (he : e ≤ n) (hp : post (ly_bit (ly_Pr b s e))) : wpY_prime post (nI K, nI C, nI n, nI m, B, Cd, Tm, Sa, Ea) (nI s) (nI e) :=
  nm_r (nI_1 s) ⟨_, ls_prime_loop hn hb hB he hp (e - (s + 1)) (s + 1) (by omega) (by omega) (fun q q1 q2 => by omega) _ rfl⟩
def ly_cutY (b : Nat → Nat) (n p : Nat) (Sa Ea : Nat → Int32) : Prop := (∀ q, q < p → Sa q = nI (ly_st b n q)) ∧ (∀ q, q < p → Ea q = nI (ly_en b n q))
theorem ls_cut60 {post : SY → Prop} {J : Int32 → Int32 → (Nat → Int32) → (Nat → Int32) → (Nat → Int32) → (Nat → Int32) → (Nat → Int32) → Prop} {s : Nat} {x2 : Int32} (hn : n ≤ 24) (hs : s < n) (hss : ly_st b n s = s) (hJ : ∀ Sa Ea, ly_cutY b n (ly_en b n s) Sa Ea → J (nI (ly_en b n s)) (x2 + 1) B Cd Tm Sa Ea) : ∀ d p, p + d = ly_en b n s → s ≤ p → ∀ x4 Sa Ea, x4 = nI p → ly_cutY b n p Sa Ea → wY_cut_60 post J (nI s) x2 (nI (ly_en b n s)) (nI K) (nI C) (nI n) (nI m) (d + 1) x4 B Cd Tm Sa Ea := by
  have h0 := ly_st_in b hs
  intro d
  induction d with
  | zero =>
    rintro p hpd hsp x4 Sa Ea rfl h1
    obtain rfl : p = ly_en b n s := by omega
    exact pk_le (ly_en b n s) (ly_en b n s) (fun _ => nm_e (hJ Sa Ea h1)) (fun h => by omega)
  | succ d ih =>
    rintro p hpd hsp x4 Sa Ea rfl h1
    have e1 := ly_st_same (b := b) (n := n) (p := s) (u := p) (by omega) (by omega)
    have e2 := ly_en_same (b := b) (n := n) (p := s) (u := p) (by omega) (by omega)
    refine pk_le (ly_en b n s) p (fun h => by omega) (fun _ => And.intro (ly_in (by omega)) ?_)
    intro a ea
    refine And.intro (ly_in (by omega)) ?_
    intro a2 ea2 y ey
    refine ih (p + 1) (by omega) (by omega) _ a a2 (by rw [ey, nI_1]) ⟨lt_s (fun q hq => ?_) ?_, lt_s (fun q hq => ?_) ?_⟩
    · rw [ea, ly_un (by omega) (by omega)]; exact h1.1 q hq
    · rw [ea, ly_us (by omega) rfl, e1, hss]
    · rw [ea2, ly_un (by omega) (by omega)]; exact h1.2 q hq
    · rw [ea2, ly_us (by omega) rfl, e2]
theorem ls_cut29 {post : SY → Prop} {J : Int32 → Int32 → (Nat → Int32) → (Nat → Int32) → (Nat → Int32) → (Nat → Int32) → (Nat → Int32) → Prop} {s : Nat} {x2 : Int32} (hn : n ≤ 24) (hb : ∀ j, j < n → b j < 16) (hB : ∀ j, j < n → B j = nI (b j)) (hs : s < n) (hss : ly_st b n s = s) (h0 : ly_cutY b n s Sa Ea) (hJ : ∀ Sa Ea, ly_cutY b n (ly_en b n s) Sa Ea → J (nI (ly_en b n s)) (x2 + 1) B Cd Tm Sa Ea) : ∀ d t e, t + d = n + 1 → s < t → s < e → e ≤ n → ly_Pr b s e → (∀ l, e < l → l < t → ¬ ly_Pr b s l) → (e < t ∨ e = s + 1) → ∀ x3 x4, x3 = nI e → x4 = nI t → wY_cut_29 post J (nI s) x2 (nI K) (nI C) (nI n) (nI m) B Cd Tm Sa Ea (d + 1) x3 x4 := by
  intro d
  induction d with
  | zero =>
    rintro t e ht h1 h2 h3 h4 h5 h6 x3 x4 rfl rfl
    have hE : ly_E b n s = e := ly_E_eq ⟨h2, h3, h4, fun l l1 l2 => h5 l l1 (by omega)⟩
    have hE2 : ly_en b n s = e := by unfold ly_en; rw [hss]; exact hE
    refine pk_lt n t (fun _ => ?_) (fun h => by omega)
    have := ls_cut60 (K := K) (C := C) (m := m) (B := B) (Cd := Cd) (Tm := Tm) (post := post) (x2 := x2) hn hs hss hJ (ly_en b n s - s) s (by omega) (Nat.le_refl s) _ Sa Ea rfl h0
    rw [hE2] at this
    exact ⟨_, this⟩
  | succ d ih =>
    rintro t e ht h1 h2 h3 h4 h5 h6 x3 x4 rfl rfl
    refine pk_lt n t (fun h => by omega) (fun _ => ls_prime hn hb hB h1 (by omega) ?_)
    refine ly_bit_br (fun h => ?_) (fun h => ?_)
    · intro y ey
      exact ih (t + 1) t (by omega) (by omega) h1 (by omega) h (fun l l1 l2 => by omega) (by omega) _ _ rfl (by rw [ey, nI_1])
    · intro y ey
      refine ih (t + 1) e (by omega) (by omega) h2 h3 h4 (fun l l1 l2 => ?_) (by omega) _ _ rfl (by rw [ey, nI_1])
      by_cases c : l = t
      · rw [c]; exact h
      · exact h5 l l1 (by omega)
theorem ly_en_next {s : Nat} (hs : s < n) (h : ly_en b n s < n) : ly_st b n (ly_en b n s) = ly_en b n s := by
  have h0 := ly_st_in b hs
  obtain ⟨e, he⟩ : ∃ e, ly_en b n s = e + 1 := ⟨ly_en b n s - 1, by omega⟩
  rw [he]
  have e2 : ly_en b n e = ly_en b n s := ly_en_same (by omega) (by omega)
  exact ly_st_t (by rw [e2]; exact he.symm)
theorem ls_cut_loop {post : SY → Prop} (hn : n ≤ 24) (hb : ∀ j, j < n → b j < 16) (hB : ∀ j, j < n → B j = nI (b j)) (hp : ∀ Sa Ea, ly_cutY b n n Sa Ea → post (nI K, nI C, nI n, nI m, B, Cd, Tm, Sa, Ea)) : ∀ d f s, f + d = n → f ≤ s → s ≤ n → (s < n → ly_st b n s = s) → ∀ x1 x2 Sa Ea, x1 = nI s → x2 = nI f → ly_cutY b n s Sa Ea → wY_cut_4 post (nI K) (nI C) (nI n) (nI m) (d + 1) x1 x2 B Cd Tm Sa Ea := by
  intro d
  induction d with
  | zero =>
    rintro f s hf hfs hsn hss x1 x2 Sa Ea rfl rfl h1
    obtain rfl : s = n := by omega
    exact pk_le s f (fun _ => hp Sa Ea h1) (fun h => by omega)
  | succ d ih =>
    rintro f s hf hfs hsn hss x1 x2 Sa Ea rfl rfl h1
    refine pk_le n f (fun h => by omega) (fun _ => pk_le n s (fun h => ?_) (fun h => ?_))
    · obtain rfl : s = n := by omega
      exact hp Sa Ea h1
    · have h0 := ly_st_in b h
      refine nm_r (nI_1 s) (nm_r (nI_1 s) ⟨_, ls_cut29 hn hb hB h (hss h) h1 (fun Sa' Ea' h' => ?_) (n - s) (s + 1) (s + 1) (by omega) (by omega) (by omega) (by omega) (ly_Pr1 b s) (fun l l1 l2 => by omega) (Or.inr rfl) _ _ rfl rfl⟩)
      exact ih (f + 1) (ly_en b n s) (by omega) (by omega) h0.2.2 (ly_en_next h) _ _ Sa' Ea' rfl (nI_1 f) h'
theorem ls_cut {post : SY → Prop} (hn : n ≤ 24) (hb : ∀ j, j < n → b j < 16) (hB : ∀ j, j < n → B j = nI (b j)) (hp : ∀ Sa Ea, ly_cutY b n n Sa Ea → post (nI K, nI C, nI n, nI m, B, Cd, Tm, Sa, Ea)) : wpY_cut post (nI K, nI C, nI n, nI m, B, Cd, Tm, Sa, Ea) :=
  ⟨_, ls_cut_loop hn hb hB hp n 0 0 (by omega) (Nat.le_refl 0) (Nat.zero_le n) (fun _ => rfl) _ _ Sa Ea rfl rfl ⟨fun q h => absurd h (Nat.not_lt_zero q), fun q h => absurd h (Nat.not_lt_zero q)⟩⟩
theorem ls_fs_loop {post : Int32 → SY → Prop} {v : Int32} (hn : n ≤ 24) (hS : ∀ q, q < n → Sa q = nI (ly_st b n q)) (hp : ∀ r, ly_isFS b n v r → post r (nI K, nI C, nI n, nI m, B, Cd, Tm, Sa, Ea)) : ∀ d p, p + d = n → (∀ q, q < p → ly_st b n q = q → ¬ v = nI (ly_fc b n q)) → ∀ x2 x3, x2 = nI (ly_fc b n p) → x3 = nI p → wY_factorStart_8 post v (nI K) (nI C) (nI n) (nI m) B Cd Tm Sa Ea (d + 1) x2 x3 := by
  intro d
  induction d with
  | zero =>
    rintro p hpd h1 x2 x3 rfl rfl
    obtain rfl : p = n := by omega
    exact pk_le p p (fun _ => hp _ (Or.inr ⟨h1, rfl⟩)) (fun h => by omega)
  | succ d ih =>
    rintro p hpd h1 x2 x3 rfl rfl
    have h0 := ly_st_in b (n := n) (p := p) (by omega)
    refine pk_le n p (fun h => by omega) (fun _ => And.intro (ly_in (by omega)) ?_)
    refine pk_eq (ly_st b n p) p (fun e => ?_) (fun e => ?_) (ly_rd hS (by omega) hn) rfl
    · refine br_c (fun z => hp _ (Or.inl ⟨p, by omega, e, z.symm, rfl⟩)) (fun z => ?_)
      intro y2 e2 y3 e3
      refine ih (p + 1) (by omega) (lt_s h1 (fun _ => fun w => z w.symm)) _ _ ?_ (by rw [e3, nI_1])
      rw [e2, nI_1]
      exact ly_eq2 (ly_cnt_t (P := fun p => ly_st b n p = p) e).symm
    · intro y3 e3
      refine ih (p + 1) (by omega) (lt_s h1 (fun z => absurd z e)) _ _ ?_ (by rw [e3, nI_1])
      exact ly_eq2 (ly_cnt_f (P := fun p => ly_st b n p = p) e).symm
theorem ls_factorStart {post : Int32 → SY → Prop} {v : Int32} (hn : n ≤ 24) (hb : ∀ j, j < n → b j < 16) (hB : ∀ j, j < n → B j = nI (b j)) (hp : ∀ r Sa Ea, ly_isFS b n v r → post r (nI K, nI C, nI n, nI m, B, Cd, Tm, Sa, Ea)) : wpY_factorStart post (nI K, nI C, nI n, nI m, B, Cd, Tm, Sa, Ea) v := by
  refine ls_cut hn hb hB (fun Sa' Ea' hc => ?_)
  exact ⟨_, ls_fs_loop hn hc.1 (fun r h => hp r Sa' Ea' h) n 0 (by omega) (fun q h => absurd h (Nat.not_lt_zero q)) _ _ rfl rfl⟩
theorem ls_before_loop {post : Int32 → Prop} {p q : Nat} (hn : n ≤ 24) (hb : ∀ j, j < n → b j < 16) (hB : ∀ j, j < n → B j = nI (b j)) (hc : ly_cutY b n n Sa Ea) (hpn : p < n) (hqn : q < n) (hp : post (ly_bit (ly_bf b n p q))) : ∀ d k, k + d = 48 → (∀ i, i < k → b (ly_pos b n p i) = b (ly_pos b n q i)) → ∀ x3 x4 x5, x3 = nI (ly_pos b n p k) → x4 = nI (ly_pos b n q k) → x5 = nI k → wY_before_8 post (nI p) (nI q) (nI K) (nI C) (nI n) (nI m) B Cd Tm Sa Ea (d + 1) x3 x4 x5 := by
  intro d
  induction d with
  | zero =>
    rintro k hk he x3 x4 x5 rfl rfl rfl
    obtain rfl : k = 48 := by omega
    refine pk_le 48 48 (fun _ => ?_) (fun h => by omega)
    refine pk_le q p (fun h => ?_) (fun h => ?_)
    · rw [ly_bit_f (fun z => by
        rcases z with ⟨k, k1, k2, k3⟩ | ⟨_, l⟩
        · have := he k k1
          dsimp only at k3
          omega
        · omega)] at hp
      exact hp
    · rw [ly_bit_t (P := ly_bf b n p q) (Or.inr ⟨he, h⟩)] at hp
      exact hp
  | succ d ih =>
    rintro k hk he x3 x4 x5 rfl rfl rfl
    have hpk := ly_pos_lt b hpn k
    have hqk := ly_pos_lt b hqn k
    have b1 := hb _ hpk
    have b2 := hb _ hqk
    have sp := ly_st_in b hpn
    have sq := ly_st_in b hqn
    have np := ly_pos_nx b hpn k
    have nq := ly_pos_nx b hqn k
    refine pk_le 48 k (fun h => by omega) (fun _ => And.intro (ly_in (by omega)) (And.intro (ly_in (by omega)) ?_))
    refine pk_eq (b (ly_pos b n p k)) (b (ly_pos b n q k)) (fun e => ?_) (fun e => ?_) (ly_rd hB hpk hn) (ly_rd hB hqk hn)
    · have K2 : ∀ x3 : Int32, x3 = nI (ly_pos b n p (k + 1)) → wY_before_73 post (wY_before_8 post (nI p) (nI q) (nI K) (nI C) (nI n) (nI m) B Cd Tm Sa Ea (d + 1)) (nI p) (nI q) x3 (nI (ly_pos b n q k)) (nI k) (nI K) (nI C) (nI n) (nI m) B Cd Tm Sa Ea := by
        intro x3 e3
        refine nm_r (nI_1 _) (And.intro (ly_in (by omega)) ?_)
        refine pk_eq (ly_pos b n q k + 1) (ly_en b n q) (fun z => And.intro (ly_in (by omega)) ?_) (fun z => ?_) rfl (ly_rd hc.2 hqn hn)
        · intro y4 e4 y5 e5
          refine ih (k + 1) (by omega) (lt_s he e) _ _ _ e3 ?_ (by rw [e5, nI_1])
          rw [e4, ly_rd hc.1 hqn hn, nq, if_pos z]
        · intro y5 e5
          refine ih (k + 1) (by omega) (lt_s he e) _ _ _ e3 ?_ (by rw [e5, nI_1])
          rw [nq, if_neg z]
      refine nm_r (nI_1 _) (And.intro (ly_in (by omega)) ?_)
      refine pk_eq (ly_pos b n p k + 1) (ly_en b n p) (fun z => And.intro (ly_in (by omega)) ?_) (fun z => ?_) rfl (ly_rd hc.2 hpn hn)
      · intro y3 e3
        exact K2 _ (by rw [e3, ly_rd hc.1 hpn hn, np, if_pos z])
      · exact K2 _ (by rw [np, if_neg z])
    · refine And.intro (ly_in (by omega)) (And.intro (ly_in (by omega)) ?_)
      refine pk_le (b (ly_pos b n q k)) (b (ly_pos b n p k)) (fun l => ?_) (fun l => ?_) (ly_rd hB hqk hn) (ly_rd hB hpk hn)
      · rw [ly_bit_f (fun z => by
          rcases z with ⟨i, i1, i2, i3⟩ | ⟨i2, _⟩
          · dsimp only at i2 i3
            by_cases c : i < k
            · have := he i c; omega
            · by_cases c2 : i = k
              · subst c2; omega
              · exact e (i2 k (by omega))
          · exact e (i2 k (by omega)))] at hp
        exact hp
      · rw [ly_bit_t (P := ly_bf b n p q) (Or.inl ⟨k, by omega, he, l⟩)] at hp
        exact hp
theorem ls_before {post : Int32 → Prop} {p q : Nat} (hn : n ≤ 24) (hb : ∀ j, j < n → b j < 16) (hB : ∀ j, j < n → B j = nI (b j)) (hc : ly_cutY b n n Sa Ea) (hpn : p < n) (hqn : q < n) (hp : post (ly_bit (ly_bf b n p q))) : wpY_before post (nI K, nI C, nI n, nI m, B, Cd, Tm, Sa, Ea) (nI p) (nI q) :=
  ⟨_, ls_before_loop hn hb hB hc hpn hqn hp 48 0 rfl (fun i h => absurd h (Nat.not_lt_zero i)) _ _ _ rfl rfl rfl⟩
theorem ls_row33 {post : Int32 → SY → Prop} {J : Int32 → Prop} {p r : Nat} (hn : n ≤ 24) (hb : ∀ j, j < n → b j < 16) (hB : ∀ j, j < n → B j = nI (b j)) (hc : ly_cutY b n n Sa Ea) (hpn : p < n) (hr : r < n) (hy : ly_rk (ly_bf b n) n p = r → post (nI p) (nI K, nI C, nI n, nI m, B, Cd, Tm, Sa, Ea)) (hno : ¬ ly_rk (ly_bf b n) n p = r → J (nI p + 1)) : ∀ d j, j + d = n → ∀ x3 x4, x3 = nI (ly_cnt (fun q => ly_bf b n q p) j) → x4 = nI j → wY_rowAt_33 post J (nI r) (nI p) (nI K) (nI C) (nI n) (nI m) B Cd Tm Sa Ea (d + 1) x3 x4 := by
  have hk := ly_rk_lt (ly_bf_sto b n) hpn
  intro d
  induction d with
  | zero =>
    rintro j hj x3 x4 rfl rfl
    obtain rfl : j = n := by omega
    refine pk_le j j (fun _ => ?_) (fun h => by omega)
    exact pk_eq (ly_rk (ly_bf b j) j p) r (fun e => hy e) (fun e => nm_e (hno e))
  | succ d ih =>
    rintro j hj x3 x4 rfl rfl
    refine pk_le n j (fun h => by omega) (fun _ => ls_before hn hb hB hc (by omega) hpn ?_)
    refine ly_bit_br (fun h => ?_) (fun h => ?_)
    · intro y2 e2 y3 e3
      refine ih (j + 1) (by omega) _ _ ?_ ?_
      · rw [e2, nI_1, ly_cnt_t (P := fun q => ly_bf b n q p) h]
      · rw [e3, nI_1]
    · intro y3 e3
      refine ih (j + 1) (by omega) _ _ ?_ ?_
      · rw [ly_cnt_f (P := fun q => ly_bf b n q p) h]
      · rw [e3, nI_1]
theorem ls_row20 {post : Int32 → SY → Prop} {r : Nat} (hn : n ≤ 24) (hb : ∀ j, j < n → b j < 16) (hB : ∀ j, j < n → B j = nI (b j)) (hc : ly_cutY b n n Sa Ea) (hr : r < n) (hp : post (nI (ly_row b n r)) (nI K, nI C, nI n, nI m, B, Cd, Tm, Sa, Ea)) : ∀ d p, p + d = ly_row b n r → ∀ x2, x2 = nI p → wY_rowAt_20 post (nI r) (nI K) (nI C) (nI n) (nI m) B Cd Tm Sa Ea (d + 1) x2 := by
  have hrow := ly_row_is b hr
  intro d
  induction d with
  | zero =>
    rintro p hpd x2 rfl
    obtain rfl : p = ly_row b n r := by omega
    refine pk_le n (ly_row b n r) (fun h => by omega) (fun _ => ?_)
    exact ⟨_, ls_row33 hn hb hB hc hrow.1 hr (fun _ => hp) (fun z => absurd hrow.2 z) n 0 (by omega) _ _ rfl rfl⟩
  | succ d ih =>
    rintro p hpd x2 rfl
    have hpn : p < n := by omega
    refine pk_le n p (fun h => by omega) (fun _ => ?_)
    refine ⟨_, ls_row33 hn hb hB hc hpn hr (fun z => ?_) (fun _ => ih (p + 1) (by omega) _ (nI_1 p)) n 0 (by omega) _ _ rfl rfl⟩
    have e := ly_row_eq (b := b) hpn
    rw [z] at e
    omega
theorem ls_rowAt_in {post : Int32 → SY → Prop} {r : Nat} (hn : n ≤ 24) (hb : ∀ j, j < n → b j < 16) (hB : ∀ j, j < n → B j = nI (b j)) (hr : r < n) (hp : ∀ Sa Ea, ly_cutY b n n Sa Ea → post (nI (ly_row b n r)) (nI K, nI C, nI n, nI m, B, Cd, Tm, Sa, Ea)) : wpY_rowAt post (nI K, nI C, nI n, nI m, B, Cd, Tm, Sa, Ea) (nI r) := by
  refine br_f (nI_pos (by omega)) (br_t (nI_lt hr (by omega)) ?_)
  refine ls_cut hn hb hB (fun Sa' Ea' hc => ?_)
  exact ⟨_, ls_row20 hn hb hB hc hr (hp Sa' Ea' hc) (ly_row b n r) 0 (by omega) _ rfl⟩
theorem ls_rowAt {post : Int32 → SY → Prop} {v : Int32} (hn : n ≤ 24) (hb : ∀ j, j < n → b j < 16) (hB : ∀ j, j < n → B j = nI (b j)) (hp : ∀ r Sa Ea, ly_isRow b n v r → post r (nI K, nI C, nI n, nI m, B, Cd, Tm, Sa, Ea)) : wpY_rowAt post (nI K, nI C, nI n, nI m, B, Cd, Tm, Sa, Ea) v := by
  rcases ly_ix3 v (n := n) (by omega) with h | ⟨h, h2⟩ | ⟨j, hj, rfl⟩
  · exact br_t h (hp _ _ _ (Or.inr ⟨Or.inl h, rfl⟩))
  · exact br_f h (br_f h2 (hp _ _ _ (Or.inr ⟨Or.inr h2, rfl⟩)))
  · exact ls_rowAt_in hn hb hB hj (fun Sa' Ea' _ => hp _ _ _ (Or.inl ⟨j, hj, rfl, rfl⟩))
theorem ls_take_loop {post : SY → Prop} (hn : n ≤ 24) (hp : ∀ B, (∀ j, j < n → B j = Tm j) → post (nI K, nI C, nI n, nI m, B, Cd, Tm, Sa, Ea)) : ∀ d i, i + d = n → ∀ x1 B, x1 = nI i → (∀ j, j < i → B j = Tm j) → wY_takeTmp_2 post (nI K) (nI C) (nI n) (nI m) (d + 1) x1 B Cd Tm Sa Ea := by
  intro d
  induction d with
  | zero =>
    rintro i hi x1 B rfl hI
    obtain rfl : i = n := by omega
    exact pk_le i i (fun _ => hp B hI) (fun h => by omega)
  | succ d ih =>
    rintro i hi x1 B rfl hI
    refine pk_le n i (fun h => by omega) (fun _ => And.intro (ly_in (by omega)) (And.intro (ly_in (by omega)) ?_))
    intro a ea y ey
    refine ih (i + 1) (by omega) _ a (by rw [ey, nI_1]) (lt_s (fun q hq => ?_) ?_)
    · rw [ea, ly_un (by omega) (by omega)]; exact hI q hq
    · rw [ea, ly_us (by omega) rfl, ly_cl (by omega)]
theorem ls_take {post : SY → Prop} (hn : n ≤ 24) (hp : ∀ B, (∀ j, j < n → B j = Tm j) → post (nI K, nI C, nI n, nI m, B, Cd, Tm, Sa, Ea)) : wpY_takeTmp post (nI K, nI C, nI n, nI m, B, Cd, Tm, Sa, Ea) :=
  ⟨_, ls_take_loop hn hp n 0 (by omega) _ B rfl (fun q h => absurd h (Nat.not_lt_zero q))⟩
theorem ls_tr37 {post : Int32 → SY → Prop} {x : Int32} (hn : n ≤ 24) (hb : ∀ j, j < n → b j < 16) (hB : ∀ j, j < n → B j = nI (b j)) (hp : ∀ B Tm Sa Ea, (∀ j, j < n → B j = nI (ly_T b n j)) → post x (nI K, nI C, nI n, nI m, B, Cd, Tm, Sa, Ea)) : ∀ d r, r + d = n → ∀ x2 Tm Sa Ea, x2 = nI r → (∀ j, j < r → Tm j = nI (ly_T b n j)) → wY_transform_37 post x (d + 1) x2 (nI K) (nI C) (nI n) (nI m) B Cd Tm Sa Ea := by
  intro d
  induction d with
  | zero =>
    rintro r hr x2 Tm Sa Ea rfl h1
    obtain rfl : r = n := by omega
    refine pk_le r r (fun _ => ls_take hn (fun B' hB' => ?_)) (fun h => by omega)
    exact hp B' Tm Sa Ea (fun j hj => (hB' j hj).trans (h1 j hj))
  | succ d ih =>
    rintro r hr x2 Tm Sa Ea rfl h1
    have hrn : r < n := by omega
    have hrow := ly_row_is b hrn
    have hst := ly_st_in b hrow.1
    refine pk_le n r (fun h => by omega) (fun _ => ls_rowAt_in hn hb hB hrn (fun Sa' Ea' hc => ?_))
    refine br_f (nI_pos (by omega)) (And.intro (ly_in (by omega)) ?_)
    refine pk_le (ly_row b n r) (ly_st b n (ly_row b n r)) (fun h => And.intro (ly_in (by omega)) ?_) (fun h => ?_) rfl (ly_rd hc.1 hrow.1 hn)
    · rw [ly_rd hc.2 hrow.1 hn, ly_s1 (b := ly_en b n (ly_row b n r) - 1) (by omega)]
      refine And.intro (ly_in (by omega)) (And.intro (ly_in (by omega)) ?_)
      intro a ea y ey
      refine ih (r + 1) (by omega) _ a Sa' Ea' (by rw [ey, nI_1]) (lt_s (fun q hq => ?_) ?_)
      · rw [ea, ly_un (by omega) (by omega)]; exact h1 q hq
      · rw [ea, ly_us (by omega) rfl, ly_rd hB (by omega) hn, ly_T_at b hrn]
        unfold ly_ll
        rw [if_pos (by omega)]
    · rw [ly_s1 (b := ly_row b n r - 1) (by omega)]
      refine And.intro (ly_in (by omega)) (And.intro (ly_in (by omega)) ?_)
      intro a ea y ey
      refine ih (r + 1) (by omega) _ a Sa' Ea' (by rw [ey, nI_1]) (lt_s (fun q hq => ?_) ?_)
      · rw [ea, ly_un (by omega) (by omega)]; exact h1 q hq
      · rw [ea, ly_us (by omega) rfl, ly_rd hB (by omega) hn, ly_T_at b hrn]
        unfold ly_ll
        rw [if_neg (by omega)]
theorem ls_tr8 {post : Int32 → SY → Prop} (hn : n ≤ 24) (hb : ∀ j, j < n → b j < 16) (hB : ∀ j, j < n → B j = nI (b j)) (hS : ∀ q, q < n → Sa q = nI (ly_st b n q)) (hp : ∀ B Tm Sa Ea, (∀ j, j < n → B j = nI (ly_T b n j)) → post (nI (ly_fc b n n)) (nI K, nI C, nI n, nI m, B, Cd, Tm, Sa, Ea)) : ∀ d p, p + d = n → ∀ x1 x2, x1 = nI (ly_fc b n p) → x2 = nI p → wY_transform_8 post (nI K) (nI C) (nI n) (nI m) B Cd Tm Sa Ea (d + 1) x1 x2 := by
  intro d
  induction d with
  | zero =>
    rintro p hpd x1 x2 rfl rfl
    obtain rfl : p = n := by omega
    refine pk_le p p (fun _ => ?_) (fun h => by omega)
    exact ⟨_, ls_tr37 hn hb hB hp p 0 (by omega) _ Tm Sa Ea rfl (fun q h => absurd h (Nat.not_lt_zero q))⟩
  | succ d ih =>
    rintro p hpd x1 x2 rfl rfl
    have h0 := ly_st_in b (n := n) (p := p) (by omega)
    refine pk_le n p (fun h => by omega) (fun _ => And.intro (ly_in (by omega)) ?_)
    refine pk_eq (ly_st b n p) p (fun e => ?_) (fun e => ?_) (ly_rd hS (by omega) hn) rfl
    · intro y1 e1 y2 e2
      refine ih (p + 1) (by omega) _ _ ?_ (by rw [e2, nI_1])
      rw [e1, nI_1]
      exact ly_eq2 (ly_cnt_t (P := fun p => ly_st b n p = p) e).symm
    · intro y2 e2
      refine ih (p + 1) (by omega) _ _ ?_ (by rw [e2, nI_1])
      exact ly_eq2 (ly_cnt_f (P := fun p => ly_st b n p = p) e).symm
theorem ls_transform {post : Int32 → SY → Prop} (hn : n ≤ 24) (hb : ∀ j, j < n → b j < 16) (hB : ∀ j, j < n → B j = nI (b j)) (hp : ∀ B Tm Sa Ea, (∀ j, j < n → B j = nI (ly_T b n j)) → post (nI (ly_fc b n n)) (nI K, nI C, nI n, nI m, B, Cd, Tm, Sa, Ea)) : wpY_transform post (nI K, nI C, nI n, nI m, B, Cd, Tm, Sa, Ea) := by
  refine ls_cut hn hb hB (fun Sa' Ea' hc => ?_)
  exact ⟨_, ls_tr8 hn hb hB hc.1 hp n 0 (by omega) _ _ rfl rfl⟩
end
