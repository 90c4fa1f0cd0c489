/-! the reference: invert -/
section
variable {K C n m : Nat} {b R : Nat → Nat} {B Cd Tm Sa Ea : Nat → Int32}
theorem ls_g_loop {post : Int32 → Prop} {i : Nat} (hn : n ≤ 24) (hb : ∀ j, j < n → b j < 16) (hB : ∀ j, j < n → B j = nI (b j)) (hi : i < n) (hp : post (nI (ly_g b n i))) : ∀ d j, j + d = n → ∀ x2 x3, x2 = nI (ly_cnt (fun q => ly_gR b q i) j) → x3 = nI j → wY_g_4 post (nI i) (nI K) (nI C) (nI n) (nI m) B Cd Tm Sa Ea (d + 1) x2 x3 := by
  intro d
  induction d with
  | zero =>
    rintro j hj x2 x3 rfl rfl
    obtain rfl : j = n := by omega
    exact pk_le j j (fun _ => hp) (fun h => by omega)
  | succ d ih =>
    rintro j hj x2 x3 rfl rfl
    have b1 := hb j (by omega)
    have b2 := hb i hi
    have yes : ly_gR b j i → ∀ y2 : Int32, y2 = nI (ly_cnt (fun q => ly_gR b q i) j) + 1 → ∀ y3 : Int32, y3 = nI j + 1 → wY_g_4 post (nI i) (nI K) (nI C) (nI n) (nI m) B Cd Tm Sa Ea (d + 1) y2 y3 := fun h y2 e2 y3 e3 => by
      refine ih (j + 1) (by omega) _ _ ?_ ?_
      · rw [e2, nI_1, ly_cnt_t (P := fun q => ly_gR b q i) h]
      · rw [e3, nI_1]
    have no : ¬ ly_gR b j i → ∀ y3 : Int32, y3 = nI j + 1 → wY_g_4 post (nI i) (nI K) (nI C) (nI n) (nI m) B Cd Tm Sa Ea (d + 1) (nI (ly_cnt (fun q => ly_gR b q i) j)) y3 := fun h y3 e3 => by
      refine ih (j + 1) (by omega) _ _ ?_ ?_
      · rw [ly_cnt_f (P := fun q => ly_gR b q i) h]
      · rw [e3, nI_1]
    refine pk_le n j (fun h => by omega) (fun _ => And.intro (ly_in (by omega)) (And.intro (ly_in (by omega)) ?_))
    refine pk_lt (b j) (b i) (fun h => yes (Or.inl h)) (fun h => ?_) (ly_rd hB (by omega) hn) (ly_rd hB hi hn)
    refine And.intro (ly_in (by omega)) (And.intro (ly_in (by omega)) ?_)
    refine pk_eq (b j) (b i) (fun e => ?_) (fun e => no (fun z => by unfold ly_gR at z; omega)) (ly_rd hB (by omega) hn) (ly_rd hB hi hn)
    exact pk_le i j (fun l => no (fun z => by unfold ly_gR at z; omega)) (fun l => yes (Or.inr ⟨e, l⟩))
theorem ls_g {post : Int32 → Prop} {i : Nat} (hn : n ≤ 24) (hb : ∀ j, j < n → b j < 16) (hB : ∀ j, j < n → B j = nI (b j)) (hi : i < n) (hp : post (nI (ly_g b n i))) : wpY_g post (nI K, nI C, nI n, nI m, B, Cd, Tm, Sa, Ea) (nI i) :=
  ⟨_, ls_g_loop hn hb hB hi hp n 0 (by omega) _ _ rfl rfl⟩
theorem ly_m1s (x : Int32) : x + (-1) = x - 1 := by rw [Int32.sub_eq_add_neg]
theorem ly_0m1 : nI 0 - 1 < 0 := by decide
theorem ls_inv86 {post : Int32 → SY → Prop} {J : Int32 → Int32 → Int32 → (Nat → Int32) → (Nat → Int32) → (Nat → Int32) → (Nat → Int32) → (Nat → Int32) → Prop} {a : Nat} {x1 : Int32} (hn : n ≤ 24) (hb : ∀ j, j < n → b j < 16) (hB : ∀ j, j < n → B j = nI (b j)) (hR : ly_isR b (ly_g b n) n n R) (ha : a < n) (hv : ¬ ly_V (ly_g b n) a a) (hJ : ∀ Tm, (∀ j, j < ly_U (ly_g b n) n a → Tm j = nI (R j)) → J (x1 + 1) (nI (ly_U (ly_g b n) n a)) (nI a - 1) B Cd Tm Sa Ea) : ∀ e k, k + e = ly_len (ly_g b n) a → ∀ x6 x7 Tm, x6 = nI (ly_it (ly_g b n) a k) → x7 = nI e - 1 → (∀ j, j < ly_U (ly_g b n) n (a + 1) → Tm j = nI (R j)) → (∀ j, ly_U (ly_g b n) n a - k ≤ j → j < ly_U (ly_g b n) n a → Tm j = nI (R j)) → wY_invert_86 post J x1 (nI (ly_U (ly_g b n) n (a + 1))) (nI a) (nI (ly_len (ly_g b n) a)) (nI K) (nI C) (nI n) (nI m) (e + 1) x6 x7 B Cd Tm Sa Ea := by
  have hU := ly_U_new (ly_gp b n) ha hv
  have hUn := ly_U_le (ly_g b n) n a
  intro e
  induction e with
  | zero =>
    rintro k hk x6 x7 Tm rfl rfl h1 h2
    refine br_t ly_0m1 ?_
    refine nm_r (ly_ad (c := ly_U (ly_g b n) n a) (by omega)) (nm_e (nm_r (ly_m1s (nI a)) (hJ Tm (fun j hj => ?_))))
    by_cases c : j < ly_U (ly_g b n) n (a + 1)
    · exact h1 j c
    · exact h2 j (by omega) hj
  | succ e ih =>
    rintro k hk x6 x7 Tm rfl rfl h1 h2
    have hl := ly_it_lt (ly_gp b n) ha k
    rw [ly_s1 (b := e) rfl]
    refine br_f (nI_pos (by omega)) (And.intro (ly_in (by omega)) ?_)
    rw [ly_ad (a := ly_U (ly_g b n) n (a + 1)) (b := e) (c := ly_U (ly_g b n) n a - 1 - k) (by omega)]
    refine And.intro (ly_in (by omega)) ?_
    intro a2 ea2
    refine ls_g hn hb hB hl ?_
    intro y7 e7
    refine ih (k + 1) (by omega) _ _ a2 rfl (by rw [e7, ly_m1s]) (fun j hj => ?_) (fun j hj hj2 => ?_)
    · rw [ea2, ly_un (by omega) (by omega)]; exact h1 j hj
    · by_cases c : j = ly_U (ly_g b n) n a - 1 - k
      · rw [ea2, ly_us (by omega) c, ly_rd hB hl hn, c, hR a ha hv k (by omega)]
      · rw [ea2, ly_un (by omega) c]
        exact h2 j (by omega) hj2
theorem ls_inv72 {post : Int32 → SY → Prop} {J : Int32 → Int32 → Int32 → (Nat → Int32) → (Nat → Int32) → (Nat → Int32) → (Nat → Int32) → (Nat → Int32) → Prop} {a : Nat} {x1 : Int32} (hn : n ≤ 24) (hb : ∀ j, j < n → b j < 16) (hB : ∀ j, j < n → B j = nI (b j)) (hR : ly_isR b (ly_g b n) n n R) (ha : a < n) (hT : ∀ j, j < ly_U (ly_g b n) n (a + 1) → Tm j = nI (R j)) (hJ : ¬ ly_V (ly_g b n) a a → ∀ Tm, (∀ j, j < ly_U (ly_g b n) n a → Tm j = nI (R j)) → J (x1 + 1) (nI (ly_U (ly_g b n) n a)) (nI a - 1) B Cd Tm Sa Ea) (hJ2 : ly_V (ly_g b n) a a → J x1 (nI (ly_U (ly_g b n) n (a + 1))) (nI a - 1) B Cd Tm Sa Ea) : wY_invert_72 post J x1 (nI (ly_U (ly_g b n) n (a + 1))) (nI a) (ly_bit (∀ k, k < ly_len (ly_g b n) a → a ≤ ly_it (ly_g b n) a k)) (nI (ly_len (ly_g b n) a)) (nI K) (nI C) (nI n) (nI m) B Cd Tm Sa Ea := by
  have hsm := ly_V_sm (ly_gp b n) ha
  refine ly_bit_br (fun h => ?_) (fun h => ?_)
  · have hv := hsm.2 h
    exact nm_e ⟨_, ls_inv86 hn hb hB hR ha hv (hJ hv) (ly_len (ly_g b n) a) 0 (by omega) _ _ Tm rfl rfl hT (fun j j1 j2 => by omega)⟩
  · have hv : ly_V (ly_g b n) a a := by
      by_cases c : ly_V (ly_g b n) a a
      · exact c
      · exact absurd (hsm.1 c) h
    exact nm_r (ly_m1s (nI a)) (hJ2 hv)
theorem ls_inv31 {post : Int32 → SY → Prop} {J : Int32 → Int32 → Int32 → (Nat → Int32) → (Nat → Int32) → (Nat → Int32) → (Nat → Int32) → (Nat → Int32) → Prop} {a : Nat} {x1 : Int32} (hn : n ≤ 24) (hb : ∀ j, j < n → b j < 16) (hB : ∀ j, j < n → B j = nI (b j)) (hR : ly_isR b (ly_g b n) n n R) (ha : a < n) (hT : ∀ j, j < ly_U (ly_g b n) n (a + 1) → Tm j = nI (R j)) (hJ : ¬ ly_V (ly_g b n) a a → ∀ Tm, (∀ j, j < ly_U (ly_g b n) n a → Tm j = nI (R j)) → J (x1 + 1) (nI (ly_U (ly_g b n) n a)) (nI a - 1) B Cd Tm Sa Ea) (hJ2 : ly_V (ly_g b n) a a → J x1 (nI (ly_U (ly_g b n) n (a + 1))) (nI a - 1) B Cd Tm Sa Ea) : ∀ d s, s + d + 1 = ly_len (ly_g b n) a → ∀ x4 x5 x6 x7, x4 = ly_bit (∀ k, k < s + 1 → a ≤ ly_it (ly_g b n) a k) → x5 = nI (s + 1) → x6 = nI (ly_it (ly_g b n) a (s + 1)) → x7 = nI s → wY_invert_31 post J x1 (nI (ly_U (ly_g b n) n (a + 1))) (nI a) (nI K) (nI C) (nI n) (nI m) B Cd Tm Sa Ea (d + 1) x4 x5 x6 x7 := by
  have hL := ly_len_le (ly_gp b n) ha
  have hend := ls_inv72 (K := K) (C := C) (m := m) (Cd := Cd) (Sa := Sa) (Ea := Ea) (post := post) hn hb hB hR ha hT hJ hJ2
  intro d
  induction d with
  | zero =>
    rintro s hs x4 x5 x6 x7 rfl rfl rfl rfl
    have e : s + 1 = ly_len (ly_g b n) a := by omega
    have hit := ly_len_it (ly_gp b n) ha
    rw [← e] at hit hend
    refine pk_le n s (fun h => by omega) (fun _ => ?_)
    rw [hit]
    exact pk_eq a a (fun _ => hend) (fun z => absurd rfl z)
  | succ d ih =>
    rintro s hs x4 x5 x6 x7 rfl rfl rfl rfl
    have hl := ly_it_lt (ly_gp b n) ha (s + 1)
    have hne : ly_it (ly_g b n) a (s + 1) ≠ a := fun z => by
      have := ly_len_min (ly_gp b n) ha (by omega) z
      omega
    have K5 : ∀ x4 : Int32, x4 = ly_bit (∀ k, k < s + 1 + 1 → a ≤ ly_it (ly_g b n) a k) → wY_invert_55 post J (wY_invert_31 post J x1 (nI (ly_U (ly_g b n) n (a + 1))) (nI a) (nI K) (nI C) (nI n) (nI m) B Cd Tm Sa Ea (d + 1)) x1 (nI (ly_U (ly_g b n) n (a + 1))) (nI a) x4 (nI (s + 1)) (nI (ly_it (ly_g b n) a (s + 1))) (nI s) (nI K) (nI C) (nI n) (nI m) B Cd Tm Sa Ea := by
      intro x4 e4
      intro y5 e5
      refine ls_g hn hb hB hl ?_
      intro y7 e7
      exact ih (s + 1) (by omega) _ _ _ _ e4 (by rw [e5, nI_1]) rfl (by rw [e7, nI_1])
    refine pk_le n s (fun h => by omega) (fun _ => pk_eq (ly_it (ly_g b n) a (s + 1)) a (fun z => absurd z hne) (fun _ => ?_))
    refine pk_le a (ly_it (ly_g b n) a (s + 1)) (fun l => K5 _ ?_) (fun l => K5 _ ?_)
    · refine congrArg ly_bit (propext ⟨fun h k hk => ?_, fun h k hk => h k (by omega)⟩)
      by_cases c : k = s + 1
      · rw [c]; exact l
      · exact h k (by omega)
    · rw [ly_bit_f (fun h => by have := h (s + 1) (by omega); omega)]
theorem ls_inv_loop {post : Int32 → SY → Prop} (hn : n ≤ 24) (hb : ∀ j, j < n → b j < 16) (hB : ∀ j, j < n → B j = nI (b j)) (hR : ly_isR b (ly_g b n) n n R) (hp : ∀ B Tm, (∀ j, j < n → B j = nI (R j)) → post (nI (ly_cc (ly_g b n) n)) (nI K, nI C, nI n, nI m, B, Cd, Tm, Sa, Ea)) : ∀ i, i ≤ n → ∀ x1 x2 x3 Tm, x1 = nI (ly_cc (ly_g b n) n - ly_cc (ly_g b n) i) → x2 = nI (ly_U (ly_g b n) n i) → x3 = nI i - 1 → (∀ j, j < ly_U (ly_g b n) n i → Tm j = nI (R j)) → wY_invert_11 post (nI K) (nI C) (nI n) (nI m) (i + 1) x1 x2 x3 B Cd Tm Sa Ea := by
  intro i
  induction i with
  | zero =>
    rintro hi x1 x2 x3 Tm rfl rfl rfl h1
    rw [ly_U_0] at h1
    refine br_t ly_0m1 (ls_take hn (fun B' hB' => ?_))
    exact hp B' Tm (fun j hj => (hB' j hj).trans (h1 j hj))
  | succ i ih =>
    rintro hi x1 x2 x3 Tm rfl rfl rfl h1
    have hin : i < n := by omega
    have hL := ly_len_pos (ly_gp b n) hin
    have hcc : ly_cc (ly_g b n) (i + 1) ≤ ly_cc (ly_g b n) n := ly_cnt_up _ (by omega)
    rw [ly_s1 (b := i) rfl]
    refine br_f (nI_pos (by omega)) (ls_g hn hb hB hin ?_)
    refine ⟨_, ls_inv31 hn hb hB hR hin h1 (fun hv Tm' h' => ?_) (fun hv => ?_) (ly_len (ly_g b n) i - 1) 0 (by omega) _ _ _ _ ?_ rfl rfl rfl⟩
    · have e : ly_cc (ly_g b n) (i + 1) = ly_cc (ly_g b n) i + 1 := ly_cnt_t (P := fun a => ¬ ly_V (ly_g b n) a a) hv
      exact ih (by omega) _ _ _ Tm' (by rw [nI_1]; exact ly_eq2 (by omega)) rfl rfl h'
    · have e : ly_cc (ly_g b n) (i + 1) = ly_cc (ly_g b n) i := ly_cnt_f (P := fun a => ¬ ly_V (ly_g b n) a a) (fun z => z hv)
      refine ih (by omega) _ _ _ Tm (ly_eq2 (by omega)) (by rw [ly_U_old hv]) rfl ?_
      rw [← ly_U_old hv]; exact h1
    · rw [ly_bit_t (fun k hk => ?_)]
      obtain rfl : k = 0 := by omega
      exact Nat.le_refl i
theorem ls_invert {post : Int32 → SY → Prop} (hn : n ≤ 24) (hb : ∀ j, j < n → b j < 16) (hB : ∀ j, j < n → B j = nI (b j)) (hR : ly_isR b (ly_g b n) n n R) (hp : ∀ B Tm, (∀ j, j < n → B j = nI (R j)) → post (nI (ly_cc (ly_g b n) n)) (nI K, nI C, nI n, nI m, B, Cd, Tm, Sa, Ea)) : wpY_invert post (nI K, nI C, nI n, nI m, B, Cd, Tm, Sa, Ea) := by
  refine nm_e ⟨_, ls_inv_loop hn hb hB hR hp n (Nat.le_refl n) _ _ _ Tm ?_ ?_ rfl (fun j hj => ?_)⟩
  · rw [Nat.sub_self]; rfl
  · rw [ly_U_n]; rfl
  · rw [ly_U_n] at hj; exact absurd hj (Nat.not_lt_zero j)
end
