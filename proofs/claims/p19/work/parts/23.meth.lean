/-! a method on any object that holds K, C, block and code: its answer and what it holds then -/
section
variable {K C n m : Nat} {b c R : Nat → Nat}
def ly_Num (K C n m : Nat) (b c : Nat → Nat) : Prop := 2 ≤ K ∧ K ≤ 16 ∧ 8 ≤ C ∧ C ≤ 24 ∧ n ≤ C ∧ m ≤ C ∧ (∀ j, j < n → b j < K) ∧ (∀ j, j < m → c j ≤ K)
def ly_XS (K C n m : Nat) (b c : Nat → Nat) (u : St2) : Prop := match u with
  | (f1, f2, f3, f4, B, Cd, _, _, _, _, _, _, _, _) => f1 = nI K ∧ f2 = nI C ∧ f3 = nI n ∧ f4 = nI m ∧ (∀ j, j < n → B j = nI (b j)) ∧ (∀ j, j < m → Cd j = nI (c j))
def lz_M (K C n m : Nat) (b c : Nat → Nat) (W : (Int32 → St2 → Prop) → St2 → Prop) : Prop := ∃ (r : Int32) (n' m' : Nat) (b' c' : Nat → Nat), ly_Num K C n' m' b' c' ∧ ∀ u, ly_XS K C n m b c u → ∀ post : Int32 → St2 → Prop, (∀ u', ly_XS K C n' m' b' c' u' → post r u') → W post u
theorem lz_put (v : Int32) (N : ly_Num K C n m b c) : lz_M K C n m b c (fun post u => wpX_put post u v) := by
  have N2 := N
  obtain ⟨K1, K2, C1, C2, hn, hm, hb, hc⟩ := N
  rcases ly_ix3 v (n := K) (by omega) with h | ⟨h, h2⟩ | ⟨s, hs, rfl⟩
  · refine ⟨-2, n, m, b, c, N2, fun u hu post hp => ?_⟩
    obtain ⟨f1, f2, f3, f4, B, Cd, Fs, Fi, La, Rw, Su, Vi, Nb, Re⟩ := u
    obtain ⟨rfl, rfl, rfl, rfl, hB, hCd⟩ := hu
    exact br_t h (hp _ ⟨rfl, rfl, rfl, rfl, hB, hCd⟩)
  · refine ⟨-2, n, m, b, c, N2, fun u hu post hp => ?_⟩
    obtain ⟨f1, f2, f3, f4, B, Cd, Fs, Fi, La, Rw, Su, Vi, Nb, Re⟩ := u
    obtain ⟨rfl, rfl, rfl, rfl, hB, hCd⟩ := hu
    exact br_f h (br_f h2 (hp _ ⟨rfl, rfl, rfl, rfl, hB, hCd⟩))
  · have a1 := nI_pos (n := s) (by omega)
    have a2 := nI_lt hs (by omega)
    by_cases d : n < C
    · refine ⟨0, n + 1, m, fun j => if j = n then s else b j, c, ⟨K1, K2, C1, C2, d, hm, fun j hj => ?_, hc⟩, fun u hu post hp => ?_⟩
      · dsimp only
        by_cases z : j = n
        · rw [if_pos z]; exact hs
        · rw [if_neg z]; exact hb j (by omega)
      · obtain ⟨f1, f2, f3, f4, B, Cd, Fs, Fi, La, Rw, Su, Vi, Nb, Re⟩ := u
        obtain ⟨rfl, rfl, rfl, rfl, hB, hCd⟩ := hu
        refine br_f a1 (br_t a2 (br_t (nI_lt d (by omega)) (lx_appSym C2 d (fun B1 e1 => hp _ ⟨rfl, rfl, rfl, rfl, fun j hj => ?_, hCd⟩))))
        dsimp only
        by_cases z : j = n
        · rw [e1, z, pk_us, if_pos rfl]
        · rw [e1, pk_un z, if_neg z]; exact hB j (by omega)
    · refine ⟨-3, n, m, b, c, N2, fun u hu post hp => ?_⟩
      obtain ⟨f1, f2, f3, f4, B, Cd, Fs, Fi, La, Rw, Su, Vi, Nb, Re⟩ := u
      obtain ⟨rfl, rfl, rfl, rfl, hB, hCd⟩ := hu
      exact br_f a1 (br_t a2 (br_f (nI_nlt (a := n) (b := C) (by omega) (by omega)) (hp _ ⟨rfl, rfl, rfl, rfl, hB, hCd⟩)))
theorem lz_putToken (v : Int32) (N : ly_Num K C n m b c) : lz_M K C n m b c (fun post u => wpX_putToken post u v) := by
  have N2 := N
  obtain ⟨K1, K2, C1, C2, hn, hm, hb, hc⟩ := N
  by_cases h : v < 0
  · refine ⟨-2, n, m, b, c, N2, fun u hu post hp => ?_⟩
    obtain ⟨f1, f2, f3, f4, B, Cd, Fs, Fi, La, Rw, Su, Vi, Nb, Re⟩ := u
    obtain ⟨rfl, rfl, rfl, rfl, hB, hCd⟩ := hu
    exact br_t h (hp _ ⟨rfl, rfl, rfl, rfl, hB, hCd⟩)
  · obtain ⟨s, hs31, rfl⟩ := nI_of h
    by_cases hs : s ≤ K
    · have a2 := nI_le hs (by omega : K < 2 ^ 31)
      by_cases d : m < C
      · refine ⟨0, n, m + 1, b, fun j => if j = m then s else c j, ⟨K1, K2, C1, C2, hn, d, hb, fun j hj => ?_⟩, fun u hu post hp => ?_⟩
        · dsimp only
          by_cases z : j = m
          · rw [if_pos z]; exact hs
          · rw [if_neg z]; exact hc j (by omega)
        · obtain ⟨f1, f2, f3, f4, B, Cd, Fs, Fi, La, Rw, Su, Vi, Nb, Re⟩ := u
          obtain ⟨rfl, rfl, rfl, rfl, hB, hCd⟩ := hu
          refine br_f h (br_t a2 (br_t (nI_lt d (by omega)) (lx_appTok C2 d (fun B1 e1 => hp _ ⟨rfl, rfl, rfl, rfl, hB, fun j hj => ?_⟩))))
          dsimp only
          by_cases z : j = m
          · rw [e1, z, pk_us, if_pos rfl]
          · rw [e1, pk_un z, if_neg z]; exact hCd j (by omega)
      · refine ⟨-3, n, m, b, c, N2, fun u hu post hp => ?_⟩
        obtain ⟨f1, f2, f3, f4, B, Cd, Fs, Fi, La, Rw, Su, Vi, Nb, Re⟩ := u
        obtain ⟨rfl, rfl, rfl, rfl, hB, hCd⟩ := hu
        exact br_f h (br_t a2 (br_f (nI_nlt (a := m) (b := C) (by omega) (by omega)) (hp _ ⟨rfl, rfl, rfl, rfl, hB, hCd⟩)))
    · refine ⟨-2, n, m, b, c, N2, fun u hu post hp => ?_⟩
      obtain ⟨f1, f2, f3, f4, B, Cd, Fs, Fi, La, Rw, Su, Vi, Nb, Re⟩ := u
      obtain ⟨rfl, rfl, rfl, rfl, hB, hCd⟩ := hu
      exact br_f h (br_f (nI_ge (a := K) (b := s) (by omega) hs31) (hp _ ⟨rfl, rfl, rfl, rfl, hB, hCd⟩))
theorem lz_clear (N : ly_Num K C n m b c) : lz_M K C n m b c (fun post u => wpX_clear (post 0) u) := by
  obtain ⟨K1, K2, C1, C2, hn, hm, hb, hc⟩ := N
  refine ⟨0, 0, m, b, c, ⟨K1, K2, C1, C2, Nat.zero_le C, hm, fun j h => absurd h (Nat.not_lt_zero j), hc⟩, fun u hu post hp => ?_⟩
  obtain ⟨f1, f2, f3, f4, B, Cd, Fs, Fi, La, Rw, Su, Vi, Nb, Re⟩ := u
  obtain ⟨rfl, rfl, rfl, rfl, hB, hCd⟩ := hu
  exact hp _ ⟨rfl, rfl, rfl, rfl, fun j h => absurd h (Nat.not_lt_zero j), hCd⟩
theorem lz_transform_s (N : ly_Num K C n m b c) : ly_Num K C n m (ly_T b n) c ∧ ∀ u, ly_XS K C n m b c u → ∀ post : Int32 → St2 → Prop, (∀ u', ly_XS K C n m (ly_T b n) c u' → post (nI (ly_fc b n n)) u') → wpX_transform post u := by
  obtain ⟨K1, K2, C1, C2, hn, hm, hb, hc⟩ := N
  refine ⟨⟨K1, K2, C1, C2, hn, hm, fun j hj => ly_T_lt hb hj, hc⟩, fun u hu post hp => ?_⟩
  obtain ⟨f1, f2, f3, f4, B, Cd, Fs, Fi, La, Rw, Su, Vi, Nb, Re⟩ := u
  obtain ⟨rfl, rfl, rfl, rfl, hB, hCd⟩ := hu
  exact lx_transform (by omega) (fun j hj => Nat.lt_of_lt_of_le (hb j hj) K2) hB (fun B1 Fs1 Fi1 La1 Rw1 Nb1 h1 => hp _ ⟨rfl, rfl, rfl, rfl, h1, hCd⟩)
theorem lz_transform (N : ly_Num K C n m b c) : lz_M K C n m b c wpX_transform :=
  ⟨_, n, m, ly_T b n, c, (lz_transform_s N).1, (lz_transform_s N).2⟩
theorem lz_invert_s (N : ly_Num K C n m b c) (hR : ly_isR b (ly_g b n) n n R) : ∀ u, ly_XS K C n m b c u → ∀ post : Int32 → St2 → Prop, (∀ u', ly_XS K C n m R c u' → post (nI (ly_cc (ly_g b n) n)) u') → wpX_invert post u := by
  obtain ⟨K1, K2, C1, C2, hn, hm, hb, hc⟩ := N
  intro u hu post hp
  obtain ⟨f1, f2, f3, f4, B, Cd, Fs, Fi, La, Rw, Su, Vi, Nb, Re⟩ := u
  obtain ⟨rfl, rfl, rfl, rfl, hB, hCd⟩ := hu
  exact lx_invert (by omega) (fun j hj => Nat.lt_of_lt_of_le (hb j hj) K2) hB hR (fun B1 Su1 Vi1 Nb1 h1 => hp _ ⟨rfl, rfl, rfl, rfl, h1, hCd⟩)
theorem lz_invert (N : ly_Num K C n m b c) : lz_M K C n m b c wpX_invert := by
  have N2 := N
  obtain ⟨K1, K2, C1, C2, hn, hm, hb, hc⟩ := N
  obtain ⟨R, hR, hRK⟩ := ly_isR_ex (ly_gp b n) (by omega : 0 < K) hb n (Nat.le_refl n)
  exact ⟨_, n, m, R, c, ⟨K1, K2, C1, C2, hn, hm, fun j _ => hRK j, hc⟩, lz_invert_s N2 hR⟩
theorem lz_front (N : ly_Num K C n m b c) : lz_M K C n m b c (fun post u => wpX_front (post 0) u) := by
  obtain ⟨K1, K2, C1, C2, hn, hm, hb, hc⟩ := N
  refine ⟨0, n, m, ly_F b K, c, ⟨K1, K2, C1, C2, hn, hm, fun j hj => ly_pl_lt (hb j hj), hc⟩, fun u hu post hp => ?_⟩
  obtain ⟨f1, f2, f3, f4, B, Cd, Fs, Fi, La, Rw, Su, Vi, Nb, Re⟩ := u
  obtain ⟨rfl, rfl, rfl, rfl, hB, hCd⟩ := hu
  exact lx_front K2 (by omega) (by omega) hb hB (fun B1 Re1 h1 => hp _ ⟨rfl, rfl, rfl, rfl, h1, hCd⟩)
theorem lz_unfront (N : ly_Num K C n m b c) : lz_M K C n m b c (fun post u => wpX_unfront (post 0) u) := by
  obtain ⟨K1, K2, C1, C2, hn, hm, hb, hc⟩ := N
  obtain ⟨D, hD⟩ := ly_isD_ex hb n (Nat.le_refl n)
  refine ⟨0, n, m, D, c, ⟨K1, K2, C1, C2, hn, hm, fun j hj => (hD j hj).1, hc⟩, fun u hu post hp => ?_⟩
  obtain ⟨f1, f2, f3, f4, B, Cd, Fs, Fi, La, Rw, Su, Vi, Nb, Re⟩ := u
  obtain ⟨rfl, rfl, rfl, rfl, hB, hCd⟩ := hu
  exact lx_unfront K2 (by omega) hb hB hD (fun B1 Re1 h1 => hp _ ⟨rfl, rfl, rfl, rfl, h1, hCd⟩)
theorem lz_pack (N : ly_Num K C n m b c) : lz_M K C n m b c wpX_pack := by
  obtain ⟨K1, K2, C1, C2, hn, hm, hb, hc⟩ := N
  have h1 := ly_M_le b n
  have h2 := ly_dl_le (ly_zr b n)
  refine ⟨nI (ly_M b n + ly_dl (ly_zr b n)), n, ly_M b n + ly_dl (ly_zr b n), b, ly_C b n, ⟨K1, K2, C1, C2, hn, by omega, hb, fun j _ => ly_C_le (by omega) hb j⟩, fun u hu post hp => ?_⟩
  obtain ⟨f1, f2, f3, f4, B, Cd, Fs, Fi, La, Rw, Su, Vi, Nb, Re⟩ := u
  obtain ⟨rfl, rfl, rfl, rfl, hB, hCd⟩ := hu
  exact lx_pack C2 hn (fun j hj => Nat.lt_of_lt_of_le (hb j hj) K2) hB (fun Cd1 h1 => hp _ ⟨rfl, rfl, rfl, rfl, hB, h1⟩)
theorem lz_unpack (N : ly_Num K C n m b c) : lz_M K C n m b c wpX_unpack := by
  have N2 := N
  obtain ⟨K1, K2, C1, C2, hn, hm, hb, hc⟩ := N
  have hc16 : ∀ j, j < m → c j ≤ 16 := fun j hj => Nat.le_trans (hc j hj) K2
  by_cases hd : ly_D c m ≤ C
  · refine ⟨nI (ly_D c m), ly_D c m, m, ly_S c m, c, ⟨K1, K2, C1, C2, hd, hm, fun j _ => ly_S_lt (by omega) hc m (Nat.le_refl m) j, hc⟩, fun u hu post hp => ?_⟩
    obtain ⟨f1, f2, f3, f4, B, Cd, Fs, Fi, La, Rw, Su, Vi, Nb, Re⟩ := u
    obtain ⟨rfl, rfl, rfl, rfl, hB, hCd⟩ := hu
    exact lx_unpack C2 hm hc16 hCd (fun _ B1 h1 => hp _ ⟨rfl, rfl, rfl, rfl, h1, hCd⟩) (fun z => by omega)
  · refine ⟨-4, n, m, b, c, N2, fun u hu post hp => ?_⟩
    obtain ⟨f1, f2, f3, f4, B, Cd, Fs, Fi, La, Rw, Su, Vi, Nb, Re⟩ := u
    obtain ⟨rfl, rfl, rfl, rfl, hB, hCd⟩ := hu
    exact lx_unpack C2 hm hc16 hCd (fun z => by omega) (fun _ => hp _ ⟨rfl, rfl, rfl, rfl, hB, hCd⟩)
/-! what only answers -/
theorem lz_length {u : St2} {post : Int32 → Prop} (hu : ly_XS K C n m b c u) (hp : post (nI n)) : wpX_length post u := by
  obtain ⟨f1, f2, f3, f4, B, Cd, Fs, Fi, La, Rw, Su, Vi, Nb, Re⟩ := u
  obtain ⟨rfl, rfl, rfl, rfl, hB, hCd⟩ := hu
  exact hp
theorem lz_codeLength {u : St2} {post : Int32 → Prop} (hu : ly_XS K C n m b c u) (hp : post (nI m)) : wpX_codeLength post u := by
  obtain ⟨f1, f2, f3, f4, B, Cd, Fs, Fi, La, Rw, Su, Vi, Nb, Re⟩ := u
  obtain ⟨rfl, rfl, rfl, rfl, hB, hCd⟩ := hu
  exact hp
theorem lz_at (hn : n ≤ 24) (v : Int32) : ∃ r : Int32, ∀ u, ly_XS K C n m b c u → ∀ post : Int32 → Prop, post r → wpX_at post u v := by
  rcases ly_ix3 v (n := n) (by omega) with h | ⟨h, h2⟩ | ⟨s, hs, rfl⟩
  · refine ⟨-1, fun u hu post hp => ?_⟩
    obtain ⟨f1, f2, f3, f4, B, Cd, Fs, Fi, La, Rw, Su, Vi, Nb, Re⟩ := u
    obtain ⟨rfl, rfl, rfl, rfl, hB, hCd⟩ := hu
    exact br_t h hp
  · refine ⟨-1, fun u hu post hp => ?_⟩
    obtain ⟨f1, f2, f3, f4, B, Cd, Fs, Fi, La, Rw, Su, Vi, Nb, Re⟩ := u
    obtain ⟨rfl, rfl, rfl, rfl, hB, hCd⟩ := hu
    exact br_f h (br_f h2 hp)
  · refine ⟨nI (b s), fun u hu post hp => ?_⟩
    obtain ⟨f1, f2, f3, f4, B, Cd, Fs, Fi, La, Rw, Su, Vi, Nb, Re⟩ := u
    obtain ⟨rfl, rfl, rfl, rfl, hB, hCd⟩ := hu
    refine br_f (nI_pos (by omega)) (br_t (nI_lt hs (by omega)) (And.intro (ly_in (by omega)) ?_))
    rw [ly_rd hB hs hn]
    exact hp
theorem lz_codeAt (hm : m ≤ 24) (v : Int32) : ∃ r : Int32, ∀ b u, ly_XS K C n m b c u → ∀ post : Int32 → Prop, post r → wpX_codeAt post u v := by
  rcases ly_ix3 v (n := m) (by omega) with h | ⟨h, h2⟩ | ⟨s, hs, rfl⟩
  · refine ⟨-1, fun b u hu post hp => ?_⟩
    obtain ⟨f1, f2, f3, f4, B, Cd, Fs, Fi, La, Rw, Su, Vi, Nb, Re⟩ := u
    obtain ⟨rfl, rfl, rfl, rfl, hB, hCd⟩ := hu
    exact br_t h hp
  · refine ⟨-1, fun b u hu post hp => ?_⟩
    obtain ⟨f1, f2, f3, f4, B, Cd, Fs, Fi, La, Rw, Su, Vi, Nb, Re⟩ := u
    obtain ⟨rfl, rfl, rfl, rfl, hB, hCd⟩ := hu
    exact br_f h (br_f h2 hp)
  · refine ⟨nI (c s), fun b u hu post hp => ?_⟩
    obtain ⟨f1, f2, f3, f4, B, Cd, Fs, Fi, La, Rw, Su, Vi, Nb, Re⟩ := u
    obtain ⟨rfl, rfl, rfl, rfl, hB, hCd⟩ := hu
    refine br_f (nI_pos (by omega)) (br_t (nI_lt hs (by omega)) (And.intro (ly_in (by omega)) ?_))
    rw [ly_rd hCd hs hm]
    exact hp
theorem lz_limit (v : Int32) : ∃ r : Int32, ∀ b u, ly_XS K C n m b c u → ∀ post : Int32 → Prop, post r → wpX_limit post u v := by
  by_cases c0 : v = 0
  · refine ⟨nI K, fun b u hu post hp => ?_⟩
    obtain ⟨f1, f2, f3, f4, B, Cd, Fs, Fi, La, Rw, Su, Vi, Nb, Re⟩ := u
    obtain ⟨rfl, rfl, rfl, rfl, hB, hCd⟩ := hu
    exact br_t c0 hp
  · by_cases c1 : v = 1
    · refine ⟨nI C, fun b u hu post hp => ?_⟩
      obtain ⟨f1, f2, f3, f4, B, Cd, Fs, Fi, La, Rw, Su, Vi, Nb, Re⟩ := u
      obtain ⟨rfl, rfl, rfl, rfl, hB, hCd⟩ := hu
      exact br_f c0 (br_t c1 hp)
    · refine ⟨-1, fun b u hu post hp => ?_⟩
      obtain ⟨f1, f2, f3, f4, B, Cd, Fs, Fi, La, Rw, Su, Vi, Nb, Re⟩ := u
      obtain ⟨rfl, rfl, rfl, rfl, hB, hCd⟩ := hu
      exact br_f c0 (br_f c1 hp)
theorem lz_isFS_ex (b : Nat → Nat) (n : Nat) (v : Int32) : ∃ r, ly_isFS b n v r := by
  by_cases h : ∃ p, p < n ∧ ly_st b n p = p ∧ v = nI (ly_fc b n p)
  · obtain ⟨p, h1, h2, h3⟩ := h
    exact ⟨nI p, Or.inl ⟨p, h1, h2, h3, rfl⟩⟩
  · exact ⟨-1, Or.inr ⟨fun p h1 h2 h3 => h ⟨p, h1, h2, h3⟩, rfl⟩⟩
theorem lz_factorStart (N : ly_Num K C n m b c) (v : Int32) : ∃ r : Int32, ∀ u, ly_XS K C n m b c u → ∀ post : Int32 → St2 → Prop, (∀ u', ly_XS K C n m b c u' → post r u') → wpX_factorStart post u v := by
  obtain ⟨K1, K2, C1, C2, hn, hm, hb, hc⟩ := N
  obtain ⟨r, hr⟩ := lz_isFS_ex b n v
  refine ⟨r, fun u hu post hp => ?_⟩
  obtain ⟨f1, f2, f3, f4, B, Cd, Fs, Fi, La, Rw, Su, Vi, Nb, Re⟩ := u
  obtain ⟨rfl, rfl, rfl, rfl, hB, hCd⟩ := hu
  refine lx_factorStart (by omega) (fun j hj => Nat.lt_of_lt_of_le (hb j hj) K2) hB (fun r' Fs1 Fi1 La1 hr' => ?_)
  rw [ly_isFS_uniq (by omega) hr hr']
  exact hp _ ⟨rfl, rfl, rfl, rfl, hB, hCd⟩
theorem lz_rowAt (N : ly_Num K C n m b c) (v : Int32) : ∃ r : Int32, ∀ u, ly_XS K C n m b c u → ∀ post : Int32 → St2 → Prop, (∀ u', ly_XS K C n m b c u' → post r u') → wpX_rowAt post u v := by
  obtain ⟨K1, K2, C1, C2, hn, hm, hb, hc⟩ := N
  obtain ⟨r, hr⟩ : ∃ r, ly_isRow b n v r := by
    rcases ly_ix3 v (n := n) (by omega) with h | ⟨h, h2⟩ | ⟨j, hj, rfl⟩
    · exact ⟨-1, Or.inr ⟨Or.inl h, rfl⟩⟩
    · exact ⟨-1, Or.inr ⟨Or.inr h2, rfl⟩⟩
    · exact ⟨_, Or.inl ⟨j, hj, rfl, rfl⟩⟩
  refine ⟨r, fun u hu post hp => ?_⟩
  obtain ⟨f1, f2, f3, f4, B, Cd, Fs, Fi, La, Rw, Su, Vi, Nb, Re⟩ := u
  obtain ⟨rfl, rfl, rfl, rfl, hB, hCd⟩ := hu
  refine lx_rowAt (by omega) (fun j hj => Nat.lt_of_lt_of_le (hb j hj) K2) hB (fun r' Fs1 Fi1 La1 Rw1 hr' => ?_)
  rw [ly_isRow_uniq (by omega) hr hr']
  exact hp _ ⟨rfl, rfl, rfl, rfl, hB, hCd⟩
/-! the two pairs -/
theorem lz_pair1 (N : ly_Num K C n m b c) : ∃ r : Int32, ∃ b1 : Nat → Nat, (∀ u, ly_XS K C n m b c u → ∀ post : Int32 → St2 → Prop, (∀ u', ly_XS K C n m b1 c u' → post r u') → wpX_transform post u) ∧ (∀ u, ly_XS K C n m b1 c u → ∀ post : Int32 → St2 → Prop, (∀ u', ly_XS K C n m b c u' → post r u') → wpX_invert post u) := by
  have hn : n ≤ 24 := by obtain ⟨K1, K2, C1, C2, hn, hm, hb, hc⟩ := N; omega
  have h1 := lz_transform_s N
  have h2 := lz_invert_s h1.1 (R := b) (ly_undo hn)
  have e : ly_cc (ly_g (ly_T b n) n) n = ly_fc b n n := ly_undo_cc hn
  rw [e] at h2
  exact ⟨_, ly_T b n, h1.2, h2⟩
theorem lz_XS_congr {b' : Nat → Nat} {u : St2} (h : ∀ j, j < n → b j = b' j) (hu : ly_XS K C n m b c u) : ly_XS K C n m b' c u := by
  obtain ⟨f1, f2, f3, f4, B, Cd, Fs, Fi, La, Rw, Su, Vi, Nb, Re⟩ := u
  obtain ⟨rfl, rfl, rfl, rfl, hB, hCd⟩ := hu
  exact ⟨rfl, rfl, rfl, rfl, fun j hj => by rw [hB j hj, h j hj], hCd⟩
theorem lz_pair2 (N : ly_Num K C n m b c) : ∃ r : Int32, ∃ b1 : Nat → Nat, (∀ u, ly_XS K C n m b c u → ∀ post : Int32 → St2 → Prop, (∀ u', ly_XS K C n m b1 c u' → post r u') → wpX_invert post u) ∧ (∀ u, ly_XS K C n m b1 c u → ∀ post : Int32 → St2 → Prop, (∀ u', ly_XS K C n m b c u' → post r u') → wpX_transform post u) := by
  obtain ⟨K1, K2, C1, C2, hn, hm, hb, hc⟩ := N
  have hn24 : n ≤ 24 := by omega
  have hcl : ∀ j, j < n → b j = (fun j => if j < n then b j else 0) j := fun j hj => (if_pos hj).symm
  obtain ⟨d, d1, d2, d3⟩ := ly_onto (b := fun j => if j < n then b j else 0) (K := K) hn24 (by omega) (fun j hj => by rw [if_pos hj]; exact hb j hj) (fun j hj => if_neg (by omega))
  have Nb : ly_Num K C n m (fun j => if j < n then b j else 0) c := ⟨K1, K2, C1, C2, hn, hm, fun j hj => by rw [← hcl j hj]; exact hb j hj, hc⟩
  have Nd : ly_Num K C n m d c := ⟨K1, K2, C1, C2, hn, hm, fun j _ => d1 j, hc⟩
  have hR := ly_undo (b := d) hn24
  have e := ly_undo_cc (b := d) hn24
  have h1 := lz_transform_s Nd
  unfold ly_gt at hR e
  rw [d3] at hR e h1
  have h2 := lz_invert_s Nb (R := d) hR
  have e2 : ly_cc (ly_g (fun j => if j < n then b j else 0) n) n = ly_fc d n n := e
  rw [e2] at h2
  exact ⟨_, d, fun u hu post hp => h2 u (lz_XS_congr hcl hu) post hp, fun u hu post hp => h1.2 u hu post (fun u' hu' => hp u' (lz_XS_congr (fun j hj => (hcl j hj).symm) hu'))⟩
end
