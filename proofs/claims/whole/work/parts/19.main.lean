/-! the relation, and what is owed -/
section
/-- both sides hold the same K, C, block and code -/
def ly_Num (K C n m : Nat) (b c : Nat → Nat) : Prop := 2 ≤ K ∧ K ≤ 16 ∧ 8 ≤ C ∧ C ≤ 24 ∧ n ≤ C ∧ m ≤ C ∧ (∀ j, j < n → b j < K) ∧ (∀ j, j < m → c j ≤ K)
def ly_XS (K C n m : Nat) (b c : Nat → Nat) (u : SX) : Prop := match u with
  | (f1, f2, f3, f4, B, Cd, _, _, _, _, _, _, _, _) => f1 = nI K ∧ f2 = nI C ∧ f3 = nI n ∧ f4 = nI m ∧ (∀ j, j < n → B j = nI (b j)) ∧ (∀ j, j < m → Cd j = nI (c j))
def ly_YS (K C n m : Nat) (b c : Nat → Nat) (v : SY) : Prop := match v with
  | (f1, f2, f3, f4, B, Cd, _, _, _) => f1 = nI K ∧ f2 = nI C ∧ f3 = nI n ∧ f4 = nI m ∧ (∀ j, j < n → B j = nI (b j)) ∧ (∀ j, j < m → Cd j = nI (c j))
def i_Rel (k : Nat) (u : SX) (v : SY) : Prop := ∃ (K C n m : Nat) (b c : Nat → Nat), ly_Num K C n m b c ∧ ly_XS K C n m b c u ∧ ly_YS K C n m b c v
theorem i_up {k : Nat} {u : SX} {v : SY} (h : i_Rel k u v) : i_Rel (k + 2) u v := h
theorem ly_clampX (x : Int32) (lo hi : Nat) (h : lo ≤ hi) (hh : hi < 2 ^ 31) : ∃ q : Nat, lo ≤ q ∧ q ≤ hi ∧ (∀ post : Int32 → Prop, post (nI q) → (nI lo ≤ x → ((x ≤ nI hi → post x) ∧ (¬ x ≤ nI hi → post (nI hi)))) ∧ (¬ nI lo ≤ x → post (nI lo))) := by
  by_cases c1 : nI lo ≤ x
  · obtain ⟨j, hj, rfl⟩ := nI_of (x := x) (fun z => by
      have h2 := Int32.le_iff_toInt_le.1 c1
      have h3 := Int32.lt_iff_toInt_lt.1 z
      rw [nI_toInt (by omega)] at h2
      have h4 : (0 : Int32).toInt = 0 := by decide
      omega)
    rw [nI_leI (by omega) hj] at c1
    by_cases c2 : j ≤ hi
    · exact ⟨j, c1, c2, fun post hp => ⟨fun _ => ⟨fun _ => hp, fun z => absurd (nI_le c2 hh) z⟩, fun z => absurd (nI_le c1 hj) z⟩⟩
    · exact ⟨hi, h, Nat.le_refl hi, fun post hp => ⟨fun _ => ⟨fun z => absurd z (nI_ge (by omega) hj), fun _ => hp⟩, fun z => absurd (nI_le c1 hj) z⟩⟩
  · exact ⟨lo, Nat.le_refl lo, h, fun post hp => ⟨fun z => absurd z c1, fun _ => hp⟩⟩
theorem i_vc0 (k0 : Int32) (k1 : Int32) : wpX_init (fun u => wpY_init (fun v => i_Rel 2 u v) k0 k1) k0 k1 := by
  obtain ⟨K, K1, K2, HK⟩ := ly_clampX k0 2 16 (by decide) (by decide)
  obtain ⟨C, C1, C2, HC⟩ := ly_clampX k1 8 24 (by decide) (by decide)
  have XK : ∀ post : Int32 → Prop, post (nI K) → wpX_clamp post k0 2 16 := fun post hp => HK post hp
  have XC : ∀ post : Int32 → Prop, post (nI C) → wpX_clamp post k1 8 24 := fun post hp => HC post hp
  unfold wpX_init
  refine XK _ ?_
  refine XC _ ?_
  have fin : ∀ z0 x : Int32, z0 = nI K → x = nI C → i_Rel 2 (nI K, nI C, 0, 0, (fun _ => 0), (fun _ => 0), (fun _ => 0), (fun _ => 0), (fun _ => 0), (fun _ => 0), (fun _ => 0), (fun _ => 0), (fun _ => 0), (fun _ => 0)) (z0, x, 0, 0, (fun _ => 0), (fun _ => 0), (fun _ => 0), (fun _ => 0), (fun _ => 0)) := by
    rintro z0 x rfl rfl
    exact ⟨K, C, 0, 0, fun _ => 0, fun _ => 0, ⟨K1, K2, C1, C2, Nat.zero_le C, Nat.zero_le C, fun j h => absurd h (Nat.not_lt_zero j), fun j h => absurd h (Nat.not_lt_zero j)⟩, ⟨rfl, rfl, rfl, rfl, fun j h => absurd h (Nat.not_lt_zero j), fun j h => absurd h (Nat.not_lt_zero j)⟩, ⟨rfl, rfl, rfl, rfl, fun j h => absurd h (Nat.not_lt_zero j), fun j h => absurd h (Nat.not_lt_zero j)⟩⟩
  have S2 : ∀ z0 : Int32, z0 = nI K → wY_init_76 (fun v => i_Rel 2 (nI K, nI C, 0, 0, (fun _ => 0), (fun _ => 0), (fun _ => 0), (fun _ => 0), (fun _ => 0), (fun _ => 0), (fun _ => 0), (fun _ => 0), (fun _ => 0), (fun _ => 0)) v) k1 z0 0 0 0 0 (fun _ => 0) (fun _ => 0) (fun _ => 0) (fun _ => 0) (fun _ => 0) := fun z0 ez => HC (fun x => i_Rel 2 (nI K, nI C, 0, 0, (fun _ => 0), (fun _ => 0), (fun _ => 0), (fun _ => 0), (fun _ => 0), (fun _ => 0), (fun _ => 0), (fun _ => 0), (fun _ => 0), (fun _ => 0)) (z0, x, 0, 0, (fun _ => 0), (fun _ => 0), (fun _ => 0), (fun _ => 0), (fun _ => 0))) (fin z0 _ ez rfl)
  exact HK (fun z0 => wY_init_76 (fun v => i_Rel 2 (nI K, nI C, 0, 0, (fun _ => 0), (fun _ => 0), (fun _ => 0), (fun _ => 0), (fun _ => 0), (fun _ => 0), (fun _ => 0), (fun _ => 0), (fun _ => 0), (fun _ => 0)) v) k1 z0 0 0 0 0 (fun _ => 0) (fun _ => 0) (fun _ => 0) (fun _ => 0) (fun _ => 0)) (S2 _ rfl)
theorem i_vc_limit {k : Nat} {u : SX} {v : SY} (I : i_Rel k u v) (hk : k + 2 ≤ 1026) (v1 : Int32) : wpX_limit (fun r => wpY_limit (fun r' => r' = r ∧ i_Rel (k + 2) u v) v v1) u v1 := by
  have I2 := I
  obtain ⟨f1, f2, f3, f4, B, Cd, Fs, Fi, La, Rw, Su, Vi, Nb, Re⟩ := u
  obtain ⟨g1, g2, g3, g4, B', Cd', Tm, Sa, Ea⟩ := v
  obtain ⟨K, C, n, m, b, c, N, ⟨rfl, rfl, rfl, rfl, hB, hCd⟩, ⟨rfl, rfl, rfl, rfl, hB', hCd'⟩⟩ := I
  by_cases c0 : v1 = 0
  · exact br_t c0 (br_t c0 ⟨rfl, I2⟩)
  · by_cases c1 : v1 = 1
    · exact br_f c0 (br_t c1 (br_f c0 (br_t c1 ⟨rfl, I2⟩)))
    · exact br_f c0 (br_f c1 (br_f c0 (br_f c1 ⟨rfl, I2⟩)))
theorem i_vc_put {k : Nat} {u : SX} {v : SY} (I : i_Rel k u v) (hk : k + 2 ≤ 1026) (v1 : Int32) : wpX_put (fun r u' => wpY_put (fun r' v' => r' = r ∧ i_Rel (k + 2) u' v') v v1) u v1 := by
  have I2 := I
  obtain ⟨f1, f2, f3, f4, B, Cd, Fs, Fi, La, Rw, Su, Vi, Nb, Re⟩ := u
  obtain ⟨g1, g2, g3, g4, B', Cd', Tm, Sa, Ea⟩ := v
  obtain ⟨K, C, n, m, b, c, ⟨K1, K2, C1, C2, hn, hm, hb, hc⟩, ⟨rfl, rfl, rfl, rfl, hB, hCd⟩, ⟨rfl, rfl, rfl, rfl, hB', hCd'⟩⟩ := I
  rcases ly_ix3 v1 (n := K) (by omega) with h | ⟨h, h2⟩ | ⟨s, hs, rfl⟩
  · exact br_t h (br_t h ⟨rfl, I2⟩)
  · exact br_f h (br_f h2 (br_f h (br_f h2 ⟨rfl, I2⟩)))
  · have a1 := nI_pos (n := s) (by omega)
    have a2 := nI_lt hs (by omega)
    by_cases d : n < C
    · have a3 := nI_lt d (by omega)
      refine br_f a1 (br_t a2 (br_t a3 (lx_appSym C2 d (fun B1 e1 => br_f a1 (br_t a2 (br_t a3 (And.intro (ly_in (by omega)) ?_)))))))
      intro B2 e2 y ey
      refine ⟨rfl, K, C, n + 1, m, fun j => if j = n then s else b j, c, ⟨K1, K2, C1, C2, d, hm, fun j hj => ?_, hc⟩, ⟨rfl, rfl, rfl, rfl, fun j hj => ?_, hCd⟩, ⟨rfl, rfl, by rw [ey, nI_1], rfl, fun j hj => ?_, hCd'⟩⟩
      · dsimp only
        by_cases z : j = n
        · rw [if_pos z]; exact hs
        · rw [if_neg z]; exact hb j (by omega)
      · dsimp only
        by_cases z : j = n
        · rw [e1, z, pk_us, if_pos rfl]
        · rw [e1, pk_un z, if_neg z]; exact hB j (by omega)
      · dsimp only
        by_cases z : j = n
        · rw [e2, ly_us (by omega) z, if_pos z]
        · rw [e2, ly_un (by omega) z, if_neg z]; exact hB' j (by omega)
    · have a3 := nI_nlt (a := n) (b := C) (by omega) (by omega)
      exact br_f a1 (br_t a2 (br_f a3 (br_f a1 (br_t a2 (br_f a3 ⟨rfl, I2⟩)))))
theorem i_vc_clear {k : Nat} {u : SX} {v : SY} (I : i_Rel k u v) (hk : k + 2 ≤ 1026) : wpX_clear (fun u' => wpY_clear (fun v' => i_Rel (k + 2) u' v') v) u := by
  obtain ⟨f1, f2, f3, f4, B, Cd, Fs, Fi, La, Rw, Su, Vi, Nb, Re⟩ := u
  obtain ⟨g1, g2, g3, g4, B', Cd', Tm, Sa, Ea⟩ := v
  obtain ⟨K, C, n, m, b, c, ⟨K1, K2, C1, C2, hn, hm, hb, hc⟩, ⟨rfl, rfl, rfl, rfl, hB, hCd⟩, ⟨rfl, rfl, rfl, rfl, hB', hCd'⟩⟩ := I
  exact ⟨K, C, 0, m, b, c, ⟨K1, K2, C1, C2, Nat.zero_le C, hm, fun j h => absurd h (Nat.not_lt_zero j), hc⟩, ⟨rfl, rfl, rfl, rfl, fun j h => absurd h (Nat.not_lt_zero j), hCd⟩, ⟨rfl, rfl, rfl, rfl, fun j h => absurd h (Nat.not_lt_zero j), hCd'⟩⟩
theorem i_vc_length {k : Nat} {u : SX} {v : SY} (I : i_Rel k u v) (hk : k + 2 ≤ 1026) : wpX_length (fun r => wpY_length (fun r' => r' = r ∧ i_Rel (k + 2) u v) v) u := by
  have I2 := I
  obtain ⟨f1, f2, f3, f4, B, Cd, Fs, Fi, La, Rw, Su, Vi, Nb, Re⟩ := u
  obtain ⟨g1, g2, g3, g4, B', Cd', Tm, Sa, Ea⟩ := v
  obtain ⟨K, C, n, m, b, c, N, ⟨rfl, rfl, rfl, rfl, hB, hCd⟩, ⟨rfl, rfl, rfl, rfl, hB', hCd'⟩⟩ := I
  exact ⟨rfl, I2⟩
theorem i_vc_at {k : Nat} {u : SX} {v : SY} (I : i_Rel k u v) (hk : k + 2 ≤ 1026) (v1 : Int32) : wpX_at (fun r => wpY_at (fun r' => r' = r ∧ i_Rel (k + 2) u v) v v1) u v1 := by
  have I2 := I
  obtain ⟨f1, f2, f3, f4, B, Cd, Fs, Fi, La, Rw, Su, Vi, Nb, Re⟩ := u
  obtain ⟨g1, g2, g3, g4, B', Cd', Tm, Sa, Ea⟩ := v
  obtain ⟨K, C, n, m, b, c, ⟨K1, K2, C1, C2, hn, hm, hb, hc⟩, ⟨rfl, rfl, rfl, rfl, hB, hCd⟩, ⟨rfl, rfl, rfl, rfl, hB', hCd'⟩⟩ := I
  rcases ly_ix3 v1 (n := n) (by omega) with h | ⟨h, h2⟩ | ⟨s, hs, rfl⟩
  · exact br_t h (br_t h ⟨rfl, I2⟩)
  · exact br_f h (br_f h2 (br_f h (br_f h2 ⟨rfl, I2⟩)))
  · have a1 := nI_pos (n := s) (by omega)
    have a2 := nI_lt hs (by omega)
    refine br_f a1 (br_t a2 (And.intro (ly_in (by omega)) (br_f a1 (br_t a2 (And.intro (ly_in (by omega)) ⟨?_, I2⟩)))))
    rw [ly_rd hB hs (by omega), ly_rd hB' hs (by omega)]
theorem i_vc_factorStart {k : Nat} {u : SX} {v : SY} (I : i_Rel k u v) (hk : k + 2 ≤ 1026) (v1 : Int32) : wpX_factorStart (fun r u' => wpY_factorStart (fun r' v' => r' = r ∧ i_Rel (k + 2) u' v') v v1) u v1 := by
  obtain ⟨f1, f2, f3, f4, B, Cd, Fs, Fi, La, Rw, Su, Vi, Nb, Re⟩ := u
  obtain ⟨g1, g2, g3, g4, B', Cd', Tm, Sa, Ea⟩ := v
  obtain ⟨K, C, n, m, b, c, ⟨K1, K2, C1, C2, hn, hm, hb, hc⟩, ⟨rfl, rfl, rfl, rfl, hB, hCd⟩, ⟨rfl, rfl, rfl, rfl, hB', hCd'⟩⟩ := I
  have hb16 : ∀ j, j < n → b j < 16 := fun j hj => Nat.lt_of_lt_of_le (hb j hj) K2
  refine lx_factorStart (by omega) hb16 hB (fun r Fs1 Fi1 La1 hr => ls_factorStart (by omega) hb16 hB' (fun r' Sa1 Ea1 hr' => ?_))
  exact ⟨ly_isFS_uniq (by omega) hr hr', K, C, n, m, b, c, ⟨K1, K2, C1, C2, hn, hm, hb, hc⟩, ⟨rfl, rfl, rfl, rfl, hB, hCd⟩, ⟨rfl, rfl, rfl, rfl, hB', hCd'⟩⟩
theorem i_vc_rowAt {k : Nat} {u : SX} {v : SY} (I : i_Rel k u v) (hk : k + 2 ≤ 1026) (v1 : Int32) : wpX_rowAt (fun r u' => wpY_rowAt (fun r' v' => r' = r ∧ i_Rel (k + 2) u' v') v v1) u v1 := by
  obtain ⟨f1, f2, f3, f4, B, Cd, Fs, Fi, La, Rw, Su, Vi, Nb, Re⟩ := u
  obtain ⟨g1, g2, g3, g4, B', Cd', Tm, Sa, Ea⟩ := v
  obtain ⟨K, C, n, m, b, c, ⟨K1, K2, C1, C2, hn, hm, hb, hc⟩, ⟨rfl, rfl, rfl, rfl, hB, hCd⟩, ⟨rfl, rfl, rfl, rfl, hB', hCd'⟩⟩ := I
  have hb16 : ∀ j, j < n → b j < 16 := fun j hj => Nat.lt_of_lt_of_le (hb j hj) K2
  refine lx_rowAt (by omega) hb16 hB (fun r Fs1 Fi1 La1 Rw1 hr => ls_rowAt (by omega) hb16 hB' (fun r' Sa1 Ea1 hr' => ?_))
  exact ⟨ly_isRow_uniq (by omega) hr hr', K, C, n, m, b, c, ⟨K1, K2, C1, C2, hn, hm, hb, hc⟩, ⟨rfl, rfl, rfl, rfl, hB, hCd⟩, ⟨rfl, rfl, rfl, rfl, hB', hCd'⟩⟩
theorem i_vc_transform {k : Nat} {u : SX} {v : SY} (I : i_Rel k u v) (hk : k + 2 ≤ 1026) : wpX_transform (fun r u' => wpY_transform (fun r' v' => r' = r ∧ i_Rel (k + 2) u' v') v) u := by
  obtain ⟨f1, f2, f3, f4, B, Cd, Fs, Fi, La, Rw, Su, Vi, Nb, Re⟩ := u
  obtain ⟨g1, g2, g3, g4, B', Cd', Tm, Sa, Ea⟩ := v
  obtain ⟨K, C, n, m, b, c, ⟨K1, K2, C1, C2, hn, hm, hb, hc⟩, ⟨rfl, rfl, rfl, rfl, hB, hCd⟩, ⟨rfl, rfl, rfl, rfl, hB', hCd'⟩⟩ := I
  have hb16 : ∀ j, j < n → b j < 16 := fun j hj => Nat.lt_of_lt_of_le (hb j hj) K2
  refine lx_transform (by omega) hb16 hB (fun B1 Fs1 Fi1 La1 Rw1 Nb1 h1 => ls_transform (by omega) hb16 hB' (fun B2 Tm2 Sa2 Ea2 h2 => ?_))
  exact ⟨rfl, K, C, n, m, ly_T b n, c, ⟨K1, K2, C1, C2, hn, hm, fun j hj => ly_T_lt hb hj, hc⟩, ⟨rfl, rfl, rfl, rfl, h1, hCd⟩, ⟨rfl, rfl, rfl, rfl, h2, hCd'⟩⟩
theorem i_vc_invert {k : Nat} {u : SX} {v : SY} (I : i_Rel k u v) (hk : k + 2 ≤ 1026) : wpX_invert (fun r u' => wpY_invert (fun r' v' => r' = r ∧ i_Rel (k + 2) u' v') v) u := by
  obtain ⟨f1, f2, f3, f4, B, Cd, Fs, Fi, La, Rw, Su, Vi, Nb, Re⟩ := u
  obtain ⟨g1, g2, g3, g4, B', Cd', Tm, Sa, Ea⟩ := v
  obtain ⟨K, C, n, m, b, c, ⟨K1, K2, C1, C2, hn, hm, hb, hc⟩, ⟨rfl, rfl, rfl, rfl, hB, hCd⟩, ⟨rfl, rfl, rfl, rfl, hB', hCd'⟩⟩ := I
  have hb16 : ∀ j, j < n → b j < 16 := fun j hj => Nat.lt_of_lt_of_le (hb j hj) K2
  obtain ⟨R, hR, hRK⟩ := ly_isR_ex (ly_gp b n) (by omega : 0 < K) hb n (Nat.le_refl n)
  refine lx_invert (by omega) hb16 hB hR (fun B1 Su1 Vi1 Nb1 h1 => ls_invert (by omega) hb16 hB' hR (fun B2 Tm2 h2 => ?_))
  exact ⟨rfl, K, C, n, m, R, c, ⟨K1, K2, C1, C2, hn, hm, fun j _ => hRK j, hc⟩, ⟨rfl, rfl, rfl, rfl, h1, hCd⟩, ⟨rfl, rfl, rfl, rfl, h2, hCd'⟩⟩
theorem i_vc_front {k : Nat} {u : SX} {v : SY} (I : i_Rel k u v) (hk : k + 2 ≤ 1026) : wpX_front (fun u' => wpY_front (fun v' => i_Rel (k + 2) u' v') v) u := by
  obtain ⟨f1, f2, f3, f4, B, Cd, Fs, Fi, La, Rw, Su, Vi, Nb, Re⟩ := u
  obtain ⟨g1, g2, g3, g4, B', Cd', Tm, Sa, Ea⟩ := v
  obtain ⟨K, C, n, m, b, c, ⟨K1, K2, C1, C2, hn, hm, hb, hc⟩, ⟨rfl, rfl, rfl, rfl, hB, hCd⟩, ⟨rfl, rfl, rfl, rfl, hB', hCd'⟩⟩ := I
  refine lx_front K2 (by omega) (by omega) hb hB (fun B1 Re1 h1 => ls_front K2 (by omega) hb hB' (fun B2 Tm2 h2 => ?_))
  exact ⟨K, C, n, m, ly_F b K, c, ⟨K1, K2, C1, C2, hn, hm, fun j hj => ly_pl_lt (hb j hj), hc⟩, ⟨rfl, rfl, rfl, rfl, h1, hCd⟩, ⟨rfl, rfl, rfl, rfl, h2, hCd'⟩⟩
theorem i_vc_unfront {k : Nat} {u : SX} {v : SY} (I : i_Rel k u v) (hk : k + 2 ≤ 1026) : wpX_unfront (fun u' => wpY_unfront (fun v' => i_Rel (k + 2) u' v') v) u := by
  obtain ⟨f1, f2, f3, f4, B, Cd, Fs, Fi, La, Rw, Su, Vi, Nb, Re⟩ := u
  obtain ⟨g1, g2, g3, g4, B', Cd', Tm, Sa, Ea⟩ := v
  obtain ⟨K, C, n, m, b, c, ⟨K1, K2, C1, C2, hn, hm, hb, hc⟩, ⟨rfl, rfl, rfl, rfl, hB, hCd⟩, ⟨rfl, rfl, rfl, rfl, hB', hCd'⟩⟩ := I
  obtain ⟨D, hD⟩ := ly_isD_ex hb n (Nat.le_refl n)
  refine lx_unfront K2 (by omega) hb hB hD (fun B1 Re1 h1 => ls_unfront K2 (by omega) hb hB' hD (fun B2 Tm2 h2 => ?_))
  exact ⟨K, C, n, m, D, c, ⟨K1, K2, C1, C2, hn, hm, fun j hj => (hD j hj).1, hc⟩, ⟨rfl, rfl, rfl, rfl, h1, hCd⟩, ⟨rfl, rfl, rfl, rfl, h2, hCd'⟩⟩
theorem i_vc_pack {k : Nat} {u : SX} {v : SY} (I : i_Rel k u v) (hk : k + 2 ≤ 1026) : wpX_pack (fun r u' => wpY_pack (fun r' v' => r' = r ∧ i_Rel (k + 2) u' v') v) u := by
  obtain ⟨f1, f2, f3, f4, B, Cd, Fs, Fi, La, Rw, Su, Vi, Nb, Re⟩ := u
  obtain ⟨g1, g2, g3, g4, B', Cd', Tm, Sa, Ea⟩ := v
  obtain ⟨K, C, n, m, b, c, ⟨K1, K2, C1, C2, hn, hm, hb, hc⟩, ⟨rfl, rfl, rfl, rfl, hB, hCd⟩, ⟨rfl, rfl, rfl, rfl, hB', hCd'⟩⟩ := I
  have hb16 : ∀ j, j < n → b j < 16 := fun j hj => Nat.lt_of_lt_of_le (hb j hj) K2
  have h1 := ly_M_le b n
  have h2 := ly_dl_le (ly_zr b n)
  refine lx_pack C2 hn hb16 hB (fun Cd1 h1 => ls_pack (by omega) hb16 hB' (fun Cd2 h2 => ?_))
  exact ⟨rfl, K, C, n, ly_M b n + ly_dl (ly_zr b n), b, ly_C b n, ⟨K1, K2, C1, C2, hn, by omega, hb, fun j _ => ly_C_le (by omega) hb j⟩, ⟨rfl, rfl, rfl, rfl, hB, h1⟩, ⟨rfl, rfl, rfl, rfl, hB', h2⟩⟩
theorem i_vc_unpack {k : Nat} {u : SX} {v : SY} (I : i_Rel k u v) (hk : k + 2 ≤ 1026) : wpX_unpack (fun r u' => wpY_unpack (fun r' v' => r' = r ∧ i_Rel (k + 2) u' v') v) u := by
  have I2 := I
  obtain ⟨f1, f2, f3, f4, B, Cd, Fs, Fi, La, Rw, Su, Vi, Nb, Re⟩ := u
  obtain ⟨g1, g2, g3, g4, B', Cd', Tm, Sa, Ea⟩ := v
  obtain ⟨K, C, n, m, b, c, ⟨K1, K2, C1, C2, hn, hm, hb, hc⟩, ⟨rfl, rfl, rfl, rfl, hB, hCd⟩, ⟨rfl, rfl, rfl, rfl, hB', hCd'⟩⟩ := I
  have hc16 : ∀ j, j < m → c j ≤ 16 := fun j hj => Nat.le_trans (hc j hj) K2
  refine lx_unpack C2 hm hc16 hCd (fun hd B1 h1 => ls_unpack C2 hm hc16 hCd' (fun _ B2 h2 => ?_) (fun z => by omega)) (fun hd => ls_unpack C2 hm hc16 hCd' (fun z => by omega) (fun _ => ⟨rfl, I2⟩))
  exact ⟨rfl, K, C, ly_D c m, m, ly_S c m, c, ⟨K1, K2, C1, C2, hd, hm, fun j _ => ly_S_lt (by omega) hc m (Nat.le_refl m) j, hc⟩, ⟨rfl, rfl, rfl, rfl, h1, hCd⟩, ⟨rfl, rfl, rfl, rfl, h2, hCd'⟩⟩
theorem i_vc_putToken {k : Nat} {u : SX} {v : SY} (I : i_Rel k u v) (hk : k + 2 ≤ 1026) (v1 : Int32) : wpX_putToken (fun r u' => wpY_putToken (fun r' v' => r' = r ∧ i_Rel (k + 2) u' v') v v1) u v1 := by
  have I2 := I
  obtain ⟨f1, f2, f3, f4, B, Cd, Fs, Fi, La, Rw, Su, Vi, Nb, Re⟩ := u
  obtain ⟨g1, g2, g3, g4, B', Cd', Tm, Sa, Ea⟩ := v
  obtain ⟨K, C, n, m, b, c, ⟨K1, K2, C1, C2, hn, hm, hb, hc⟩, ⟨rfl, rfl, rfl, rfl, hB, hCd⟩, ⟨rfl, rfl, rfl, rfl, hB', hCd'⟩⟩ := I
  by_cases h : v1 < 0
  · exact br_t h (br_t h ⟨rfl, I2⟩)
  · obtain ⟨s, hs31, rfl⟩ := nI_of h
    by_cases hs : s ≤ K
    · have a2 := nI_le hs (by omega : K < 2 ^ 31)
      by_cases d : m < C
      · have a3 := nI_lt d (by omega)
        refine br_f h (br_t a2 (br_t a3 (lx_appTok C2 d (fun B1 e1 => br_f h (br_t a2 (br_t a3 (And.intro (ly_in (by omega)) ?_)))))))
        intro B2 e2 y ey
        refine ⟨rfl, K, C, n, m + 1, b, fun j => if j = m then s else c j, ⟨K1, K2, C1, C2, hn, d, hb, fun j hj => ?_⟩, ⟨rfl, rfl, rfl, rfl, hB, fun j hj => ?_⟩, ⟨rfl, rfl, rfl, by rw [ey, nI_1], hB', fun j hj => ?_⟩⟩
        · dsimp only
          by_cases z : j = m
          · rw [if_pos z]; exact hs
          · rw [if_neg z]; exact hc j (by omega)
        · dsimp only
          by_cases z : j = m
          · rw [e1, z, pk_us, if_pos rfl]
          · rw [e1, pk_un z, if_neg z]; exact hCd j (by omega)
        · dsimp only
          by_cases z : j = m
          · rw [e2, ly_us (by omega) z, if_pos z]
          · rw [e2, ly_un (by omega) z, if_neg z]; exact hCd' j (by omega)
      · have a3 := nI_nlt (a := m) (b := C) (by omega) (by omega)
        exact br_f h (br_t a2 (br_f a3 (br_f h (br_t a2 (br_f a3 ⟨rfl, I2⟩)))))
    · have a2 := nI_ge (a := K) (b := s) (by omega) hs31
      exact br_f h (br_f a2 (br_f h (br_f a2 ⟨rfl, I2⟩)))
theorem i_vc_codeLength {k : Nat} {u : SX} {v : SY} (I : i_Rel k u v) (hk : k + 2 ≤ 1026) : wpX_codeLength (fun r => wpY_codeLength (fun r' => r' = r ∧ i_Rel (k + 2) u v) v) u := by
  have I2 := I
  obtain ⟨f1, f2, f3, f4, B, Cd, Fs, Fi, La, Rw, Su, Vi, Nb, Re⟩ := u
  obtain ⟨g1, g2, g3, g4, B', Cd', Tm, Sa, Ea⟩ := v
  obtain ⟨K, C, n, m, b, c, N, ⟨rfl, rfl, rfl, rfl, hB, hCd⟩, ⟨rfl, rfl, rfl, rfl, hB', hCd'⟩⟩ := I
  exact ⟨rfl, I2⟩
theorem i_vc_codeAt {k : Nat} {u : SX} {v : SY} (I : i_Rel k u v) (hk : k + 2 ≤ 1026) (v1 : Int32) : wpX_codeAt (fun r => wpY_codeAt (fun r' => r' = r ∧ i_Rel (k + 2) u v) v v1) u v1 := by
  have I2 := I
  obtain ⟨f1, f2, f3, f4, B, Cd, Fs, Fi, La, Rw, Su, Vi, Nb, Re⟩ := u
  obtain ⟨g1, g2, g3, g4, B', Cd', Tm, Sa, Ea⟩ := v
  obtain ⟨K, C, n, m, b, c, ⟨K1, K2, C1, C2, hn, hm, hb, hc⟩, ⟨rfl, rfl, rfl, rfl, hB, hCd⟩, ⟨rfl, rfl, rfl, rfl, hB', hCd'⟩⟩ := I
  rcases ly_ix3 v1 (n := m) (by omega) with h | ⟨h, h2⟩ | ⟨s, hs, rfl⟩
  · exact br_t h (br_t h ⟨rfl, I2⟩)
  · exact br_f h (br_f h2 (br_f h (br_f h2 ⟨rfl, I2⟩)))
  · have a1 := nI_pos (n := s) (by omega)
    have a2 := nI_lt hs (by omega)
    refine br_f a1 (br_t a2 (And.intro (ly_in (by omega)) (br_f a1 (br_t a2 (And.intro (ly_in (by omega)) ⟨?_, I2⟩)))))
    rw [ly_rd hCd hs (by omega), ly_rd hCd' hs (by omega)]
end
