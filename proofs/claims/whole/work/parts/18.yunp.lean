/-! the reference: unpack -/
section
variable {K C n m : Nat} {b c : Nat → Nat} {B Cd Tm Sa Ea : Nat → Int32}
theorem ls_se40 {post : Int32 → Prop} {i : Nat} (hm : m ≤ 24) (hc : ∀ j, j < m → c j ≤ 16) (hCd : ∀ j, j < m → Cd j = nI (c j)) (hi : i < m) (hp : post (nI (ly_val c (ly_rs c i) (i + 1 - ly_rs c i)))) : ∀ q, q ≤ i → ly_rs c q = ly_rs c i → ∀ x2 x3, x2 = nI q → x3 = nI q - 1 → wY_symbolsEndingAt_40 post (nI i) (nI K) (nI C) (nI n) (nI m) B Cd Tm Sa Ea (q + 1) x2 x3 := by
  have hr := ly_rs_le c i
  have fin : wY_symbolsEndingAt_62 post (nI i) (nI (ly_rs c i)) (nI K) (nI C) (nI n) (nI m) B Cd Tm Sa Ea := by
    have h := ls_val (K := K) (C := C) (n := n) (m := m) (B := B) (Tm := Tm) (Sa := Sa) (Ea := Ea) (post := post) (f := ly_rs c i) (l := i + 1 - ly_rs c i) (by omega) (fun j _ j2 => hCd j (by omega)) hp
    rw [show ly_rs c i + (i + 1 - ly_rs c i) = i + 1 from by omega, ← nI_1] at h
    exact h
  intro q
  induction q with
  | zero =>
    rintro hq hrs x2 x3 rfl rfl
    have e : ly_rs c i = 0 := hrs.symm
    rw [e] at fin
    exact br_t ly_0m1 fin
  | succ q ih =>
    rintro hq hrs x2 x3 rfl rfl
    have hcq := hc q (by omega)
    rw [ly_s1 (b := q) rfl]
    refine br_f (nI_pos (by omega)) (And.intro (ly_in (by omega)) ?_)
    refine pk_le 2 (c q) (fun h => ?_) (fun h => ?_) rfl (ly_rd hCd (by omega) hm)
    · rw [ly_rs_t h] at hrs
      rw [← hrs] at fin
      exact fin
    · rw [ly_rs_f (by omega)] at hrs
      intro y ey
      exact ih (by omega) hrs _ _ rfl (by rw [ey, ly_m1s])
theorem ls_se {post : Int32 → Prop} {i : Nat} (hm : m ≤ 24) (hc : ∀ j, j < m → c j ≤ 16) (hCd : ∀ j, j < m → Cd j = nI (c j)) (hi : i < m) (hp : post (nI (ly_ye c m i))) : wpY_symbolsEndingAt post (nI K, nI C, nI n, nI m, B, Cd, Tm, Sa, Ea) (nI i) := by
  have hci := hc i hi
  refine And.intro (ly_in (by omega)) ?_
  refine pk_lt (c i) 2 (fun h => ?_) (fun h => ?_) (ly_rd hCd hi hm) rfl
  · have fin : (¬ (i + 1 < m ∧ c (i + 1) < 2)) → ∃ n40 : Nat, wY_symbolsEndingAt_40 post (nI i) (nI K) (nI C) (nI n) (nI m) B Cd Tm Sa Ea n40 (nI i) (nI i) := by
      intro hz
      have e : ly_ye c m i = ly_val c (ly_rs c i) (i + 1 - ly_rs c i) := by
        unfold ly_ye
        rw [if_neg (by omega), if_neg hz]
      rw [e] at hp
      refine ⟨i + 1 + 1, br_f (nI_pos (by omega)) (And.intro (ly_in (by omega)) ?_)⟩
      refine pk_le 2 (c i) (fun h => by omega) (fun _ => ?_) rfl (ly_rd hCd hi hm)
      intro y ey
      exact ls_se40 hm hc hCd hi hp i (Nat.le_refl i) rfl _ _ rfl (by rw [ey, ly_m1s])
    rw [nI_1 i]
    refine pk_le m (i + 1) (fun h1 => fin (by omega)) (fun h1 => And.intro (ly_in (by omega)) ?_)
    refine pk_le 2 (c (i + 1)) (fun h2 => fin (by omega)) (fun h2 => ?_) rfl (ly_rd hCd (by omega) hm) (by omega) (by have := hc (i + 1) (by omega); omega)
    have e : ly_ye c m i = 0 := by
      unfold ly_ye
      rw [if_neg (by omega), if_pos ⟨by omega, by omega⟩]
    rw [e] at hp
    exact hp
  · have e : ly_ye c m i = 1 := if_pos h
    rw [e] at hp
    exact hp
theorem ly_Yd_le (c : Nat → Nat) (m i : Nat) : ly_Yd c m i ≤ ly_D c i := by
  unfold ly_Yd
  split
  · exact ly_D_mono c (ly_rs_le c i)
  · exact Nat.le_refl _
theorem ly_S_Y {i k : Nat} (hi : i < m) (hk : k < ly_ye c m i) : ly_S c m (ly_Yd c m i + k) = if 2 ≤ c i then c i - 1 else 0 := by
  have h1 := ly_Yd_s (c := c) hi
  by_cases h : 2 ≤ c i
  · have e : ly_ye c m i = 1 := if_pos h
    have e2 : ly_Yd c m i = ly_D c i := if_neg (by omega)
    obtain rfl : k = 0 := by omega
    rw [if_pos h, e2, Nat.add_zero, ly_S_sym hi h]
  · have e2 : ly_Yd c m i = ly_D c (ly_rs c i) := if_pos ⟨hi, by omega⟩
    have h2 := ly_Yd_le c m (i + 1)
    rw [if_neg h]
    exact ly_S_run i hi h (by omega) (by omega)
theorem ls_un61 {post : Int32 → SY → Prop} {J : Int32 → Int32 → (Nat → Int32) → (Nat → Int32) → (Nat → Int32) → (Nat → Int32) → (Nat → Int32) → Prop} {i : Nat} {x1 : Int32} (hm : m ≤ 24) (hd : ly_D c m ≤ 24) (hc : ∀ j, j < m → c j ≤ 16) (hCd : ∀ j, j < m → Cd j = nI (c j)) (hi : i < m) (hJ : ∀ B, (∀ j, j < ly_Yd c m (i + 1) → B j = nI (ly_S c m j)) → J (nI (i + 1)) (nI (ly_Yd c m (i + 1))) B Cd Tm Sa Ea) : ∀ d k, k + d = ly_ye c m i → ∀ x4 fn B, x4 = nI k → fn = nI (ly_Yd c m i + k) → (∀ j, j < ly_Yd c m i + k → B j = nI (ly_S c m j)) → wY_unpack_61 post J x1 (nI i) (nI (ly_ye c m i)) (nI K) (nI C) (nI m) (d + 1) x4 fn B Cd Tm Sa Ea := by
  have h1 := ly_Yd_s (c := c) hi
  have h2 := ly_Yd_le c m (i + 1)
  have h3 := ly_D_mono c (i := i + 1) (j := m) (by omega)
  have hci := hc i hi
  intro d
  induction d with
  | zero =>
    rintro k hk x4 fn B rfl rfl g1
    obtain rfl : k = ly_ye c m i := by omega
    rw [← h1] at g1 ⊢
    refine pk_le (ly_ye c m i) (ly_ye c m i) (fun _ => nm_r (nI_1 i) (hJ B g1)) (fun h => by omega)
  | succ d ih =>
    rintro k hk x4 fn B rfl rfl g1
    have hS := ly_S_Y (c := c) hi (k := k) (by omega)
    have nxt : ∀ z0 : Int32, z0 = nI (ly_S c m (ly_Yd c m i + k)) → wY_unpack_97 post J (wY_unpack_61 post J x1 (nI i) (nI (ly_ye c m i)) (nI K) (nI C) (nI m) (d + 1)) x1 (nI i) (nI (ly_ye c m i)) (nI k) z0 (nI (ly_Yd c m i + k)) (nI K) (nI C) (nI (ly_Yd c m i + k)) (nI m) B Cd Tm Sa Ea := by
      intro z0 ez
      refine And.intro (ly_in (by omega)) ?_
      intro a ea y ey y4 e4
      refine ih (k + 1) (by omega) _ _ a (by rw [e4, nI_1]) (by rw [ey, nI_1]; rfl) (fun j hj => ?_)
      by_cases z : j = ly_Yd c m i + k
      · rw [ea, ly_us (by omega) z, ez, z]
      · rw [ea, ly_un (by omega) z]; exact g1 j (by omega)
    refine pk_le (ly_ye c m i) k (fun h => by omega) (fun _ => And.intro (ly_in (by omega)) ?_)
    rw [ly_rd hCd hi hm]
    refine pk_lt (c i) 2 (fun h => nxt _ ?_) (fun h => And.intro (ly_in (by omega)) (nxt _ ?_))
    · rw [hS, if_neg (by omega)]; rfl
    · rw [hS, if_pos h]; exact ly_s1 (by omega)
theorem ls_un44 {post : Int32 → SY → Prop} {x1 : Int32} (hm : m ≤ 24) (hd : ly_D c m ≤ 24) (hc : ∀ j, j < m → c j ≤ 16) (hCd : ∀ j, j < m → Cd j = nI (c j)) (hp : ∀ B, (∀ j, j < ly_D c m → B j = nI (ly_S c m j)) → post x1 (nI K, nI C, nI (ly_D c m), nI m, B, Cd, Tm, Sa, Ea)) : ∀ d i, i + d = m → ∀ x2 fn B, x2 = nI i → fn = nI (ly_Yd c m i) → (∀ j, j < ly_Yd c m i → B j = nI (ly_S c m j)) → wY_unpack_44 post x1 (nI K) (nI C) (nI m) (d + 1) x2 fn B Cd Tm Sa Ea := by
  intro d
  induction d with
  | zero =>
    rintro i hi x2 fn B rfl rfl g1
    obtain rfl : i = m := by omega
    rw [ly_Yd_m] at g1 ⊢
    exact pk_le i i (fun _ => hp B g1) (fun h => by omega)
  | succ d ih =>
    rintro i hi x2 fn B rfl rfl g1
    refine pk_le m i (fun h => by omega) (fun _ => ls_se hm hc hCd (by omega) ?_)
    exact ⟨_, ls_un61 hm hd hc hCd (by omega) (fun B' g => ih (i + 1) (by omega) _ _ B' rfl rfl g) (ly_ye c m i) 0 (by omega) _ _ B rfl rfl g1⟩
theorem ls_un4 {post : Int32 → SY → Prop} (hC : C ≤ 24) (hm : m ≤ 24) (hc : ∀ j, j < m → c j ≤ 16) (hCd : ∀ j, j < m → Cd j = nI (c j)) (hy : ly_D c m ≤ C → ∀ B, (∀ j, j < ly_D c m → B j = nI (ly_S c m j)) → post (nI (ly_D c m)) (nI K, nI C, nI (ly_D c m), nI m, B, Cd, Tm, Sa, Ea)) (hno : C < ly_D c m → post (-4) (nI K, nI C, nI n, nI m, B, Cd, Tm, Sa, Ea)) : ∀ d i, i + d = m → ∀ x1 x2, x1 = nI (ly_Yd c m i) → x2 = nI i → wY_unpack_4 post (nI K) (nI C) (nI n) (nI m) B Cd Tm Sa Ea (d + 1) x1 x2 := by
  have hbig := ly_D_31 (c := c) (i := m) hm
  intro d
  induction d with
  | zero =>
    rintro i hi x1 x2 rfl rfl
    obtain rfl : i = m := by omega
    rw [ly_Yd_m]
    refine pk_le i i (fun _ => pk_le (ly_D c i) C (fun h => ?_) (fun h => hno h)) (fun h => by omega)
    refine ⟨_, ls_un44 hm (by omega) hc hCd (hy h) i 0 (by omega) _ _ B rfl ?_ (fun j hj => ?_)⟩
    · rw [ly_Yd_0]; rfl
    · rw [ly_Yd_0] at hj; exact absurd hj (Nat.not_lt_zero j)
  | succ d ih =>
    rintro i hi x1 x2 rfl rfl
    refine pk_le m i (fun h => by omega) (fun _ => ls_se hm hc hCd (by omega) ?_)
    intro y1 e1 y2 e2
    refine ih (i + 1) (by omega) _ _ ?_ (by rw [e2, nI_1])
    rw [e1, nI_add, ly_Yd_s (by omega)]
theorem ls_unpack {post : Int32 → SY → Prop} (hC : C ≤ 24) (hm : m ≤ C) (hc : ∀ j, j < m → c j ≤ 16) (hCd : ∀ j, j < m → Cd j = nI (c j)) (hy : ly_D c m ≤ C → ∀ B, (∀ j, j < ly_D c m → B j = nI (ly_S c m j)) → post (nI (ly_D c m)) (nI K, nI C, nI (ly_D c m), nI m, B, Cd, Tm, Sa, Ea)) (hno : C < ly_D c m → post (-4) (nI K, nI C, nI n, nI m, B, Cd, Tm, Sa, Ea)) : wpY_unpack post (nI K, nI C, nI n, nI m, B, Cd, Tm, Sa, Ea) := by
  refine ⟨_, ls_un4 hC (by omega) hc hCd hy hno m 0 (by omega) _ _ ?_ rfl⟩
  rw [ly_Yd_0]; rfl
end
