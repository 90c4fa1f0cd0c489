/-! the reference: front and unfront -/
section
variable {K C n m : Nat} {b t D : Nat → Nat} {B Cd Tm Sa Ea : Nat → Int32}
def ly_I (x : Int) : Int32 := Int32.ofInt x
theorem ly_I_n (n : Nat) : nI n = ly_I (n : Int) := Int32.ofInt_eq_ofNat.symm
theorem ly_I_m (s : Nat) : (-1) - nI s = ly_I (-1 - (s : Int)) := by
  unfold ly_I
  rw [Int32.ofInt_sub, Int32.ofInt_eq_ofNat]
  rfl
theorem ly_I_le {x y : Int} (hx : -100 ≤ x) (hx2 : x ≤ 100) (hy : -100 ≤ y) (hy2 : y ≤ 100) : ly_I x ≤ ly_I y ↔ x ≤ y := by
  unfold ly_I
  rw [Int32.le_iff_toInt_le, Int32.toInt_ofInt_of_le (by omega) (by omega), Int32.toInt_ofInt_of_le (by omega) (by omega)]
theorem ls_lm_loop {post : Int32 → Prop} {s i : Nat} (hi : i ≤ 24) (hs : s < 16) (ht : ∀ j, j < i → t j < 16) (hT : ∀ j, j < i → Tm j = nI (t j)) (hp : post (ly_I (ly_lm t s i))) : ∀ d j, j + d = i → ∀ x3 x4, x3 = ly_I (ly_lm t s j) → x4 = nI j → wY_lastMoved_7 post (nI s) (nI i) (nI K) (nI C) (nI n) (nI m) B Cd Tm Sa Ea (d + 1) x3 x4 := by
  intro d
  induction d with
  | zero =>
    rintro j hj x3 x4 rfl rfl
    obtain rfl : j = i := by omega
    exact pk_le j j (fun _ => hp) (fun h => by omega)
  | succ d ih =>
    rintro j hj x3 x4 rfl rfl
    have h1 := ht j (by omega)
    refine pk_le i j (fun h => by omega) (fun _ => And.intro (ly_in (by omega)) ?_)
    refine pk_eq (t j) s (fun e => ?_) (fun e => ?_) (ly_rd hT (by omega) hi) rfl
    · intro y ey
      refine ih (j + 1) (by omega) _ _ ?_ (by rw [ey, nI_1])
      rw [ly_lm_t e]; exact ly_I_n j
    · intro y ey
      refine ih (j + 1) (by omega) _ _ ?_ (by rw [ey, nI_1])
      rw [ly_lm_f e]
theorem ls_lm {post : Int32 → Prop} {s i : Nat} (hi : i ≤ 24) (hs : s < 16) (ht : ∀ j, j < i → t j < 16) (hT : ∀ j, j < i → Tm j = nI (t j)) (hp : post (ly_I (ly_lm t s i))) : wpY_lastMoved post (nI K, nI C, nI n, nI m, B, Cd, Tm, Sa, Ea) (nI s) (nI i) :=
  nm_r (ly_I_m s) ⟨_, ls_lm_loop hi hs ht hT hp i 0 (by omega) _ _ rfl rfl⟩
theorem ls_pl_loop {post : Int32 → Prop} {s i : Nat} (hK : K ≤ 16) (hi : i ≤ 24) (hs : s < K) (ht : ∀ j, j < i → t j < 16) (hT : ∀ j, j < i → Tm j = nI (t j)) (hp : post (nI (ly_pl t K i s))) : ∀ d x, x + d = K → ∀ x4 x5, x4 = nI (ly_cnt (fun y => ly_mR t i y s) x) → x5 = nI x → wY_place_13 post (nI i) (ly_I (ly_lm t s i)) (nI K) (nI C) (nI n) (nI m) B Cd Tm Sa Ea (d + 1) x4 x5 := by
  have s1 := ly_lm_lt t s i
  have s2 := ly_lm_ge t s i
  intro d
  induction d with
  | zero =>
    rintro x hx x4 x5 rfl rfl
    obtain rfl : x = K := by omega
    exact pk_le x x (fun _ => hp) (fun h => by omega)
  | succ d ih =>
    rintro x hx x4 x5 rfl rfl
    have t1 := ly_lm_lt t x i
    have t2 := ly_lm_ge t x i
    refine pk_le K x (fun h => by omega) (fun _ => ls_lm hi (by omega) ht hT ?_)
    refine br_c (fun h => ?_) (fun h => ?_)
    · rw [ly_I_le (by omega) (by omega) (by omega) (by omega)] at h
      intro y5 e5
      refine ih (x + 1) (by omega) _ _ ?_ (by rw [e5, nI_1])
      rw [ly_cnt_f (P := fun y => ly_mR t i y s) (fun z => by unfold ly_mR at z; omega)]
    · rw [ly_I_le (by omega) (by omega) (by omega) (by omega)] at h
      intro y4 e4 y5 e5
      refine ih (x + 1) (by omega) _ _ ?_ (by rw [e5, nI_1])
      rw [e4, nI_1, ly_cnt_t (P := fun y => ly_mR t i y s) (by unfold ly_mR; omega)]
theorem ls_pl {post : Int32 → Prop} {s i : Nat} (hK : K ≤ 16) (hi : i ≤ 24) (hs : s < K) (ht : ∀ j, j < i → t j < 16) (hT : ∀ j, j < i → Tm j = nI (t j)) (hp : post (nI (ly_pl t K i s))) : wpY_place post (nI K, nI C, nI n, nI m, B, Cd, Tm, Sa, Ea) (nI s) (nI i) := by
  refine ls_lm hi (by omega) ht hT ?_
  exact ⟨_, ls_pl_loop hK hi hs ht hT hp K 0 (by omega) _ _ rfl rfl⟩
theorem ls_fr30 {post : SY → Prop} (hK : K ≤ 16) (hn : n ≤ 24) (hb : ∀ j, j < n → b j < K) (hT : ∀ j, j < n → Tm j = nI (b j)) (hp : ∀ B, (∀ j, j < n → B j = nI (ly_F b K j)) → post (nI K, nI C, nI n, nI m, B, Cd, Tm, Sa, Ea)) : ∀ d i, i + d = n → ∀ x1 B, x1 = nI i → (∀ j, j < i → B j = nI (ly_F b K j)) → wY_front_30 post (nI K) (nI C) (nI n) (nI m) (d + 1) x1 B Cd Tm Sa Ea := by
  intro d
  induction d with
  | zero =>
    rintro i hi x1 B rfl h1
    obtain rfl : i = n := by omega
    exact pk_le i i (fun _ => hp B h1) (fun h => by omega)
  | succ d ih =>
    rintro i hi x1 B rfl h1
    have hbi := hb i (by omega)
    refine pk_le n i (fun h => by omega) (fun _ => And.intro (ly_in (by omega)) ?_)
    rw [ly_cl (by omega), hT i (by omega)]
    refine ls_pl hK (by omega) hbi (fun j hj => by have := hb j (by omega); omega) (fun j hj => hT j (by omega)) ?_
    refine And.intro (ly_in (by omega)) ?_
    intro a ea y ey
    refine ih (i + 1) (by omega) _ a (by rw [ey, nI_1]) (lt_s (fun j hj => ?_) ?_)
    · rw [ea, pk_un (by omega)]; exact h1 j hj
    · rw [ea, pk_us]; rfl
theorem ls_fr2 {post : SY → Prop} (hK : K ≤ 16) (hn : n ≤ 24) (hb : ∀ j, j < n → b j < K) (hB : ∀ j, j < n → B j = nI (b j)) (hp : ∀ B Tm, (∀ j, j < n → B j = nI (ly_F b K j)) → post (nI K, nI C, nI n, nI m, B, Cd, Tm, Sa, Ea)) : ∀ d i, i + d = n → ∀ x1 Tm, x1 = nI i → (∀ j, j < i → Tm j = nI (b j)) → wY_front_2 post (nI K) (nI C) (nI n) (nI m) (d + 1) x1 B Cd Tm Sa Ea := by
  intro d
  induction d with
  | zero =>
    rintro i hi x1 Tm rfl h1
    obtain rfl : i = n := by omega
    refine pk_le i i (fun _ => ?_) (fun h => by omega)
    exact ⟨_, ls_fr30 hK hn hb h1 (fun B' h => hp B' Tm h) i 0 (by omega) _ B rfl (fun q h => absurd h (Nat.not_lt_zero q))⟩
  | succ d ih =>
    rintro i hi x1 Tm rfl h1
    refine pk_le n i (fun h => by omega) (fun _ => And.intro (ly_in (by omega)) (And.intro (ly_in (by omega)) ?_))
    intro a ea y ey
    refine ih (i + 1) (by omega) _ a (by rw [ey, nI_1]) (lt_s (fun j hj => ?_) ?_)
    · rw [ea, ly_un (by omega) (by omega)]; exact h1 j hj
    · rw [ea, ly_us (by omega) rfl, ly_rd hB (by omega) hn]
theorem ls_front {post : SY → Prop} (hK : K ≤ 16) (hn : n ≤ 24) (hb : ∀ j, j < n → b j < K) (hB : ∀ j, j < n → B j = nI (b j)) (hp : ∀ B Tm, (∀ j, j < n → B j = nI (ly_F b K j)) → post (nI K, nI C, nI n, nI m, B, Cd, Tm, Sa, Ea)) : wpY_front post (nI K, nI C, nI n, nI m, B, Cd, Tm, Sa, Ea) :=
  ⟨_, ls_fr2 hK hn hb hB hp n 0 (by omega) _ Tm rfl (fun q h => absurd h (Nat.not_lt_zero q))⟩
theorem ls_un14 {post : SY → Prop} {J : Int32 → (Nat → Int32) → (Nat → Int32) → (Nat → Int32) → (Nat → Int32) → (Nat → Int32) → Prop} {i : Nat} (hK : K ≤ 16) (hn : n ≤ 24) (hb : ∀ j, j < n → b j < K) (hB : ∀ j, j < n → B j = nI (b j)) (hD : ly_isD b K n D) (hi : i < n) (hT : ∀ j, j < i → Tm j = nI (D j)) (hJ : ∀ Tm', Tm' = upd Tm i (nI (D i)) → J (nI (i + 1)) B Cd Tm' Sa Ea) : ∀ d s, s + d = K → ∀ x2 x3, x2 = nI (if D i < s then D i else 0) → x3 = nI s → wY_unfront_14 post J (nI i) (nI K) (nI C) (nI n) (nI m) B Cd Tm Sa Ea (d + 1) x2 x3 := by
  have hDi := hD i hi
  have hbi := hb i hi
  intro d
  induction d with
  | zero =>
    rintro s hs x2 x3 rfl rfl
    obtain rfl : s = K := by omega
    refine pk_le s s (fun _ => And.intro (ly_in (by omega)) ?_) (fun h => by omega)
    intro a ea
    refine nm_r (nI_1 i) (hJ a ?_)
    rw [ea, ly_cl (by omega), if_pos hDi.1]
  | succ d ih =>
    rintro s hs x2 x3 rfl rfl
    have hps := ly_pl_lt (t := D) (i := i) (x := s) (K := K) (by omega)
    refine pk_le K s (fun h => by omega) (fun _ => ls_pl (t := D) hK (by omega) (by omega) (fun j hj => by have := (hD j (by omega)).1; omega) hT ?_)
    refine And.intro (ly_in (by omega)) ?_
    refine pk_eq (ly_pl D K i s) (b i) (fun e => ?_) (fun e => ?_) rfl (ly_rd hB hi hn)
    · have es : s = D i := ly_pl_inj (by omega) hDi.1 (e.trans hDi.2.symm)
      intro y ey
      refine ih (s + 1) (by omega) _ _ ?_ (by rw [ey, nI_1])
      rw [if_pos (by omega), es]
    · have es : s ≠ D i := fun z => e (by rw [z]; exact hDi.2)
      intro y ey
      refine ih (s + 1) (by omega) _ _ ?_ (by rw [ey, nI_1])
      by_cases z : D i < s
      · rw [if_pos z, if_pos (by omega)]
      · rw [if_neg z, if_neg (by omega)]
theorem ls_un2 {post : SY → Prop} (hK : K ≤ 16) (hn : n ≤ 24) (hb : ∀ j, j < n → b j < K) (hB : ∀ j, j < n → B j = nI (b j)) (hD : ly_isD b K n D) (hp : ∀ B Tm, (∀ j, j < n → B j = nI (D j)) → post (nI K, nI C, nI n, nI m, B, Cd, Tm, Sa, Ea)) : ∀ d i, i + d = n → ∀ x1 Tm, x1 = nI i → (∀ j, j < i → Tm j = nI (D j)) → wY_unfront_2 post (nI K) (nI C) (nI n) (nI m) (d + 1) x1 B Cd Tm Sa Ea := by
  intro d
  induction d with
  | zero =>
    rintro i hi x1 Tm rfl h1
    obtain rfl : i = n := by omega
    refine pk_le i i (fun _ => ls_take hn (fun B' hB' => ?_)) (fun h => by omega)
    exact hp B' Tm (fun j hj => (hB' j hj).trans (h1 j hj))
  | succ d ih =>
    rintro i hi x1 Tm rfl h1
    refine pk_le n i (fun h => by omega) (fun _ => ?_)
    refine ⟨_, ls_un14 hK hn hb hB hD (by omega) h1 (fun Tm' e' => ?_) K 0 (by omega) _ _ rfl rfl⟩
    refine ih (i + 1) (by omega) _ Tm' rfl (lt_s (fun j hj => ?_) ?_)
    · rw [e', pk_un (by omega)]; exact h1 j hj
    · rw [e', pk_us]
theorem ls_unfront {post : SY → Prop} (hK : K ≤ 16) (hn : n ≤ 24) (hb : ∀ j, j < n → b j < K) (hB : ∀ j, j < n → B j = nI (b j)) (hD : ly_isD b K n D) (hp : ∀ B Tm, (∀ j, j < n → B j = nI (D j)) → post (nI K, nI C, nI n, nI m, B, Cd, Tm, Sa, Ea)) : wpY_unfront post (nI K, nI C, nI n, nI m, B, Cd, Tm, Sa, Ea) :=
  ⟨_, ls_un2 hK hn hb hB hD hp n 0 (by omega) _ Tm rfl (fun q h => absurd h (Nat.not_lt_zero q))⟩
end
