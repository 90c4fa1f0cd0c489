/-! the reference: pack and unpack -/
section
variable {K C n m : Nat} {b c : Nat → Nat} {B Cd Tm Sa Ea : Nat → Int32}
theorem ls_val_loop {post : Int32 → Prop} {f l : Nat} (hf : f + l ≤ 24) (hCd : ∀ j, f ≤ j → j < f + l → Cd j = nI (c j)) (hp : post (nI (ly_val c f l))) : ∀ d k, k + d = l → ∀ x3 x4 x5, x3 = nI (ly_val c f k) → x4 = nI (2 ^ k) → x5 = nI (f + k) → wY_value_8 post (nI (f + l)) (nI K) (nI C) (nI n) (nI m) B Cd Tm Sa Ea (d + 1) x3 x4 x5 := by
  intro d
  induction d with
  | zero =>
    rintro k hk x3 x4 x5 rfl rfl rfl
    obtain rfl : k = l := by omega
    exact pk_le (f + k) (f + k) (fun _ => hp) (fun h => by omega)
  | succ d ih =>
    rintro k hk x3 x4 x5 rfl rfl rfl
    refine pk_le (f + l) (f + k) (fun h => by omega) (fun _ => And.intro (ly_in (by omega)) ?_)
    intro y3 e3 y4 e4 y5 e5
    refine ih (k + 1) (by omega) _ _ _ ?_ ?_ (by rw [e5, nI_1]; rfl)
    · rw [e3, ly_cl (by omega), hCd _ (by omega) (by omega), nI_1, pk_mul, nI_add, ly_val_s]
    · rw [e4, ly_mul2, Nat.pow_succ]
theorem ls_val {post : Int32 → Prop} {f l : Nat} (hf : f + l ≤ 24) (hCd : ∀ j, f ≤ j → j < f + l → Cd j = nI (c j)) (hp : post (nI (ly_val c f l))) : wpY_value post (nI K, nI C, nI n, nI m, B, Cd, Tm, Sa, Ea) (nI f) (nI (f + l)) :=
  ⟨_, ls_val_loop hf hCd hp l 0 (by omega) _ _ _ rfl rfl rfl⟩
theorem ly_sc : ∀ d, d < 32 → ((nI d &&& 31).toBitVec.smod 32).toNat = d := by decide
theorem ly_shr {q d : Nat} (hq : q < 2 ^ 31) (hd : d < 32) : (nI q >>> (nI d &&& 31)) &&& 1 = nI (q / 2 ^ d % 2) := by
  rw [pk_shrN hq _ d (ly_sc d hd), pk_andN (Nat.lt_of_le_of_lt (Nat.div_le_self _ _) (by omega)) 1 (by decide)]
theorem ly_shl {l : Nat} (hl : l < 31) : (1 : Int32) <<< (nI l &&& 31) = nI (2 ^ l) := by
  have h := pk_shlN (n := 1) (nI l &&& 31) l (ly_sc l (by omega)) (by
    have : 2 ^ l < 2 ^ 31 := Nat.pow_lt_pow_right (by decide) hl
    omega)
  rw [Nat.one_mul] at h
  exact h
theorem ls_num24 {post : SY → Prop} {J2 J14 : Int32 → (Nat → Int32) → (Nat → Int32) → (Nat → Int32) → (Nat → Int32) → (Nat → Int32) → Prop} {z l q : Nat} (hz : z ≤ 30) (hl : l ≤ 4) (hq : q < 2 ^ l) (hm : m + l ≤ 24) (hy : q + 2 ^ l = z + 1 → ∀ Cd, (∀ j, j < m → Cd j = nI (c j)) → (∀ d, d < l → Cd (m + d) = nI (q / 2 ^ d % 2)) → post (nI K, nI C, nI n, nI (m + l), B, Cd, Tm, Sa, Ea)) (hno : ¬ q + 2 ^ l = z + 1 → ∀ Cd, (∀ j, j < m → Cd j = nI (c j)) → J14 (nI (q + 1)) B Cd Tm Sa Ea) : ∀ d k, k + d = l → ∀ x4 Cd, x4 = nI k → (∀ j, j < m → Cd j = nI (c j)) → (∀ d, d < k → Cd (m + d) = nI (q / 2 ^ d % 2)) → wY_appendNumeral_24 post J2 J14 (nI z) (nI l) (nI q) (nI K) (nI C) (nI n) (nI m) (d + 1) x4 B Cd Tm Sa Ea := by
  have h16 : 2 ^ l ≤ 2 ^ 4 := Nat.pow_le_pow_right (by decide) hl
  intro d
  induction d with
  | zero =>
    rintro k hk x4 Cd rfl h1 h2
    obtain rfl : k = l := by omega
    refine pk_le k k (fun _ => ?_) (fun h => by omega)
    rw [nI_add m k]
    have hv := ly_val_bits (fun j => q / 2 ^ (j - m) % 2) m q k (fun d _ => by rw [Nat.add_sub_cancel_left])
    rw [Nat.mod_eq_of_lt hq] at hv
    refine ls_val (c := fun j => q / 2 ^ (j - m) % 2) hm (fun j j1 j2 => ?_) ?_
    · have := h2 (j - m) (by omega)
      rw [show m + (j - m) = j from by omega] at this
      exact this
    · refine pk_eq (ly_val (fun j => q / 2 ^ (j - m) % 2) m k) z (fun e => ?_) (fun e => ?_)
      · exact nm_r rfl (hy (by omega) Cd h1 h2)
      · exact nm_r (nI_1 q) (hno (by omega) Cd h1)
  | succ d ih =>
    rintro k hk x4 Cd rfl h1 h2
    refine pk_le l k (fun h => by omega) (fun _ => ?_)
    rw [nI_add m k, ly_shr (by omega) (by omega)]
    refine And.intro (ly_in (by omega)) ?_
    intro a ea y ey
    refine ih (k + 1) (by omega) _ a (by rw [ey, nI_1]) (fun j hj => ?_) (lt_s (fun d hd => ?_) ?_)
    · rw [ea, ly_un (by omega) (by omega)]; exact h1 j hj
    · rw [ea, ly_un (by omega) (by omega)]; exact h2 d hd
    · rw [ea, ly_us (by omega) rfl]
theorem ls_num14 {post : SY → Prop} {J2 : Int32 → (Nat → Int32) → (Nat → Int32) → (Nat → Int32) → (Nat → Int32) → (Nat → Int32) → Prop} {z l : Nat} (hz : z ≤ 30) (hl : l ≤ ly_dl z) (hm : m + l ≤ 24) (hc : ∀ d, d < ly_dl z → c (m + d) = ly_tok z d) (hy : ∀ Cd, (∀ j, j < m + ly_dl z → Cd j = nI (c j)) → post (nI K, nI C, nI n, nI (m + ly_dl z), B, Cd, Tm, Sa, Ea)) (hno : l < ly_dl z → ∀ Cd, (∀ j, j < m → Cd j = nI (c j)) → J2 (nI (l + 1)) B Cd Tm Sa Ea) : ∀ d q, q + d = 2 ^ l → (l = ly_dl z → q + 2 ^ l ≤ z + 1) → ∀ x3 Cd, x3 = nI q → (∀ j, j < m → Cd j = nI (c j)) → wY_appendNumeral_14 post J2 (nI z) (nI l) (nI K) (nI C) (nI n) (nI m) (d + 1) x3 B Cd Tm Sa Ea := by
  have h4 := ly_dl_4 z
  have h5 := ly_dl_p hz
  have h16 : 2 ^ l ≤ 2 ^ 4 := Nat.pow_le_pow_right (by decide) (by omega)
  rw [Nat.pow_succ] at h5
  intro d
  induction d with
  | zero =>
    rintro q hq hle x3 Cd rfl h1
    have hlt : l < ly_dl z := by
      by_cases e : l = ly_dl z
      · have := hle e
        rw [e] at hq this
        omega
      · omega
    refine pk_le (2 ^ l) q (fun _ => ?_) (fun h => by omega) (ly_shl (by omega)) rfl
    exact nm_r (nI_1 l) (hno hlt Cd h1)
  | succ d ih =>
    rintro q hq hle x3 Cd rfl h1
    refine pk_le (2 ^ l) q (fun h => by omega) (fun _ => ?_) (ly_shl (by omega)) rfl
    refine ⟨_, ls_num24 (c := c) hz (by omega) (by omega) hm (fun e Cd' g1 g2 => ?_) (fun e Cd' g1 => ?_) l 0 (by omega) _ Cd rfl h1 (fun d hd => absurd hd (Nat.not_lt_zero d))⟩
    · have hll : l = ly_dl z := by
        by_cases e2 : l = ly_dl z
        · exact e2
        · have : 2 ^ (l + 1) ≤ 2 ^ ly_dl z := Nat.pow_le_pow_right (by decide) (by omega)
          rw [Nat.pow_succ] at this
          omega
      rw [hll]
      refine hy Cd' (fun j hj => ?_)
      by_cases c1 : j < m
      · exact g1 j c1
      · have e3 := g2 (j - m) (by omega)
        have e4 := hc (j - m) (by omega)
        rw [show m + (j - m) = j from by omega] at e3 e4
        rw [e3, e4, ly_tok_bits (l := l) (bits := q) (by omega) (by omega)]
    · exact ih (q + 1) (by omega) (fun e2 => by have := hle e2; omega) _ Cd' rfl g1
theorem ls_num {post : SY → Prop} {z : Nat} (hz0 : 1 ≤ z) (hz : z ≤ 30) (hm : m + ly_dl z ≤ 24) (hc : ∀ d, d < ly_dl z → c (m + d) = ly_tok z d) (h1 : ∀ j, j < m → Cd j = nI (c j)) (hp : ∀ Cd, (∀ j, j < m + ly_dl z → Cd j = nI (c j)) → post (nI K, nI C, nI n, nI (m + ly_dl z), B, Cd, Tm, Sa, Ea)) : wpY_appendNumeral post (nI K, nI C, nI n, nI m, B, Cd, Tm, Sa, Ea) (nI z) := by
  have h4 := ly_dl_4 z
  have h3 := ly_dl_le z
  have h5 := ly_dl_p hz
  have hpos : 1 ≤ ly_dl z := by rw [ly_dl_s hz0 hz]; omega
  have L : ∀ d l, l + d = ly_dl z → 1 ≤ l → ∀ x2 Cd, x2 = nI l → (∀ j, j < m → Cd j = nI (c j)) → wY_appendNumeral_2 post (nI z) (nI K) (nI C) (nI n) (nI m) (d + 1) x2 B Cd Tm Sa Ea := by
    intro d
    induction d with
    | zero =>
      rintro l hl hl1 x2 Cd rfl g1
      refine pk_lt z l (fun h => by omega) (fun _ => pk_lt 4 l (fun h => by omega) (fun _ => ?_))
      refine ⟨_, ls_num14 hz (by omega) (by omega) hc hp (fun h => by omega) (2 ^ l) 0 (by omega) (fun e => ?_) _ Cd rfl g1⟩
      rw [e]; omega
    | succ d ih =>
      rintro l hl hl1 x2 Cd rfl g1
      refine pk_lt z l (fun h => by omega) (fun _ => pk_lt 4 l (fun h => by omega) (fun _ => ?_))
      exact ⟨_, ls_num14 hz (by omega) (by omega) hc hp (fun h Cd' g => ih (l + 1) (by omega) (by omega) _ Cd' rfl g) (2 ^ l) 0 (by omega) (fun e => by omega) _ Cd rfl g1⟩
  exact ⟨_, L (ly_dl z - 1) 1 (by omega) (by omega) _ Cd rfl h1⟩
/-- the tokens that the reference has written when it has read i symbols -/
def ly_Ym (b : Nat → Nat) (n i : Nat) : Nat := if i < n ∧ b i = 0 then ly_M b i else ly_M b i + ly_dl (ly_zr b i)
theorem ls_pk79 {post : Int32 → SY → Prop} {J : Int32 → Int32 → Int32 → Int32 → Int32 → (Nat → Int32) → (Nat → Int32) → (Nat → Int32) → (Nat → Int32) → (Nat → Int32) → Prop} {i : Nat} (hn : n ≤ 24) (hb : ∀ j, j < n → b j < 16) (hB : ∀ j, j < n → B j = nI (b j)) (hi : i < n) (hend : wpY_appendNumeral (fun u => match u with | (k1, k2, k3, k4, k5, k6, k7, k8, k9) => ∀ y : Int32, y = nI i + 1 → J y k1 k2 k3 k4 k5 k6 k7 k8 k9) (nI K, nI C, nI n, nI m, B, Cd, Tm, Sa, Ea) (nI (ly_zr b (i + 1)))) : ∀ q, q ≤ i + 1 → ∀ x2 x3 w, w + ly_zr b q = ly_zr b (i + 1) → x2 = nI w → x3 = nI q - 1 → wY_pack_79 post J (nI i) (nI K) (nI C) (nI n) (nI m) B Cd Tm Sa Ea (q + 1) x2 x3 := by
  intro q
  induction q with
  | zero =>
    rintro hq x2 x3 w hw rfl rfl
    obtain rfl : w = ly_zr b (i + 1) := hw
    exact br_t ly_0m1 hend
  | succ q ih =>
    rintro hq x2 x3 w hw rfl rfl
    have hbq := hb q (by omega)
    rw [ly_s1 (b := q) rfl]
    refine br_f (nI_pos (by omega)) (And.intro (ly_in (by omega)) ?_)
    refine pk_eq (b q) 0 (fun e => ?_) (fun e => ?_) (ly_rd hB (by omega) hn) rfl
    · rw [ly_zr_t e] at hw
      intro y2 e2 y3 e3
      exact ih (by omega) _ _ (w + 1) (by omega) (by rw [e2, nI_1]) (by rw [e3, ly_m1s])
    · rw [ly_zr_f e] at hw
      obtain rfl : w = ly_zr b (i + 1) := hw
      exact hend
theorem ls_pack_loop {post : Int32 → SY → Prop} (hn : n ≤ 24) (hb : ∀ j, j < n → b j < 16) (hB : ∀ j, j < n → B j = nI (b j)) (hp : ∀ Cd, (∀ j, j < ly_M b n + ly_dl (ly_zr b n) → Cd j = nI (ly_C b n j)) → post (nI (ly_M b n + ly_dl (ly_zr b n))) (nI K, nI C, nI n, nI (ly_M b n + ly_dl (ly_zr b n)), B, Cd, Tm, Sa, Ea)) : ∀ d i, i + d = n → ∀ x1 m Cd, x1 = nI i → m = ly_Ym b n i → (∀ j, j < m → Cd j = nI (ly_C b n j)) → wY_pack_7 post (d + 1) x1 (nI K) (nI C) (nI n) (nI m) B Cd Tm Sa Ea := by
  intro d
  induction d with
  | zero =>
    rintro i hi x1 m Cd rfl rfl h1
    obtain rfl : i = n := by omega
    have e : ly_Ym b i i = ly_M b i + ly_dl (ly_zr b i) := if_neg (by omega)
    rw [e] at h1 ⊢
    exact pk_le i i (fun _ => hp Cd h1) (fun h => by omega)
  | succ d ih =>
    rintro i hi x1 m Cd rfl rfl h1
    have hin : i < n := by omega
    have hbi := hb i hin
    have h2 := ly_M_le b i
    have h3 := ly_dl_le (ly_zr b i)
    have h4 := ly_M_le b (i + 1)
    have h5 := ly_dl_le (ly_zr b (i + 1))
    refine pk_le n i (fun h => by omega) (fun _ => And.intro (ly_in (by omega)) ?_)
    refine pk_eq (b i) 0 (fun e => ?_) (fun e => ?_) (ly_rd hB hin hn) rfl
    · have em : ly_Ym b n i = ly_M b i := if_pos ⟨hin, e⟩
      have eM := ly_M_t e
      have ez := ly_zr_t e
      rw [em] at h1 ⊢
      have fin : (¬ (i + 1 < n ∧ b (i + 1) = 0)) → ∃ n79 : Nat, wY_pack_79 post (wY_pack_7 post (d + 1)) (nI i) (nI K) (nI C) (nI n) (nI (ly_M b i)) B Cd Tm Sa Ea n79 0 (nI i) := by
        intro hz
        have em1 : ly_Ym b n (i + 1) = ly_M b i + ly_dl (ly_zr b (i + 1)) := by
          unfold ly_Ym
          rw [if_neg hz, eM]
        refine ⟨_, ls_pk79 hn hb hB hin ?_ (i + 1) (Nat.le_refl _) _ _ 0 (Nat.zero_add _) rfl (ly_s1 rfl).symm⟩
        refine ls_num (c := ly_C b n) (by omega) (by omega) (by omega) (fun d hd => ?_) h1 (fun Cd' g => ?_)
        · rw [← eM]
          by_cases cn : i + 1 < n
          · exact ly_C_dig cn (fun z => hz ⟨cn, z⟩) hd
          · obtain rfl : n = i + 1 := by omega
            exact ly_C_end
        · intro y ey
          exact ih (i + 1) (by omega) _ _ Cd' (by rw [ey, nI_1]) em1.symm g
      rw [nI_1 i]
      refine pk_eq (i + 1) n (fun en => fin (by omega)) (fun en => And.intro (ly_in (by omega)) ?_)
      refine pk_eq (b (i + 1)) 0 (fun e1 => ?_) (fun e1 => fin (fun z => e1 z.2)) (ly_rd hB (by omega) hn) rfl (by have := hb (i + 1) (by omega); omega)
      have em1 : ly_Ym b n (i + 1) = ly_M b i := by
        unfold ly_Ym
        rw [if_pos ⟨by omega, e1⟩, eM]
      intro y ey
      exact ih (i + 1) (by omega) _ _ Cd ey em1.symm h1
    · have em : ly_Ym b n i = ly_M b i + ly_dl (ly_zr b i) := if_neg (fun z => e z.2)
      have eM := ly_M_f e
      have ez := ly_zr_f e
      have em1 : ly_Ym b n (i + 1) = ly_M b i + ly_dl (ly_zr b i) + 1 := by
        unfold ly_Ym
        rw [eM, ez]
        split <;> rfl
      rw [em] at h1 ⊢
      refine And.intro (ly_in (by omega)) (And.intro (ly_in (by omega)) ?_)
      rw [ly_rd hB hin hn]
      intro a ea y ey y2 ey2
      have ey' : y = nI (ly_M b i + ly_dl (ly_zr b i) + 1) := by rw [ey, nI_1]
      subst ey'
      refine ih (i + 1) (by omega) _ _ a (by rw [ey2, nI_1]) em1.symm (lt_s (fun j hj => ?_) ?_)
      · rw [ea, ly_un (by omega) (by omega)]; exact h1 j hj
      · rw [ea, ly_us (by omega) rfl, nI_1, ly_C_sym hin e]
theorem ls_pack {post : Int32 → SY → Prop} (hn : n ≤ 24) (hb : ∀ j, j < n → b j < 16) (hB : ∀ j, j < n → B j = nI (b j)) (hp : ∀ Cd, (∀ j, j < ly_M b n + ly_dl (ly_zr b n) → Cd j = nI (ly_C b n j)) → post (nI (ly_M b n + ly_dl (ly_zr b n))) (nI K, nI C, nI n, nI (ly_M b n + ly_dl (ly_zr b n)), B, Cd, Tm, Sa, Ea)) : wpY_pack post (nI K, nI C, nI n, nI m, B, Cd, Tm, Sa, Ea) := by
  have e : ly_Ym b n 0 = 0 := by
    unfold ly_Ym
    split <;> rfl
  exact ⟨_, ls_pack_loop hn hb hB hp n 0 (by omega) _ 0 Cd rfl e.symm (fun q h => absurd h (Nat.not_lt_zero q))⟩
end
