/-! the class: pack, unpack, the appends -/
section
variable {K C n m : Nat} {b c s : Nat → Nat} {B Cd Fs Fi La Rw Su Vi Nb Re : Nat → Int32}
theorem ly_2 : (2 : Int32) = nI 2 := rfl
theorem ly_rem2 {z : Nat} (h : z < 2 ^ 31) : nI z - nI z / 2 * 2 = nI (z % 2) := pk_rem (d := 2) h (by decide) (by decide)
theorem ly_div2 {z : Nat} (h : z < 2 ^ 31) : nI z / 2 = nI (z / 2) := pk_div (d := 2) h (by decide) (by decide)
theorem ly_mul2 (z : Nat) : nI z * 2 = nI (z * 2) := pk_mul z 2
theorem ly_sub2 {z : Nat} (h : 2 ≤ z) : nI z - 2 = nI (z - 2) := pk_sub (b := 2) h
theorem lx_appSym {post : St2 → Prop} {x : Int32} (hC : C ≤ 24) (h : n < C) (hp : ∀ B', B' = upd B n x → post (nI K, nI C, nI (n + 1), nI m, B', Cd, Fs, Fi, La, Rw, Su, Vi, Nb, Re)) : wpX_appendSymbol post (nI K, nI C, nI n, nI m, B, Cd, Fs, Fi, La, Rw, Su, Vi, Nb, Re) x := by
  refine pk_le C n (fun z => by omega) (fun _ => And.intro (ly_in (by omega)) ?_)
  intro a ea
  refine nm_r (nI_1 n) (hp a ?_)
  rw [ea, ly_cl (by omega)]
theorem lx_appTok {post : St2 → Prop} {x : Int32} (hC : C ≤ 24) (h : m < C) (hp : ∀ Cd', Cd' = upd Cd m x → post (nI K, nI C, nI n, nI (m + 1), B, Cd', Fs, Fi, La, Rw, Su, Vi, Nb, Re)) : wpX_appendToken post (nI K, nI C, nI n, nI m, B, Cd, Fs, Fi, La, Rw, Su, Vi, Nb, Re) x := by
  refine pk_le C m (fun z => by omega) (fun _ => And.intro (ly_in (by omega)) ?_)
  intro a ea
  refine nm_r (nI_1 m) (hp a ?_)
  rw [ea, ly_cl (by omega)]
theorem lx_num_loop {post : St2 → Prop} {z e1 : Nat} (hC : C ≤ 24) (hz : z ≤ 30) (he : e1 ≤ C) (hp : ∀ Cd, (∀ j, j < e1 → Cd j = nI (c j)) → post (nI K, nI C, nI n, nI e1, B, Cd, Fs, Fi, La, Rw, Su, Vi, Nb, Re)) : ∀ f r e k, r < f → e + r ≤ z → k + ly_dl r = e1 → (∀ d, d < ly_dl r → c (k + d) = ly_tok r d) → ∀ x2 x3 Cd, x2 = nI r → x3 = nI e → (∀ j, j < k → Cd j = nI (c j)) → wX_appendNumeral_4 post (nI z) f x2 x3 (nI K) (nI C) (nI n) (nI k) B Cd Fs Fi La Rw Su Vi Nb Re := by
  intro f
  induction f with
  | zero => exact fun r e k h => absurd h (Nat.not_lt_zero r)
  | succ f ih =>
    rintro r e k hrf her hke hc x2 x3 Cd rfl rfl h1
    by_cases c0 : r = 0
    · subst c0
      obtain rfl : k = e1 := hke
      exact pk_le z e (fun _ => hp Cd h1) (fun _ => pk_le 0 0 (fun _ => hp Cd h1) (fun h => by omega))
    · have hs := ly_dl_s (z := r) (by omega) (by omega)
      have ht := hc 0 (by omega)
      rw [ly_tok_0, Nat.add_zero] at ht
      have hc2 : ∀ d, d < ly_dl ((r - 1) / 2) → c (k + 1 + d) = ly_tok ((r - 1) / 2) d := fun d hd => by
        have := hc (d + 1) (by omega)
        rw [ly_tok_s (by omega)] at this
        rw [← this]
        exact congrArg c (by omega)
      refine pk_le z e (fun h => by omega) (fun _ => pk_le r 0 (fun h => by omega) (fun _ => And.intro (by decide) ?_))
      rw [ly_rem2 (by omega)]
      refine pk_eq (r % 2) 1 (fun h => ?_) (fun h => ?_)
      · refine lx_appTok hC (by omega) (fun Cd' e' => And.intro (by decide) ?_)
        intro y2 e2 y3 e3
        refine ih ((r - 1) / 2) (e + 1) (k + 1) (by omega) (by omega) (by omega) hc2 _ _ Cd' ?_ (by rw [e3, nI_1]) (lt_s (fun j hj => ?_) ?_)
        · rw [e2, ly_s1 (b := r - 1) (by omega), ly_div2 (by omega)]
        · rw [e', pk_un (by omega)]; exact h1 j hj
        · have e0 : (r + 1) % 2 = 0 := by omega
          rw [e', pk_us, ht, e0]; rfl
      · refine lx_appTok hC (by omega) (fun Cd' e' => And.intro (by decide) ?_)
        intro y2 e2 y3 e3
        refine ih ((r - 1) / 2) (e + 1) (k + 1) (by omega) (by omega) (by omega) hc2 _ _ Cd' ?_ (by rw [e3, nI_1]) (lt_s (fun j hj => ?_) ?_)
        · rw [e2, ly_sub2 (by omega), ly_div2 (by omega)]; exact ly_eq2 (by omega)
        · rw [e', pk_un (by omega)]; exact h1 j hj
        · have e0 : (r + 1) % 2 = 1 := by omega
          rw [e', pk_us, ht, e0]; rfl
theorem lx_num {post : St2 → Prop} {z : Nat} (hC : C ≤ 24) (hz : z ≤ 30) (he : m + ly_dl z ≤ C) (hc : ∀ d, d < ly_dl z → c (m + d) = ly_tok z d) (h1 : ∀ j, j < m → Cd j = nI (c j)) (hp : ∀ Cd, (∀ j, j < m + ly_dl z → Cd j = nI (c j)) → post (nI K, nI C, nI n, nI (m + ly_dl z), B, Cd, Fs, Fi, La, Rw, Su, Vi, Nb, Re)) : wpX_appendNumeral post (nI K, nI C, nI n, nI m, B, Cd, Fs, Fi, La, Rw, Su, Vi, Nb, Re) (nI z) :=
  ⟨_, lx_num_loop hC hz he hp (z + 1) z 0 m (by omega) (by omega) rfl hc _ _ Cd rfl rfl h1⟩
theorem lx_pack_loop {post : Int32 → St2 → Prop} (hC : C ≤ 24) (hn : n ≤ C) (hb : ∀ j, j < n → b j < 16) (hB : ∀ j, j < n → B j = nI (b j)) (hp : ∀ Cd, (∀ j, j < ly_M b n + ly_dl (ly_zr b n) → Cd j = nI (ly_C b n j)) → post (nI (ly_M b n + ly_dl (ly_zr b n))) (nI K, nI C, nI n, nI (ly_M b n + ly_dl (ly_zr b n)), B, Cd, Fs, Fi, La, Rw, Su, Vi, Nb, Re)) : ∀ d i, i + d = n → ∀ x1 x2 m Cd, x1 = nI (ly_zr b i) → x2 = nI i → m = ly_M b i → (∀ j, j < m → Cd j = nI (ly_C b n j)) → wX_pack_9 post (d + 1) x1 x2 (nI K) (nI C) (nI n) (nI m) B Cd Fs Fi La Rw Su Vi Nb Re := by
  intro d
  induction d with
  | zero =>
    rintro i hi x1 x2 m Cd rfl rfl rfl h1
    obtain rfl : i = n := by omega
    have h2 := ly_M_le b i
    have h3 := ly_dl_le (ly_zr b i)
    refine pk_le i i (fun _ => ?_) (fun h => by omega)
    exact lx_num hC (by omega) (by omega) (fun d _ => ly_C_end) h1 (fun Cd' h => hp Cd' h)
  | succ d ih =>
    rintro i hi x1 x2 m Cd rfl rfl rfl h1
    have h2 := ly_M_le b i
    have h3 := ly_dl_le (ly_zr b i)
    have hbi := hb i (by omega)
    refine pk_le n i (fun h => by omega) (fun _ => And.intro (ly_in (by omega)) ?_)
    refine pk_eq (b i) 0 (fun e => ?_) (fun e => ?_) (ly_rd hB (by omega) (by omega)) rfl
    · intro y1 e1 y2 e2
      refine ih (i + 1) (by omega) _ _ _ Cd ?_ (by rw [e2, nI_1]) (ly_M_t e).symm h1
      rw [e1, nI_1, ly_zr_t e]
    · refine lx_num hC (by omega) (by omega) (fun d hd => ly_C_dig (by omega) e hd) h1 (fun Cd' h => ?_)
      refine And.intro (ly_in (by omega)) ?_
      rw [ly_rd hB (by omega) (by omega), nI_1 (b i)]
      refine lx_appTok hC (by omega) (fun Cd'' e'' => ?_)
      intro y2 e2
      refine ih (i + 1) (by omega) _ _ _ Cd'' ?_ (by rw [e2, nI_1]) (ly_M_f e).symm (lt_s (fun j hj => ?_) ?_)
      · rw [ly_zr_f e]; rfl
      · rw [e'', pk_un (by omega)]; exact h j hj
      · rw [e'', pk_us, ly_C_sym (by omega) e]
theorem lx_pack {post : Int32 → St2 → Prop} (hC : C ≤ 24) (hn : n ≤ C) (hb : ∀ j, j < n → b j < 16) (hB : ∀ j, j < n → B j = nI (b j)) (hp : ∀ Cd, (∀ j, j < ly_M b n + ly_dl (ly_zr b n) → Cd j = nI (ly_C b n j)) → post (nI (ly_M b n + ly_dl (ly_zr b n))) (nI K, nI C, nI n, nI (ly_M b n + ly_dl (ly_zr b n)), B, Cd, Fs, Fi, La, Rw, Su, Vi, Nb, Re)) : wpX_pack post (nI K, nI C, nI n, nI m, B, Cd, Fs, Fi, La, Rw, Su, Vi, Nb, Re) :=
  ⟨_, lx_pack_loop hC hn hb hB hp n 0 (by omega) _ _ 0 Cd rfl rfl rfl (fun q h => absurd h (Nat.not_lt_zero q))⟩
theorem ly_D_31 {i : Nat} (h : i ≤ 24) : ly_D c i < 2 ^ 30 := by
  have h1 := ly_D_le c i
  have h2 : 2 ^ (i + 1) ≤ 2 ^ 25 := Nat.pow_le_pow_right (by decide) (by omega)
  omega
theorem lx_dec_loop {post : Int32 → Prop} (hm : m ≤ 24) (hc : ∀ j, j < m → c j ≤ 16) (hCd : ∀ j, j < m → Cd j = nI (c j)) (hp : post (nI (ly_D c m))) : ∀ d i, i + d = m → ∀ x1 x2 x3, x1 = nI (ly_D c i) → x2 = nI (ly_w c i) → x3 = nI i → wX_decodedLength_6 post (nI K) (nI C) (nI n) (nI m) B Cd Fs Fi La Rw Su Vi Nb Re (d + 1) x1 x2 x3 := by
  intro d
  induction d with
  | zero =>
    rintro i hi x1 x2 x3 rfl rfl rfl
    obtain rfl : i = m := by omega
    exact pk_le i i (fun _ => hp) (fun h => by omega)
  | succ d ih =>
    rintro i hi x1 x2 x3 rfl rfl rfl
    have hci := hc i (by omega)
    refine pk_le m i (fun h => by omega) (fun _ => And.intro (ly_in (by omega)) ?_)
    rw [ly_rd hCd (by omega) hm]
    refine pk_lt (c i) 2 (fun h => And.intro (ly_in (by omega)) ?_) (fun h => ?_)
    · intro y1 e1 y2 e2 y3 e3
      refine ih (i + 1) (by omega) _ _ _ ?_ ?_ (by rw [e3, nI_1])
      · rw [e1, nI_1, pk_mul, nI_add, ly_D_f (by omega)]
      · rw [e2, ly_mul2, ly_w_f (by omega)]
    · intro y1 e1 y3 e3
      refine ih (i + 1) (by omega) _ _ _ ?_ ?_ (by rw [e3, nI_1])
      · rw [e1, nI_1, ly_D_t h]
      · rw [ly_w_t h]; rfl
theorem lx_dec {post : Int32 → Prop} (hm : m ≤ 24) (hc : ∀ j, j < m → c j ≤ 16) (hCd : ∀ j, j < m → Cd j = nI (c j)) (hp : post (nI (ly_D c m))) : wpX_decodedLength post (nI K, nI C, nI n, nI m, B, Cd, Fs, Fi, La, Rw, Su, Vi, Nb, Re) :=
  ⟨_, lx_dec_loop hm hc hCd hp m 0 (by omega) _ _ _ rfl rfl rfl⟩
theorem lx_zeros_loop {post : St2 → Prop} {n0 q : Nat} (hC : C ≤ 24) (hq : n0 + q ≤ C) (hs : ∀ j, n0 ≤ j → j < n0 + q → s j = 0) (hp : ∀ B, (∀ j, j < n0 + q → B j = nI (s j)) → post (nI K, nI C, nI (n0 + q), nI m, B, Cd, Fs, Fi, La, Rw, Su, Vi, Nb, Re)) : ∀ d k, k + d = q → ∀ x2 n B, x2 = nI k → n = n0 + k → (∀ j, j < n0 + k → B j = nI (s j)) → wX_appendZeros_2 post (nI q) (d + 1) x2 (nI K) (nI C) (nI n) (nI m) B Cd Fs Fi La Rw Su Vi Nb Re := by
  intro d
  induction d with
  | zero =>
    rintro k hk x2 n B rfl rfl h1
    obtain rfl : k = q := by omega
    exact pk_le k k (fun _ => hp B h1) (fun h => by omega)
  | succ d ih =>
    rintro k hk x2 n B rfl rfl h1
    refine pk_le q k (fun h => by omega) (fun _ => lx_appSym hC (by omega) (fun B' e' => ?_))
    intro y ey
    refine ih (k + 1) (by omega) _ _ B' (by rw [ey, nI_1]) rfl (fun j hj => ?_)
    by_cases z : j = n0 + k
    · rw [e', z, pk_us, hs _ (by omega) (by omega)]; rfl
    · rw [e', pk_un z]; exact h1 j (by omega)
theorem lx_zeros {post : St2 → Prop} {q : Nat} (hC : C ≤ 24) (hq : n + q ≤ C) (hs : ∀ j, n ≤ j → j < n + q → s j = 0) (h1 : ∀ j, j < n → B j = nI (s j)) (hp : ∀ B, (∀ j, j < n + q → B j = nI (s j)) → post (nI K, nI C, nI (n + q), nI m, B, Cd, Fs, Fi, La, Rw, Su, Vi, Nb, Re)) : wpX_appendZeros post (nI K, nI C, nI n, nI m, B, Cd, Fs, Fi, La, Rw, Su, Vi, Nb, Re) (nI q) :=
  ⟨_, lx_zeros_loop hC hq hs hp q 0 (by omega) _ _ B rfl rfl h1⟩
theorem lx_unp_loop {post : Int32 → St2 → Prop} {x : Int32} (hC : C ≤ 24) (hm : m ≤ C) (hd : ly_D c m ≤ C) (hc : ∀ j, j < m → c j ≤ 16) (hCd : ∀ j, j < m → Cd j = nI (c j)) (hp : ∀ B, (∀ j, j < ly_D c m → B j = nI (ly_S c m j)) → post x (nI K, nI C, nI (ly_D c m), nI m, B, Cd, Fs, Fi, La, Rw, Su, Vi, Nb, Re)) : ∀ d i, i + d = m → ∀ x2 x3 n B, x2 = nI (ly_w c i) → x3 = nI i → n = ly_D c i → (∀ j, j < n → B j = nI (ly_S c m j)) → wX_unpack_25 post x (d + 1) x2 x3 (nI K) (nI C) (nI n) (nI m) B Cd Fs Fi La Rw Su Vi Nb Re := by
  intro d
  induction d with
  | zero =>
    rintro i hi x2 x3 n B rfl rfl rfl h1
    obtain rfl : i = m := by omega
    exact pk_le i i (fun _ => hp B h1) (fun h => by omega)
  | succ d ih =>
    rintro i hi x2 x3 n B rfl rfl rfl h1
    have hci := hc i (by omega)
    have hmo := ly_D_mono c (i := i + 1) (j := m) (by omega)
    refine pk_le m i (fun h => by omega) (fun _ => And.intro (ly_in (by omega)) ?_)
    rw [ly_rd hCd (by omega) (by omega)]
    refine pk_lt (c i) 2 (fun h => And.intro (ly_in (by omega)) ?_) (fun h => And.intro (ly_in (by omega)) ?_)
    · have e := ly_D_f (c := c) (i := i) (by omega)
      rw [nI_1 (c i), pk_mul (c i + 1) (ly_w c i)]
      refine lx_zeros hC (by omega) (fun j j1 j2 => ly_S_dig (i := i) (by omega) (by omega) j1 (by omega)) h1 (fun B' h => ?_)
      intro y2 e2 y3 e3
      refine ih (i + 1) (by omega) _ _ _ B' ?_ (by rw [e3, nI_1]) e.symm h
      rw [e2, ly_mul2, ly_w_f (by omega)]
    · have e := ly_D_t (c := c) (i := i) h
      rw [ly_s1 (b := c i - 1) (by omega)]
      refine lx_appSym hC (by omega) (fun B' e' => ?_)
      intro y3 e3
      refine ih (i + 1) (by omega) _ _ _ B' ?_ (by rw [e3, nI_1]) e.symm (lt_s (fun j hj => ?_) ?_)
      · rw [ly_w_t h]; rfl
      · rw [e', pk_un (by omega)]; exact h1 j hj
      · rw [e', pk_us, ly_S_sym (by omega) h]
theorem lx_unpack {post : Int32 → St2 → Prop} (hC : C ≤ 24) (hm : m ≤ C) (hc : ∀ j, j < m → c j ≤ 16) (hCd : ∀ j, j < m → Cd j = nI (c j)) (hy : ly_D c m ≤ C → ∀ B, (∀ j, j < ly_D c m → B j = nI (ly_S c m j)) → post (nI (ly_D c m)) (nI K, nI C, nI (ly_D c m), nI m, B, Cd, Fs, Fi, La, Rw, Su, Vi, Nb, Re)) (hno : C < ly_D c m → post (-4) (nI K, nI C, nI n, nI m, B, Cd, Fs, Fi, La, Rw, Su, Vi, Nb, Re)) : wpX_unpack post (nI K, nI C, nI n, nI m, B, Cd, Fs, Fi, La, Rw, Su, Vi, Nb, Re) := by
  have h1 := ly_D_31 (c := c) (i := m) (by omega)
  refine lx_dec (by omega) hc hCd ?_
  refine pk_le (ly_D c m) C (fun h => ?_) (fun h => hno h)
  exact ⟨_, lx_unp_loop hC hm h hc hCd (hy h) m 0 (by omega) _ _ 0 B rfl rfl rfl (fun q h => absurd h (Nat.not_lt_zero q))⟩
end
