/-! the law -/
section
def lz_Q (u t : St2) : Prop := ∃ (K C n m : Nat) (b c : Nat → Nat), ly_Num K C n m b c ∧ ly_XS K C n m b c u ∧ ly_XS K C n m b c t
theorem lz_two {W : (Int32 → St2 → Prop) → St2 → Prop} (hW : ∀ {K C n m : Nat} {b c : Nat → Nat}, ly_Num K C n m b c → lz_M K C n m b c W) {G : (Int32 → Int32 → Int32 → Int32 → (Nat → Int32) → (Nat → Int32) → (Nat → Int32) → (Nat → Int32) → (Nat → Int32) → (Nat → Int32) → (Nat → Int32) → (Nat → Int32) → (Nat → Int32) → (Nat → Int32) → Int32 → Int32 → Int32 → Int32 → (Nat → Int32) → (Nat → Int32) → (Nat → Int32) → (Nat → Int32) → (Nat → Int32) → (Nat → Int32) → (Nat → Int32) → (Nat → Int32) → (Nat → Int32) → (Nat → Int32) → Prop)} (hG : ∀ (p1 p2 p3 p4 : Int32) (A1 A2 A3 A4 A5 A6 A7 A8 A9 A10 : Nat → Int32) (q1 q2 q3 q4 : Int32) (T1 T2 T3 T4 T5 T6 T7 T8 T9 T10 : Nat → Int32), lz_Q (p1, p2, p3, p4, A1, A2, A3, A4, A5, A6, A7, A8, A9, A10) (q1, q2, q3, q4, T1, T2, T3, T4, T5, T6, T7, T8, T9, T10) → G p1 p2 p3 p4 A1 A2 A3 A4 A5 A6 A7 A8 A9 A10 q1 q2 q3 q4 T1 T2 T3 T4 T5 T6 T7 T8 T9 T10) {u t : St2} (q : lz_Q u t) : W (fun _ u => match u with | (p1, p2, p3, p4, A1, A2, A3, A4, A5, A6, A7, A8, A9, A10) => W (fun _ t => match t with | (q1, q2, q3, q4, T1, T2, T3, T4, T5, T6, T7, T8, T9, T10) => G p1 p2 p3 p4 A1 A2 A3 A4 A5 A6 A7 A8 A9 A10 q1 q2 q3 q4 T1 T2 T3 T4 T5 T6 T7 T8 T9 T10) t) u := by
  obtain ⟨K, C, n, m, b, c, N, hu, ht⟩ := q
  obtain ⟨r, n', m', b', c', N', H⟩ := hW N
  refine H u hu _ (fun u' hu' => ?_)
  obtain ⟨p1, p2, p3, p4, A1, A2, A3, A4, A5, A6, A7, A8, A9, A10⟩ := u'
  refine H t ht _ (fun t' ht' => ?_)
  obtain ⟨q1, q2, q3, q4, T1, T2, T3, T4, T5, T6, T7, T8, T9, T10⟩ := t'
  exact hG _ _ _ _ _ _ _ _ _ _ _ _ _ _ _ _ _ _ _ _ _ _ _ _ _ _ _ _ ⟨K, C, n', m', b', c', N', hu', ht'⟩
theorem lz_cell {post : Int32 → Prop} {L : Nat} {xs : Nat → Int32} {k : Nat} (hL : L ≤ 260) (hk : k < 2 ^ 31) (hp : ∀ r, post r) : wpL_cell post L xs () (nI k) := by
  refine pk_le L k (fun _ => hp _) (fun h => And.intro (vp_in_nI h (by omega)) (hp _)) rfl rfl
theorem lz_mod {post : Int32 → Prop} {x : Int32} {q : Nat} (hq : 0 < q) (hq2 : q < 2 ^ 31) (hp : ∀ j, j < q → post (nI j)) : wpL_mod post () x (nI q) := by
  obtain ⟨a, ha, ea⟩ := pk_andE x (m := 2147483647) 31 (by decide)
  refine And.intro (nI_ne0 hq hq2) ?_
  rw [ea, pk_rem (by omega) hq hq2]
  exact hp _ (Nat.mod_lt a hq)
theorem lz_mix {post : Int32 → Prop} {x : Int32} (hp : ∀ r, post r) : wpL_mix post () x :=
  fun _ _ _ _ _ _ _ _ _ _ => hp _
theorem lz_letter {post : Int32 → Prop} {h i : Int32} {p w : Nat} (hp0 : 0 < p) (hp1 : p < 2 ^ 31) (hw0 : 0 < w) (hw1 : w < 2 ^ 31) (hp : ∀ r, post r) : wpL_letter post () h i (nI p) (nI w) :=
  And.intro (nI_ne0 hp0 hp1) (lz_mix (fun _ => lz_mod hw0 hw1 (fun _ _ => hp _)))
theorem lz_m1p (k : Nat) {y : Int32} (e : y = nI k - 1 + 1) : y = nI (k + 1) - 1 := by
  rw [e, ly_s1 (b := k) rfl, Int32.sub_add_cancel]
theorem lz_24 {k : Nat} (h : k < 26) : ¬ (24 : Int32) < nI k - 1 := by
  cases k with
  | zero => decide
  | succ k =>
    rw [ly_s1 (b := k) rfl]
    exact nI_nlt (a := 24) (b := k) (by omega) (by decide)
theorem lz_25 : (24 : Int32) < nI 26 - 1 := by decide
variable {post : Int32 → Prop} {L : Nat} {xs : Nat → Int32} {J76 J585 : (Int32 → Int32 → Int32 → Int32 → Int32 → (Nat → Int32) → (Nat → Int32) → (Nat → Int32) → (Nat → Int32) → (Nat → Int32) → (Nat → Int32) → (Nat → Int32) → (Nat → Int32) → (Nat → Int32) → (Nat → Int32) → Int32 → Int32 → Int32 → Int32 → (Nat → Int32) → (Nat → Int32) → (Nat → Int32) → (Nat → Int32) → (Nat → Int32) → (Nat → Int32) → (Nat → Int32) → (Nat → Int32) → (Nat → Int32) → (Nat → Int32) → Prop)} {x3 x6 x7 x9 x10 x11 x12 x13 x14 : Int32} {kc ks : Nat} {K C n m : Nat} {b b1 c : Nat → Nat}
theorem lz_773 (N : ly_Num K C n m b c) (hJ : ∀ (p1 p2 p3 p4 : Int32) (A1 A2 A3 A4 A5 A6 A7 A8 A9 A10 : Nat → Int32) (q1 q2 q3 q4 : Int32) (T1 T2 T3 T4 T5 T6 T7 T8 T9 T10 : Nat → Int32), lz_Q (p1, p2, p3, p4, A1, A2, A3, A4, A5, A6, A7, A8, A9, A10) (q1, q2, q3, q4, T1, T2, T3, T4, T5, T6, T7, T8, T9, T10) → J585 (x10 + 1) p1 p2 p3 p4 A1 A2 A3 A4 A5 A6 A7 A8 A9 A10 q1 q2 q3 q4 T1 T2 T3 T4 T5 T6 T7 T8 T9 T10) : ∀ d k, k + d = 26 → ∀ x15 (p1 p2 p3 p4 : Int32) (A1 A2 A3 A4 A5 A6 A7 A8 A9 A10 : Nat → Int32) (q1 q2 q3 q4 : Int32) (T1 T2 T3 T4 T5 T6 T7 T8 T9 T10 : Nat → Int32), x15 = nI k - 1 → ly_XS K C n m b c (p1, p2, p3, p4, A1, A2, A3, A4, A5, A6, A7, A8, A9, A10) → ly_XS K C n m b c (q1, q2, q3, q4, T1, T2, T3, T4, T5, T6, T7, T8, T9, T10) → wL_law_773 post L xs J76 J585 x3 x6 x10 kc ks (d + 1) x15 p1 p2 p3 p4 A1 A2 A3 A4 A5 A6 A7 A8 A9 A10 q1 q2 q3 q4 T1 T2 T3 T4 T5 T6 T7 T8 T9 T10 := by
  have hn : n ≤ 24 := by obtain ⟨K1, K2, C1, C2, hn, hm, hb, hc⟩ := N; omega
  have hm : m ≤ 24 := by obtain ⟨K1, K2, C1, C2, hn, hm, hb, hc⟩ := N; omega
  intro d
  induction d with
  | zero =>
    intro k hk x15 p1 p2 p3 p4 A1 A2 A3 A4 A5 A6 A7 A8 A9 A10 q1 q2 q3 q4 T1 T2 T3 T4 T5 T6 T7 T8 T9 T10 ex hu ht
    obtain rfl : k = 26 := by omega
    subst ex
    exact br_t lz_25 (nm_e (hJ _ _ _ _ _ _ _ _ _ _ _ _ _ _ _ _ _ _ _ _ _ _ _ _ _ _ _ _ ⟨K, C, n, m, b, c, N, hu, ht⟩))
  | succ d ih =>
    intro k hk x15 p1 p2 p3 p4 A1 A2 A3 A4 A5 A6 A7 A8 A9 A10 q1 q2 q3 q4 T1 T2 T3 T4 T5 T6 T7 T8 T9 T10 ex hu ht
    subst ex
    refine br_f (lz_24 (by omega)) ?_
    obtain ⟨r1, H1⟩ := lz_at (K := K) (C := C) (m := m) (b := b) (c := c) hn (nI k - 1)
    refine H1 _ hu _ (H1 _ ht _ (br_t rfl ?_))
    obtain ⟨r2, H2⟩ := lz_codeAt (K := K) (C := C) (n := n) (c := c) hm (nI k - 1)
    refine H2 b _ hu _ (H2 b _ ht _ (br_t rfl ?_))
    obtain ⟨r3, H3⟩ := lz_limit (K := K) (C := C) (n := n) (m := m) (c := c) (nI k - 1)
    refine H3 b _ hu _ (H3 b _ ht _ (br_t rfl ?_))
    obtain ⟨r4, H4⟩ := lz_factorStart N (nI k - 1)
    refine H4 _ hu _ (fun u1 hu1 => ?_)
    obtain ⟨p1, p2, p3, p4, A1, A2, A3, A4, A5, A6, A7, A8, A9, A10⟩ := u1
    refine H4 _ ht _ (fun t1 ht1 => ?_)
    obtain ⟨q1, q2, q3, q4, T1, T2, T3, T4, T5, T6, T7, T8, T9, T10⟩ := t1
    refine br_t rfl ?_
    obtain ⟨r5, H5⟩ := lz_rowAt N (nI k - 1)
    refine H5 _ hu1 _ (fun u2 hu2 => ?_)
    obtain ⟨p1, p2, p3, p4, A1, A2, A3, A4, A5, A6, A7, A8, A9, A10⟩ := u2
    refine H5 _ ht1 _ (fun t2 ht2 => ?_)
    obtain ⟨q1, q2, q3, q4, T1, T2, T3, T4, T5, T6, T7, T8, T9, T10⟩ := t2
    refine br_t rfl ?_
    intro y ey
    exact ih (k + 1) (by omega) _ _ _ _ _ _ _ _ _ _ _ _ _ _ _ _ _ _ _ _ _ _ _ _ _ _ _ _ _ (lz_m1p k ey) hu2 ht2
theorem lz_739 {p1 p2 p3 p4 : Int32} {A1 A2 A3 A4 A5 A6 A7 A8 A9 A10 : Nat → Int32} {q1 q2 q3 q4 : Int32} {T1 T2 T3 T4 T5 T6 T7 T8 T9 T10 : Nat → Int32} (N : ly_Num K C n m b c) (hu : ly_XS K C n m b c (p1, p2, p3, p4, A1, A2, A3, A4, A5, A6, A7, A8, A9, A10)) (ht : ly_XS K C n m b c (q1, q2, q3, q4, T1, T2, T3, T4, T5, T6, T7, T8, T9, T10)) (hJ : ∀ (p1 p2 p3 p4 : Int32) (A1 A2 A3 A4 A5 A6 A7 A8 A9 A10 : Nat → Int32) (q1 q2 q3 q4 : Int32) (T1 T2 T3 T4 T5 T6 T7 T8 T9 T10 : Nat → Int32), lz_Q (p1, p2, p3, p4, A1, A2, A3, A4, A5, A6, A7, A8, A9, A10) (q1, q2, q3, q4, T1, T2, T3, T4, T5, T6, T7, T8, T9, T10) → J585 (x10 + 1) p1 p2 p3 p4 A1 A2 A3 A4 A5 A6 A7 A8 A9 A10 q1 q2 q3 q4 T1 T2 T3 T4 T5 T6 T7 T8 T9 T10) : wL_law_739 post L xs J76 J585 x3 x6 x10 (nI n) (nI m) x13 x13 kc ks p1 p2 p3 p4 A1 A2 A3 A4 A5 A6 A7 A8 A9 A10 q1 q2 q3 q4 T1 T2 T3 T4 T5 T6 T7 T8 T9 T10 := by
  refine br_t rfl (lz_length hu (br_t rfl (lz_codeLength hu (br_t rfl ?_))))
  exact ⟨_, lz_773 N hJ 26 0 rfl _ _ _ _ _ _ _ _ _ _ _ _ _ _ _ _ _ _ _ _ _ _ _ _ _ _ _ _ _ rfl hu ht⟩
theorem lz_662 {p1 p2 p3 p4 : Int32} {A1 A2 A3 A4 A5 A6 A7 A8 A9 A10 : Nat → Int32} {q1 q2 q3 q4 : Int32} {T1 T2 T3 T4 T5 T6 T7 T8 T9 T10 : Nat → Int32} (hm : m ≤ 24) (hu : ly_XS K C n m b1 c (p1, p2, p3, p4, A1, A2, A3, A4, A5, A6, A7, A8, A9, A10)) (ht : ly_XS K C n m b c (q1, q2, q3, q4, T1, T2, T3, T4, T5, T6, T7, T8, T9, T10)) (hE : (x10 = 1 → wpX_invert (fun r u => match u with | (p1, p2, p3, p4, A1, A2, A3, A4, A5, A6, A7, A8, A9, A10) => wL_law_726 post L xs J76 J585 x3 x6 x10 x11 x12 x13 r kc ks p1 p2 p3 p4 A1 A2 A3 A4 A5 A6 A7 A8 A9 A10 q1 q2 q3 q4 T1 T2 T3 T4 T5 T6 T7 T8 T9 T10) (p1, p2, p3, p4, A1, A2, A3, A4, A5, A6, A7, A8, A9, A10)) ∧ (¬ x10 = 1 → wL_law_726 post L xs J76 J585 x3 x6 x10 x11 x12 x13 x14 kc ks p1 p2 p3 p4 A1 A2 A3 A4 A5 A6 A7 A8 A9 A10 q1 q2 q3 q4 T1 T2 T3 T4 T5 T6 T7 T8 T9 T10)) : ∀ d k, k + d = 26 → ∀ x15, x15 = nI k - 1 → wL_law_662 post L xs J76 J585 x3 x6 x10 x11 x12 x13 x14 kc ks p1 p2 p3 p4 A1 A2 A3 A4 A5 A6 A7 A8 A9 A10 q1 q2 q3 q4 T1 T2 T3 T4 T5 T6 T7 T8 T9 T10 (d + 1) x15 := by
  intro d
  induction d with
  | zero =>
    intro k hk x15 ex
    obtain rfl : k = 26 := by omega
    subst ex
    exact br_t lz_25 hE
  | succ d ih =>
    intro k hk x15 ex
    subst ex
    refine br_f (lz_24 (by omega)) ?_
    obtain ⟨r2, H2⟩ := lz_codeAt (K := K) (C := C) (n := n) (c := c) hm (nI k - 1)
    refine H2 b1 _ hu _ (H2 b _ ht _ (br_t rfl ?_))
    obtain ⟨r3, H3⟩ := lz_limit (K := K) (C := C) (n := n) (m := m) (c := c) (nI k - 1)
    refine H3 b1 _ hu _ (H3 b _ ht _ (br_t rfl ?_))
    intro y ey
    exact ih (k + 1) (by omega) _ (lz_m1p k ey)
theorem lz_637 {p1 p2 p3 p4 : Int32} {A1 A2 A3 A4 A5 A6 A7 A8 A9 A10 : Nat → Int32} {q1 q2 q3 q4 : Int32} {T1 T2 T3 T4 T5 T6 T7 T8 T9 T10 : Nat → Int32} (hm : m ≤ 24) (hu : ly_XS K C n m b1 c (p1, p2, p3, p4, A1, A2, A3, A4, A5, A6, A7, A8, A9, A10)) (ht : ly_XS K C n m b c (q1, q2, q3, q4, T1, T2, T3, T4, T5, T6, T7, T8, T9, T10)) (hE : (x10 = 1 → wpX_invert (fun r u => match u with | (p1, p2, p3, p4, A1, A2, A3, A4, A5, A6, A7, A8, A9, A10) => wL_law_726 post L xs J76 J585 x3 x6 x10 (nI n) (nI m) x13 r kc ks p1 p2 p3 p4 A1 A2 A3 A4 A5 A6 A7 A8 A9 A10 q1 q2 q3 q4 T1 T2 T3 T4 T5 T6 T7 T8 T9 T10) (p1, p2, p3, p4, A1, A2, A3, A4, A5, A6, A7, A8, A9, A10)) ∧ (¬ x10 = 1 → wL_law_726 post L xs J76 J585 x3 x6 x10 (nI n) (nI m) x13 x14 kc ks p1 p2 p3 p4 A1 A2 A3 A4 A5 A6 A7 A8 A9 A10 q1 q2 q3 q4 T1 T2 T3 T4 T5 T6 T7 T8 T9 T10)) : wL_law_637 post L xs J76 J585 x3 x6 x10 (nI n) (nI m) x13 x14 kc ks p1 p2 p3 p4 A1 A2 A3 A4 A5 A6 A7 A8 A9 A10 q1 q2 q3 q4 T1 T2 T3 T4 T5 T6 T7 T8 T9 T10 := by
  unfold wL_law_637
  refine lz_length hu (br_t rfl (lz_codeLength hu (br_t rfl ?_)))
  exact ⟨_, lz_662 hm hu ht hE 26 0 rfl _ rfl⟩
/-- a phase of the check -/
theorem lz_585 (hJ : ∀ (p1 p2 p3 p4 : Int32) (A1 A2 A3 A4 A5 A6 A7 A8 A9 A10 : Nat → Int32) (q1 q2 q3 q4 : Int32) (T1 T2 T3 T4 T5 T6 T7 T8 T9 T10 : Nat → Int32), lz_Q (p1, p2, p3, p4, A1, A2, A3, A4, A5, A6, A7, A8, A9, A10) (q1, q2, q3, q4, T1, T2, T3, T4, T5, T6, T7, T8, T9, T10) → J76 (x6 + 2) p1 p2 p3 p4 A1 A2 A3 A4 A5 A6 A7 A8 A9 A10 q1 q2 q3 q4 T1 T2 T3 T4 T5 T6 T7 T8 T9 T10) : ∀ d k, k + d = 3 → ∀ x10 (p1 p2 p3 p4 : Int32) (A1 A2 A3 A4 A5 A6 A7 A8 A9 A10 : Nat → Int32) (q1 q2 q3 q4 : Int32) (T1 T2 T3 T4 T5 T6 T7 T8 T9 T10 : Nat → Int32), x10 = nI k → lz_Q (p1, p2, p3, p4, A1, A2, A3, A4, A5, A6, A7, A8, A9, A10) (q1, q2, q3, q4, T1, T2, T3, T4, T5, T6, T7, T8, T9, T10) → wL_law_585 post L xs J76 x3 x6 kc ks (d + 1) x10 p1 p2 p3 p4 A1 A2 A3 A4 A5 A6 A7 A8 A9 A10 q1 q2 q3 q4 T1 T2 T3 T4 T5 T6 T7 T8 T9 T10 := by
  intro d
  induction d with
  | zero =>
    intro k hk x10 p1 p2 p3 p4 A1 A2 A3 A4 A5 A6 A7 A8 A9 A10 q1 q2 q3 q4 T1 T2 T3 T4 T5 T6 T7 T8 T9 T10 ex q
    obtain rfl : k = 3 := by omega
    subst ex
    exact pk_le 3 3 (fun _ => nm_e (hJ _ _ _ _ _ _ _ _ _ _ _ _ _ _ _ _ _ _ _ _ _ _ _ _ _ _ _ _ q)) (fun h => by omega)
  | succ d ih =>
    intro k hk x10 p1 p2 p3 p4 A1 A2 A3 A4 A5 A6 A7 A8 A9 A10 q1 q2 q3 q4 T1 T2 T3 T4 T5 T6 T7 T8 T9 T10 ex q
    subst ex
    have hJ5 : ∀ (p1 p2 p3 p4 : Int32) (A1 A2 A3 A4 A5 A6 A7 A8 A9 A10 : Nat → Int32) (q1 q2 q3 q4 : Int32) (T1 T2 T3 T4 T5 T6 T7 T8 T9 T10 : Nat → Int32), lz_Q (p1, p2, p3, p4, A1, A2, A3, A4, A5, A6, A7, A8, A9, A10) (q1, q2, q3, q4, T1, T2, T3, T4, T5, T6, T7, T8, T9, T10) → wL_law_585 post L xs J76 x3 x6 kc ks (d + 1) (nI k + 1) p1 p2 p3 p4 A1 A2 A3 A4 A5 A6 A7 A8 A9 A10 q1 q2 q3 q4 T1 T2 T3 T4 T5 T6 T7 T8 T9 T10 := by
      intro p1 p2 p3 p4 A1 A2 A3 A4 A5 A6 A7 A8 A9 A10 q1 q2 q3 q4 T1 T2 T3 T4 T5 T6 T7 T8 T9 T10 q
      exact ih (k + 1) (by omega) _ _ _ _ _ _ _ _ _ _ _ _ _ _ _ _ _ _ _ _ _ _ _ _ _ _ _ _ _ (nI_1 k) q
    obtain ⟨K, C, n, m, b, c, N, hu, ht⟩ := q
    have hm : m ≤ 24 := by obtain ⟨K1, K2, C1, C2, hn, hm, hb, hc⟩ := N; omega
    refine pk_le 3 k (fun h => by omega) (fun _ => lz_length ht (lz_codeLength ht ?_))
    by_cases c1 : k = 1
    · subst c1
      obtain ⟨r, b1, H1, H2⟩ := lz_pair1 N
      refine br_t rfl (H1 _ hu _ (fun u' hu' => ?_))
      obtain ⟨p1, p2, p3, p4, A1, A2, A3, A4, A5, A6, A7, A8, A9, A10⟩ := u'
      refine br_f (by decide) (lz_637 hm hu' ht (br_t rfl (H2 _ hu' _ (fun u2 hu2 => ?_))))
      obtain ⟨p1, p2, p3, p4, A1, A2, A3, A4, A5, A6, A7, A8, A9, A10⟩ := u2
      exact br_f (by decide) (lz_739 N hu2 ht hJ5)
    · have n1 : ¬ nI k = 1 := fun z => c1 ((nI_eq (a := k) (b := 1) (by omega) (by decide)).1 z)
      refine br_f n1 ?_
      by_cases c2 : k = 2
      · subst c2
        obtain ⟨r, b1, H1, H2⟩ := lz_pair2 N
        refine br_t rfl (H1 _ hu _ (fun u' hu' => ?_))
        obtain ⟨p1, p2, p3, p4, A1, A2, A3, A4, A5, A6, A7, A8, A9, A10⟩ := u'
        refine lz_637 hm hu' ht (br_f (by decide) (br_t rfl (H2 _ hu' _ (fun u2 hu2 => ?_))))
        obtain ⟨p1, p2, p3, p4, A1, A2, A3, A4, A5, A6, A7, A8, A9, A10⟩ := u2
        exact lz_739 N hu2 ht hJ5
      · have n2 : ¬ nI k = 2 := fun z => c2 ((nI_eq (a := k) (b := 2) (by omega) (by decide)).1 z)
        exact br_f n2 (lz_637 hm hu ht (br_f n1 (br_f n2 (lz_739 N hu ht hJ5))))
theorem lz_567 (hJ : ∀ (p1 p2 p3 p4 : Int32) (A1 A2 A3 A4 A5 A6 A7 A8 A9 A10 : Nat → Int32) (q1 q2 q3 q4 : Int32) (T1 T2 T3 T4 T5 T6 T7 T8 T9 T10 : Nat → Int32), lz_Q (p1, p2, p3, p4, A1, A2, A3, A4, A5, A6, A7, A8, A9, A10) (q1, q2, q3, q4, T1, T2, T3, T4, T5, T6, T7, T8, T9, T10) → J76 (x6 + 2) p1 p2 p3 p4 A1 A2 A3 A4 A5 A6 A7 A8 A9 A10 q1 q2 q3 q4 T1 T2 T3 T4 T5 T6 T7 T8 T9 T10) : ∀ (p1 p2 p3 p4 : Int32) (A1 A2 A3 A4 A5 A6 A7 A8 A9 A10 : Nat → Int32) (q1 q2 q3 q4 : Int32) (T1 T2 T3 T4 T5 T6 T7 T8 T9 T10 : Nat → Int32), lz_Q (p1, p2, p3, p4, A1, A2, A3, A4, A5, A6, A7, A8, A9, A10) (q1, q2, q3, q4, T1, T2, T3, T4, T5, T6, T7, T8, T9, T10) → wL_law_567 post L xs J76 x3 x6 x7 kc ks p1 p2 p3 p4 A1 A2 A3 A4 A5 A6 A7 A8 A9 A10 q1 q2 q3 q4 T1 T2 T3 T4 T5 T6 T7 T8 T9 T10 := by
  intro p1 p2 p3 p4 A1 A2 A3 A4 A5 A6 A7 A8 A9 A10 q1 q2 q3 q4 T1 T2 T3 T4 T5 T6 T7 T8 T9 T10 q
  have h := lz_585 (post := post) (L := L) (xs := xs) (x3 := x3) (kc := kc) (ks := ks) hJ 3 0 rfl 0 _ _ _ _ _ _ _ _ _ _ _ _ _ _ _ _ _ _ _ _ _ _ _ _ _ _ _ _ rfl q
  exact br_c (fun _ => ⟨_, h⟩) (fun _ => br_c (fun _ => nm_e (hJ _ _ _ _ _ _ _ _ _ _ _ _ _ _ _ _ _ _ _ _ _ _ _ _ _ _ _ _ q)) (fun _ => ⟨_, h⟩))
theorem lz_402 {p w e : Nat} (hp0 : 0 < p) (hp1 : p < 2 ^ 31) (hw0 : 0 < w) (hw1 : w < 2 ^ 31) (he : e < 2 ^ 31) (hJ : ∀ (p1 p2 p3 p4 : Int32) (A1 A2 A3 A4 A5 A6 A7 A8 A9 A10 : Nat → Int32) (q1 q2 q3 q4 : Int32) (T1 T2 T3 T4 T5 T6 T7 T8 T9 T10 : Nat → Int32), lz_Q (p1, p2, p3, p4, A1, A2, A3, A4, A5, A6, A7, A8, A9, A10) (q1, q2, q3, q4, T1, T2, T3, T4, T5, T6, T7, T8, T9, T10) → J76 (x6 + 2) p1 p2 p3 p4 A1 A2 A3 A4 A5 A6 A7 A8 A9 A10 q1 q2 q3 q4 T1 T2 T3 T4 T5 T6 T7 T8 T9 T10) : ∀ d k, k + d = e → ∀ x13 (p1 p2 p3 p4 : Int32) (A1 A2 A3 A4 A5 A6 A7 A8 A9 A10 : Nat → Int32) (q1 q2 q3 q4 : Int32) (T1 T2 T3 T4 T5 T6 T7 T8 T9 T10 : Nat → Int32), x13 = nI k → lz_Q (p1, p2, p3, p4, A1, A2, A3, A4, A5, A6, A7, A8, A9, A10) (q1, q2, q3, q4, T1, T2, T3, T4, T5, T6, T7, T8, T9, T10) → wL_law_402 post L xs J76 x3 x6 x7 x9 (nI e) (nI w) (nI p) kc ks (d + 1) x13 p1 p2 p3 p4 A1 A2 A3 A4 A5 A6 A7 A8 A9 A10 q1 q2 q3 q4 T1 T2 T3 T4 T5 T6 T7 T8 T9 T10 := by
  intro d
  induction d with
  | zero =>
    intro k hk x13 p1 p2 p3 p4 A1 A2 A3 A4 A5 A6 A7 A8 A9 A10 q1 q2 q3 q4 T1 T2 T3 T4 T5 T6 T7 T8 T9 T10 ex q
    obtain rfl : k = e := by omega
    subst ex
    exact pk_le k k (fun _ => lz_567 hJ _ _ _ _ _ _ _ _ _ _ _ _ _ _ _ _ _ _ _ _ _ _ _ _ _ _ _ _ q) (fun h => by omega)
  | succ d ih =>
    intro k hk x13 p1 p2 p3 p4 A1 A2 A3 A4 A5 A6 A7 A8 A9 A10 q1 q2 q3 q4 T1 T2 T3 T4 T5 T6 T7 T8 T9 T10 ex q
    subst ex
    refine pk_le e k (fun h => by omega) (fun _ => lz_letter hp0 hp1 hw0 hw1 (fun r => ?_))
    refine lz_two (W := fun post u => wpX_put post u r) (lz_put r) (G := fun p1 p2 p3 p4 A1 A2 A3 A4 A5 A6 A7 A8 A9 A10 q1 q2 q3 q4 T1 T2 T3 T4 T5 T6 T7 T8 T9 T10 => ∀ y : Int32, y = nI k + 1 → wL_law_402 post L xs J76 x3 x6 x7 x9 (nI e) (nI w) (nI p) kc ks (d + 1) y p1 p2 p3 p4 A1 A2 A3 A4 A5 A6 A7 A8 A9 A10 q1 q2 q3 q4 T1 T2 T3 T4 T5 T6 T7 T8 T9 T10) ?_ q
    intro p1 p2 p3 p4 A1 A2 A3 A4 A5 A6 A7 A8 A9 A10 q1 q2 q3 q4 T1 T2 T3 T4 T5 T6 T7 T8 T9 T10 q y ey
    exact ih (k + 1) (by omega) _ _ _ _ _ _ _ _ _ _ _ _ _ _ _ _ _ _ _ _ _ _ _ _ _ _ _ _ _ (by rw [ey, nI_1]) q
theorem lz_202 {w e : Nat} (hw0 : 0 < w) (hw1 : w < 2 ^ 31) (he : e < 2 ^ 31) (hJ : ∀ (p1 p2 p3 p4 : Int32) (A1 A2 A3 A4 A5 A6 A7 A8 A9 A10 : Nat → Int32) (q1 q2 q3 q4 : Int32) (T1 T2 T3 T4 T5 T6 T7 T8 T9 T10 : Nat → Int32), lz_Q (p1, p2, p3, p4, A1, A2, A3, A4, A5, A6, A7, A8, A9, A10) (q1, q2, q3, q4, T1, T2, T3, T4, T5, T6, T7, T8, T9, T10) → J76 (x6 + 2) p1 p2 p3 p4 A1 A2 A3 A4 A5 A6 A7 A8 A9 A10 q1 q2 q3 q4 T1 T2 T3 T4 T5 T6 T7 T8 T9 T10) : ∀ d k, k + d = e → ∀ x11 (p1 p2 p3 p4 : Int32) (A1 A2 A3 A4 A5 A6 A7 A8 A9 A10 : Nat → Int32) (q1 q2 q3 q4 : Int32) (T1 T2 T3 T4 T5 T6 T7 T8 T9 T10 : Nat → Int32), x11 = nI k → lz_Q (p1, p2, p3, p4, A1, A2, A3, A4, A5, A6, A7, A8, A9, A10) (q1, q2, q3, q4, T1, T2, T3, T4, T5, T6, T7, T8, T9, T10) → wL_law_202 post L xs J76 (nI w) x6 x7 x9 (nI e) kc ks (d + 1) x11 p1 p2 p3 p4 A1 A2 A3 A4 A5 A6 A7 A8 A9 A10 q1 q2 q3 q4 T1 T2 T3 T4 T5 T6 T7 T8 T9 T10 := by
  intro d
  induction d with
  | zero =>
    intro k hk x11 p1 p2 p3 p4 A1 A2 A3 A4 A5 A6 A7 A8 A9 A10 q1 q2 q3 q4 T1 T2 T3 T4 T5 T6 T7 T8 T9 T10 ex q
    obtain rfl : k = e := by omega
    subst ex
    exact pk_le k k (fun _ => lz_567 hJ _ _ _ _ _ _ _ _ _ _ _ _ _ _ _ _ _ _ _ _ _ _ _ _ _ _ _ _ q) (fun h => by omega)
  | succ d ih =>
    intro k hk x11 p1 p2 p3 p4 A1 A2 A3 A4 A5 A6 A7 A8 A9 A10 q1 q2 q3 q4 T1 T2 T3 T4 T5 T6 T7 T8 T9 T10 ex q
    subst ex
    refine pk_le e k (fun h => by omega) (fun _ => lz_letter (p := 6) (by decide) (by decide) hw0 hw1 (fun r => ?_))
    refine lz_two (W := fun post u => wpX_put post u r) (lz_put r) (G := fun p1 p2 p3 p4 A1 A2 A3 A4 A5 A6 A7 A8 A9 A10 q1 q2 q3 q4 T1 T2 T3 T4 T5 T6 T7 T8 T9 T10 => ∀ y : Int32, y = nI k + 1 → wL_law_202 post L xs J76 (nI w) x6 x7 x9 (nI e) kc ks (d + 1) y p1 p2 p3 p4 A1 A2 A3 A4 A5 A6 A7 A8 A9 A10 q1 q2 q3 q4 T1 T2 T3 T4 T5 T6 T7 T8 T9 T10) ?_ q
    intro p1 p2 p3 p4 A1 A2 A3 A4 A5 A6 A7 A8 A9 A10 q1 q2 q3 q4 T1 T2 T3 T4 T5 T6 T7 T8 T9 T10 q y ey
    exact ih (k + 1) (by omega) _ _ _ _ _ _ _ _ _ _ _ _ _ _ _ _ _ _ _ _ _ _ _ _ _ _ _ _ _ (by rw [ey, nI_1]) q
theorem lz_371 {p1 p2 p3 p4 : Int32} {A1 A2 A3 A4 A5 A6 A7 A8 A9 A10 : Nat → Int32} {q1 q2 q3 q4 : Int32} {T1 T2 T3 T4 T5 T6 T7 T8 T9 T10 : Nat → Int32} {w e : Nat} (hw0 : 0 < w) (hw1 : w < 2 ^ 31) (he : e < 2 ^ 31) (hJ : ∀ (p1 p2 p3 p4 : Int32) (A1 A2 A3 A4 A5 A6 A7 A8 A9 A10 : Nat → Int32) (q1 q2 q3 q4 : Int32) (T1 T2 T3 T4 T5 T6 T7 T8 T9 T10 : Nat → Int32), lz_Q (p1, p2, p3, p4, A1, A2, A3, A4, A5, A6, A7, A8, A9, A10) (q1, q2, q3, q4, T1, T2, T3, T4, T5, T6, T7, T8, T9, T10) → J76 (x6 + 2) p1 p2 p3 p4 A1 A2 A3 A4 A5 A6 A7 A8 A9 A10 q1 q2 q3 q4 T1 T2 T3 T4 T5 T6 T7 T8 T9 T10) (q : lz_Q (p1, p2, p3, p4, A1, A2, A3, A4, A5, A6, A7, A8, A9, A10) (q1, q2, q3, q4, T1, T2, T3, T4, T5, T6, T7, T8, T9, T10)) : wL_law_371 post L xs J76 x3 x6 x7 x9 (nI e) (nI w) kc ks p1 p2 p3 p4 A1 A2 A3 A4 A5 A6 A7 A8 A9 A10 q1 q2 q3 q4 T1 T2 T3 T4 T5 T6 T7 T8 T9 T10 := by
  unfold wL_law_371
  refine lz_mix (fun r1 => lz_mod (q := 30) (by decide) (by decide) (fun j hj => nm_r (ly_ad (a := 1) (b := j) (c := 1 + j) rfl) ?_))
  refine lz_two (W := fun post u => wpX_clear (post 0) u) lz_clear (G := fun p1 p2 p3 p4 A1 A2 A3 A4 A5 A6 A7 A8 A9 A10 q1 q2 q3 q4 T1 T2 T3 T4 T5 T6 T7 T8 T9 T10 => ∃ f : Nat, wL_law_402 post L xs J76 x3 x6 x7 x9 (nI e) (nI w) (nI (1 + j)) kc ks f 0 p1 p2 p3 p4 A1 A2 A3 A4 A5 A6 A7 A8 A9 A10 q1 q2 q3 q4 T1 T2 T3 T4 T5 T6 T7 T8 T9 T10) ?_ q
  intro p1 p2 p3 p4 A1 A2 A3 A4 A5 A6 A7 A8 A9 A10 q1 q2 q3 q4 T1 T2 T3 T4 T5 T6 T7 T8 T9 T10 q
  exact ⟨_, lz_402 (by omega) (by omega) hw0 hw1 he hJ e 0 (by omega) _ _ _ _ _ _ _ _ _ _ _ _ _ _ _ _ _ _ _ _ _ _ _ _ _ _ _ _ _ rfl q⟩
theorem lz_110 {p1 p2 p3 p4 : Int32} {A1 A2 A3 A4 A5 A6 A7 A8 A9 A10 : Nat → Int32} {q1 q2 q3 q4 : Int32} {T1 T2 T3 T4 T5 T6 T7 T8 T9 T10 : Nat → Int32} {κ k : Nat} {z0 : Int32} (hL : L ≤ 260) (h2 : 2 ≤ κ) (h16 : κ ≤ 16) (hk : k < 1000) (hJ : ∀ (p1 p2 p3 p4 : Int32) (A1 A2 A3 A4 A5 A6 A7 A8 A9 A10 : Nat → Int32) (q1 q2 q3 q4 : Int32) (T1 T2 T3 T4 T5 T6 T7 T8 T9 T10 : Nat → Int32), lz_Q (p1, p2, p3, p4, A1, A2, A3, A4, A5, A6, A7, A8, A9, A10) (q1, q2, q3, q4, T1, T2, T3, T4, T5, T6, T7, T8, T9, T10) → J76 (nI k + 2) p1 p2 p3 p4 A1 A2 A3 A4 A5 A6 A7 A8 A9 A10 q1 q2 q3 q4 T1 T2 T3 T4 T5 T6 T7 T8 T9 T10) (q : lz_Q (p1, p2, p3, p4, A1, A2, A3, A4, A5, A6, A7, A8, A9, A10) (q1, q2, q3, q4, T1, T2, T3, T4, T5, T6, T7, T8, T9, T10)) : wL_law_110 post L xs J76 (nI κ) (nI k) z0 kc ks p1 p2 p3 p4 A1 A2 A3 A4 A5 A6 A7 A8 A9 A10 q1 q2 q3 q4 T1 T2 T3 T4 T5 T6 T7 T8 T9 T10 := by
  unfold wL_law_110
  rw [nI_1 k]
  refine lz_cell hL (by omega) (fun r1 => lz_cell hL (by omega) (fun r2 => ?_))
  intro x9 _
  have F : ∀ z0 : Int32, ∀ (p1 p2 p3 p4 : Int32) (A1 A2 A3 A4 A5 A6 A7 A8 A9 A10 : Nat → Int32) (q1 q2 q3 q4 : Int32) (T1 T2 T3 T4 T5 T6 T7 T8 T9 T10 : Nat → Int32), lz_Q (p1, p2, p3, p4, A1, A2, A3, A4, A5, A6, A7, A8, A9, A10) (q1, q2, q3, q4, T1, T2, T3, T4, T5, T6, T7, T8, T9, T10) → wL_law_567 post L xs J76 (nI κ) (nI k) z0 kc ks p1 p2 p3 p4 A1 A2 A3 A4 A5 A6 A7 A8 A9 A10 q1 q2 q3 q4 T1 T2 T3 T4 T5 T6 T7 T8 T9 T10 := fun z0 => lz_567 hJ
  refine br_c (fun _ => ?_) (fun _ => br_c (fun _ => ?_) (fun _ => br_c (fun _ => ?_) (fun _ => br_c (fun _ => ?_) (fun _ => br_c (fun _ => br_c (fun _ => ?_) (fun _ => br_c (fun _ => ?_) (fun _ => br_c (fun _ => ?_) (fun _ => br_c (fun _ => ?_) (fun _ => ?_))))) (fun _ => ?_)))))
  · have e2 : nI κ + 2 = nI (κ + 2) := ly_ad (b := 2) rfl
    rw [e2]
    refine lz_mod (by omega) (by omega) (fun j _ => nm_e ?_)
    exact lz_two (W := fun post u => wpX_put post u (nI j - 1)) (lz_put _) (F _) q
  · refine lz_mod (q := 6) (by decide) (by decide) (fun j hj => nm_r (ly_ad (a := 1) (b := j) (c := 1 + j) rfl) ?_)
    exact ⟨_, lz_202 (by omega) (by omega) (by omega) hJ (1 + j) 0 (by omega) _ _ _ _ _ _ _ _ _ _ _ _ _ _ _ _ _ _ _ _ _ _ _ _ _ _ _ _ _ rfl q⟩
  · have e3 : nI κ + 3 = nI (κ + 3) := ly_ad (b := 3) rfl
    rw [e3]
    refine lz_mod (by omega) (by omega) (fun j _ => nm_e ?_)
    exact lz_two (W := fun post u => wpX_putToken post u (nI j - 1)) (lz_putToken _) (F _) q
  · refine lz_mod (q := 2) (by decide) (by decide) (fun j _ => ?_)
    exact lz_two (W := fun post u => wpX_put post u (nI j)) (lz_put _) (F _) q
  · exact lz_two (W := wpX_transform) lz_transform (F _) q
  · exact lz_two (W := wpX_invert) lz_invert (F _) q
  · refine lz_mod (q := 2) (by decide) (by decide) (fun j _ => br_c (fun _ => ?_) (fun _ => ?_))
    · exact lz_two (W := fun post u => wpX_front (post 0) u) lz_front (F _) q
    · exact lz_two (W := fun post u => wpX_unfront (post 0) u) lz_unfront (F _) q
  · exact lz_two (W := wpX_pack) lz_pack (F _) q
  · exact lz_two (W := wpX_unpack) lz_unpack (F _) q
  · refine lz_mix (fun r3 => lz_mod (q := 27) (by decide) (by decide) (fun e he => lz_mix (fun r4 => lz_mod (q := 3) (by decide) (by decide) (fun s _ => br_c (fun _ => ?_) (fun _ => ?_)))))
    · rw [ly_s1 (a := κ) (b := κ - 1) (by omega)]
      refine lz_mix (fun r5 => lz_mod (by omega) (by omega) (fun w hw => ?_))
      have e4 : 2 + nI w = nI (2 + w) := ly_ad (a := 2) rfl
      rw [e4]
      exact lz_371 (by omega) (by omega) (by omega) hJ q
    · exact lz_371 (w := 2) (by decide) (by decide) (by omega) hJ q
theorem lz_76 {κ : Nat} (hL : L ≤ 260) (h2 : 2 ≤ κ) (h16 : κ ≤ 16) : ∀ d k, 2 ≤ k → L ≤ k + 2 * d → (k = 2 → 1 ≤ d) → k + 2 * d ≤ 600 → ∀ x6 (p1 p2 p3 p4 : Int32) (A1 A2 A3 A4 A5 A6 A7 A8 A9 A10 : Nat → Int32) (q1 q2 q3 q4 : Int32) (T1 T2 T3 T4 T5 T6 T7 T8 T9 T10 : Nat → Int32), x6 = nI k → lz_Q (p1, p2, p3, p4, A1, A2, A3, A4, A5, A6, A7, A8, A9, A10) (q1, q2, q3, q4, T1, T2, T3, T4, T5, T6, T7, T8, T9, T10) → wL_law_76 (fun r => r = 1) L xs (nI κ) kc ks (d + 1) x6 p1 p2 p3 p4 A1 A2 A3 A4 A5 A6 A7 A8 A9 A10 q1 q2 q3 q4 T1 T2 T3 T4 T5 T6 T7 T8 T9 T10 := by
  intro d
  induction d with
  | zero =>
    intro k hk0 h1 hk2 hk6 x6 p1 p2 p3 p4 A1 A2 A3 A4 A5 A6 A7 A8 A9 A10 q1 q2 q3 q4 T1 T2 T3 T4 T5 T6 T7 T8 T9 T10 ex q
    subst ex
    have n2 : ¬ nI k = 2 := fun z => by
      have := (nI_eq (a := k) (b := 2) (by omega) (by decide)).1 z
      omega
    exact br_f n2 (pk_le L k (fun _ => rfl) (fun h => by omega))
  | succ d ih =>
    intro k hk0 h1 hk2 hk6 x6 p1 p2 p3 p4 A1 A2 A3 A4 A5 A6 A7 A8 A9 A10 q1 q2 q3 q4 T1 T2 T3 T4 T5 T6 T7 T8 T9 T10 ex q
    subst ex
    have hJ : ∀ (p1 p2 p3 p4 : Int32) (A1 A2 A3 A4 A5 A6 A7 A8 A9 A10 : Nat → Int32) (q1 q2 q3 q4 : Int32) (T1 T2 T3 T4 T5 T6 T7 T8 T9 T10 : Nat → Int32), lz_Q (p1, p2, p3, p4, A1, A2, A3, A4, A5, A6, A7, A8, A9, A10) (q1, q2, q3, q4, T1, T2, T3, T4, T5, T6, T7, T8, T9, T10) → wL_law_76 (fun r => r = 1) L xs (nI κ) kc ks (d + 1) (nI k + 2) p1 p2 p3 p4 A1 A2 A3 A4 A5 A6 A7 A8 A9 A10 q1 q2 q3 q4 T1 T2 T3 T4 T5 T6 T7 T8 T9 T10 := by
      intro p1 p2 p3 p4 A1 A2 A3 A4 A5 A6 A7 A8 A9 A10 q1 q2 q3 q4 T1 T2 T3 T4 T5 T6 T7 T8 T9 T10 q
      exact ih (k + 2) (by omega) (by omega) (fun z => by omega) (by omega) _ _ _ _ _ _ _ _ _ _ _ _ _ _ _ _ _ _ _ _ _ _ _ _ _ _ _ _ _ (ly_ad rfl) q
    have h89 : wL_law_89 (fun r => r = 1) L xs (wL_law_76 (fun r => r = 1) L xs (nI κ) kc ks (d + 1)) (nI κ) (nI k) kc ks p1 p2 p3 p4 A1 A2 A3 A4 A5 A6 A7 A8 A9 A10 q1 q2 q3 q4 T1 T2 T3 T4 T5 T6 T7 T8 T9 T10 :=
      br_c (fun _ => lz_110 hL h2 h16 (by omega) hJ q) (fun _ => lz_cell hL (by omega) (fun r => lz_mod (q := 12) (by decide) (by decide) (fun j _ => lz_110 hL h2 h16 (by omega) hJ q)))
    exact br_c (fun _ => h89) (fun _ => br_c (fun _ => rfl) (fun _ => h89))
theorem lz_clampX (x : Int32) (lo hi : Nat) (h : lo ≤ hi) (hh : hi < 2 ^ 31) : ∃ q : Nat, lo ≤ q ∧ q ≤ hi ∧ (∀ post : Int32 → Prop, post (nI q) → (nI lo ≤ x → ((x ≤ nI hi → post x) ∧ (¬ x ≤ nI hi → post (nI hi)))) ∧ (¬ nI lo ≤ x → post (nI lo))) := by
  by_cases c1 : nI lo ≤ x
  · obtain ⟨j, hj, rfl⟩ := nI_of (x := x) (fun z => by
      have h2 := Int32.le_iff_toInt_le.1 c1
      have h3 := Int32.lt_iff_toInt_lt.1 z
      rw [nI_toInt (by omega)] at h2
      have h4 : (0 : Int32).toInt = 0 := by decide
      omega)
    rw [nI_leI (by omega) hj] at c1
    by_cases c2 : j ≤ hi
    · exact ⟨j, c1, c2, fun post hp => ⟨fun _ => ⟨fun _ => hp, fun z => absurd (nI_le c2 hh) z⟩, fun z => absurd (nI_le c1 hj) z⟩⟩
    · exact ⟨hi, h, Nat.le_refl hi, fun post hp => ⟨fun _ => ⟨fun z => absurd z (nI_ge (by omega) hj), fun _ => hp⟩, fun z => absurd (nI_le c1 hj) z⟩⟩
  · exact ⟨lo, Nat.le_refl lo, h, fun post hp => ⟨fun z => absurd z c1, fun _ => hp⟩⟩
theorem lz_init (x1 x2 : Int32) : ∃ K C : Nat, ly_Num K C 0 0 (fun _ => 0) (fun _ => 0) ∧ ∀ post : St2 → Prop, (∀ u, ly_XS K C 0 0 (fun _ => 0) (fun _ => 0) u → post u) → wpX_init post 10 232 (0, 0, 0, 0) x1 x2 := by
  obtain ⟨K, K1, K2, HK⟩ := lz_clampX x1 2 16 (by decide) (by decide)
  obtain ⟨C, C1, C2, HC⟩ := lz_clampX x2 8 24 (by decide) (by decide)
  refine ⟨K, C, ⟨K1, K2, C1, C2, Nat.zero_le C, Nat.zero_le C, fun j h => absurd h (Nat.not_lt_zero j), fun j h => absurd h (Nat.not_lt_zero j)⟩, fun post hp => ?_⟩
  have XK : ∀ post : Int32 → Prop, post (nI K) → wpX_clamp post () x1 2 16 := fun post hp => HK post hp
  have XC : ∀ post : Int32 → Prop, post (nI C) → wpX_clamp post () x2 8 24 := fun post hp => HC post hp
  refine ⟨by omega, by omega, by omega, by omega, by omega, by omega, by omega, by omega, by omega, by omega, by omega, by omega, by omega, by omega, by omega, by omega, by omega, by omega, by omega, by omega, ?_⟩
  refine XK _ ?_
  refine XC _ ?_
  exact hp _ ⟨rfl, rfl, rfl, rfl, fun j h => absurd h (Nat.not_lt_zero j), fun j h => absurd h (Nat.not_lt_zero j)⟩
theorem lz_50 {κ : Nat} {x1 x2 : Int32} (hL : L ≤ 260) (h2 : 2 ≤ κ) (h16 : κ ≤ 16) : wL_law_50 (fun r => r = 1) L xs x1 x2 (nI κ) 0 0 := by
  obtain ⟨K, C, N, H⟩ := lz_init x1 x2
  refine ⟨by omega, by omega, 10, 232, by omega, by omega, H _ (fun u hu => ?_)⟩
  obtain ⟨p1, p2, p3, p4, A1, A2, A3, A4, A5, A6, A7, A8, A9, A10⟩ := u
  refine ⟨by omega, by omega, 10, 232, by omega, by omega, H _ (fun t ht => ?_)⟩
  obtain ⟨q1, q2, q3, q4, T1, T2, T3, T4, T5, T6, T7, T8, T9, T10⟩ := t
  exact ⟨_, lz_76 hL h2 h16 260 2 (by omega) (by omega) (fun _ => by omega) (by omega) _ _ _ _ _ _ _ _ _ _ _ _ _ _ _ _ _ _ _ _ _ _ _ _ _ _ _ _ _ rfl ⟨K, C, 0, 0, _, _, N, hu, ht⟩⟩
end
