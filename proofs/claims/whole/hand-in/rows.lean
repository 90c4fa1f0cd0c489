section
theorem pk_us {f : Nat → Int32} {k : Nat} {x : Int32} : upd f k x k = x := if_pos rfl
theorem pk_un {f : Nat → Int32} {k j : Nat} {x : Int32} (h : j ≠ k) : upd f k x j = f j := if_neg h
theorem pk_sub {a b : Nat} (h : b ≤ a) : nI a - nI b = nI (a - b) := by
  obtain ⟨c, rfl⟩ : ∃ c, a = c + b := ⟨a - b, by omega⟩
  rw [← nI_add, Int32.add_sub_cancel, Nat.add_sub_cancel]
theorem pk_m1 (n : Nat) : nI (n + 1) + (-1) = nI n := by
  rw [← nI_1, Int32.add_assoc, show (1 : Int32) + (-1) = 0 from rfl, Int32.add_zero]
theorem pk_mul (a b : Nat) : nI a * nI b = nI (a * b) := (Int32.ofNat_mul a b).symm
theorem pk_div {a d : Nat} (ha : a < 2 ^ 31) (h0 : 0 < d) (hd : d < 2 ^ 31) : nI a / nI d = nI (a / d) := by
  apply Int32.toInt_inj.mp
  rw [lg_idiv_nonneg (by rw [nI_toInt ha]; omega) (by rw [nI_toInt hd]; omega), nI_toInt ha, nI_toInt hd, nI_toInt (Nat.lt_of_le_of_lt (Nat.div_le_self a d) ha)]
  first | rfl | exact (Int.natCast_ediv _ _).symm
theorem pk_rem {a d : Nat} (ha : a < 2 ^ 31) (h0 : 0 < d) (hd : d < 2 ^ 31) : nI a - nI a / nI d * nI d = nI (a % d) := by
  rw [pk_div ha h0 hd, pk_mul, pk_sub (Nat.div_mul_le_self a d)]
  exact congrArg nI (by have := Nat.div_add_mod' a d; omega)
theorem pk_sub_toInt {a b : Nat} (ha : a < 2 ^ 30) (hb : b < 2 ^ 30) : (nI a - nI b).toInt = (a : Int) - b := by
  rw [Int32.toInt_sub, nI_toInt (by omega), nI_toInt (by omega)]
  exact Int.bmod_eq_of_le (by omega) (by omega)
theorem pk_sneg {a b : Nat} (hb : b < 2 ^ 30) (h : a < b) : nI a - nI b < 0 := by
  rw [Int32.lt_iff_toInt_lt, pk_sub_toInt (by omega) hb, show (0 : Int32).toInt = 0 from by decide]
  omega
theorem pk_ix (x : Int32) {n : Nat} (hn : n < 2 ^ 31) : x < 0 ∨ nI n ≤ x ∨ ∃ j : Nat, j < n ∧ x = nI j := by
  by_cases h : x < 0
  · exact Or.inl h
  · obtain ⟨j, hj, rfl⟩ := nI_of h
    by_cases h2 : j < n
    · exact Or.inr (Or.inr ⟨j, h2, rfl⟩)
    · exact Or.inr (Or.inl (nI_le (by omega) hj))
theorem pk_le {x y : Int32} {A B : Prop} (a b : Nat) (f : a ≤ b → A) (g : b < a → B) (hx : x = nI a := by rfl) (hy : y = nI b := by rfl) (ha : a < 2 ^ 31 := by omega) (hb : b < 2 ^ 31 := by omega) : (x ≤ y → A) ∧ (¬ x ≤ y → B) := by
  subst hx hy
  rw [nI_leI ha hb]
  exact ⟨f, fun z => g (by omega)⟩
theorem pk_lt {x y : Int32} {A B : Prop} (a b : Nat) (f : a < b → A) (g : b ≤ a → B) (hx : x = nI a := by rfl) (hy : y = nI b := by rfl) (ha : a < 2 ^ 31 := by omega) (hb : b < 2 ^ 31 := by omega) : (x < y → A) ∧ (¬ x < y → B) := by
  subst hx hy
  rw [nI_ltI ha hb]
  exact ⟨f, fun z => g (by omega)⟩
theorem pk_eq {x y : Int32} {A B : Prop} (a b : Nat) (f : a = b → A) (g : a ≠ b → B) (hx : x = nI a := by rfl) (hy : y = nI b := by rfl) (ha : a < 2 ^ 31 := by omega) (hb : b < 2 ^ 31 := by omega) : (x = y → A) ∧ (¬ x = y → B) := by
  subst hx hy
  rw [nI_eq ha hb]
  exact ⟨f, g⟩
theorem pk_in {x : Int32} (n N : Nat) (h : n < N) (hx : x = nI n := by rfl) (hN : N < 2 ^ 31 := by omega) : vp_in x N := by
  subst hx
  exact vp_in_nI h hN
theorem pk_cl {x : Int32} (n : Nat) (hx : x = nI n := by rfl) (h : n < 2 ^ 31 := by omega) : x.toNatClampNeg = n := by
  subst hx
  exact nI_clamp h
theorem pk_tn {n : Nat} (h : n < 2 ^ 32) : (nI n).toBitVec.toNat = n := Nat.mod_eq_of_lt h
theorem pk_and (x : Int32) {m : Int32} (k : Nat) (hm : m.toBitVec.toNat = 2 ^ k - 1) : x &&& m = nI (x.toBitVec.toNat % 2 ^ k) := by
  apply Int32.toBitVec_inj.mp
  apply BitVec.eq_of_toNat_eq
  rw [Int32.toBitVec_and, BitVec.toNat_and, hm, Nat.and_two_pow_sub_one_eq_mod]
  show _ = (BitVec.ofNat 32 _).toNat
  rw [BitVec.toNat_ofNat]
  exact (Nat.mod_eq_of_lt (Nat.lt_of_le_of_lt (Nat.mod_le _ _) x.toBitVec.isLt)).symm
theorem pk_andN {n : Nat} (h : n < 2 ^ 32) {m : Int32} (k : Nat) (hm : m.toBitVec.toNat = 2 ^ k - 1) : nI n &&& m = nI (n % 2 ^ k) := by
  rw [pk_and _ k hm, pk_tn h]
theorem pk_andE (x : Int32) {m : Int32} (k : Nat) (hm : m.toBitVec.toNat = 2 ^ k - 1) : ∃ j : Nat, j < 2 ^ k ∧ x &&& m = nI j := ⟨_, Nat.mod_lt _ (Nat.two_pow_pos k), pk_and x k hm⟩
theorem pk_shl (a s : Int32) (k : Nat) (hs : (s.toBitVec.smod 32).toNat = k) : (a <<< s).toBitVec.toNat = a.toBitVec.toNat * 2 ^ k % 2 ^ 32 := by
  show (a.toBitVec <<< (s.toBitVec.smod 32).toNat).toNat = _
  rw [hs, BitVec.toNat_shiftLeft, Nat.shiftLeft_eq]
theorem pk_shlN {n : Nat} (s : Int32) (k : Nat) (hs : (s.toBitVec.smod 32).toNat = k) (h : n * 2 ^ k < 2 ^ 32) : nI n <<< s = nI (n * 2 ^ k) := by
  apply Int32.toBitVec_inj.mp
  apply BitVec.eq_of_toNat_eq
  have hn : n < 2 ^ 32 := Nat.lt_of_le_of_lt (Nat.le_mul_of_pos_right n (Nat.two_pow_pos k)) h
  rw [pk_shl _ _ k hs, pk_tn hn, pk_tn h, Nat.mod_eq_of_lt h]
theorem pk_shr (a s : Int32) (k : Nat) (hs : (s.toBitVec.smod 32).toNat = k) : (a >>> s).toInt = a.toInt >>> k := by
  show (a.toBitVec.sshiftRight (s.toBitVec.smod 32).toNat).toInt = _
  rw [hs, BitVec.toInt_sshiftRight]
  rfl
theorem pk_shrN {n : Nat} (h : n < 2 ^ 31) (s : Int32) (k : Nat) (hs : (s.toBitVec.smod 32).toNat = k) : nI n >>> s = nI (n / 2 ^ k) := by
  apply Int32.toInt_inj.mp
  have h2 : n / 2 ^ k ≤ n := Nat.div_le_self _ _
  rw [pk_shr _ _ k hs, nI_toInt h, nI_toInt (by omega), Int.shiftRight_eq_div_pow]
  rfl
theorem pk_loop {σ : Type} (W : Nat → Nat → σ → Prop) (I : Nat → σ → Prop) (e i0 : Nat) (s : σ) (hi : i0 ≤ e) (h0 : I i0 s) (hx : ∀ n s, I e s → W (n + 1) e s)
    (hs : ∀ n i s, i < e → I i s → (∀ s', I (i + 1) s' → W n (i + 1) s') → W (n + 1) i s) : ∃ n, W n i0 s :=
  ⟨e + 1, loop_i W I e hx hs (e + 1) i0 s hi (by omega) h0⟩
theorem pk_loopD {σ : Type} (W : Nat → Nat → σ → Prop) (I : Nat → σ → Prop) (hx : ∀ n s, I 0 s → W (n + 1) 0 s)
    (hs : ∀ n i s, I (i + 1) s → (∀ s', I i s' → W n i s') → W (n + 1) (i + 1) s) : ∀ (e : Nat) (s : σ), I e s → W (e + 1) e s := by
  intro e
  induction e with
  | zero => exact fun s h => hx 0 s h
  | succ e ih => exact fun s h => hs (e + 1) e s h (fun s' h' => ih s' h')
theorem pk_least (P : Nat → Prop) (h : ∃ k, P k) : ∃ k, P k ∧ ∀ j, j < k → ¬ P j := by
  obtain ⟨k, hk⟩ := h
  induction k using Nat.strongRecOn with
  | ind k ih =>
    by_cases e : ∃ j, j < k ∧ P j
    · obtain ⟨j, hj, pj⟩ := e
      exact ih j hj pj
    · exact ⟨k, hk, fun j hj pj => e ⟨j, hj, pj⟩⟩
theorem lp1 {A1 : Type} (W : Nat → A1 → Prop) (I : A1 → Prop) (μ : A1 → Nat) (hs : ∀ (n : Nat) (a1 : A1), I a1 → (∀ (b1 : A1), I b1 → μ b1 < μ a1 → W n b1) → W (n + 1) a1) (a1 : A1) (h : I a1) : ∃ n, W n a1 :=
  loop_m (σ := A1) (fun n s => W n s) (fun s => I s) (fun s => μ s) (fun n s hI hk => hs n s hI (fun b1 h9 hm => hk b1 h9 hm)) a1 h
theorem lp2 {A1 A2 : Type} (W : Nat → A1 → A2 → Prop) (I : A1 → A2 → Prop) (μ : A1 → A2 → Nat) (hs : ∀ (n : Nat) (a1 : A1) (a2 : A2), I a1 a2 → (∀ (b1 : A1) (b2 : A2), I b1 b2 → μ b1 b2 < μ a1 a2 → W n b1 b2) → W (n + 1) a1 a2) (a1 : A1) (a2 : A2) (h : I a1 a2) : ∃ n, W n a1 a2 :=
  loop_m (σ := A1 × A2) (fun n s => W n s.1 s.2) (fun s => I s.1 s.2) (fun s => μ s.1 s.2) (fun n s hI hk => hs n s.1 s.2 hI (fun b1 b2 h9 hm => hk (b1, b2) h9 hm)) (a1, a2) h
theorem lp3 {A1 A2 A3 : Type} (W : Nat → A1 → A2 → A3 → Prop) (I : A1 → A2 → A3 → Prop) (μ : A1 → A2 → A3 → Nat) (hs : ∀ (n : Nat) (a1 : A1) (a2 : A2) (a3 : A3), I a1 a2 a3 → (∀ (b1 : A1) (b2 : A2) (b3 : A3), I b1 b2 b3 → μ b1 b2 b3 < μ a1 a2 a3 → W n b1 b2 b3) → W (n + 1) a1 a2 a3) (a1 : A1) (a2 : A2) (a3 : A3) (h : I a1 a2 a3) : ∃ n, W n a1 a2 a3 :=
  loop_m (σ := A1 × A2 × A3) (fun n s => W n s.1 s.2.1 s.2.2) (fun s => I s.1 s.2.1 s.2.2) (fun s => μ s.1 s.2.1 s.2.2) (fun n s hI hk => hs n s.1 s.2.1 s.2.2 hI (fun b1 b2 b3 h9 hm => hk (b1, b2, b3) h9 hm)) (a1, a2, a3) h
theorem lp4 {A1 A2 A3 A4 : Type} (W : Nat → A1 → A2 → A3 → A4 → Prop) (I : A1 → A2 → A3 → A4 → Prop) (μ : A1 → A2 → A3 → A4 → Nat) (hs : ∀ (n : Nat) (a1 : A1) (a2 : A2) (a3 : A3) (a4 : A4), I a1 a2 a3 a4 → (∀ (b1 : A1) (b2 : A2) (b3 : A3) (b4 : A4), I b1 b2 b3 b4 → μ b1 b2 b3 b4 < μ a1 a2 a3 a4 → W n b1 b2 b3 b4) → W (n + 1) a1 a2 a3 a4) (a1 : A1) (a2 : A2) (a3 : A3) (a4 : A4) (h : I a1 a2 a3 a4) : ∃ n, W n a1 a2 a3 a4 :=
  loop_m (σ := A1 × A2 × A3 × A4) (fun n s => W n s.1 s.2.1 s.2.2.1 s.2.2.2) (fun s => I s.1 s.2.1 s.2.2.1 s.2.2.2) (fun s => μ s.1 s.2.1 s.2.2.1 s.2.2.2) (fun n s hI hk => hs n s.1 s.2.1 s.2.2.1 s.2.2.2 hI (fun b1 b2 b3 b4 h9 hm => hk (b1, b2, b3, b4) h9 hm)) (a1, a2, a3, a4) h
theorem lp5 {A1 A2 A3 A4 A5 : Type} (W : Nat → A1 → A2 → A3 → A4 → A5 → Prop) (I : A1 → A2 → A3 → A4 → A5 → Prop) (μ : A1 → A2 → A3 → A4 → A5 → Nat) (hs : ∀ (n : Nat) (a1 : A1) (a2 : A2) (a3 : A3) (a4 : A4) (a5 : A5), I a1 a2 a3 a4 a5 → (∀ (b1 : A1) (b2 : A2) (b3 : A3) (b4 : A4) (b5 : A5), I b1 b2 b3 b4 b5 → μ b1 b2 b3 b4 b5 < μ a1 a2 a3 a4 a5 → W n b1 b2 b3 b4 b5) → W (n + 1) a1 a2 a3 a4 a5) (a1 : A1) (a2 : A2) (a3 : A3) (a4 : A4) (a5 : A5) (h : I a1 a2 a3 a4 a5) : ∃ n, W n a1 a2 a3 a4 a5 :=
  loop_m (σ := A1 × A2 × A3 × A4 × A5) (fun n s => W n s.1 s.2.1 s.2.2.1 s.2.2.2.1 s.2.2.2.2) (fun s => I s.1 s.2.1 s.2.2.1 s.2.2.2.1 s.2.2.2.2) (fun s => μ s.1 s.2.1 s.2.2.1 s.2.2.2.1 s.2.2.2.2) (fun n s hI hk => hs n s.1 s.2.1 s.2.2.1 s.2.2.2.1 s.2.2.2.2 hI (fun b1 b2 b3 b4 b5 h9 hm => hk (b1, b2, b3, b4, b5) h9 hm)) (a1, a2, a3, a4, a5) h
theorem lp6 {A1 A2 A3 A4 A5 A6 : Type} (W : Nat → A1 → A2 → A3 → A4 → A5 → A6 → Prop) (I : A1 → A2 → A3 → A4 → A5 → A6 → Prop) (μ : A1 → A2 → A3 → A4 → A5 → A6 → Nat) (hs : ∀ (n : Nat) (a1 : A1) (a2 : A2) (a3 : A3) (a4 : A4) (a5 : A5) (a6 : A6), I a1 a2 a3 a4 a5 a6 → (∀ (b1 : A1) (b2 : A2) (b3 : A3) (b4 : A4) (b5 : A5) (b6 : A6), I b1 b2 b3 b4 b5 b6 → μ b1 b2 b3 b4 b5 b6 < μ a1 a2 a3 a4 a5 a6 → W n b1 b2 b3 b4 b5 b6) → W (n + 1) a1 a2 a3 a4 a5 a6) (a1 : A1) (a2 : A2) (a3 : A3) (a4 : A4) (a5 : A5) (a6 : A6) (h : I a1 a2 a3 a4 a5 a6) : ∃ n, W n a1 a2 a3 a4 a5 a6 :=
  loop_m (σ := A1 × A2 × A3 × A4 × A5 × A6) (fun n s => W n s.1 s.2.1 s.2.2.1 s.2.2.2.1 s.2.2.2.2.1 s.2.2.2.2.2) (fun s => I s.1 s.2.1 s.2.2.1 s.2.2.2.1 s.2.2.2.2.1 s.2.2.2.2.2) (fun s => μ s.1 s.2.1 s.2.2.1 s.2.2.2.1 s.2.2.2.2.1 s.2.2.2.2.2) (fun n s hI hk => hs n s.1 s.2.1 s.2.2.1 s.2.2.2.1 s.2.2.2.2.1 s.2.2.2.2.2 hI (fun b1 b2 b3 b4 b5 b6 h9 hm => hk (b1, b2, b3, b4, b5, b6) h9 hm)) (a1, a2, a3, a4, a5, a6) h
theorem lp7 {A1 A2 A3 A4 A5 A6 A7 : Type} (W : Nat → A1 → A2 → A3 → A4 → A5 → A6 → A7 → Prop) (I : A1 → A2 → A3 → A4 → A5 → A6 → A7 → Prop) (μ : A1 → A2 → A3 → A4 → A5 → A6 → A7 → Nat) (hs : ∀ (n : Nat) (a1 : A1) (a2 : A2) (a3 : A3) (a4 : A4) (a5 : A5) (a6 : A6) (a7 : A7), I a1 a2 a3 a4 a5 a6 a7 → (∀ (b1 : A1) (b2 : A2) (b3 : A3) (b4 : A4) (b5 : A5) (b6 : A6) (b7 : A7), I b1 b2 b3 b4 b5 b6 b7 → μ b1 b2 b3 b4 b5 b6 b7 < μ a1 a2 a3 a4 a5 a6 a7 → W n b1 b2 b3 b4 b5 b6 b7) → W (n + 1) a1 a2 a3 a4 a5 a6 a7) (a1 : A1) (a2 : A2) (a3 : A3) (a4 : A4) (a5 : A5) (a6 : A6) (a7 : A7) (h : I a1 a2 a3 a4 a5 a6 a7) : ∃ n, W n a1 a2 a3 a4 a5 a6 a7 :=
  loop_m (σ := A1 × A2 × A3 × A4 × A5 × A6 × A7) (fun n s => W n s.1 s.2.1 s.2.2.1 s.2.2.2.1 s.2.2.2.2.1 s.2.2.2.2.2.1 s.2.2.2.2.2.2) (fun s => I s.1 s.2.1 s.2.2.1 s.2.2.2.1 s.2.2.2.2.1 s.2.2.2.2.2.1 s.2.2.2.2.2.2) (fun s => μ s.1 s.2.1 s.2.2.1 s.2.2.2.1 s.2.2.2.2.1 s.2.2.2.2.2.1 s.2.2.2.2.2.2) (fun n s hI hk => hs n s.1 s.2.1 s.2.2.1 s.2.2.2.1 s.2.2.2.2.1 s.2.2.2.2.2.1 s.2.2.2.2.2.2 hI (fun b1 b2 b3 b4 b5 b6 b7 h9 hm => hk (b1, b2, b3, b4, b5, b6, b7) h9 hm)) (a1, a2, a3, a4, a5, a6, a7) h
theorem lp8 {A1 A2 A3 A4 A5 A6 A7 A8 : Type} (W : Nat → A1 → A2 → A3 → A4 → A5 → A6 → A7 → A8 → Prop) (I : A1 → A2 → A3 → A4 → A5 → A6 → A7 → A8 → Prop) (μ : A1 → A2 → A3 → A4 → A5 → A6 → A7 → A8 → Nat) (hs : ∀ (n : Nat) (a1 : A1) (a2 : A2) (a3 : A3) (a4 : A4) (a5 : A5) (a6 : A6) (a7 : A7) (a8 : A8), I a1 a2 a3 a4 a5 a6 a7 a8 → (∀ (b1 : A1) (b2 : A2) (b3 : A3) (b4 : A4) (b5 : A5) (b6 : A6) (b7 : A7) (b8 : A8), I b1 b2 b3 b4 b5 b6 b7 b8 → μ b1 b2 b3 b4 b5 b6 b7 b8 < μ a1 a2 a3 a4 a5 a6 a7 a8 → W n b1 b2 b3 b4 b5 b6 b7 b8) → W (n + 1) a1 a2 a3 a4 a5 a6 a7 a8) (a1 : A1) (a2 : A2) (a3 : A3) (a4 : A4) (a5 : A5) (a6 : A6) (a7 : A7) (a8 : A8) (h : I a1 a2 a3 a4 a5 a6 a7 a8) : ∃ n, W n a1 a2 a3 a4 a5 a6 a7 a8 :=
  loop_m (σ := A1 × A2 × A3 × A4 × A5 × A6 × A7 × A8) (fun n s => W n s.1 s.2.1 s.2.2.1 s.2.2.2.1 s.2.2.2.2.1 s.2.2.2.2.2.1 s.2.2.2.2.2.2.1 s.2.2.2.2.2.2.2) (fun s => I s.1 s.2.1 s.2.2.1 s.2.2.2.1 s.2.2.2.2.1 s.2.2.2.2.2.1 s.2.2.2.2.2.2.1 s.2.2.2.2.2.2.2) (fun s => μ s.1 s.2.1 s.2.2.1 s.2.2.2.1 s.2.2.2.2.1 s.2.2.2.2.2.1 s.2.2.2.2.2.2.1 s.2.2.2.2.2.2.2) (fun n s hI hk => hs n s.1 s.2.1 s.2.2.1 s.2.2.2.1 s.2.2.2.2.1 s.2.2.2.2.2.1 s.2.2.2.2.2.2.1 s.2.2.2.2.2.2.2 hI (fun b1 b2 b3 b4 b5 b6 b7 b8 h9 hm => hk (b1, b2, b3, b4, b5, b6, b7, b8) h9 hm)) (a1, a2, a3, a4, a5, a6, a7, a8) h
end
section
/-! counting below a bound, and the pigeons -/
noncomputable def ly_one (P : Prop) : Nat := @ite Nat P (Classical.propDecidable P) 1 0
theorem ly_one_t {P : Prop} (h : P) : ly_one P = 1 := if_pos h
theorem ly_one_f {P : Prop} (h : ¬ P) : ly_one P = 0 := if_neg h
noncomputable def ly_cnt (P : Nat → Prop) : Nat → Nat
  | 0 => 0
  | n + 1 => ly_cnt P n + ly_one (P n)
theorem ly_cnt_0 (P : Nat → Prop) : ly_cnt P 0 = 0 := rfl
theorem ly_cnt_t {P : Nat → Prop} {n : Nat} (h : P n) : ly_cnt P (n + 1) = ly_cnt P n + 1 := by
  show ly_cnt P n + ly_one (P n) = _
  rw [ly_one_t h]
theorem ly_cnt_f {P : Nat → Prop} {n : Nat} (h : ¬ P n) : ly_cnt P (n + 1) = ly_cnt P n := by
  show ly_cnt P n + ly_one (P n) = _
  rw [ly_one_f h]; rfl
theorem ly_cnt_le (P : Nat → Prop) (n : Nat) : ly_cnt P n ≤ n := by
  induction n with
  | zero => exact Nat.le_refl 0
  | succ n ih =>
    by_cases h : P n
    · rw [ly_cnt_t h]; omega
    · rw [ly_cnt_f h]; omega
theorem ly_cnt_mono {P Q : Nat → Prop} (n : Nat) (h : ∀ j, j < n → P j → Q j) : ly_cnt P n ≤ ly_cnt Q n := by
  induction n with
  | zero => exact Nat.le_refl 0
  | succ n ih =>
    have ih := ih (fun j hj => h j (by omega))
    by_cases hp : P n
    · rw [ly_cnt_t hp, ly_cnt_t (h n (by omega) hp)]; omega
    · rw [ly_cnt_f hp]
      by_cases hq : Q n
      · rw [ly_cnt_t hq]; omega
      · rw [ly_cnt_f hq]; omega
theorem ly_cnt_up (P : Nat → Prop) {m n : Nat} (h : m ≤ n) : ly_cnt P m ≤ ly_cnt P n := by
  induction n with
  | zero => obtain rfl : m = 0 := by omega
            exact Nat.le_refl _
  | succ n ih =>
    by_cases e : m = n + 1
    · rw [e]; exact Nat.le_refl _
    · have ih := ih (by omega)
      by_cases hp : P n
      · rw [ly_cnt_t hp]; omega
      · rw [ly_cnt_f hp]; omega
theorem ly_cnt_congr {P Q : Nat → Prop} (n : Nat) (h : ∀ j, j < n → (P j ↔ Q j)) : ly_cnt P n = ly_cnt Q n :=
  Nat.le_antisymm (ly_cnt_mono n fun j hj => (h j hj).1) (ly_cnt_mono n fun j hj => (h j hj).2)
theorem ly_cnt_lt {P Q : Nat → Prop} (n a : Nat) (h : ∀ j, j < n → P j → Q j) (ha : a < n) (hp : ¬ P a) (hq : Q a) : ly_cnt P n < ly_cnt Q n := by
  induction n with
  | zero => exact absurd ha (Nat.not_lt_zero a)
  | succ n ih =>
    by_cases e : a = n
    · subst e
      have h2 : ly_cnt P a ≤ ly_cnt Q a := ly_cnt_mono a (fun j hj => h j (by omega))
      rw [ly_cnt_f hp, ly_cnt_t hq]
      omega
    · have ih := ih (fun j hj => h j (by omega)) (by omega)
      by_cases hpn : P n
      · rw [ly_cnt_t hpn, ly_cnt_t (h n (by omega) hpn)]; omega
      · rw [ly_cnt_f hpn]
        by_cases hqn : Q n
        · rw [ly_cnt_t hqn]; omega
        · rw [ly_cnt_f hqn]; omega
theorem ly_cnt_all {P : Nat → Prop} (n : Nat) (h : ∀ j, j < n → P j) : ly_cnt P n = n := by
  induction n with
  | zero => rfl
  | succ n ih => rw [ly_cnt_t (h n (by omega)), ih (fun j hj => h j (by omega))]
theorem ly_cnt_none {P : Nat → Prop} (n : Nat) (h : ∀ j, j < n → ¬ P j) : ly_cnt P n = 0 := by
  induction n with
  | zero => rfl
  | succ n ih => rw [ly_cnt_f (h n (by omega)), ih (fun j hj => h j (by omega))]
theorem ly_cnt_ltn {P : Nat → Prop} (n a : Nat) (ha : a < n) (h : ¬ P a) : ly_cnt P n < n := by
  have h1 := ly_cnt_lt (P := P) (Q := fun _ => True) n a (fun _ _ _ => trivial) ha h trivial
  rw [ly_cnt_all (P := fun _ => True) n (fun _ _ => trivial)] at h1
  exact h1
theorem ly_cnt_full {P : Nat → Prop} (n : Nat) (e : ly_cnt P n = n) (j : Nat) (hj : j < n) : P j := by
  by_cases h : P j
  · exact h
  · have := ly_cnt_ltn n j hj h
    omega
theorem ly_cnt_add1 {P : Nat → Prop} (n a : Nat) (ha : a < n) (hp : ¬ P a) : ly_cnt (fun j => P j ∨ j = a) n = ly_cnt P n + 1 := by
  induction n with
  | zero => exact absurd ha (Nat.not_lt_zero a)
  | succ n ih =>
    by_cases e : a = n
    · subst e
      have h2 : ly_cnt (fun j => P j ∨ j = a) a = ly_cnt P a := ly_cnt_congr a (fun j hj => ⟨fun z => z.resolve_right (by omega), fun z => Or.inl z⟩)
      rw [ly_cnt_t (P := fun j => P j ∨ j = a) (Or.inr rfl), ly_cnt_f hp, h2]
    · have ih := ih (by omega)
      by_cases hn : P n
      · rw [ly_cnt_t (P := fun j => P j ∨ j = a) (Or.inl hn), ly_cnt_t hn, ih]
      · rw [ly_cnt_f (P := fun j => P j ∨ j = a) (fun z => z.elim hn (by omega)), ly_cnt_f hn, ih]
theorem ly_cnt_below (x n : Nat) (h : x ≤ n) : ly_cnt (fun y => y < x) n = x := by
  induction n with
  | zero => obtain rfl : x = 0 := by omega
            rfl
  | succ n ih =>
    by_cases e : x = n + 1
    · subst e
      exact ly_cnt_all _ (fun j hj => hj)
    · rw [ly_cnt_f (P := fun y => y < x) (by omega), ih (by omega)]
theorem ly_pigeon (n : Nat) : ∀ f : Nat → Nat, (∀ i, i < n → f i < n) → (∀ i j, i < n → j < n → f i = f j → i = j) → ∀ t, t < n → ∃ j, j < n ∧ f j = t := by
  induction n with
  | zero => exact fun f _ _ t ht => absurd ht (Nat.not_lt_zero t)
  | succ n ih =>
    intro f h1 h2 t ht
    have hS := ih (fun j => if f j = n then f n else f j) ?_ ?_
    · by_cases et : t = n
      · subst et
        by_cases ev : f t = t
        · exact ⟨t, by omega, ev⟩
        · obtain ⟨j, hj, ej⟩ := hS (f t) (by have := h1 t (by omega); omega)
          by_cases c : f j = t
          · exact ⟨j, by omega, c⟩
          · rw [if_neg c] at ej
            have := h2 j t (by omega) (by omega) ej
            omega
      · obtain ⟨j, hj, ej⟩ := hS t (by omega)
        by_cases c : f j = n
        · rw [if_pos c] at ej
          exact ⟨n, by omega, ej⟩
        · rw [if_neg c] at ej
          exact ⟨j, by omega, ej⟩
    · intro i hi
      by_cases c : f i = n
      · rw [if_pos c]
        have a := h1 n (by omega)
        have b : f n ≠ n := fun z => by
          have := h2 i n (by omega) (by omega) (c.trans z.symm)
          omega
        omega
      · rw [if_neg c]
        have a := h1 i (by omega)
        omega
    · intro i j hi hj e
      by_cases c : f i = n
      · by_cases d : f j = n
        · exact h2 i j (by omega) (by omega) (c.trans d.symm)
        · rw [if_pos c, if_neg d] at e
          have := h2 n j (by omega) (by omega) e
          omega
      · by_cases d : f j = n
        · rw [if_neg c, if_pos d] at e
          have := h2 i n (by omega) (by omega) e
          omega
        · rw [if_neg c, if_neg d] at e
          exact h2 i j (by omega) (by omega) e
/-! ranks in a strict total order -/
def ly_STO (R : Nat → Nat → Prop) (n : Nat) : Prop := (∀ p, ¬ R p p) ∧ (∀ p q r, R p q → R q r → R p r) ∧ (∀ p q, p < n → q < n → p ≠ q → R p q ∨ R q p)
noncomputable def ly_rk (R : Nat → Nat → Prop) (n p : Nat) : Nat := ly_cnt (fun q => R q p) n
theorem ly_rk_lt {R : Nat → Nat → Prop} {n p : Nat} (h : ly_STO R n) (hp : p < n) : ly_rk R n p < n := ly_cnt_ltn n p hp (h.1 p)
theorem ly_rk_mono {R : Nat → Nat → Prop} {n p q : Nat} (h : ly_STO R n) (hp : p < n) (hr : R p q) : ly_rk R n p < ly_rk R n q :=
  ly_cnt_lt n p (fun j _ hj => h.2.1 j p q hj hr) hp (h.1 p) hr
theorem ly_rk_inj {R : Nat → Nat → Prop} {n p q : Nat} (h : ly_STO R n) (hp : p < n) (hq : q < n) (e : ly_rk R n p = ly_rk R n q) : p = q := by
  by_cases c : p = q
  · exact c
  · rcases h.2.2 p q hp hq c with d | d
    · have := ly_rk_mono h hp d; omega
    · have := ly_rk_mono h hq d; omega
theorem ly_rk_surj {R : Nat → Nat → Prop} {n : Nat} (h : ly_STO R n) (r : Nat) (hr : r < n) : ∃ p, p < n ∧ ly_rk R n p = r :=
  ly_pigeon n (ly_rk R n) (fun _ hi => ly_rk_lt h hi) (fun _ _ hi hj e => ly_rk_inj h hi hj e) r hr
theorem ly_rk_ltI {R : Nat → Nat → Prop} {n p q : Nat} (h : ly_STO R n) (hp : p < n) (hq : q < n) : ly_rk R n p < ly_rk R n q ↔ R p q := by
  constructor
  · intro e
    by_cases c : p = q
    · subst c; omega
    · rcases h.2.2 p q hp hq c with d | d
      · exact d
      · have := ly_rk_mono h hq d; omega
  · exact ly_rk_mono h hp
/-! the dictionary order of the first m letters, then the smaller place -/
def ly_lex (f : Nat → Nat → Nat) (m p q : Nat) : Prop := (∃ k, k < m ∧ (∀ i, i < k → f p i = f q i) ∧ f p k < f q k) ∨ ((∀ i, i < m → f p i = f q i) ∧ p < q)
theorem ly_lex_sto (f : Nat → Nat → Nat) (m n : Nat) : ly_STO (ly_lex f m) n := by
  refine ⟨?_, ?_, ?_⟩
  · rintro p (⟨k, _, _, h⟩ | ⟨_, h⟩) <;> omega
  · rintro p q r (⟨k, k1, k2, k3⟩ | ⟨k2, k3⟩) (⟨l, l1, l2, l3⟩ | ⟨l2, l3⟩)
    · by_cases c : k < l
      · exact Or.inl ⟨k, k1, fun i hi => (k2 i hi).trans (l2 i (by omega)), by rw [← l2 k c]; exact k3⟩
      · by_cases d : k = l
        · subst d
          exact Or.inl ⟨k, k1, fun i hi => (k2 i hi).trans (l2 i hi), by omega⟩
        · exact Or.inl ⟨l, l1, fun i hi => (k2 i (by omega)).trans (l2 i hi), by rw [k2 l (by omega)]; exact l3⟩
    · exact Or.inl ⟨k, k1, fun i hi => (k2 i hi).trans (l2 i (by omega)), by rw [← l2 k k1]; exact k3⟩
    · exact Or.inl ⟨l, l1, fun i hi => (k2 i (by omega)).trans (l2 i hi), by rw [k2 l l1]; exact l3⟩
    · exact Or.inr ⟨fun i hi => (k2 i hi).trans (l2 i hi), by omega⟩
  · intro p q _ _ hne
    by_cases h : ∃ k, k < m ∧ f p k ≠ f q k
    · obtain ⟨k, ⟨k1, k2⟩, k3⟩ := pk_least _ h
      have k4 : ∀ i, i < k → f p i = f q i := fun i hi => by
        have := k3 i hi
        by_cases c : f p i = f q i
        · exact c
        · exact absurd ⟨by omega, c⟩ this
      by_cases c : f p k < f q k
      · exact Or.inl (Or.inl ⟨k, k1, k4, c⟩)
      · exact Or.inr (Or.inl ⟨k, k1, fun i hi => (k4 i hi).symm, by omega⟩)
    · have h2 : ∀ i, i < m → f p i = f q i := fun i hi => by
        by_cases c : f p i = f q i
        · exact c
        · exact absurd ⟨i, hi, c⟩ h
      by_cases c : p < q
      · exact Or.inl (Or.inr ⟨h2, c⟩)
      · exact Or.inr (Or.inr ⟨fun i hi => (h2 i hi).symm, by omega⟩)
end
section
/-! prime words, the scan, the factors, the rows -/
def ly_Lt (b : Nat → Nat) (s t e : Nat) : Prop := ∃ k, t + k < e ∧ (∀ i, i < k → b (s + i) = b (t + i)) ∧ b (s + k) < b (t + k)
def ly_Pr (b : Nat → Nat) (s e : Nat) : Prop := ∀ t, s < t → t < e → ly_Lt b s t e
def ly_Dv (b : Nat → Nat) (s p i : Nat) : Prop := 1 ≤ p ∧ s + p ≤ i ∧ ly_Pr b s (s + p) ∧ ∀ j, s + p ≤ j → j < i → b j = b (j - p)
theorem ly_at {b : Nat → Nat} {i j : Nat} (h : i = j) : b i = b j := congrArg b h
theorem ly_Dv0 (b : Nat → Nat) (s : Nat) : ly_Dv b s 1 (s + 1) :=
  ⟨Nat.le_refl 1, Nat.le_refl _, fun t h1 h2 => by omega, fun j h1 h2 => by omega⟩
theorem ly_Dv_eq {b : Nat → Nat} {s p i : Nat} (D : ly_Dv b s p i) (h : b i = b (i - p)) : ly_Dv b s p (i + 1) := by
  obtain ⟨h1, h2, h3, h4⟩ := D
  refine ⟨h1, by omega, h3, fun j a c => ?_⟩
  by_cases e : j = i
  · subst e; exact h
  · exact h4 j a (by omega)
theorem ly_Dv_pr {b : Nat → Nat} {s p i : Nat} (D : ly_Dv b s p i) (h : b (i - p) < b i) : ∀ t, s < t → t < i + 1 → ly_Lt b s t (i + 1) := by
  obtain ⟨h1, h2, h3, h4⟩ := D
  intro t
  induction t using Nat.strongRecOn with
  | ind t ih =>
    intro hs ht
    by_cases c : t < s + p
    · obtain ⟨k, k1, k2, k3⟩ := h3 t hs c
      exact ⟨k, by omega, k2, k3⟩
    · by_cases c2 : t - p = s
      · refine ⟨i - t, by omega, fun j hj => ?_, ?_⟩
        · rw [h4 (t + j) (by omega) (by omega)]
          exact ly_at (by omega)
        · have e1 : s + (i - t) = i - p := by omega
          have e2 : t + (i - t) = i := by omega
          rw [e1, e2]; exact h
      · obtain ⟨k, k1, k2, k3⟩ := ih (t - p) (by omega) (by omega) (by omega)
        by_cases c3 : t + k < i
        · refine ⟨k, by omega, fun j hj => ?_, ?_⟩
          · rw [k2 j hj, h4 (t + j) (by omega) (by omega)]
            exact ly_at (by omega)
          · rw [h4 (t + k) (by omega) (by omega)]
            have e : t + k - p = t - p + k := by omega
            rw [e]; exact k3
        · refine ⟨i - t, by omega, fun j hj => ?_, ?_⟩
          · rw [k2 j (by omega), h4 (t + j) (by omega) (by omega)]
            exact ly_at (by omega)
          · have e2 : t + (i - t) = i := by omega
            have e3 : t - p + (i - t) = i - p := by omega
            rw [e2]
            by_cases c4 : i - t = k
            · have k4 : b (s + (i - t)) < b (t - p + (i - t)) := by rw [c4]; exact k3
              rw [e3] at k4
              omega
            · have k4 := k2 (i - t) (by omega)
              rw [e3] at k4
              rw [k4]; exact h
theorem ly_Dv_gt {b : Nat → Nat} {s p i : Nat} (D : ly_Dv b s p i) (h : b (i - p) < b i) : ly_Dv b s (i - s + 1) (i + 1) := by
  have hp := ly_Dv_pr D h
  obtain ⟨h1, h2, h3, h4⟩ := D
  have e : s + (i - s + 1) = i + 1 := by omega
  exact ⟨by omega, by omega, by rw [e]; exact hp, fun j a c => by omega⟩
theorem ly_Dv_no {b : Nat → Nat} {s p i : Nat} (D : ly_Dv b s p i) (l : Nat) (h : s + p < l) (hl : l ≤ i) : ¬ ly_Pr b s l := by
  obtain ⟨h1, h2, h3, h4⟩ := D
  intro hp
  obtain ⟨k, k1, k2, k3⟩ := hp (s + p) (by omega) h
  have h5 := h4 (s + p + k) (by omega) (by omega)
  have e : s + p + k - p = s + k := by omega
  rw [e] at h5
  omega
theorem ly_Dv_stop {b : Nat → Nat} {s p i : Nat} (D : ly_Dv b s p i) (h : b i < b (i - p)) (l : Nat) (hl : i < l) : ¬ ly_Pr b s l := by
  obtain ⟨h1, h2, h3, h4⟩ := D
  intro hp
  obtain ⟨k, k1, k2, k3⟩ := hp (s + p) (by omega) (by omega)
  by_cases c : s + p + k < i
  · have h5 := h4 (s + p + k) (by omega) c
    have e : s + p + k - p = s + k := by omega
    rw [e] at h5
    omega
  · by_cases d : s + p + k = i
    · have e : s + k = i - p := by omega
      rw [d, e] at k3
      omega
    · have h5 := k2 (i - s - p) (by omega)
      have e1 : s + (i - s - p) = i - p := by omega
      have e2 : s + p + (i - s - p) = i := by omega
      rw [e1, e2] at h5
      omega
/-- e ends the longest prime word that begins at s -/
def ly_isE (b : Nat → Nat) (n s e : Nat) : Prop := s < e ∧ e ≤ n ∧ ly_Pr b s e ∧ ∀ l, e < l → l ≤ n → ¬ ly_Pr b s l
theorem ly_isE_uniq {b : Nat → Nat} {n s e f : Nat} (h : ly_isE b n s e) (g : ly_isE b n s f) : e = f := by
  by_cases c : e < f
  · exact absurd g.2.2.1 (h.2.2.2 f c g.2.1)
  · by_cases d : f < e
    · exact absurd h.2.2.1 (g.2.2.2 e d h.2.1)
    · omega
theorem ly_Pr1 (b : Nat → Nat) (s : Nat) : ly_Pr b s (s + 1) := fun t h1 h2 => by omega
theorem ly_isE_ex (b : Nat → Nat) (n s : Nat) (h : s < n) : ∃ e, ly_isE b n s e := by
  induction n with
  | zero => omega
  | succ n ih =>
    by_cases c : ly_Pr b s (n + 1)
    · exact ⟨n + 1, h, Nat.le_refl _, c, fun l a d => by omega⟩
    · by_cases e : s = n
      · subst e
        exact absurd (ly_Pr1 b s) c
      · obtain ⟨e, e1, e2, e3, e4⟩ := ih (by omega)
        refine ⟨e, e1, by omega, e3, fun l a d => ?_⟩
        by_cases f : l = n + 1
        · rw [f]; exact c
        · exact e4 l a (by omega)
noncomputable def ly_E (b : Nat → Nat) (n s : Nat) : Nat := Classical.epsilon (ly_isE b n s)
theorem ly_E_is (b : Nat → Nat) {n s : Nat} (h : s < n) : ly_isE b n s (ly_E b n s) := Classical.epsilon_spec (ly_isE_ex b n s h)
theorem ly_E_eq {b : Nat → Nat} {n s e : Nat} (h : ly_isE b n s e) : ly_E b n s = e := ly_isE_uniq (ly_E_is b (by have := h.1; have := h.2.1; omega)) h
theorem ly_E_dv {b : Nat → Nat} {n s p i : Nat} (D : ly_Dv b s p i) (hi : i ≤ n) (h : i = n ∨ b i < b (i - p)) : ly_E b n s = s + p := by
  refine ly_E_eq ⟨by have := D.1; omega, by have := D.2.1; omega, D.2.2.1, fun l a c => ?_⟩
  by_cases d : l ≤ i
  · exact ly_Dv_no D l a d
  · rcases h with h | h
    · omega
    · exact ly_Dv_stop D h l (by omega)
/-- the factor of p: st p .. en p - 1 -/
noncomputable def ly_st (b : Nat → Nat) (n : Nat) : Nat → Nat
  | 0 => 0
  | p + 1 => if p + 1 = ly_E b n (ly_st b n p) then p + 1 else ly_st b n p
noncomputable def ly_en (b : Nat → Nat) (n p : Nat) : Nat := ly_E b n (ly_st b n p)
theorem ly_st_t {b : Nat → Nat} {n p : Nat} (h : p + 1 = ly_en b n p) : ly_st b n (p + 1) = p + 1 := if_pos h
theorem ly_st_f {b : Nat → Nat} {n p : Nat} (h : ¬ p + 1 = ly_en b n p) : ly_st b n (p + 1) = ly_st b n p := if_neg h
theorem ly_st_in (b : Nat → Nat) {n p : Nat} (h : p < n) : ly_st b n p ≤ p ∧ p < ly_en b n p ∧ ly_en b n p ≤ n := by
  induction p with
  | zero =>
    have a := ly_E_is b (n := n) (s := 0) h
    exact ⟨Nat.le_refl 0, a.1, a.2.1⟩
  | succ p ih =>
    obtain ⟨h1, h2, h3⟩ := ih (by omega)
    by_cases c : p + 1 = ly_en b n p
    · have a := ly_E_is b (n := n) (s := p + 1) h
      unfold ly_en
      rw [ly_st_t c]
      exact ⟨Nat.le_refl _, a.1, a.2.1⟩
    · have e : ly_en b n (p + 1) = ly_en b n p := by unfold ly_en; rw [ly_st_f c]
      rw [e, ly_st_f c]
      exact ⟨by omega, by omega, h3⟩
theorem ly_st_st (b : Nat → Nat) (n p : Nat) : ly_st b n (ly_st b n p) = ly_st b n p := by
  induction p with
  | zero => rfl
  | succ p ih =>
    by_cases c : p + 1 = ly_en b n p
    · rw [ly_st_t c, ly_st_t c]
    · rw [ly_st_f c]; exact ih
theorem ly_st_up (b : Nat → Nat) (n p : Nat) : ∀ d, p + d < ly_en b n p → ly_st b n (p + d) = ly_st b n p := by
  intro d
  induction d with
  | zero => exact fun _ => rfl
  | succ d ih =>
    intro h
    have ih := ih (by omega)
    have e : ly_en b n (p + d) = ly_en b n p := by unfold ly_en; rw [ih]
    have := ly_st_f (b := b) (n := n) (p := p + d) (by rw [e]; omega)
    rw [← Nat.add_assoc, this]; exact ih
theorem ly_st_same {b : Nat → Nat} {n p u : Nat} (h1 : ly_st b n p ≤ u) (h2 : u < ly_en b n p) : ly_st b n u = ly_st b n p := by
  have e : ly_en b n (ly_st b n p) = ly_en b n p := by unfold ly_en; rw [ly_st_st]
  have := ly_st_up b n (ly_st b n p) (u - ly_st b n p) (by rw [e]; omega)
  rw [ly_st_st] at this
  rw [← this]
  exact congrArg (ly_st b n) (by omega)
theorem ly_en_same {b : Nat → Nat} {n p u : Nat} (h1 : ly_st b n p ≤ u) (h2 : u < ly_en b n p) : ly_en b n u = ly_en b n p := by
  unfold ly_en; rw [ly_st_same h1 h2]
/-- where the next factor must begin when all before p is cut -/
noncomputable def ly_pe (b : Nat → Nat) (n : Nat) : Nat → Nat
  | 0 => 0
  | p + 1 => ly_en b n p
noncomputable def ly_ps (b : Nat → Nat) (n : Nat) : Nat → Nat
  | 0 => 0
  | p + 1 => ly_st b n p
theorem ly_st_pe_t {b : Nat → Nat} {n p : Nat} (h : p = ly_pe b n p) : ly_st b n p = p := by
  cases p with
  | zero => rfl
  | succ p => exact ly_st_t h
theorem ly_st_pe_f {b : Nat → Nat} {n p : Nat} (h : ¬ p = ly_pe b n p) : ly_st b n p = ly_ps b n p ∧ ly_en b n p = ly_pe b n p := by
  cases p with
  | zero => exact absurd rfl h
  | succ p =>
    have e : ly_st b n (p + 1) = ly_st b n p := ly_st_f h
    refine ⟨e, ?_⟩
    show ly_E b n (ly_st b n (p + 1)) = _
    rw [e]; rfl
theorem ly_st_pe_ne {b : Nat → Nat} {n p : Nat} (hp : p < n) (h : ¬ p = ly_pe b n p) : ¬ ly_st b n p = p := by
  cases p with
  | zero => exact absurd rfl h
  | succ p =>
    have e : ly_st b n (p + 1) = ly_st b n p := ly_st_f h
    have := (ly_st_in b (n := n) (p := p) (by omega)).1
    omega
theorem ly_pe_le {b : Nat → Nat} {n p : Nat} (hp : p < n) : p ≤ ly_pe b n p ∧ ly_pe b n p ≤ n := by
  cases p with
  | zero => exact ⟨Nat.le_refl 0, Nat.zero_le _⟩
  | succ p =>
    have := (ly_st_in b (n := n) (p := p) (by omega)).2
    exact ⟨this.1, this.2⟩
/-- round and round in the factor -/
noncomputable def ly_nx (b : Nat → Nat) (n p : Nat) : Nat := if p + 1 = ly_en b n p then ly_st b n p else p + 1
theorem ly_nx_in (b : Nat → Nat) {n p : Nat} (h : p < n) : ly_st b n p ≤ ly_nx b n p ∧ ly_nx b n p < ly_en b n p := by
  have h1 := ly_st_in b h
  unfold ly_nx
  by_cases c : p + 1 = ly_en b n p
  · rw [if_pos c]; omega
  · rw [if_neg c]; omega
noncomputable def ly_pos (b : Nat → Nat) (n p : Nat) : Nat → Nat
  | 0 => p
  | k + 1 => ly_nx b n (ly_pos b n p k)
theorem ly_pos_in (b : Nat → Nat) {n p : Nat} (h : p < n) (k : Nat) : ly_st b n p ≤ ly_pos b n p k ∧ ly_pos b n p k < ly_en b n p := by
  induction k with
  | zero => exact ⟨(ly_st_in b h).1, (ly_st_in b h).2.1⟩
  | succ k ih =>
    have hl : ly_pos b n p k < n := by have := (ly_st_in b h).2.2; omega
    have := ly_nx_in b hl
    rw [ly_st_same ih.1 ih.2, ly_en_same ih.1 ih.2] at this
    exact this
theorem ly_pos_lt (b : Nat → Nat) {n p : Nat} (h : p < n) (k : Nat) : ly_pos b n p k < n := by
  have h1 := ly_pos_in b h k
  have h2 := (ly_st_in b h).2.2
  omega
theorem ly_pos_nx (b : Nat → Nat) {n p : Nat} (h : p < n) (k : Nat) : ly_pos b n p (k + 1) = if ly_pos b n p k + 1 = ly_en b n p then ly_st b n p else ly_pos b n p k + 1 := by
  have h1 := ly_pos_in b h k
  show ly_nx b n (ly_pos b n p k) = _
  unfold ly_nx
  rw [ly_st_same h1.1 h1.2, ly_en_same h1.1 h1.2]
def ly_bf (b : Nat → Nat) (n : Nat) : Nat → Nat → Prop := ly_lex (fun p k => b (ly_pos b n p k)) 48
theorem ly_bf_sto (b : Nat → Nat) (n : Nat) : ly_STO (ly_bf b n) n := ly_lex_sto _ 48 n
noncomputable def ly_row (b : Nat → Nat) (n r : Nat) : Nat := Classical.epsilon (fun p => p < n ∧ ly_rk (ly_bf b n) n p = r)
theorem ly_row_is (b : Nat → Nat) {n r : Nat} (h : r < n) : ly_row b n r < n ∧ ly_rk (ly_bf b n) n (ly_row b n r) = r := Classical.epsilon_spec (ly_rk_surj (ly_bf_sto b n) r h)
theorem ly_row_eq {b : Nat → Nat} {n p : Nat} (h : p < n) : ly_row b n (ly_rk (ly_bf b n) n p) = p :=
  have h1 := ly_row_is b (ly_rk_lt (ly_bf_sto b n) h)
  ly_rk_inj (ly_bf_sto b n) h1.1 h h1.2
/-- the last letter of p, the transformed block, the number of factors -/
noncomputable def ly_ll (b : Nat → Nat) (n p : Nat) : Nat := if p = ly_st b n p then b (ly_en b n p - 1) else b (p - 1)
noncomputable def ly_T (b : Nat → Nat) (n r : Nat) : Nat := if r < n then ly_ll b n (ly_row b n r) else 0
theorem ly_T_at (b : Nat → Nat) {n r : Nat} (h : r < n) : ly_T b n r = ly_ll b n (ly_row b n r) := if_pos h
theorem ly_T_out (b : Nat → Nat) {n r : Nat} (h : n ≤ r) : ly_T b n r = 0 := if_neg (by omega)
noncomputable def ly_fc (b : Nat → Nat) (n : Nat) : Nat → Nat := ly_cnt (fun p => ly_st b n p = p)
theorem ly_ll_lt {b : Nat → Nat} {n p K : Nat} (hb : ∀ j, j < n → b j < K) (h : p < n) : ly_ll b n p < K := by
  have h1 := ly_st_in b h
  unfold ly_ll
  by_cases c : p = ly_st b n p
  · rw [if_pos c]; exact hb _ (by omega)
  · rw [if_neg c]; exact hb _ (by omega)
theorem ly_T_lt {b : Nat → Nat} {n r K : Nat} (hb : ∀ j, j < n → b j < K) (h : r < n) : ly_T b n r < K := by
  rw [ly_T_at b h]
  exact ly_ll_lt hb (ly_row_is b h).1
/-- nothing of all this looks beyond n -/
theorem ly_Lt_congr {b c : Nat → Nat} {n s t e : Nat} (h : ∀ j, j < n → b j = c j) (hs : s ≤ t) (he : e ≤ n) (H : ly_Lt b s t e) : ly_Lt c s t e := by
  obtain ⟨k, k1, k2, k3⟩ := H
  refine ⟨k, k1, fun i hi => ?_, ?_⟩
  · rw [← h _ (by omega), ← h _ (by omega)]; exact k2 i hi
  · rw [← h _ (by omega), ← h _ (by omega)]; exact k3
theorem ly_Pr_congr {b c : Nat → Nat} {n s e : Nat} (h : ∀ j, j < n → b j = c j) (he : e ≤ n) (H : ly_Pr b s e) : ly_Pr c s e :=
  fun t h1 h2 => ly_Lt_congr h (by omega) he (H t h1 h2)
end
section
/-! the order by letter and place, its permutation, the cycles -/
def ly_gR (b : Nat → Nat) (j i : Nat) : Prop := b j < b i ∨ (b j = b i ∧ j < i)
theorem ly_gR_sto (b : Nat → Nat) (n : Nat) : ly_STO (ly_gR b) n := by
  refine ⟨fun p h => ?_, fun p q r h1 h2 => ?_, fun p q _ _ h => ?_⟩
  · unfold ly_gR at h; omega
  · unfold ly_gR at *; omega
  · unfold ly_gR; omega
def ly_perm (g : Nat → Nat) (n : Nat) : Prop := (∀ i, i < n → g i < n) ∧ (∀ i j, i < n → j < n → g i = g j → i = j)
theorem ly_g_perm (b : Nat → Nat) (n : Nat) : ly_perm (ly_rk (ly_gR b) n) n :=
  ⟨fun _ hi => ly_rk_lt (ly_gR_sto b n) hi, fun _ _ hi hj e => ly_rk_inj (ly_gR_sto b n) hi hj e⟩
def ly_it (g : Nat → Nat) (a : Nat) : Nat → Nat
  | 0 => a
  | k + 1 => g (ly_it g a k)
theorem ly_it_lt {g : Nat → Nat} {n a : Nat} (h : ly_perm g n) (ha : a < n) (k : Nat) : ly_it g a k < n := by
  induction k with
  | zero => exact ha
  | succ k ih => exact h.1 _ ih
theorem ly_it_add (g : Nat → Nat) (a k l : Nat) : ly_it g a (k + l) = ly_it g (ly_it g a k) l := by
  induction l with
  | zero => rfl
  | succ l ih =>
    show g (ly_it g a (k + l)) = g (ly_it g (ly_it g a k) l)
    rw [ih]
theorem ly_it_inj {g : Nat → Nat} {n : Nat} (h : ly_perm g n) (k : Nat) : ∀ x y, x < n → y < n → ly_it g x k = ly_it g y k → x = y := by
  induction k with
  | zero => exact fun x y _ _ e => e
  | succ k ih => exact fun x y hx hy e => ih x y hx hy (h.2 _ _ (ly_it_lt h hx k) (ly_it_lt h hy k) e)
theorem ly_it_sub {g : Nat → Nat} {n a i j : Nat} (h : ly_perm g n) (ha : a < n) (hij : i ≤ j) (e : ly_it g a i = ly_it g a j) : ly_it g a (j - i) = a := by
  have e2 : j = (j - i) + i := by omega
  rw [e2, ly_it_add g a (j - i) i] at e
  exact (ly_it_inj h i a (ly_it g a (j - i)) ha (ly_it_lt h ha _) e).symm
theorem ly_cyc_ex {g : Nat → Nat} {n a : Nat} (h : ly_perm g n) (ha : a < n) : ∃ L, 1 ≤ L ∧ L ≤ n ∧ ly_it g a L = a := by
  by_cases c : ∃ L, 1 ≤ L ∧ L ≤ n ∧ ly_it g a L = a
  · exact c
  · have hinj : ∀ i j, i < n → j < n → ly_it g a i = ly_it g a j → i = j := by
      intro i j hi hj e
      by_cases d : i = j
      · exact d
      · by_cases l : i < j
        · exact absurd ⟨j - i, by omega, by omega, ly_it_sub h ha (by omega) e⟩ c
        · exact absurd ⟨i - j, by omega, by omega, ly_it_sub h ha (by omega) e.symm⟩ c
    obtain ⟨j, hj, ej⟩ := ly_pigeon n (ly_it g a) (fun i _ => ly_it_lt h ha i) hinj (ly_it g a n) (ly_it_lt h ha n)
    exact ⟨n - j, by omega, by omega, ly_it_sub h ha (by omega) ej⟩
def ly_isL (g : Nat → Nat) (a L : Nat) : Prop := (1 ≤ L ∧ ly_it g a L = a) ∧ ∀ j, j < L → ¬ (1 ≤ j ∧ ly_it g a j = a)
theorem ly_isL_ex {g : Nat → Nat} {n a : Nat} (h : ly_perm g n) (ha : a < n) : ∃ L, ly_isL g a L := by
  obtain ⟨L, h1, _, h3⟩ := ly_cyc_ex h ha
  exact pk_least (fun L => 1 ≤ L ∧ ly_it g a L = a) ⟨L, h1, h3⟩
noncomputable def ly_len (g : Nat → Nat) (a : Nat) : Nat := Classical.epsilon (ly_isL g a)
theorem ly_len_is {g : Nat → Nat} {n a : Nat} (h : ly_perm g n) (ha : a < n) : ly_isL g a (ly_len g a) := Classical.epsilon_spec (ly_isL_ex h ha)
theorem ly_len_pos {g : Nat → Nat} {n a : Nat} (h : ly_perm g n) (ha : a < n) : 1 ≤ ly_len g a := (ly_len_is h ha).1.1
theorem ly_len_it {g : Nat → Nat} {n a : Nat} (h : ly_perm g n) (ha : a < n) : ly_it g a (ly_len g a) = a := (ly_len_is h ha).1.2
theorem ly_len_min {g : Nat → Nat} {n a j : Nat} (h : ly_perm g n) (ha : a < n) (h1 : 1 ≤ j) (e : ly_it g a j = a) : ly_len g a ≤ j := by
  by_cases c : j < ly_len g a
  · exact absurd ⟨h1, e⟩ ((ly_len_is h ha).2 j c)
  · omega
theorem ly_len_le {g : Nat → Nat} {n a : Nat} (h : ly_perm g n) (ha : a < n) : ly_len g a ≤ n := by
  obtain ⟨L, h1, h2, h3⟩ := ly_cyc_ex h ha
  have := ly_len_min h ha h1 h3
  omega
theorem ly_len_ne {g : Nat → Nat} {n a i j : Nat} (h : ly_perm g n) (ha : a < n) (hij : i < j) (hj : j < ly_len g a) : ly_it g a i ≠ ly_it g a j := by
  intro e
  have := ly_len_min h ha (by omega) (ly_it_sub h ha (by omega) e)
  omega
/-! orbits -/
def ly_O (g : Nat → Nat) (a j : Nat) : Prop := ∃ k, ly_it g a k = j
theorem ly_O_k (g : Nat → Nat) (a k : Nat) : ly_O g a (ly_it g a k) := ⟨k, rfl⟩
theorem ly_O_tr {g : Nat → Nat} {a j l : Nat} (h1 : ly_O g a j) (h2 : ly_O g j l) : ly_O g a l := by
  obtain ⟨k, rfl⟩ := h1
  obtain ⟨m, rfl⟩ := h2
  exact ⟨k + m, ly_it_add g a k m⟩
theorem ly_O_lt {g : Nat → Nat} {n a j : Nat} (h : ly_perm g n) (ha : a < n) (H : ly_O g a j) : ∃ k, k < ly_len g a ∧ ly_it g a k = j := by
  obtain ⟨k, hk⟩ := H
  induction k using Nat.strongRecOn with
  | ind k ih =>
    by_cases c : k < ly_len g a
    · exact ⟨k, c, hk⟩
    · have h1 := ly_len_pos h ha
      refine ih (k - ly_len g a) (by omega) ?_
      have e : k = ly_len g a + (k - ly_len g a) := by omega
      rw [e, ly_it_add, ly_len_it h ha] at hk
      exact hk
theorem ly_O_sym {g : Nat → Nat} {n a j : Nat} (h : ly_perm g n) (ha : a < n) (H : ly_O g a j) : ly_O g j a := by
  obtain ⟨k, hk, rfl⟩ := ly_O_lt h ha H
  refine ⟨ly_len g a - k, ?_⟩
  rw [← ly_it_add]
  have e : k + (ly_len g a - k) = ly_len g a := by omega
  rw [e, ly_len_it h ha]
theorem ly_O_in {g : Nat → Nat} {n a j : Nat} (h : ly_perm g n) (ha : a < n) (H : ly_O g a j) : j < n := by
  obtain ⟨k, rfl⟩ := H
  exact ly_it_lt h ha k
/-- visited when all cycles with a member below i have been walked -/
def ly_V (g : Nat → Nat) (i j : Nat) : Prop := ∃ a, a < i ∧ ly_O g a j
theorem ly_V_0 (g : Nat → Nat) (j : Nat) : ¬ ly_V g 0 j := fun ⟨a, h, _⟩ => Nat.not_lt_zero a h
theorem ly_V_s (g : Nat → Nat) (i j : Nat) : ly_V g (i + 1) j ↔ (ly_V g i j ∨ ly_O g i j) := by
  constructor
  · rintro ⟨a, h1, h2⟩
    by_cases c : a = i
    · subst c; exact Or.inr h2
    · exact Or.inl ⟨a, by omega, h2⟩
  · rintro (⟨a, h1, h2⟩ | h)
    · exact ⟨a, by omega, h2⟩
    · exact ⟨i, by omega, h⟩
theorem ly_V_back {g : Nat → Nat} {n i a j : Nat} (h : ly_perm g n) (ha : a < n) (H : ly_O g a j) (v : ly_V g i j) : ly_V g i a := by
  obtain ⟨c, h1, h2⟩ := v
  exact ⟨c, h1, ly_O_tr h2 (ly_O_sym h ha H)⟩
theorem ly_V_old {g : Nat → Nat} {i : Nat} (v : ly_V g i i) (j : Nat) : ly_V g (i + 1) j ↔ ly_V g i j := by
  rw [ly_V_s]
  constructor
  · rintro (h | h)
    · exact h
    · obtain ⟨c, h1, h2⟩ := v
      exact ⟨c, h1, ly_O_tr h2 h⟩
  · exact Or.inl
theorem ly_V_n {g : Nat → Nat} {n j : Nat} (hj : j < n) : ly_V g n j := ⟨j, hj, 0, rfl⟩
/-- not visited: the smallest of its cycle -/
theorem ly_V_sm {g : Nat → Nat} {n a : Nat} (h : ly_perm g n) (ha : a < n) : ¬ ly_V g a a ↔ ∀ k, k < ly_len g a → a ≤ ly_it g a k := by
  constructor
  · intro hv k hk
    by_cases c : a ≤ ly_it g a k
    · exact c
    · exact absurd ⟨ly_it g a k, by omega, ly_O_sym h ha (ly_O_k g a k)⟩ hv
  · rintro H ⟨c, h1, h2⟩
    have hc : c < n := by omega
    obtain ⟨k, hk, e⟩ := ly_O_lt h ha (ly_O_sym h hc h2)
    have := H k hk
    omega
/-- in the midst of a walk: k cells of the cycle of i are done -/
def ly_Vk (g : Nat → Nat) (i k j : Nat) : Prop := ly_V g i j ∨ ∃ l, l < k ∧ ly_it g i l = j
theorem ly_Vk_0 (g : Nat → Nat) (i j : Nat) : ly_Vk g i 0 j ↔ ly_V g i j :=
  ⟨fun h => h.elim id (fun ⟨l, hl, _⟩ => absurd hl (Nat.not_lt_zero l)), Or.inl⟩
theorem ly_Vk_s (g : Nat → Nat) (i k j : Nat) : ly_Vk g i (k + 1) j ↔ (ly_Vk g i k j ∨ j = ly_it g i k) := by
  constructor
  · rintro (h | ⟨l, h1, h2⟩)
    · exact Or.inl (Or.inl h)
    · by_cases c : l = k
      · subst c; exact Or.inr h2.symm
      · exact Or.inl (Or.inr ⟨l, by omega, h2⟩)
  · rintro ((h | ⟨l, h1, h2⟩) | h)
    · exact Or.inl h
    · exact Or.inr ⟨l, by omega, h2⟩
    · exact Or.inr ⟨k, by omega, h.symm⟩
theorem ly_Vk_new {g : Nat → Nat} {n i k : Nat} (h : ly_perm g n) (hi : i < n) (hv : ¬ ly_V g i i) (hk : k < ly_len g i) : ¬ ly_Vk g i k (ly_it g i k) := by
  rintro (v | ⟨l, h1, h2⟩)
  · exact hv (ly_V_back h hi (ly_O_k g i k) v)
  · exact ly_len_ne h hi h1 hk h2
theorem ly_Vk_end {g : Nat → Nat} {n i : Nat} (h : ly_perm g n) (hi : i < n) : ly_Vk g i (ly_len g i) (ly_it g i (ly_len g i)) :=
  Or.inr ⟨0, ly_len_pos h hi, (ly_len_it h hi).symm⟩
theorem ly_Vk_L {g : Nat → Nat} {n i : Nat} (h : ly_perm g n) (hi : i < n) (j : Nat) : ly_Vk g i (ly_len g i) j ↔ ly_V g (i + 1) j := by
  rw [ly_V_s]
  constructor
  · rintro (v | ⟨l, h1, h2⟩)
    · exact Or.inl v
    · exact Or.inr ⟨l, h2⟩
  · rintro (v | v)
    · exact Or.inl v
    · exact Or.inr (ly_O_lt h hi v)
theorem ly_Vk_cnt {g : Nat → Nat} {n i : Nat} (h : ly_perm g n) (hi : i < n) (hv : ¬ ly_V g i i) : ∀ k, k ≤ ly_len g i → ly_cnt (ly_Vk g i k) n = ly_cnt (ly_V g i) n + k := by
  intro k
  induction k with
  | zero => exact fun _ => ly_cnt_congr n (fun j _ => ly_Vk_0 g i j)
  | succ k ih =>
    intro hk
    have e1 : ly_cnt (ly_Vk g i (k + 1)) n = ly_cnt (fun j => ly_Vk g i k j ∨ j = ly_it g i k) n := ly_cnt_congr n (fun j _ => ly_Vk_s g i k j)
    rw [e1, ly_cnt_add1 n _ (ly_it_lt h hi k) (ly_Vk_new h hi hv (by omega)), ih (by omega)]
    omega
/-- how many cells are unwritten at the head of turn i -/
noncomputable def ly_U (g : Nat → Nat) (n i : Nat) : Nat := n - ly_cnt (ly_V g i) n
theorem ly_U_le (g : Nat → Nat) (n i : Nat) : ly_U g n i ≤ n := Nat.sub_le _ _
theorem ly_U_0 (g : Nat → Nat) (n : Nat) : ly_U g n 0 = n := by
  unfold ly_U
  rw [ly_cnt_none n (fun j _ => ly_V_0 g j)]; rfl
theorem ly_U_n (g : Nat → Nat) (n : Nat) : ly_U g n n = 0 := by
  unfold ly_U
  rw [ly_cnt_all n (fun j hj => ly_V_n hj)]; omega
theorem ly_U_old {g : Nat → Nat} {n i : Nat} (v : ly_V g i i) : ly_U g n (i + 1) = ly_U g n i := by
  unfold ly_U
  rw [ly_cnt_congr n (fun j _ => ly_V_old v j)]
theorem ly_U_new {g : Nat → Nat} {n i : Nat} (h : ly_perm g n) (hi : i < n) (hv : ¬ ly_V g i i) : ly_U g n i = ly_U g n (i + 1) + ly_len g i := by
  unfold ly_U
  have e1 : ly_cnt (ly_V g (i + 1)) n = ly_cnt (ly_V g i) n + ly_len g i := by
    rw [← ly_Vk_cnt h hi hv _ (Nat.le_refl _)]
    exact ly_cnt_congr n (fun j _ => (ly_Vk_L h hi j).symm)
  have e2 := ly_cnt_le (ly_V g (i + 1)) n
  omega
theorem ly_U_mono {g : Nat → Nat} {n : Nat} (i j : Nat) (hij : i ≤ j) : ly_U g n j ≤ ly_U g n i := by
  unfold ly_U
  have := ly_cnt_mono (P := ly_V g i) (Q := ly_V g j) n (fun l _ ⟨a, h1, h2⟩ => ⟨a, by omega, h2⟩)
  omega
/-- what the new block holds -/
def ly_isR (b : Nat → Nat) (g : Nat → Nat) (n i : Nat) (R : Nat → Nat) : Prop := ∀ a, a < i → ¬ ly_V g a a → ∀ k, k < ly_len g a → R (ly_U g n a - 1 - k) = b (ly_it g a k)
theorem ly_isR_ex {b g : Nat → Nat} {n K : Nat} (h : ly_perm g n) (hK : 0 < K) (hb : ∀ j, j < n → b j < K) : ∀ i, i ≤ n → ∃ R : Nat → Nat, ly_isR b g n i R ∧ ∀ j, R j < K := by
  intro i
  induction i with
  | zero => exact fun _ => ⟨fun _ => 0, fun a ha => absurd ha (Nat.not_lt_zero a), fun _ => hK⟩
  | succ i ih =>
    intro hi
    obtain ⟨R, h1, h2⟩ := ih (by omega)
    refine ⟨fun p => if ly_U g n i ≤ p then R p else b (ly_it g i (ly_U g n i - 1 - p)), fun a ha hv k hk => ?_, fun j => ?_⟩
    · dsimp only
      have hn := ly_U_new h (i := a) (by omega) hv
      by_cases c : a = i
      · subst c
        rw [if_neg (by omega)]
        exact congrArg (fun x => b (ly_it g a x)) (by omega)
      · have hm := ly_U_mono (g := g) (n := n) (a + 1) i (by omega)
        rw [if_pos (by omega)]
        exact h1 a (by omega) hv k hk
    · dsimp only
      by_cases c : ly_U g n i ≤ j
      · rw [if_pos c]; exact h2 j
      · rw [if_neg c]; exact hb _ (ly_it_lt h (by omega) _)
/-- every cell is a cell of some cycle's word -/
theorem ly_cover {g : Nat → Nat} {n : Nat} (h : ly_perm g n) : ∀ i, i ≤ n → ∀ p, ly_U g n i ≤ p → p < n → ∃ a, a < i ∧ ¬ ly_V g a a ∧ ∃ k, k < ly_len g a ∧ p = ly_U g n a - 1 - k := by
  intro i
  induction i with
  | zero => intro _ p h1 h2; rw [ly_U_0] at h1; omega
  | succ i ih =>
    intro hi p h1 h2
    by_cases c : ly_U g n i ≤ p
    · obtain ⟨a, ha, r⟩ := ih (by omega) p c h2
      exact ⟨a, by omega, r⟩
    · by_cases v : ly_V g i i
      · rw [ly_U_old v] at h1; omega
      · have := ly_U_new h (i := i) (by omega) v
        exact ⟨i, by omega, v, ly_U g n i - 1 - p, by omega, by omega⟩
theorem ly_isR_uniq {b g R S : Nat → Nat} {n : Nat} (h : ly_perm g n) (h1 : ly_isR b g n n R) (h2 : ly_isR b g n n S) (p : Nat) (hp : p < n) : R p = S p := by
  obtain ⟨a, ha, v, k, hk, rfl⟩ := ly_cover h n (Nat.le_refl n) p (by rw [ly_U_n]; omega) hp
  rw [h1 a ha v k hk, h2 a ha v k hk]
noncomputable def ly_cc (g : Nat → Nat) : Nat → Nat := ly_cnt (fun a => ¬ ly_V g a a)
end
section
/-! recent symbols: when a symbol was moved last, and its place -/
def ly_lm (t : Nat → Nat) (s : Nat) : Nat → Int
  | 0 => -1 - (s : Int)
  | i + 1 => if t i = s then (i : Int) else ly_lm t s i
theorem ly_lm_0 (t : Nat → Nat) (s : Nat) : ly_lm t s 0 = -1 - (s : Int) := rfl
theorem ly_lm_t {t : Nat → Nat} {s i : Nat} (h : t i = s) : ly_lm t s (i + 1) = (i : Int) := if_pos h
theorem ly_lm_f {t : Nat → Nat} {s i : Nat} (h : ¬ t i = s) : ly_lm t s (i + 1) = ly_lm t s i := if_neg h
theorem ly_lm_is (t : Nat → Nat) (s i : Nat) : ly_lm t s i = -1 - (s : Int) ∨ ∃ j, j < i ∧ t j = s ∧ ly_lm t s i = (j : Int) := by
  induction i with
  | zero => exact Or.inl rfl
  | succ i ih =>
    by_cases c : t i = s
    · exact Or.inr ⟨i, by omega, c, ly_lm_t c⟩
    · rw [ly_lm_f c]
      rcases ih with h | ⟨j, h1, h2, h3⟩
      · exact Or.inl h
      · exact Or.inr ⟨j, by omega, h2, h3⟩
theorem ly_lm_lt (t : Nat → Nat) (s i : Nat) : ly_lm t s i < (i : Int) := by
  rcases ly_lm_is t s i with h | ⟨j, h1, _, h3⟩ <;> omega
theorem ly_lm_ge (t : Nat → Nat) (s i : Nat) : -1 - (s : Int) ≤ ly_lm t s i := by
  rcases ly_lm_is t s i with h | ⟨j, h1, _, h3⟩ <;> omega
theorem ly_lm_inj {t : Nat → Nat} {x y i : Nat} (h : ly_lm t x i = ly_lm t y i) : x = y := by
  rcases ly_lm_is t x i with h1 | ⟨j, h1, h2, h3⟩ <;> rcases ly_lm_is t y i with k1 | ⟨l, k1, k2, k3⟩
  · omega
  · omega
  · omega
  · obtain rfl : j = l := by omega
    omega
theorem ly_lm_congr {t u : Nat → Nat} {s i : Nat} (h : ∀ j, j < i → t j = u j) : ly_lm t s i = ly_lm u s i := by
  induction i with
  | zero => rfl
  | succ i ih =>
    have ih := ih (fun j hj => h j (by omega))
    have e := h i (by omega)
    by_cases c : t i = s
    · rw [ly_lm_t c, ly_lm_t (e.symm.trans c)]
    · rw [ly_lm_f c, ly_lm_f (fun z => c (e.trans z)), ih]
def ly_mR (t : Nat → Nat) (i x y : Nat) : Prop := ly_lm t y i < ly_lm t x i
theorem ly_mR_sto (t : Nat → Nat) (i K : Nat) : ly_STO (ly_mR t i) K := by
  refine ⟨fun p h => ?_, fun p q r h1 h2 => ?_, fun p q _ _ h => ?_⟩
  · unfold ly_mR at h; omega
  · unfold ly_mR at *; omega
  · unfold ly_mR
    have h2 : ly_lm t p i ≠ ly_lm t q i := fun e => h (ly_lm_inj e)
    omega
/-- the place of x in the list at step i -/
noncomputable def ly_pl (t : Nat → Nat) (K i x : Nat) : Nat := ly_rk (ly_mR t i) K x
theorem ly_pl_congr {t u : Nat → Nat} {K i x : Nat} (h : ∀ j, j < i → t j = u j) : ly_pl t K i x = ly_pl u K i x :=
  ly_cnt_congr K (fun y _ => by unfold ly_mR; rw [ly_lm_congr (s := x) h, ly_lm_congr (s := y) h])
theorem ly_pl_lt {t : Nat → Nat} {K i x : Nat} (hx : x < K) : ly_pl t K i x < K := ly_rk_lt (ly_mR_sto t i K) hx
theorem ly_pl_inj {t : Nat → Nat} {K i x y : Nat} (hx : x < K) (hy : y < K) (e : ly_pl t K i x = ly_pl t K i y) : x = y := ly_rk_inj (ly_mR_sto t i K) hx hy e
theorem ly_pl_0 (t : Nat → Nat) {K x : Nat} (hx : x < K) : ly_pl t K 0 x = x := by
  have e : ly_pl t K 0 x = ly_cnt (fun y => y < x) K := ly_cnt_congr K (fun y _ => by
    unfold ly_mR
    rw [ly_lm_0, ly_lm_0]
    omega)
  rw [e, ly_cnt_below x K (by omega)]
theorem ly_pl_self (t : Nat → Nat) (K i : Nat) : ly_pl t K (i + 1) (t i) = 0 :=
  ly_cnt_none K (fun y _ => by
    unfold ly_mR
    rw [ly_lm_t rfl]
    have := ly_lm_lt t y (i + 1)
    omega)
theorem ly_mR_s {t : Nat → Nat} {i x : Nat} (hx : ¬ t i = x) (y : Nat) : ly_mR t (i + 1) y x ↔ (ly_mR t i y x ∨ y = t i) := by
  unfold ly_mR
  rw [ly_lm_f hx]
  by_cases c : t i = y
  · rw [ly_lm_t c]
    have := ly_lm_lt t x i
    constructor
    · exact fun _ => Or.inr c.symm
    · exact fun _ => by omega
  · rw [ly_lm_f c]
    constructor
    · exact Or.inl
    · exact fun h => h.elim id (fun z => absurd z.symm c)
theorem ly_pl_after {t : Nat → Nat} {K i x : Nat} (hs : t i < K) (hx : x < K) (h : ly_pl t K i (t i) < ly_pl t K i x) : ly_pl t K (i + 1) x = ly_pl t K i x := by
  have hr : ly_mR t i (t i) x := (ly_rk_ltI (ly_mR_sto t i K) hs hx).1 h
  have hne : ¬ t i = x := fun z => by rw [z] at h; omega
  refine ly_cnt_congr K (fun y _ => ?_)
  rw [ly_mR_s hne y]
  constructor
  · rintro (z | z)
    · exact z
    · rw [z]; exact hr
  · exact Or.inl
theorem ly_pl_before {t : Nat → Nat} {K i x : Nat} (hs : t i < K) (hx : x < K) (h : ly_pl t K i x < ly_pl t K i (t i)) : ly_pl t K (i + 1) x = ly_pl t K i x + 1 := by
  have hr : ¬ ly_mR t i (t i) x := fun z => by
    have := (ly_rk_ltI (ly_mR_sto t i K) hs hx).2 z
    unfold ly_pl at h
    omega
  have hne : ¬ t i = x := fun z => by rw [z] at h; omega
  have e : ly_pl t K (i + 1) x = ly_cnt (fun y => ly_mR t i y x ∨ y = t i) K := ly_cnt_congr K (fun y _ => ly_mR_s hne y)
  rw [e]
  exact ly_cnt_add1 (P := fun y => ly_mR t i y x) K (t i) hs hr
/-- the list at step i -/
def ly_Rc (t : Nat → Nat) (K i : Nat) (R : Nat → Nat) : Prop := ∀ p, p < K → R p < K ∧ ly_pl t K i (R p) = p
theorem ly_Rc_0 (t : Nat → Nat) (K : Nat) : ly_Rc t K 0 (fun p => p) := fun p hp => ⟨hp, ly_pl_0 t hp⟩
theorem ly_Rc_at {t R : Nat → Nat} {K i x : Nat} (h : ly_Rc t K i R) (hx : x < K) : R (ly_pl t K i x) = x := by
  have hp := h (ly_pl t K i x) (ly_pl_lt hx)
  exact ly_pl_inj hp.1 hx hp.2
theorem ly_Rc_ne {t R : Nat → Nat} {K i x p : Nat} (h : ly_Rc t K i R) (hp : p < K) (hne : p ≠ ly_pl t K i x) : R p ≠ x := by
  intro e
  have := (h p hp).2
  rw [e] at this
  omega
def ly_mv (R : Nat → Nat) (j s : Nat) : Nat → Nat := fun p => if p = 0 then s else if p ≤ j then R (p - 1) else R p
theorem ly_Rc_s {t R : Nat → Nat} {K i : Nat} (h : ly_Rc t K i R) (hs : t i < K) : ly_Rc t K (i + 1) (ly_mv R (ly_pl t K i (t i)) (t i)) := by
  intro p hp
  unfold ly_mv
  by_cases c : p = 0
  · subst c
    rw [if_pos rfl]
    exact ⟨hs, ly_pl_self t K i⟩
  · rw [if_neg c]
    by_cases d : p ≤ ly_pl t K i (t i)
    · rw [if_pos d]
      have h1 := h (p - 1) (by omega)
      refine ⟨h1.1, ?_⟩
      rw [ly_pl_before hs h1.1 (by omega), h1.2]
      omega
    · rw [if_neg d]
      have h1 := h p hp
      refine ⟨h1.1, ?_⟩
      rw [ly_pl_after hs h1.1 (by omega), h1.2]
/-- the block that front makes; what unfront must find -/
noncomputable def ly_F (b : Nat → Nat) (K i : Nat) : Nat := ly_pl b K i (b i)
def ly_isD (b : Nat → Nat) (K n : Nat) (D : Nat → Nat) : Prop := ∀ i, i < n → D i < K ∧ ly_pl D K i (D i) = b i
theorem ly_isD_ex {b : Nat → Nat} {K n : Nat} (hb : ∀ j, j < n → b j < K) : ∀ i, i ≤ n → ∃ D, ly_isD b K i D := by
  intro i
  induction i with
  | zero => exact fun _ => ⟨fun _ => 0, fun j hj => absurd hj (Nat.not_lt_zero j)⟩
  | succ i ih =>
    intro hi
    obtain ⟨D, hD⟩ := ih (by omega)
    obtain ⟨x, hx, ex⟩ := ly_rk_surj (ly_mR_sto D i K) (b i) (hb i (by omega))
    have hag : ∀ l, l ≤ i → ∀ j, j < l → (fun j => if j = i then x else D j) j = D j := fun l hl j hj => if_neg (by omega)
    refine ⟨fun j => if j = i then x else D j, fun j hj => ?_⟩
    rw [ly_pl_congr (hag j (by omega))]
    dsimp only
    by_cases c : j = i
    · subst c
      rw [if_pos rfl]
      exact ⟨hx, ex⟩
    · rw [if_neg c]
      exact hD j (by omega)
end
section
/-! numerals, the packed code -/
def ly_dl (z : Nat) : Nat := if z = 0 then 0 else if z < 3 then 1 else if z < 7 then 2 else if z < 15 then 3 else 4
def ly_tok (z d : Nat) : Nat := (z + 1) / 2 ^ d % 2
theorem ly_dl_0 : ly_dl 0 = 0 := rfl
theorem ly_dl_s {z : Nat} (h0 : 0 < z) (h : z ≤ 30) : ly_dl z = ly_dl ((z - 1) / 2) + 1 := by
  unfold ly_dl
  repeat' split
  all_goals omega
theorem ly_dl_le (z : Nat) : ly_dl z ≤ z := by
  unfold ly_dl
  repeat' split
  all_goals omega
theorem ly_dl_4 (z : Nat) : ly_dl z ≤ 4 := by
  unfold ly_dl
  repeat' split
  all_goals omega
theorem ly_dl_p {z : Nat} (h : z ≤ 30) : 2 ^ ly_dl z ≤ z + 1 ∧ z + 1 < 2 ^ (ly_dl z + 1) := by
  unfold ly_dl
  repeat' split
  all_goals omega
theorem ly_tok_0 (z : Nat) : ly_tok z 0 = (z + 1) % 2 := by
  unfold ly_tok
  rw [Nat.pow_zero, Nat.div_one]
theorem ly_tok_s {z : Nat} (h0 : 0 < z) (d : Nat) : ly_tok z (d + 1) = ly_tok ((z - 1) / 2) d := by
  unfold ly_tok
  rw [Nat.pow_succ, Nat.mul_comm, ← Nat.div_div_eq_div_mul]
  have e : (z + 1) / 2 = (z - 1) / 2 + 1 := by omega
  rw [e]
theorem ly_tok_le (z d : Nat) : ly_tok z d ≤ 1 := by
  unfold ly_tok
  omega
theorem ly_pw {k l : Nat} (h : k < l) : 2 ^ l = 2 ^ (k + 1) * 2 ^ (l - k - 1) := by
  rw [← Nat.pow_add]
  exact congrArg (2 ^ ·) (by omega)
theorem ly_tok_bits {z d l bits : Nat} (h : z + 1 = 2 ^ l + bits) (hd : d < l) : ly_tok z d = bits / 2 ^ d % 2 := by
  unfold ly_tok
  rw [h, ly_pw hd, Nat.pow_succ, Nat.mul_assoc, Nat.add_comm, Nat.add_mul_div_left _ _ (Nat.two_pow_pos d)]
  omega
/-- the value of k digits from f on -/
def ly_val (c : Nat → Nat) (f : Nat) : Nat → Nat
  | 0 => 0
  | k + 1 => ly_val c f k + 2 ^ k * (c (f + k) + 1)
theorem ly_val_s (c : Nat → Nat) (f k : Nat) : ly_val c f (k + 1) = ly_val c f k + 2 ^ k * (c (f + k) + 1) := rfl
theorem ly_val_bits (c : Nat → Nat) (f bits : Nat) : ∀ k, (∀ d, d < k → c (f + d) = bits / 2 ^ d % 2) → ly_val c f k + 1 = bits % 2 ^ k + 2 ^ k := by
  intro k
  induction k with
  | zero => intro _; show 0 + 1 = bits % 1 + 1; omega
  | succ k ih =>
    intro h
    have ih := ih (fun d hd => h d (by omega))
    rw [ly_val_s, h k (by omega), Nat.mod_pow_succ, Nat.pow_succ, Nat.mul_add]
    omega
theorem ly_val_le (c : Nat → Nat) (f : Nat) : ∀ k, (∀ d, d < k → c (f + d) ≤ 1) → ly_val c f k + 2 ≤ 2 ^ (k + 1) := by
  intro k
  induction k with
  | zero => intro _; show 0 + 2 ≤ 2; omega
  | succ k ih =>
    intro h
    have ih := ih (fun d hd => h d (by omega))
    have h1 := h k (by omega)
    have h2 : 2 ^ k * (c (f + k) + 1) ≤ 2 ^ k * 2 := Nat.mul_le_mul_left _ (by omega)
    rw [ly_val_s]
    rw [Nat.pow_succ] at ih
    rw [Nat.pow_succ, Nat.pow_succ]
    omega
theorem ly_val_congr {c e : Nat → Nat} {f : Nat} : ∀ k, (∀ d, d < k → c (f + d) = e (f + d)) → ly_val c f k = ly_val e f k := by
  intro k
  induction k with
  | zero => intro _; rfl
  | succ k ih =>
    intro h
    rw [ly_val_s, ly_val_s, ih (fun d hd => h d (by omega)), h k (by omega)]
/-- zeros that stand before i; tokens for all before them -/
def ly_zr (b : Nat → Nat) : Nat → Nat
  | 0 => 0
  | i + 1 => if b i = 0 then ly_zr b i + 1 else 0
def ly_M (b : Nat → Nat) : Nat → Nat
  | 0 => 0
  | i + 1 => if b i = 0 then ly_M b i else ly_M b i + ly_dl (ly_zr b i) + 1
def ly_Cf (b : Nat → Nat) : Nat → Nat → Nat
  | 0, _ => 0
  | i + 1, p => if b i = 0 then ly_Cf b i p else if p < ly_M b i then ly_Cf b i p else if p < ly_M b i + ly_dl (ly_zr b i) then ly_tok (ly_zr b i) (p - ly_M b i) else b i + 1
def ly_C (b : Nat → Nat) (n p : Nat) : Nat := if p < ly_M b n then ly_Cf b n p else ly_tok (ly_zr b n) (p - ly_M b n)
theorem ly_zr_t {b : Nat → Nat} {i : Nat} (h : b i = 0) : ly_zr b (i + 1) = ly_zr b i + 1 := if_pos h
theorem ly_zr_f {b : Nat → Nat} {i : Nat} (h : ¬ b i = 0) : ly_zr b (i + 1) = 0 := if_neg h
theorem ly_M_t {b : Nat → Nat} {i : Nat} (h : b i = 0) : ly_M b (i + 1) = ly_M b i := if_pos h
theorem ly_M_f {b : Nat → Nat} {i : Nat} (h : ¬ b i = 0) : ly_M b (i + 1) = ly_M b i + ly_dl (ly_zr b i) + 1 := if_neg h
theorem ly_Cf_t {b : Nat → Nat} {i : Nat} (h : b i = 0) (p : Nat) : ly_Cf b (i + 1) p = ly_Cf b i p := if_pos h
theorem ly_Cf_f {b : Nat → Nat} {i : Nat} (h : ¬ b i = 0) (p : Nat) : ly_Cf b (i + 1) p = if p < ly_M b i then ly_Cf b i p else if p < ly_M b i + ly_dl (ly_zr b i) then ly_tok (ly_zr b i) (p - ly_M b i) else b i + 1 := if_neg h
theorem ly_M_le (b : Nat → Nat) (i : Nat) : ly_M b i + ly_zr b i ≤ i := by
  induction i with
  | zero => exact Nat.le_refl 0
  | succ i ih =>
    by_cases c : b i = 0
    · rw [ly_M_t c, ly_zr_t c]; omega
    · rw [ly_M_f c, ly_zr_f c]
      have := ly_dl_le (ly_zr b i)
      omega
theorem ly_M_up (b : Nat → Nat) (i : Nat) : ly_M b i ≤ ly_M b (i + 1) := by
  by_cases c : b i = 0
  · rw [ly_M_t c]; omega
  · rw [ly_M_f c]; omega
/-- the content does not change where it has been written -/
theorem ly_Cf_old (b : Nat → Nat) (i d p : Nat) (hp : p < ly_M b i) : ly_Cf b (i + d) p = ly_Cf b i p ∧ p < ly_M b (i + d) := by
  induction d with
  | zero => exact ⟨rfl, hp⟩
  | succ d ih =>
    have h1 := ly_M_up b (i + d)
    refine ⟨?_, by rw [← Nat.add_assoc]; omega⟩
    rw [← Nat.add_assoc, ← ih.1]
    by_cases c : b (i + d) = 0
    · exact ly_Cf_t c p
    · rw [ly_Cf_f c, if_pos ih.2]
theorem ly_C_at {b : Nat → Nat} {n i p : Nat} (hi : i ≤ n) (hp : p < ly_M b i) : ly_C b n p = ly_Cf b i p := by
  have h := ly_Cf_old b i (n - i) p hp
  have e : i + (n - i) = n := by omega
  rw [e] at h
  unfold ly_C
  rw [if_pos h.2, h.1]
theorem ly_C_dig {b : Nat → Nat} {n i d : Nat} (hi : i < n) (hb : ¬ b i = 0) (hd : d < ly_dl (ly_zr b i)) : ly_C b n (ly_M b i + d) = ly_tok (ly_zr b i) d := by
  rw [ly_C_at (i := i + 1) (by omega) (by rw [ly_M_f hb]; omega), ly_Cf_f hb, if_neg (by omega), if_pos (by omega), Nat.add_sub_cancel_left]
theorem ly_C_sym {b : Nat → Nat} {n i : Nat} (hi : i < n) (hb : ¬ b i = 0) : ly_C b n (ly_M b i + ly_dl (ly_zr b i)) = b i + 1 := by
  rw [ly_C_at (i := i + 1) (by omega) (by rw [ly_M_f hb]; omega), ly_Cf_f hb, if_neg (by omega), if_neg (by omega)]
theorem ly_C_end {b : Nat → Nat} {n d : Nat} : ly_C b n (ly_M b n + d) = ly_tok (ly_zr b n) d := by
  unfold ly_C
  rw [if_neg (by omega), Nat.add_sub_cancel_left]
theorem ly_Cf_le {b : Nat → Nat} {n K : Nat} (hK : 1 ≤ K) (hb : ∀ j, j < n → b j < K) : ∀ i, i ≤ n → ∀ p, ly_Cf b i p ≤ K := by
  intro i
  induction i with
  | zero => exact fun _ _ => Nat.zero_le _
  | succ i ih =>
    intro hi p
    have h1 := ih (by omega) p
    by_cases c : b i = 0
    · rw [ly_Cf_t c]; exact h1
    · rw [ly_Cf_f c]
      have h2 := ly_tok_le (ly_zr b i) (p - ly_M b i)
      have h3 := hb i (by omega)
      split
      · exact h1
      · split <;> omega
theorem ly_C_le {b : Nat → Nat} {n K : Nat} (hK : 1 ≤ K) (hb : ∀ j, j < n → b j < K) (p : Nat) : ly_C b n p ≤ K := by
  unfold ly_C
  have h2 := ly_tok_le (ly_zr b n) (p - ly_M b n)
  split
  · exact ly_Cf_le hK hb n (Nat.le_refl n) p
  · omega
end
section
/-! what a code stands for -/
def ly_w (c : Nat → Nat) : Nat → Nat
  | 0 => 1
  | i + 1 => if 2 ≤ c i then 1 else ly_w c i * 2
def ly_D (c : Nat → Nat) : Nat → Nat
  | 0 => 0
  | i + 1 => if 2 ≤ c i then ly_D c i + 1 else ly_D c i + (c i + 1) * ly_w c i
def ly_rs (c : Nat → Nat) : Nat → Nat
  | 0 => 0
  | i + 1 => if 2 ≤ c i then i + 1 else ly_rs c i
def ly_S (c : Nat → Nat) : Nat → Nat → Nat
  | 0, _ => 0
  | i + 1, p => if p < ly_D c i then ly_S c i p else if 2 ≤ c i then c i - 1 else 0
theorem ly_w_t {c : Nat → Nat} {i : Nat} (h : 2 ≤ c i) : ly_w c (i + 1) = 1 := if_pos h
theorem ly_w_f {c : Nat → Nat} {i : Nat} (h : ¬ 2 ≤ c i) : ly_w c (i + 1) = ly_w c i * 2 := if_neg h
theorem ly_D_t {c : Nat → Nat} {i : Nat} (h : 2 ≤ c i) : ly_D c (i + 1) = ly_D c i + 1 := if_pos h
theorem ly_D_f {c : Nat → Nat} {i : Nat} (h : ¬ 2 ≤ c i) : ly_D c (i + 1) = ly_D c i + (c i + 1) * ly_w c i := if_neg h
theorem ly_rs_t {c : Nat → Nat} {i : Nat} (h : 2 ≤ c i) : ly_rs c (i + 1) = i + 1 := if_pos h
theorem ly_rs_f {c : Nat → Nat} {i : Nat} (h : ¬ 2 ≤ c i) : ly_rs c (i + 1) = ly_rs c i := if_neg h
theorem ly_S_s (c : Nat → Nat) (i p : Nat) : ly_S c (i + 1) p = if p < ly_D c i then ly_S c i p else if 2 ≤ c i then c i - 1 else 0 := rfl
theorem ly_rs_le (c : Nat → Nat) (i : Nat) : ly_rs c i ≤ i := by
  induction i with
  | zero => exact Nat.le_refl 0
  | succ i ih =>
    by_cases h : 2 ≤ c i
    · rw [ly_rs_t h]; exact Nat.le_refl _
    · rw [ly_rs_f h]; omega
theorem ly_rs_lt (c : Nat → Nat) (i j : Nat) (h1 : ly_rs c i ≤ j) (h2 : j < i) : c j < 2 := by
  induction i with
  | zero => omega
  | succ i ih =>
    by_cases h : 2 ≤ c i
    · rw [ly_rs_t h] at h1; omega
    · rw [ly_rs_f h] at h1
      by_cases e : j = i
      · subst e; omega
      · exact ih h1 (by omega)
theorem ly_rs_pre (c : Nat → Nat) (i : Nat) (h : 0 < ly_rs c i) : 2 ≤ c (ly_rs c i - 1) := by
  induction i with
  | zero => exact absurd h (Nat.lt_irrefl 0)
  | succ i ih =>
    by_cases d : 2 ≤ c i
    · rw [ly_rs_t d]; exact d
    · rw [ly_rs_f d] at h ⊢
      exact ih h
theorem ly_w_eq (c : Nat → Nat) (i : Nat) : ly_w c i = 2 ^ (i - ly_rs c i) := by
  induction i with
  | zero => rfl
  | succ i ih =>
    by_cases h : 2 ≤ c i
    · rw [ly_w_t h, ly_rs_t h, Nat.sub_self]
    · have h1 := ly_rs_le c i
      have e : i + 1 - ly_rs c i = (i - ly_rs c i) + 1 := by omega
      rw [ly_w_f h, ly_rs_f h, ih, e, Nat.pow_succ]
theorem ly_w_le (c : Nat → Nat) (i : Nat) : ly_w c i ≤ 2 ^ i := by
  rw [ly_w_eq]
  exact Nat.pow_le_pow_right (by decide) (Nat.sub_le _ _)
theorem ly_D_le (c : Nat → Nat) (i : Nat) : ly_D c i + 2 ≤ 2 ^ (i + 1) := by
  induction i with
  | zero => exact Nat.le_refl 2
  | succ i ih =>
    have h1 := Nat.two_pow_pos i
    rw [Nat.pow_succ] at ih
    by_cases h : 2 ≤ c i
    · rw [ly_D_t h, Nat.pow_succ, Nat.pow_succ]; omega
    · have h2 := ly_w_le c i
      have h3 : (c i + 1) * ly_w c i ≤ 2 * 2 ^ i := Nat.mul_le_mul (by omega) h2
      rw [ly_D_f h, Nat.pow_succ, Nat.pow_succ]; omega
theorem ly_D_up (c : Nat → Nat) (i : Nat) : ly_D c i ≤ ly_D c (i + 1) := by
  by_cases h : 2 ≤ c i
  · rw [ly_D_t h]; omega
  · rw [ly_D_f h]; omega
theorem ly_D_mono (c : Nat → Nat) {i j : Nat} (h : i ≤ j) : ly_D c i ≤ ly_D c j := by
  induction j with
  | zero => obtain rfl : i = 0 := by omega
            exact Nat.le_refl _
  | succ j ih =>
    by_cases e : i = j + 1
    · rw [e]; exact Nat.le_refl _
    · exact Nat.le_trans (ih (by omega)) (ly_D_up c j)
/-- a run of digits counts as its value -/
theorem ly_D_val (c : Nat → Nat) (i : Nat) : ly_D c i = ly_D c (ly_rs c i) + ly_val c (ly_rs c i) (i - ly_rs c i) := by
  induction i with
  | zero => rfl
  | succ i ih =>
    by_cases h : 2 ≤ c i
    · rw [ly_rs_t h, Nat.sub_self]; rfl
    · have h1 := ly_rs_le c i
      have e : i + 1 - ly_rs c i = (i - ly_rs c i) + 1 := by omega
      have e2 : ly_rs c i + (i - ly_rs c i) = i := by omega
      rw [ly_D_f h, ly_rs_f h, e, ly_val_s, e2, ly_w_eq, Nat.mul_comm]
      omega
/-- the content does not change where it has been written -/
theorem ly_S_old (c : Nat → Nat) (i d p : Nat) (hp : p < ly_D c i) : ly_S c (i + d) p = ly_S c i p := by
  induction d with
  | zero => rfl
  | succ d ih =>
    have h1 := ly_D_mono c (i := i) (j := i + d) (by omega)
    rw [← Nat.add_assoc, ly_S_s, if_pos (by omega), ih]
theorem ly_S_sym {c : Nat → Nat} {m i : Nat} (hi : i < m) (h : 2 ≤ c i) : ly_S c m (ly_D c i) = c i - 1 := by
  have h1 := ly_S_old c (i + 1) (m - (i + 1)) (ly_D c i) (by rw [ly_D_t h]; omega)
  have e : i + 1 + (m - (i + 1)) = m := by omega
  rw [e] at h1
  rw [h1, ly_S_s, if_neg (Nat.lt_irrefl _), if_pos h]
theorem ly_S_dig {c : Nat → Nat} {m i p : Nat} (hi : i < m) (h : ¬ 2 ≤ c i) (h1 : ly_D c i ≤ p) (h2 : p < ly_D c (i + 1)) : ly_S c m p = 0 := by
  have h3 := ly_S_old c (i + 1) (m - (i + 1)) p h2
  have e : i + 1 + (m - (i + 1)) = m := by omega
  rw [e] at h3
  rw [h3, ly_S_s, if_neg (by omega), if_neg h]
theorem ly_S_run {c : Nat → Nat} {m p : Nat} : ∀ i, i < m → ¬ 2 ≤ c i → ly_D c (ly_rs c i) ≤ p → p < ly_D c (i + 1) → ly_S c m p = 0 := by
  intro i
  induction i with
  | zero => exact fun hi h h1 h2 => ly_S_dig hi h h1 h2
  | succ i ih =>
    intro hi h h1 h2
    by_cases d : ly_D c (i + 1) ≤ p
    · exact ly_S_dig hi h d h2
    · by_cases e : 2 ≤ c i
      · rw [ly_rs_t e] at h1; omega
      · rw [ly_rs_f e] at h1
        exact ih (by omega) e h1 (by omega)
theorem ly_S_lt {c : Nat → Nat} {m K : Nat} (hK : 1 ≤ K) (hc : ∀ j, j < m → c j ≤ K) : ∀ i, i ≤ m → ∀ p, ly_S c i p < K := by
  intro i
  induction i with
  | zero => exact fun _ _ => hK
  | succ i ih =>
    intro hi p
    have h1 := ih (by omega) p
    have h2 := hc i (by omega)
    rw [ly_S_s]
    split
    · exact h1
    · split <;> omega
/-- what the reference has counted when it has read i tokens -/
def ly_Yd (c : Nat → Nat) (m i : Nat) : Nat := if i < m ∧ c i < 2 then ly_D c (ly_rs c i) else ly_D c i
theorem ly_Yd_0 (c : Nat → Nat) (m : Nat) : ly_Yd c m 0 = 0 := by
  unfold ly_Yd
  split <;> rfl
theorem ly_Yd_m (c : Nat → Nat) (m : Nat) : ly_Yd c m m = ly_D c m := if_neg (by omega)
def ly_ye (c : Nat → Nat) (m i : Nat) : Nat := if 2 ≤ c i then 1 else if i + 1 < m ∧ c (i + 1) < 2 then 0 else ly_val c (ly_rs c i) (i + 1 - ly_rs c i)
theorem ly_Yd_s {c : Nat → Nat} {m i : Nat} (hi : i < m) : ly_Yd c m (i + 1) = ly_Yd c m i + ly_ye c m i := by
  unfold ly_Yd ly_ye
  by_cases h : 2 ≤ c i
  · rw [if_pos h, if_neg (c := i < m ∧ c i < 2) (by omega), ly_rs_t h, ly_D_t h]
    split <;> rfl
  · rw [if_neg h, if_pos (c := i < m ∧ c i < 2) (by omega), ly_rs_f h]
    by_cases d : i + 1 < m ∧ c (i + 1) < 2
    · rw [if_pos d, if_pos d]; rfl
    · rw [if_neg d, if_neg d]
      have := ly_D_val c (i + 1)
      rw [ly_rs_f h] at this
      exact this
end
section
/-! numbers, stores, bits -/
theorem ly_rd {A : Nat → Int32} {f : Nat → Nat} {n i : Nat} (h : ∀ j, j < n → A j = nI (f j)) (hi : i < n) (hn : n ≤ 24) : A (nI i).toNatClampNeg = nI (f i) := by
  rw [nI_clamp (by omega)]; exact h i hi
theorem ly_in {i : Nat} (h : i < 24) : vp_in (nI i) 24 := vp_in_nI h (by decide)
theorem ly_in16 {i : Nat} (h : i < 16) : vp_in (nI i) 16 := vp_in_nI h (by decide)
theorem ly_cl {i : Nat} (h : i < 2 ^ 31) : (nI i).toNatClampNeg = i := nI_clamp h
theorem ly_us {A : Nat → Int32} {i j : Nat} {x : Int32} (hi : i < 2 ^ 31) (h : j = i) : upd A (nI i).toNatClampNeg x j = x := by
  rw [nI_clamp hi, h]; exact pk_us
theorem ly_un {A : Nat → Int32} {i j : Nat} {x : Int32} (hi : i < 2 ^ 31) (h : j ≠ i) : upd A (nI i).toNatClampNeg x j = A j := by
  rw [nI_clamp hi]; exact pk_un h
theorem ly_eq2 {a b : Nat} (h : a = b) : nI a = nI b := congrArg nI h
theorem ly_p1 {a b : Nat} (h : a + 1 = b) : nI a + 1 = nI b := by rw [nI_1, h]
theorem ly_s1 {a b : Nat} (h : b + 1 = a) : nI a - 1 = nI b := by rw [← h]; exact nI_pred b
theorem ly_d1 {a b : Nat} (h : b + 1 = a) : nI a + (-1) = nI b := by rw [← h]; exact pk_m1 b
theorem ly_sb {a b c : Nat} (h : c + b = a) : nI a - nI b = nI c := by rw [pk_sub (by omega)]; exact ly_eq2 (by omega)
theorem ly_ad {a b c : Nat} (h : a + b = c) : nI a + nI b = nI c := by rw [nI_add, h]
theorem ly_m1lt : (-1 : Int32) < 0 := by decide
noncomputable def ly_bit (P : Prop) : Int32 := @ite Int32 P (Classical.propDecidable P) 1 0
theorem ly_bit_t {P : Prop} (h : P) : ly_bit P = 1 := if_pos h
theorem ly_bit_f {P : Prop} (h : ¬ P) : ly_bit P = 0 := if_neg h
theorem ly_bit_br {P A B : Prop} (f : P → B) (g : ¬ P → A) : (ly_bit P = 0 → A) ∧ (¬ ly_bit P = 0 → B) := by
  by_cases h : P
  · rw [ly_bit_t h]
    exact ⟨fun z => absurd z (by decide), fun _ => f h⟩
  · rw [ly_bit_f h]
    exact ⟨fun _ => g h, fun z => absurd rfl z⟩
theorem ly_nb0 : vp_nar .boolean 0 = 0 := by decide
theorem ly_nb1 : vp_nar .boolean 1 = 1 := by decide
/-- an int argument against a length: below 0, at or above, or within -/
theorem ly_ix3 (x : Int32) {n : Nat} (hn : n < 2 ^ 31) : x < 0 ∨ (¬ x < 0 ∧ ¬ x < nI n) ∨ ∃ j : Nat, j < n ∧ x = nI j := by
  rcases pk_ix x hn with h | h | h
  · exact Or.inl h
  · by_cases c : x < 0
    · exact Or.inl c
    · exact Or.inr (Or.inl ⟨c, Int32.not_lt.mpr h⟩)
  · exact Or.inr (Or.inr h)
end
section
/-! the class: the scan and the cut -/
section
variable {K C n m : Nat} {b : Nat → Nat} {B Cd Fs Fi La Rw Su Vi Nb Re : Nat → Int32}
theorem lx_lpl_loop {post : Int32 → Prop} {s : Nat} (hn : n ≤ 24) (hb : ∀ j, j < n → b j < 16) (hB : ∀ j, j < n → B j = nI (b j)) (hp : post (nI (ly_E b n s - s))) : ∀ d p i, i + d = n → ly_Dv b s p i → wX_longestPrimeLength_6 post (nI s) (nI K) (nI C) (nI n) (nI m) B Cd Fs Fi La Rw Su Vi Nb Re (d + 1) (nI p) (nI i) := by
  intro d
  induction d with
  | zero =>
    intro p i hi D
    have e := ly_E_dv D (by omega) (Or.inl (by omega) : i = n ∨ b i < b (i - p))
    refine pk_le n i (fun _ => ?_) (fun h => by omega)
    have e2 : ly_E b n s - s = p := by omega
    rw [e2] at hp
    exact hp
  | succ d ih =>
    intro p i hi D
    have D1 := D.1
    have D2 := D.2.1
    have b1 := hb i (by omega)
    have b2 := hb (i - p) (by omega)
    refine pk_le n i (fun h => by omega) (fun _ => And.intro (pk_in (i - p) 24 (by omega) (pk_sub (by omega)) (by decide)) ?_)
    refine nm_r (e' := nI (b (i - p))) (by rw [pk_sub (by omega)]; exact ly_rd hB (by omega) hn) ?_
    refine And.intro (ly_in (by omega)) ?_
    refine pk_le (b (i - p)) (b i) (fun h1 => ?_) (fun h1 => ?_) rfl (ly_rd hB (by omega) hn)
    · refine And.intro (ly_in (by omega)) ?_
      refine pk_le (b i) (b (i - p)) (fun h2 => ?_) (fun h2 => ?_) (ly_rd hB (by omega) hn) rfl
      · exact nm_r (nI_1 i) (ih p (i + 1) (by omega) (ly_Dv_eq D (by omega)))
      · exact nm_r (by rw [ly_sb (c := i - s) (by omega), nI_1]) (nm_r (nI_1 i) (ih (i - s + 1) (i + 1) (by omega) (ly_Dv_gt D h2)))
    · have e := ly_E_dv D (by omega : i ≤ n) (Or.inr h1)
      have e2 : ly_E b n s - s = p := by omega
      rw [e2] at hp
      exact hp
theorem lx_lpl {post : Int32 → Prop} {s : Nat} (hn : n ≤ 24) (hb : ∀ j, j < n → b j < 16) (hB : ∀ j, j < n → B j = nI (b j)) (hs : s < n) (hp : post (nI (ly_E b n s - s))) : wpX_longestPrimeLength post (nI K, nI C, nI n, nI m, B, Cd, Fs, Fi, La, Rw, Su, Vi, Nb, Re) (nI s) :=
  nm_r (nI_1 s) ⟨_, lx_lpl_loop hn hb hB hp (n - (s + 1)) 1 (s + 1) (by omega) (ly_Dv0 b s)⟩
def ly_cutI (b : Nat → Nat) (n p : Nat) (Fs Fi La : Nat → Int32) : Prop := (∀ q, q < p → ly_st b n q = q → Fs (ly_fc b n q) = nI q) ∧ (∀ q, q < p → Fi q = nI (ly_st b n q)) ∧ (∀ q, q < p → La q = nI (ly_en b n q - 1))
theorem lx_cut_loop {post : Int32 → SX → Prop} (hn : n ≤ 24) (hb : ∀ j, j < n → b j < 16) (hB : ∀ j, j < n → B j = nI (b j)) (hp : ∀ Fs Fi La, ly_cutI b n n Fs Fi La → post (nI (ly_fc b n n)) (nI K, nI C, nI n, nI m, B, Cd, Fs, Fi, La, Rw, Su, Vi, Nb, Re)) : ∀ d p, p + d = n → ∀ x1 x2 x3 x4 Fs Fi La, x1 = nI (ly_fc b n p) → x2 = nI (ly_ps b n p) → x3 = nI (ly_pe b n p) → x4 = nI p → ly_cutI b n p Fs Fi La → wX_cutIntoFactors_9 post (nI K) (nI C) (nI n) (nI m) (d + 1) x1 x2 x3 x4 B Cd Fs Fi La Rw Su Vi Nb Re := by
  intro d
  induction d with
  | zero =>
    rintro p hpd x1 x2 x3 x4 Fs Fi La rfl rfl rfl rfl hI
    obtain rfl : p = n := by omega
    exact pk_le p p (fun _ => hp Fs Fi La hI) (fun h => by omega)
  | succ d ih =>
    rintro p hpd x1 x2 x3 x4 Fs Fi La rfl rfl rfl rfl hI
    have hpn : p < n := by omega
    have h1 := ly_pe_le (b := b) hpn
    have h2 := ly_st_in b hpn
    have h3 : ly_fc b n p ≤ p := ly_cnt_le _ p
    refine pk_le n p (fun h => by omega) (fun _ => ?_)
    refine pk_eq p (ly_pe b n p) (fun hq => ?_) (fun hq => ?_)
    · have hst := ly_st_pe_t hq
      have hen : ly_en b n p = ly_E b n p := by unfold ly_en; rw [hst]
      refine lx_lpl hn hb hB hpn ?_
      refine nm_r (ly_ad (c := ly_en b n p) (by omega)) (And.intro (ly_in (by omega)) ?_)
      intro a1 ea1 y1 ey1
      refine And.intro (ly_in (by omega)) ?_
      intro a2 ea2
      refine And.intro (ly_in (by omega)) ?_
      intro a3 ea3 y4 ey4
      refine ih (p + 1) (by omega) _ _ _ _ a1 a2 a3 ?_ ?_ rfl ?_ ?_
      · rw [ey1, nI_1]; exact ly_eq2 (ly_cnt_t (P := fun p => ly_st b n p = p) hst).symm
      · exact ly_eq2 hst.symm
      · rw [ey4, nI_1]
      · refine ⟨lt_s (fun q hq1 hq2 => ?_) (fun _ => ?_), lt_s (fun q hq1 => ?_) ?_, lt_s (fun q hq1 => ?_) ?_⟩
        · have h4 : ly_fc b n q < ly_fc b n p := by
            have h5 := ly_cnt_up (fun p => ly_st b n p = p) (m := q + 1) (n := p) (by omega)
            rw [ly_cnt_t (P := fun p => ly_st b n p = p) hq2] at h5
            exact h5
          rw [ea1, ly_un (by omega) (by omega)]
          exact hI.1 q hq1 hq2
        · rw [ea1]; exact ly_us (by omega) rfl
        · rw [ea2, ly_un (by omega) (by omega)]; exact hI.2.1 q hq1
        · rw [ea2, ly_us (by omega) rfl, hst]
        · rw [ea3, ly_un (by omega) (by omega)]; exact hI.2.2 q hq1
        · rw [ea3, ly_us (by omega) rfl]; exact ly_s1 (by omega)
    · have hst := ly_st_pe_f hq
      have hne := ly_st_pe_ne hpn hq
      refine And.intro (ly_in (by omega)) ?_
      intro a2 ea2
      refine And.intro (ly_in (by omega)) ?_
      intro a3 ea3 y4 ey4
      refine ih (p + 1) (by omega) _ _ _ _ Fs a2 a3 ?_ ?_ ?_ ?_ ?_
      · exact ly_eq2 (ly_cnt_f (P := fun p => ly_st b n p = p) hne).symm
      · exact ly_eq2 hst.1.symm
      · exact ly_eq2 hst.2.symm
      · rw [ey4, nI_1]
      · refine ⟨lt_s (fun q hq1 hq2 => hI.1 q hq1 hq2) (fun z => absurd z hne), lt_s (fun q hq1 => ?_) ?_, lt_s (fun q hq1 => ?_) ?_⟩
        · rw [ea2, ly_un (by omega) (by omega)]; exact hI.2.1 q hq1
        · rw [ea2, ly_us (by omega) rfl, hst.1]
        · rw [ea3, ly_un (by omega) (by omega)]; exact hI.2.2 q hq1
        · rw [ea3, ly_us (by omega) rfl, hst.2]; exact ly_s1 (by omega)
theorem lx_cut {post : Int32 → SX → Prop} (hn : n ≤ 24) (hb : ∀ j, j < n → b j < 16) (hB : ∀ j, j < n → B j = nI (b j)) (hp : ∀ Fs Fi La, ly_cutI b n n Fs Fi La → post (nI (ly_fc b n n)) (nI K, nI C, nI n, nI m, B, Cd, Fs, Fi, La, Rw, Su, Vi, Nb, Re)) : wpX_cutIntoFactors post (nI K, nI C, nI n, nI m, B, Cd, Fs, Fi, La, Rw, Su, Vi, Nb, Re) :=
  ⟨_, lx_cut_loop hn hb hB hp n 0 (by omega) _ _ _ _ Fs Fi La rfl rfl rfl rfl ⟨fun q h => absurd h (Nat.not_lt_zero q), fun q h => absurd h (Nat.not_lt_zero q), fun q h => absurd h (Nat.not_lt_zero q)⟩⟩
end
end
section
/-! the class: rows, transform -/
section
variable {K C n m : Nat} {b : Nat → Nat} {B Cd Fs Fi La Rw Su Vi Nb Re : Nat → Int32}
theorem lx_round {post : Int32 → Prop} {u : Nat} (hn : n ≤ 24) (hF : ∀ j, j < n → Fi j = nI (ly_st b n j)) (hL : ∀ j, j < n → La j = nI (ly_en b n j - 1)) (hu : u < n) (hp : post (nI (ly_nx b n u))) : wpX_roundInFactor post (nI K, nI C, nI n, nI m, B, Cd, Fs, Fi, La, Rw, Su, Vi, Nb, Re) (nI u) := by
  have h1 := ly_st_in b hu
  refine And.intro (ly_in (by omega)) ?_
  refine pk_eq u (ly_en b n u - 1) (fun e => And.intro (ly_in (by omega)) ?_) (fun e => ?_) rfl (ly_rd hL hu hn)
  · rw [ly_rd hF hu hn]
    have e2 : ly_nx b n u = ly_st b n u := if_pos (by omega)
    rw [e2] at hp
    exact hp
  · have e2 : ly_nx b n u = u + 1 := if_neg (by omega)
    rw [e2] at hp
    rw [nI_1]
    exact hp
theorem lx_before_loop {post : Int32 → Prop} {p q : Nat} (hn : n ≤ 24) (hb : ∀ j, j < n → b j < 16) (hB : ∀ j, j < n → B j = nI (b j)) (hF : ∀ j, j < n → Fi j = nI (ly_st b n j)) (hL : ∀ j, j < n → La j = nI (ly_en b n j - 1)) (hpn : p < n) (hqn : q < n) (hp : post (ly_bit (ly_bf b n p q))) : ∀ d k, k + d = 48 → (∀ i, i < k → b (ly_pos b n p i) = b (ly_pos b n q i)) → wX_comesBefore_8 post (nI p) (nI q) (nI K) (nI C) (nI n) (nI m) B Cd Fs Fi La Rw Su Vi Nb Re (d + 1) (nI (ly_pos b n p k)) (nI (ly_pos b n q k)) (nI k) := by
  intro d
  induction d with
  | zero =>
    intro k hk he
    obtain rfl : k = 48 := by omega
    refine pk_le 48 48 (fun _ => ?_) (fun h => by omega)
    refine pk_le q p (fun h => ?_) (fun h => ?_)
    · rw [ly_bit_f (fun z => by
        rcases z with ⟨k, k1, k2, k3⟩ | ⟨_, l⟩
        · have := he k k1
          dsimp only at k3
          omega
        · omega)] at hp
      exact hp
    · rw [ly_bit_t (P := ly_bf b n p q) (Or.inr ⟨he, h⟩)] at hp
      exact hp
  | succ d ih =>
    intro k hk he
    have hpk := ly_pos_lt b hpn k
    have hqk := ly_pos_lt b hqn k
    have b1 := hb _ hpk
    have b2 := hb _ hqk
    refine pk_le 48 k (fun h => by omega) (fun _ => And.intro (ly_in (by omega)) (And.intro (ly_in (by omega)) ?_))
    refine pk_eq (b (ly_pos b n p k)) (b (ly_pos b n q k)) (fun e => ?_) (fun e => ?_) (ly_rd hB hpk hn) (ly_rd hB hqk hn)
    · refine lx_round hn hF hL hpk (lx_round hn hF hL hqk ?_)
      exact nm_r (nI_1 k) (ih (k + 1) (by omega) (lt_s he e))
    · refine And.intro (ly_in (by omega)) (And.intro (ly_in (by omega)) ?_)
      refine pk_le (b (ly_pos b n q k)) (b (ly_pos b n p k)) (fun l => ?_) (fun l => ?_) (ly_rd hB hqk hn) (ly_rd hB hpk hn)
      · rw [ly_bit_f (fun z => by
          rcases z with ⟨i, i1, i2, i3⟩ | ⟨i2, _⟩
          · dsimp only at i2 i3
            by_cases c : i < k
            · have := he i c; omega
            · by_cases c2 : i = k
              · subst c2; omega
              · exact e (i2 k (by omega))
          · exact e (i2 k (by omega)))] at hp
        exact hp
      · rw [ly_bit_t (P := ly_bf b n p q) (Or.inl ⟨k, by omega, he, l⟩)] at hp
        exact hp
theorem lx_before {post : Int32 → Prop} {p q : Nat} (hn : n ≤ 24) (hb : ∀ j, j < n → b j < 16) (hB : ∀ j, j < n → B j = nI (b j)) (hF : ∀ j, j < n → Fi j = nI (ly_st b n j)) (hL : ∀ j, j < n → La j = nI (ly_en b n j - 1)) (hpn : p < n) (hqn : q < n) (hp : post (ly_bit (ly_bf b n p q))) : wpX_comesBefore post (nI K, nI C, nI n, nI m, B, Cd, Fs, Fi, La, Rw, Su, Vi, Nb, Re) (nI p) (nI q) :=
  ⟨_, lx_before_loop hn hb hB hF hL hpn hqn hp 48 0 rfl (fun i h => absurd h (Nat.not_lt_zero i))⟩
theorem lx_count_loop {post : Int32 → Prop} {p : Nat} (hn : n ≤ 24) (hb : ∀ j, j < n → b j < 16) (hB : ∀ j, j < n → B j = nI (b j)) (hF : ∀ j, j < n → Fi j = nI (ly_st b n j)) (hL : ∀ j, j < n → La j = nI (ly_en b n j - 1)) (hpn : p < n) (hp : post (nI (ly_rk (ly_bf b n) n p))) : ∀ d j, j + d = n → ∀ x2 x3, x2 = nI (ly_cnt (fun q => ly_bf b n q p) j) → x3 = nI j → wX_countBefore_4 post (nI p) (nI K) (nI C) (nI n) (nI m) B Cd Fs Fi La Rw Su Vi Nb Re (d + 1) x2 x3 := by
  intro d
  induction d with
  | zero =>
    rintro j hj x2 x3 rfl rfl
    obtain rfl : j = n := by omega
    exact pk_le j j (fun _ => hp) (fun h => by omega)
  | succ d ih =>
    rintro j hj x2 x3 rfl rfl
    refine pk_le n j (fun h => by omega) (fun _ => lx_before hn hb hB hF hL (by omega) hpn ?_)
    refine ly_bit_br (fun h => ?_) (fun h => ?_)
    · intro y2 e2 y3 e3
      refine ih (j + 1) (by omega) _ _ ?_ ?_
      · rw [e2, nI_1, ly_cnt_t (P := fun q => ly_bf b n q p) h]
      · rw [e3, nI_1]
    · intro y3 e3
      refine ih (j + 1) (by omega) _ _ ?_ ?_
      · rw [ly_cnt_f (P := fun q => ly_bf b n q p) h]
      · rw [e3, nI_1]
theorem lx_count {post : Int32 → Prop} {p : Nat} (hn : n ≤ 24) (hb : ∀ j, j < n → b j < 16) (hB : ∀ j, j < n → B j = nI (b j)) (hF : ∀ j, j < n → Fi j = nI (ly_st b n j)) (hL : ∀ j, j < n → La j = nI (ly_en b n j - 1)) (hpn : p < n) (hp : post (nI (ly_rk (ly_bf b n) n p))) : wpX_countBefore post (nI K, nI C, nI n, nI m, B, Cd, Fs, Fi, La, Rw, Su, Vi, Nb, Re) (nI p) :=
  ⟨_, lx_count_loop hn hb hB hF hL hpn hp n 0 (by omega) _ _ rfl rfl⟩
theorem lx_order_loop {post : SX → Prop} (hn : n ≤ 24) (hb : ∀ j, j < n → b j < 16) (hB : ∀ j, j < n → B j = nI (b j)) (hF : ∀ j, j < n → Fi j = nI (ly_st b n j)) (hL : ∀ j, j < n → La j = nI (ly_en b n j - 1)) (hp : ∀ Rw, (∀ q, q < n → Rw (ly_rk (ly_bf b n) n q) = nI q) → post (nI K, nI C, nI n, nI m, B, Cd, Fs, Fi, La, Rw, Su, Vi, Nb, Re)) : ∀ d p, p + d = n → ∀ x1 Rw, x1 = nI p → (∀ q, q < p → Rw (ly_rk (ly_bf b n) n q) = nI q) → wX_orderRows_2 post (nI K) (nI C) (nI n) (nI m) (d + 1) x1 B Cd Fs Fi La Rw Su Vi Nb Re := by
  intro d
  induction d with
  | zero =>
    rintro p hpd x1 Rw rfl hI
    obtain rfl : p = n := by omega
    exact pk_le p p (fun _ => hp Rw hI) (fun h => by omega)
  | succ d ih =>
    rintro p hpd x1 Rw rfl hI
    have hpn : p < n := by omega
    have hr := ly_rk_lt (ly_bf_sto b n) hpn
    refine pk_le n p (fun h => by omega) (fun _ => lx_count hn hb hB hF hL hpn ?_)
    refine And.intro (ly_in (by omega)) ?_
    intro a ea y ey
    refine ih (p + 1) (by omega) _ a (by rw [ey, nI_1]) (lt_s (fun q hq => ?_) ?_)
    · rw [ea, ly_un (by omega) (fun z => by
        have := ly_rk_inj (ly_bf_sto b n) (by omega) hpn z
        omega)]
      exact hI q hq
    · rw [ea]; exact ly_us (by omega) rfl
theorem lx_order {post : SX → Prop} (hn : n ≤ 24) (hb : ∀ j, j < n → b j < 16) (hB : ∀ j, j < n → B j = nI (b j)) (hF : ∀ j, j < n → Fi j = nI (ly_st b n j)) (hL : ∀ j, j < n → La j = nI (ly_en b n j - 1)) (hp : ∀ Rw, (∀ q, q < n → Rw (ly_rk (ly_bf b n) n q) = nI q) → post (nI K, nI C, nI n, nI m, B, Cd, Fs, Fi, La, Rw, Su, Vi, Nb, Re)) : wpX_orderRows post (nI K, nI C, nI n, nI m, B, Cd, Fs, Fi, La, Rw, Su, Vi, Nb, Re) :=
  ⟨_, lx_order_loop hn hb hB hF hL hp n 0 (by omega) _ Rw rfl (fun q h => absurd h (Nat.not_lt_zero q))⟩
theorem lx_rowsAt {r : Nat} (h : ∀ q, q < n → Rw (ly_rk (ly_bf b n) n q) = nI q) (hr : r < n) : Rw r = nI (ly_row b n r) := by
  have h1 := ly_row_is b hr
  have h2 := h _ h1.1
  rw [h1.2] at h2
  exact h2
theorem lx_last {post : Int32 → Prop} {p : Nat} (hn : n ≤ 24) (hB : ∀ j, j < n → B j = nI (b j)) (hF : ∀ j, j < n → Fi j = nI (ly_st b n j)) (hL : ∀ j, j < n → La j = nI (ly_en b n j - 1)) (hpn : p < n) (hp : post (nI (ly_ll b n p))) : wpX_lastLetter post (nI K, nI C, nI n, nI m, B, Cd, Fs, Fi, La, Rw, Su, Vi, Nb, Re) (nI p) := by
  have h1 := ly_st_in b hpn
  refine And.intro (ly_in (by omega)) ?_
  refine pk_eq p (ly_st b n p) (fun e => ?_) (fun e => ?_) rfl (ly_rd hF hpn hn)
  · refine And.intro (ly_in (by omega)) ?_
    rw [ly_rd hL hpn hn]
    refine And.intro (ly_in (by omega)) ?_
    rw [ly_rd hB (by omega) hn]
    have e2 : ly_ll b n p = b (ly_en b n p - 1) := if_pos e
    rw [e2] at hp
    exact hp
  · rw [ly_s1 (b := p - 1) (by omega)]
    refine And.intro (ly_in (by omega)) ?_
    rw [ly_rd hB (by omega) hn]
    have e2 : ly_ll b n p = b (p - 1) := if_neg e
    rw [e2] at hp
    exact hp
theorem lx_take_loop {post : SX → Prop} (hn : n ≤ 24) (hp : ∀ B, (∀ j, j < n → B j = Nb j) → post (nI K, nI C, nI n, nI m, B, Cd, Fs, Fi, La, Rw, Su, Vi, Nb, Re)) : ∀ d i, i + d = n → ∀ x1 B, x1 = nI i → (∀ j, j < i → B j = Nb j) → wX_takeNextBlock_2 post (nI K) (nI C) (nI n) (nI m) (d + 1) x1 B Cd Fs Fi La Rw Su Vi Nb Re := by
  intro d
  induction d with
  | zero =>
    rintro i hi x1 B rfl hI
    obtain rfl : i = n := by omega
    exact pk_le i i (fun _ => hp B hI) (fun h => by omega)
  | succ d ih =>
    rintro i hi x1 B rfl hI
    refine pk_le n i (fun h => by omega) (fun _ => And.intro (ly_in (by omega)) (And.intro (ly_in (by omega)) ?_))
    intro a ea y ey
    refine ih (i + 1) (by omega) _ a (by rw [ey, nI_1]) (lt_s (fun q hq => ?_) ?_)
    · rw [ea, ly_un (by omega) (by omega)]; exact hI q hq
    · rw [ea, ly_us (by omega) rfl, ly_cl (by omega)]
theorem lx_take {post : SX → Prop} (hn : n ≤ 24) (hp : ∀ B, (∀ j, j < n → B j = Nb j) → post (nI K, nI C, nI n, nI m, B, Cd, Fs, Fi, La, Rw, Su, Vi, Nb, Re)) : wpX_takeNextBlock post (nI K, nI C, nI n, nI m, B, Cd, Fs, Fi, La, Rw, Su, Vi, Nb, Re) :=
  ⟨_, lx_take_loop hn hp n 0 (by omega) _ B rfl (fun q h => absurd h (Nat.not_lt_zero q))⟩
theorem lx_trans_loop {post : Int32 → SX → Prop} {x : Int32} (hn : n ≤ 24) (hB : ∀ j, j < n → B j = nI (b j)) (hF : ∀ j, j < n → Fi j = nI (ly_st b n j)) (hL : ∀ j, j < n → La j = nI (ly_en b n j - 1)) (hR : ∀ q, q < n → Rw (ly_rk (ly_bf b n) n q) = nI q) (hp : ∀ B Nb, (∀ j, j < n → B j = nI (ly_T b n j)) → post x (nI K, nI C, nI n, nI m, B, Cd, Fs, Fi, La, Rw, Su, Vi, Nb, Re)) : ∀ d r, r + d = n → ∀ x2 Nb, x2 = nI r → (∀ j, j < r → Nb j = nI (ly_T b n j)) → wX_transform_11 post x (nI K) (nI C) (nI n) (nI m) (d + 1) x2 B Cd Fs Fi La Rw Su Vi Nb Re := by
  intro d
  induction d with
  | zero =>
    rintro r hr x2 Nb rfl hI
    obtain rfl : r = n := by omega
    refine pk_le r r (fun _ => lx_take hn (fun B' hB' => ?_)) (fun h => by omega)
    exact hp B' Nb (fun j hj => (hB' j hj).trans (hI j hj))
  | succ d ih =>
    rintro r hr x2 Nb rfl hI
    have hrn : r < n := by omega
    have h1 := ly_row_is b hrn
    refine pk_le n r (fun h => by omega) (fun _ => And.intro (ly_in (by omega)) ?_)
    rw [ly_cl (by omega), lx_rowsAt hR hrn]
    refine lx_last hn hB hF hL h1.1 ?_
    refine And.intro (ly_in (by omega)) ?_
    intro a ea y ey
    refine ih (r + 1) (by omega) _ a (by rw [ey, nI_1]) (lt_s (fun q hq => ?_) ?_)
    · rw [ea, pk_un (by omega)]; exact hI q hq
    · rw [ea, pk_us, ly_T_at b hrn]
theorem lx_transform {post : Int32 → SX → Prop} (hn : n ≤ 24) (hb : ∀ j, j < n → b j < 16) (hB : ∀ j, j < n → B j = nI (b j)) (hp : ∀ B Fs Fi La Rw Nb, (∀ j, j < n → B j = nI (ly_T b n j)) → post (nI (ly_fc b n n)) (nI K, nI C, nI n, nI m, B, Cd, Fs, Fi, La, Rw, Su, Vi, Nb, Re)) : wpX_transform post (nI K, nI C, nI n, nI m, B, Cd, Fs, Fi, La, Rw, Su, Vi, Nb, Re) := by
  refine lx_cut hn hb hB (fun Fs' Fi' La' hc => ?_)
  refine lx_order hn hb hB hc.2.1 hc.2.2 (fun Rw' hR => ?_)
  exact ⟨_, lx_trans_loop hn hB hc.2.1 hc.2.2 hR (fun B' Nb' h => hp B' Fs' Fi' La' Rw' Nb' h) n 0 (by omega) _ Nb rfl (fun q h => absurd h (Nat.not_lt_zero q))⟩
/-- what factorStart answers -/
def ly_isFS (b : Nat → Nat) (n : Nat) (v r : Int32) : Prop := (∃ p, p < n ∧ ly_st b n p = p ∧ v = nI (ly_fc b n p) ∧ r = nI p) ∨ ((∀ p, p < n → ly_st b n p = p → ¬ v = nI (ly_fc b n p)) ∧ r = -1)
theorem ly_isFS_uniq {v r s : Int32} (hn : n ≤ 24) (h : ly_isFS b n v r) (g : ly_isFS b n v s) : s = r := by
  rcases h with ⟨p, h1, h2, h3, h4⟩ | ⟨h1, h2⟩ <;> rcases g with ⟨q, g1, g2, g3, g4⟩ | ⟨g1, g2⟩
  · have e : ly_fc b n p = ly_fc b n q := by
      have a1 : ly_fc b n p ≤ p := ly_cnt_le _ p
      have a2 : ly_fc b n q ≤ q := ly_cnt_le _ q
      exact (nI_eq (by omega) (by omega)).1 (h3.symm.trans g3)
    have hpq : ∀ p q, ly_st b n p = p → p < q → ly_fc b n p < ly_fc b n q := fun p q hp hpq => by
      have h5 := ly_cnt_up (fun p => ly_st b n p = p) (m := p + 1) (n := q) (by omega)
      rw [ly_cnt_t (P := fun p => ly_st b n p = p) hp] at h5
      exact h5
    by_cases c : p = q
    · rw [g4, h4, c]
    · by_cases d : p < q
      · have := hpq p q h2 d; omega
      · have := hpq q p g2 (by omega); omega
  · exact absurd h3 (g1 p h1 h2)
  · exact absurd g3 (h1 q g1 g2)
  · rw [g2, h2]
theorem ly_fc_find (b : Nat → Nat) (n : Nat) : ∀ i j, j < ly_fc b n i → ∃ p, p < i ∧ ly_st b n p = p ∧ ly_fc b n p = j := by
  intro i
  induction i with
  | zero => exact fun j h => absurd h (Nat.not_lt_zero j)
  | succ i ih =>
    intro j hj
    by_cases c : ly_st b n i = i
    · have e : ly_fc b n (i + 1) = ly_fc b n i + 1 := ly_cnt_t (P := fun p => ly_st b n p = p) c
      by_cases d : j = ly_fc b n i
      · exact ⟨i, by omega, c, d.symm⟩
      · obtain ⟨p, p1, p2⟩ := ih j (by omega)
        exact ⟨p, by omega, p2⟩
    · have e : ly_fc b n (i + 1) = ly_fc b n i := ly_cnt_f (P := fun p => ly_st b n p = p) c
      obtain ⟨p, p1, p2⟩ := ih j (by omega)
      exact ⟨p, by omega, p2⟩
theorem lx_factorStart {post : Int32 → SX → Prop} {v : Int32} (hn : n ≤ 24) (hb : ∀ j, j < n → b j < 16) (hB : ∀ j, j < n → B j = nI (b j)) (hp : ∀ r Fs Fi La, ly_isFS b n v r → post r (nI K, nI C, nI n, nI m, B, Cd, Fs, Fi, La, Rw, Su, Vi, Nb, Re)) : wpX_factorStart post (nI K, nI C, nI n, nI m, B, Cd, Fs, Fi, La, Rw, Su, Vi, Nb, Re) v := by
  refine lx_cut hn hb hB (fun Fs' Fi' La' hc => ?_)
  have h1 : ly_fc b n n ≤ n := ly_cnt_le _ n
  have hlt : ∀ p, p < n → ly_st b n p = p → ly_fc b n p < ly_fc b n n := fun p hp hs => by
    have h5 := ly_cnt_up (fun p => ly_st b n p = p) (m := p + 1) (n := n) (by omega)
    rw [ly_cnt_t (P := fun p => ly_st b n p = p) hs] at h5
    exact h5
  rcases ly_ix3 v (n := ly_fc b n n) (by omega) with h | ⟨h, h2⟩ | ⟨j, hj, rfl⟩
  · refine br_t h (hp _ _ _ _ (Or.inr ⟨fun p _ _ z => ?_, rfl⟩))
    have a1 : ly_fc b n p ≤ n := by have := hlt p (by assumption) (by assumption); omega
    rw [z] at h
    exact nI_pos (by omega) h
  · refine br_f h (br_f h2 (hp _ _ _ _ (Or.inr ⟨fun p q1 q2 z => ?_, rfl⟩)))
    have a1 := hlt p q1 q2
    rw [z] at h2
    exact h2 (nI_lt a1 (by omega))
  · obtain ⟨p, p1, p2, p3⟩ := ly_fc_find b n n j hj
    refine br_f (nI_pos (by omega)) (br_t (nI_lt hj (by omega)) (And.intro (ly_in (by omega)) ?_))
    have e := hc.1 p p1 p2
    rw [p3] at e
    rw [ly_cl (by omega), e]
    exact hp _ _ _ _ (Or.inl ⟨p, p1, p2, by rw [p3], rfl⟩)
def ly_isRow (b : Nat → Nat) (n : Nat) (v r : Int32) : Prop := (∃ j, j < n ∧ v = nI j ∧ r = nI (ly_row b n j)) ∨ ((v < 0 ∨ ¬ v < nI n) ∧ r = -1)
theorem ly_isRow_uniq {v r s : Int32} (hn : n ≤ 24) (h : ly_isRow b n v r) (g : ly_isRow b n v s) : s = r := by
  have hx : ∀ j, j < n → v = nI j → ¬ (v < 0 ∨ ¬ v < nI n) := by
    rintro j hj rfl (z | z)
    · exact nI_pos (by omega) z
    · exact z (nI_lt hj (by omega))
  rcases h with ⟨j, h1, h2, h3⟩ | ⟨h1, h2⟩ <;> rcases g with ⟨l, g1, g2, g3⟩ | ⟨g1, g2⟩
  · have e : j = l := (nI_eq (by omega) (by omega)).1 (h2.symm.trans g2)
    rw [g3, h3, e]
  · exact absurd g1 (hx j h1 h2)
  · exact absurd h1 (hx l g1 g2)
  · rw [g2, h2]
theorem lx_rowAt {post : Int32 → SX → Prop} {v : Int32} (hn : n ≤ 24) (hb : ∀ j, j < n → b j < 16) (hB : ∀ j, j < n → B j = nI (b j)) (hp : ∀ r Fs Fi La Rw, ly_isRow b n v r → post r (nI K, nI C, nI n, nI m, B, Cd, Fs, Fi, La, Rw, Su, Vi, Nb, Re)) : wpX_rowAt post (nI K, nI C, nI n, nI m, B, Cd, Fs, Fi, La, Rw, Su, Vi, Nb, Re) v := by
  rcases ly_ix3 v (n := n) (by omega) with h | ⟨h, h2⟩ | ⟨j, hj, rfl⟩
  · exact br_t h (hp _ _ _ _ _ (Or.inr ⟨Or.inl h, rfl⟩))
  · exact br_f h (br_f h2 (hp _ _ _ _ _ (Or.inr ⟨Or.inr h2, rfl⟩)))
  · refine br_f (nI_pos (by omega)) (br_t (nI_lt hj (by omega)) ?_)
    refine lx_cut hn hb hB (fun Fs' Fi' La' hc => ?_)
    refine lx_order hn hb hB hc.2.1 hc.2.2 (fun Rw' hR => ?_)
    refine And.intro (ly_in (by omega)) ?_
    rw [ly_cl (by omega), lx_rowsAt hR hj]
    exact hp _ _ _ _ _ (Or.inl ⟨j, hj, rfl, rfl⟩)
end
end
section
/-! the class: invert -/
section
variable {K C n m : Nat} {b R : Nat → Nat} {B Cd Fs Fi La Rw Su Vi Nb Re : Nat → Int32}
noncomputable def ly_g (b : Nat → Nat) (n : Nat) : Nat → Nat := ly_rk (ly_gR b) n
theorem ly_gp (b : Nat → Nat) (n : Nat) : ly_perm (ly_g b n) n := ly_g_perm b n
theorem lx_sorted_loop {post : Int32 → Prop} {i : Nat} (hn : n ≤ 24) (hb : ∀ j, j < n → b j < 16) (hB : ∀ j, j < n → B j = nI (b j)) (hi : i < n) (hp : post (nI (ly_g b n i))) : ∀ d j, j + d = n → ∀ x2 x3, x2 = nI (ly_cnt (fun q => ly_gR b q i) j) → x3 = nI j → wX_sortedPlace_4 post (nI i) (nI K) (nI C) (nI n) (nI m) B Cd Fs Fi La Rw Su Vi Nb Re (d + 1) x2 x3 := by
  intro d
  induction d with
  | zero =>
    rintro j hj x2 x3 rfl rfl
    obtain rfl : j = n := by omega
    exact pk_le j j (fun _ => hp) (fun h => by omega)
  | succ d ih =>
    rintro j hj x2 x3 rfl rfl
    have b1 := hb j (by omega)
    have b2 := hb i hi
    have yes : ly_gR b j i → ∀ y2 : Int32, y2 = nI (ly_cnt (fun q => ly_gR b q i) j) + 1 → ∀ y3 : Int32, y3 = nI j + 1 → wX_sortedPlace_4 post (nI i) (nI K) (nI C) (nI n) (nI m) B Cd Fs Fi La Rw Su Vi Nb Re (d + 1) y2 y3 := fun h y2 e2 y3 e3 => by
      refine ih (j + 1) (by omega) _ _ ?_ ?_
      · rw [e2, nI_1, ly_cnt_t (P := fun q => ly_gR b q i) h]
      · rw [e3, nI_1]
    have no : ¬ ly_gR b j i → ∀ y3 : Int32, y3 = nI j + 1 → wX_sortedPlace_4 post (nI i) (nI K) (nI C) (nI n) (nI m) B Cd Fs Fi La Rw Su Vi Nb Re (d + 1) (nI (ly_cnt (fun q => ly_gR b q i) j)) y3 := fun h y3 e3 => by
      refine ih (j + 1) (by omega) _ _ ?_ ?_
      · rw [ly_cnt_f (P := fun q => ly_gR b q i) h]
      · rw [e3, nI_1]
    refine pk_le n j (fun h => by omega) (fun _ => And.intro (ly_in (by omega)) (And.intro (ly_in (by omega)) ?_))
    refine pk_lt (b j) (b i) (fun h => yes (Or.inl h)) (fun h => ?_) (ly_rd hB (by omega) hn) (ly_rd hB hi hn)
    refine And.intro (ly_in (by omega)) (And.intro (ly_in (by omega)) ?_)
    refine pk_eq (b j) (b i) (fun e => ?_) (fun e => no (fun z => by unfold ly_gR at z; omega)) (ly_rd hB (by omega) hn) (ly_rd hB hi hn)
    exact pk_le i j (fun l => no (fun z => by unfold ly_gR at z; omega)) (fun l => yes (Or.inr ⟨e, l⟩))
theorem lx_sorted {post : Int32 → Prop} {i : Nat} (hn : n ≤ 24) (hb : ∀ j, j < n → b j < 16) (hB : ∀ j, j < n → B j = nI (b j)) (hi : i < n) (hp : post (nI (ly_g b n i))) : wpX_sortedPlace post (nI K, nI C, nI n, nI m, B, Cd, Fs, Fi, La, Rw, Su, Vi, Nb, Re) (nI i) :=
  ⟨_, lx_sorted_loop hn hb hB hi hp n 0 (by omega) _ _ rfl rfl⟩
theorem lx_find_loop {post : SX → Prop} (hn : n ≤ 24) (hb : ∀ j, j < n → b j < 16) (hB : ∀ j, j < n → B j = nI (b j)) (hp : ∀ Su Vi, (∀ q, q < n → Su q = nI (ly_g b n q)) → (∀ q, q < n → Vi q = 0) → post (nI K, nI C, nI n, nI m, B, Cd, Fs, Fi, La, Rw, Su, Vi, Nb, Re)) : ∀ d i, i + d = n → ∀ x1 Su Vi, x1 = nI i → (∀ q, q < i → Su q = nI (ly_g b n q)) → (∀ q, q < i → Vi q = 0) → wX_findSuccessors_2 post (nI K) (nI C) (nI n) (nI m) (d + 1) x1 B Cd Fs Fi La Rw Su Vi Nb Re := by
  intro d
  induction d with
  | zero =>
    rintro i hi x1 Su Vi rfl h1 h2
    obtain rfl : i = n := by omega
    exact pk_le i i (fun _ => hp Su Vi h1 h2) (fun h => by omega)
  | succ d ih =>
    rintro i hi x1 Su Vi rfl h1 h2
    refine pk_le n i (fun h => by omega) (fun _ => lx_sorted hn hb hB (by omega) ?_)
    refine And.intro (ly_in (by omega)) ?_
    intro a ea
    refine And.intro (ly_in (by omega)) ?_
    intro a2 ea2 y ey
    refine ih (i + 1) (by omega) _ a a2 (by rw [ey, nI_1]) (lt_s (fun q hq => ?_) ?_) (lt_s (fun q hq => ?_) ?_)
    · rw [ea, ly_un (by omega) (by omega)]; exact h1 q hq
    · rw [ea]; exact ly_us (by omega) rfl
    · rw [ea2, ly_un (by omega) (by omega)]; exact h2 q hq
    · rw [ea2, ly_us (by omega) rfl]; exact ly_nb0
theorem lx_find {post : SX → Prop} (hn : n ≤ 24) (hb : ∀ j, j < n → b j < 16) (hB : ∀ j, j < n → B j = nI (b j)) (hp : ∀ Su Vi, (∀ q, q < n → Su q = nI (ly_g b n q)) → (∀ q, q < n → Vi q = 0) → post (nI K, nI C, nI n, nI m, B, Cd, Fs, Fi, La, Rw, Su, Vi, Nb, Re)) : wpX_findSuccessors post (nI K, nI C, nI n, nI m, B, Cd, Fs, Fi, La, Rw, Su, Vi, Nb, Re) :=
  ⟨_, lx_find_loop hn hb hB hp n 0 (by omega) _ Su Vi rfl (fun q h => absurd h (Nat.not_lt_zero q)) (fun q h => absurd h (Nat.not_lt_zero q))⟩
theorem lx_write_loop {post : Int32 → SX → Prop} {i : Nat} (hn : n ≤ 24) (hB : ∀ j, j < n → B j = nI (b j)) (hS : ∀ q, q < n → Su q = nI (ly_g b n q)) (hR : ly_isR b (ly_g b n) n n R) (hi : i < n) (hv : ¬ ly_V (ly_g b n) i i) (hp : ∀ Vi Nb, (∀ j, j < n → Vi j = ly_bit (ly_V (ly_g b n) (i + 1) j)) → (∀ j, ly_U (ly_g b n) n (i + 1) ≤ j → j < n → Nb j = nI (R j)) → post (nI (ly_U (ly_g b n) n (i + 1))) (nI K, nI C, nI n, nI m, B, Cd, Fs, Fi, La, Rw, Su, Vi, Nb, Re)) : ∀ d k, k + d = ly_len (ly_g b n) i → ∀ x3 x4 Vi Nb, x3 = nI (ly_it (ly_g b n) i k) → x4 = nI (ly_U (ly_g b n) n i - k) → (∀ j, j < n → Vi j = ly_bit (ly_Vk (ly_g b n) i k j)) → (∀ j, ly_U (ly_g b n) n i - k ≤ j → j < n → Nb j = nI (R j)) → wX_writeCycleBackwards_5 post (nI K) (nI C) (nI n) (nI m) (d + 1) x3 x4 B Cd Fs Fi La Rw Su Vi Nb Re := by
  have hU := ly_U_new (ly_gp b n) hi hv
  have hUn := ly_U_le (ly_g b n) n i
  intro d
  induction d with
  | zero =>
    rintro k hk x3 x4 Vi Nb rfl rfl h1 h2
    obtain rfl : k = ly_len (ly_g b n) i := by omega
    have e : ly_U (ly_g b n) n i - ly_len (ly_g b n) i = ly_U (ly_g b n) n (i + 1) := by omega
    have hf := hp Vi Nb (fun j hj => by rw [h1 j hj]; exact congrArg ly_bit (propext (ly_Vk_L (ly_gp b n) hi j))) (fun j a c => h2 j (by omega) c)
    have hl := ly_it_lt (ly_gp b n) hi (ly_len (ly_g b n) i)
    rw [e]
    refine pk_le (ly_U (ly_g b n) n (i + 1)) 0 (fun z => ?_) (fun z => And.intro (ly_in (by omega)) ?_)
    · have e0 : ly_U (ly_g b n) n (i + 1) = 0 := by omega
      rw [e0] at hf
      exact hf
    · rw [ly_cl (by omega), h1 _ hl]
      exact ly_bit_br (fun _ => hf) (fun z => absurd (ly_Vk_end (ly_gp b n) hi) z)
  | succ d ih =>
    rintro k hk x3 x4 Vi Nb rfl rfl h1 h2
    have hl := ly_it_lt (ly_gp b n) hi k
    refine pk_le (ly_U (ly_g b n) n i - k) 0 (fun z => by omega) (fun z => And.intro (ly_in (by omega)) ?_)
    have hnew := ly_Vk_new (ly_gp b n) hi hv (k := k) (by omega)
    rw [ly_cl (by omega), h1 _ hl]
    refine ly_bit_br (fun z => absurd z hnew) (fun _ => And.intro (ly_in (by omega)) ?_)
    intro a ea
    refine And.intro (ly_in (by omega)) ?_
    rw [ly_s1 (b := ly_U (ly_g b n) n i - 1 - k) (by omega)]
    refine And.intro (ly_in (by omega)) ?_
    intro a2 ea2
    refine And.intro (ly_in (by omega)) ?_
    intro y3 e3 y4 e4
    refine ih (k + 1) (by omega) _ _ a a2 ?_ ?_ (fun j hj => ?_) (fun j hj hj2 => ?_)
    · rw [e3]
      first | exact hS _ hl | (rw [ly_cl (by omega)]; exact hS _ hl)
    · rw [e4]; exact ly_d1 (by omega)
    · by_cases c : j = ly_it (ly_g b n) i k
      · rw [ea, c, pk_us, ly_nb1, ly_bit_t ((ly_Vk_s _ i k _).2 (Or.inr rfl))]
      · rw [ea, pk_un c, h1 j hj]
        exact congrArg ly_bit (propext ⟨fun z => (ly_Vk_s _ i k j).2 (Or.inl z), fun z => ((ly_Vk_s _ i k j).1 z).resolve_right c⟩)
    · by_cases c : j = ly_U (ly_g b n) n i - 1 - k
      · rw [ea2, ly_us (by omega) c, hB _ hl, c, hR i hi hv k (by omega)]
      · rw [ea2, ly_un (by omega) c]
        exact h2 j (by omega) hj2
theorem lx_write {post : Int32 → SX → Prop} {i : Nat} (hn : n ≤ 24) (hB : ∀ j, j < n → B j = nI (b j)) (hS : ∀ q, q < n → Su q = nI (ly_g b n q)) (hR : ly_isR b (ly_g b n) n n R) (hi : i < n) (hv : ¬ ly_V (ly_g b n) i i) (h1 : ∀ j, j < n → Vi j = ly_bit (ly_V (ly_g b n) i j)) (h2 : ∀ j, ly_U (ly_g b n) n i ≤ j → j < n → Nb j = nI (R j)) (hp : ∀ Vi Nb, (∀ j, j < n → Vi j = ly_bit (ly_V (ly_g b n) (i + 1) j)) → (∀ j, ly_U (ly_g b n) n (i + 1) ≤ j → j < n → Nb j = nI (R j)) → post (nI (ly_U (ly_g b n) n (i + 1))) (nI K, nI C, nI n, nI m, B, Cd, Fs, Fi, La, Rw, Su, Vi, Nb, Re)) : wpX_writeCycleBackwards post (nI K, nI C, nI n, nI m, B, Cd, Fs, Fi, La, Rw, Su, Vi, Nb, Re) (nI i) (nI (ly_U (ly_g b n) n i)) :=
  ⟨_, lx_write_loop hn hB hS hR hi hv hp (ly_len (ly_g b n) i) 0 (by omega) _ _ Vi Nb rfl rfl (fun j hj => by rw [h1 j hj]; exact congrArg ly_bit (propext (ly_Vk_0 _ i j).symm)) h2⟩
theorem lx_inv_loop {post : Int32 → SX → Prop} (hn : n ≤ 24) (hB : ∀ j, j < n → B j = nI (b j)) (hS : ∀ q, q < n → Su q = nI (ly_g b n q)) (hR : ly_isR b (ly_g b n) n n R) (hp : ∀ B Vi Nb, (∀ j, j < n → B j = nI (R j)) → post (nI (ly_cc (ly_g b n) n)) (nI K, nI C, nI n, nI m, B, Cd, Fs, Fi, La, Rw, Su, Vi, Nb, Re)) : ∀ d i, i + d = n → ∀ x1 x2 x3 Vi Nb, x1 = nI (ly_cc (ly_g b n) i) → x2 = nI (ly_U (ly_g b n) n i) → x3 = nI i → (∀ j, j < n → Vi j = ly_bit (ly_V (ly_g b n) i j)) → (∀ j, ly_U (ly_g b n) n i ≤ j → j < n → Nb j = nI (R j)) → wX_invert_13 post (d + 1) x1 x2 x3 (nI K) (nI C) (nI n) (nI m) B Cd Fs Fi La Rw Su Vi Nb Re := by
  intro d
  induction d with
  | zero =>
    rintro i hi x1 x2 x3 Vi Nb rfl rfl rfl h1 h2
    obtain rfl : i = n := by omega
    refine pk_le i i (fun _ => lx_take hn (fun B' hB' => ?_)) (fun h => by omega)
    refine hp B' Vi Nb (fun j hj => (hB' j hj).trans (h2 j ?_ hj))
    rw [ly_U_n]; omega
  | succ d ih =>
    rintro i hi x1 x2 x3 Vi Nb rfl rfl rfl h1 h2
    refine pk_le n i (fun h => by omega) (fun _ => And.intro (ly_in (by omega)) ?_)
    rw [ly_cl (by omega), h1 i (by omega)]
    refine ly_bit_br (fun hv => ?_) (fun hv => ?_)
    · intro y ey
      refine ih (i + 1) (by omega) _ _ _ Vi Nb ?_ ?_ (by rw [ey, nI_1]) (fun j hj => ?_) (fun j a c => ?_)
      · exact ly_eq2 (ly_cnt_f (P := fun a => ¬ ly_V (ly_g b n) a a) (fun z => z hv)).symm
      · rw [ly_U_old hv]
      · rw [h1 j hj]; exact congrArg ly_bit (propext (ly_V_old hv j).symm)
      · rw [ly_U_old hv] at a; exact h2 j a c
    · refine lx_write hn hB hS hR (by omega) hv h1 h2 (fun Vi' Nb' g1 g2 => ?_)
      intro y1 e1 y3 e3
      refine ih (i + 1) (by omega) _ _ _ Vi' Nb' ?_ rfl (by rw [e3, nI_1]) g1 g2
      rw [e1, nI_1]
      exact ly_eq2 (ly_cnt_t (P := fun a => ¬ ly_V (ly_g b n) a a) hv).symm
theorem lx_invert {post : Int32 → SX → Prop} (hn : n ≤ 24) (hb : ∀ j, j < n → b j < 16) (hB : ∀ j, j < n → B j = nI (b j)) (hR : ly_isR b (ly_g b n) n n R) (hp : ∀ B Su Vi Nb, (∀ j, j < n → B j = nI (R j)) → post (nI (ly_cc (ly_g b n) n)) (nI K, nI C, nI n, nI m, B, Cd, Fs, Fi, La, Rw, Su, Vi, Nb, Re)) : wpX_invert post (nI K, nI C, nI n, nI m, B, Cd, Fs, Fi, La, Rw, Su, Vi, Nb, Re) := by
  refine lx_find hn hb hB (fun Su' Vi' hS hV => ?_)
  refine ⟨_, lx_inv_loop hn hB hS hR (fun B' Vi'' Nb' h => hp B' Su' Vi'' Nb' h) n 0 (by omega) _ _ _ Vi' Nb rfl ?_ rfl (fun j hj => ?_) (fun j a c => ?_)⟩
  · rw [ly_U_0]
  · rw [hV j hj, ly_bit_f (ly_V_0 _ j)]
  · rw [ly_U_0] at a; omega
end
end
section
/-! the class: front and unfront -/
section
variable {K C n m : Nat} {b t R D : Nat → Nat} {B Cd Fs Fi La Rw Su Vi Nb Re : Nat → Int32}
theorem lx_reset_loop {post : SX → Prop} (hK : K ≤ 16) (hp : ∀ Re, (∀ q, q < K → Re q = nI q) → post (nI K, nI C, nI n, nI m, B, Cd, Fs, Fi, La, Rw, Su, Vi, Nb, Re)) : ∀ d i, i + d = K → ∀ x1 Re, x1 = nI i → (∀ q, q < i → Re q = nI q) → wX_resetRecent_2 post (nI K) (nI C) (nI n) (nI m) (d + 1) x1 B Cd Fs Fi La Rw Su Vi Nb Re := by
  intro d
  induction d with
  | zero =>
    rintro i hi x1 Re rfl h1
    obtain rfl : i = K := by omega
    exact pk_le i i (fun _ => hp Re h1) (fun h => by omega)
  | succ d ih =>
    rintro i hi x1 Re rfl h1
    refine pk_le K i (fun h => by omega) (fun _ => And.intro (ly_in16 (by omega)) ?_)
    intro a ea y ey
    refine ih (i + 1) (by omega) _ a (by rw [ey, nI_1]) (lt_s (fun q hq => ?_) ?_)
    · rw [ea, ly_un (by omega) (by omega)]; exact h1 q hq
    · rw [ea]; exact ly_us (by omega) rfl
theorem lx_reset {post : SX → Prop} (hK : K ≤ 16) (hp : ∀ Re, (∀ q, q < K → Re q = nI q) → post (nI K, nI C, nI n, nI m, B, Cd, Fs, Fi, La, Rw, Su, Vi, Nb, Re)) : wpX_resetRecent post (nI K, nI C, nI n, nI m, B, Cd, Fs, Fi, La, Rw, Su, Vi, Nb, Re) :=
  ⟨_, lx_reset_loop hK hp K 0 (by omega) _ Re rfl (fun q h => absurd h (Nat.not_lt_zero q))⟩
theorem lx_place_loop {post : Int32 → Prop} {i s : Nat} (hK : K ≤ 16) (hK1 : 1 ≤ K) (hs : s < K) (hR : ly_Rc t K i R) (hRe : ∀ q, q < K → Re q = nI (R q)) (hp : post (nI (ly_pl t K i s))) : ∀ d p, p + d = K - 1 → p ≤ ly_pl t K i s → ∀ x3, x3 = nI p → wX_placeOf_9 post (nI s) (nI (K - 1)) (nI K) (nI C) (nI n) (nI m) B Cd Fs Fi La Rw Su Vi Nb Re (d + 1) x3 := by
  have hl := ly_pl_lt (t := t) (i := i) hs
  intro d
  induction d with
  | zero =>
    rintro p hpd hle x3 rfl
    refine pk_le (K - 1) p (fun _ => ?_) (fun h => by omega)
    have e : ly_pl t K i s = K - 1 := by omega
    rw [e] at hp
    exact hp
  | succ d ih =>
    rintro p hpd hle x3 rfl
    have h1 := hR p (by omega)
    refine pk_le (K - 1) p (fun h => by omega) (fun _ => And.intro (ly_in16 (by omega)) ?_)
    rw [ly_cl (by omega), hRe p (by omega)]
    refine pk_eq (R p) s (fun e => ?_) (fun e => ?_)
    · have h2 := h1.2
      rw [e] at h2
      rw [h2] at hp
      exact hp
    · intro y ey
      refine ih (p + 1) (by omega) ?_ _ (by rw [ey, nI_1])
      by_cases c : p = ly_pl t K i s
      · have := ly_Rc_at hR hs
        rw [← c] at this
        exact absurd this e
      · omega
theorem lx_place {post : Int32 → Prop} {i s : Nat} (hK : K ≤ 16) (hK1 : 1 ≤ K) (hs : s < K) (hR : ly_Rc t K i R) (hRe : ∀ q, q < K → Re q = nI (R q)) (hp : post (nI (ly_pl t K i s))) : wpX_placeOf post (nI K, nI C, nI n, nI m, B, Cd, Fs, Fi, La, Rw, Su, Vi, Nb, Re) (nI s) :=
  nm_r (ly_s1 (b := K - 1) (by omega)) ⟨_, lx_place_loop hK hK1 hs hR hRe hp (K - 1) 0 (by omega) (by omega) _ rfl⟩
theorem lx_bring_loop {post : Int32 → SX → Prop} {j : Nat} (hK : K ≤ 16) (hj : j < K) (hp : ∀ Re, (∀ p, p < K → Re p = nI (ly_mv R j (R j) p)) → post (nI (R j)) (nI K, nI C, nI n, nI m, B, Cd, Fs, Fi, La, Rw, Su, Vi, Nb, Re)) : ∀ k, k ≤ j → ∀ x3 Re, x3 = nI k → (∀ p, p < K → Re p = nI (if k < p ∧ p ≤ j then R (p - 1) else R p)) → wX_bringToFront_9 post (nI (R j)) (nI K) (nI C) (nI n) (nI m) (k + 1) x3 B Cd Fs Fi La Rw Su Vi Nb Re := by
  intro k
  induction k with
  | zero =>
    rintro hk x3 Re rfl h1
    refine pk_le 0 0 (fun _ => ?_) (fun h => by omega)
    intro a ea
    refine hp a (fun p hpK => ?_)
    unfold ly_mv
    by_cases c : p = 0
    · rw [ea, c, pk_us, if_pos rfl]
    · rw [ea, pk_un c, h1 p hpK, if_neg c]
      by_cases d : p ≤ j
      · rw [if_pos d, if_pos ⟨by omega, d⟩]
      · rw [if_neg d, if_neg (fun z => d z.2)]
  | succ k ih =>
    rintro hk x3 Re rfl h1
    refine pk_le (k + 1) 0 (fun h => by omega) (fun _ => ?_)
    rw [ly_s1 (b := k) rfl]
    refine And.intro (ly_in16 (by omega)) (And.intro (ly_in16 (by omega)) ?_)
    intro a ea y ey
    refine ih (by omega) _ a (by rw [ey]; exact ly_d1 rfl) (fun p hpK => ?_)
    by_cases c : p = k + 1
    · rw [ea, ly_us (by omega) c, ly_cl (by omega), h1 k (by omega), if_neg (by omega), if_pos ⟨by omega, by omega⟩, c]
      rfl
    · rw [ea, ly_un (by omega) c, h1 p hpK]
      by_cases d : k + 1 < p ∧ p ≤ j
      · rw [if_pos d, if_pos ⟨by omega, d.2⟩]
      · rw [if_neg d, if_neg (fun z => d ⟨by omega, z.2⟩)]
theorem lx_bring {post : Int32 → SX → Prop} {j : Nat} (hK : K ≤ 16) (hj : j < K) (hRe : ∀ q, q < K → Re q = nI (R q)) (hp : ∀ Re, (∀ p, p < K → Re p = nI (ly_mv R j (R j) p)) → post (nI (R j)) (nI K, nI C, nI n, nI m, B, Cd, Fs, Fi, La, Rw, Su, Vi, Nb, Re)) : wpX_bringToFront post (nI K, nI C, nI n, nI m, B, Cd, Fs, Fi, La, Rw, Su, Vi, Nb, Re) (nI j) := by
  refine And.intro (ly_in16 (by omega)) (nm_r (e' := nI (R j)) (by rw [ly_cl (by omega)]; exact hRe j hj) ?_)
  refine ⟨_, lx_bring_loop hK hj hp j (Nat.le_refl j) _ Re rfl (fun p hpK => ?_)⟩
  rw [hRe p hpK, if_neg (by omega)]
theorem lx_front_loop {post : SX → Prop} (hK : K ≤ 16) (hK1 : 1 ≤ K) (hn : n ≤ 24) (hb : ∀ j, j < n → b j < K) (hp : ∀ B Re, (∀ j, j < n → B j = nI (ly_F b K j)) → post (nI K, nI C, nI n, nI m, B, Cd, Fs, Fi, La, Rw, Su, Vi, Nb, Re)) : ∀ d i, i + d = n → ∀ x1 B Re R, x1 = nI i → ly_Rc b K i R → (∀ q, q < K → Re q = nI (R q)) → (∀ j, j < i → B j = nI (ly_F b K j)) → (∀ j, i ≤ j → j < n → B j = nI (b j)) → wX_front_6 post (d + 1) x1 (nI K) (nI C) (nI n) (nI m) B Cd Fs Fi La Rw Su Vi Nb Re := by
  intro d
  induction d with
  | zero =>
    rintro i hi x1 B Re R rfl h1 h2 h3 h4
    obtain rfl : i = n := by omega
    exact pk_le i i (fun _ => hp B Re h3) (fun h => by omega)
  | succ d ih =>
    rintro i hi x1 B Re R rfl h1 h2 h3 h4
    have hbi := hb i (by omega)
    refine pk_le n i (fun h => by omega) (fun _ => And.intro (ly_in (by omega)) ?_)
    rw [ly_cl (by omega), h4 i (Nat.le_refl i) (by omega)]
    refine lx_place hK hK1 hbi h1 h2 ?_
    refine lx_bring hK (ly_pl_lt hbi) h2 (fun Re' hRe' => ?_)
    rw [ly_Rc_at h1 hbi] at hRe'
    refine And.intro (ly_in (by omega)) ?_
    intro a ea y ey
    refine ih (i + 1) (by omega) _ a Re' _ (by rw [ey, nI_1]) (ly_Rc_s h1 hbi) hRe' (lt_s (fun j hj => ?_) ?_) (fun j hj hj2 => ?_)
    · rw [ea, pk_un (by omega)]; exact h3 j hj
    · rw [ea, pk_us]; rfl
    · rw [ea, pk_un (by omega)]; exact h4 j (by omega) hj2
theorem lx_front {post : SX → Prop} (hK : K ≤ 16) (hK1 : 1 ≤ K) (hn : n ≤ 24) (hb : ∀ j, j < n → b j < K) (hB : ∀ j, j < n → B j = nI (b j)) (hp : ∀ B Re, (∀ j, j < n → B j = nI (ly_F b K j)) → post (nI K, nI C, nI n, nI m, B, Cd, Fs, Fi, La, Rw, Su, Vi, Nb, Re)) : wpX_front post (nI K, nI C, nI n, nI m, B, Cd, Fs, Fi, La, Rw, Su, Vi, Nb, Re) := by
  refine lx_reset hK (fun Re' hRe' => ?_)
  exact ⟨_, lx_front_loop hK hK1 hn hb hp n 0 (by omega) _ B Re' (fun p => p) rfl (ly_Rc_0 b K) hRe' (fun q h => absurd h (Nat.not_lt_zero q)) (fun j _ hj => hB j hj)⟩
theorem lx_unfront_loop {post : SX → Prop} (hK : K ≤ 16) (hn : n ≤ 24) (hb : ∀ j, j < n → b j < K) (hD : ly_isD b K n D) (hp : ∀ B Re, (∀ j, j < n → B j = nI (D j)) → post (nI K, nI C, nI n, nI m, B, Cd, Fs, Fi, La, Rw, Su, Vi, Nb, Re)) : ∀ d i, i + d = n → ∀ x1 B Re R, x1 = nI i → ly_Rc D K i R → (∀ q, q < K → Re q = nI (R q)) → (∀ j, j < i → B j = nI (D j)) → (∀ j, i ≤ j → j < n → B j = nI (b j)) → wX_unfront_6 post (d + 1) x1 (nI K) (nI C) (nI n) (nI m) B Cd Fs Fi La Rw Su Vi Nb Re := by
  intro d
  induction d with
  | zero =>
    rintro i hi x1 B Re R rfl h1 h2 h3 h4
    obtain rfl : i = n := by omega
    exact pk_le i i (fun _ => hp B Re h3) (fun h => by omega)
  | succ d ih =>
    rintro i hi x1 B Re R rfl h1 h2 h3 h4
    have hbi := hb i (by omega)
    have hDi := hD i (by omega)
    have hat := ly_Rc_at h1 hDi.1
    rw [hDi.2] at hat
    refine pk_le n i (fun h => by omega) (fun _ => And.intro (ly_in (by omega)) ?_)
    rw [ly_cl (by omega), h4 i (Nat.le_refl i) (by omega)]
    refine lx_bring hK hbi h2 (fun Re' hRe' => ?_)
    rw [hat] at hRe' ⊢
    refine And.intro (ly_in (by omega)) ?_
    intro a ea y ey
    have hs := ly_Rc_s h1 hDi.1
    rw [hDi.2] at hs
    refine ih (i + 1) (by omega) _ a Re' _ (by rw [ey, nI_1]) hs hRe' (lt_s (fun j hj => ?_) ?_) (fun j hj hj2 => ?_)
    · rw [ea, pk_un (by omega)]; exact h3 j hj
    · rw [ea, pk_us]
    · rw [ea, pk_un (by omega)]; exact h4 j (by omega) hj2
theorem lx_unfront {post : SX → Prop} (hK : K ≤ 16) (hn : n ≤ 24) (hb : ∀ j, j < n → b j < K) (hB : ∀ j, j < n → B j = nI (b j)) (hD : ly_isD b K n D) (hp : ∀ B Re, (∀ j, j < n → B j = nI (D j)) → post (nI K, nI C, nI n, nI m, B, Cd, Fs, Fi, La, Rw, Su, Vi, Nb, Re)) : wpX_unfront post (nI K, nI C, nI n, nI m, B, Cd, Fs, Fi, La, Rw, Su, Vi, Nb, Re) := by
  refine lx_reset hK (fun Re' hRe' => ?_)
  exact ⟨_, lx_unfront_loop hK hn hb hD hp n 0 (by omega) _ B Re' (fun p => p) rfl (ly_Rc_0 D K) hRe' (fun q h => absurd h (Nat.not_lt_zero q)) (fun j _ hj => hB j hj)⟩
end
end
section
/-! the class: pack, unpack, the appends -/
section
variable {K C n m : Nat} {b c s : Nat → Nat} {B Cd Fs Fi La Rw Su Vi Nb Re : Nat → Int32}
theorem ly_2 : (2 : Int32) = nI 2 := rfl
theorem ly_rem2 {z : Nat} (h : z < 2 ^ 31) : nI z - nI z / 2 * 2 = nI (z % 2) := pk_rem (d := 2) h (by decide) (by decide)
theorem ly_div2 {z : Nat} (h : z < 2 ^ 31) : nI z / 2 = nI (z / 2) := pk_div (d := 2) h (by decide) (by decide)
theorem ly_mul2 (z : Nat) : nI z * 2 = nI (z * 2) := pk_mul z 2
theorem ly_sub2 {z : Nat} (h : 2 ≤ z) : nI z - 2 = nI (z - 2) := pk_sub (b := 2) h
theorem lx_appSym {post : SX → Prop} {x : Int32} (hC : C ≤ 24) (h : n < C) (hp : ∀ B', B' = upd B n x → post (nI K, nI C, nI (n + 1), nI m, B', Cd, Fs, Fi, La, Rw, Su, Vi, Nb, Re)) : wpX_appendSymbol post (nI K, nI C, nI n, nI m, B, Cd, Fs, Fi, La, Rw, Su, Vi, Nb, Re) x := by
  refine pk_le C n (fun z => by omega) (fun _ => And.intro (ly_in (by omega)) ?_)
  intro a ea
  refine nm_r (nI_1 n) (hp a ?_)
  rw [ea, ly_cl (by omega)]
theorem lx_appTok {post : SX → Prop} {x : Int32} (hC : C ≤ 24) (h : m < C) (hp : ∀ Cd', Cd' = upd Cd m x → post (nI K, nI C, nI n, nI (m + 1), B, Cd', Fs, Fi, La, Rw, Su, Vi, Nb, Re)) : wpX_appendToken post (nI K, nI C, nI n, nI m, B, Cd, Fs, Fi, La, Rw, Su, Vi, Nb, Re) x := by
  refine pk_le C m (fun z => by omega) (fun _ => And.intro (ly_in (by omega)) ?_)
  intro a ea
  refine nm_r (nI_1 m) (hp a ?_)
  rw [ea, ly_cl (by omega)]
theorem lx_num_loop {post : SX → Prop} {z e1 : Nat} (hC : C ≤ 24) (hz : z ≤ 30) (he : e1 ≤ C) (hp : ∀ Cd, (∀ j, j < e1 → Cd j = nI (c j)) → post (nI K, nI C, nI n, nI e1, B, Cd, Fs, Fi, La, Rw, Su, Vi, Nb, Re)) : ∀ f r e k, r < f → e + r ≤ z → k + ly_dl r = e1 → (∀ d, d < ly_dl r → c (k + d) = ly_tok r d) → ∀ x2 x3 Cd, x2 = nI r → x3 = nI e → (∀ j, j < k → Cd j = nI (c j)) → wX_appendNumeral_4 post (nI z) f x2 x3 (nI K) (nI C) (nI n) (nI k) B Cd Fs Fi La Rw Su Vi Nb Re := by
  intro f
  induction f with
  | zero => exact fun r e k h => absurd h (Nat.not_lt_zero r)
  | succ f ih =>
    rintro r e k hrf her hke hc x2 x3 Cd rfl rfl h1
    by_cases c0 : r = 0
    · subst c0
      obtain rfl : k = e1 := hke
      exact pk_le z e (fun _ => hp Cd h1) (fun _ => pk_le 0 0 (fun _ => hp Cd h1) (fun h => by omega))
    · have hs := ly_dl_s (z := r) (by omega) (by omega)
      have ht := hc 0 (by omega)
      rw [ly_tok_0, Nat.add_zero] at ht
      have hc2 : ∀ d, d < ly_dl ((r - 1) / 2) → c (k + 1 + d) = ly_tok ((r - 1) / 2) d := fun d hd => by
        have := hc (d + 1) (by omega)
        rw [ly_tok_s (by omega)] at this
        rw [← this]
        exact congrArg c (by omega)
      refine pk_le z e (fun h => by omega) (fun _ => pk_le r 0 (fun h => by omega) (fun _ => And.intro (by decide) ?_))
      rw [ly_rem2 (by omega)]
      refine pk_eq (r % 2) 1 (fun h => ?_) (fun h => ?_)
      · refine lx_appTok hC (by omega) (fun Cd' e' => And.intro (by decide) ?_)
        intro y2 e2 y3 e3
        refine ih ((r - 1) / 2) (e + 1) (k + 1) (by omega) (by omega) (by omega) hc2 _ _ Cd' ?_ (by rw [e3, nI_1]) (lt_s (fun j hj => ?_) ?_)
        · rw [e2, ly_s1 (b := r - 1) (by omega), ly_div2 (by omega)]
        · rw [e', pk_un (by omega)]; exact h1 j hj
        · have e0 : (r + 1) % 2 = 0 := by omega
          rw [e', pk_us, ht, e0]; rfl
      · refine lx_appTok hC (by omega) (fun Cd' e' => And.intro (by decide) ?_)
        intro y2 e2 y3 e3
        refine ih ((r - 1) / 2) (e + 1) (k + 1) (by omega) (by omega) (by omega) hc2 _ _ Cd' ?_ (by rw [e3, nI_1]) (lt_s (fun j hj => ?_) ?_)
        · rw [e2, ly_sub2 (by omega), ly_div2 (by omega)]; exact ly_eq2 (by omega)
        · rw [e', pk_un (by omega)]; exact h1 j hj
        · have e0 : (r + 1) % 2 = 1 := by omega
          rw [e', pk_us, ht, e0]; rfl
theorem lx_num {post : SX → Prop} {z : Nat} (hC : C ≤ 24) (hz : z ≤ 30) (he : m + ly_dl z ≤ C) (hc : ∀ d, d < ly_dl z → c (m + d) = ly_tok z d) (h1 : ∀ j, j < m → Cd j = nI (c j)) (hp : ∀ Cd, (∀ j, j < m + ly_dl z → Cd j = nI (c j)) → post (nI K, nI C, nI n, nI (m + ly_dl z), B, Cd, Fs, Fi, La, Rw, Su, Vi, Nb, Re)) : wpX_appendNumeral post (nI K, nI C, nI n, nI m, B, Cd, Fs, Fi, La, Rw, Su, Vi, Nb, Re) (nI z) :=
  ⟨_, lx_num_loop hC hz he hp (z + 1) z 0 m (by omega) (by omega) rfl hc _ _ Cd rfl rfl h1⟩
theorem lx_pack_loop {post : Int32 → SX → Prop} (hC : C ≤ 24) (hn : n ≤ C) (hb : ∀ j, j < n → b j < 16) (hB : ∀ j, j < n → B j = nI (b j)) (hp : ∀ Cd, (∀ j, j < ly_M b n + ly_dl (ly_zr b n) → Cd j = nI (ly_C b n j)) → post (nI (ly_M b n + ly_dl (ly_zr b n))) (nI K, nI C, nI n, nI (ly_M b n + ly_dl (ly_zr b n)), B, Cd, Fs, Fi, La, Rw, Su, Vi, Nb, Re)) : ∀ d i, i + d = n → ∀ x1 x2 m Cd, x1 = nI (ly_zr b i) → x2 = nI i → m = ly_M b i → (∀ j, j < m → Cd j = nI (ly_C b n j)) → wX_pack_9 post (d + 1) x1 x2 (nI K) (nI C) (nI n) (nI m) B Cd Fs Fi La Rw Su Vi Nb Re := by
  intro d
  induction d with
  | zero =>
    rintro i hi x1 x2 m Cd rfl rfl rfl h1
    obtain rfl : i = n := by omega
    have h2 := ly_M_le b i
    have h3 := ly_dl_le (ly_zr b i)
    refine pk_le i i (fun _ => ?_) (fun h => by omega)
    exact lx_num hC (by omega) (by omega) (fun d _ => ly_C_end) h1 (fun Cd' h => hp Cd' h)
  | succ d ih =>
    rintro i hi x1 x2 m Cd rfl rfl rfl h1
    have h2 := ly_M_le b i
    have h3 := ly_dl_le (ly_zr b i)
    have hbi := hb i (by omega)
    refine pk_le n i (fun h => by omega) (fun _ => And.intro (ly_in (by omega)) ?_)
    refine pk_eq (b i) 0 (fun e => ?_) (fun e => ?_) (ly_rd hB (by omega) (by omega)) rfl
    · intro y1 e1 y2 e2
      refine ih (i + 1) (by omega) _ _ _ Cd ?_ (by rw [e2, nI_1]) (ly_M_t e).symm h1
      rw [e1, nI_1, ly_zr_t e]
    · refine lx_num hC (by omega) (by omega) (fun d hd => ly_C_dig (by omega) e hd) h1 (fun Cd' h => ?_)
      refine And.intro (ly_in (by omega)) ?_
      rw [ly_rd hB (by omega) (by omega), nI_1 (b i)]
      refine lx_appTok hC (by omega) (fun Cd'' e'' => ?_)
      intro y2 e2
      refine ih (i + 1) (by omega) _ _ _ Cd'' ?_ (by rw [e2, nI_1]) (ly_M_f e).symm (lt_s (fun j hj => ?_) ?_)
      · rw [ly_zr_f e]; rfl
      · rw [e'', pk_un (by omega)]; exact h j hj
      · rw [e'', pk_us, ly_C_sym (by omega) e]
theorem lx_pack {post : Int32 → SX → Prop} (hC : C ≤ 24) (hn : n ≤ C) (hb : ∀ j, j < n → b j < 16) (hB : ∀ j, j < n → B j = nI (b j)) (hp : ∀ Cd, (∀ j, j < ly_M b n + ly_dl (ly_zr b n) → Cd j = nI (ly_C b n j)) → post (nI (ly_M b n + ly_dl (ly_zr b n))) (nI K, nI C, nI n, nI (ly_M b n + ly_dl (ly_zr b n)), B, Cd, Fs, Fi, La, Rw, Su, Vi, Nb, Re)) : wpX_pack post (nI K, nI C, nI n, nI m, B, Cd, Fs, Fi, La, Rw, Su, Vi, Nb, Re) :=
  ⟨_, lx_pack_loop hC hn hb hB hp n 0 (by omega) _ _ 0 Cd rfl rfl rfl (fun q h => absurd h (Nat.not_lt_zero q))⟩
theorem ly_D_31 {i : Nat} (h : i ≤ 24) : ly_D c i < 2 ^ 30 := by
  have h1 := ly_D_le c i
  have h2 : 2 ^ (i + 1) ≤ 2 ^ 25 := Nat.pow_le_pow_right (by decide) (by omega)
  omega
theorem lx_dec_loop {post : Int32 → Prop} (hm : m ≤ 24) (hc : ∀ j, j < m → c j ≤ 16) (hCd : ∀ j, j < m → Cd j = nI (c j)) (hp : post (nI (ly_D c m))) : ∀ d i, i + d = m → ∀ x1 x2 x3, x1 = nI (ly_D c i) → x2 = nI (ly_w c i) → x3 = nI i → wX_decodedLength_6 post (nI K) (nI C) (nI n) (nI m) B Cd Fs Fi La Rw Su Vi Nb Re (d + 1) x1 x2 x3 := by
  intro d
  induction d with
  | zero =>
    rintro i hi x1 x2 x3 rfl rfl rfl
    obtain rfl : i = m := by omega
    exact pk_le i i (fun _ => hp) (fun h => by omega)
  | succ d ih =>
    rintro i hi x1 x2 x3 rfl rfl rfl
    have hci := hc i (by omega)
    refine pk_le m i (fun h => by omega) (fun _ => And.intro (ly_in (by omega)) ?_)
    rw [ly_rd hCd (by omega) hm]
    refine pk_lt (c i) 2 (fun h => And.intro (ly_in (by omega)) ?_) (fun h => ?_)
    · intro y1 e1 y2 e2 y3 e3
      refine ih (i + 1) (by omega) _ _ _ ?_ ?_ (by rw [e3, nI_1])
      · rw [e1, nI_1, pk_mul, nI_add, ly_D_f (by omega)]
      · rw [e2, ly_mul2, ly_w_f (by omega)]
    · intro y1 e1 y3 e3
      refine ih (i + 1) (by omega) _ _ _ ?_ ?_ (by rw [e3, nI_1])
      · rw [e1, nI_1, ly_D_t h]
      · rw [ly_w_t h]; rfl
theorem lx_dec {post : Int32 → Prop} (hm : m ≤ 24) (hc : ∀ j, j < m → c j ≤ 16) (hCd : ∀ j, j < m → Cd j = nI (c j)) (hp : post (nI (ly_D c m))) : wpX_decodedLength post (nI K, nI C, nI n, nI m, B, Cd, Fs, Fi, La, Rw, Su, Vi, Nb, Re) :=
  ⟨_, lx_dec_loop hm hc hCd hp m 0 (by omega) _ _ _ rfl rfl rfl⟩
theorem lx_zeros_loop {post : SX → Prop} {n0 q : Nat} (hC : C ≤ 24) (hq : n0 + q ≤ C) (hs : ∀ j, n0 ≤ j → j < n0 + q → s j = 0) (hp : ∀ B, (∀ j, j < n0 + q → B j = nI (s j)) → post (nI K, nI C, nI (n0 + q), nI m, B, Cd, Fs, Fi, La, Rw, Su, Vi, Nb, Re)) : ∀ d k, k + d = q → ∀ x2 n B, x2 = nI k → n = n0 + k → (∀ j, j < n0 + k → B j = nI (s j)) → wX_appendZeros_2 post (nI q) (d + 1) x2 (nI K) (nI C) (nI n) (nI m) B Cd Fs Fi La Rw Su Vi Nb Re := by
  intro d
  induction d with
  | zero =>
    rintro k hk x2 n B rfl rfl h1
    obtain rfl : k = q := by omega
    exact pk_le k k (fun _ => hp B h1) (fun h => by omega)
  | succ d ih =>
    rintro k hk x2 n B rfl rfl h1
    refine pk_le q k (fun h => by omega) (fun _ => lx_appSym hC (by omega) (fun B' e' => ?_))
    intro y ey
    refine ih (k + 1) (by omega) _ _ B' (by rw [ey, nI_1]) rfl (fun j hj => ?_)
    by_cases z : j = n0 + k
    · rw [e', z, pk_us, hs _ (by omega) (by omega)]; rfl
    · rw [e', pk_un z]; exact h1 j (by omega)
theorem lx_zeros {post : SX → Prop} {q : Nat} (hC : C ≤ 24) (hq : n + q ≤ C) (hs : ∀ j, n ≤ j → j < n + q → s j = 0) (h1 : ∀ j, j < n → B j = nI (s j)) (hp : ∀ B, (∀ j, j < n + q → B j = nI (s j)) → post (nI K, nI C, nI (n + q), nI m, B, Cd, Fs, Fi, La, Rw, Su, Vi, Nb, Re)) : wpX_appendZeros post (nI K, nI C, nI n, nI m, B, Cd, Fs, Fi, La, Rw, Su, Vi, Nb, Re) (nI q) :=
  ⟨_, lx_zeros_loop hC hq hs hp q 0 (by omega) _ _ B rfl rfl h1⟩
theorem lx_unp_loop {post : Int32 → SX → Prop} {x : Int32} (hC : C ≤ 24) (hm : m ≤ C) (hd : ly_D c m ≤ C) (hc : ∀ j, j < m → c j ≤ 16) (hCd : ∀ j, j < m → Cd j = nI (c j)) (hp : ∀ B, (∀ j, j < ly_D c m → B j = nI (ly_S c m j)) → post x (nI K, nI C, nI (ly_D c m), nI m, B, Cd, Fs, Fi, La, Rw, Su, Vi, Nb, Re)) : ∀ d i, i + d = m → ∀ x2 x3 n B, x2 = nI (ly_w c i) → x3 = nI i → n = ly_D c i → (∀ j, j < n → B j = nI (ly_S c m j)) → wX_unpack_25 post x (d + 1) x2 x3 (nI K) (nI C) (nI n) (nI m) B Cd Fs Fi La Rw Su Vi Nb Re := by
  intro d
  induction d with
  | zero =>
    rintro i hi x2 x3 n B rfl rfl rfl h1
    obtain rfl : i = m := by omega
    exact pk_le i i (fun _ => hp B h1) (fun h => by omega)
  | succ d ih =>
    rintro i hi x2 x3 n B rfl rfl rfl h1
    have hci := hc i (by omega)
    have hmo := ly_D_mono c (i := i + 1) (j := m) (by omega)
    refine pk_le m i (fun h => by omega) (fun _ => And.intro (ly_in (by omega)) ?_)
    rw [ly_rd hCd (by omega) (by omega)]
    refine pk_lt (c i) 2 (fun h => And.intro (ly_in (by omega)) ?_) (fun h => And.intro (ly_in (by omega)) ?_)
    · have e := ly_D_f (c := c) (i := i) (by omega)
      rw [nI_1 (c i), pk_mul (c i + 1) (ly_w c i)]
      refine lx_zeros hC (by omega) (fun j j1 j2 => ly_S_dig (i := i) (by omega) (by omega) j1 (by omega)) h1 (fun B' h => ?_)
      intro y2 e2 y3 e3
      refine ih (i + 1) (by omega) _ _ _ B' ?_ (by rw [e3, nI_1]) e.symm h
      rw [e2, ly_mul2, ly_w_f (by omega)]
    · have e := ly_D_t (c := c) (i := i) h
      rw [ly_s1 (b := c i - 1) (by omega)]
      refine lx_appSym hC (by omega) (fun B' e' => ?_)
      intro y3 e3
      refine ih (i + 1) (by omega) _ _ _ B' ?_ (by rw [e3, nI_1]) e.symm (lt_s (fun j hj => ?_) ?_)
      · rw [ly_w_t h]; rfl
      · rw [e', pk_un (by omega)]; exact h1 j hj
      · rw [e', pk_us, ly_S_sym (by omega) h]
theorem lx_unpack {post : Int32 → SX → Prop} (hC : C ≤ 24) (hm : m ≤ C) (hc : ∀ j, j < m → c j ≤ 16) (hCd : ∀ j, j < m → Cd j = nI (c j)) (hy : ly_D c m ≤ C → ∀ B, (∀ j, j < ly_D c m → B j = nI (ly_S c m j)) → post (nI (ly_D c m)) (nI K, nI C, nI (ly_D c m), nI m, B, Cd, Fs, Fi, La, Rw, Su, Vi, Nb, Re)) (hno : C < ly_D c m → post (-4) (nI K, nI C, nI n, nI m, B, Cd, Fs, Fi, La, Rw, Su, Vi, Nb, Re)) : wpX_unpack post (nI K, nI C, nI n, nI m, B, Cd, Fs, Fi, La, Rw, Su, Vi, Nb, Re) := by
  have h1 := ly_D_31 (c := c) (i := m) (by omega)
  refine lx_dec (by omega) hc hCd ?_
  refine pk_le (ly_D c m) C (fun h => ?_) (fun h => hno h)
  exact ⟨_, lx_unp_loop hC hm h hc hCd (hy h) m 0 (by omega) _ _ 0 B rfl rfl rfl (fun q h => absurd h (Nat.not_lt_zero q))⟩
end
end
section
/-! the reference: cut, factorStart, rowAt, transform -/
section
variable {K C n m : Nat} {b : Nat → Nat} {B Cd Tm Sa Ea : Nat → Int32}
theorem ls_small_loop {post : Int32 → Prop} {s t e : Nat} (hn : n ≤ 24) (hb : ∀ j, j < n → b j < 16) (hB : ∀ j, j < n → B j = nI (b j)) (hst : s < t) (he : e ≤ n) (hp : post (ly_bit (ly_Lt b s t e))) : ∀ d i, t + i + d = e → (∀ j, j < i → b (s + j) = b (t + j)) → ∀ x4, x4 = nI i → wY_smallerThanSuffix_3 post (nI s) (nI t) (nI e) (nI K) (nI C) (nI n) (nI m) B Cd Tm Sa Ea (d + 1) x4 := by
  intro d
  induction d with
  | zero =>
    rintro i hi h1 x4 rfl
    refine pk_le e (t + i) (fun _ => ?_) (fun h => by omega) rfl (nI_add t i)
    rw [ly_bit_f (fun z => by
      obtain ⟨k, k1, k2, k3⟩ := z
      have := h1 k (by omega)
      omega)] at hp
    exact hp
  | succ d ih =>
    rintro i hi h1 x4 rfl
    have b1 := hb (s + i) (by omega)
    have b2 := hb (t + i) (by omega)
    refine pk_le e (t + i) (fun h => by omega) (fun _ => ?_) rfl (nI_add t i)
    rw [nI_add s i, nI_add t i]
    refine And.intro (ly_in (by omega)) (And.intro (ly_in (by omega)) ?_)
    rw [ly_rd hB (i := s + i) (by omega) hn, ly_rd hB (i := t + i) (by omega) hn]
    refine pk_eq (b (s + i)) (b (t + i)) (fun e1 => ?_) (fun e1 => ?_)
    · intro y ey
      exact ih (i + 1) (by omega) (lt_s h1 e1) _ (by rw [ey, nI_1])
    · refine And.intro (ly_in (by omega)) (And.intro (ly_in (by omega)) ?_)
      refine pk_le (b (t + i)) (b (s + i)) (fun l => ?_) (fun l => ?_)
      · rw [ly_bit_f (fun z => by
          obtain ⟨k, k1, k2, k3⟩ := z
          by_cases c1 : k < i
          · have := h1 k c1; omega
          · by_cases c2 : k = i
            · subst c2; omega
            · exact e1 (k2 i (by omega)))] at hp
        exact hp
      · rw [ly_bit_t (P := ly_Lt b s t e) ⟨i, by omega, h1, l⟩] at hp
        exact hp
theorem ls_small {post : Int32 → Prop} {s t e : Nat} (hn : n ≤ 24) (hb : ∀ j, j < n → b j < 16) (hB : ∀ j, j < n → B j = nI (b j)) (hst : s < t) (hte : t ≤ e) (he : e ≤ n) (hp : post (ly_bit (ly_Lt b s t e))) : wpY_smallerThanSuffix post (nI K, nI C, nI n, nI m, B, Cd, Tm, Sa, Ea) (nI s) (nI t) (nI e) :=
  ⟨_, ls_small_loop hn hb hB hst he hp (e - t) 0 (by omega) (fun i h => absurd h (Nat.not_lt_zero i)) _ rfl⟩
theorem ls_prime_loop {post : Int32 → Prop} {s e : Nat} (hn : n ≤ 24) (hb : ∀ j, j < n → b j < 16) (hB : ∀ j, j < n → B j = nI (b j)) (he : e ≤ n) (hp : post (ly_bit (ly_Pr b s e))) : ∀ d t, t + d = e → s < t → (∀ q, s < q → q < t → ly_Lt b s q e) → ∀ x3, x3 = nI t → wY_prime_4 post (nI s) (nI e) (nI K) (nI C) (nI n) (nI m) B Cd Tm Sa Ea (d + 1) x3 := by
  intro d
  induction d with
  | zero =>
    rintro t ht hst h1 x3 rfl
    obtain rfl : t = e := by omega
    refine pk_le t t (fun _ => ?_) (fun h => by omega)
    rw [ly_bit_t (P := ly_Pr b s t) h1] at hp
    exact hp
  | succ d ih =>
    rintro t ht hst h1 x3 rfl
    refine pk_le e t (fun h => by omega) (fun _ => ls_small hn hb hB hst (by omega) he ?_)
    refine ly_bit_br (fun h => ?_) (fun h => ?_)
    · intro y ey
      refine ih (t + 1) (by omega) (by omega) (fun q q1 q2 => ?_) _ (by rw [ey, nI_1])
      by_cases c : q = t
      · rw [c]; exact h
      · exact h1 q q1 (by omega)
    · rw [ly_bit_f (P := ly_Pr b s e) (fun z => h (z t hst (by omega)))] at hp
      exact hp
theorem ls_prime {post : Int32 → Prop} {s e : Nat} (hn : n ≤ 24) (hb : ∀ j, j < n → b j < 16) (hB : ∀ j, j < n → B j = nI (b j)) (hse : s < e) (he : e ≤ n) (hp : post (ly_bit (ly_Pr b s e))) : wpY_prime post (nI K, nI C, nI n, nI m, B, Cd, Tm, Sa, Ea) (nI s) (nI e) :=
  nm_r (nI_1 s) ⟨_, ls_prime_loop hn hb hB he hp (e - (s + 1)) (s + 1) (by omega) (by omega) (fun q q1 q2 => by omega) _ rfl⟩
def ly_cutY (b : Nat → Nat) (n p : Nat) (Sa Ea : Nat → Int32) : Prop := (∀ q, q < p → Sa q = nI (ly_st b n q)) ∧ (∀ q, q < p → Ea q = nI (ly_en b n q))
theorem ls_cut60 {post : SY → Prop} {J : Int32 → Int32 → (Nat → Int32) → (Nat → Int32) → (Nat → Int32) → (Nat → Int32) → (Nat → Int32) → Prop} {s : Nat} {x2 : Int32} (hn : n ≤ 24) (hs : s < n) (hss : ly_st b n s = s) (hJ : ∀ Sa Ea, ly_cutY b n (ly_en b n s) Sa Ea → J (nI (ly_en b n s)) (x2 + 1) B Cd Tm Sa Ea) : ∀ d p, p + d = ly_en b n s → s ≤ p → ∀ x4 Sa Ea, x4 = nI p → ly_cutY b n p Sa Ea → wY_cut_60 post J (nI s) x2 (nI (ly_en b n s)) (nI K) (nI C) (nI n) (nI m) (d + 1) x4 B Cd Tm Sa Ea := by
  have h0 := ly_st_in b hs
  intro d
  induction d with
  | zero =>
    rintro p hpd hsp x4 Sa Ea rfl h1
    obtain rfl : p = ly_en b n s := by omega
    exact pk_le (ly_en b n s) (ly_en b n s) (fun _ => nm_e (hJ Sa Ea h1)) (fun h => by omega)
  | succ d ih =>
    rintro p hpd hsp x4 Sa Ea rfl h1
    have e1 := ly_st_same (b := b) (n := n) (p := s) (u := p) (by omega) (by omega)
    have e2 := ly_en_same (b := b) (n := n) (p := s) (u := p) (by omega) (by omega)
    refine pk_le (ly_en b n s) p (fun h => by omega) (fun _ => And.intro (ly_in (by omega)) ?_)
    intro a ea
    refine And.intro (ly_in (by omega)) ?_
    intro a2 ea2 y ey
    refine ih (p + 1) (by omega) (by omega) _ a a2 (by rw [ey, nI_1]) ⟨lt_s (fun q hq => ?_) ?_, lt_s (fun q hq => ?_) ?_⟩
    · rw [ea, ly_un (by omega) (by omega)]; exact h1.1 q hq
    · rw [ea, ly_us (by omega) rfl, e1, hss]
    · rw [ea2, ly_un (by omega) (by omega)]; exact h1.2 q hq
    · rw [ea2, ly_us (by omega) rfl, e2]
theorem ls_cut29 {post : SY → Prop} {J : Int32 → Int32 → (Nat → Int32) → (Nat → Int32) → (Nat → Int32) → (Nat → Int32) → (Nat → Int32) → Prop} {s : Nat} {x2 : Int32} (hn : n ≤ 24) (hb : ∀ j, j < n → b j < 16) (hB : ∀ j, j < n → B j = nI (b j)) (hs : s < n) (hss : ly_st b n s = s) (h0 : ly_cutY b n s Sa Ea) (hJ : ∀ Sa Ea, ly_cutY b n (ly_en b n s) Sa Ea → J (nI (ly_en b n s)) (x2 + 1) B Cd Tm Sa Ea) : ∀ d t e, t + d = n + 1 → s < t → s < e → e ≤ n → ly_Pr b s e → (∀ l, e < l → l < t → ¬ ly_Pr b s l) → (e < t ∨ e = s + 1) → ∀ x3 x4, x3 = nI e → x4 = nI t → wY_cut_29 post J (nI s) x2 (nI K) (nI C) (nI n) (nI m) B Cd Tm Sa Ea (d + 1) x3 x4 := by
  intro d
  induction d with
  | zero =>
    rintro t e ht h1 h2 h3 h4 h5 h6 x3 x4 rfl rfl
    have hE : ly_E b n s = e := ly_E_eq ⟨h2, h3, h4, fun l l1 l2 => h5 l l1 (by omega)⟩
    have hE2 : ly_en b n s = e := by unfold ly_en; rw [hss]; exact hE
    refine pk_lt n t (fun _ => ?_) (fun h => by omega)
    have := ls_cut60 (K := K) (C := C) (m := m) (B := B) (Cd := Cd) (Tm := Tm) (post := post) (x2 := x2) hn hs hss hJ (ly_en b n s - s) s (by omega) (Nat.le_refl s) _ Sa Ea rfl h0
    rw [hE2] at this
    exact ⟨_, this⟩
  | succ d ih =>
    rintro t e ht h1 h2 h3 h4 h5 h6 x3 x4 rfl rfl
    refine pk_lt n t (fun h => by omega) (fun _ => ls_prime hn hb hB h1 (by omega) ?_)
    refine ly_bit_br (fun h => ?_) (fun h => ?_)
    · intro y ey
      exact ih (t + 1) t (by omega) (by omega) h1 (by omega) h (fun l l1 l2 => by omega) (by omega) _ _ rfl (by rw [ey, nI_1])
    · intro y ey
      refine ih (t + 1) e (by omega) (by omega) h2 h3 h4 (fun l l1 l2 => ?_) (by omega) _ _ rfl (by rw [ey, nI_1])
      by_cases c : l = t
      · rw [c]; exact h
      · exact h5 l l1 (by omega)
theorem ly_en_next {s : Nat} (hs : s < n) (h : ly_en b n s < n) : ly_st b n (ly_en b n s) = ly_en b n s := by
  have h0 := ly_st_in b hs
  obtain ⟨e, he⟩ : ∃ e, ly_en b n s = e + 1 := ⟨ly_en b n s - 1, by omega⟩
  rw [he]
  have e2 : ly_en b n e = ly_en b n s := ly_en_same (by omega) (by omega)
  exact ly_st_t (by rw [e2]; exact he.symm)
theorem ls_cut_loop {post : SY → Prop} (hn : n ≤ 24) (hb : ∀ j, j < n → b j < 16) (hB : ∀ j, j < n → B j = nI (b j)) (hp : ∀ Sa Ea, ly_cutY b n n Sa Ea → post (nI K, nI C, nI n, nI m, B, Cd, Tm, Sa, Ea)) : ∀ d f s, f + d = n → f ≤ s → s ≤ n → (s < n → ly_st b n s = s) → ∀ x1 x2 Sa Ea, x1 = nI s → x2 = nI f → ly_cutY b n s Sa Ea → wY_cut_4 post (nI K) (nI C) (nI n) (nI m) (d + 1) x1 x2 B Cd Tm Sa Ea := by
  intro d
  induction d with
  | zero =>
    rintro f s hf hfs hsn hss x1 x2 Sa Ea rfl rfl h1
    obtain rfl : s = n := by omega
    exact pk_le s f (fun _ => hp Sa Ea h1) (fun h => by omega)
  | succ d ih =>
    rintro f s hf hfs hsn hss x1 x2 Sa Ea rfl rfl h1
    refine pk_le n f (fun h => by omega) (fun _ => pk_le n s (fun h => ?_) (fun h => ?_))
    · obtain rfl : s = n := by omega
      exact hp Sa Ea h1
    · have h0 := ly_st_in b h
      refine nm_r (nI_1 s) (nm_r (nI_1 s) ⟨_, ls_cut29 hn hb hB h (hss h) h1 (fun Sa' Ea' h' => ?_) (n - s) (s + 1) (s + 1) (by omega) (by omega) (by omega) (by omega) (ly_Pr1 b s) (fun l l1 l2 => by omega) (Or.inr rfl) _ _ rfl rfl⟩)
      exact ih (f + 1) (ly_en b n s) (by omega) (by omega) h0.2.2 (ly_en_next h) _ _ Sa' Ea' rfl (nI_1 f) h'
theorem ls_cut {post : SY → Prop} (hn : n ≤ 24) (hb : ∀ j, j < n → b j < 16) (hB : ∀ j, j < n → B j = nI (b j)) (hp : ∀ Sa Ea, ly_cutY b n n Sa Ea → post (nI K, nI C, nI n, nI m, B, Cd, Tm, Sa, Ea)) : wpY_cut post (nI K, nI C, nI n, nI m, B, Cd, Tm, Sa, Ea) :=
  ⟨_, ls_cut_loop hn hb hB hp n 0 0 (by omega) (Nat.le_refl 0) (Nat.zero_le n) (fun _ => rfl) _ _ Sa Ea rfl rfl ⟨fun q h => absurd h (Nat.not_lt_zero q), fun q h => absurd h (Nat.not_lt_zero q)⟩⟩
theorem ls_fs_loop {post : Int32 → SY → Prop} {v : Int32} (hn : n ≤ 24) (hS : ∀ q, q < n → Sa q = nI (ly_st b n q)) (hp : ∀ r, ly_isFS b n v r → post r (nI K, nI C, nI n, nI m, B, Cd, Tm, Sa, Ea)) : ∀ d p, p + d = n → (∀ q, q < p → ly_st b n q = q → ¬ v = nI (ly_fc b n q)) → ∀ x2 x3, x2 = nI (ly_fc b n p) → x3 = nI p → wY_factorStart_8 post v (nI K) (nI C) (nI n) (nI m) B Cd Tm Sa Ea (d + 1) x2 x3 := by
  intro d
  induction d with
  | zero =>
    rintro p hpd h1 x2 x3 rfl rfl
    obtain rfl : p = n := by omega
    exact pk_le p p (fun _ => hp _ (Or.inr ⟨h1, rfl⟩)) (fun h => by omega)
  | succ d ih =>
    rintro p hpd h1 x2 x3 rfl rfl
    have h0 := ly_st_in b (n := n) (p := p) (by omega)
    refine pk_le n p (fun h => by omega) (fun _ => And.intro (ly_in (by omega)) ?_)
    refine pk_eq (ly_st b n p) p (fun e => ?_) (fun e => ?_) (ly_rd hS (by omega) hn) rfl
    · refine br_c (fun z => hp _ (Or.inl ⟨p, by omega, e, z.symm, rfl⟩)) (fun z => ?_)
      intro y2 e2 y3 e3
      refine ih (p + 1) (by omega) (lt_s h1 (fun _ => fun w => z w.symm)) _ _ ?_ (by rw [e3, nI_1])
      rw [e2, nI_1]
      exact ly_eq2 (ly_cnt_t (P := fun p => ly_st b n p = p) e).symm
    · intro y3 e3
      refine ih (p + 1) (by omega) (lt_s h1 (fun z => absurd z e)) _ _ ?_ (by rw [e3, nI_1])
      exact ly_eq2 (ly_cnt_f (P := fun p => ly_st b n p = p) e).symm
theorem ls_factorStart {post : Int32 → SY → Prop} {v : Int32} (hn : n ≤ 24) (hb : ∀ j, j < n → b j < 16) (hB : ∀ j, j < n → B j = nI (b j)) (hp : ∀ r Sa Ea, ly_isFS b n v r → post r (nI K, nI C, nI n, nI m, B, Cd, Tm, Sa, Ea)) : wpY_factorStart post (nI K, nI C, nI n, nI m, B, Cd, Tm, Sa, Ea) v := by
  refine ls_cut hn hb hB (fun Sa' Ea' hc => ?_)
  exact ⟨_, ls_fs_loop hn hc.1 (fun r h => hp r Sa' Ea' h) n 0 (by omega) (fun q h => absurd h (Nat.not_lt_zero q)) _ _ rfl rfl⟩
theorem ls_before_loop {post : Int32 → Prop} {p q : Nat} (hn : n ≤ 24) (hb : ∀ j, j < n → b j < 16) (hB : ∀ j, j < n → B j = nI (b j)) (hc : ly_cutY b n n Sa Ea) (hpn : p < n) (hqn : q < n) (hp : post (ly_bit (ly_bf b n p q))) : ∀ d k, k + d = 48 → (∀ i, i < k → b (ly_pos b n p i) = b (ly_pos b n q i)) → ∀ x3 x4 x5, x3 = nI (ly_pos b n p k) → x4 = nI (ly_pos b n q k) → x5 = nI k → wY_before_8 post (nI p) (nI q) (nI K) (nI C) (nI n) (nI m) B Cd Tm Sa Ea (d + 1) x3 x4 x5 := by
  intro d
  induction d with
  | zero =>
    rintro k hk he x3 x4 x5 rfl rfl rfl
    obtain rfl : k = 48 := by omega
    refine pk_le 48 48 (fun _ => ?_) (fun h => by omega)
    refine pk_le q p (fun h => ?_) (fun h => ?_)
    · rw [ly_bit_f (fun z => by
        rcases z with ⟨k, k1, k2, k3⟩ | ⟨_, l⟩
        · have := he k k1
          dsimp only at k3
          omega
        · omega)] at hp
      exact hp
    · rw [ly_bit_t (P := ly_bf b n p q) (Or.inr ⟨he, h⟩)] at hp
      exact hp
  | succ d ih =>
    rintro k hk he x3 x4 x5 rfl rfl rfl
    have hpk := ly_pos_lt b hpn k
    have hqk := ly_pos_lt b hqn k
    have b1 := hb _ hpk
    have b2 := hb _ hqk
    have sp := ly_st_in b hpn
    have sq := ly_st_in b hqn
    have np := ly_pos_nx b hpn k
    have nq := ly_pos_nx b hqn k
    refine pk_le 48 k (fun h => by omega) (fun _ => And.intro (ly_in (by omega)) (And.intro (ly_in (by omega)) ?_))
    refine pk_eq (b (ly_pos b n p k)) (b (ly_pos b n q k)) (fun e => ?_) (fun e => ?_) (ly_rd hB hpk hn) (ly_rd hB hqk hn)
    · have K2 : ∀ x3 : Int32, x3 = nI (ly_pos b n p (k + 1)) → wY_before_73 post (wY_before_8 post (nI p) (nI q) (nI K) (nI C) (nI n) (nI m) B Cd Tm Sa Ea (d + 1)) (nI p) (nI q) x3 (nI (ly_pos b n q k)) (nI k) (nI K) (nI C) (nI n) (nI m) B Cd Tm Sa Ea := by
        intro x3 e3
        refine nm_r (nI_1 _) (And.intro (ly_in (by omega)) ?_)
        refine pk_eq (ly_pos b n q k + 1) (ly_en b n q) (fun z => And.intro (ly_in (by omega)) ?_) (fun z => ?_) rfl (ly_rd hc.2 hqn hn)
        · intro y4 e4 y5 e5
          refine ih (k + 1) (by omega) (lt_s he e) _ _ _ e3 ?_ (by rw [e5, nI_1])
          rw [e4, ly_rd hc.1 hqn hn, nq, if_pos z]
        · intro y5 e5
          refine ih (k + 1) (by omega) (lt_s he e) _ _ _ e3 ?_ (by rw [e5, nI_1])
          rw [nq, if_neg z]
      refine nm_r (nI_1 _) (And.intro (ly_in (by omega)) ?_)
      refine pk_eq (ly_pos b n p k + 1) (ly_en b n p) (fun z => And.intro (ly_in (by omega)) ?_) (fun z => ?_) rfl (ly_rd hc.2 hpn hn)
      · intro y3 e3
        exact K2 _ (by rw [e3, ly_rd hc.1 hpn hn, np, if_pos z])
      · exact K2 _ (by rw [np, if_neg z])
    · refine And.intro (ly_in (by omega)) (And.intro (ly_in (by omega)) ?_)
      refine pk_le (b (ly_pos b n q k)) (b (ly_pos b n p k)) (fun l => ?_) (fun l => ?_) (ly_rd hB hqk hn) (ly_rd hB hpk hn)
      · rw [ly_bit_f (fun z => by
          rcases z with ⟨i, i1, i2, i3⟩ | ⟨i2, _⟩
          · dsimp only at i2 i3
            by_cases c : i < k
            · have := he i c; omega
            · by_cases c2 : i = k
              · subst c2; omega
              · exact e (i2 k (by omega))
          · exact e (i2 k (by omega)))] at hp
        exact hp
      · rw [ly_bit_t (P := ly_bf b n p q) (Or.inl ⟨k, by omega, he, l⟩)] at hp
        exact hp
theorem ls_before {post : Int32 → Prop} {p q : Nat} (hn : n ≤ 24) (hb : ∀ j, j < n → b j < 16) (hB : ∀ j, j < n → B j = nI (b j)) (hc : ly_cutY b n n Sa Ea) (hpn : p < n) (hqn : q < n) (hp : post (ly_bit (ly_bf b n p q))) : wpY_before post (nI K, nI C, nI n, nI m, B, Cd, Tm, Sa, Ea) (nI p) (nI q) :=
  ⟨_, ls_before_loop hn hb hB hc hpn hqn hp 48 0 rfl (fun i h => absurd h (Nat.not_lt_zero i)) _ _ _ rfl rfl rfl⟩
theorem ls_row33 {post : Int32 → SY → Prop} {J : Int32 → Prop} {p r : Nat} (hn : n ≤ 24) (hb : ∀ j, j < n → b j < 16) (hB : ∀ j, j < n → B j = nI (b j)) (hc : ly_cutY b n n Sa Ea) (hpn : p < n) (hr : r < n) (hy : ly_rk (ly_bf b n) n p = r → post (nI p) (nI K, nI C, nI n, nI m, B, Cd, Tm, Sa, Ea)) (hno : ¬ ly_rk (ly_bf b n) n p = r → J (nI p + 1)) : ∀ d j, j + d = n → ∀ x3 x4, x3 = nI (ly_cnt (fun q => ly_bf b n q p) j) → x4 = nI j → wY_rowAt_33 post J (nI r) (nI p) (nI K) (nI C) (nI n) (nI m) B Cd Tm Sa Ea (d + 1) x3 x4 := by
  have hk := ly_rk_lt (ly_bf_sto b n) hpn
  intro d
  induction d with
  | zero =>
    rintro j hj x3 x4 rfl rfl
    obtain rfl : j = n := by omega
    refine pk_le j j (fun _ => ?_) (fun h => by omega)
    exact pk_eq (ly_rk (ly_bf b j) j p) r (fun e => hy e) (fun e => nm_e (hno e))
  | succ d ih =>
    rintro j hj x3 x4 rfl rfl
    refine pk_le n j (fun h => by omega) (fun _ => ls_before hn hb hB hc (by omega) hpn ?_)
    refine ly_bit_br (fun h => ?_) (fun h => ?_)
    · intro y2 e2 y3 e3
      refine ih (j + 1) (by omega) _ _ ?_ ?_
      · rw [e2, nI_1, ly_cnt_t (P := fun q => ly_bf b n q p) h]
      · rw [e3, nI_1]
    · intro y3 e3
      refine ih (j + 1) (by omega) _ _ ?_ ?_
      · rw [ly_cnt_f (P := fun q => ly_bf b n q p) h]
      · rw [e3, nI_1]
theorem ls_row20 {post : Int32 → SY → Prop} {r : Nat} (hn : n ≤ 24) (hb : ∀ j, j < n → b j < 16) (hB : ∀ j, j < n → B j = nI (b j)) (hc : ly_cutY b n n Sa Ea) (hr : r < n) (hp : post (nI (ly_row b n r)) (nI K, nI C, nI n, nI m, B, Cd, Tm, Sa, Ea)) : ∀ d p, p + d = ly_row b n r → ∀ x2, x2 = nI p → wY_rowAt_20 post (nI r) (nI K) (nI C) (nI n) (nI m) B Cd Tm Sa Ea (d + 1) x2 := by
  have hrow := ly_row_is b hr
  intro d
  induction d with
  | zero =>
    rintro p hpd x2 rfl
    obtain rfl : p = ly_row b n r := by omega
    refine pk_le n (ly_row b n r) (fun h => by omega) (fun _ => ?_)
    exact ⟨_, ls_row33 hn hb hB hc hrow.1 hr (fun _ => hp) (fun z => absurd hrow.2 z) n 0 (by omega) _ _ rfl rfl⟩
  | succ d ih =>
    rintro p hpd x2 rfl
    have hpn : p < n := by omega
    refine pk_le n p (fun h => by omega) (fun _ => ?_)
    refine ⟨_, ls_row33 hn hb hB hc hpn hr (fun z => ?_) (fun _ => ih (p + 1) (by omega) _ (nI_1 p)) n 0 (by omega) _ _ rfl rfl⟩
    have e := ly_row_eq (b := b) hpn
    rw [z] at e
    omega
theorem ls_rowAt_in {post : Int32 → SY → Prop} {r : Nat} (hn : n ≤ 24) (hb : ∀ j, j < n → b j < 16) (hB : ∀ j, j < n → B j = nI (b j)) (hr : r < n) (hp : ∀ Sa Ea, ly_cutY b n n Sa Ea → post (nI (ly_row b n r)) (nI K, nI C, nI n, nI m, B, Cd, Tm, Sa, Ea)) : wpY_rowAt post (nI K, nI C, nI n, nI m, B, Cd, Tm, Sa, Ea) (nI r) := by
  refine br_f (nI_pos (by omega)) (br_t (nI_lt hr (by omega)) ?_)
  refine ls_cut hn hb hB (fun Sa' Ea' hc => ?_)
  exact ⟨_, ls_row20 hn hb hB hc hr (hp Sa' Ea' hc) (ly_row b n r) 0 (by omega) _ rfl⟩
theorem ls_rowAt {post : Int32 → SY → Prop} {v : Int32} (hn : n ≤ 24) (hb : ∀ j, j < n → b j < 16) (hB : ∀ j, j < n → B j = nI (b j)) (hp : ∀ r Sa Ea, ly_isRow b n v r → post r (nI K, nI C, nI n, nI m, B, Cd, Tm, Sa, Ea)) : wpY_rowAt post (nI K, nI C, nI n, nI m, B, Cd, Tm, Sa, Ea) v := by
  rcases ly_ix3 v (n := n) (by omega) with h | ⟨h, h2⟩ | ⟨j, hj, rfl⟩
  · exact br_t h (hp _ _ _ (Or.inr ⟨Or.inl h, rfl⟩))
  · exact br_f h (br_f h2 (hp _ _ _ (Or.inr ⟨Or.inr h2, rfl⟩)))
  · exact ls_rowAt_in hn hb hB hj (fun Sa' Ea' _ => hp _ _ _ (Or.inl ⟨j, hj, rfl, rfl⟩))
theorem ls_take_loop {post : SY → Prop} (hn : n ≤ 24) (hp : ∀ B, (∀ j, j < n → B j = Tm j) → post (nI K, nI C, nI n, nI m, B, Cd, Tm, Sa, Ea)) : ∀ d i, i + d = n → ∀ x1 B, x1 = nI i → (∀ j, j < i → B j = Tm j) → wY_takeTmp_2 post (nI K) (nI C) (nI n) (nI m) (d + 1) x1 B Cd Tm Sa Ea := by
  intro d
  induction d with
  | zero =>
    rintro i hi x1 B rfl hI
    obtain rfl : i = n := by omega
    exact pk_le i i (fun _ => hp B hI) (fun h => by omega)
  | succ d ih =>
    rintro i hi x1 B rfl hI
    refine pk_le n i (fun h => by omega) (fun _ => And.intro (ly_in (by omega)) (And.intro (ly_in (by omega)) ?_))
    intro a ea y ey
    refine ih (i + 1) (by omega) _ a (by rw [ey, nI_1]) (lt_s (fun q hq => ?_) ?_)
    · rw [ea, ly_un (by omega) (by omega)]; exact hI q hq
    · rw [ea, ly_us (by omega) rfl, ly_cl (by omega)]
theorem ls_take {post : SY → Prop} (hn : n ≤ 24) (hp : ∀ B, (∀ j, j < n → B j = Tm j) → post (nI K, nI C, nI n, nI m, B, Cd, Tm, Sa, Ea)) : wpY_takeTmp post (nI K, nI C, nI n, nI m, B, Cd, Tm, Sa, Ea) :=
  ⟨_, ls_take_loop hn hp n 0 (by omega) _ B rfl (fun q h => absurd h (Nat.not_lt_zero q))⟩
theorem ls_tr37 {post : Int32 → SY → Prop} {x : Int32} (hn : n ≤ 24) (hb : ∀ j, j < n → b j < 16) (hB : ∀ j, j < n → B j = nI (b j)) (hp : ∀ B Tm Sa Ea, (∀ j, j < n → B j = nI (ly_T b n j)) → post x (nI K, nI C, nI n, nI m, B, Cd, Tm, Sa, Ea)) : ∀ d r, r + d = n → ∀ x2 Tm Sa Ea, x2 = nI r → (∀ j, j < r → Tm j = nI (ly_T b n j)) → wY_transform_37 post x (d + 1) x2 (nI K) (nI C) (nI n) (nI m) B Cd Tm Sa Ea := by
  intro d
  induction d with
  | zero =>
    rintro r hr x2 Tm Sa Ea rfl h1
    obtain rfl : r = n := by omega
    refine pk_le r r (fun _ => ls_take hn (fun B' hB' => ?_)) (fun h => by omega)
    exact hp B' Tm Sa Ea (fun j hj => (hB' j hj).trans (h1 j hj))
  | succ d ih =>
    rintro r hr x2 Tm Sa Ea rfl h1
    have hrn : r < n := by omega
    have hrow := ly_row_is b hrn
    have hst := ly_st_in b hrow.1
    refine pk_le n r (fun h => by omega) (fun _ => ls_rowAt_in hn hb hB hrn (fun Sa' Ea' hc => ?_))
    refine br_f (nI_pos (by omega)) (And.intro (ly_in (by omega)) ?_)
    refine pk_le (ly_row b n r) (ly_st b n (ly_row b n r)) (fun h => And.intro (ly_in (by omega)) ?_) (fun h => ?_) rfl (ly_rd hc.1 hrow.1 hn)
    · rw [ly_rd hc.2 hrow.1 hn, ly_s1 (b := ly_en b n (ly_row b n r) - 1) (by omega)]
      refine And.intro (ly_in (by omega)) (And.intro (ly_in (by omega)) ?_)
      intro a ea y ey
      refine ih (r + 1) (by omega) _ a Sa' Ea' (by rw [ey, nI_1]) (lt_s (fun q hq => ?_) ?_)
      · rw [ea, ly_un (by omega) (by omega)]; exact h1 q hq
      · rw [ea, ly_us (by omega) rfl, ly_rd hB (by omega) hn, ly_T_at b hrn]
        unfold ly_ll
        rw [if_pos (by omega)]
    · rw [ly_s1 (b := ly_row b n r - 1) (by omega)]
      refine And.intro (ly_in (by omega)) (And.intro (ly_in (by omega)) ?_)
      intro a ea y ey
      refine ih (r + 1) (by omega) _ a Sa' Ea' (by rw [ey, nI_1]) (lt_s (fun q hq => ?_) ?_)
      · rw [ea, ly_un (by omega) (by omega)]; exact h1 q hq
      · rw [ea, ly_us (by omega) rfl, ly_rd hB (by omega) hn, ly_T_at b hrn]
        unfold ly_ll
        rw [if_neg (by omega)]
theorem ls_tr8 {post : Int32 → SY → Prop} (hn : n ≤ 24) (hb : ∀ j, j < n → b j < 16) (hB : ∀ j, j < n → B j = nI (b j)) (hS : ∀ q, q < n → Sa q = nI (ly_st b n q)) (hp : ∀ B Tm Sa Ea, (∀ j, j < n → B j = nI (ly_T b n j)) → post (nI (ly_fc b n n)) (nI K, nI C, nI n, nI m, B, Cd, Tm, Sa, Ea)) : ∀ d p, p + d = n → ∀ x1 x2, x1 = nI (ly_fc b n p) → x2 = nI p → wY_transform_8 post (nI K) (nI C) (nI n) (nI m) B Cd Tm Sa Ea (d + 1) x1 x2 := by
  intro d
  induction d with
  | zero =>
    rintro p hpd x1 x2 rfl rfl
    obtain rfl : p = n := by omega
    refine pk_le p p (fun _ => ?_) (fun h => by omega)
    exact ⟨_, ls_tr37 hn hb hB hp p 0 (by omega) _ Tm Sa Ea rfl (fun q h => absurd h (Nat.not_lt_zero q))⟩
  | succ d ih =>
    rintro p hpd x1 x2 rfl rfl
    have h0 := ly_st_in b (n := n) (p := p) (by omega)
    refine pk_le n p (fun h => by omega) (fun _ => And.intro (ly_in (by omega)) ?_)
    refine pk_eq (ly_st b n p) p (fun e => ?_) (fun e => ?_) (ly_rd hS (by omega) hn) rfl
    · intro y1 e1 y2 e2
      refine ih (p + 1) (by omega) _ _ ?_ (by rw [e2, nI_1])
      rw [e1, nI_1]
      exact ly_eq2 (ly_cnt_t (P := fun p => ly_st b n p = p) e).symm
    · intro y2 e2
      refine ih (p + 1) (by omega) _ _ ?_ (by rw [e2, nI_1])
      exact ly_eq2 (ly_cnt_f (P := fun p => ly_st b n p = p) e).symm
theorem ls_transform {post : Int32 → SY → Prop} (hn : n ≤ 24) (hb : ∀ j, j < n → b j < 16) (hB : ∀ j, j < n → B j = nI (b j)) (hp : ∀ B Tm Sa Ea, (∀ j, j < n → B j = nI (ly_T b n j)) → post (nI (ly_fc b n n)) (nI K, nI C, nI n, nI m, B, Cd, Tm, Sa, Ea)) : wpY_transform post (nI K, nI C, nI n, nI m, B, Cd, Tm, Sa, Ea) := by
  refine ls_cut hn hb hB (fun Sa' Ea' hc => ?_)
  exact ⟨_, ls_tr8 hn hb hB hc.1 hp n 0 (by omega) _ _ rfl rfl⟩
end
end
section
/-! the reference: invert -/
section
variable {K C n m : Nat} {b R : Nat → Nat} {B Cd Tm Sa Ea : Nat → Int32}
theorem ls_g_loop {post : Int32 → Prop} {i : Nat} (hn : n ≤ 24) (hb : ∀ j, j < n → b j < 16) (hB : ∀ j, j < n → B j = nI (b j)) (hi : i < n) (hp : post (nI (ly_g b n i))) : ∀ d j, j + d = n → ∀ x2 x3, x2 = nI (ly_cnt (fun q => ly_gR b q i) j) → x3 = nI j → wY_g_4 post (nI i) (nI K) (nI C) (nI n) (nI m) B Cd Tm Sa Ea (d + 1) x2 x3 := by
  intro d
  induction d with
  | zero =>
    rintro j hj x2 x3 rfl rfl
    obtain rfl : j = n := by omega
    exact pk_le j j (fun _ => hp) (fun h => by omega)
  | succ d ih =>
    rintro j hj x2 x3 rfl rfl
    have b1 := hb j (by omega)
    have b2 := hb i hi
    have yes : ly_gR b j i → ∀ y2 : Int32, y2 = nI (ly_cnt (fun q => ly_gR b q i) j) + 1 → ∀ y3 : Int32, y3 = nI j + 1 → wY_g_4 post (nI i) (nI K) (nI C) (nI n) (nI m) B Cd Tm Sa Ea (d + 1) y2 y3 := fun h y2 e2 y3 e3 => by
      refine ih (j + 1) (by omega) _ _ ?_ ?_
      · rw [e2, nI_1, ly_cnt_t (P := fun q => ly_gR b q i) h]
      · rw [e3, nI_1]
    have no : ¬ ly_gR b j i → ∀ y3 : Int32, y3 = nI j + 1 → wY_g_4 post (nI i) (nI K) (nI C) (nI n) (nI m) B Cd Tm Sa Ea (d + 1) (nI (ly_cnt (fun q => ly_gR b q i) j)) y3 := fun h y3 e3 => by
      refine ih (j + 1) (by omega) _ _ ?_ ?_
      · rw [ly_cnt_f (P := fun q => ly_gR b q i) h]
      · rw [e3, nI_1]
    refine pk_le n j (fun h => by omega) (fun _ => And.intro (ly_in (by omega)) (And.intro (ly_in (by omega)) ?_))
    refine pk_lt (b j) (b i) (fun h => yes (Or.inl h)) (fun h => ?_) (ly_rd hB (by omega) hn) (ly_rd hB hi hn)
    refine And.intro (ly_in (by omega)) (And.intro (ly_in (by omega)) ?_)
    refine pk_eq (b j) (b i) (fun e => ?_) (fun e => no (fun z => by unfold ly_gR at z; omega)) (ly_rd hB (by omega) hn) (ly_rd hB hi hn)
    exact pk_le i j (fun l => no (fun z => by unfold ly_gR at z; omega)) (fun l => yes (Or.inr ⟨e, l⟩))
theorem ls_g {post : Int32 → Prop} {i : Nat} (hn : n ≤ 24) (hb : ∀ j, j < n → b j < 16) (hB : ∀ j, j < n → B j = nI (b j)) (hi : i < n) (hp : post (nI (ly_g b n i))) : wpY_g post (nI K, nI C, nI n, nI m, B, Cd, Tm, Sa, Ea) (nI i) :=
  ⟨_, ls_g_loop hn hb hB hi hp n 0 (by omega) _ _ rfl rfl⟩
theorem ly_m1s (x : Int32) : x + (-1) = x - 1 := by rw [Int32.sub_eq_add_neg]
theorem ly_0m1 : nI 0 - 1 < 0 := by decide
theorem ls_inv86 {post : Int32 → SY → Prop} {J : Int32 → Int32 → Int32 → (Nat → Int32) → (Nat → Int32) → (Nat → Int32) → (Nat → Int32) → (Nat → Int32) → Prop} {a : Nat} {x1 : Int32} (hn : n ≤ 24) (hb : ∀ j, j < n → b j < 16) (hB : ∀ j, j < n → B j = nI (b j)) (hR : ly_isR b (ly_g b n) n n R) (ha : a < n) (hv : ¬ ly_V (ly_g b n) a a) (hJ : ∀ Tm, (∀ j, j < ly_U (ly_g b n) n a → Tm j = nI (R j)) → J (x1 + 1) (nI (ly_U (ly_g b n) n a)) (nI a - 1) B Cd Tm Sa Ea) : ∀ e k, k + e = ly_len (ly_g b n) a → ∀ x6 x7 Tm, x6 = nI (ly_it (ly_g b n) a k) → x7 = nI e - 1 → (∀ j, j < ly_U (ly_g b n) n (a + 1) → Tm j = nI (R j)) → (∀ j, ly_U (ly_g b n) n a - k ≤ j → j < ly_U (ly_g b n) n a → Tm j = nI (R j)) → wY_invert_86 post J x1 (nI (ly_U (ly_g b n) n (a + 1))) (nI a) (nI (ly_len (ly_g b n) a)) (nI K) (nI C) (nI n) (nI m) (e + 1) x6 x7 B Cd Tm Sa Ea := by
  have hU := ly_U_new (ly_gp b n) ha hv
  have hUn := ly_U_le (ly_g b n) n a
  intro e
  induction e with
  | zero =>
    rintro k hk x6 x7 Tm rfl rfl h1 h2
    refine br_t ly_0m1 ?_
    refine nm_r (ly_ad (c := ly_U (ly_g b n) n a) (by omega)) (nm_e (nm_r (ly_m1s (nI a)) (hJ Tm (fun j hj => ?_))))
    by_cases c : j < ly_U (ly_g b n) n (a + 1)
    · exact h1 j c
    · exact h2 j (by omega) hj
  | succ e ih =>
    rintro k hk x6 x7 Tm rfl rfl h1 h2
    have hl := ly_it_lt (ly_gp b n) ha k
    rw [ly_s1 (b := e) rfl]
    refine br_f (nI_pos (by omega)) (And.intro (ly_in (by omega)) ?_)
    rw [ly_ad (a := ly_U (ly_g b n) n (a + 1)) (b := e) (c := ly_U (ly_g b n) n a - 1 - k) (by omega)]
    refine And.intro (ly_in (by omega)) ?_
    intro a2 ea2
    refine ls_g hn hb hB hl ?_
    intro y7 e7
    refine ih (k + 1) (by omega) _ _ a2 rfl (by rw [e7, ly_m1s]) (fun j hj => ?_) (fun j hj hj2 => ?_)
    · rw [ea2, ly_un (by omega) (by omega)]; exact h1 j hj
    · by_cases c : j = ly_U (ly_g b n) n a - 1 - k
      · rw [ea2, ly_us (by omega) c, ly_rd hB hl hn, c, hR a ha hv k (by omega)]
      · rw [ea2, ly_un (by omega) c]
        exact h2 j (by omega) hj2
theorem ls_inv72 {post : Int32 → SY → Prop} {J : Int32 → Int32 → Int32 → (Nat → Int32) → (Nat → Int32) → (Nat → Int32) → (Nat → Int32) → (Nat → Int32) → Prop} {a : Nat} {x1 : Int32} (hn : n ≤ 24) (hb : ∀ j, j < n → b j < 16) (hB : ∀ j, j < n → B j = nI (b j)) (hR : ly_isR b (ly_g b n) n n R) (ha : a < n) (hT : ∀ j, j < ly_U (ly_g b n) n (a + 1) → Tm j = nI (R j)) (hJ : ¬ ly_V (ly_g b n) a a → ∀ Tm, (∀ j, j < ly_U (ly_g b n) n a → Tm j = nI (R j)) → J (x1 + 1) (nI (ly_U (ly_g b n) n a)) (nI a - 1) B Cd Tm Sa Ea) (hJ2 : ly_V (ly_g b n) a a → J x1 (nI (ly_U (ly_g b n) n (a + 1))) (nI a - 1) B Cd Tm Sa Ea) : wY_invert_72 post J x1 (nI (ly_U (ly_g b n) n (a + 1))) (nI a) (ly_bit (∀ k, k < ly_len (ly_g b n) a → a ≤ ly_it (ly_g b n) a k)) (nI (ly_len (ly_g b n) a)) (nI K) (nI C) (nI n) (nI m) B Cd Tm Sa Ea := by
  have hsm := ly_V_sm (ly_gp b n) ha
  refine ly_bit_br (fun h => ?_) (fun h => ?_)
  · have hv := hsm.2 h
    exact nm_e ⟨_, ls_inv86 hn hb hB hR ha hv (hJ hv) (ly_len (ly_g b n) a) 0 (by omega) _ _ Tm rfl rfl hT (fun j j1 j2 => by omega)⟩
  · have hv : ly_V (ly_g b n) a a := by
      by_cases c : ly_V (ly_g b n) a a
      · exact c
      · exact absurd (hsm.1 c) h
    exact nm_r (ly_m1s (nI a)) (hJ2 hv)
theorem ls_inv31 {post : Int32 → SY → Prop} {J : Int32 → Int32 → Int32 → (Nat → Int32) → (Nat → Int32) → (Nat → Int32) → (Nat → Int32) → (Nat → Int32) → Prop} {a : Nat} {x1 : Int32} (hn : n ≤ 24) (hb : ∀ j, j < n → b j < 16) (hB : ∀ j, j < n → B j = nI (b j)) (hR : ly_isR b (ly_g b n) n n R) (ha : a < n) (hT : ∀ j, j < ly_U (ly_g b n) n (a + 1) → Tm j = nI (R j)) (hJ : ¬ ly_V (ly_g b n) a a → ∀ Tm, (∀ j, j < ly_U (ly_g b n) n a → Tm j = nI (R j)) → J (x1 + 1) (nI (ly_U (ly_g b n) n a)) (nI a - 1) B Cd Tm Sa Ea) (hJ2 : ly_V (ly_g b n) a a → J x1 (nI (ly_U (ly_g b n) n (a + 1))) (nI a - 1) B Cd Tm Sa Ea) : ∀ d s, s + d + 1 = ly_len (ly_g b n) a → ∀ x4 x5 x6 x7, x4 = ly_bit (∀ k, k < s + 1 → a ≤ ly_it (ly_g b n) a k) → x5 = nI (s + 1) → x6 = nI (ly_it (ly_g b n) a (s + 1)) → x7 = nI s → wY_invert_31 post J x1 (nI (ly_U (ly_g b n) n (a + 1))) (nI a) (nI K) (nI C) (nI n) (nI m) B Cd Tm Sa Ea (d + 1) x4 x5 x6 x7 := by
  have hL := ly_len_le (ly_gp b n) ha
  have hend := ls_inv72 (K := K) (C := C) (m := m) (Cd := Cd) (Sa := Sa) (Ea := Ea) (post := post) hn hb hB hR ha hT hJ hJ2
  intro d
  induction d with
  | zero =>
    rintro s hs x4 x5 x6 x7 rfl rfl rfl rfl
    have e : s + 1 = ly_len (ly_g b n) a := by omega
    have hit := ly_len_it (ly_gp b n) ha
    rw [← e] at hit hend
    refine pk_le n s (fun h => by omega) (fun _ => ?_)
    rw [hit]
    exact pk_eq a a (fun _ => hend) (fun z => absurd rfl z)
  | succ d ih =>
    rintro s hs x4 x5 x6 x7 rfl rfl rfl rfl
    have hl := ly_it_lt (ly_gp b n) ha (s + 1)
    have hne : ly_it (ly_g b n) a (s + 1) ≠ a := fun z => by
      have := ly_len_min (ly_gp b n) ha (by omega) z
      omega
    have K5 : ∀ x4 : Int32, x4 = ly_bit (∀ k, k < s + 1 + 1 → a ≤ ly_it (ly_g b n) a k) → wY_invert_55 post J (wY_invert_31 post J x1 (nI (ly_U (ly_g b n) n (a + 1))) (nI a) (nI K) (nI C) (nI n) (nI m) B Cd Tm Sa Ea (d + 1)) x1 (nI (ly_U (ly_g b n) n (a + 1))) (nI a) x4 (nI (s + 1)) (nI (ly_it (ly_g b n) a (s + 1))) (nI s) (nI K) (nI C) (nI n) (nI m) B Cd Tm Sa Ea := by
      intro x4 e4
      intro y5 e5
      refine ls_g hn hb hB hl ?_
      intro y7 e7
      exact ih (s + 1) (by omega) _ _ _ _ e4 (by rw [e5, nI_1]) rfl (by rw [e7, nI_1])
    refine pk_le n s (fun h => by omega) (fun _ => pk_eq (ly_it (ly_g b n) a (s + 1)) a (fun z => absurd z hne) (fun _ => ?_))
    refine pk_le a (ly_it (ly_g b n) a (s + 1)) (fun l => K5 _ ?_) (fun l => K5 _ ?_)
    · refine congrArg ly_bit (propext ⟨fun h k hk => ?_, fun h k hk => h k (by omega)⟩)
      by_cases c : k = s + 1
      · rw [c]; exact l
      · exact h k (by omega)
    · rw [ly_bit_f (fun h => by have := h (s + 1) (by omega); omega)]
theorem ls_inv_loop {post : Int32 → SY → Prop} (hn : n ≤ 24) (hb : ∀ j, j < n → b j < 16) (hB : ∀ j, j < n → B j = nI (b j)) (hR : ly_isR b (ly_g b n) n n R) (hp : ∀ B Tm, (∀ j, j < n → B j = nI (R j)) → post (nI (ly_cc (ly_g b n) n)) (nI K, nI C, nI n, nI m, B, Cd, Tm, Sa, Ea)) : ∀ i, i ≤ n → ∀ x1 x2 x3 Tm, x1 = nI (ly_cc (ly_g b n) n - ly_cc (ly_g b n) i) → x2 = nI (ly_U (ly_g b n) n i) → x3 = nI i - 1 → (∀ j, j < ly_U (ly_g b n) n i → Tm j = nI (R j)) → wY_invert_11 post (nI K) (nI C) (nI n) (nI m) (i + 1) x1 x2 x3 B Cd Tm Sa Ea := by
  intro i
  induction i with
  | zero =>
    rintro hi x1 x2 x3 Tm rfl rfl rfl h1
    rw [ly_U_0] at h1
    refine br_t ly_0m1 (ls_take hn (fun B' hB' => ?_))
    exact hp B' Tm (fun j hj => (hB' j hj).trans (h1 j hj))
  | succ i ih =>
    rintro hi x1 x2 x3 Tm rfl rfl rfl h1
    have hin : i < n := by omega
    have hL := ly_len_pos (ly_gp b n) hin
    have hcc : ly_cc (ly_g b n) (i + 1) ≤ ly_cc (ly_g b n) n := ly_cnt_up _ (by omega)
    rw [ly_s1 (b := i) rfl]
    refine br_f (nI_pos (by omega)) (ls_g hn hb hB hin ?_)
    refine ⟨_, ls_inv31 hn hb hB hR hin h1 (fun hv Tm' h' => ?_) (fun hv => ?_) (ly_len (ly_g b n) i - 1) 0 (by omega) _ _ _ _ ?_ rfl rfl rfl⟩
    · have e : ly_cc (ly_g b n) (i + 1) = ly_cc (ly_g b n) i + 1 := ly_cnt_t (P := fun a => ¬ ly_V (ly_g b n) a a) hv
      exact ih (by omega) _ _ _ Tm' (by rw [nI_1]; exact ly_eq2 (by omega)) rfl rfl h'
    · have e : ly_cc (ly_g b n) (i + 1) = ly_cc (ly_g b n) i := ly_cnt_f (P := fun a => ¬ ly_V (ly_g b n) a a) (fun z => z hv)
      refine ih (by omega) _ _ _ Tm (ly_eq2 (by omega)) (by rw [ly_U_old hv]) rfl ?_
      rw [← ly_U_old hv]; exact h1
    · rw [ly_bit_t (fun k hk => ?_)]
      obtain rfl : k = 0 := by omega
      exact Nat.le_refl i
theorem ls_invert {post : Int32 → SY → Prop} (hn : n ≤ 24) (hb : ∀ j, j < n → b j < 16) (hB : ∀ j, j < n → B j = nI (b j)) (hR : ly_isR b (ly_g b n) n n R) (hp : ∀ B Tm, (∀ j, j < n → B j = nI (R j)) → post (nI (ly_cc (ly_g b n) n)) (nI K, nI C, nI n, nI m, B, Cd, Tm, Sa, Ea)) : wpY_invert post (nI K, nI C, nI n, nI m, B, Cd, Tm, Sa, Ea) := by
  refine nm_e ⟨_, ls_inv_loop hn hb hB hR hp n (Nat.le_refl n) _ _ _ Tm ?_ ?_ rfl (fun j hj => ?_)⟩
  · rw [Nat.sub_self]; rfl
  · rw [ly_U_n]; rfl
  · rw [ly_U_n] at hj; exact absurd hj (Nat.not_lt_zero j)
end
end
section
/-! the reference: front and unfront -/
section
variable {K C n m : Nat} {b t D : Nat → Nat} {B Cd Tm Sa Ea : Nat → Int32}
def ly_I (x : Int) : Int32 := Int32.ofInt x
theorem ly_I_n (n : Nat) : nI n = ly_I (n : Int) := Int32.ofInt_eq_ofNat.symm
theorem ly_I_m (s : Nat) : (-1) - nI s = ly_I (-1 - (s : Int)) := by
  unfold ly_I
  rw [Int32.ofInt_sub, Int32.ofInt_eq_ofNat]
  rfl
theorem ly_I_le {x y : Int} (hx : -100 ≤ x) (hx2 : x ≤ 100) (hy : -100 ≤ y) (hy2 : y ≤ 100) : ly_I x ≤ ly_I y ↔ x ≤ y := by
  unfold ly_I
  rw [Int32.le_iff_toInt_le, Int32.toInt_ofInt_of_le (by omega) (by omega), Int32.toInt_ofInt_of_le (by omega) (by omega)]
theorem ls_lm_loop {post : Int32 → Prop} {s i : Nat} (hi : i ≤ 24) (hs : s < 16) (ht : ∀ j, j < i → t j < 16) (hT : ∀ j, j < i → Tm j = nI (t j)) (hp : post (ly_I (ly_lm t s i))) : ∀ d j, j + d = i → ∀ x3 x4, x3 = ly_I (ly_lm t s j) → x4 = nI j → wY_lastMoved_7 post (nI s) (nI i) (nI K) (nI C) (nI n) (nI m) B Cd Tm Sa Ea (d + 1) x3 x4 := by
  intro d
  induction d with
  | zero =>
    rintro j hj x3 x4 rfl rfl
    obtain rfl : j = i := by omega
    exact pk_le j j (fun _ => hp) (fun h => by omega)
  | succ d ih =>
    rintro j hj x3 x4 rfl rfl
    have h1 := ht j (by omega)
    refine pk_le i j (fun h => by omega) (fun _ => And.intro (ly_in (by omega)) ?_)
    refine pk_eq (t j) s (fun e => ?_) (fun e => ?_) (ly_rd hT (by omega) hi) rfl
    · intro y ey
      refine ih (j + 1) (by omega) _ _ ?_ (by rw [ey, nI_1])
      rw [ly_lm_t e]; exact ly_I_n j
    · intro y ey
      refine ih (j + 1) (by omega) _ _ ?_ (by rw [ey, nI_1])
      rw [ly_lm_f e]
theorem ls_lm {post : Int32 → Prop} {s i : Nat} (hi : i ≤ 24) (hs : s < 16) (ht : ∀ j, j < i → t j < 16) (hT : ∀ j, j < i → Tm j = nI (t j)) (hp : post (ly_I (ly_lm t s i))) : wpY_lastMoved post (nI K, nI C, nI n, nI m, B, Cd, Tm, Sa, Ea) (nI s) (nI i) :=
  nm_r (ly_I_m s) ⟨_, ls_lm_loop hi hs ht hT hp i 0 (by omega) _ _ rfl rfl⟩
theorem ls_pl_loop {post : Int32 → Prop} {s i : Nat} (hK : K ≤ 16) (hi : i ≤ 24) (hs : s < K) (ht : ∀ j, j < i → t j < 16) (hT : ∀ j, j < i → Tm j = nI (t j)) (hp : post (nI (ly_pl t K i s))) : ∀ d x, x + d = K → ∀ x4 x5, x4 = nI (ly_cnt (fun y => ly_mR t i y s) x) → x5 = nI x → wY_place_13 post (nI i) (ly_I (ly_lm t s i)) (nI K) (nI C) (nI n) (nI m) B Cd Tm Sa Ea (d + 1) x4 x5 := by
  have s1 := ly_lm_lt t s i
  have s2 := ly_lm_ge t s i
  intro d
  induction d with
  | zero =>
    rintro x hx x4 x5 rfl rfl
    obtain rfl : x = K := by omega
    exact pk_le x x (fun _ => hp) (fun h => by omega)
  | succ d ih =>
    rintro x hx x4 x5 rfl rfl
    have t1 := ly_lm_lt t x i
    have t2 := ly_lm_ge t x i
    refine pk_le K x (fun h => by omega) (fun _ => ls_lm hi (by omega) ht hT ?_)
    refine br_c (fun h => ?_) (fun h => ?_)
    · rw [ly_I_le (by omega) (by omega) (by omega) (by omega)] at h
      intro y5 e5
      refine ih (x + 1) (by omega) _ _ ?_ (by rw [e5, nI_1])
      rw [ly_cnt_f (P := fun y => ly_mR t i y s) (fun z => by unfold ly_mR at z; omega)]
    · rw [ly_I_le (by omega) (by omega) (by omega) (by omega)] at h
      intro y4 e4 y5 e5
      refine ih (x + 1) (by omega) _ _ ?_ (by rw [e5, nI_1])
      rw [e4, nI_1, ly_cnt_t (P := fun y => ly_mR t i y s) (by unfold ly_mR; omega)]
theorem ls_pl {post : Int32 → Prop} {s i : Nat} (hK : K ≤ 16) (hi : i ≤ 24) (hs : s < K) (ht : ∀ j, j < i → t j < 16) (hT : ∀ j, j < i → Tm j = nI (t j)) (hp : post (nI (ly_pl t K i s))) : wpY_place post (nI K, nI C, nI n, nI m, B, Cd, Tm, Sa, Ea) (nI s) (nI i) := by
  refine ls_lm hi (by omega) ht hT ?_
  exact ⟨_, ls_pl_loop hK hi hs ht hT hp K 0 (by omega) _ _ rfl rfl⟩
theorem ls_fr30 {post : SY → Prop} (hK : K ≤ 16) (hn : n ≤ 24) (hb : ∀ j, j < n → b j < K) (hT : ∀ j, j < n → Tm j = nI (b j)) (hp : ∀ B, (∀ j, j < n → B j = nI (ly_F b K j)) → post (nI K, nI C, nI n, nI m, B, Cd, Tm, Sa, Ea)) : ∀ d i, i + d = n → ∀ x1 B, x1 = nI i → (∀ j, j < i → B j = nI (ly_F b K j)) → wY_front_30 post (nI K) (nI C) (nI n) (nI m) (d + 1) x1 B Cd Tm Sa Ea := by
  intro d
  induction d with
  | zero =>
    rintro i hi x1 B rfl h1
    obtain rfl : i = n := by omega
    exact pk_le i i (fun _ => hp B h1) (fun h => by omega)
  | succ d ih =>
    rintro i hi x1 B rfl h1
    have hbi := hb i (by omega)
    refine pk_le n i (fun h => by omega) (fun _ => And.intro (ly_in (by omega)) ?_)
    rw [ly_cl (by omega), hT i (by omega)]
    refine ls_pl hK (by omega) hbi (fun j hj => by have := hb j (by omega); omega) (fun j hj => hT j (by omega)) ?_
    refine And.intro (ly_in (by omega)) ?_
    intro a ea y ey
    refine ih (i + 1) (by omega) _ a (by rw [ey, nI_1]) (lt_s (fun j hj => ?_) ?_)
    · rw [ea, pk_un (by omega)]; exact h1 j hj
    · rw [ea, pk_us]; rfl
theorem ls_fr2 {post : SY → Prop} (hK : K ≤ 16) (hn : n ≤ 24) (hb : ∀ j, j < n → b j < K) (hB : ∀ j, j < n → B j = nI (b j)) (hp : ∀ B Tm, (∀ j, j < n → B j = nI (ly_F b K j)) → post (nI K, nI C, nI n, nI m, B, Cd, Tm, Sa, Ea)) : ∀ d i, i + d = n → ∀ x1 Tm, x1 = nI i → (∀ j, j < i → Tm j = nI (b j)) → wY_front_2 post (nI K) (nI C) (nI n) (nI m) (d + 1) x1 B Cd Tm Sa Ea := by
  intro d
  induction d with
  | zero =>
    rintro i hi x1 Tm rfl h1
    obtain rfl : i = n := by omega
    refine pk_le i i (fun _ => ?_) (fun h => by omega)
    exact ⟨_, ls_fr30 hK hn hb h1 (fun B' h => hp B' Tm h) i 0 (by omega) _ B rfl (fun q h => absurd h (Nat.not_lt_zero q))⟩
  | succ d ih =>
    rintro i hi x1 Tm rfl h1
    refine pk_le n i (fun h => by omega) (fun _ => And.intro (ly_in (by omega)) (And.intro (ly_in (by omega)) ?_))
    intro a ea y ey
    refine ih (i + 1) (by omega) _ a (by rw [ey, nI_1]) (lt_s (fun j hj => ?_) ?_)
    · rw [ea, ly_un (by omega) (by omega)]; exact h1 j hj
    · rw [ea, ly_us (by omega) rfl, ly_rd hB (by omega) hn]
theorem ls_front {post : SY → Prop} (hK : K ≤ 16) (hn : n ≤ 24) (hb : ∀ j, j < n → b j < K) (hB : ∀ j, j < n → B j = nI (b j)) (hp : ∀ B Tm, (∀ j, j < n → B j = nI (ly_F b K j)) → post (nI K, nI C, nI n, nI m, B, Cd, Tm, Sa, Ea)) : wpY_front post (nI K, nI C, nI n, nI m, B, Cd, Tm, Sa, Ea) :=
  ⟨_, ls_fr2 hK hn hb hB hp n 0 (by omega) _ Tm rfl (fun q h => absurd h (Nat.not_lt_zero q))⟩
theorem ls_un14 {post : SY → Prop} {J : Int32 → (Nat → Int32) → (Nat → Int32) → (Nat → Int32) → (Nat → Int32) → (Nat → Int32) → Prop} {i : Nat} (hK : K ≤ 16) (hn : n ≤ 24) (hb : ∀ j, j < n → b j < K) (hB : ∀ j, j < n → B j = nI (b j)) (hD : ly_isD b K n D) (hi : i < n) (hT : ∀ j, j < i → Tm j = nI (D j)) (hJ : ∀ Tm', Tm' = upd Tm i (nI (D i)) → J (nI (i + 1)) B Cd Tm' Sa Ea) : ∀ d s, s + d = K → ∀ x2 x3, x2 = nI (if D i < s then D i else 0) → x3 = nI s → wY_unfront_14 post J (nI i) (nI K) (nI C) (nI n) (nI m) B Cd Tm Sa Ea (d + 1) x2 x3 := by
  have hDi := hD i hi
  have hbi := hb i hi
  intro d
  induction d with
  | zero =>
    rintro s hs x2 x3 rfl rfl
    obtain rfl : s = K := by omega
    refine pk_le s s (fun _ => And.intro (ly_in (by omega)) ?_) (fun h => by omega)
    intro a ea
    refine nm_r (nI_1 i) (hJ a ?_)
    rw [ea, ly_cl (by omega), if_pos hDi.1]
  | succ d ih =>
    rintro s hs x2 x3 rfl rfl
    have hps := ly_pl_lt (t := D) (i := i) (x := s) (K := K) (by omega)
    refine pk_le K s (fun h => by omega) (fun _ => ls_pl (t := D) hK (by omega) (by omega) (fun j hj => by have := (hD j (by omega)).1; omega) hT ?_)
    refine And.intro (ly_in (by omega)) ?_
    refine pk_eq (ly_pl D K i s) (b i) (fun e => ?_) (fun e => ?_) rfl (ly_rd hB hi hn)
    · have es : s = D i := ly_pl_inj (by omega) hDi.1 (e.trans hDi.2.symm)
      intro y ey
      refine ih (s + 1) (by omega) _ _ ?_ (by rw [ey, nI_1])
      rw [if_pos (by omega), es]
    · have es : s ≠ D i := fun z => e (by rw [z]; exact hDi.2)
      intro y ey
      refine ih (s + 1) (by omega) _ _ ?_ (by rw [ey, nI_1])
      by_cases z : D i < s
      · rw [if_pos z, if_pos (by omega)]
      · rw [if_neg z, if_neg (by omega)]
theorem ls_un2 {post : SY → Prop} (hK : K ≤ 16) (hn : n ≤ 24) (hb : ∀ j, j < n → b j < K) (hB : ∀ j, j < n → B j = nI (b j)) (hD : ly_isD b K n D) (hp : ∀ B Tm, (∀ j, j < n → B j = nI (D j)) → post (nI K, nI C, nI n, nI m, B, Cd, Tm, Sa, Ea)) : ∀ d i, i + d = n → ∀ x1 Tm, x1 = nI i → (∀ j, j < i → Tm j = nI (D j)) → wY_unfront_2 post (nI K) (nI C) (nI n) (nI m) (d + 1) x1 B Cd Tm Sa Ea := by
  intro d
  induction d with
  | zero =>
    rintro i hi x1 Tm rfl h1
    obtain rfl : i = n := by omega
    refine pk_le i i (fun _ => ls_take hn (fun B' hB' => ?_)) (fun h => by omega)
    exact hp B' Tm (fun j hj => (hB' j hj).trans (h1 j hj))
  | succ d ih =>
    rintro i hi x1 Tm rfl h1
    refine pk_le n i (fun h => by omega) (fun _ => ?_)
    refine ⟨_, ls_un14 hK hn hb hB hD (by omega) h1 (fun Tm' e' => ?_) K 0 (by omega) _ _ rfl rfl⟩
    refine ih (i + 1) (by omega) _ Tm' rfl (lt_s (fun j hj => ?_) ?_)
    · rw [e', pk_un (by omega)]; exact h1 j hj
    · rw [e', pk_us]
theorem ls_unfront {post : SY → Prop} (hK : K ≤ 16) (hn : n ≤ 24) (hb : ∀ j, j < n → b j < K) (hB : ∀ j, j < n → B j = nI (b j)) (hD : ly_isD b K n D) (hp : ∀ B Tm, (∀ j, j < n → B j = nI (D j)) → post (nI K, nI C, nI n, nI m, B, Cd, Tm, Sa, Ea)) : wpY_unfront post (nI K, nI C, nI n, nI m, B, Cd, Tm, Sa, Ea) :=
  ⟨_, ls_un2 hK hn hb hB hD hp n 0 (by omega) _ Tm rfl (fun q h => absurd h (Nat.not_lt_zero q))⟩
end
end
section
/-! the reference: pack and unpack -/
section
variable {K C n m : Nat} {b c : Nat → Nat} {B Cd Tm Sa Ea : Nat → Int32}
theorem ls_val_loop {post : Int32 → Prop} {f l : Nat} (hf : f + l ≤ 24) (hCd : ∀ j, f ≤ j → j < f + l → Cd j = nI (c j)) (hp : post (nI (ly_val c f l))) : ∀ d k, k + d = l → ∀ x3 x4 x5, x3 = nI (ly_val c f k) → x4 = nI (2 ^ k) → x5 = nI (f + k) → wY_value_8 post (nI (f + l)) (nI K) (nI C) (nI n) (nI m) B Cd Tm Sa Ea (d + 1) x3 x4 x5 := by
  intro d
  induction d with
  | zero =>
    rintro k hk x3 x4 x5 rfl rfl rfl
    obtain rfl : k = l := by omega
    exact pk_le (f + k) (f + k) (fun _ => hp) (fun h => by omega)
  | succ d ih =>
    rintro k hk x3 x4 x5 rfl rfl rfl
    refine pk_le (f + l) (f + k) (fun h => by omega) (fun _ => And.intro (ly_in (by omega)) ?_)
    intro y3 e3 y4 e4 y5 e5
    refine ih (k + 1) (by omega) _ _ _ ?_ ?_ (by rw [e5, nI_1]; rfl)
    · rw [e3, ly_cl (by omega), hCd _ (by omega) (by omega), nI_1, pk_mul, nI_add, ly_val_s]
    · rw [e4, ly_mul2, Nat.pow_succ]
theorem ls_val {post : Int32 → Prop} {f l : Nat} (hf : f + l ≤ 24) (hCd : ∀ j, f ≤ j → j < f + l → Cd j = nI (c j)) (hp : post (nI (ly_val c f l))) : wpY_value post (nI K, nI C, nI n, nI m, B, Cd, Tm, Sa, Ea) (nI f) (nI (f + l)) :=
  ⟨_, ls_val_loop hf hCd hp l 0 (by omega) _ _ _ rfl rfl rfl⟩
theorem ly_sc : ∀ d, d < 32 → ((nI d &&& 31).toBitVec.smod 32).toNat = d := by decide
theorem ly_shr {q d : Nat} (hq : q < 2 ^ 31) (hd : d < 32) : (nI q >>> (nI d &&& 31)) &&& 1 = nI (q / 2 ^ d % 2) := by
  rw [pk_shrN hq _ d (ly_sc d hd), pk_andN (Nat.lt_of_le_of_lt (Nat.div_le_self _ _) (by omega)) 1 (by decide)]
theorem ly_shl {l : Nat} (hl : l < 31) : (1 : Int32) <<< (nI l &&& 31) = nI (2 ^ l) := by
  have h := pk_shlN (n := 1) (nI l &&& 31) l (ly_sc l (by omega)) (by
    have : 2 ^ l < 2 ^ 31 := Nat.pow_lt_pow_right (by decide) hl
    omega)
  rw [Nat.one_mul] at h
  exact h
theorem ls_num24 {post : SY → Prop} {J2 J14 : Int32 → (Nat → Int32) → (Nat → Int32) → (Nat → Int32) → (Nat → Int32) → (Nat → Int32) → Prop} {z l q : Nat} (hz : z ≤ 30) (hl : l ≤ 4) (hq : q < 2 ^ l) (hm : m + l ≤ 24) (hy : q + 2 ^ l = z + 1 → ∀ Cd, (∀ j, j < m → Cd j = nI (c j)) → (∀ d, d < l → Cd (m + d) = nI (q / 2 ^ d % 2)) → post (nI K, nI C, nI n, nI (m + l), B, Cd, Tm, Sa, Ea)) (hno : ¬ q + 2 ^ l = z + 1 → ∀ Cd, (∀ j, j < m → Cd j = nI (c j)) → J14 (nI (q + 1)) B Cd Tm Sa Ea) : ∀ d k, k + d = l → ∀ x4 Cd, x4 = nI k → (∀ j, j < m → Cd j = nI (c j)) → (∀ d, d < k → Cd (m + d) = nI (q / 2 ^ d % 2)) → wY_appendNumeral_24 post J2 J14 (nI z) (nI l) (nI q) (nI K) (nI C) (nI n) (nI m) (d + 1) x4 B Cd Tm Sa Ea := by
  have h16 : 2 ^ l ≤ 2 ^ 4 := Nat.pow_le_pow_right (by decide) hl
  intro d
  induction d with
  | zero =>
    rintro k hk x4 Cd rfl h1 h2
    obtain rfl : k = l := by omega
    refine pk_le k k (fun _ => ?_) (fun h => by omega)
    rw [nI_add m k]
    have hv := ly_val_bits (fun j => q / 2 ^ (j - m) % 2) m q k (fun d _ => by rw [Nat.add_sub_cancel_left])
    rw [Nat.mod_eq_of_lt hq] at hv
    refine ls_val (c := fun j => q / 2 ^ (j - m) % 2) hm (fun j j1 j2 => ?_) ?_
    · have := h2 (j - m) (by omega)
      rw [show m + (j - m) = j from by omega] at this
      exact this
    · refine pk_eq (ly_val (fun j => q / 2 ^ (j - m) % 2) m k) z (fun e => ?_) (fun e => ?_)
      · exact nm_r rfl (hy (by omega) Cd h1 h2)
      · exact nm_r (nI_1 q) (hno (by omega) Cd h1)
  | succ d ih =>
    rintro k hk x4 Cd rfl h1 h2
    refine pk_le l k (fun h => by omega) (fun _ => ?_)
    rw [nI_add m k, ly_shr (by omega) (by omega)]
    refine And.intro (ly_in (by omega)) ?_
    intro a ea y ey
    refine ih (k + 1) (by omega) _ a (by rw [ey, nI_1]) (fun j hj => ?_) (lt_s (fun d hd => ?_) ?_)
    · rw [ea, ly_un (by omega) (by omega)]; exact h1 j hj
    · rw [ea, ly_un (by omega) (by omega)]; exact h2 d hd
    · rw [ea, ly_us (by omega) rfl]
theorem ls_num14 {post : SY → Prop} {J2 : Int32 → (Nat → Int32) → (Nat → Int32) → (Nat → Int32) → (Nat → Int32) → (Nat → Int32) → Prop} {z l : Nat} (hz : z ≤ 30) (hl : l ≤ ly_dl z) (hm : m + l ≤ 24) (hc : ∀ d, d < ly_dl z → c (m + d) = ly_tok z d) (hy : ∀ Cd, (∀ j, j < m + ly_dl z → Cd j = nI (c j)) → post (nI K, nI C, nI n, nI (m + ly_dl z), B, Cd, Tm, Sa, Ea)) (hno : l < ly_dl z → ∀ Cd, (∀ j, j < m → Cd j = nI (c j)) → J2 (nI (l + 1)) B Cd Tm Sa Ea) : ∀ d q, q + d = 2 ^ l → (l = ly_dl z → q + 2 ^ l ≤ z + 1) → ∀ x3 Cd, x3 = nI q → (∀ j, j < m → Cd j = nI (c j)) → wY_appendNumeral_14 post J2 (nI z) (nI l) (nI K) (nI C) (nI n) (nI m) (d + 1) x3 B Cd Tm Sa Ea := by
  have h4 := ly_dl_4 z
  have h5 := ly_dl_p hz
  have h16 : 2 ^ l ≤ 2 ^ 4 := Nat.pow_le_pow_right (by decide) (by omega)
  rw [Nat.pow_succ] at h5
  intro d
  induction d with
  | zero =>
    rintro q hq hle x3 Cd rfl h1
    have hlt : l < ly_dl z := by
      by_cases e : l = ly_dl z
      · have := hle e
        rw [e] at hq this
        omega
      · omega
    refine pk_le (2 ^ l) q (fun _ => ?_) (fun h => by omega) (ly_shl (by omega)) rfl
    exact nm_r (nI_1 l) (hno hlt Cd h1)
  | succ d ih =>
    rintro q hq hle x3 Cd rfl h1
    refine pk_le (2 ^ l) q (fun h => by omega) (fun _ => ?_) (ly_shl (by omega)) rfl
    refine ⟨_, ls_num24 (c := c) hz (by omega) (by omega) hm (fun e Cd' g1 g2 => ?_) (fun e Cd' g1 => ?_) l 0 (by omega) _ Cd rfl h1 (fun d hd => absurd hd (Nat.not_lt_zero d))⟩
    · have hll : l = ly_dl z := by
        by_cases e2 : l = ly_dl z
        · exact e2
        · have : 2 ^ (l + 1) ≤ 2 ^ ly_dl z := Nat.pow_le_pow_right (by decide) (by omega)
          rw [Nat.pow_succ] at this
          omega
      rw [hll]
      refine hy Cd' (fun j hj => ?_)
      by_cases c1 : j < m
      · exact g1 j c1
      · have e3 := g2 (j - m) (by omega)
        have e4 := hc (j - m) (by omega)
        rw [show m + (j - m) = j from by omega] at e3 e4
        rw [e3, e4, ly_tok_bits (l := l) (bits := q) (by omega) (by omega)]
    · exact ih (q + 1) (by omega) (fun e2 => by have := hle e2; omega) _ Cd' rfl g1
theorem ls_num {post : SY → Prop} {z : Nat} (hz0 : 1 ≤ z) (hz : z ≤ 30) (hm : m + ly_dl z ≤ 24) (hc : ∀ d, d < ly_dl z → c (m + d) = ly_tok z d) (h1 : ∀ j, j < m → Cd j = nI (c j)) (hp : ∀ Cd, (∀ j, j < m + ly_dl z → Cd j = nI (c j)) → post (nI K, nI C, nI n, nI (m + ly_dl z), B, Cd, Tm, Sa, Ea)) : wpY_appendNumeral post (nI K, nI C, nI n, nI m, B, Cd, Tm, Sa, Ea) (nI z) := by
  have h4 := ly_dl_4 z
  have h3 := ly_dl_le z
  have h5 := ly_dl_p hz
  have hpos : 1 ≤ ly_dl z := by rw [ly_dl_s hz0 hz]; omega
  have L : ∀ d l, l + d = ly_dl z → 1 ≤ l → ∀ x2 Cd, x2 = nI l → (∀ j, j < m → Cd j = nI (c j)) → wY_appendNumeral_2 post (nI z) (nI K) (nI C) (nI n) (nI m) (d + 1) x2 B Cd Tm Sa Ea := by
    intro d
    induction d with
    | zero =>
      rintro l hl hl1 x2 Cd rfl g1
      refine pk_lt z l (fun h => by omega) (fun _ => pk_lt 4 l (fun h => by omega) (fun _ => ?_))
      refine ⟨_, ls_num14 hz (by omega) (by omega) hc hp (fun h => by omega) (2 ^ l) 0 (by omega) (fun e => ?_) _ Cd rfl g1⟩
      rw [e]; omega
    | succ d ih =>
      rintro l hl hl1 x2 Cd rfl g1
      refine pk_lt z l (fun h => by omega) (fun _ => pk_lt 4 l (fun h => by omega) (fun _ => ?_))
      exact ⟨_, ls_num14 hz (by omega) (by omega) hc hp (fun h Cd' g => ih (l + 1) (by omega) (by omega) _ Cd' rfl g) (2 ^ l) 0 (by omega) (fun e => by omega) _ Cd rfl g1⟩
  exact ⟨_, L (ly_dl z - 1) 1 (by omega) (by omega) _ Cd rfl h1⟩
/-- the tokens that the reference has written when it has read i symbols -/
def ly_Ym (b : Nat → Nat) (n i : Nat) : Nat := if i < n ∧ b i = 0 then ly_M b i else ly_M b i + ly_dl (ly_zr b i)
theorem ls_pk79 {post : Int32 → SY → Prop} {J : Int32 → Int32 → Int32 → Int32 → Int32 → (Nat → Int32) → (Nat → Int32) → (Nat → Int32) → (Nat → Int32) → (Nat → Int32) → Prop} {i : Nat} (hn : n ≤ 24) (hb : ∀ j, j < n → b j < 16) (hB : ∀ j, j < n → B j = nI (b j)) (hi : i < n) (hend : wpY_appendNumeral (fun u => match u with | (k1, k2, k3, k4, k5, k6, k7, k8, k9) => ∀ y : Int32, y = nI i + 1 → J y k1 k2 k3 k4 k5 k6 k7 k8 k9) (nI K, nI C, nI n, nI m, B, Cd, Tm, Sa, Ea) (nI (ly_zr b (i + 1)))) : ∀ q, q ≤ i + 1 → ∀ x2 x3 w, w + ly_zr b q = ly_zr b (i + 1) → x2 = nI w → x3 = nI q - 1 → wY_pack_79 post J (nI i) (nI K) (nI C) (nI n) (nI m) B Cd Tm Sa Ea (q + 1) x2 x3 := by
  intro q
  induction q with
  | zero =>
    rintro hq x2 x3 w hw rfl rfl
    obtain rfl : w = ly_zr b (i + 1) := hw
    exact br_t ly_0m1 hend
  | succ q ih =>
    rintro hq x2 x3 w hw rfl rfl
    have hbq := hb q (by omega)
    rw [ly_s1 (b := q) rfl]
    refine br_f (nI_pos (by omega)) (And.intro (ly_in (by omega)) ?_)
    refine pk_eq (b q) 0 (fun e => ?_) (fun e => ?_) (ly_rd hB (by omega) hn) rfl
    · rw [ly_zr_t e] at hw
      intro y2 e2 y3 e3
      exact ih (by omega) _ _ (w + 1) (by omega) (by rw [e2, nI_1]) (by rw [e3, ly_m1s])
    · rw [ly_zr_f e] at hw
      obtain rfl : w = ly_zr b (i + 1) := hw
      exact hend
theorem ls_pack_loop {post : Int32 → SY → Prop} (hn : n ≤ 24) (hb : ∀ j, j < n → b j < 16) (hB : ∀ j, j < n → B j = nI (b j)) (hp : ∀ Cd, (∀ j, j < ly_M b n + ly_dl (ly_zr b n) → Cd j = nI (ly_C b n j)) → post (nI (ly_M b n + ly_dl (ly_zr b n))) (nI K, nI C, nI n, nI (ly_M b n + ly_dl (ly_zr b n)), B, Cd, Tm, Sa, Ea)) : ∀ d i, i + d = n → ∀ x1 m Cd, x1 = nI i → m = ly_Ym b n i → (∀ j, j < m → Cd j = nI (ly_C b n j)) → wY_pack_7 post (d + 1) x1 (nI K) (nI C) (nI n) (nI m) B Cd Tm Sa Ea := by
  intro d
  induction d with
  | zero =>
    rintro i hi x1 m Cd rfl rfl h1
    obtain rfl : i = n := by omega
    have e : ly_Ym b i i = ly_M b i + ly_dl (ly_zr b i) := if_neg (by omega)
    rw [e] at h1 ⊢
    exact pk_le i i (fun _ => hp Cd h1) (fun h => by omega)
  | succ d ih =>
    rintro i hi x1 m Cd rfl rfl h1
    have hin : i < n := by omega
    have hbi := hb i hin
    have h2 := ly_M_le b i
    have h3 := ly_dl_le (ly_zr b i)
    have h4 := ly_M_le b (i + 1)
    have h5 := ly_dl_le (ly_zr b (i + 1))
    refine pk_le n i (fun h => by omega) (fun _ => And.intro (ly_in (by omega)) ?_)
    refine pk_eq (b i) 0 (fun e => ?_) (fun e => ?_) (ly_rd hB hin hn) rfl
    · have em : ly_Ym b n i = ly_M b i := if_pos ⟨hin, e⟩
      have eM := ly_M_t e
      have ez := ly_zr_t e
      rw [em] at h1 ⊢
      have fin : (¬ (i + 1 < n ∧ b (i + 1) = 0)) → ∃ n79 : Nat, wY_pack_79 post (wY_pack_7 post (d + 1)) (nI i) (nI K) (nI C) (nI n) (nI (ly_M b i)) B Cd Tm Sa Ea n79 0 (nI i) := by
        intro hz
        have em1 : ly_Ym b n (i + 1) = ly_M b i + ly_dl (ly_zr b (i + 1)) := by
          unfold ly_Ym
          rw [if_neg hz, eM]
        refine ⟨_, ls_pk79 hn hb hB hin ?_ (i + 1) (Nat.le_refl _) _ _ 0 (Nat.zero_add _) rfl (ly_s1 rfl).symm⟩
        refine ls_num (c := ly_C b n) (by omega) (by omega) (by omega) (fun d hd => ?_) h1 (fun Cd' g => ?_)
        · rw [← eM]
          by_cases cn : i + 1 < n
          · exact ly_C_dig cn (fun z => hz ⟨cn, z⟩) hd
          · obtain rfl : n = i + 1 := by omega
            exact ly_C_end
        · intro y ey
          exact ih (i + 1) (by omega) _ _ Cd' (by rw [ey, nI_1]) em1.symm g
      rw [nI_1 i]
      refine pk_eq (i + 1) n (fun en => fin (by omega)) (fun en => And.intro (ly_in (by omega)) ?_)
      refine pk_eq (b (i + 1)) 0 (fun e1 => ?_) (fun e1 => fin (fun z => e1 z.2)) (ly_rd hB (by omega) hn) rfl (by have := hb (i + 1) (by omega); omega)
      have em1 : ly_Ym b n (i + 1) = ly_M b i := by
        unfold ly_Ym
        rw [if_pos ⟨by omega, e1⟩, eM]
      intro y ey
      exact ih (i + 1) (by omega) _ _ Cd ey em1.symm h1
    · have em : ly_Ym b n i = ly_M b i + ly_dl (ly_zr b i) := if_neg (fun z => e z.2)
      have eM := ly_M_f e
      have ez := ly_zr_f e
      have em1 : ly_Ym b n (i + 1) = ly_M b i + ly_dl (ly_zr b i) + 1 := by
        unfold ly_Ym
        rw [eM, ez]
        split <;> rfl
      rw [em] at h1 ⊢
      refine And.intro (ly_in (by omega)) (And.intro (ly_in (by omega)) ?_)
      rw [ly_rd hB hin hn]
      intro a ea y ey y2 ey2
      have ey' : y = nI (ly_M b i + ly_dl (ly_zr b i) + 1) := by rw [ey, nI_1]
      subst ey'
      refine ih (i + 1) (by omega) _ _ a (by rw [ey2, nI_1]) em1.symm (lt_s (fun j hj => ?_) ?_)
      · rw [ea, ly_un (by omega) (by omega)]; exact h1 j hj
      · rw [ea, ly_us (by omega) rfl, nI_1, ly_C_sym hin e]
theorem ls_pack {post : Int32 → SY → Prop} (hn : n ≤ 24) (hb : ∀ j, j < n → b j < 16) (hB : ∀ j, j < n → B j = nI (b j)) (hp : ∀ Cd, (∀ j, j < ly_M b n + ly_dl (ly_zr b n) → Cd j = nI (ly_C b n j)) → post (nI (ly_M b n + ly_dl (ly_zr b n))) (nI K, nI C, nI n, nI (ly_M b n + ly_dl (ly_zr b n)), B, Cd, Tm, Sa, Ea)) : wpY_pack post (nI K, nI C, nI n, nI m, B, Cd, Tm, Sa, Ea) := by
  have e : ly_Ym b n 0 = 0 := by
    unfold ly_Ym
    split <;> rfl
  exact ⟨_, ls_pack_loop hn hb hB hp n 0 (by omega) _ 0 Cd rfl e.symm (fun q h => absurd h (Nat.not_lt_zero q))⟩
end
end
section
/-! the reference: unpack -/
section
variable {K C n m : Nat} {b c : Nat → Nat} {B Cd Tm Sa Ea : Nat → Int32}
theorem ls_se40 {post : Int32 → Prop} {i : Nat} (hm : m ≤ 24) (hc : ∀ j, j < m → c j ≤ 16) (hCd : ∀ j, j < m → Cd j = nI (c j)) (hi : i < m) (hp : post (nI (ly_val c (ly_rs c i) (i + 1 - ly_rs c i)))) : ∀ q, q ≤ i → ly_rs c q = ly_rs c i → ∀ x2 x3, x2 = nI q → x3 = nI q - 1 → wY_symbolsEndingAt_40 post (nI i) (nI K) (nI C) (nI n) (nI m) B Cd Tm Sa Ea (q + 1) x2 x3 := by
  have hr := ly_rs_le c i
  have fin : wY_symbolsEndingAt_62 post (nI i) (nI (ly_rs c i)) (nI K) (nI C) (nI n) (nI m) B Cd Tm Sa Ea := by
    have h := ls_val (K := K) (C := C) (n := n) (m := m) (B := B) (Tm := Tm) (Sa := Sa) (Ea := Ea) (post := post) (f := ly_rs c i) (l := i + 1 - ly_rs c i) (by omega) (fun j _ j2 => hCd j (by omega)) hp
    rw [show ly_rs c i + (i + 1 - ly_rs c i) = i + 1 from by omega, ← nI_1] at h
    exact h
  intro q
  induction q with
  | zero =>
    rintro hq hrs x2 x3 rfl rfl
    have e : ly_rs c i = 0 := hrs.symm
    rw [e] at fin
    exact br_t ly_0m1 fin
  | succ q ih =>
    rintro hq hrs x2 x3 rfl rfl
    have hcq := hc q (by omega)
    rw [ly_s1 (b := q) rfl]
    refine br_f (nI_pos (by omega)) (And.intro (ly_in (by omega)) ?_)
    refine pk_le 2 (c q) (fun h => ?_) (fun h => ?_) rfl (ly_rd hCd (by omega) hm)
    · rw [ly_rs_t h] at hrs
      rw [← hrs] at fin
      exact fin
    · rw [ly_rs_f (by omega)] at hrs
      intro y ey
      exact ih (by omega) hrs _ _ rfl (by rw [ey, ly_m1s])
theorem ls_se {post : Int32 → Prop} {i : Nat} (hm : m ≤ 24) (hc : ∀ j, j < m → c j ≤ 16) (hCd : ∀ j, j < m → Cd j = nI (c j)) (hi : i < m) (hp : post (nI (ly_ye c m i))) : wpY_symbolsEndingAt post (nI K, nI C, nI n, nI m, B, Cd, Tm, Sa, Ea) (nI i) := by
  have hci := hc i hi
  refine And.intro (ly_in (by omega)) ?_
  refine pk_lt (c i) 2 (fun h => ?_) (fun h => ?_) (ly_rd hCd hi hm) rfl
  · have fin : (¬ (i + 1 < m ∧ c (i + 1) < 2)) → ∃ n40 : Nat, wY_symbolsEndingAt_40 post (nI i) (nI K) (nI C) (nI n) (nI m) B Cd Tm Sa Ea n40 (nI i) (nI i) := by
      intro hz
      have e : ly_ye c m i = ly_val c (ly_rs c i) (i + 1 - ly_rs c i) := by
        unfold ly_ye
        rw [if_neg (by omega), if_neg hz]
      rw [e] at hp
      refine ⟨i + 1 + 1, br_f (nI_pos (by omega)) (And.intro (ly_in (by omega)) ?_)⟩
      refine pk_le 2 (c i) (fun h => by omega) (fun _ => ?_) rfl (ly_rd hCd hi hm)
      intro y ey
      exact ls_se40 hm hc hCd hi hp i (Nat.le_refl i) rfl _ _ rfl (by rw [ey, ly_m1s])
    rw [nI_1 i]
    refine pk_le m (i + 1) (fun h1 => fin (by omega)) (fun h1 => And.intro (ly_in (by omega)) ?_)
    refine pk_le 2 (c (i + 1)) (fun h2 => fin (by omega)) (fun h2 => ?_) rfl (ly_rd hCd (by omega) hm) (by omega) (by have := hc (i + 1) (by omega); omega)
    have e : ly_ye c m i = 0 := by
      unfold ly_ye
      rw [if_neg (by omega), if_pos ⟨by omega, by omega⟩]
    rw [e] at hp
    exact hp
  · have e : ly_ye c m i = 1 := if_pos h
    rw [e] at hp
    exact hp
theorem ly_Yd_le (c : Nat → Nat) (m i : Nat) : ly_Yd c m i ≤ ly_D c i := by
  unfold ly_Yd
  split
  · exact ly_D_mono c (ly_rs_le c i)
  · exact Nat.le_refl _
theorem ly_S_Y {i k : Nat} (hi : i < m) (hk : k < ly_ye c m i) : ly_S c m (ly_Yd c m i + k) = if 2 ≤ c i then c i - 1 else 0 := by
  have h1 := ly_Yd_s (c := c) hi
  by_cases h : 2 ≤ c i
  · have e : ly_ye c m i = 1 := if_pos h
    have e2 : ly_Yd c m i = ly_D c i := if_neg (by omega)
    obtain rfl : k = 0 := by omega
    rw [if_pos h, e2, Nat.add_zero, ly_S_sym hi h]
  · have e2 : ly_Yd c m i = ly_D c (ly_rs c i) := if_pos ⟨hi, by omega⟩
    have h2 := ly_Yd_le c m (i + 1)
    rw [if_neg h]
    exact ly_S_run i hi h (by omega) (by omega)
theorem ls_un61 {post : Int32 → SY → Prop} {J : Int32 → Int32 → (Nat → Int32) → (Nat → Int32) → (Nat → Int32) → (Nat → Int32) → (Nat → Int32) → Prop} {i : Nat} {x1 : Int32} (hm : m ≤ 24) (hd : ly_D c m ≤ 24) (hc : ∀ j, j < m → c j ≤ 16) (hCd : ∀ j, j < m → Cd j = nI (c j)) (hi : i < m) (hJ : ∀ B, (∀ j, j < ly_Yd c m (i + 1) → B j = nI (ly_S c m j)) → J (nI (i + 1)) (nI (ly_Yd c m (i + 1))) B Cd Tm Sa Ea) : ∀ d k, k + d = ly_ye c m i → ∀ x4 fn B, x4 = nI k → fn = nI (ly_Yd c m i + k) → (∀ j, j < ly_Yd c m i + k → B j = nI (ly_S c m j)) → wY_unpack_61 post J x1 (nI i) (nI (ly_ye c m i)) (nI K) (nI C) (nI m) (d + 1) x4 fn B Cd Tm Sa Ea := by
  have h1 := ly_Yd_s (c := c) hi
  have h2 := ly_Yd_le c m (i + 1)
  have h3 := ly_D_mono c (i := i + 1) (j := m) (by omega)
  have hci := hc i hi
  intro d
  induction d with
  | zero =>
    rintro k hk x4 fn B rfl rfl g1
    obtain rfl : k = ly_ye c m i := by omega
    rw [← h1] at g1 ⊢
    refine pk_le (ly_ye c m i) (ly_ye c m i) (fun _ => nm_r (nI_1 i) (hJ B g1)) (fun h => by omega)
  | succ d ih =>
    rintro k hk x4 fn B rfl rfl g1
    have hS := ly_S_Y (c := c) hi (k := k) (by omega)
    have nxt : ∀ z0 : Int32, z0 = nI (ly_S c m (ly_Yd c m i + k)) → wY_unpack_97 post J (wY_unpack_61 post J x1 (nI i) (nI (ly_ye c m i)) (nI K) (nI C) (nI m) (d + 1)) x1 (nI i) (nI (ly_ye c m i)) (nI k) z0 (nI (ly_Yd c m i + k)) (nI K) (nI C) (nI (ly_Yd c m i + k)) (nI m) B Cd Tm Sa Ea := by
      intro z0 ez
      refine And.intro (ly_in (by omega)) ?_
      intro a ea y ey y4 e4
      refine ih (k + 1) (by omega) _ _ a (by rw [e4, nI_1]) (by rw [ey, nI_1]; rfl) (fun j hj => ?_)
      by_cases z : j = ly_Yd c m i + k
      · rw [ea, ly_us (by omega) z, ez, z]
      · rw [ea, ly_un (by omega) z]; exact g1 j (by omega)
    refine pk_le (ly_ye c m i) k (fun h => by omega) (fun _ => And.intro (ly_in (by omega)) ?_)
    rw [ly_rd hCd hi hm]
    refine pk_lt (c i) 2 (fun h => nxt _ ?_) (fun h => And.intro (ly_in (by omega)) (nxt _ ?_))
    · rw [hS, if_neg (by omega)]; rfl
    · rw [hS, if_pos h]; exact ly_s1 (by omega)
theorem ls_un44 {post : Int32 → SY → Prop} {x1 : Int32} (hm : m ≤ 24) (hd : ly_D c m ≤ 24) (hc : ∀ j, j < m → c j ≤ 16) (hCd : ∀ j, j < m → Cd j = nI (c j)) (hp : ∀ B, (∀ j, j < ly_D c m → B j = nI (ly_S c m j)) → post x1 (nI K, nI C, nI (ly_D c m), nI m, B, Cd, Tm, Sa, Ea)) : ∀ d i, i + d = m → ∀ x2 fn B, x2 = nI i → fn = nI (ly_Yd c m i) → (∀ j, j < ly_Yd c m i → B j = nI (ly_S c m j)) → wY_unpack_44 post x1 (nI K) (nI C) (nI m) (d + 1) x2 fn B Cd Tm Sa Ea := by
  intro d
  induction d with
  | zero =>
    rintro i hi x2 fn B rfl rfl g1
    obtain rfl : i = m := by omega
    rw [ly_Yd_m] at g1 ⊢
    exact pk_le i i (fun _ => hp B g1) (fun h => by omega)
  | succ d ih =>
    rintro i hi x2 fn B rfl rfl g1
    refine pk_le m i (fun h => by omega) (fun _ => ls_se hm hc hCd (by omega) ?_)
    exact ⟨_, ls_un61 hm hd hc hCd (by omega) (fun B' g => ih (i + 1) (by omega) _ _ B' rfl rfl g) (ly_ye c m i) 0 (by omega) _ _ B rfl rfl g1⟩
theorem ls_un4 {post : Int32 → SY → Prop} (hC : C ≤ 24) (hm : m ≤ 24) (hc : ∀ j, j < m → c j ≤ 16) (hCd : ∀ j, j < m → Cd j = nI (c j)) (hy : ly_D c m ≤ C → ∀ B, (∀ j, j < ly_D c m → B j = nI (ly_S c m j)) → post (nI (ly_D c m)) (nI K, nI C, nI (ly_D c m), nI m, B, Cd, Tm, Sa, Ea)) (hno : C < ly_D c m → post (-4) (nI K, nI C, nI n, nI m, B, Cd, Tm, Sa, Ea)) : ∀ d i, i + d = m → ∀ x1 x2, x1 = nI (ly_Yd c m i) → x2 = nI i → wY_unpack_4 post (nI K) (nI C) (nI n) (nI m) B Cd Tm Sa Ea (d + 1) x1 x2 := by
  have hbig := ly_D_31 (c := c) (i := m) hm
  intro d
  induction d with
  | zero =>
    rintro i hi x1 x2 rfl rfl
    obtain rfl : i = m := by omega
    rw [ly_Yd_m]
    refine pk_le i i (fun _ => pk_le (ly_D c i) C (fun h => ?_) (fun h => hno h)) (fun h => by omega)
    refine ⟨_, ls_un44 hm (by omega) hc hCd (hy h) i 0 (by omega) _ _ B rfl ?_ (fun j hj => ?_)⟩
    · rw [ly_Yd_0]; rfl
    · rw [ly_Yd_0] at hj; exact absurd hj (Nat.not_lt_zero j)
  | succ d ih =>
    rintro i hi x1 x2 rfl rfl
    refine pk_le m i (fun h => by omega) (fun _ => ls_se hm hc hCd (by omega) ?_)
    intro y1 e1 y2 e2
    refine ih (i + 1) (by omega) _ _ ?_ (by rw [e2, nI_1])
    rw [e1, nI_add, ly_Yd_s (by omega)]
theorem ls_unpack {post : Int32 → SY → Prop} (hC : C ≤ 24) (hm : m ≤ C) (hc : ∀ j, j < m → c j ≤ 16) (hCd : ∀ j, j < m → Cd j = nI (c j)) (hy : ly_D c m ≤ C → ∀ B, (∀ j, j < ly_D c m → B j = nI (ly_S c m j)) → post (nI (ly_D c m)) (nI K, nI C, nI (ly_D c m), nI m, B, Cd, Tm, Sa, Ea)) (hno : C < ly_D c m → post (-4) (nI K, nI C, nI n, nI m, B, Cd, Tm, Sa, Ea)) : wpY_unpack post (nI K, nI C, nI n, nI m, B, Cd, Tm, Sa, Ea) := by
  refine ⟨_, ls_un4 hC (by omega) hc hCd hy hno m 0 (by omega) _ _ ?_ rfl⟩
  rw [ly_Yd_0]; rfl
end
end
section
/-! the relation, and what is owed -/
section
/-- both sides hold the same K, C, block and code -/
def ly_Num (K C n m : Nat) (b c : Nat → Nat) : Prop := 2 ≤ K ∧ K ≤ 16 ∧ 8 ≤ C ∧ C ≤ 24 ∧ n ≤ C ∧ m ≤ C ∧ (∀ j, j < n → b j < K) ∧ (∀ j, j < m → c j ≤ K)
def ly_XS (K C n m : Nat) (b c : Nat → Nat) (u : SX) : Prop := match u with
  | (f1, f2, f3, f4, B, Cd, _, _, _, _, _, _, _, _) => f1 = nI K ∧ f2 = nI C ∧ f3 = nI n ∧ f4 = nI m ∧ (∀ j, j < n → B j = nI (b j)) ∧ (∀ j, j < m → Cd j = nI (c j))
def ly_YS (K C n m : Nat) (b c : Nat → Nat) (v : SY) : Prop := match v with
  | (f1, f2, f3, f4, B, Cd, _, _, _) => f1 = nI K ∧ f2 = nI C ∧ f3 = nI n ∧ f4 = nI m ∧ (∀ j, j < n → B j = nI (b j)) ∧ (∀ j, j < m → Cd j = nI (c j))
def i_Rel (k : Nat) (u : SX) (v : SY) : Prop := ∃ (K C n m : Nat) (b c : Nat → Nat), ly_Num K C n m b c ∧ ly_XS K C n m b c u ∧ ly_YS K C n m b c v
theorem i_up {k : Nat} {u : SX} {v : SY} (h : i_Rel k u v) : i_Rel (k + 2) u v := h
theorem ly_clampX (x : Int32) (lo hi : Nat) (h : lo ≤ hi) (hh : hi < 2 ^ 31) : ∃ q : Nat, lo ≤ q ∧ q ≤ hi ∧ (∀ post : Int32 → Prop, post (nI q) → (nI lo ≤ x → ((x ≤ nI hi → post x) ∧ (¬ x ≤ nI hi → post (nI hi)))) ∧ (¬ nI lo ≤ x → post (nI lo))) := by
  by_cases c1 : nI lo ≤ x
  · obtain ⟨j, hj, rfl⟩ := nI_of (x := x) (fun z => by
      have h2 := Int32.le_iff_toInt_le.1 c1
      have h3 := Int32.lt_iff_toInt_lt.1 z
      rw [nI_toInt (by omega)] at h2
      have h4 : (0 : Int32).toInt = 0 := by decide
      omega)
    rw [nI_leI (by omega) hj] at c1
    by_cases c2 : j ≤ hi
    · exact ⟨j, c1, c2, fun post hp => ⟨fun _ => ⟨fun _ => hp, fun z => absurd (nI_le c2 hh) z⟩, fun z => absurd (nI_le c1 hj) z⟩⟩
    · exact ⟨hi, h, Nat.le_refl hi, fun post hp => ⟨fun _ => ⟨fun z => absurd z (nI_ge (by omega) hj), fun _ => hp⟩, fun z => absurd (nI_le c1 hj) z⟩⟩
  · exact ⟨lo, Nat.le_refl lo, h, fun post hp => ⟨fun z => absurd z c1, fun _ => hp⟩⟩
theorem i_vc0 (k0 : Int32) (k1 : Int32) : wpX_init (fun u => wpY_init (fun v => i_Rel 2 u v) k0 k1) k0 k1 := by
  obtain ⟨K, K1, K2, HK⟩ := ly_clampX k0 2 16 (by decide) (by decide)
  obtain ⟨C, C1, C2, HC⟩ := ly_clampX k1 8 24 (by decide) (by decide)
  have XK : ∀ post : Int32 → Prop, post (nI K) → wpX_clamp post k0 2 16 := fun post hp => HK post hp
  have XC : ∀ post : Int32 → Prop, post (nI C) → wpX_clamp post k1 8 24 := fun post hp => HC post hp
  unfold wpX_init
  refine XK _ ?_
  refine XC _ ?_
  have fin : ∀ z0 x : Int32, z0 = nI K → x = nI C → i_Rel 2 (nI K, nI C, 0, 0, (fun _ => 0), (fun _ => 0), (fun _ => 0), (fun _ => 0), (fun _ => 0), (fun _ => 0), (fun _ => 0), (fun _ => 0), (fun _ => 0), (fun _ => 0)) (z0, x, 0, 0, (fun _ => 0), (fun _ => 0), (fun _ => 0), (fun _ => 0), (fun _ => 0)) := by
    rintro z0 x rfl rfl
    exact ⟨K, C, 0, 0, fun _ => 0, fun _ => 0, ⟨K1, K2, C1, C2, Nat.zero_le C, Nat.zero_le C, fun j h => absurd h (Nat.not_lt_zero j), fun j h => absurd h (Nat.not_lt_zero j)⟩, ⟨rfl, rfl, rfl, rfl, fun j h => absurd h (Nat.not_lt_zero j), fun j h => absurd h (Nat.not_lt_zero j)⟩, ⟨rfl, rfl, rfl, rfl, fun j h => absurd h (Nat.not_lt_zero j), fun j h => absurd h (Nat.not_lt_zero j)⟩⟩
  have S2 : ∀ z0 : Int32, z0 = nI K → wY_init_76 (fun v => i_Rel 2 (nI K, nI C, 0, 0, (fun _ => 0), (fun _ => 0), (fun _ => 0), (fun _ => 0), (fun _ => 0), (fun _ => 0), (fun _ => 0), (fun _ => 0), (fun _ => 0), (fun _ => 0)) v) k1 z0 0 0 0 0 (fun _ => 0) (fun _ => 0) (fun _ => 0) (fun _ => 0) (fun _ => 0) := fun z0 ez => HC (fun x => i_Rel 2 (nI K, nI C, 0, 0, (fun _ => 0), (fun _ => 0), (fun _ => 0), (fun _ => 0), (fun _ => 0), (fun _ => 0), (fun _ => 0), (fun _ => 0), (fun _ => 0), (fun _ => 0)) (z0, x, 0, 0, (fun _ => 0), (fun _ => 0), (fun _ => 0), (fun _ => 0), (fun _ => 0))) (fin z0 _ ez rfl)
  exact HK (fun z0 => wY_init_76 (fun v => i_Rel 2 (nI K, nI C, 0, 0, (fun _ => 0), (fun _ => 0), (fun _ => 0), (fun _ => 0), (fun _ => 0), (fun _ => 0), (fun _ => 0), (fun _ => 0), (fun _ => 0), (fun _ => 0)) v) k1 z0 0 0 0 0 (fun _ => 0) (fun _ => 0) (fun _ => 0) (fun _ => 0) (fun _ => 0)) (S2 _ rfl)
theorem i_vc_limit {k : Nat} {u : SX} {v : SY} (I : i_Rel k u v) (hk : k + 2 ≤ 1026) (v1 : Int32) : wpX_limit (fun r => wpY_limit (fun r' => r' = r ∧ i_Rel (k + 2) u v) v v1) u v1 := by
  have I2 := I
  obtain ⟨f1, f2, f3, f4, B, Cd, Fs, Fi, La, Rw, Su, Vi, Nb, Re⟩ := u
  obtain ⟨g1, g2, g3, g4, B', Cd', Tm, Sa, Ea⟩ := v
  obtain ⟨K, C, n, m, b, c, N, ⟨rfl, rfl, rfl, rfl, hB, hCd⟩, ⟨rfl, rfl, rfl, rfl, hB', hCd'⟩⟩ := I
  by_cases c0 : v1 = 0
  · exact br_t c0 (br_t c0 ⟨rfl, I2⟩)
  · by_cases c1 : v1 = 1
    · exact br_f c0 (br_t c1 (br_f c0 (br_t c1 ⟨rfl, I2⟩)))
    · exact br_f c0 (br_f c1 (br_f c0 (br_f c1 ⟨rfl, I2⟩)))
theorem i_vc_put {k : Nat} {u : SX} {v : SY} (I : i_Rel k u v) (hk : k + 2 ≤ 1026) (v1 : Int32) : wpX_put (fun r u' => wpY_put (fun r' v' => r' = r ∧ i_Rel (k + 2) u' v') v v1) u v1 := by
  have I2 := I
  obtain ⟨f1, f2, f3, f4, B, Cd, Fs, Fi, La, Rw, Su, Vi, Nb, Re⟩ := u
  obtain ⟨g1, g2, g3, g4, B', Cd', Tm, Sa, Ea⟩ := v
  obtain ⟨K, C, n, m, b, c, ⟨K1, K2, C1, C2, hn, hm, hb, hc⟩, ⟨rfl, rfl, rfl, rfl, hB, hCd⟩, ⟨rfl, rfl, rfl, rfl, hB', hCd'⟩⟩ := I
  rcases ly_ix3 v1 (n := K) (by omega) with h | ⟨h, h2⟩ | ⟨s, hs, rfl⟩
  · exact br_t h (br_t h ⟨rfl, I2⟩)
  · exact br_f h (br_f h2 (br_f h (br_f h2 ⟨rfl, I2⟩)))
  · have a1 := nI_pos (n := s) (by omega)
    have a2 := nI_lt hs (by omega)
    by_cases d : n < C
    · have a3 := nI_lt d (by omega)
      refine br_f a1 (br_t a2 (br_t a3 (lx_appSym C2 d (fun B1 e1 => br_f a1 (br_t a2 (br_t a3 (And.intro (ly_in (by omega)) ?_)))))))
      intro B2 e2 y ey
      refine ⟨rfl, K, C, n + 1, m, fun j => if j = n then s else b j, c, ⟨K1, K2, C1, C2, d, hm, fun j hj => ?_, hc⟩, ⟨rfl, rfl, rfl, rfl, fun j hj => ?_, hCd⟩, ⟨rfl, rfl, by rw [ey, nI_1], rfl, fun j hj => ?_, hCd'⟩⟩
      · dsimp only
        by_cases z : j = n
        · rw [if_pos z]; exact hs
        · rw [if_neg z]; exact hb j (by omega)
      · dsimp only
        by_cases z : j = n
        · rw [e1, z, pk_us, if_pos rfl]
        · rw [e1, pk_un z, if_neg z]; exact hB j (by omega)
      · dsimp only
        by_cases z : j = n
        · rw [e2, ly_us (by omega) z, if_pos z]
        · rw [e2, ly_un (by omega) z, if_neg z]; exact hB' j (by omega)
    · have a3 := nI_nlt (a := n) (b := C) (by omega) (by omega)
      exact br_f a1 (br_t a2 (br_f a3 (br_f a1 (br_t a2 (br_f a3 ⟨rfl, I2⟩)))))
theorem i_vc_clear {k : Nat} {u : SX} {v : SY} (I : i_Rel k u v) (hk : k + 2 ≤ 1026) : wpX_clear (fun u' => wpY_clear (fun v' => i_Rel (k + 2) u' v') v) u := by
  obtain ⟨f1, f2, f3, f4, B, Cd, Fs, Fi, La, Rw, Su, Vi, Nb, Re⟩ := u
  obtain ⟨g1, g2, g3, g4, B', Cd', Tm, Sa, Ea⟩ := v
  obtain ⟨K, C, n, m, b, c, ⟨K1, K2, C1, C2, hn, hm, hb, hc⟩, ⟨rfl, rfl, rfl, rfl, hB, hCd⟩, ⟨rfl, rfl, rfl, rfl, hB', hCd'⟩⟩ := I
  exact ⟨K, C, 0, m, b, c, ⟨K1, K2, C1, C2, Nat.zero_le C, hm, fun j h => absurd h (Nat.not_lt_zero j), hc⟩, ⟨rfl, rfl, rfl, rfl, fun j h => absurd h (Nat.not_lt_zero j), hCd⟩, ⟨rfl, rfl, rfl, rfl, fun j h => absurd h (Nat.not_lt_zero j), hCd'⟩⟩
theorem i_vc_length {k : Nat} {u : SX} {v : SY} (I : i_Rel k u v) (hk : k + 2 ≤ 1026) : wpX_length (fun r => wpY_length (fun r' => r' = r ∧ i_Rel (k + 2) u v) v) u := by
  have I2 := I
  obtain ⟨f1, f2, f3, f4, B, Cd, Fs, Fi, La, Rw, Su, Vi, Nb, Re⟩ := u
  obtain ⟨g1, g2, g3, g4, B', Cd', Tm, Sa, Ea⟩ := v
  obtain ⟨K, C, n, m, b, c, N, ⟨rfl, rfl, rfl, rfl, hB, hCd⟩, ⟨rfl, rfl, rfl, rfl, hB', hCd'⟩⟩ := I
  exact ⟨rfl, I2⟩
theorem i_vc_at {k : Nat} {u : SX} {v : SY} (I : i_Rel k u v) (hk : k + 2 ≤ 1026) (v1 : Int32) : wpX_at (fun r => wpY_at (fun r' => r' = r ∧ i_Rel (k + 2) u v) v v1) u v1 := by
  have I2 := I
  obtain ⟨f1, f2, f3, f4, B, Cd, Fs, Fi, La, Rw, Su, Vi, Nb, Re⟩ := u
  obtain ⟨g1, g2, g3, g4, B', Cd', Tm, Sa, Ea⟩ := v
  obtain ⟨K, C, n, m, b, c, ⟨K1, K2, C1, C2, hn, hm, hb, hc⟩, ⟨rfl, rfl, rfl, rfl, hB, hCd⟩, ⟨rfl, rfl, rfl, rfl, hB', hCd'⟩⟩ := I
  rcases ly_ix3 v1 (n := n) (by omega) with h | ⟨h, h2⟩ | ⟨s, hs, rfl⟩
  · exact br_t h (br_t h ⟨rfl, I2⟩)
  · exact br_f h (br_f h2 (br_f h (br_f h2 ⟨rfl, I2⟩)))
  · have a1 := nI_pos (n := s) (by omega)
    have a2 := nI_lt hs (by omega)
    refine br_f a1 (br_t a2 (And.intro (ly_in (by omega)) (br_f a1 (br_t a2 (And.intro (ly_in (by omega)) ⟨?_, I2⟩)))))
    rw [ly_rd hB hs (by omega), ly_rd hB' hs (by omega)]
theorem i_vc_factorStart {k : Nat} {u : SX} {v : SY} (I : i_Rel k u v) (hk : k + 2 ≤ 1026) (v1 : Int32) : wpX_factorStart (fun r u' => wpY_factorStart (fun r' v' => r' = r ∧ i_Rel (k + 2) u' v') v v1) u v1 := by
  obtain ⟨f1, f2, f3, f4, B, Cd, Fs, Fi, La, Rw, Su, Vi, Nb, Re⟩ := u
  obtain ⟨g1, g2, g3, g4, B', Cd', Tm, Sa, Ea⟩ := v
  obtain ⟨K, C, n, m, b, c, ⟨K1, K2, C1, C2, hn, hm, hb, hc⟩, ⟨rfl, rfl, rfl, rfl, hB, hCd⟩, ⟨rfl, rfl, rfl, rfl, hB', hCd'⟩⟩ := I
  have hb16 : ∀ j, j < n → b j < 16 := fun j hj => Nat.lt_of_lt_of_le (hb j hj) K2
  refine lx_factorStart (by omega) hb16 hB (fun r Fs1 Fi1 La1 hr => ls_factorStart (by omega) hb16 hB' (fun r' Sa1 Ea1 hr' => ?_))
  exact ⟨ly_isFS_uniq (by omega) hr hr', K, C, n, m, b, c, ⟨K1, K2, C1, C2, hn, hm, hb, hc⟩, ⟨rfl, rfl, rfl, rfl, hB, hCd⟩, ⟨rfl, rfl, rfl, rfl, hB', hCd'⟩⟩
theorem i_vc_rowAt {k : Nat} {u : SX} {v : SY} (I : i_Rel k u v) (hk : k + 2 ≤ 1026) (v1 : Int32) : wpX_rowAt (fun r u' => wpY_rowAt (fun r' v' => r' = r ∧ i_Rel (k + 2) u' v') v v1) u v1 := by
  obtain ⟨f1, f2, f3, f4, B, Cd, Fs, Fi, La, Rw, Su, Vi, Nb, Re⟩ := u
  obtain ⟨g1, g2, g3, g4, B', Cd', Tm, Sa, Ea⟩ := v
  obtain ⟨K, C, n, m, b, c, ⟨K1, K2, C1, C2, hn, hm, hb, hc⟩, ⟨rfl, rfl, rfl, rfl, hB, hCd⟩, ⟨rfl, rfl, rfl, rfl, hB', hCd'⟩⟩ := I
  have hb16 : ∀ j, j < n → b j < 16 := fun j hj => Nat.lt_of_lt_of_le (hb j hj) K2
  refine lx_rowAt (by omega) hb16 hB (fun r Fs1 Fi1 La1 Rw1 hr => ls_rowAt (by omega) hb16 hB' (fun r' Sa1 Ea1 hr' => ?_))
  exact ⟨ly_isRow_uniq (by omega) hr hr', K, C, n, m, b, c, ⟨K1, K2, C1, C2, hn, hm, hb, hc⟩, ⟨rfl, rfl, rfl, rfl, hB, hCd⟩, ⟨rfl, rfl, rfl, rfl, hB', hCd'⟩⟩
theorem i_vc_transform {k : Nat} {u : SX} {v : SY} (I : i_Rel k u v) (hk : k + 2 ≤ 1026) : wpX_transform (fun r u' => wpY_transform (fun r' v' => r' = r ∧ i_Rel (k + 2) u' v') v) u := by
  obtain ⟨f1, f2, f3, f4, B, Cd, Fs, Fi, La, Rw, Su, Vi, Nb, Re⟩ := u
  obtain ⟨g1, g2, g3, g4, B', Cd', Tm, Sa, Ea⟩ := v
  obtain ⟨K, C, n, m, b, c, ⟨K1, K2, C1, C2, hn, hm, hb, hc⟩, ⟨rfl, rfl, rfl, rfl, hB, hCd⟩, ⟨rfl, rfl, rfl, rfl, hB', hCd'⟩⟩ := I
  have hb16 : ∀ j, j < n → b j < 16 := fun j hj => Nat.lt_of_lt_of_le (hb j hj) K2
  refine lx_transform (by omega) hb16 hB (fun B1 Fs1 Fi1 La1 Rw1 Nb1 h1 => ls_transform (by omega) hb16 hB' (fun B2 Tm2 Sa2 Ea2 h2 => ?_))
  exact ⟨rfl, K, C, n, m, ly_T b n, c, ⟨K1, K2, C1, C2, hn, hm, fun j hj => ly_T_lt hb hj, hc⟩, ⟨rfl, rfl, rfl, rfl, h1, hCd⟩, ⟨rfl, rfl, rfl, rfl, h2, hCd'⟩⟩
theorem i_vc_invert {k : Nat} {u : SX} {v : SY} (I : i_Rel k u v) (hk : k + 2 ≤ 1026) : wpX_invert (fun r u' => wpY_invert (fun r' v' => r' = r ∧ i_Rel (k + 2) u' v') v) u := by
  obtain ⟨f1, f2, f3, f4, B, Cd, Fs, Fi, La, Rw, Su, Vi, Nb, Re⟩ := u
  obtain ⟨g1, g2, g3, g4, B', Cd', Tm, Sa, Ea⟩ := v
  obtain ⟨K, C, n, m, b, c, ⟨K1, K2, C1, C2, hn, hm, hb, hc⟩, ⟨rfl, rfl, rfl, rfl, hB, hCd⟩, ⟨rfl, rfl, rfl, rfl, hB', hCd'⟩⟩ := I
  have hb16 : ∀ j, j < n → b j < 16 := fun j hj => Nat.lt_of_lt_of_le (hb j hj) K2
  obtain ⟨R, hR, hRK⟩ := ly_isR_ex (ly_gp b n) (by omega : 0 < K) hb n (Nat.le_refl n)
  refine lx_invert (by omega) hb16 hB hR (fun B1 Su1 Vi1 Nb1 h1 => ls_invert (by omega) hb16 hB' hR (fun B2 Tm2 h2 => ?_))
  exact ⟨rfl, K, C, n, m, R, c, ⟨K1, K2, C1, C2, hn, hm, fun j _ => hRK j, hc⟩, ⟨rfl, rfl, rfl, rfl, h1, hCd⟩, ⟨rfl, rfl, rfl, rfl, h2, hCd'⟩⟩
theorem i_vc_front {k : Nat} {u : SX} {v : SY} (I : i_Rel k u v) (hk : k + 2 ≤ 1026) : wpX_front (fun u' => wpY_front (fun v' => i_Rel (k + 2) u' v') v) u := by
  obtain ⟨f1, f2, f3, f4, B, Cd, Fs, Fi, La, Rw, Su, Vi, Nb, Re⟩ := u
  obtain ⟨g1, g2, g3, g4, B', Cd', Tm, Sa, Ea⟩ := v
  obtain ⟨K, C, n, m, b, c, ⟨K1, K2, C1, C2, hn, hm, hb, hc⟩, ⟨rfl, rfl, rfl, rfl, hB, hCd⟩, ⟨rfl, rfl, rfl, rfl, hB', hCd'⟩⟩ := I
  refine lx_front K2 (by omega) (by omega) hb hB (fun B1 Re1 h1 => ls_front K2 (by omega) hb hB' (fun B2 Tm2 h2 => ?_))
  exact ⟨K, C, n, m, ly_F b K, c, ⟨K1, K2, C1, C2, hn, hm, fun j hj => ly_pl_lt (hb j hj), hc⟩, ⟨rfl, rfl, rfl, rfl, h1, hCd⟩, ⟨rfl, rfl, rfl, rfl, h2, hCd'⟩⟩
theorem i_vc_unfront {k : Nat} {u : SX} {v : SY} (I : i_Rel k u v) (hk : k + 2 ≤ 1026) : wpX_unfront (fun u' => wpY_unfront (fun v' => i_Rel (k + 2) u' v') v) u := by
  obtain ⟨f1, f2, f3, f4, B, Cd, Fs, Fi, La, Rw, Su, Vi, Nb, Re⟩ := u
  obtain ⟨g1, g2, g3, g4, B', Cd', Tm, Sa, Ea⟩ := v
  obtain ⟨K, C, n, m, b, c, ⟨K1, K2, C1, C2, hn, hm, hb, hc⟩, ⟨rfl, rfl, rfl, rfl, hB, hCd⟩, ⟨rfl, rfl, rfl, rfl, hB', hCd'⟩⟩ := I
  obtain ⟨D, hD⟩ := ly_isD_ex hb n (Nat.le_refl n)
  refine lx_unfront K2 (by omega) hb hB hD (fun B1 Re1 h1 => ls_unfront K2 (by omega) hb hB' hD (fun B2 Tm2 h2 => ?_))
  exact ⟨K, C, n, m, D, c, ⟨K1, K2, C1, C2, hn, hm, fun j hj => (hD j hj).1, hc⟩, ⟨rfl, rfl, rfl, rfl, h1, hCd⟩, ⟨rfl, rfl, rfl, rfl, h2, hCd'⟩⟩
theorem i_vc_pack {k : Nat} {u : SX} {v : SY} (I : i_Rel k u v) (hk : k + 2 ≤ 1026) : wpX_pack (fun r u' => wpY_pack (fun r' v' => r' = r ∧ i_Rel (k + 2) u' v') v) u := by
  obtain ⟨f1, f2, f3, f4, B, Cd, Fs, Fi, La, Rw, Su, Vi, Nb, Re⟩ := u
  obtain ⟨g1, g2, g3, g4, B', Cd', Tm, Sa, Ea⟩ := v
  obtain ⟨K, C, n, m, b, c, ⟨K1, K2, C1, C2, hn, hm, hb, hc⟩, ⟨rfl, rfl, rfl, rfl, hB, hCd⟩, ⟨rfl, rfl, rfl, rfl, hB', hCd'⟩⟩ := I
  have hb16 : ∀ j, j < n → b j < 16 := fun j hj => Nat.lt_of_lt_of_le (hb j hj) K2
  have h1 := ly_M_le b n
  have h2 := ly_dl_le (ly_zr b n)
  refine lx_pack C2 hn hb16 hB (fun Cd1 h1 => ls_pack (by omega) hb16 hB' (fun Cd2 h2 => ?_))
  exact ⟨rfl, K, C, n, ly_M b n + ly_dl (ly_zr b n), b, ly_C b n, ⟨K1, K2, C1, C2, hn, by omega, hb, fun j _ => ly_C_le (by omega) hb j⟩, ⟨rfl, rfl, rfl, rfl, hB, h1⟩, ⟨rfl, rfl, rfl, rfl, hB', h2⟩⟩
theorem i_vc_unpack {k : Nat} {u : SX} {v : SY} (I : i_Rel k u v) (hk : k + 2 ≤ 1026) : wpX_unpack (fun r u' => wpY_unpack (fun r' v' => r' = r ∧ i_Rel (k + 2) u' v') v) u := by
  have I2 := I
  obtain ⟨f1, f2, f3, f4, B, Cd, Fs, Fi, La, Rw, Su, Vi, Nb, Re⟩ := u
  obtain ⟨g1, g2, g3, g4, B', Cd', Tm, Sa, Ea⟩ := v
  obtain ⟨K, C, n, m, b, c, ⟨K1, K2, C1, C2, hn, hm, hb, hc⟩, ⟨rfl, rfl, rfl, rfl, hB, hCd⟩, ⟨rfl, rfl, rfl, rfl, hB', hCd'⟩⟩ := I
  have hc16 : ∀ j, j < m → c j ≤ 16 := fun j hj => Nat.le_trans (hc j hj) K2
  refine lx_unpack C2 hm hc16 hCd (fun hd B1 h1 => ls_unpack C2 hm hc16 hCd' (fun _ B2 h2 => ?_) (fun z => by omega)) (fun hd => ls_unpack C2 hm hc16 hCd' (fun z => by omega) (fun _ => ⟨rfl, I2⟩))
  exact ⟨rfl, K, C, ly_D c m, m, ly_S c m, c, ⟨K1, K2, C1, C2, hd, hm, fun j _ => ly_S_lt (by omega) hc m (Nat.le_refl m) j, hc⟩, ⟨rfl, rfl, rfl, rfl, h1, hCd⟩, ⟨rfl, rfl, rfl, rfl, h2, hCd'⟩⟩
theorem i_vc_putToken {k : Nat} {u : SX} {v : SY} (I : i_Rel k u v) (hk : k + 2 ≤ 1026) (v1 : Int32) : wpX_putToken (fun r u' => wpY_putToken (fun r' v' => r' = r ∧ i_Rel (k + 2) u' v') v v1) u v1 := by
  have I2 := I
  obtain ⟨f1, f2, f3, f4, B, Cd, Fs, Fi, La, Rw, Su, Vi, Nb, Re⟩ := u
  obtain ⟨g1, g2, g3, g4, B', Cd', Tm, Sa, Ea⟩ := v
  obtain ⟨K, C, n, m, b, c, ⟨K1, K2, C1, C2, hn, hm, hb, hc⟩, ⟨rfl, rfl, rfl, rfl, hB, hCd⟩, ⟨rfl, rfl, rfl, rfl, hB', hCd'⟩⟩ := I
  by_cases h : v1 < 0
  · exact br_t h (br_t h ⟨rfl, I2⟩)
  · obtain ⟨s, hs31, rfl⟩ := nI_of h
    by_cases hs : s ≤ K
    · have a2 := nI_le hs (by omega : K < 2 ^ 31)
      by_cases d : m < C
      · have a3 := nI_lt d (by omega)
        refine br_f h (br_t a2 (br_t a3 (lx_appTok C2 d (fun B1 e1 => br_f h (br_t a2 (br_t a3 (And.intro (ly_in (by omega)) ?_)))))))
        intro B2 e2 y ey
        refine ⟨rfl, K, C, n, m + 1, b, fun j => if j = m then s else c j, ⟨K1, K2, C1, C2, hn, d, hb, fun j hj => ?_⟩, ⟨rfl, rfl, rfl, rfl, hB, fun j hj => ?_⟩, ⟨rfl, rfl, rfl, by rw [ey, nI_1], hB', fun j hj => ?_⟩⟩
        · dsimp only
          by_cases z : j = m
          · rw [if_pos z]; exact hs
          · rw [if_neg z]; exact hc j (by omega)
        · dsimp only
          by_cases z : j = m
          · rw [e1, z, pk_us, if_pos rfl]
          · rw [e1, pk_un z, if_neg z]; exact hCd j (by omega)
        · dsimp only
          by_cases z : j = m
          · rw [e2, ly_us (by omega) z, if_pos z]
          · rw [e2, ly_un (by omega) z, if_neg z]; exact hCd' j (by omega)
      · have a3 := nI_nlt (a := m) (b := C) (by omega) (by omega)
        exact br_f h (br_t a2 (br_f a3 (br_f h (br_t a2 (br_f a3 ⟨rfl, I2⟩)))))
    · have a2 := nI_ge (a := K) (b := s) (by omega) hs31
      exact br_f h (br_f a2 (br_f h (br_f a2 ⟨rfl, I2⟩)))
theorem i_vc_codeLength {k : Nat} {u : SX} {v : SY} (I : i_Rel k u v) (hk : k + 2 ≤ 1026) : wpX_codeLength (fun r => wpY_codeLength (fun r' => r' = r ∧ i_Rel (k + 2) u v) v) u := by
  have I2 := I
  obtain ⟨f1, f2, f3, f4, B, Cd, Fs, Fi, La, Rw, Su, Vi, Nb, Re⟩ := u
  obtain ⟨g1, g2, g3, g4, B', Cd', Tm, Sa, Ea⟩ := v
  obtain ⟨K, C, n, m, b, c, N, ⟨rfl, rfl, rfl, rfl, hB, hCd⟩, ⟨rfl, rfl, rfl, rfl, hB', hCd'⟩⟩ := I
  exact ⟨rfl, I2⟩
theorem i_vc_codeAt {k : Nat} {u : SX} {v : SY} (I : i_Rel k u v) (hk : k + 2 ≤ 1026) (v1 : Int32) : wpX_codeAt (fun r => wpY_codeAt (fun r' => r' = r ∧ i_Rel (k + 2) u v) v v1) u v1 := by
  have I2 := I
  obtain ⟨f1, f2, f3, f4, B, Cd, Fs, Fi, La, Rw, Su, Vi, Nb, Re⟩ := u
  obtain ⟨g1, g2, g3, g4, B', Cd', Tm, Sa, Ea⟩ := v
  obtain ⟨K, C, n, m, b, c, ⟨K1, K2, C1, C2, hn, hm, hb, hc⟩, ⟨rfl, rfl, rfl, rfl, hB, hCd⟩, ⟨rfl, rfl, rfl, rfl, hB', hCd'⟩⟩ := I
  rcases ly_ix3 v1 (n := m) (by omega) with h | ⟨h, h2⟩ | ⟨s, hs, rfl⟩
  · exact br_t h (br_t h ⟨rfl, I2⟩)
  · exact br_f h (br_f h2 (br_f h (br_f h2 ⟨rfl, I2⟩)))
  · have a1 := nI_pos (n := s) (by omega)
    have a2 := nI_lt hs (by omega)
    refine br_f a1 (br_t a2 (And.intro (ly_in (by omega)) (br_f a1 (br_t a2 (And.intro (ly_in (by omega)) ⟨?_, I2⟩)))))
    rw [ly_rd hCd hs (by omega), ly_rd hCd' hs (by omega)]
end
end
