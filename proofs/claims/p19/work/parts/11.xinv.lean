/-! the class: invert -/
section
variable {K C n m : Nat} {b R : Nat → Nat} {B Cd Fs Fi La Rw Su Vi Nb Re : Nat → Int32}
noncomputable def ly_g (b : Nat → Nat) (n : Nat) : Nat → Nat := ly_rk (ly_gR b) n
theorem ly_gp (b : Nat → Nat) (n : Nat) : ly_perm (ly_g b n) n := ly_g_perm b n
theorem lx_sorted_loop {post : Int32 → Prop} {i : Nat} (hn : n ≤ 24) (hb : ∀ j, j < n → b j < 16) (hB : ∀ j, j < n → B j = nI (b j)) (hi : i < n) (hp : post (nI (ly_g b n i))) : ∀ d j, j + d = n → ∀ x2 x3, x2 = nI (ly_cnt (fun q => ly_gR b q i) j) → x3 = nI j → wX_sortedPlace_4 post (nI i) (nI K) (nI C) (nI n) (nI m) B Cd Fs Fi La Rw Su Vi Nb Re (d + 1) x2 x3 := by
  intro d
  induction d with
  | zero =>
    rintro j hj x2 x3 rfl rfl
    obtain rfl : j = n := by omega
    exact pk_le j j (fun _ => hp) (fun h => by omega)
  | succ d ih =>
    rintro j hj x2 x3 rfl rfl
    have b1 := hb j (by omega)
    have b2 := hb i hi
    have yes : ly_gR b j i → ∀ y2 : Int32, y2 = nI (ly_cnt (fun q => ly_gR b q i) j) + 1 → ∀ y3 : Int32, y3 = nI j + 1 → wX_sortedPlace_4 post (nI i) (nI K) (nI C) (nI n) (nI m) B Cd Fs Fi La Rw Su Vi Nb Re (d + 1) y2 y3 := fun h y2 e2 y3 e3 => by
      refine ih (j + 1) (by omega) _ _ ?_ ?_
      · rw [e2, nI_1, ly_cnt_t (P := fun q => ly_gR b q i) h]
      · rw [e3, nI_1]
    have no : ¬ ly_gR b j i → ∀ y3 : Int32, y3 = nI j + 1 → wX_sortedPlace_4 post (nI i) (nI K) (nI C) (nI n) (nI m) B Cd Fs Fi La Rw Su Vi Nb Re (d + 1) (nI (ly_cnt (fun q => ly_gR b q i) j)) y3 := fun h y3 e3 => by
      refine ih (j + 1) (by omega) _ _ ?_ ?_
      · rw [ly_cnt_f (P := fun q => ly_gR b q i) h]
      · rw [e3, nI_1]
    refine pk_le n j (fun h => by omega) (fun _ => And.intro (ly_in (by omega)) (And.intro (ly_in (by omega)) ?_))
    refine pk_lt (b j) (b i) (fun h => yes (Or.inl h)) (fun h => ?_) (ly_rd hB (by omega) hn) (ly_rd hB hi hn)
    refine And.intro (ly_in (by omega)) (And.intro (ly_in (by omega)) ?_)
    refine pk_eq (b j) (b i) (fun e => ?_) (fun e => no (fun z => by unfold ly_gR at z; omega)) (ly_rd hB (by omega) hn) (ly_rd hB hi hn)
    exact pk_le i j (fun l => no (fun z => by unfold ly_gR at z; omega)) (fun l => yes (Or.inr ⟨e, l⟩))
theorem lx_sorted {post : Int32 → Prop} {i : Nat} (hn : n ≤ 24) (hb : ∀ j, j < n → b j < 16) (hB : ∀ j, j < n → B j = nI (b j)) (hi : i < n) (hp : post (nI (ly_g b n i))) : wpX_sortedPlace post (nI K, nI C, nI n, nI m, B, Cd, Fs, Fi, La, Rw, Su, Vi, Nb, Re) (nI i) :=
  ⟨_, lx_sorted_loop hn hb hB hi hp n 0 (by omega) _ _ rfl rfl⟩
theorem lx_find_loop {post : St2 → Prop} (hn : n ≤ 24) (hb : ∀ j, j < n → b j < 16) (hB : ∀ j, j < n → B j = nI (b j)) (hp : ∀ Su Vi, (∀ q, q < n → Su q = nI (ly_g b n q)) → (∀ q, q < n → Vi q = 0) → post (nI K, nI C, nI n, nI m, B, Cd, Fs, Fi, La, Rw, Su, Vi, Nb, Re)) : ∀ d i, i + d = n → ∀ x1 Su Vi, x1 = nI i → (∀ q, q < i → Su q = nI (ly_g b n q)) → (∀ q, q < i → Vi q = 0) → wX_findSuccessors_2 post (nI K) (nI C) (nI n) (nI m) (d + 1) x1 B Cd Fs Fi La Rw Su Vi Nb Re := by
  intro d
  induction d with
  | zero =>
    rintro i hi x1 Su Vi rfl h1 h2
    obtain rfl : i = n := by omega
    exact pk_le i i (fun _ => hp Su Vi h1 h2) (fun h => by omega)
  | succ d ih =>
    rintro i hi x1 Su Vi rfl h1 h2
    refine pk_le n i (fun h => by omega) (fun _ => lx_sorted hn hb hB (by omega) ?_)
    refine And.intro (ly_in (by omega)) ?_
    intro a ea
    refine And.intro (ly_in (by omega)) ?_
    intro a2 ea2 y ey
    refine ih (i + 1) (by omega) _ a a2 (by rw [ey, nI_1]) (lt_s (fun q hq => ?_) ?_) (lt_s (fun q hq => ?_) ?_)
    · rw [ea, ly_un (by omega) (by omega)]; exact h1 q hq
    · rw [ea]; exact ly_us (by omega) rfl
    · rw [ea2, ly_un (by omega) (by omega)]; exact h2 q hq
    · rw [ea2, ly_us (by omega) rfl]
theorem lx_find {post : St2 → Prop} (hn : n ≤ 24) (hb : ∀ j, j < n → b j < 16) (hB : ∀ j, j < n → B j = nI (b j)) (hp : ∀ Su Vi, (∀ q, q < n → Su q = nI (ly_g b n q)) → (∀ q, q < n → Vi q = 0) → post (nI K, nI C, nI n, nI m, B, Cd, Fs, Fi, La, Rw, Su, Vi, Nb, Re)) : wpX_findSuccessors post (nI K, nI C, nI n, nI m, B, Cd, Fs, Fi, La, Rw, Su, Vi, Nb, Re) :=
  ⟨_, lx_find_loop hn hb hB hp n 0 (by omega) _ Su Vi rfl (fun q h => absurd h (Nat.not_lt_zero q)) (fun q h => absurd h (Nat.not_lt_zero q))⟩
theorem lx_write_loop {post : Int32 → St2 → Prop} {i : Nat} (hn : n ≤ 24) (hB : ∀ j, j < n → B j = nI (b j)) (hS : ∀ q, q < n → Su q = nI (ly_g b n q)) (hR : ly_isR b (ly_g b n) n n R) (hi : i < n) (hv : ¬ ly_V (ly_g b n) i i) (hp : ∀ Vi Nb, (∀ j, j < n → Vi j = ly_bit (ly_V (ly_g b n) (i + 1) j)) → (∀ j, ly_U (ly_g b n) n (i + 1) ≤ j → j < n → Nb j = nI (R j)) → post (nI (ly_U (ly_g b n) n (i + 1))) (nI K, nI C, nI n, nI m, B, Cd, Fs, Fi, La, Rw, Su, Vi, Nb, Re)) : ∀ d k, k + d = ly_len (ly_g b n) i → ∀ x3 x4 Vi Nb, x3 = nI (ly_it (ly_g b n) i k) → x4 = nI (ly_U (ly_g b n) n i - k) → (∀ j, j < n → Vi j = ly_bit (ly_Vk (ly_g b n) i k j)) → (∀ j, ly_U (ly_g b n) n i - k ≤ j → j < n → Nb j = nI (R j)) → wX_writeCycleBackwards_5 post (nI K) (nI C) (nI n) (nI m) (d + 1) x3 x4 B Cd Fs Fi La Rw Su Vi Nb Re := by
  have hU := ly_U_new (ly_gp b n) hi hv
  have hUn := ly_U_le (ly_g b n) n i
  intro d
  induction d with
  | zero =>
    rintro k hk x3 x4 Vi Nb rfl rfl h1 h2
    obtain rfl : k = ly_len (ly_g b n) i := by omega
    have e : ly_U (ly_g b n) n i - ly_len (ly_g b n) i = ly_U (ly_g b n) n (i + 1) := by omega
    have hf := hp Vi Nb (fun j hj => by rw [h1 j hj]; exact congrArg ly_bit (propext (ly_Vk_L (ly_gp b n) hi j))) (fun j a c => h2 j (by omega) c)
    have hl := ly_it_lt (ly_gp b n) hi (ly_len (ly_g b n) i)
    rw [e]
    refine pk_le (ly_U (ly_g b n) n (i + 1)) 0 (fun z => ?_) (fun z => And.intro (ly_in (by omega)) ?_)
    · have e0 : ly_U (ly_g b n) n (i + 1) = 0 := by omega
      rw [e0] at hf
      exact hf
    · rw [ly_cl (by omega), h1 _ hl]
      exact ly_bit_br (fun _ => hf) (fun z => absurd (ly_Vk_end (ly_gp b n) hi) z)
  | succ d ih =>
    rintro k hk x3 x4 Vi Nb rfl rfl h1 h2
    have hl := ly_it_lt (ly_gp b n) hi k
    refine pk_le (ly_U (ly_g b n) n i - k) 0 (fun z => by omega) (fun z => And.intro (ly_in (by omega)) ?_)
    have hnew := ly_Vk_new (ly_gp b n) hi hv (k := k) (by omega)
    rw [ly_cl (by omega), h1 _ hl]
    refine ly_bit_br (fun z => absurd z hnew) (fun _ => And.intro (ly_in (by omega)) ?_)
    intro a ea
    refine And.intro (ly_in (by omega)) ?_
    rw [ly_s1 (b := ly_U (ly_g b n) n i - 1 - k) (by omega)]
    refine And.intro (ly_in (by omega)) ?_
    intro a2 ea2
    refine And.intro (ly_in (by omega)) ?_
    intro y3 e3 y4 e4
    refine ih (k + 1) (by omega) _ _ a a2 ?_ ?_ (fun j hj => ?_) (fun j hj hj2 => ?_)
    · rw [e3]
      first | exact hS _ hl | (rw [ly_cl (by omega)]; exact hS _ hl)
    · rw [e4]; exact ly_d1 (by omega)
    · by_cases c : j = ly_it (ly_g b n) i k
      · rw [ea, c, pk_us, ly_bit_t ((ly_Vk_s _ i k _).2 (Or.inr rfl))]
      · rw [ea, pk_un c, h1 j hj]
        exact congrArg ly_bit (propext ⟨fun z => (ly_Vk_s _ i k j).2 (Or.inl z), fun z => ((ly_Vk_s _ i k j).1 z).resolve_right c⟩)
    · by_cases c : j = ly_U (ly_g b n) n i - 1 - k
      · rw [ea2, ly_us (by omega) c, hB _ hl, c, hR i hi hv k (by omega)]
      · rw [ea2, ly_un (by omega) c]
        exact h2 j (by omega) hj2
theorem lx_write {post : Int32 → St2 → Prop} {i : Nat} (hn : n ≤ 24) (hB : ∀ j, j < n → B j = nI (b j)) (hS : ∀ q, q < n → Su q = nI (ly_g b n q)) (hR : ly_isR b (ly_g b n) n n R) (hi : i < n) (hv : ¬ ly_V (ly_g b n) i i) (h1 : ∀ j, j < n → Vi j = ly_bit (ly_V (ly_g b n) i j)) (h2 : ∀ j, ly_U (ly_g b n) n i ≤ j → j < n → Nb j = nI (R j)) (hp : ∀ Vi Nb, (∀ j, j < n → Vi j = ly_bit (ly_V (ly_g b n) (i + 1) j)) → (∀ j, ly_U (ly_g b n) n (i + 1) ≤ j → j < n → Nb j = nI (R j)) → post (nI (ly_U (ly_g b n) n (i + 1))) (nI K, nI C, nI n, nI m, B, Cd, Fs, Fi, La, Rw, Su, Vi, Nb, Re)) : wpX_writeCycleBackwards post (nI K, nI C, nI n, nI m, B, Cd, Fs, Fi, La, Rw, Su, Vi, Nb, Re) (nI i) (nI (ly_U (ly_g b n) n i)) :=
  ⟨_, lx_write_loop hn hB hS hR hi hv hp (ly_len (ly_g b n) i) 0 (by omega) _ _ Vi Nb rfl rfl (fun j hj => by rw [h1 j hj]; exact congrArg ly_bit (propext (ly_Vk_0 _ i j).symm)) h2⟩
theorem lx_inv_loop {post : Int32 → St2 → Prop} (hn : n ≤ 24) (hB : ∀ j, j < n → B j = nI (b j)) (hS : ∀ q, q < n → Su q = nI (ly_g b n q)) (hR : ly_isR b (ly_g b n) n n R) (hp : ∀ B Vi Nb, (∀ j, j < n → B j = nI (R j)) → post (nI (ly_cc (ly_g b n) n)) (nI K, nI C, nI n, nI m, B, Cd, Fs, Fi, La, Rw, Su, Vi, Nb, Re)) : ∀ d i, i + d = n → ∀ x1 x2 x3 Vi Nb, x1 = nI (ly_cc (ly_g b n) i) → x2 = nI (ly_U (ly_g b n) n i) → x3 = nI i → (∀ j, j < n → Vi j = ly_bit (ly_V (ly_g b n) i j)) → (∀ j, ly_U (ly_g b n) n i ≤ j → j < n → Nb j = nI (R j)) → wX_invert_13 post (d + 1) x1 x2 x3 (nI K) (nI C) (nI n) (nI m) B Cd Fs Fi La Rw Su Vi Nb Re := by
  intro d
  induction d with
  | zero =>
    rintro i hi x1 x2 x3 Vi Nb rfl rfl rfl h1 h2
    obtain rfl : i = n := by omega
    refine pk_le i i (fun _ => lx_take hn (fun B' hB' => ?_)) (fun h => by omega)
    refine hp B' Vi Nb (fun j hj => (hB' j hj).trans (h2 j ?_ hj))
    rw [ly_U_n]; omega
  | succ d ih =>
    rintro i hi x1 x2 x3 Vi Nb rfl rfl rfl h1 h2
    refine pk_le n i (fun h => by omega) (fun _ => And.intro (ly_in (by omega)) ?_)
    rw [ly_cl (by omega), h1 i (by omega)]
    refine ly_bit_br (fun hv => ?_) (fun hv => ?_)
    · intro y ey
      refine ih (i + 1) (by omega) _ _ _ Vi Nb ?_ ?_ (by rw [ey, nI_1]) (fun j hj => ?_) (fun j a c => ?_)
      · exact ly_eq2 (ly_cnt_f (P := fun a => ¬ ly_V (ly_g b n) a a) (fun z => z hv)).symm
      · rw [ly_U_old hv]
      · rw [h1 j hj]; exact congrArg ly_bit (propext (ly_V_old hv j).symm)
      · rw [ly_U_old hv] at a; exact h2 j a c
    · refine lx_write hn hB hS hR (by omega) hv h1 h2 (fun Vi' Nb' g1 g2 => ?_)
      intro y1 e1 y3 e3
      refine ih (i + 1) (by omega) _ _ _ Vi' Nb' ?_ rfl (by rw [e3, nI_1]) g1 g2
      rw [e1, nI_1]
      exact ly_eq2 (ly_cnt_t (P := fun a => ¬ ly_V (ly_g b n) a a) hv).symm
theorem lx_invert {post : Int32 → St2 → Prop} (hn : n ≤ 24) (hb : ∀ j, j < n → b j < 16) (hB : ∀ j, j < n → B j = nI (b j)) (hR : ly_isR b (ly_g b n) n n R) (hp : ∀ B Su Vi Nb, (∀ j, j < n → B j = nI (R j)) → post (nI (ly_cc (ly_g b n) n)) (nI K, nI C, nI n, nI m, B, Cd, Fs, Fi, La, Rw, Su, Vi, Nb, Re)) : wpX_invert post (nI K, nI C, nI n, nI m, B, Cd, Fs, Fi, La, Rw, Su, Vi, Nb, Re) := by
  refine lx_find hn hb hB (fun Su' Vi' hS hV => ?_)
  refine ⟨_, lx_inv_loop hn hB hS hR (fun B' Vi'' Nb' h => hp B' Su' Vi'' Nb' h) n 0 (by omega) _ _ _ Vi' Nb rfl ?_ rfl (fun j hj => ?_) (fun j a c => ?_)⟩
  · rw [ly_U_0]
  · rw [hV j hj, ly_bit_f (ly_V_0 _ j)]
  · rw [ly_U_0] at a; omega
end
