/-! the class: the scan and the cut -/
section
variable {K C n m : Nat} {b : Nat → Nat} {B Cd Fs Fi La Rw Su Vi Nb Re : Nat → Int32}
theorem lx_lpl_loop {post : Int32 → Prop} {s : Nat} (hn : n ≤ 24) (hb : ∀ j, j < n → b j < 16) (hB : ∀ j, j < n → B j = nI (b j)) (hp : post (nI (ly_E b n s - s))) : ∀ d p i, i + d = n → ly_Dv b s p i → wX_longestPrimeLength_6 post (nI s) (nI K) (nI C) (nI n) (nI m) B Cd Fs Fi La Rw Su Vi Nb Re (d + 1) (nI p) (nI i) := by
  intro d
  induction d with
  | zero =>
    intro p i hi D
    have e := ly_E_dv D (by omega) (Or.inl (by omega) : i = n ∨ b i < b (i - p))
    refine pk_le n i (fun _ => ?_) (fun h => by omega)
    have e2 : ly_E b n s - s = p := by omega
    rw [e2] at hp
    exact hp
  | succ d ih =>
    intro p i hi D
    have D1 := D.1
    have D2 := D.2.1
    have b1 := hb i (by omega)
    have b2 := hb (i - p) (by omega)
    refine pk_le n i (fun h => by omega) (fun _ => And.intro (pk_in (i - p) 24 (by omega) (pk_sub (by omega)) (by decide)) ?_)
    refine nm_r (e' := nI (b (i - p))) (by rw [pk_sub (by omega)]; exact ly_rd hB (by omega) hn) ?_
    refine And.intro (ly_in (by omega)) ?_
    refine pk_le (b (i - p)) (b i) (fun h1 => ?_) (fun h1 => ?_) rfl (ly_rd hB (by omega) hn)
    · refine And.intro (ly_in (by omega)) ?_
      refine pk_le (b i) (b (i - p)) (fun h2 => ?_) (fun h2 => ?_) (ly_rd hB (by omega) hn) rfl
      · exact nm_r (nI_1 i) (ih p (i + 1) (by omega) (ly_Dv_eq D (by omega)))
      · exact nm_r (by rw [ly_sb (c := i - s) (by omega), nI_1]) (nm_r (nI_1 i) (ih (i - s + 1) (i + 1) (by omega) (ly_Dv_gt D h2)))
    · have e := ly_E_dv D (by omega : i ≤ n) (Or.inr h1)
      have e2 : ly_E b n s - s = p := by omega
      rw [e2] at hp
      exact hp
theorem lx_lpl {post : Int32 → Prop} {s : Nat} (hn : n ≤ 24) (hb : ∀ j, j < n → b j < 16) (hB : ∀ j, j < n → B j = nI (b j)) (hs : s < n) (hp : post (nI (ly_E b n s - s))) : wpX_longestPrimeLength post (nI K, nI C, nI n, nI m, B, Cd, Fs, Fi, La, Rw, Su, Vi, Nb, Re) (nI s) :=
  nm_r (nI_1 s) ⟨_, lx_lpl_loop hn hb hB hp (n - (s + 1)) 1 (s + 1) (by omega) (ly_Dv0 b s)⟩
def ly_cutI (b : Nat → Nat) (n p : Nat) (Fs Fi La : Nat → Int32) : Prop := (∀ q, q < p → ly_st b n q = q → Fs (ly_fc b n q) = nI q) ∧ (∀ q, q < p → Fi q = nI (ly_st b n q)) ∧ (∀ q, q < p → La q = nI (ly_en b n q - 1))
theorem lx_cut_loop {post : Int32 → St2 → Prop} (hn : n ≤ 24) (hb : ∀ j, j < n → b j < 16) (hB : ∀ j, j < n → B j = nI (b j)) (hp : ∀ Fs Fi La, ly_cutI b n n Fs Fi La → post (nI (ly_fc b n n)) (nI K, nI C, nI n, nI m, B, Cd, Fs, Fi, La, Rw, Su, Vi, Nb, Re)) : ∀ d p, p + d = n → ∀ x1 x2 x3 x4 Fs Fi La, x1 = nI (ly_fc b n p) → x2 = nI (ly_ps b n p) → x3 = nI (ly_pe b n p) → x4 = nI p → ly_cutI b n p Fs Fi La → wX_cutIntoFactors_9 post (nI K) (nI C) (nI n) (nI m) (d + 1) x1 x2 x3 x4 B Cd Fs Fi La Rw Su Vi Nb Re := by
  intro d
  induction d with
  | zero =>
    rintro p hpd x1 x2 x3 x4 Fs Fi La rfl rfl rfl rfl hI
    obtain rfl : p = n := by omega
    exact pk_le p p (fun _ => hp Fs Fi La hI) (fun h => by omega)
  | succ d ih =>
    rintro p hpd x1 x2 x3 x4 Fs Fi La rfl rfl rfl rfl hI
    have hpn : p < n := by omega
    have h1 := ly_pe_le (b := b) hpn
    have h2 := ly_st_in b hpn
    have h3 : ly_fc b n p ≤ p := ly_cnt_le _ p
    refine pk_le n p (fun h => by omega) (fun _ => ?_)
    refine pk_eq p (ly_pe b n p) (fun hq => ?_) (fun hq => ?_)
    · have hst := ly_st_pe_t hq
      have hen : ly_en b n p = ly_E b n p := by unfold ly_en; rw [hst]
      refine lx_lpl hn hb hB hpn ?_
      refine nm_r (ly_ad (c := ly_en b n p) (by omega)) (And.intro (ly_in (by omega)) ?_)
      intro a1 ea1 y1 ey1
      refine And.intro (ly_in (by omega)) ?_
      intro a2 ea2
      refine And.intro (ly_in (by omega)) ?_
      intro a3 ea3 y4 ey4
      refine ih (p + 1) (by omega) _ _ _ _ a1 a2 a3 ?_ ?_ rfl ?_ ?_
      · rw [ey1, nI_1]; exact ly_eq2 (ly_cnt_t (P := fun p => ly_st b n p = p) hst).symm
      · exact ly_eq2 hst.symm
      · rw [ey4, nI_1]
      · refine ⟨lt_s (fun q hq1 hq2 => ?_) (fun _ => ?_), lt_s (fun q hq1 => ?_) ?_, lt_s (fun q hq1 => ?_) ?_⟩
        · have h4 : ly_fc b n q < ly_fc b n p := by
            have h5 := ly_cnt_up (fun p => ly_st b n p = p) (m := q + 1) (n := p) (by omega)
            rw [ly_cnt_t (P := fun p => ly_st b n p = p) hq2] at h5
            exact h5
          rw [ea1, ly_un (by omega) (by omega)]
          exact hI.1 q hq1 hq2
        · rw [ea1]; exact ly_us (by omega) rfl
        · rw [ea2, ly_un (by omega) (by omega)]; exact hI.2.1 q hq1
        · rw [ea2, ly_us (by omega) rfl, hst]
        · rw [ea3, ly_un (by omega) (by omega)]; exact hI.2.2 q hq1
        · rw [ea3, ly_us (by omega) rfl]; exact ly_s1 (by omega)
    · have hst := ly_st_pe_f hq
      have hne := ly_st_pe_ne hpn hq
      refine And.intro (ly_in (by omega)) ?_
      intro a2 ea2
      refine And.intro (ly_in (by omega)) ?_
      intro a3 ea3 y4 ey4
      refine ih (p + 1) (by omega) _ _ _ _ Fs a2 a3 ?_ ?_ ?_ ?_ ?_
      · exact ly_eq2 (ly_cnt_f (P := fun p => ly_st b n p = p) hne).symm
      · exact ly_eq2 hst.1.symm
      · exact ly_eq2 hst.2.symm
      · rw [ey4, nI_1]
      · refine ⟨lt_s (fun q hq1 hq2 => hI.1 q hq1 hq2) (fun z => absurd z hne), lt_s (fun q hq1 => ?_) ?_, lt_s (fun q hq1 => ?_) ?_⟩
        · rw [ea2, ly_un (by omega) (by omega)]; exact hI.2.1 q hq1
        · rw [ea2, ly_us (by omega) rfl, hst.1]
        · rw [ea3, ly_un (by omega) (by omega)]; exact hI.2.2 q hq1
        · rw [ea3, ly_us (by omega) rfl, hst.2]; exact ly_s1 (by omega)
theorem lx_cut {post : Int32 → St2 → Prop} (hn : n ≤ 24) (hb : ∀ j, j < n → b j < 16) (hB : ∀ j, j < n → B j = nI (b j)) (hp : ∀ Fs Fi La, ly_cutI b n n Fs Fi La → post (nI (ly_fc b n n)) (nI K, nI C, nI n, nI m, B, Cd, Fs, Fi, La, Rw, Su, Vi, Nb, Re)) : wpX_cutIntoFactors post (nI K, nI C, nI n, nI m, B, Cd, Fs, Fi, La, Rw, Su, Vi, Nb, Re) :=
  ⟨_, lx_cut_loop hn hb hB hp n 0 (by omega) _ _ _ _ Fs Fi La rfl rfl rfl rfl ⟨fun q h => absurd h (Nat.not_lt_zero q), fun q h => absurd h (Nat.not_lt_zero q), fun q h => absurd h (Nat.not_lt_zero q)⟩⟩
end
