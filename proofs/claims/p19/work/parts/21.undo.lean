/-! the start is the least place of its factor -/
theorem ly_pos_fw (b : Nat → Nat) {n p : Nat} (h : p < n) (k : Nat) (hk : p + k < ly_en b n p) : ly_pos b n p k = p + k := by
  induction k with
  | zero => rfl
  | succ k ih =>
    have ih := ih (by omega)
    rw [ly_pos_nx b h, ih, if_neg (by omega)]; rfl
theorem ly_isE_st (b : Nat → Nat) {n p : Nat} (h : p < n) : ly_isE b n (ly_st b n p) (ly_en b n p) :=
  ly_E_is b (by have := ly_st_in b h; omega)
theorem ly_st_min {b : Nat → Nat} {n p : Nat} (h : p < n) (hne : ¬ p = ly_st b n p) : ly_wlt (ly_W b n (ly_st b n p)) (ly_W b n p) := by
  have h1 := ly_st_in b h
  obtain ⟨k, k1, k2, k3⟩ := (ly_isE_st b h).2.2.1 p (by omega) h1.2.1
  have hs : ly_st b n p < n := by omega
  have es : ly_en b n (ly_st b n p) = ly_en b n p := ly_en_same (Nat.le_refl _) (by omega)
  have f1 : ∀ i, i ≤ k → ly_W b n (ly_st b n p) i = b (ly_st b n p + i) := fun i hi => congrArg b (ly_pos_fw b hs i (by rw [es]; omega))
  have f2 : ∀ i, i ≤ k → ly_W b n p i = b (p + i) := fun i hi => congrArg b (ly_pos_fw b h i (by omega))
  refine ⟨k, fun i hi => ?_, ?_⟩
  · rw [f1 i (by omega), f2 i (by omega)]; exact k2 i hi
  · rw [f1 k (Nat.le_refl k), f2 k (Nat.le_refl k)]; exact k3
theorem ly_st_nlt {b : Nat → Nat} {n p : Nat} (h : p < n) : ¬ ly_wlt (ly_W b n p) (ly_W b n (ly_st b n p)) := by
  intro hw
  by_cases c : p = ly_st b n p
  · rw [← c] at hw; exact ly_wlt_ir _ hw
  · exact ly_wlt_as (ly_st_min h c) hw
theorem ly_W_shift {b : Nat → Nat} {n p q : Nat} (h : ∀ k, ly_W b n p k = ly_W b n q k) (m : Nat) : ∀ k, ly_W b n (ly_pos b n p m) k = ly_W b n (ly_pos b n q m) k := by
  intro k
  have := h (m + k)
  unfold ly_W at this ⊢
  rw [ly_pos_add, ly_pos_add] at this
  exact this
theorem ly_to_st (b : Nat → Nat) {n p : Nat} (h : p < n) : ∃ m, ly_pos b n p m = ly_st b n p := by
  have h1 := ly_st_in b h
  refine ⟨ly_en b n p - p - 1 + 1, ?_⟩
  rw [ly_pos_nx b h, ly_pos_fw b h _ (by omega), if_pos (by omega)]
theorem ly_st_eq {b : Nat → Nat} {n p q : Nat} (hp : p < n) (hq : q < n) (h : ∀ k, ly_W b n p k = ly_W b n q k) (e : p = ly_st b n p) : q = ly_st b n q := by
  by_cases c : q = ly_st b n q
  · exact c
  · obtain ⟨m, hm⟩ := ly_to_st b hq
    have h1 := ly_W_shift h m
    rw [hm] at h1
    have h2 : ly_wlt (ly_W b n (ly_pos b n p m)) (ly_W b n p) := ly_wlt_l h1 (ly_wlt_r (fun k => (h k).symm) (ly_st_min hq c))
    have h3 := ly_pos_in b hp m
    have h4 := ly_st_same h3.1 h3.2
    have h5 := ly_st_nlt (b := b) (p := ly_pos b n p m) (ly_pos_lt b hp m)
    rw [h4, ← e] at h5
    exact absurd h2 h5
theorem ly_pr_tie {b : Nat → Nat} {n p q : Nat} (hp : p < n) (hq : q < n) (h : ∀ k, ly_W b n p k = ly_W b n q k) (l : q < p) : ly_pr b n q < ly_pr b n p := by
  have h1 := ly_st_in b hp
  have h2 := ly_st_in b hq
  by_cases c : p = ly_st b n p
  · have d := ly_st_eq hp hq h c
    rw [ly_pr_t c, ly_pr_t d]
    have h3 : ly_en b n q ≤ p := by
      by_cases e : ly_en b n q ≤ p
      · exact e
      · have := ly_st_same (b := b) (n := n) (p := q) (u := p) (by omega) (by omega)
        omega
    omega
  · have d : ¬ q = ly_st b n q := fun z => c (ly_st_eq hq hp (fun k => (h k).symm) z)
    rw [ly_pr_f c, ly_pr_f d]
    omega
theorem ly_pr_tieI {b : Nat → Nat} {n p q : Nat} (hp : p < n) (hq : q < n) (h : ∀ k, ly_W b n p k = ly_W b n q k) : ly_pr b n q < ly_pr b n p ↔ q < p := by
  constructor
  · intro l
    by_cases c : q < p
    · exact c
    · by_cases d : p = q
      · subst d; omega
      · have := ly_pr_tie hq hp (fun k => (h k).symm) (by omega)
        omega
  · exact ly_pr_tie hp hq h
/-! the transformed block by the other ranks -/
theorem ly_row_W {b : Nat → Nat} {n p q : Nat} (hn : n ≤ 24) (hp : p < n) (hq : q < n) (e : ly_rk (ly_bf b n) n q = ly_rg b n p) : ∀ k, ly_W b n q k = ly_W b n p k := by
  rcases ly_wlt_tri (ly_W b n q) (ly_W b n p) with h | h | h
  · have := ly_cnt_lt (P := fun x => ly_bf b n x q) (Q := fun x => ly_bg b n x p) n q (fun x hx hb => by
      rcases (ly_bf_W hn hx hq).1 hb with g | ⟨g, _⟩
      · exact Or.inl (ly_wlt_tr g h)
      · exact Or.inl (ly_wlt_l g h)) hq ((ly_bf_sto b n).1 q) (Or.inl h)
    unfold ly_rg ly_rk at e
    omega
  · have := ly_cnt_lt (P := fun x => ly_bg b n x p) (Q := fun x => ly_bf b n x q) n p (fun x hx hb => by
      refine (ly_bf_W hn hx hq).2 ?_
      rcases hb with g | ⟨g, _⟩
      · exact Or.inl (ly_wlt_tr g h)
      · exact Or.inl (ly_wlt_l g h)) hp ((ly_bg_sto b n).1 p) ((ly_bf_W hn hp hq).2 (Or.inl h))
    unfold ly_rg ly_rk at e
    omega
  · exact h
theorem ly_T_rg {b : Nat → Nat} {n p : Nat} (hn : n ≤ 24) (hp : p < n) : ly_T b n (ly_rg b n p) = b (ly_pr b n p) := by
  have h1 := ly_row_is b (ly_rg_lt (b := b) hp)
  have h2 := ly_row_W hn hp h1.1 h1.2
  rw [ly_T_at b (ly_rg_lt hp), ly_ll_pr]
  exact ly_pr_eq h1.1 hp h2
theorem ly_gT {b : Nat → Nat} {n p q : Nat} (hn : n ≤ 24) (hp : p < n) (hq : q < n) : ly_gR (ly_T b n) (ly_rg b n p) (ly_rg b n q) ↔ ly_bg b n (ly_pr b n p) (ly_pr b n q) := by
  unfold ly_gR
  rw [ly_T_rg hn hp, ly_T_rg hn hq, ly_rg_ltI hp hq]
  constructor
  · rintro (h | ⟨h, g | ⟨g, l⟩⟩)
    · exact Or.inl ((ly_wlt_pr hp hq).2 (Or.inl h))
    · exact Or.inl ((ly_wlt_pr hp hq).2 (Or.inr ⟨h, g⟩))
    · exact Or.inr ⟨ly_W_preq hp hq g, (ly_pr_tieI hp hq g).2 l⟩
  · rintro (h | ⟨h, l⟩)
    · rcases (ly_wlt_pr hp hq).1 h with g | ⟨g, g2⟩
      · exact Or.inl g
      · exact Or.inr ⟨g, Or.inl g2⟩
    · have g : ∀ k, ly_W b n p k = ly_W b n q k := fun k => by
        have := h (k + 1)
        rw [ly_W_prs b hp, ly_W_prs b hq] at this
        exact this
      exact Or.inr ⟨h 0, Or.inr ⟨g, (ly_pr_tieI hp hq g).1 l⟩⟩
noncomputable def ly_gt (b : Nat → Nat) (n : Nat) : Nat → Nat := ly_rk (ly_gR (ly_T b n)) n
theorem ly_gt_perm (b : Nat → Nat) (n : Nat) : ly_perm (ly_gt b n) n := ly_g_perm (ly_T b n) n
theorem ly_gt_rg {b : Nat → Nat} {n p : Nat} (hn : n ≤ 24) (hp : p < n) : ly_gt b n (ly_rg b n p) = ly_rg b n (ly_pr b n p) := by
  have e1 : ly_gt b n (ly_rg b n p) = ly_cnt (fun q => ly_gR (ly_T b n) (ly_rg b n q) (ly_rg b n p)) n :=
    (ly_cnt_perm (f := ly_rg b n) (P := fun j => ly_gR (ly_T b n) j (ly_rg b n p)) (fun i hi => ly_rg_lt hi) (fun i j hi hj e => ly_rg_inj hi hj e)).symm
  have e2 : ly_rg b n (ly_pr b n p) = ly_cnt (fun q => ly_bg b n (ly_pr b n q) (ly_pr b n p)) n :=
    (ly_cnt_perm (f := ly_pr b n) (P := fun q => ly_bg b n q (ly_pr b n p)) (fun i hi => ly_pr_lt b hi) (fun i j hi hj e => ly_pr_inj hi hj e)).symm
  rw [e1, e2]
  exact ly_cnt_congr n (fun q hq => ly_gT hn hq hp)
/-! walks -/
theorem ly_prk_in (b : Nat → Nat) {n p : Nat} (h : p < n) (k : Nat) : ly_it (ly_pr b n) p k < n ∧ ly_st b n (ly_it (ly_pr b n) p k) = ly_st b n p := by
  induction k with
  | zero => exact ⟨h, rfl⟩
  | succ k ih => exact ⟨ly_pr_lt b ih.1, (ly_pr_st b ih.1).trans ih.2⟩
theorem ly_gt_it {b : Nat → Nat} {n p : Nat} (hn : n ≤ 24) (hp : p < n) (k : Nat) : ly_it (ly_gt b n) (ly_rg b n p) k = ly_rg b n (ly_it (ly_pr b n) p k) := by
  induction k with
  | zero => rfl
  | succ k ih =>
    show ly_gt b n (ly_it (ly_gt b n) (ly_rg b n p) k) = ly_rg b n (ly_pr b n (ly_it (ly_pr b n) p k))
    rw [ih, ly_gt_rg hn (ly_prk_in b hp k).1]
theorem ly_prk_st (b : Nat → Nat) {n s : Nat} (h : s < n) (hs : s = ly_st b n s) (k : Nat) (h1 : 1 ≤ k) (h2 : k ≤ ly_l b n s) : ly_it (ly_pr b n) s k = ly_en b n s - k := by
  have h3 := ly_st_in b h
  unfold ly_l at h2
  induction k with
  | zero => omega
  | succ k ih =>
    show ly_pr b n (ly_it (ly_pr b n) s k) = _
    by_cases c : k = 0
    · subst c
      exact ly_pr_t hs
    · rw [ih (by omega) (by omega)]
      have e := ly_st_same (b := b) (n := n) (p := s) (u := ly_en b n s - k) (by omega) (by omega)
      rw [ly_pr_f (by rw [e]; omega)]
      omega
theorem ly_prk_to (b : Nat → Nat) {n p : Nat} (h : p < n) : ∃ k, ly_it (ly_pr b n) (ly_st b n p) k = p := by
  have h1 := ly_st_in b h
  have hs : ly_st b n p < n := by omega
  have es : ly_en b n (ly_st b n p) = ly_en b n p := ly_en_same (Nat.le_refl _) (by omega)
  refine ⟨ly_en b n p - p, ?_⟩
  rw [ly_prk_st b hs (ly_st_st b n p).symm _ (by omega) (by unfold ly_l; rw [es, ly_st_st]; omega), es]
  omega
theorem ly_rg_st {b : Nat → Nat} {n p : Nat} (h : p < n) : ly_rg b n (ly_st b n p) ≤ ly_rg b n p := by
  by_cases c : p = ly_st b n p
  · rw [← c]; exact Nat.le_refl _
  · have h1 := ly_st_in b h
    have := (ly_rg_ltI (b := b) (n := n) (p := ly_st b n p) (q := p) (by omega) h).2 (Or.inl (ly_st_min h c))
    omega
theorem ly_rg_ex {b : Nat → Nat} {n : Nat} (r : Nat) (hr : r < n) : ∃ p, p < n ∧ ly_rg b n p = r := ly_rk_surj (ly_bg_sto b n) r hr
/-- visited ahead of a: the factors whose start has a smaller rank -/
theorem ly_V_rg {b : Nat → Nat} {n a p : Nat} (hn : n ≤ 24) (ha : a ≤ n) (hp : p < n) : ly_V (ly_gt b n) a (ly_rg b n p) ↔ ly_rg b n (ly_st b n p) < a := by
  have h1 := ly_st_in b hp
  constructor
  · rintro ⟨c, hc, k, hk⟩
    obtain ⟨q, hq, rfl⟩ := ly_rg_ex (b := b) c (by omega : c < n)
    rw [ly_gt_it hn hq] at hk
    have h2 := ly_prk_in b hq k
    have e := ly_rg_inj h2.1 hp hk
    have h3 := ly_rg_st (b := b) hq
    rw [e] at h2
    rw [h2.2]
    omega
  · intro h
    obtain ⟨k, hk⟩ := ly_prk_to b hp
    refine ⟨_, h, k, ?_⟩
    rw [ly_gt_it hn (by omega), hk]
theorem ly_V_st {b : Nat → Nat} {n p : Nat} (hn : n ≤ 24) (hp : p < n) : ¬ ly_V (ly_gt b n) (ly_rg b n p) (ly_rg b n p) ↔ ly_st b n p = p := by
  rw [ly_V_rg hn (Nat.le_of_lt (ly_rg_lt hp)) hp]
  have h1 := ly_st_in b hp
  constructor
  · intro h
    have h2 := ly_rg_st (b := b) hp
    exact ly_rg_inj (b := b) (by omega) hp (by omega)
  · intro h
    rw [h]; omega
theorem ly_len_rg {b : Nat → Nat} {n s : Nat} (hn : n ≤ 24) (h : s < n) (hs : s = ly_st b n s) : ly_len (ly_gt b n) (ly_rg b n s) = ly_l b n s := by
  have h1 := ly_l_pos b h
  have h3 := ly_st_in b h
  have hr := ly_rg_lt (b := b) h
  have hm := ly_len_min (ly_gt_perm b n) hr h1.1 (by
    rw [ly_gt_it hn h, ly_prk_st b h hs _ h1.1 (Nat.le_refl _)]
    exact congrArg (ly_rg b n) (by unfold ly_l; omega))
  by_cases c : ly_len (ly_gt b n) (ly_rg b n s) = ly_l b n s
  · exact c
  · have h4 := ly_len_pos (ly_gt_perm b n) hr
    have h5 := ly_len_it (ly_gt_perm b n) hr
    rw [ly_gt_it hn h] at h5
    have h6 := ly_rg_inj (ly_prk_in b h _).1 h h5
    rw [ly_prk_st b h hs _ h4 (by omega)] at h6
    unfold ly_l at c hm
    omega
/-! factors do not increase -/
theorem ly_Lt_tr {b : Nat → Nat} {s e t f : Nat} (h1 : ly_Lt b s e f) (h2 : ly_Lt b e t f) (h : e ≤ t) : ly_Lt b s t f := by
  obtain ⟨k, k1, k2, k3⟩ := h1
  obtain ⟨l, l1, l2, l3⟩ := h2
  by_cases c : k < l
  · exact ⟨k, by omega, fun i hi => (k2 i hi).trans (l2 i (by omega)), by rw [← l2 k c]; exact k3⟩
  · by_cases d : k = l
    · subst d
      exact ⟨k, l1, fun i hi => (k2 i hi).trans (l2 i hi), by omega⟩
    · exact ⟨l, l1, fun i hi => (k2 i (by omega)).trans (l2 i hi), by rw [k2 l (by omega)]; exact l3⟩
theorem ly_noninc {b : Nat → Nat} {n s e : Nat} (h : s < n) (hs : s = ly_st b n s) (he : e = ly_en b n s) (hen : e < n) : ¬ ly_wlt (ly_W b n s) (ly_W b n e) := by
  intro hw
  have h1 := ly_st_in b h
  have hse : s < e := by omega
  have hste : ly_st b n e = e := by
    cases e with
    | zero => omega
    | succ e =>
      have e2 : ly_en b n e = ly_en b n s := ly_en_same (by omega) (by omega)
      exact ly_st_t (by rw [e2]; exact he)
  have h2 := ly_st_in b hen
  rw [hste] at h2
  have hE1 := ly_isE_st b h
  rw [← hs, ← he] at hE1
  have hE2 := ly_isE_st b hen
  rw [hste] at hE2
  have f1 : ∀ i, s + i < e → ly_W b n s i = b (s + i) := fun i hi => congrArg b (ly_pos_fw b h i (by omega))
  have f2 : ∀ i, e + i < ly_en b n e → ly_W b n e i = b (e + i) := fun i hi => congrArg b (ly_pos_fw b hen i hi)
  have key : ly_Lt b s e (ly_en b n e) := by
    obtain ⟨k, k2, k3⟩ := hw
    by_cases c : e + k < ly_en b n e
    · by_cases d : s + k < e
      · refine ⟨k, c, fun i hi => ?_, ?_⟩
        · rw [← f1 i (by omega), ← f2 i (by omega)]; exact k2 i hi
        · rw [← f1 k d, ← f2 k c]; exact k3
      · -- the second begins with the first
        have hb : ∀ i, s + i < e → b (s + i) = b (e + i) := fun i hi => by
          rw [← f1 i hi, ← f2 i (by omega)]; exact k2 i (by omega)
        obtain ⟨m, m1, m2, m3⟩ := hE2.2.2.1 (e + (e - s)) (by omega) (by omega)
        refine ⟨e - s + m, by omega, fun i hi => ?_, ?_⟩
        · by_cases q : s + i < e
          · exact hb i q
          · have := m2 (i - (e - s)) (by omega)
            have e1 : e + (i - (e - s)) = s + i := by omega
            have e2 : e + (e - s) + (i - (e - s)) = e + i := by omega
            rw [e1, e2] at this
            exact this
        · have e1 : s + (e - s + m) = e + m := by omega
          have e2 : e + (e - s + m) = e + (e - s) + m := by omega
          rw [e1, e2]
          exact m3
    · by_cases d : e - s ≤ ly_en b n e - e
      · -- they agree all along the second, which is at least as long
        by_cases q : e - s = ly_en b n e - e
        · exfalso
          have hl : ly_l b n s = ly_l b n e := by unfold ly_l; rw [← hs, ← he, hste]; exact q
          have hp : ∀ i, ly_W b n e (i + ly_l b n s) = ly_W b n e i := fun i => by rw [hl]; exact ly_W_per b hen i
          have hall : ∀ i, ly_W b n s i = ly_W b n e i := by
            intro i
            induction i using Nat.strongRecOn with
            | ind i ih =>
              by_cases z : i < k
              · exact k2 i z
              · have hl2 : ly_l b n s = e - s := by unfold ly_l; rw [← hs, ← he]
                have e1 := ly_W_per b h (i - ly_l b n s)
                have e2 := hp (i - ly_l b n s)
                have e3 : i - ly_l b n s + ly_l b n s = i := by omega
                rw [e3] at e1 e2
                rw [e1, e2]
                exact ih _ (by omega)
          have := hall k
          omega
        · have hb : ∀ i, s + i < e → b (s + i) = b (e + i) := fun i hi => by
            rw [← f1 i hi, ← f2 i (by omega)]; exact k2 i (by omega)
          obtain ⟨m, m1, m2, m3⟩ := hE2.2.2.1 (e + (e - s)) (by omega) (by omega)
          refine ⟨e - s + m, by omega, fun i hi => ?_, ?_⟩
          · by_cases q : s + i < e
            · exact hb i q
            · have := m2 (i - (e - s)) (by omega)
              have e1 : e + (i - (e - s)) = s + i := by omega
              have e2 : e + (e - s) + (i - (e - s)) = e + i := by omega
              rw [e1, e2] at this
              exact this
          · have e1 : s + (e - s + m) = e + m := by omega
            have e2 : e + (e - s + m) = e + (e - s) + m := by omega
            rw [e1, e2]
            exact m3
      · -- the second is a proper beginning of the first: then its word is the smaller
        exfalso
        have hb : ∀ i, e + i < ly_en b n e → b (s + i) = b (e + i) := fun i hi => by
          rw [← f1 i (by omega), ← f2 i hi]; exact k2 i (by omega)
        have hl2 : ly_l b n e = ly_en b n e - e := by unfold ly_l; rw [hste]
        obtain ⟨m, m1, m2, m3⟩ := hE1.2.2.1 (s + (ly_en b n e - e)) (by omega) (by omega)
        have hper : ∀ i, i < ly_en b n e - e + m → ly_W b n s i = ly_W b n e i := by
          intro i
          induction i using Nat.strongRecOn with
          | ind i ih =>
            intro hi
            by_cases z : e + i < ly_en b n e
            · rw [f1 i (by omega), f2 i z]; exact hb i z
            · have e1 := ly_W_per b hen (i - ly_l b n e)
              have e3 : i - ly_l b n e + ly_l b n e = i := by omega
              rw [e3] at e1
              have e4 := m2 (i - (ly_en b n e - e)) (by omega)
              have e5 : s + (ly_en b n e - e) + (i - (ly_en b n e - e)) = s + i := by omega
              rw [e5] at e4
              rw [e1, ← ih _ (by omega) (by omega), hl2, f1 i (by omega), f1 _ (by omega)]
              exact e4.symm
        have hgt : ly_W b n e (ly_en b n e - e + m) < ly_W b n s (ly_en b n e - e + m) := by
          have e1 := ly_W_per b hen m
          rw [hl2, Nat.add_comm m] at e1
          rw [e1, ← hper m (by omega), f1 m (by omega), f1 _ (by omega)]
          have e5 : s + (ly_en b n e - e) + m = s + (ly_en b n e - e + m) := by omega
          rw [e5] at m3
          exact m3
        exact ly_wlt_as ⟨k, k2, k3⟩ ⟨ly_en b n e - e + m, fun i hi => (hper i hi).symm, hgt⟩
  refine hE1.2.2.2 (ly_en b n e) (by omega) h2.2.2 (fun t t1 t2 => ?_)
  by_cases c : t < e
  · obtain ⟨k, k1, k2, k3⟩ := hE1.2.2.1 t t1 c
    exact ⟨k, by omega, k2, k3⟩
  · by_cases d : t = e
    · rw [d]; exact key
    · exact ly_Lt_tr key (hE2.2.2.1 t (by omega) t2) (by omega)
