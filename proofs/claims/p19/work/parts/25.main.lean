theorem i_vc (xs : Nat → Int32) (L : Nat) (hL : L ≤ 260) : wpL_law (fun r => r = 1) L xs := by
  unfold wpL_law
  refine lz_cell (k := 0) hL (by decide) (fun r1 => lz_mod (q := 20) (by decide) (by decide) (fun s hs => lz_cell (k := 1) hL (by decide) (fun r3 => lz_mod (q := 23) (by decide) (by decide) (fun j hj => nm_e ?_))))
  refine pk_le 2 s (fun h => pk_le s 16 (fun h2 => lz_50 hL h h2) (fun _ => lz_50 (κ := 16) hL (by decide) (by decide))) (fun _ => lz_50 (κ := 2) hL (by decide) (by decide))
