-- ===== the law's turns, count .. =====
section LAW1
variable {L : Nat} {xs : Nat → Int32} {iv : xIv} {lg : xLg} {Q : xQ} {t i : Nat}
set_option maxRecDepth 100000 in
theorem cs_count (hL : L ≤ 3072) (hi : i + 6 ≤ L) (hI : INV t iv lg) (ht : t < 512) (kk : ∀ iv' lg', INV (t + 1) iv' lg' → Wp L xs 0 986 [some (.ref 1000), some (.ref 0), some (.ref 79), some (.int (nI i))] [] SH RF iv' lg' Q) : Wp L xs 0 378 [some (.ref 1000), some (.ref 0), some (.ref 79), some (.int (nI i))] [] SH RF iv lg Q := by
  have v1 : vp_in (nI i + 1) L := by rw [show nI i + 1 = nI (i + 1) from ni_a i 1]; exact vp_N (by omega) (by omega)
  refine wgo [986] 200 ?_
  refine And.intro v1 ?_
  refine (e_count _) hI ht (fun v iv1 lg1 hm => ?_)
  refine And.intro v1 ?_
  refine hm _ (fun iv2 lg2 I2 => ?_)
  exact And.intro (fun _ => kk iv2 lg2 I2) (fun z => absurd rfl z)
set_option maxRecDepth 100000 in
theorem cs_go (hL : L ≤ 3072) (hi : i + 6 ≤ L) (hI : INV t iv lg) (ht : t < 512) (kk : ∀ iv' lg', INV (t + 1) iv' lg' → Wp L xs 0 986 [some (.ref 1000), some (.ref 0), some (.ref 79), some (.int (nI i))] [] SH RF iv' lg' Q) : Wp L xs 0 395 [some (.ref 1000), some (.ref 0), some (.ref 79), some (.int (nI i))] [] SH RF iv lg Q := by
  have v1 : vp_in (nI i + 1) L := by rw [show nI i + 1 = nI (i + 1) from ni_a i 1]; exact vp_N (by omega) (by omega)
  have v2 : vp_in (nI i + 2) L := by rw [show nI i + 2 = nI (i + 2) from ni_a i 2]; exact vp_N (by omega) (by omega)
  refine wgo [986] 200 ?_
  refine And.intro v1 ?_
  refine And.intro v2 ?_
  refine (e_go _ _) hI ht (fun v iv1 lg1 hm => ?_)
  refine And.intro v1 ?_
  refine And.intro v2 ?_
  refine hm _ (fun iv2 lg2 I2 => ?_)
  exact And.intro (fun _ => kk iv2 lg2 I2) (fun z => absurd rfl z)
set_option maxRecDepth 100000 in
theorem cs_carry (hL : L ≤ 3072) (hi : i + 6 ≤ L) (hI : INV t iv lg) (ht : t < 512) (kk : ∀ iv' lg', INV (t + 1) iv' lg' → Wp L xs 0 986 [some (.ref 1000), some (.ref 0), some (.ref 79), some (.int (nI i))] [] SH RF iv' lg' Q) : Wp L xs 0 422 [some (.ref 1000), some (.ref 0), some (.ref 79), some (.int (nI i))] [] SH RF iv lg Q := by
  have v1 : vp_in (nI i + 1) L := by rw [show nI i + 1 = nI (i + 1) from ni_a i 1]; exact vp_N (by omega) (by omega)
  have v2 : vp_in (nI i + 2) L := by rw [show nI i + 2 = nI (i + 2) from ni_a i 2]; exact vp_N (by omega) (by omega)
  have v3 : vp_in (nI i + 3) L := by rw [show nI i + 3 = nI (i + 3) from ni_a i 3]; exact vp_N (by omega) (by omega)
  refine wgo [986] 200 ?_
  refine And.intro v1 ?_
  refine And.intro v2 ?_
  refine And.intro v3 ?_
  refine (e_carry _ _ _) hI ht (fun v iv1 lg1 hm => ?_)
  refine And.intro v1 ?_
  refine And.intro v2 ?_
  refine And.intro v3 ?_
  refine hm _ (fun iv2 lg2 I2 => ?_)
  exact And.intro (fun _ => kk iv2 lg2 I2) (fun z => absurd rfl z)
set_option maxRecDepth 100000 in
theorem cs_lend (hL : L ≤ 3072) (hi : i + 6 ≤ L) (hI : INV t iv lg) (ht : t < 512) (kk : ∀ iv' lg', INV (t + 1) iv' lg' → Wp L xs 0 986 [some (.ref 1000), some (.ref 0), some (.ref 79), some (.int (nI i))] [] SH RF iv' lg' Q) : Wp L xs 0 459 [some (.ref 1000), some (.ref 0), some (.ref 79), some (.int (nI i))] [] SH RF iv lg Q := by
  have v1 : vp_in (nI i + 1) L := by rw [show nI i + 1 = nI (i + 1) from ni_a i 1]; exact vp_N (by omega) (by omega)
  have v2 : vp_in (nI i + 2) L := by rw [show nI i + 2 = nI (i + 2) from ni_a i 2]; exact vp_N (by omega) (by omega)
  have v3 : vp_in (nI i + 3) L := by rw [show nI i + 3 = nI (i + 3) from ni_a i 3]; exact vp_N (by omega) (by omega)
  refine wgo [986] 200 ?_
  refine And.intro v1 ?_
  refine And.intro v2 ?_
  refine And.intro v3 ?_
  refine (e_lend _ _ _) hI ht (fun v iv1 lg1 hm => ?_)
  refine And.intro v1 ?_
  refine And.intro v2 ?_
  refine And.intro v3 ?_
  refine hm _ (fun iv2 lg2 I2 => ?_)
  exact And.intro (fun _ => kk iv2 lg2 I2) (fun z => absurd rfl z)
set_option maxRecDepth 100000 in
theorem cs_pay (hL : L ≤ 3072) (hi : i + 6 ≤ L) (hI : INV t iv lg) (ht : t < 512) (kk : ∀ iv' lg', INV (t + 1) iv' lg' → Wp L xs 0 986 [some (.ref 1000), some (.ref 0), some (.ref 79), some (.int (nI i))] [] SH RF iv' lg' Q) : Wp L xs 0 496 [some (.ref 1000), some (.ref 0), some (.ref 79), some (.int (nI i))] [] SH RF iv lg Q := by
  have v1 : vp_in (nI i + 1) L := by rw [show nI i + 1 = nI (i + 1) from ni_a i 1]; exact vp_N (by omega) (by omega)
  have v2 : vp_in (nI i + 2) L := by rw [show nI i + 2 = nI (i + 2) from ni_a i 2]; exact vp_N (by omega) (by omega)
  have v3 : vp_in (nI i + 3) L := by rw [show nI i + 3 = nI (i + 3) from ni_a i 3]; exact vp_N (by omega) (by omega)
  refine wgo [986] 200 ?_
  refine And.intro v1 ?_
  refine And.intro v2 ?_
  refine And.intro v3 ?_
  refine (e_pay _ _ _) hI ht (fun v iv1 lg1 hm => ?_)
  refine And.intro v1 ?_
  refine And.intro v2 ?_
  refine And.intro v3 ?_
  refine hm _ (fun iv2 lg2 I2 => ?_)
  exact And.intro (fun _ => kk iv2 lg2 I2) (fun z => absurd rfl z)
set_option maxRecDepth 100000 in
theorem cs_owes (hL : L ≤ 3072) (hi : i + 6 ≤ L) (hI : INV t iv lg) (ht : t < 512) (kk : ∀ iv' lg', INV (t + 1) iv' lg' → Wp L xs 0 986 [some (.ref 1000), some (.ref 0), some (.ref 79), some (.int (nI i))] [] SH RF iv' lg' Q) : Wp L xs 0 533 [some (.ref 1000), some (.ref 0), some (.ref 79), some (.int (nI i))] [] SH RF iv lg Q := by
  have v1 : vp_in (nI i + 1) L := by rw [show nI i + 1 = nI (i + 1) from ni_a i 1]; exact vp_N (by omega) (by omega)
  have v2 : vp_in (nI i + 2) L := by rw [show nI i + 2 = nI (i + 2) from ni_a i 2]; exact vp_N (by omega) (by omega)
  refine wgo [986] 200 ?_
  refine And.intro v1 ?_
  refine And.intro v2 ?_
  refine (e_owes _ _) hI ht (fun v iv1 lg1 hm => ?_)
  refine And.intro v1 ?_
  refine And.intro v2 ?_
  refine hm _ (fun iv2 lg2 I2 => ?_)
  exact And.intro (fun _ => kk iv2 lg2 I2) (fun z => absurd rfl z)
set_option maxRecDepth 100000 in
theorem cs_month (hL : L ≤ 3072) (hi : i + 6 ≤ L) (hI : INV t iv lg) (ht : t < 512) (kk : ∀ iv' lg', INV (t + 1) iv' lg' → Wp L xs 0 986 [some (.ref 1000), some (.ref 0), some (.ref 79), some (.int (nI i))] [] SH RF iv' lg' Q) : Wp L xs 0 560 [some (.ref 1000), some (.ref 0), some (.ref 79), some (.int (nI i))] [] SH RF iv lg Q := by
  refine wgo [986] 200 ?_
  refine e_month hI ht (fun v iv1 lg1 hm => ?_)
  refine hm _ (fun iv2 lg2 I2 => ?_)
  exact And.intro (fun _ => kk iv2 lg2 I2) (fun z => absurd rfl z)
set_option maxRecDepth 100000 in
theorem cs_meet (hL : L ≤ 3072) (hi : i + 6 ≤ L) (hI : INV t iv lg) (ht : t < 512) (kk : ∀ iv' lg', INV (t + 1) iv' lg' → Wp L xs 0 986 [some (.ref 1000), some (.ref 0), some (.ref 79), some (.int (nI i))] [] SH RF iv' lg' Q) : Wp L xs 0 567 [some (.ref 1000), some (.ref 0), some (.ref 79), some (.int (nI i))] [] SH RF iv lg Q := by
  have v1 : vp_in (nI i + 1) L := by rw [show nI i + 1 = nI (i + 1) from ni_a i 1]; exact vp_N (by omega) (by omega)
  have v2 : vp_in (nI i + 2) L := by rw [show nI i + 2 = nI (i + 2) from ni_a i 2]; exact vp_N (by omega) (by omega)
  have v3 : vp_in (nI i + 3) L := by rw [show nI i + 3 = nI (i + 3) from ni_a i 3]; exact vp_N (by omega) (by omega)
  refine wgo [986] 200 ?_
  refine And.intro v1 ?_
  refine And.intro v2 ?_
  refine And.intro v3 ?_
  refine (e_meet _ _ _) hI ht (fun v iv1 lg1 hm => ?_)
  refine And.intro v1 ?_
  refine And.intro v2 ?_
  refine And.intro v3 ?_
  refine hm _ (fun iv2 lg2 I2 => ?_)
  exact And.intro (fun _ => kk iv2 lg2 I2) (fun z => absurd rfl z)
set_option maxRecDepth 100000 in
theorem cs_errand (hL : L ≤ 3072) (hi : i + 6 ≤ L) (hI : INV t iv lg) (ht : t < 512) (kk : ∀ iv' lg', INV (t + 1) iv' lg' → Wp L xs 0 986 [some (.ref 1000), some (.ref 0), some (.ref 79), some (.int (nI i))] [] SH RF iv' lg' Q) : Wp L xs 0 604 [some (.ref 1000), some (.ref 0), some (.ref 79), some (.int (nI i))] [] SH RF iv lg Q := by
  have v1 : vp_in (nI i + 1) L := by rw [show nI i + 1 = nI (i + 1) from ni_a i 1]; exact vp_N (by omega) (by omega)
  refine wgo [986] 200 ?_
  refine And.intro v1 ?_
  refine (e_errand _) hI ht (fun v iv1 lg1 hm => ?_)
  refine And.intro v1 ?_
  refine hm _ (fun iv2 lg2 I2 => ?_)
  exact And.intro (fun _ => kk iv2 lg2 I2) (fun z => absurd rfl z)
set_option maxRecDepth 100000 in
theorem cs_rest (hL : L ≤ 3072) (hi : i + 6 ≤ L) (hI : INV t iv lg) (ht : t < 512) (kk : ∀ iv' lg', INV (t + 1) iv' lg' → Wp L xs 0 986 [some (.ref 1000), some (.ref 0), some (.ref 79), some (.int (nI i))] [] SH RF iv' lg' Q) : Wp L xs 0 621 [some (.ref 1000), some (.ref 0), some (.ref 79), some (.int (nI i))] [] SH RF iv lg Q := by
  refine wgo [986] 200 ?_
  refine e_rest hI ht (fun v iv1 lg1 hm => ?_)
  refine hm _ (fun iv2 lg2 I2 => ?_)
  exact And.intro (fun _ => kk iv2 lg2 I2) (fun z => absurd rfl z)
set_option maxRecDepth 100000 in
theorem cs_parted (hL : L ≤ 3072) (hi : i + 6 ≤ L) (hI : INV t iv lg) (ht : t < 512) (kk : ∀ iv' lg', INV (t + 1) iv' lg' → Wp L xs 0 986 [some (.ref 1000), some (.ref 0), some (.ref 79), some (.int (nI i))] [] SH RF iv' lg' Q) : Wp L xs 0 628 [some (.ref 1000), some (.ref 0), some (.ref 79), some (.int (nI i))] [] SH RF iv lg Q := by
  have v1 : vp_in (nI i + 1) L := by rw [show nI i + 1 = nI (i + 1) from ni_a i 1]; exact vp_N (by omega) (by omega)
  refine wgo [986] 200 ?_
  refine And.intro v1 ?_
  refine (e_parted _) hI ht (fun v iv1 lg1 hm => ?_)
  refine And.intro v1 ?_
  refine hm _ (fun iv2 lg2 I2 => ?_)
  exact And.intro (fun _ => kk iv2 lg2 I2) (fun z => absurd rfl z)
set_option maxRecDepth 100000 in
theorem cs_tour (hL : L ≤ 3072) (hi : i + 6 ≤ L) (hI : INV t iv lg) (ht : t < 512) (kk : ∀ iv' lg', INV (t + 1) iv' lg' → Wp L xs 0 986 [some (.ref 1000), some (.ref 0), some (.ref 79), some (.int (nI i))] [] SH RF iv' lg' Q) : Wp L xs 0 645 [some (.ref 1000), some (.ref 0), some (.ref 79), some (.int (nI i))] [] SH RF iv lg Q := by
  have v1 : vp_in (nI i + 1) L := by rw [show nI i + 1 = nI (i + 1) from ni_a i 1]; exact vp_N (by omega) (by omega)
  have v2 : vp_in (nI i + 2) L := by rw [show nI i + 2 = nI (i + 2) from ni_a i 2]; exact vp_N (by omega) (by omega)
  refine wgo [986] 200 ?_
  refine And.intro v1 ?_
  refine And.intro v2 ?_
  refine (e_tour _ _) hI ht (fun v iv1 lg1 hm => ?_)
  refine And.intro v1 ?_
  refine And.intro v2 ?_
  refine hm _ (fun iv2 lg2 I2 => ?_)
  exact And.intro (fun _ => kk iv2 lg2 I2) (fun z => absurd rfl z)
end LAW1
