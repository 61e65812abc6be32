-- ===== the law's turns, wells .. =====
section LAW2
variable {L : Nat} {xs : Nat → Int32} {iv : xIv} {lg : xLg} {Q : xQ} {t i : Nat}
set_option maxRecDepth 100000 in
theorem cs_wells (hL : L ≤ 3072) (hi : i + 6 ≤ L) (hI : INV t iv lg) (ht : t < 512) (kk : ∀ iv' lg', INV (t + 1) iv' lg' → Wp L xs 0 986 [some (.ref 1000), some (.ref 0), some (.ref 79), some (.int (nI i))] [] SH RF iv' lg' Q) : Wp L xs 0 672 [some (.ref 1000), some (.ref 0), some (.ref 79), some (.int (nI i))] [] SH RF iv lg Q := by
  have v1 : vp_in (nI i + 1) L := by rw [show nI i + 1 = nI (i + 1) from ni_a i 1]; exact vp_N (by omega) (by omega)
  have v2 : vp_in (nI i + 2) L := by rw [show nI i + 2 = nI (i + 2) from ni_a i 2]; exact vp_N (by omega) (by omega)
  have v3 : vp_in (nI i + 3) L := by rw [show nI i + 3 = nI (i + 3) from ni_a i 3]; exact vp_N (by omega) (by omega)
  refine wgo [986] 200 ?_
  refine And.intro v1 ?_
  refine And.intro v2 ?_
  refine And.intro v3 ?_
  refine (e_wells _ _ _) hI ht (fun v iv1 lg1 hm => ?_)
  refine And.intro v1 ?_
  refine And.intro v2 ?_
  refine And.intro v3 ?_
  refine hm _ (fun iv2 lg2 I2 => ?_)
  exact And.intro (fun _ => kk iv2 lg2 I2) (fun z => absurd rfl z)
set_option maxRecDepth 100000 in
theorem cs_hold (hL : L ≤ 3072) (hi : i + 6 ≤ L) (hI : INV t iv lg) (ht : t < 512) (kk : ∀ iv' lg', INV (t + 1) iv' lg' → Wp L xs 0 986 [some (.ref 1000), some (.ref 0), some (.ref 79), some (.int (nI i))] [] SH RF iv' lg' Q) : Wp L xs 0 709 [some (.ref 1000), some (.ref 0), some (.ref 79), some (.int (nI i))] [] SH RF iv lg Q := by
  have v1 : vp_in (nI i + 1) L := by rw [show nI i + 1 = nI (i + 1) from ni_a i 1]; exact vp_N (by omega) (by omega)
  have v2 : vp_in (nI i + 2) L := by rw [show nI i + 2 = nI (i + 2) from ni_a i 2]; exact vp_N (by omega) (by omega)
  have v3 : vp_in (nI i + 3) L := by rw [show nI i + 3 = nI (i + 3) from ni_a i 3]; exact vp_N (by omega) (by omega)
  refine wgo [986] 200 ?_
  refine And.intro v1 ?_
  refine And.intro v2 ?_
  refine And.intro v3 ?_
  refine (e_hold _ _ _) hI ht (fun v iv1 lg1 hm => ?_)
  refine And.intro v1 ?_
  refine And.intro v2 ?_
  refine And.intro v3 ?_
  refine hm _ (fun iv2 lg2 I2 => ?_)
  exact And.intro (fun _ => kk iv2 lg2 I2) (fun z => absurd rfl z)
set_option maxRecDepth 100000 in
theorem cs_stops (hL : L ≤ 3072) (hi : i + 6 ≤ L) (hI : INV t iv lg) (ht : t < 512) (kk : ∀ iv' lg', INV (t + 1) iv' lg' → Wp L xs 0 986 [some (.ref 1000), some (.ref 0), some (.ref 79), some (.int (nI i))] [] SH RF iv' lg' Q) : Wp L xs 0 746 [some (.ref 1000), some (.ref 0), some (.ref 79), some (.int (nI i))] [] SH RF iv lg Q := by
  have v1 : vp_in (nI i + 1) L := by rw [show nI i + 1 = nI (i + 1) from ni_a i 1]; exact vp_N (by omega) (by omega)
  have v2 : vp_in (nI i + 2) L := by rw [show nI i + 2 = nI (i + 2) from ni_a i 2]; exact vp_N (by omega) (by omega)
  refine wgo [986] 200 ?_
  refine And.intro v1 ?_
  refine And.intro v2 ?_
  refine (e_stops _ _) hI ht (fun v iv1 lg1 hm => ?_)
  refine And.intro v1 ?_
  refine And.intro v2 ?_
  refine hm _ (fun iv2 lg2 I2 => ?_)
  exact And.intro (fun _ => kk iv2 lg2 I2) (fun z => absurd rfl z)
set_option maxRecDepth 100000 in
theorem cs_image (hL : L ≤ 3072) (hi : i + 6 ≤ L) (hI : INV t iv lg) (ht : t < 512) (kk : ∀ iv' lg', INV (t + 1) iv' lg' → Wp L xs 0 986 [some (.ref 1000), some (.ref 0), some (.ref 79), some (.int (nI i))] [] SH RF iv' lg' Q) : Wp L xs 0 773 [some (.ref 1000), some (.ref 0), some (.ref 79), some (.int (nI i))] [] SH RF iv lg Q := by
  refine wgo [986] 200 ?_
  refine e_image hI ht (fun v iv1 lg1 hm => ?_)
  refine hm _ (fun iv2 lg2 I2 => ?_)
  exact And.intro (fun _ => kk iv2 lg2 I2) (fun z => absurd rfl z)
set_option maxRecDepth 100000 in
theorem cs_restore (hL : L ≤ 3072) (hi : i + 6 ≤ L) (hI : INV t iv lg) (ht : t < 512) (kk : ∀ iv' lg', INV (t + 1) iv' lg' → Wp L xs 0 986 [some (.ref 1000), some (.ref 0), some (.ref 79), some (.int (nI i))] [] SH RF iv' lg' Q) : Wp L xs 0 780 [some (.ref 1000), some (.ref 0), some (.ref 79), some (.int (nI i))] [] SH RF iv lg Q := by
  refine wgo [986] 200 ?_
  refine e_restore hI ht (fun v iv1 lg1 hm => ?_)
  refine hm _ (fun iv2 lg2 I2 => ?_)
  exact And.intro (fun _ => kk iv2 lg2 I2) (fun z => absurd rfl z)
set_option maxRecDepth 100000 in
theorem cs_lies (hL : L ≤ 3072) (hi : i + 6 ≤ L) (hI : INV t iv lg) (ht : t < 512) (kk : ∀ iv' lg', INV (t + 1) iv' lg' → Wp L xs 0 986 [some (.ref 1000), some (.ref 0), some (.ref 79), some (.int (nI i))] [] SH RF iv' lg' Q) : Wp L xs 0 787 [some (.ref 1000), some (.ref 0), some (.ref 79), some (.int (nI i))] [] SH RF iv lg Q := by
  have v1 : vp_in (nI i + 1) L := by rw [show nI i + 1 = nI (i + 1) from ni_a i 1]; exact vp_N (by omega) (by omega)
  have v2 : vp_in (nI i + 2) L := by rw [show nI i + 2 = nI (i + 2) from ni_a i 2]; exact vp_N (by omega) (by omega)
  have v3 : vp_in (nI i + 3) L := by rw [show nI i + 3 = nI (i + 3) from ni_a i 3]; exact vp_N (by omega) (by omega)
  refine wgo [986] 200 ?_
  refine And.intro v1 ?_
  refine And.intro v2 ?_
  refine And.intro v3 ?_
  refine (e_lies _ _ _) hI ht (fun v iv1 lg1 hm => ?_)
  refine And.intro v1 ?_
  refine And.intro v2 ?_
  refine And.intro v3 ?_
  refine hm _ (fun iv2 lg2 I2 => ?_)
  exact And.intro (fun _ => kk iv2 lg2 I2) (fun z => absurd rfl z)
set_option maxRecDepth 100000 in
theorem cs_sheet (hL : L ≤ 3072) (hi : i + 6 ≤ L) (hI : INV t iv lg) (ht : t < 512) (kk : ∀ iv' lg', INV (t + 1) iv' lg' → Wp L xs 0 986 [some (.ref 1000), some (.ref 0), some (.ref 79), some (.int (nI i))] [] SH RF iv' lg' Q) : Wp L xs 0 824 [some (.ref 1000), some (.ref 0), some (.ref 79), some (.int (nI i))] [] SH RF iv lg Q := by
  have v1 : vp_in (nI i + 1) L := by rw [show nI i + 1 = nI (i + 1) from ni_a i 1]; exact vp_N (by omega) (by omega)
  have v2 : vp_in (nI i + 2) L := by rw [show nI i + 2 = nI (i + 2) from ni_a i 2]; exact vp_N (by omega) (by omega)
  have v3 : vp_in (nI i + 3) L := by rw [show nI i + 3 = nI (i + 3) from ni_a i 3]; exact vp_N (by omega) (by omega)
  refine wgo [986] 200 ?_
  refine And.intro v1 ?_
  refine And.intro v2 ?_
  refine And.intro v3 ?_
  refine (e_sheet _ _ _) hI ht (fun v iv1 lg1 hm => ?_)
  refine And.intro v1 ?_
  refine And.intro v2 ?_
  refine And.intro v3 ?_
  refine hm _ (fun iv2 lg2 I2 => ?_)
  exact And.intro (fun _ => kk iv2 lg2 I2) (fun z => absurd rfl z)
set_option maxRecDepth 100000 in
theorem cs_drop (hL : L ≤ 3072) (hi : i + 6 ≤ L) (hI : INV t iv lg) (ht : t < 512) (kk : ∀ iv' lg', INV (t + 1) iv' lg' → Wp L xs 0 986 [some (.ref 1000), some (.ref 0), some (.ref 79), some (.int (nI i))] [] SH RF iv' lg' Q) : Wp L xs 0 861 [some (.ref 1000), some (.ref 0), some (.ref 79), some (.int (nI i))] [] SH RF iv lg Q := by
  have v1 : vp_in (nI i + 1) L := by rw [show nI i + 1 = nI (i + 1) from ni_a i 1]; exact vp_N (by omega) (by omega)
  refine wgo [986] 200 ?_
  refine And.intro v1 ?_
  refine (e_drop _) hI ht (fun v iv1 lg1 hm => ?_)
  refine And.intro v1 ?_
  refine hm _ (fun iv2 lg2 I2 => ?_)
  exact And.intro (fun _ => kk iv2 lg2 I2) (fun z => absurd rfl z)
set_option maxRecDepth 100000 in
theorem cs_item (hL : L ≤ 3072) (hi : i + 6 ≤ L) (hI : INV t iv lg) (ht : t < 512) (kk : ∀ iv' lg', INV (t + 1) iv' lg' → Wp L xs 0 986 [some (.ref 1000), some (.ref 0), some (.ref 79), some (.int (nI i))] [] SH RF iv' lg' Q) : Wp L xs 0 878 [some (.ref 1000), some (.ref 0), some (.ref 79), some (.int (nI i))] [] SH RF iv lg Q := by
  have v1 : vp_in (nI i + 1) L := by rw [show nI i + 1 = nI (i + 1) from ni_a i 1]; exact vp_N (by omega) (by omega)
  have v2 : vp_in (nI i + 2) L := by rw [show nI i + 2 = nI (i + 2) from ni_a i 2]; exact vp_N (by omega) (by omega)
  have v3 : vp_in (nI i + 3) L := by rw [show nI i + 3 = nI (i + 3) from ni_a i 3]; exact vp_N (by omega) (by omega)
  have v4 : vp_in (nI i + 4) L := by rw [show nI i + 4 = nI (i + 4) from ni_a i 4]; exact vp_N (by omega) (by omega)
  have v5 : vp_in (nI i + 5) L := by rw [show nI i + 5 = nI (i + 5) from ni_a i 5]; exact vp_N (by omega) (by omega)
  refine wgo [986] 200 ?_
  refine And.intro v1 ?_
  refine And.intro v2 ?_
  refine And.intro v3 ?_
  refine And.intro v4 ?_
  refine And.intro v5 ?_
  refine (e_item _ _ _ _) hI ht (fun v iv1 lg1 hm => ?_)
  refine And.intro v1 ?_
  refine And.intro v2 ?_
  refine And.intro v3 ?_
  refine And.intro v4 ?_
  refine And.intro v5 ?_
  refine hm _ (fun iv2 lg2 I2 => ?_)
  exact And.intro (fun _ => kk iv2 lg2 I2) (fun z => absurd rfl z)
set_option maxRecDepth 100000 in
theorem cs_film (hL : L ≤ 3072) (hi : i + 6 ≤ L) (hI : INV t iv lg) (ht : t < 512) (kk : ∀ iv' lg', INV (t + 1) iv' lg' → Wp L xs 0 986 [some (.ref 1000), some (.ref 0), some (.ref 79), some (.int (nI i))] [] SH RF iv' lg' Q) : Wp L xs 0 949 [some (.ref 1000), some (.ref 0), some (.ref 79), some (.int (nI i))] [] SH RF iv lg Q := by
  have v1 : vp_in (nI i + 1) L := by rw [show nI i + 1 = nI (i + 1) from ni_a i 1]; exact vp_N (by omega) (by omega)
  have v2 : vp_in (nI i + 2) L := by rw [show nI i + 2 = nI (i + 2) from ni_a i 2]; exact vp_N (by omega) (by omega)
  have v3 : vp_in (nI i + 3) L := by rw [show nI i + 3 = nI (i + 3) from ni_a i 3]; exact vp_N (by omega) (by omega)
  refine wgo [986] 200 ?_
  refine And.intro v1 ?_
  refine And.intro v2 ?_
  refine And.intro v3 ?_
  refine (e_film _ _ _) hI ht (fun v iv1 lg1 hm => ?_)
  refine And.intro v1 ?_
  refine And.intro v2 ?_
  refine And.intro v3 ?_
  refine hm _ (fun iv2 lg2 I2 => ?_)
  exact And.intro (fun _ => kk iv2 lg2 I2) (fun z => absurd rfl z)
end LAW2
