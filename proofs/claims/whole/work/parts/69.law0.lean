-- ===== the law's turns, way .. =====
section LAW0
variable {L : Nat} {xs : Nat → Int32} {iv : xIv} {lg : xLg} {Q : xQ} {t i : Nat}
set_option maxRecDepth 100000 in
theorem cs_way (hL : L ≤ 3072) (hi : i + 6 ≤ L) (hI : INV t iv lg) (ht : t < 512) (kk : ∀ iv' lg', INV (t + 1) iv' lg' → Wp L xs 0 986 [some (.ref 1000), some (.ref 0), some (.ref 79), some (.int (nI i))] [] SH RF iv' lg' Q) : Wp L xs 0 22 [some (.ref 1000), some (.ref 0), some (.ref 79), some (.int (nI i))] [] SH RF iv lg Q := by
  have v1 : vp_in (nI i + 1) L := by rw [show nI i + 1 = nI (i + 1) from ni_a i 1]; exact vp_N (by omega) (by omega)
  have v2 : vp_in (nI i + 2) L := by rw [show nI i + 2 = nI (i + 2) from ni_a i 2]; exact vp_N (by omega) (by omega)
  have v3 : vp_in (nI i + 3) L := by rw [show nI i + 3 = nI (i + 3) from ni_a i 3]; exact vp_N (by omega) (by omega)
  have v4 : vp_in (nI i + 4) L := by rw [show nI i + 4 = nI (i + 4) from ni_a i 4]; exact vp_N (by omega) (by omega)
  refine wgo [986] 200 ?_
  refine And.intro v1 ?_
  refine And.intro v2 ?_
  refine And.intro v3 ?_
  refine And.intro v4 ?_
  refine (e_way _ _ _ _) hI ht (fun v iv1 lg1 hm => ?_)
  refine And.intro v1 ?_
  refine And.intro v2 ?_
  refine And.intro v3 ?_
  refine And.intro v4 ?_
  refine hm _ (fun iv2 lg2 I2 => ?_)
  exact And.intro (fun _ => kk iv2 lg2 I2) (fun z => absurd rfl z)
set_option maxRecDepth 100000 in
theorem cs_gate (hL : L ≤ 3072) (hi : i + 6 ≤ L) (hI : INV t iv lg) (ht : t < 512) (kk : ∀ iv' lg', INV (t + 1) iv' lg' → Wp L xs 0 986 [some (.ref 1000), some (.ref 0), some (.ref 79), some (.int (nI i))] [] SH RF iv' lg' Q) : Wp L xs 0 69 [some (.ref 1000), some (.ref 0), some (.ref 79), some (.int (nI i))] [] SH RF iv lg Q := by
  have v1 : vp_in (nI i + 1) L := by rw [show nI i + 1 = nI (i + 1) from ni_a i 1]; exact vp_N (by omega) (by omega)
  have v2 : vp_in (nI i + 2) L := by rw [show nI i + 2 = nI (i + 2) from ni_a i 2]; exact vp_N (by omega) (by omega)
  refine wgo [986] 200 ?_
  refine And.intro v1 ?_
  refine And.intro v2 ?_
  refine And.intro (fun z => ?_) (fun z => ?_)
  · refine (e_gate _ _) hI ht (fun v iv1 lg1 hm => ?_)
    refine And.intro v1 ?_
    refine And.intro v2 ?_
    refine And.intro (fun _ => ?_) (fun w => absurd z w)
    refine hm _ (fun iv2 lg2 I2 => ?_)
    exact And.intro (fun _ => kk iv2 lg2 I2) (fun z => absurd rfl z)
  · refine (e_gate _ _) hI ht (fun v iv1 lg1 hm => ?_)
    refine And.intro v1 ?_
    refine And.intro v2 ?_
    refine And.intro (fun w => absurd w z) (fun _ => ?_)
    refine hm _ (fun iv2 lg2 I2 => ?_)
    exact And.intro (fun _ => kk iv2 lg2 I2) (fun z => absurd rfl z)
set_option maxRecDepth 100000 in
theorem cs_told (hL : L ≤ 3072) (hi : i + 6 ≤ L) (hI : INV t iv lg) (ht : t < 512) (kk : ∀ iv' lg', INV (t + 1) iv' lg' → Wp L xs 0 986 [some (.ref 1000), some (.ref 0), some (.ref 79), some (.int (nI i))] [] SH RF iv' lg' Q) : Wp L xs 0 104 [some (.ref 1000), some (.ref 0), some (.ref 79), some (.int (nI i))] [] SH RF iv lg Q := by
  have v1 : vp_in (nI i + 1) L := by rw [show nI i + 1 = nI (i + 1) from ni_a i 1]; exact vp_N (by omega) (by omega)
  have v2 : vp_in (nI i + 2) L := by rw [show nI i + 2 = nI (i + 2) from ni_a i 2]; exact vp_N (by omega) (by omega)
  refine wgo [986] 200 ?_
  refine And.intro v1 ?_
  refine And.intro v2 ?_
  refine (e_told _ _) hI ht (fun v iv1 lg1 hm => ?_)
  refine And.intro v1 ?_
  refine And.intro v2 ?_
  refine hm _ (fun iv2 lg2 I2 => ?_)
  exact And.intro (fun _ => kk iv2 lg2 I2) (fun z => absurd rfl z)
set_option maxRecDepth 100000 in
theorem cs_person (hL : L ≤ 3072) (hi : i + 6 ≤ L) (hI : INV t iv lg) (ht : t < 512) (kk : ∀ iv' lg', INV (t + 1) iv' lg' → Wp L xs 0 986 [some (.ref 1000), some (.ref 0), some (.ref 79), some (.int (nI i))] [] SH RF iv' lg' Q) : Wp L xs 0 131 [some (.ref 1000), some (.ref 0), some (.ref 79), some (.int (nI i))] [] SH RF iv lg Q := by
  have v1 : vp_in (nI i + 1) L := by rw [show nI i + 1 = nI (i + 1) from ni_a i 1]; exact vp_N (by omega) (by omega)
  have v2 : vp_in (nI i + 2) L := by rw [show nI i + 2 = nI (i + 2) from ni_a i 2]; exact vp_N (by omega) (by omega)
  have v3 : vp_in (nI i + 3) L := by rw [show nI i + 3 = nI (i + 3) from ni_a i 3]; exact vp_N (by omega) (by omega)
  refine wgo [986] 200 ?_
  refine And.intro v1 ?_
  refine And.intro v2 ?_
  refine And.intro v3 ?_
  refine (e_person _ _ _) hI ht (fun v iv1 lg1 hm => ?_)
  refine And.intro v1 ?_
  refine And.intro v2 ?_
  refine And.intro v3 ?_
  refine hm _ (fun iv2 lg2 I2 => ?_)
  exact And.intro (fun _ => kk iv2 lg2 I2) (fun z => absurd rfl z)
set_option maxRecDepth 100000 in
theorem cs_of (hL : L ≤ 3072) (hi : i + 6 ≤ L) (hI : INV t iv lg) (ht : t < 512) (kk : ∀ iv' lg', INV (t + 1) iv' lg' → Wp L xs 0 986 [some (.ref 1000), some (.ref 0), some (.ref 79), some (.int (nI i))] [] SH RF iv' lg' Q) : Wp L xs 0 168 [some (.ref 1000), some (.ref 0), some (.ref 79), some (.int (nI i))] [] SH RF iv lg Q := by
  have v1 : vp_in (nI i + 1) L := by rw [show nI i + 1 = nI (i + 1) from ni_a i 1]; exact vp_N (by omega) (by omega)
  have v2 : vp_in (nI i + 2) L := by rw [show nI i + 2 = nI (i + 2) from ni_a i 2]; exact vp_N (by omega) (by omega)
  refine wgo [986] 200 ?_
  refine And.intro v1 ?_
  refine And.intro v2 ?_
  refine (e_of _ _) hI ht (fun v iv1 lg1 hm => ?_)
  refine And.intro v1 ?_
  refine And.intro v2 ?_
  refine hm _ (fun iv2 lg2 I2 => ?_)
  exact And.intro (fun _ => kk iv2 lg2 I2) (fun z => absurd rfl z)
set_option maxRecDepth 100000 in
theorem cs_costs (hL : L ≤ 3072) (hi : i + 6 ≤ L) (hI : INV t iv lg) (ht : t < 512) (kk : ∀ iv' lg', INV (t + 1) iv' lg' → Wp L xs 0 986 [some (.ref 1000), some (.ref 0), some (.ref 79), some (.int (nI i))] [] SH RF iv' lg' Q) : Wp L xs 0 195 [some (.ref 1000), some (.ref 0), some (.ref 79), some (.int (nI i))] [] SH RF iv lg Q := by
  have v1 : vp_in (nI i + 1) L := by rw [show nI i + 1 = nI (i + 1) from ni_a i 1]; exact vp_N (by omega) (by omega)
  have v2 : vp_in (nI i + 2) L := by rw [show nI i + 2 = nI (i + 2) from ni_a i 2]; exact vp_N (by omega) (by omega)
  have v3 : vp_in (nI i + 3) L := by rw [show nI i + 3 = nI (i + 3) from ni_a i 3]; exact vp_N (by omega) (by omega)
  refine wgo [986] 200 ?_
  refine And.intro v1 ?_
  refine And.intro v2 ?_
  refine And.intro v3 ?_
  refine (e_costs _ _ _) hI ht (fun v iv1 lg1 hm => ?_)
  refine And.intro v1 ?_
  refine And.intro v2 ?_
  refine And.intro v3 ?_
  refine hm _ (fun iv2 lg2 I2 => ?_)
  exact And.intro (fun _ => kk iv2 lg2 I2) (fun z => absurd rfl z)
set_option maxRecDepth 100000 in
theorem cs_far (hL : L ≤ 3072) (hi : i + 6 ≤ L) (hI : INV t iv lg) (ht : t < 512) (kk : ∀ iv' lg', INV (t + 1) iv' lg' → Wp L xs 0 986 [some (.ref 1000), some (.ref 0), some (.ref 79), some (.int (nI i))] [] SH RF iv' lg' Q) : Wp L xs 0 232 [some (.ref 1000), some (.ref 0), some (.ref 79), some (.int (nI i))] [] SH RF iv lg Q := by
  have v1 : vp_in (nI i + 1) L := by rw [show nI i + 1 = nI (i + 1) from ni_a i 1]; exact vp_N (by omega) (by omega)
  have v2 : vp_in (nI i + 2) L := by rw [show nI i + 2 = nI (i + 2) from ni_a i 2]; exact vp_N (by omega) (by omega)
  have v3 : vp_in (nI i + 3) L := by rw [show nI i + 3 = nI (i + 3) from ni_a i 3]; exact vp_N (by omega) (by omega)
  refine wgo [986] 200 ?_
  refine And.intro v1 ?_
  refine And.intro v2 ?_
  refine And.intro v3 ?_
  refine (e_far _ _ _) hI ht (fun v iv1 lg1 hm => ?_)
  refine And.intro v1 ?_
  refine And.intro v2 ?_
  refine And.intro v3 ?_
  refine hm _ (fun iv2 lg2 I2 => ?_)
  exact And.intro (fun _ => kk iv2 lg2 I2) (fun z => absurd rfl z)
set_option maxRecDepth 100000 in
theorem cs_given (hL : L ≤ 3072) (hi : i + 6 ≤ L) (hI : INV t iv lg) (ht : t < 512) (kk : ∀ iv' lg', INV (t + 1) iv' lg' → Wp L xs 0 986 [some (.ref 1000), some (.ref 0), some (.ref 79), some (.int (nI i))] [] SH RF iv' lg' Q) : Wp L xs 0 269 [some (.ref 1000), some (.ref 0), some (.ref 79), some (.int (nI i))] [] SH RF iv lg Q := by
  have v1 : vp_in (nI i + 1) L := by rw [show nI i + 1 = nI (i + 1) from ni_a i 1]; exact vp_N (by omega) (by omega)
  have v2 : vp_in (nI i + 2) L := by rw [show nI i + 2 = nI (i + 2) from ni_a i 2]; exact vp_N (by omega) (by omega)
  refine wgo [986] 200 ?_
  refine And.intro v1 ?_
  refine And.intro v2 ?_
  refine (e_given _ _) hI ht (fun v iv1 lg1 hm => ?_)
  refine And.intro v1 ?_
  refine And.intro v2 ?_
  refine hm _ (fun iv2 lg2 I2 => ?_)
  exact And.intro (fun _ => kk iv2 lg2 I2) (fun z => absurd rfl z)
set_option maxRecDepth 100000 in
theorem cs_rule (hL : L ≤ 3072) (hi : i + 6 ≤ L) (hI : INV t iv lg) (ht : t < 512) (kk : ∀ iv' lg', INV (t + 1) iv' lg' → Wp L xs 0 986 [some (.ref 1000), some (.ref 0), some (.ref 79), some (.int (nI i))] [] SH RF iv' lg' Q) : Wp L xs 0 296 [some (.ref 1000), some (.ref 0), some (.ref 79), some (.int (nI i))] [] SH RF iv lg Q := by
  have v1 : vp_in (nI i + 1) L := by rw [show nI i + 1 = nI (i + 1) from ni_a i 1]; exact vp_N (by omega) (by omega)
  refine wgo [986] 200 ?_
  refine And.intro v1 ?_
  refine (e_rule _) hI ht (fun v iv1 lg1 hm => ?_)
  refine And.intro v1 ?_
  refine hm _ (fun iv2 lg2 I2 => ?_)
  exact And.intro (fun _ => kk iv2 lg2 I2) (fun z => absurd rfl z)
set_option maxRecDepth 100000 in
theorem cs_type (hL : L ≤ 3072) (hi : i + 6 ≤ L) (hI : INV t iv lg) (ht : t < 512) (kk : ∀ iv' lg', INV (t + 1) iv' lg' → Wp L xs 0 986 [some (.ref 1000), some (.ref 0), some (.ref 79), some (.int (nI i))] [] SH RF iv' lg' Q) : Wp L xs 0 313 [some (.ref 1000), some (.ref 0), some (.ref 79), some (.int (nI i))] [] SH RF iv lg Q := by
  have v1 : vp_in (nI i + 1) L := by rw [show nI i + 1 = nI (i + 1) from ni_a i 1]; exact vp_N (by omega) (by omega)
  have v2 : vp_in (nI i + 2) L := by rw [show nI i + 2 = nI (i + 2) from ni_a i 2]; exact vp_N (by omega) (by omega)
  have v3 : vp_in (nI i + 3) L := by rw [show nI i + 3 = nI (i + 3) from ni_a i 3]; exact vp_N (by omega) (by omega)
  refine wgo [986] 200 ?_
  refine And.intro v1 ?_
  refine And.intro v2 ?_
  refine And.intro v3 ?_
  refine (e_type _ _) hI ht (fun v iv1 lg1 hm => ?_)
  refine And.intro v1 ?_
  refine And.intro v2 ?_
  refine And.intro v3 ?_
  refine hm _ (fun iv2 lg2 I2 => ?_)
  exact And.intro (fun _ => kk iv2 lg2 I2) (fun z => absurd rfl z)
set_option maxRecDepth 100000 in
theorem cs_town (hL : L ≤ 3072) (hi : i + 6 ≤ L) (hI : INV t iv lg) (ht : t < 512) (kk : ∀ iv' lg', INV (t + 1) iv' lg' → Wp L xs 0 986 [some (.ref 1000), some (.ref 0), some (.ref 79), some (.int (nI i))] [] SH RF iv' lg' Q) : Wp L xs 0 364 [some (.ref 1000), some (.ref 0), some (.ref 79), some (.int (nI i))] [] SH RF iv lg Q := by
  refine wgo [986] 200 ?_
  refine e_town hI ht (fun v iv1 lg1 hm => ?_)
  refine hm _ (fun iv2 lg2 I2 => ?_)
  exact And.intro (fun _ => kk iv2 lg2 I2) (fun z => absurd rfl z)
set_option maxRecDepth 100000 in
theorem cs_people (hL : L ≤ 3072) (hi : i + 6 ≤ L) (hI : INV t iv lg) (ht : t < 512) (kk : ∀ iv' lg', INV (t + 1) iv' lg' → Wp L xs 0 986 [some (.ref 1000), some (.ref 0), some (.ref 79), some (.int (nI i))] [] SH RF iv' lg' Q) : Wp L xs 0 371 [some (.ref 1000), some (.ref 0), some (.ref 79), some (.int (nI i))] [] SH RF iv lg Q := by
  refine wgo [986] 200 ?_
  refine e_people hI ht (fun v iv1 lg1 hm => ?_)
  refine hm _ (fun iv2 lg2 I2 => ?_)
  exact And.intro (fun _ => kk iv2 lg2 I2) (fun z => absurd rfl z)
end LAW0
