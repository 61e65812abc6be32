-- ===== wells: the account =====
abbrev wE : Type := List Nat × Nat × Nat
def wl1 : List wE := [
  ([0], 1, 2048), ([1], 2, 1024), ([2], 4, 512), ([3], 8, 256), ([4], 16, 128), ([5], 32, 64),
  ([6], 64, 32), ([7], 128, 16), ([8], 256, 8), ([9], 512, 4), ([10], 1024, 2), ([11], 2048, 1)]
def wl2 : List wE := [
  ([0, 1], 3, 3072), ([0, 2], 5, 2560), ([0, 3], 9, 2304), ([0, 4], 17, 2176), ([0, 5], 33, 2112), ([0, 6], 65, 2080),
  ([0, 7], 129, 2064), ([0, 8], 257, 2056), ([0, 9], 513, 2052), ([0, 10], 1025, 2050), ([0, 11], 2049, 2049), ([1, 2], 6, 1536),
  ([1, 3], 10, 1280), ([1, 4], 18, 1152), ([1, 5], 34, 1088), ([1, 6], 66, 1056), ([1, 7], 130, 1040), ([1, 8], 258, 1032),
  ([1, 9], 514, 1028), ([1, 10], 1026, 1026), ([1, 11], 2050, 1025), ([2, 3], 12, 768), ([2, 4], 20, 640), ([2, 5], 36, 576),
  ([2, 6], 68, 544), ([2, 7], 132, 528), ([2, 8], 260, 520), ([2, 9], 516, 516), ([2, 10], 1028, 514), ([2, 11], 2052, 513),
  ([3, 4], 24, 384), ([3, 5], 40, 320), ([3, 6], 72, 288), ([3, 7], 136, 272), ([3, 8], 264, 264), ([3, 9], 520, 260),
  ([3, 10], 1032, 258), ([3, 11], 2056, 257), ([4, 5], 48, 192), ([4, 6], 80, 160), ([4, 7], 144, 144), ([4, 8], 272, 136),
  ([4, 9], 528, 132), ([4, 10], 1040, 130), ([4, 11], 2064, 129), ([5, 6], 96, 96), ([5, 7], 160, 80), ([5, 8], 288, 72),
  ([5, 9], 544, 68), ([5, 10], 1056, 66), ([5, 11], 2080, 65), ([6, 7], 192, 48), ([6, 8], 320, 40), ([6, 9], 576, 36),
  ([6, 10], 1088, 34), ([6, 11], 2112, 33), ([7, 8], 384, 24), ([7, 9], 640, 20), ([7, 10], 1152, 18), ([7, 11], 2176, 17),
  ([8, 9], 768, 12), ([8, 10], 1280, 10), ([8, 11], 2304, 9), ([9, 10], 1536, 6), ([9, 11], 2560, 5), ([10, 11], 3072, 3)]
def wl3 : List wE := [
  ([0, 1, 2], 7, 3584), ([0, 1, 3], 11, 3328), ([0, 1, 4], 19, 3200), ([0, 1, 5], 35, 3136), ([0, 1, 6], 67, 3104), ([0, 1, 7], 131, 3088),
  ([0, 1, 8], 259, 3080), ([0, 1, 9], 515, 3076), ([0, 1, 10], 1027, 3074), ([0, 1, 11], 2051, 3073), ([0, 2, 3], 13, 2816), ([0, 2, 4], 21, 2688),
  ([0, 2, 5], 37, 2624), ([0, 2, 6], 69, 2592), ([0, 2, 7], 133, 2576), ([0, 2, 8], 261, 2568), ([0, 2, 9], 517, 2564), ([0, 2, 10], 1029, 2562),
  ([0, 2, 11], 2053, 2561), ([0, 3, 4], 25, 2432), ([0, 3, 5], 41, 2368), ([0, 3, 6], 73, 2336), ([0, 3, 7], 137, 2320), ([0, 3, 8], 265, 2312),
  ([0, 3, 9], 521, 2308), ([0, 3, 10], 1033, 2306), ([0, 3, 11], 2057, 2305), ([0, 4, 5], 49, 2240), ([0, 4, 6], 81, 2208), ([0, 4, 7], 145, 2192),
  ([0, 4, 8], 273, 2184), ([0, 4, 9], 529, 2180), ([0, 4, 10], 1041, 2178), ([0, 4, 11], 2065, 2177), ([0, 5, 6], 97, 2144), ([0, 5, 7], 161, 2128),
  ([0, 5, 8], 289, 2120), ([0, 5, 9], 545, 2116), ([0, 5, 10], 1057, 2114), ([0, 5, 11], 2081, 2113), ([0, 6, 7], 193, 2096), ([0, 6, 8], 321, 2088),
  ([0, 6, 9], 577, 2084), ([0, 6, 10], 1089, 2082), ([0, 6, 11], 2113, 2081), ([0, 7, 8], 385, 2072), ([0, 7, 9], 641, 2068), ([0, 7, 10], 1153, 2066),
  ([0, 7, 11], 2177, 2065), ([0, 8, 9], 769, 2060), ([0, 8, 10], 1281, 2058), ([0, 8, 11], 2305, 2057), ([0, 9, 10], 1537, 2054), ([0, 9, 11], 2561, 2053),
  ([0, 10, 11], 3073, 2051), ([1, 2, 3], 14, 1792), ([1, 2, 4], 22, 1664), ([1, 2, 5], 38, 1600), ([1, 2, 6], 70, 1568), ([1, 2, 7], 134, 1552),
  ([1, 2, 8], 262, 1544), ([1, 2, 9], 518, 1540), ([1, 2, 10], 1030, 1538), ([1, 2, 11], 2054, 1537), ([1, 3, 4], 26, 1408), ([1, 3, 5], 42, 1344),
  ([1, 3, 6], 74, 1312), ([1, 3, 7], 138, 1296), ([1, 3, 8], 266, 1288), ([1, 3, 9], 522, 1284), ([1, 3, 10], 1034, 1282), ([1, 3, 11], 2058, 1281),
  ([1, 4, 5], 50, 1216), ([1, 4, 6], 82, 1184), ([1, 4, 7], 146, 1168), ([1, 4, 8], 274, 1160), ([1, 4, 9], 530, 1156), ([1, 4, 10], 1042, 1154),
  ([1, 4, 11], 2066, 1153), ([1, 5, 6], 98, 1120), ([1, 5, 7], 162, 1104), ([1, 5, 8], 290, 1096), ([1, 5, 9], 546, 1092), ([1, 5, 10], 1058, 1090),
  ([1, 5, 11], 2082, 1089), ([1, 6, 7], 194, 1072), ([1, 6, 8], 322, 1064), ([1, 6, 9], 578, 1060), ([1, 6, 10], 1090, 1058), ([1, 6, 11], 2114, 1057),
  ([1, 7, 8], 386, 1048), ([1, 7, 9], 642, 1044), ([1, 7, 10], 1154, 1042), ([1, 7, 11], 2178, 1041), ([1, 8, 9], 770, 1036), ([1, 8, 10], 1282, 1034),
  ([1, 8, 11], 2306, 1033), ([1, 9, 10], 1538, 1030), ([1, 9, 11], 2562, 1029), ([1, 10, 11], 3074, 1027), ([2, 3, 4], 28, 896), ([2, 3, 5], 44, 832),
  ([2, 3, 6], 76, 800), ([2, 3, 7], 140, 784), ([2, 3, 8], 268, 776), ([2, 3, 9], 524, 772), ([2, 3, 10], 1036, 770), ([2, 3, 11], 2060, 769),
  ([2, 4, 5], 52, 704), ([2, 4, 6], 84, 672), ([2, 4, 7], 148, 656), ([2, 4, 8], 276, 648), ([2, 4, 9], 532, 644), ([2, 4, 10], 1044, 642),
  ([2, 4, 11], 2068, 641), ([2, 5, 6], 100, 608), ([2, 5, 7], 164, 592), ([2, 5, 8], 292, 584), ([2, 5, 9], 548, 580), ([2, 5, 10], 1060, 578),
  ([2, 5, 11], 2084, 577), ([2, 6, 7], 196, 560), ([2, 6, 8], 324, 552), ([2, 6, 9], 580, 548), ([2, 6, 10], 1092, 546), ([2, 6, 11], 2116, 545),
  ([2, 7, 8], 388, 536), ([2, 7, 9], 644, 532), ([2, 7, 10], 1156, 530), ([2, 7, 11], 2180, 529), ([2, 8, 9], 772, 524), ([2, 8, 10], 1284, 522),
  ([2, 8, 11], 2308, 521), ([2, 9, 10], 1540, 518), ([2, 9, 11], 2564, 517), ([2, 10, 11], 3076, 515), ([3, 4, 5], 56, 448), ([3, 4, 6], 88, 416),
  ([3, 4, 7], 152, 400), ([3, 4, 8], 280, 392), ([3, 4, 9], 536, 388), ([3, 4, 10], 1048, 386), ([3, 4, 11], 2072, 385), ([3, 5, 6], 104, 352),
  ([3, 5, 7], 168, 336), ([3, 5, 8], 296, 328), ([3, 5, 9], 552, 324), ([3, 5, 10], 1064, 322), ([3, 5, 11], 2088, 321), ([3, 6, 7], 200, 304),
  ([3, 6, 8], 328, 296), ([3, 6, 9], 584, 292), ([3, 6, 10], 1096, 290), ([3, 6, 11], 2120, 289), ([3, 7, 8], 392, 280), ([3, 7, 9], 648, 276),
  ([3, 7, 10], 1160, 274), ([3, 7, 11], 2184, 273), ([3, 8, 9], 776, 268), ([3, 8, 10], 1288, 266), ([3, 8, 11], 2312, 265), ([3, 9, 10], 1544, 262),
  ([3, 9, 11], 2568, 261), ([3, 10, 11], 3080, 259), ([4, 5, 6], 112, 224), ([4, 5, 7], 176, 208), ([4, 5, 8], 304, 200), ([4, 5, 9], 560, 196),
  ([4, 5, 10], 1072, 194), ([4, 5, 11], 2096, 193), ([4, 6, 7], 208, 176), ([4, 6, 8], 336, 168), ([4, 6, 9], 592, 164), ([4, 6, 10], 1104, 162),
  ([4, 6, 11], 2128, 161), ([4, 7, 8], 400, 152), ([4, 7, 9], 656, 148), ([4, 7, 10], 1168, 146), ([4, 7, 11], 2192, 145), ([4, 8, 9], 784, 140),
  ([4, 8, 10], 1296, 138), ([4, 8, 11], 2320, 137), ([4, 9, 10], 1552, 134), ([4, 9, 11], 2576, 133), ([4, 10, 11], 3088, 131), ([5, 6, 7], 224, 112),
  ([5, 6, 8], 352, 104), ([5, 6, 9], 608, 100), ([5, 6, 10], 1120, 98), ([5, 6, 11], 2144, 97), ([5, 7, 8], 416, 88), ([5, 7, 9], 672, 84),
  ([5, 7, 10], 1184, 82), ([5, 7, 11], 2208, 81), ([5, 8, 9], 800, 76), ([5, 8, 10], 1312, 74), ([5, 8, 11], 2336, 73), ([5, 9, 10], 1568, 70),
  ([5, 9, 11], 2592, 69), ([5, 10, 11], 3104, 67), ([6, 7, 8], 448, 56), ([6, 7, 9], 704, 52), ([6, 7, 10], 1216, 50), ([6, 7, 11], 2240, 49),
  ([6, 8, 9], 832, 44), ([6, 8, 10], 1344, 42), ([6, 8, 11], 2368, 41), ([6, 9, 10], 1600, 38), ([6, 9, 11], 2624, 37), ([6, 10, 11], 3136, 35),
  ([7, 8, 9], 896, 28), ([7, 8, 10], 1408, 26), ([7, 8, 11], 2432, 25), ([7, 9, 10], 1664, 22), ([7, 9, 11], 2688, 21), ([7, 10, 11], 3200, 19),
  ([8, 9, 10], 1792, 14), ([8, 9, 11], 2816, 13), ([8, 10, 11], 3328, 11), ([9, 10, 11], 3584, 7)]
def wlK (k : Nat) : List wE := match k with
  | 1 => wl1
  | 2 => wl2
  | _ => wl3
/-- the next row of places -/
def nxR : List Nat → Option (List Nat)
  | [a] => if a = 11 then none else some [a + 1]
  | [a, b] => if b = 11 then (if a = 10 then none else some [a + 1, a + 2]) else some [a, b + 1]
  | [a, b, c] => if c = 11 then (if b = 10 then (if a = 9 then none else some [a + 1, a + 2, a + 3]) else some [a, b + 1, b + 2]) else some [a, b, c + 1]
  | _ => none
def onesF : Nat → Nat → Nat
  | 0, _ => 0
  | r + 1, s => if s = 0 then 0 else 1 + onesF r (s &&& (s - 1))
def nthF : Nat → Nat → Nat → Nat → Nat → Option Nat
  | 0, _, _, _, _ => none
  | r + 1, b, i, q, m => if m ≤ i then nthF r b i (q + 1) (m + b / 2 ^ (q + 1) % 2) else some q
def ahN (a b : Nat) : Bool := !(Nat.beq (a ^^^ b) 0) && !(Nat.beq ((a &&& (a ^^^ b)) &&& (4294967296 - (a ^^^ b))) 0)
def wchk (k : Nat) (x : wE) : Bool := Nat.beq x.1.length k && (x.1.all (fun i => Nat.blt i 12) && ((List.range 12).all (fun q => x.2.1.testBit q == x.1.contains q) && (Nat.beq (onesF 4096 x.2.1) k && (Nat.blt 0 x.2.1 && (Nat.blt x.2.1 4096 && (List.range k).all (fun i => nthF 13 x.2.1 i 0 (x.2.1 % 2) == some (x.1.getD i 0)))))))
def wnx : List wE → Bool
  | [] => false
  | [x] => nxR x.1 == none
  | x :: y :: l => (nxR x.1 == some y.1) && (Nat.blt y.2.2 x.2.2 && wnx (y :: l))
def wah (l : List wE) : Bool := l.all (fun x => l.all (fun y => ahN x.2.1 y.2.1 == Nat.blt y.2.2 x.2.2))
def wcv (k : Nat) (l : List wE) : Bool := (List.range 4096).all (fun s => !(Nat.beq (onesF 4096 s) k) || l.any (fun x => Nat.beq x.2.1 s))
set_option maxRecDepth 100000 in
theorem wl_1 : (wl1.all (wchk 1) && wnx wl1 && wah wl1 && wcv 1 wl1) = true := by decide +kernel
set_option maxRecDepth 100000 in
theorem wl_2 : (wl2.all (wchk 2) && wnx wl2 && wah wl2 && wcv 2 wl2) = true := by decide +kernel
set_option maxRecDepth 100000 in
theorem wl_3 : (wl3.all (wchk 3) && wnx wl3 && wah wl3 && wcv 3 wl3) = true := by decide +kernel
theorem wl_all {k : Nat} (hk : 1 ≤ k ∧ k ≤ 3) : (wlK k).all (wchk k) = true ∧ wnx (wlK k) = true ∧ wah (wlK k) = true ∧ wcv k (wlK k) = true := by
  have h : k = 1 ∨ k = 2 ∨ k = 3 := by omega
  rcases h with rfl | rfl | rfl
  · have := wl_1; simp only [Bool.and_eq_true] at this; exact ⟨this.1.1.1, this.1.1.2, this.1.2, this.2⟩
  · have := wl_2; simp only [Bool.and_eq_true] at this; exact ⟨this.1.1.1, this.1.1.2, this.1.2, this.2⟩
  · have := wl_3; simp only [Bool.and_eq_true] at this; exact ⟨this.1.1.1, this.1.1.2, this.1.2, this.2⟩
/-- what is known of an entry -/
theorem wl_e {k : Nat} (hk : 1 ≤ k ∧ k ≤ 3) {x : wE} (hx : x ∈ wlK k) : x.1.length = k ∧ (∀ i, i ∈ x.1 → i < 12) ∧ (∀ q, q < 12 → (x.2.1.testBit q = true ↔ q ∈ x.1)) ∧ onesF 4096 x.2.1 = k ∧ 0 < x.2.1 ∧ x.2.1 < 4096 ∧ ∀ i, i < k → nthF 13 x.2.1 i 0 (x.2.1 % 2) = some (x.1.getD i 0) := by
  have h := List.all_eq_true.mp (wl_all hk).1 x hx
  unfold wchk at h
  simp only [Bool.and_eq_true] at h
  obtain ⟨h1, h2, h3, h4, h5, h6, h7⟩ := h
  refine ⟨Nat.eq_of_beq_eq_true h1, fun i hi => Nat.le_of_ble_eq_true (List.all_eq_true.mp h2 i hi), fun q hq => ?_, Nat.eq_of_beq_eq_true h4, Nat.le_of_ble_eq_true h5, Nat.le_of_ble_eq_true h6, fun i hi => ?_⟩
  · have := List.all_eq_true.mp h3 q (List.mem_range.mpr hq)
    rw [beq_iff_eq] at this
    rw [this]
    exact List.contains_iff_mem
  · have := List.all_eq_true.mp h7 i (List.mem_range.mpr hi)
    exact beq_iff_eq.mp this
theorem wl_ah {k : Nat} (hk : 1 ≤ k ∧ k ≤ 3) {x y : wE} (hx : x ∈ wlK k) (hy : y ∈ wlK k) : ahN x.2.1 y.2.1 = true ↔ y.2.2 < x.2.2 := by
  have h := List.all_eq_true.mp (List.all_eq_true.mp (wl_all hk).2.2.1 x hx) y hy
  rw [beq_iff_eq] at h
  rw [h]
  exact ⟨fun z => Nat.le_of_ble_eq_true z, fun z => Nat.ble_eq_true_of_le z⟩
theorem wl_cv {k : Nat} (hk : 1 ≤ k ∧ k ≤ 3) {s : Nat} (hs : s < 4096) (h1 : onesF 4096 s = k) : ∃ x, x ∈ wlK k ∧ x.2.1 = s := by
  have h := List.all_eq_true.mp (wl_all hk).2.2.2 s (List.mem_range.mpr hs)
  rw [h1, Nat.beq_refl] at h
  simp only [Bool.not_true, Bool.false_or] at h
  obtain ⟨x, hx, e⟩ := List.any_eq_true.mp h
  exact ⟨x, hx, Nat.eq_of_beq_eq_true e⟩
/-- later rows rank lower -/
theorem wnx_lt : ∀ (l : List wE) (x : wE), wnx (x :: l) = true → ∀ y, y ∈ l → y.2.2 < x.2.2
  | [], x, _, y, hy => absurd hy (by simp)
  | z :: l, x, h, y, hy => by
    unfold wnx at h
    simp only [Bool.and_eq_true] at h
    have h1 : z.2.2 < x.2.2 := Nat.le_of_ble_eq_true h.2.1
    rcases List.mem_cons.mp hy with e | e
    · rw [e]; exact h1
    · exact Nat.lt_trans (wnx_lt l z h.2.2 y e) h1
theorem wnx_tl {x y : wE} {l : List wE} (h : wnx (x :: y :: l) = true) : nxR x.1 = some y.1 ∧ wnx (y :: l) = true := by
  unfold wnx at h
  simp only [Bool.and_eq_true] at h
  exact ⟨beq_iff_eq.mp h.1, h.2.2⟩
theorem wnx_one {x : wE} (h : wnx [x] = true) : nxR x.1 = none := by
  unfold wnx at h
  exact beq_iff_eq.mp h
theorem wnx_inj : ∀ (l : List wE), wnx l = true → ∀ x y, x ∈ l → y ∈ l → x.2.2 = y.2.2 → x = y
  | [], _, x, _, hx, _, _ => absurd hx (by simp)
  | [z], _, x, y, hx, hy, _ => by rw [List.mem_singleton.mp hx, List.mem_singleton.mp hy]
  | z :: w :: l, h, x, y, hx, hy, e => by
    have lt := wnx_lt (w :: l) z h
    have h2 := (wnx_tl h).2
    rcases List.mem_cons.mp hx with a | a <;> rcases List.mem_cons.mp hy with b | b
    · rw [a, b]
    · have := lt y b; rw [a] at e; omega
    · have := lt x a; rw [b] at e; omega
    · exact wnx_inj (w :: l) h2 x y a b e
-- costs of a set
def nrM (H : Nat → Nat → Option Nat) (s p : Nat) : Option Nat := mnE (fun q => if s.testBit q then H p q else none) 12
def nrR (H : Nat → Nat → Option Nat) (ro : List Nat) (k p : Nat) : Option Nat := mnE (fun i => H p (ro.getD i 0)) k
def coR (N : Nat → Option Nat) (w : Nat) : Nat → Nat → Nat → Option Nat
  | 0, _, s => some s
  | r + 1, p, s => match N p with
    | some c => if c ≤ w then coR N w r (p + 1) (s + c) else none
    | none => none
theorem coR_cg {N N' : Nat → Option Nat} {w : Nat} : ∀ (r p s : Nat), (∀ i, p ≤ i → i < p + r → N i = N' i) → coR N w r p s = coR N' w r p s
  | 0, _, _, _ => rfl
  | r + 1, p, s, h => by
    unfold coR
    rw [h p (Nat.le_refl _) (by omega)]
    cases N' p with
    | none => rfl
    | some c => dsimp only; rw [coR_cg r (p + 1) (s + c) (fun i h1 h2 => h i (by omega) (by omega))]
theorem coR_le {N : Nat → Option Nat} {w : Nat} : ∀ (r p s : Nat), (∀ i, p ≤ i → i < p + r → oLe (N i) 2772) → oLe (coR N w r p s) (s + 2772 * r)
  | 0, _, s, _ => fun c hc => by cases hc; omega
  | r + 1, p, s, h => fun c hc => by
    unfold coR at hc
    cases e : N p with
    | none => rw [e] at hc; cases hc
    | some d =>
      rw [e] at hc
      dsimp only at hc
      have hd := h p (Nat.le_refl _) (by omega) d e
      by_cases q : d ≤ w
      · rw [if_pos q] at hc
        have := coR_le r (p + 1) (s + d) (fun i h1 h2 => h i (by omega) (by omega)) c hc
        omega
      · rw [if_neg q] at hc; cases hc
/-- by the set or by the row -/
theorem nr_eq {H : Nat → Nat → Option Nat} {k p : Nat} (hk : 1 ≤ k ∧ k ≤ 3) {x : wE} (hx : x ∈ wlK k) (hH : ∀ q, oLe (H p q) 2772) : nrR H x.1 k p = nrM H x.2.1 p := by
  obtain ⟨e1, e2, e3, -⟩ := wl_e hk hx
  have b1 : ∀ e, e < k → oLe (H p (x.1.getD e 0)) 1000000 := fun e _ c hc => Nat.le_trans (hH _ c hc) (by decide)
  have b2 : ∀ e, e < 12 → oLe (if x.2.1.testBit e then H p e else none) 1000000 := fun e _ c hc => by
    by_cases h : x.2.1.testBit e = true
    · rw [if_pos h] at hc; exact Nat.le_trans (hH _ c hc) (by decide)
    · rw [if_neg h] at hc; cases hc
  obtain ⟨p1, p2, p3⟩ := mnE_n (F := fun i => H p (x.1.getD i 0)) (inf := 1000000) k b1
  obtain ⟨q1, q2, q3⟩ := mnE_n (F := fun q => if x.2.1.testBit q then H p q else none) (inf := 1000000) 12 b2
  have lt : oLe (nrR H x.1 k p) 2772 := mnE_le k (fun e _ => hH _)
  have lt2 : oLe (nrM H x.2.1 p) 2772 := mnE_le 12 (fun e _ c hc => by
    by_cases h : x.2.1.testBit e = true
    · rw [if_pos h] at hc; exact hH _ c hc
    · rw [if_neg h] at hc; cases hc)
  have le1 : (nrR H x.1 k p).getD 1000000 ≤ (nrM H x.2.1 p).getD 1000000 := by
    unfold nrR nrM
    rcases q3 with q | ⟨e, he, q⟩
    · rw [q]; exact p1
    · rw [q]
      by_cases h : x.2.1.testBit e = true
      · rw [if_pos h]
        obtain ⟨i, hi, ei⟩ := List.mem_iff_getElem.mp ((e3 e he).mp h)
        have := p2 i (by omega)
        rw [List.getD_eq_getElem?_getD, List.getElem?_eq_getElem hi, ei] at this
        exact this
      · rw [if_neg h]; exact p1
  have le2 : (nrM H x.2.1 p).getD 1000000 ≤ (nrR H x.1 k p).getD 1000000 := by
    unfold nrR nrM
    rcases p3 with q | ⟨e, he, q⟩
    · rw [q]; exact q1
    · rw [q]
      have hm : x.1.getD e 0 ∈ x.1 := by
        rw [List.getD_eq_getElem?_getD, List.getElem?_eq_getElem (by omega)]
        exact List.getElem_mem _
      have h12 := e2 _ hm
      have := q2 _ h12
      rw [if_pos ((e3 _ h12).mpr hm)] at this
      exact this
  exact getD_inj (inf := 1000000) (fun c hc => by have := lt c hc; omega) (fun c hc => by have := lt2 c hc; omega) (by decide) (by omega)
/-- the best of the entries with B -/
def bst (k : Nat) (C : Nat → Option Nat) (B : wE → Prop) : Option (wE × Nat) → Prop
  | none => ∀ z, z ∈ wlK k → B z → C z.2.1 = none
  | some (x, c) => x ∈ wlK k ∧ B x ∧ C x.2.1 = some c ∧ ∀ z, z ∈ wlK k → B z → ∀ c', C z.2.1 = some c' → c ≤ c' ∧ (c' = c → z.2.2 ≤ x.2.2)
theorem bst_uniq {k : Nat} (hk : 1 ≤ k ∧ k ≤ 3) {C : Nat → Option Nat} {B B' : wE → Prop} (hB : ∀ z, z ∈ wlK k → B z) (hB' : ∀ z, z ∈ wlK k → B' z) {o o' : Option (wE × Nat)} (h : bst k C B o) (h' : bst k C B' o') : o = o' := by
  match o, o', h, h' with
  | none, none, _, _ => rfl
  | none, some (x, c), h, h' => have := h x h'.1 (hB x h'.1); rw [h'.2.2.1] at this; cases this
  | some (x, c), none, h, h' => have := h' x h.1 (hB' x h.1); rw [h.2.2.1] at this; cases this
  | some (x, c), some (y, d), h, h' =>
    obtain ⟨a1, a2, a3, a4⟩ := h
    obtain ⟨b1, b2, b3, b4⟩ := h'
    obtain ⟨u1, u2⟩ := a4 y b1 (hB y b1) d b3
    obtain ⟨v1, v2⟩ := b4 x a1 (hB' x a1) c a3
    have e : c = d := by omega
    have r1 := u2 e.symm
    have r2 := v2 e
    have := wnx_inj _ (wl_all hk).2.1 x y a1 b1 (by omega)
    rw [this, e]
theorem bst_cg {k : Nat} {C : Nat → Option Nat} {B B' : wE → Prop} (hB : ∀ z, z ∈ wlK k → (B z ↔ B' z)) {o : Option (wE × Nat)} (h : bst k C B o) : bst k C B' o := by
  match o, h with
  | none, h => exact fun z hz hb => h z hz ((hB z hz).mpr hb)
  | some (x, c), ⟨a1, a2, a3, a4⟩ => exact ⟨a1, (hB x a1).mp a2, a3, fun z hz hb => a4 z hz ((hB z hz).mpr hb)⟩
/-- one entry more: left out -/
theorem bst_skip {k : Nat} {C : Nat → Option Nat} {B : wE → Prop} {y : wE} {o : Option (wE × Nat)} (h : bst k C B o) (hy : C y.2.1 = none ∨ ∃ x c d, o = some (x, c) ∧ C y.2.1 = some d ∧ c ≤ d ∧ (d = c → y.2.2 ≤ x.2.2)) : bst k C (fun z => B z ∨ z = y) o := by
  match o, h with
  | none, h =>
    intro z hz hb
    rcases hb with hb | rfl
    · exact h z hz hb
    · rcases hy with hy | ⟨x, c, d, e, _⟩
      · exact hy
      · cases e
  | some (x, c), ⟨a1, a2, a3, a4⟩ =>
    refine ⟨a1, Or.inl a2, a3, fun z hz hb c' hc => ?_⟩
    rcases hb with hb | rfl
    · exact a4 z hz hb c' hc
    · rcases hy with hy | ⟨x', c2, d, e, h1, h2, h3⟩
      · rw [hy] at hc; cases hc
      · cases e
        rw [h1] at hc
        cases hc
        exact ⟨h2, h3⟩
/-- one entry more: taken -/
theorem bst_take {k : Nat} {C : Nat → Option Nat} {B : wE → Prop} {y : wE} {d : Nat} {o : Option (wE × Nat)} (hy : y ∈ wlK k) (hd : C y.2.1 = some d) (h : bst k C B o) (ho : ∀ x c, o = some (x, c) → d < c ∨ (d = c ∧ x.2.2 < y.2.2)) : bst k C (fun z => B z ∨ z = y) (some (y, d)) := by
  refine ⟨hy, Or.inr rfl, hd, fun z hz hb c' hc => ?_⟩
  rcases hb with hb | rfl
  · match o, h, ho with
    | none, h, _ => have := h z hz hb; rw [this] at hc; cases hc
    | some (x, c), ⟨a1, a2, a3, a4⟩, ho =>
      obtain ⟨u1, u2⟩ := a4 z hz hb c' hc
      rcases ho x c rfl with q | ⟨q1, q2⟩
      · exact ⟨by omega, fun e => by omega⟩
      · exact ⟨by omega, fun e => by have := u2 (by omega); omega⟩
  · rw [hd] at hc
    cases hc
    exact ⟨Nat.le_refl _, fun _ => Nat.le_refl _⟩
