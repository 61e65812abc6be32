-- ===== how what is good of a state stays =====
section GVU
variable {sg : xIv} {t : Nat} {x : Int32}
theorem cnt_ne {k j i : Nat} (h : k ≠ 79) : cnt (vL (xu2 sg k j x)) i = cnt (vL sg) i := by
  unfold cnt
  rw [vL_ne (fun _ => h) (fun z => by cases z) (fun z => by cases z) (fun z => by cases z) (fun z => by cases z) (fun z => by omega)]
theorem v0_ne {k j : Nat} (h : k ≠ 79) : vL (xu2 sg k j x) 0 = vL sg 0 := vL_ne (fun _ => h) (fun z => by cases z) (fun z => by cases z) (fun z => by cases z) (fun z => by cases z) (fun z => by omega)
theorem v1_ne {k j : Nat} (h : k ≠ 80) : vL (xu2 sg k j x) 1 = vL sg 1 := vL_ne (fun z => by cases z) (fun _ => h) (fun z => by cases z) (fun z => by cases z) (fun z => by cases z) (fun z => by omega)
theorem v2_ne {k j : Nat} (h : k ≠ 81) : vL (xu2 sg k j x) 2 = vL sg 2 := vL_ne (fun z => by cases z) (fun z => by cases z) (fun _ => h) (fun z => by cases z) (fun z => by cases z) (fun z => by omega)
theorem v3_ne {k j : Nat} (h : k ≠ 82) : vL (xu2 sg k j x) 3 = vL sg 3 := vL_ne (fun z => by cases z) (fun z => by cases z) (fun z => by cases z) (fun _ => h) (fun z => by cases z) (fun z => by omega)
theorem v4_ne {k j : Nat} (h : k ≠ 83) : vL (xu2 sg k j x) 4 = vL sg 4 := vL_ne (fun z => by cases z) (fun z => by cases z) (fun z => by cases z) (fun z => by cases z) (fun _ => h) (fun z => by omega)
theorem v5_ne {k j : Nat} (h : k ≠ 84) : vL (xu2 sg k j x) 5 = vL sg 5 := vL_ne (fun z => by cases z) (fun z => by cases z) (fun z => by cases z) (fun z => by cases z) (fun z => by cases z) (fun _ => h)
theorem okP_ne {k j p : Nat} (h : k ≠ 81) : okP (vL (xu2 sg k j x)) p = okP (vL sg) p := by unfold okP; rw [v2_ne h]
theorem okW_ne {k j p : Nat} (h : k ≠ 80) : okW (vL (xu2 sg k j x)) p = okW (vL sg) p := by unfold okW; rw [v1_ne h]
theorem Gv.gt (hG : Gv t (vL sg)) {w : Nat} (hw : w < cnt (vL sg) 0) (hx : x = 0 ∨ x = 1) : Gv t (vL (xu2 sg 80 (5 * w + 4) x)) := by
  obtain ⟨h1, h2, h3, h4, h5, h6, h7, h8, h9, h10⟩ := hG
  unfold Gv
  rw [cnt_ne (by decide), cnt_ne (by decide), cnt_ne (by decide), v0_ne (by decide), v3_ne (by decide), v4_ne (by decide), v5_ne (by decide)]
  refine ⟨h1, h2, h3, h4, h5, fun q hq => ?_, fun p hp => by rw [okP_ne (by decide)]; exact h7 p hp, h8, h9, h10⟩
  obtain ⟨a1, a2, a3, a4, a5, a6⟩ := h6 q hq
  have e : ∀ f, f < 4 → vL (xu2 sg 80 (5 * w + 4) x) 1 (5 * q + f) = vL sg 1 (5 * q + f) := fun f hf => xu2_j (by omega)
  unfold okW
  rw [show 5 * q = 5 * q + 0 from rfl, e 0 (by decide), e 1 (by decide), e 2 (by decide), e 3 (by decide)]
  refine ⟨a1, a2, a3, a4, a5, ?_⟩
  show xu2 sg 80 (5 * w + 4) x 80 (5 * q + 4) = 0 ∨ xu2 sg 80 (5 * w + 4) x 80 (5 * q + 4) = 1
  by_cases e2 : q = w
  · rw [e2, xu2_s]; exact hx
  · rw [xu2_j (by omega)]; exact a6
theorem Gv.p (hG : Gv t (vL sg)) {p f : Nat} (hf : f < 7) (hx : (f = 0 → isN x 12) ∧ (f = 1 → isN x 4) ∧ (f = 2 → 0 ≤ x ∧ x ≤ 99999) ∧ (f = 3 → isN x 12)) : Gv t (vL (xu2 sg 81 (7 * p + f) x)) := by
  obtain ⟨h1, h2, h3, h4, h5, h6, h7, h8, h9, h10⟩ := hG
  unfold Gv
  rw [cnt_ne (by decide), cnt_ne (by decide), cnt_ne (by decide), v0_ne (by decide), v3_ne (by decide), v4_ne (by decide), v5_ne (by decide)]
  refine ⟨h1, h2, h3, h4, h5, fun q hq => by rw [okW_ne (by decide)]; exact h6 q hq, fun q hq => ?_, h8, h9, h10⟩
  obtain ⟨a1, a2, a3, a4⟩ := h7 q hq
  have e : ∀ g, g < 7 → (g = f ∧ q = p → vL (xu2 sg 81 (7 * p + f) x) 2 (7 * q + g) = x) ∧ (¬ (g = f ∧ q = p) → vL (xu2 sg 81 (7 * p + f) x) 2 (7 * q + g) = vL sg 2 (7 * q + g)) := fun g hg =>
    ⟨fun z => by show xu2 sg 81 (7 * p + f) x 81 (7 * q + g) = x; rw [z.1, z.2, xu2_s], fun z => xu2_j (by omega)⟩
  unfold okP
  refine ⟨?_, ?_, ?_, ?_⟩
  · by_cases z : 0 = f ∧ q = p
    · rw [show 7 * q = 7 * q + 0 from rfl, (e 0 (by decide)).1 z]; exact hx.1 z.1.symm
    · rw [show 7 * q = 7 * q + 0 from rfl, (e 0 (by decide)).2 z]; exact a1
  · by_cases z : 1 = f ∧ q = p
    · rw [(e 1 (by decide)).1 z]; exact hx.2.1 z.1.symm
    · rw [(e 1 (by decide)).2 z]; exact a2
  · by_cases z : 2 = f ∧ q = p
    · rw [(e 2 (by decide)).1 z]; exact hx.2.2.1 z.1.symm
    · rw [(e 2 (by decide)).2 z]; exact a3
  · by_cases z : 3 = f ∧ q = p
    · rw [(e 3 (by decide)).1 z]; exact hx.2.2.2 z.1.symm
    · rw [(e 3 (by decide)).2 z]; exact a4
theorem Gv.o {t' : Nat} (hG : Gv t (vL sg)) {j : Nat} (ht : t ≤ t') (hx : 0 ≤ x.toInt ∧ x.toInt ≤ 99999 * t') : Gv t' (vL (xu2 sg 82 j x)) := by
  obtain ⟨h1, h2, h3, h4, h5, h6, h7, h8, h9, h10⟩ := hG.mono ht
  unfold Gv
  rw [cnt_ne (by decide), cnt_ne (by decide), cnt_ne (by decide), v0_ne (by decide), v4_ne (by decide), v5_ne (by decide)]
  refine ⟨h1, h2, h3, h4, h5, fun q hq => by rw [okW_ne (by decide)]; exact h6 q hq, fun q hq => by rw [okP_ne (by decide)]; exact h7 q hq, fun i hi => ?_, h9, h10⟩
  show 0 ≤ (xu2 sg 82 j x 82 i).toInt ∧ (xu2 sg 82 j x 82 i).toInt ≤ 99999 * t'
  by_cases e : i = j
  · rw [e, xu2_s]; exact hx
  · rw [xu2_j e]; exact h8 i hi
theorem Gv.g (hG : Gv t (vL sg)) {j : Nat} (hx : 0 ≤ x ∧ x ≤ 9999) : Gv t (vL (xu2 sg 83 j x)) := by
  obtain ⟨h1, h2, h3, h4, h5, h6, h7, h8, h9, h10⟩ := hG
  unfold Gv
  rw [cnt_ne (by decide), cnt_ne (by decide), cnt_ne (by decide), v0_ne (by decide), v3_ne (by decide), v5_ne (by decide)]
  refine ⟨h1, h2, h3, h4, h5, fun q hq => by rw [okW_ne (by decide)]; exact h6 q hq, fun q hq => by rw [okP_ne (by decide)]; exact h7 q hq, h8, fun i hi => ?_, h10⟩
  show 0 ≤ xu2 sg 83 j x 83 i ∧ xu2 sg 83 j x 83 i ≤ 9999
  by_cases e : i = j
  · rw [e, xu2_s]; exact hx
  · rw [xu2_j e]; exact h9 i hi
/-- law, spent, a smaller count of errands -/
theorem Gv.s (hG : Gv t (vL sg)) {i : Nat} (hi : (i = 6 ∧ isN x 3) ∨ (i = 9 ∧ 0 ≤ x ∧ x ≤ 1000000000) ∨ (i = 8 ∧ x = 0)) : Gv t (vL (xu2 sg 79 i x)) := by
  obtain ⟨h1, h2, h3, h4, h5, h6, h7, h8, h9, h10⟩ := hG
  have z0 : vL (xu2 sg 79 i x) 0 0 = vL sg 0 0 := xu2_j (by omega)
  have z1 : vL (xu2 sg 79 i x) 0 1 = vL sg 0 1 := xu2_j (by omega)
  have c0 : cnt (vL (xu2 sg 79 i x)) 0 = cnt (vL sg) 0 := by unfold cnt; rw [z0]
  have c1 : cnt (vL (xu2 sg 79 i x)) 1 = cnt (vL sg) 1 := by unfold cnt; rw [z1]
  have hc2 : cnt (vL (xu2 sg 79 i x)) 2 ≤ cnt (vL sg) 2 ∧ vL (xu2 sg 79 i x) 0 2 = nI (cnt (vL (xu2 sg 79 i x)) 2) := by
    by_cases e : i = 8
    · subst e
      have hx : x = 0 := by rcases hi with ⟨a, b⟩ | ⟨a, b⟩ | ⟨a, b⟩ <;> first | exact b | (exfalso; omega)
      have e2 : vL (xu2 sg 79 8 x) 0 2 = 0 := by show xu2 sg 79 8 x 79 8 = 0; rw [xu2_s]; exact hx
      have e3 : cnt (vL (xu2 sg 79 8 x)) 2 = 0 := by unfold cnt; rw [e2]; decide
      rw [e3, e2]
      exact ⟨Nat.zero_le _, rfl⟩
    · have e2 : vL (xu2 sg 79 i x) 0 2 = vL sg 0 2 := xu2_j (by omega)
      have e3 : cnt (vL (xu2 sg 79 i x)) 2 = cnt (vL sg) 2 := by unfold cnt; rw [e2]
      rw [e3, e2]
      exact ⟨Nat.le_refl _, h3.1⟩
  unfold Gv
  rw [v3_ne (by decide), v4_ne (by decide), v5_ne (by decide), z0, z1, c0, c1]
  refine ⟨h1, h2, ⟨hc2.2, by have := h3.2; omega⟩, ?_, ?_, fun q hq => by rw [okW_ne (by decide)]; exact h6 q hq, fun q hq => by rw [okP_ne (by decide)]; exact h7 q hq, h8, h9, fun q hq => h10 q (by omega)⟩
  · show isN (xu2 sg 79 i x 79 6) 3
    by_cases e : i = 6
    · subst e; rw [xu2_s]; rcases hi with ⟨a, b⟩ | ⟨a, b⟩ | ⟨a, b⟩ <;> first | exact b | (exfalso; omega)
    · rw [xu2_j (by omega)]; exact h4
  · show 0 ≤ xu2 sg 79 i x 79 9 ∧ xu2 sg 79 i x 79 9 ≤ 1000000000
    by_cases e : i = 9
    · subst e; rw [xu2_s]; rcases hi with ⟨a, b⟩ | ⟨a, b⟩ | ⟨a, b⟩ <;> first | exact b | (exfalso; omega)
    · rw [xu2_j (by omega)]; exact h5
theorem Gv.e (hG : Gv t (vL sg)) {n : Nat} (hn : n = cnt (vL sg) 2) (h6 : n < 6) (hx : isN x 12) : Gv t (vL (xu2 (xu2 sg 84 n x) 79 8 (nI (n + 1)))) := by
  obtain ⟨h1, h2, h3, h4, h5, h6', h7, h8, h9, h10⟩ := hG
  generalize hs : xu2 (xu2 sg 84 n x) 79 8 (nI (n + 1)) = s'
  have z : ∀ i, i ≠ 8 → s' 79 i = sg 79 i := fun i hi => by rw [← hs, xu2_j hi, xu2_k (by decide)]
  have rw' : ∀ k, k ≠ 79 → k ≠ 84 → s' k = sg k := fun k a b => by rw [← hs, xu2_ne a, xu2_ne b]
  have c0 : cnt (vL s') 0 = cnt (vL sg) 0 := by show (s' 79 1).toNatClampNeg = _; rw [z 1 (by decide)]; rfl
  have c1 : cnt (vL s') 1 = cnt (vL sg) 1 := by show (s' 79 3).toNatClampNeg = _; rw [z 3 (by decide)]; rfl
  have e2 : vL s' 0 2 = nI (n + 1) := by show s' 79 8 = _; rw [← hs, xu2_s]
  have c2 : cnt (vL s') 2 = n + 1 := by unfold cnt; rw [e2, cl]
  have r1 : vL s' 1 = vL sg 1 := by funext j; show s' 80 j = _; rw [rw' 80 (by decide) (by decide)]; rfl
  have r2 : vL s' 2 = vL sg 2 := by funext j; show s' 81 j = _; rw [rw' 81 (by decide) (by decide)]; rfl
  have r3 : vL s' 3 = vL sg 3 := by funext j; show s' 82 j = _; rw [rw' 82 (by decide) (by decide)]; rfl
  have r4 : vL s' 4 = vL sg 4 := by funext j; show s' 83 j = _; rw [rw' 83 (by decide) (by decide)]; rfl
  unfold Gv
  rw [c0, c1, c2, r3, r4]
  refine ⟨⟨(z 1 (by decide)).trans h1.1, h1.2⟩, ⟨(z 3 (by decide)).trans h2.1, h2.2⟩, ⟨e2, by omega⟩, ?_, ?_, fun q hq => by unfold okW; rw [r1]; exact h6' q hq, fun q hq => by unfold okP; rw [r2]; exact h7 q hq, h8, h9, fun q hq => ?_⟩
  · show isN (s' 79 6) 3
    rw [z 6 (by decide)]; exact h4
  · show 0 ≤ s' 79 9 ∧ s' 79 9 ≤ 1000000000
    rw [z 9 (by decide)]; exact h5
  · show isN (s' 84 q) 12
    rw [← hs, xu2_k (by decide)]
    by_cases e : q = n
    · rw [e, xu2_s]; exact hx
    · rw [xu2_j e]; exact h10 q (by omega)
end GVU
/-- an update of the live numbers alone -/
theorem GG.up {t t' : Nat} {sg : xIv} {k j : Nat} {x : Int32} (hG : GG t sg) (ht : t ≤ t') (hL : Gv t' (vL (xu2 sg k j x))) (h1 : k = 79 → j ≠ 24) (h2 : k ≠ 96) (h3 : k ≠ 97) : GG t' (xu2 sg k j x) := by
  refine ⟨hL, fun z => ?_⟩
  have e : vK (xu2 sg k j x) = vK sg := by
    funext r b
    unfold vK
    rw [xu2_ne (fun w => h2 w.symm), xu2_ne (fun w => h3 w.symm)]
  rw [e]
  refine (hG.2 ?_).mono ht
  by_cases e2 : k = 79
  · subst e2
    rw [xu2_j (fun w => h1 rfl w.symm)] at z
    exact z
  · rw [xu2_k (fun w => e2 w.symm)] at z
    exact z
