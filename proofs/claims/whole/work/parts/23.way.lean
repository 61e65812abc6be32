-- ===== way =====
def addW (sg : xIv) (f t ln sl g : Int32) : xIv := xu2 (xu2 (xu2 (xu2 (xu2 (xu2 sg 80 (5 * cnt (vL sg) 0) f) 80 (5 * cnt (vL sg) 0 + 1) t) 80 (5 * cnt (vL sg) 0 + 2) ln) 80 (5 * cnt (vL sg) 0 + 3) sl) 80 (5 * cnt (vL sg) 0 + 4) g) 79 1 (nI (cnt (vL sg) 0 + 1))
abbrev okWy (f t ln sl : Int32) : Prop := isN f 12 ∧ isN t 12 ∧ ¬ f = t ∧ (1 ≤ ln ∧ ln ≤ 99) ∧ (-9 ≤ sl ∧ sl ≤ 9)
def opWay (sg : xIv) (f t ln sl : Int32) : Int32 × xIv := if okWy f t ln sl then (if cnt (vL sg) 0 = 24 then (-3, sg) else (nI (cnt (vL sg) 0), addW sg f t ln sl 0)) else (-1, sg)
section WAY
variable {L : Nat} {xs : Nat → Int32} {iv : xIv} {lg : xLg} {Q : xQ} {sg : xIv} {tw : Nat → Int64} {t : Nat}
set_option maxRecDepth 100000 in
theorem s_add2 {n : Nat} {f t ln sl g : Int32} (hn : iv 2 0 = nI n) (h24 : n < 24) (k : Q (some (.int (nI n))) SH RF (xu2 (xu2 (xu2 (xu2 (xu2 (xu2 iv 3 n f) 4 n t) 5 n ln) 6 n sl) 7 n g) 2 0 (nI (n + 1))) lg) : Sp L xs m_Ways_add [.ref 2, .int f, .int t, .int ln, .int sl, .int g] SH RF iv lg Q := by
  have hv : vp_in (iv 2 0) 24 := by rw [hn]; exact vp_N h24
  refine sgo [] 100 ?_
  refine And.intro hv ?_
  refine And.intro hv ?_
  refine And.intro hv ?_
  refine And.intro hv ?_
  refine And.intro hv ?_
  show Q _ _ _ _ _
  rw [hn, cl]
  have e : ∀ a : xIv, a 2 0 = nI n → a 2 0 + 1 = nI (n + 1) := fun a ha => by rw [ha]; exact nI_1 n
  rw [e _ (by simp only [xu2_k (show (2 : Nat) ≠ 3 by decide), xu2_k (show (2 : Nat) ≠ 4 by decide), xu2_k (show (2 : Nat) ≠ 5 by decide), xu2_k (show (2 : Nat) ≠ 6 by decide), xu2_k (show (2 : Nat) ≠ 7 by decide)]; exact hn)]
  exact k
theorem s_forget (k : Q none SH RF (xu2 iv 37 2 0) lg) : Sp L xs m_Roads_forget [.ref 37] SH RF iv lg Q := by
  refine sgo [] 100 ?_
  exact k
theorem vL_addW0 {f t2 ln sl g : Int32} : cnt (vL (addW sg f t2 ln sl g)) 0 = (nI (cnt (vL sg) 0 + 1)).toNatClampNeg := by
  show (addW sg f t2 ln sl g 79 1).toNatClampNeg = _
  unfold addW
  rw [xu2_s]
theorem addW_old {f t2 ln sl g : Int32} {j : Nat} (h : j < 5 * cnt (vL sg) 0) : vL (addW sg f t2 ln sl g) 1 j = vL sg 1 j := by
  show addW sg f t2 ln sl g 80 j = sg 80 j
  unfold addW
  rw [xu2_k (by decide), xu2_j (by omega), xu2_j (by omega), xu2_j (by omega), xu2_j (by omega), xu2_j (by omega)]
theorem addW_row {f t2 ln sl g : Int32} {k : Nat} (h : k ≠ 79) (h2 : k ≠ 80) : addW sg f t2 ln sl g k = sg k := by
  unfold addW
  rw [xu2_ne h, xu2_ne h2, xu2_ne h2, xu2_ne h2, xu2_ne h2, xu2_ne h2]
theorem addW_79 {f t2 ln sl g : Int32} {j : Nat} (h : j ≠ 1) : addW sg f t2 ln sl g 79 j = sg 79 j := by
  unfold addW
  rw [xu2_j h, xu2_k (by decide), xu2_k (by decide), xu2_k (by decide), xu2_k (by decide), xu2_k (by decide)]
theorem addW_n {f t2 ln sl g : Int32} : addW sg f t2 ln sl g 80 (5 * cnt (vL sg) 0) = f ∧ addW sg f t2 ln sl g 80 (5 * cnt (vL sg) 0 + 1) = t2 ∧ addW sg f t2 ln sl g 80 (5 * cnt (vL sg) 0 + 2) = ln ∧ addW sg f t2 ln sl g 80 (5 * cnt (vL sg) 0 + 3) = sl ∧ addW sg f t2 ln sl g 80 (5 * cnt (vL sg) 0 + 4) = g := by
  unfold addW
  refine ⟨?_, ?_, ?_, ?_, ?_⟩
  · rw [xu2_k (by decide), xu2_j (by omega), xu2_j (by omega), xu2_j (by omega), xu2_j (by omega), xu2_s]
  · rw [xu2_k (by decide), xu2_j (by omega), xu2_j (by omega), xu2_j (by omega), xu2_s]
  · rw [xu2_k (by decide), xu2_j (by omega), xu2_j (by omega), xu2_s]
  · rw [xu2_k (by decide), xu2_j (by omega), xu2_s]
  · rw [xu2_k (by decide), xu2_s]
theorem c_addW {f t2 ln sl g : Int32} (hC : CX iv lg sg tw) (hG : Gv t (vL sg)) (h6 : cnt (vL sg) 0 < 24) : CX (xu2 (xu2 (xu2 (xu2 (xu2 (xu2 (xu2 iv 3 (cnt (vL sg) 0) f) 4 (cnt (vL sg) 0) t2) 5 (cnt (vL sg) 0) ln) 6 (cnt (vL sg) 0) sl) 7 (cnt (vL sg) 0) g) 2 0 (nI (cnt (vL sg) 0 + 1))) 37 2 0) lg (addW sg f t2 ln sl g) tw := by
  generalize hiv : xu2 (xu2 (xu2 (xu2 (xu2 (xu2 (xu2 iv 3 (cnt (vL sg) 0) f) 4 (cnt (vL sg) 0) t2) 5 (cnt (vL sg) 0) ln) 6 (cnt (vL sg) 0) sl) 7 (cnt (vL sg) 0) g) 2 0 (nI (cnt (vL sg) 0 + 1))) 37 2 0 = iv'
  have hr : ∀ k, k ≠ 2 → k ≠ 3 → k ≠ 4 → k ≠ 5 → k ≠ 6 → k ≠ 7 → k ≠ 37 → iv' k = iv k := fun k a b c d e f g => by rw [← hiv, xu2_ne g, xu2_ne a, xu2_ne f, xu2_ne e, xu2_ne d, xu2_ne c, xu2_ne b]
  obtain ⟨⟨hy, hp, ho⟩, hk, hrd, htp, hst⟩ := id hC
  refine ⟨⟨?_, ?_, ?_⟩, ?_, ?_, ?_, ?_⟩
  · refine ⟨?_, fun i hi => ?_⟩
    · show iv' 2 0 = addW sg f t2 ln sl g 79 1
      rw [← hiv, xu2_k (by decide), xu2_s]
      unfold addW
      rw [xu2_s]
    · rw [vL_addW0, cl] at hi
      by_cases e : i = cnt (vL sg) 0
      · subst e
        obtain ⟨a1, a2, a3, a4, a5⟩ := addW_n (sg := sg) (f := f) (t2 := t2) (ln := ln) (sl := sl) (g := g)
        refine ⟨Eq.trans ?_ a1.symm, Eq.trans ?_ a2.symm, Eq.trans ?_ a3.symm, Eq.trans ?_ a4.symm, Eq.trans ?_ a5.symm⟩
        · show iv' 3 _ = _
          rw [← hiv, xu2_k (by decide), xu2_k (by decide), xu2_k (by decide), xu2_k (by decide), xu2_k (by decide), xu2_k (by decide), xu2_s]
        · show iv' 4 _ = _
          rw [← hiv, xu2_k (by decide), xu2_k (by decide), xu2_k (by decide), xu2_k (by decide), xu2_k (by decide), xu2_s]
        · show iv' 5 _ = _
          rw [← hiv, xu2_k (by decide), xu2_k (by decide), xu2_k (by decide), xu2_k (by decide), xu2_s]
        · show iv' 6 _ = _
          rw [← hiv, xu2_k (by decide), xu2_k (by decide), xu2_k (by decide), xu2_s]
        · show iv' 7 _ = _
          rw [← hiv, xu2_k (by decide), xu2_k (by decide), xu2_s]
      · have hi2 : i < cnt (vL sg) 0 := by omega
        obtain ⟨b1, b2, b3, b4, b5⟩ := hy.2 i hi2
        rw [addW_old (by omega), addW_old (by omega), addW_old (by omega), addW_old (by omega), addW_old (by omega)]
        refine ⟨Eq.trans ?_ b1, Eq.trans ?_ b2, Eq.trans ?_ b3, Eq.trans ?_ b4, Eq.trans ?_ b5⟩
        · show iv' 3 _ = iv 3 _
          rw [← hiv, xu2_k (by decide), xu2_k (by decide), xu2_k (by decide), xu2_k (by decide), xu2_k (by decide), xu2_k (by decide), xu2_j e]
        · show iv' 4 _ = iv 4 _
          rw [← hiv, xu2_k (by decide), xu2_k (by decide), xu2_k (by decide), xu2_k (by decide), xu2_k (by decide), xu2_j e, xu2_k (by decide)]
        · show iv' 5 _ = iv 5 _
          rw [← hiv, xu2_k (by decide), xu2_k (by decide), xu2_k (by decide), xu2_k (by decide), xu2_j e, xu2_k (by decide), xu2_k (by decide)]
        · show iv' 6 _ = iv 6 _
          rw [← hiv, xu2_k (by decide), xu2_k (by decide), xu2_k (by decide), xu2_j e, xu2_k (by decide), xu2_k (by decide), xu2_k (by decide)]
        · show iv' 7 _ = iv 7 _
          rw [← hiv, xu2_k (by decide), xu2_k (by decide), xu2_j e, xu2_k (by decide), xu2_k (by decide), xu2_k (by decide), xu2_k (by decide)]
  · refine hp.keep (fun i a b => hr _ (by omega) (by omega) (by omega) (by omega) (by omega) (by omega) (by omega)) (addW_79 (by decide)) (fun j _ => ?_) (fun j _ => ?_)
    · show addW sg f t2 ln sl g 81 j = sg 81 j
      rw [addW_row (by decide) (by decide)]
    · show addW sg f t2 ln sl g 82 j = sg 82 j
      rw [addW_row (by decide) (by decide)]
  · refine ho.keep (hr _ (by omega) (by omega) (by omega) (by omega) (by omega) (by omega) (by omega)) (hr _ (by omega) (by omega) (by omega) (by omega) (by omega) (by omega) (by omega)) (hr _ (by omega) (by omega) (by omega) (by omega) (by omega) (by omega) (by omega)) (addW_79 (by decide)) (addW_79 (by decide)) (addW_79 (by decide)) (fun j _ => ?_) (fun j _ => ?_)
    · show addW sg f t2 ln sl g 84 j = sg 84 j
      rw [addW_row (by decide) (by decide)]
    · show addW sg f t2 ln sl g 83 j = sg 83 j
      rw [addW_row (by decide) (by decide)]
  · exact hC.kept (fun k a b => hr _ (by omega) (by omega) (by omega) (by omega) (by omega) (by omega) (by omega)) (by rw [hr 0 (by decide) (by decide) (by decide) (by decide) (by decide) (by decide) (by decide)]) (addW_79 (by decide)) (addW_row (by decide) (by decide)) (addW_row (by decide) (by decide))
  · exact RD.zero (by rw [← hiv, xu2_s])
  · exact htp.keep (by rw [hr 53 (by decide) (by decide) (by decide) (by decide) (by decide) (by decide) (by decide)]) (hr 54 (by decide) (by decide) (by decide) (by decide) (by decide) (by decide) (by decide)) (hr 69 (by decide) (by decide) (by decide) (by decide) (by decide) (by decide) (by decide)) (addW_79 (by decide)) (addW_row (by decide) (by decide))
  · exact hst.keep (fun k a b => hr _ (by omega) (by omega) (by omega) (by omega) (by omega) (by omega) (by omega)) (fun _ _ _ => rfl) (addW_row (by decide) (by decide)) (addW_row (by decide) (by decide))
set_option maxRecDepth 100000 in
theorem c_way {f t2 ln sl : Int32} (hC : CX iv lg sg tw) (hG : Gv t (vL sg)) (k : ∀ iv', CX iv' lg (opWay sg f t2 ln sl).2 tw → refS iv' lg iv lg → Q (some (.int (opWay sg f t2 ln sl).1)) SH RF iv' lg) : Sp L xs m_SR_way [.ref 0, .int f, .int t2, .int ln, .int sl] SH RF iv lg Q := by
  have hn : iv 2 0 = nI (cnt (vL sg) 0) := hC.1.1.1.trans hG.1.1
  have kb : ¬ okWy f t2 ln sl → Q (some (.int (-1))) SH RF iv lg := fun h => by
    have e : opWay sg f t2 ln sl = (-1, sg) := if_neg h
    rw [e] at k
    exact k iv hC refS.rfl
  refine sgo [] 100 ?_
  refine s_isPlace (fun h1 => ?_) (fun h1 => ?_)
  · refine And.intro (fun z => absurd z (by decide)) (fun _ => ?_)
    refine s_isPlace (fun h2 => ?_) (fun h2 => ?_)
    · refine And.intro (fun z => absurd z (by decide)) (fun _ => ?_)
      refine And.intro (fun h3 => ?_) (fun h3 => ?_)
      · refine s_within (fun h4 => ?_) (fun h4 => ?_)
        · refine And.intro (fun z => absurd z (by decide)) (fun _ => ?_)
          refine s_within (fun h5 => ?_) (fun h5 => ?_)
          · refine And.intro (fun _ => ?_) (fun z => absurd (by decide) z)
            have hok : okWy f t2 ln sl := ⟨h1, h2, h3, h4, h5⟩
            refine And.intro (fun h6 => ?_) (fun h6 => ?_)
            · rw [hn] at h6
              replace h6 : cnt (vL sg) 0 < 24 := (nI_ltI (b := 24) (by have := hG.1.2; omega) (by decide)).mp h6
              have e : opWay sg f t2 ln sl = (nI (cnt (vL sg) 0), addW sg f t2 ln sl 0) := by unfold opWay; rw [if_pos hok, if_neg (by omega)]
              rw [e] at k
              refine s_add2 hn h6 ?_
              refine s_forget ?_
              exact k _ (c_addW hC hG h6) ⟨fun k hk => by rw [xu2_ne (by omega), xu2_ne (by omega), xu2_ne (by omega), xu2_ne (by omega), xu2_ne (by omega), xu2_ne (by omega), xu2_ne (by omega)], fun _ _ => rfl⟩
            · rw [hn] at h6
              replace h6 : ¬ cnt (vL sg) 0 < 24 := fun z => h6 ((nI_ltI (b := 24) (by have := hG.1.2; omega) (by decide)).mpr z)
              have e : opWay sg f t2 ln sl = (-3, sg) := by unfold opWay; rw [if_pos hok, if_pos (by have := hG.1.2; omega)]
              rw [e] at k
              exact k iv hC refS.rfl
          · refine And.intro (fun z => absurd rfl z) (fun _ => ?_)
            exact kb (fun z => h5 z.2.2.2.2)
        · refine And.intro (fun _ => ?_) (fun z => absurd rfl z)
          exact kb (fun z => h4 z.2.2.2.1)
      · exact kb (fun z => h3 z.2.2.1)
    · refine And.intro (fun _ => ?_) (fun z => absurd rfl z)
      exact kb (fun z => h2 z.2.1)
  · refine And.intro (fun _ => ?_) (fun z => absurd rfl z)
    exact kb (fun z => h1 z.1)
end WAY
