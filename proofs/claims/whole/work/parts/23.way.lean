-- ===== way =====
def addW (sg : xIv) (f t ln sl g : Int32) : xIv := xu2 (xu2 (xu2 (xu2 (xu2 (xu2 sg 80 (5 * cnt (vL sg) 0) f) 80 (5 * cnt (vL sg) 0 + 1) t) 80 (5 * cnt (vL sg) 0 + 2) ln) 80 (5 * cnt (vL sg) 0 + 3) sl) 80 (5 * cnt (vL sg) 0 + 4) g) 79 1 (nI (cnt (vL sg) 0 + 1))
abbrev okWy (f t ln sl : Int32) : Prop := isN f 12 ∧ isN t 12 ∧ ¬ f = t ∧ (1 ≤ ln ∧ ln ≤ 99) ∧ (-9 ≤ sl ∧ sl ≤ 9)
def opWay (sg : xIv) (f t ln sl : Int32) : Int32 × xIv := if okWy f t ln sl then (if cnt (vL sg) 0 = 24 then (-3, sg) else (nI (cnt (vL sg) 0), addW sg f t ln sl 0)) else (-1, sg)
section WAY
variable {L : Nat} {xs : Nat → Int32} {iv : xIv} {lg : xLg} {Q : xQ} {sg : xIv} {tw : Nat → Int64} {t : Nat}
set_option maxRecDepth 100000 in
theorem s_add2 {n : Nat} {f t ln sl g : Int32} (hn : iv 2 0 = nI n) (h24 : n < 24) (k : Q (some (.int (nI n))) SH RF (xu2 (xu2 (xu2 (xu2 (xu2 (xu2 iv 3 n f) 4 n t) 5 n ln) 6 n sl) 7 n g) 2 0 (nI (n + 1))) lg) : Sp L xs m_Ways_add [.ref 2, .int f, .int t, .int ln, .int sl, .int g] SH RF iv lg Q := by
  have hv : vp_in (iv 2 0) 24 := by rw [hn]; exact vp_N h24
  refine sgo [] 100 ?_
  refine And.intro hv ?_
  refine And.intro hv ?_
  refine And.intro hv ?_
  refine And.intro hv ?_
  refine And.intro hv ?_
  show Q _ _ _ _ _
  rw [hn, cl]
  have e : ∀ a : xIv, a 2 0 = nI n → a 2 0 + 1 = nI (n + 1) := fun a ha => by rw [ha]; exact nI_1 n
  rw [e _ (by simp only [xu2_k (show (2 : Nat) ≠ 3 by decide), xu2_k (show (2 : Nat) ≠ 4 by decide), xu2_k (show (2 : Nat) ≠ 5 by decide), xu2_k (show (2 : Nat) ≠ 6 by decide), xu2_k (show (2 : Nat) ≠ 7 by decide)]; exact hn)]
  exact k
theorem s_forget (k : Q none SH RF (xu2 iv 37 2 0) lg) : Sp L xs m_Roads_forget [.ref 37] SH RF iv lg Q := by
  refine sgo [] 100 ?_
  exact k
theorem vL_addW0 {f t2 ln sl g : Int32} : cnt (vL (addW sg f t2 ln sl g)) 0 = (nI (cnt (vL sg) 0 + 1)).toNatClampNeg := by
  show (addW sg f t2 ln sl g 79 1).toNatClampNeg = _
  unfold addW
  rw [xu2_s]
theorem addW_old {f t2 ln sl g : Int32} {j : Nat} (h : j < 5 * cnt (vL sg) 0) : vL (addW sg f t2 ln sl g) 1 j = vL sg 1 j := by
  show addW sg f t2 ln sl g 80 j = sg 80 j
  unfold addW
  rw [xu2_k (by decide), xu2_j (by omega), xu2_j (by omega), xu2_j (by omega), xu2_j (by omega), xu2_j (by omega)]
theorem addW_row {f t2 ln sl g : Int32} {k : Nat} (h : k ≠ 79) (h2 : k ≠ 80) : addW sg f t2 ln sl g k = sg k := by
  unfold addW
  rw [xu2_ne h, xu2_ne h2, xu2_ne h2, xu2_ne h2, xu2_ne h2, xu2_ne h2]
theorem addW_79 {f t2 ln sl g : Int32} {j : Nat} (h : j ≠ 1) : addW sg f t2 ln sl g 79 j = sg 79 j := by
  unfold addW
  rw [xu2_j h, xu2_k (by decide), xu2_k (by decide), xu2_k (by decide), xu2_k (by decide), xu2_k (by decide)]
theorem addW_n {f t2 ln sl g : Int32} : addW sg f t2 ln sl g 80 (5 * cnt (vL sg) 0) = f ∧ addW sg f t2 ln sl g 80 (5 * cnt (vL sg) 0 + 1) = t2 ∧ addW sg f t2 ln sl g 80 (5 * cnt (vL sg) 0 + 2) = ln ∧ addW sg f t2 ln sl g 80 (5 * cnt (vL sg) 0 + 3) = sl ∧ addW sg f t2 ln sl g 80 (5 * cnt (vL sg) 0 + 4) = g := by
  unfold addW
  refine ⟨?_, ?_, ?_, ?_, ?_⟩
  · rw [xu2_k (by decide), xu2_j (by omega), xu2_j (by omega), xu2_j (by omega), xu2_j (by omega), xu2_s]
  · rw [xu2_k (by decide), xu2_j (by omega), xu2_j (by omega), xu2_j (by omega), xu2_s]
  · rw [xu2_k (by decide), xu2_j (by omega), xu2_j (by omega), xu2_s]
  · rw [xu2_k (by decide), xu2_j (by omega), xu2_s]
  · rw [xu2_k (by decide), xu2_s]
theorem c_addW {f t2 ln sl g : Int32} (hC : CX iv lg sg tw) (hG : Gv t (vL sg)) (h6 : cnt (vL sg) 0 < 24) : CX (xu2 (xu2 (xu2 (xu2 (xu2 (xu2 (xu2 iv 3 (cnt (vL sg) 0) f) 4 (cnt (vL sg) 0) t2) 5 (cnt (vL sg) 0) ln) 6 (cnt (vL sg) 0) sl) 7 (cnt (vL sg) 0) g) 2 0 (nI (cnt (vL sg) 0 + 1))) 37 2 0) lg (addW sg f t2 ln sl g) tw := by
  generalize hiv : xu2 (xu2 (xu2 (xu2 (xu2 (xu2 (xu2 iv 3 (cnt (vL sg) 0) f) 4 (cnt (vL sg) 0) t2) 5 (cnt (vL sg) 0) ln) 6 (cnt (vL sg) 0) sl) 7 (cnt (vL sg) 0) g) 2 0 (nI (cnt (vL sg) 0 + 1))) 37 2 0 = iv'
  have hr : ∀ k, k ≠ 2 → k ≠ 3 → k ≠ 4 → k ≠ 5 → k ≠ 6 → k ≠ 7 → k ≠ 37 → iv' k = iv k := fun k a b c d e f g => by rw [← hiv, xu2_ne g, xu2_ne a, xu2_ne f, xu2_ne e, xu2_ne d, xu2_ne c, xu2_ne b]
  obtain ⟨⟨hy, hp, ho⟩, hk, hrd, htp, hst⟩ := id hC
  refine ⟨⟨?_, ?_, ?_⟩, ?_, ?_, ?_, ?_⟩
  · refine ⟨?_, fun i hi => ?_⟩
    · show iv' 2 0 = addW sg f t2 ln sl g 79 1
      rw [← hiv, xu2_k (by decide), xu2_s]
      unfold addW
      rw [xu2_s]
    · rw [vL_addW0, cl] at hi
      by_cases e : i = cnt (vL sg) 0
      · subst e
        obtain ⟨a1, a2, a3, a4, a5⟩ := addW_n (sg := sg) (f := f) (t2 := t2) (ln := ln) (sl := sl) (g := g)
        refine ⟨Eq.trans ?_ a1.symm, Eq.trans ?_ a2.symm, Eq.trans ?_ a3.symm, Eq.trans ?_ a4.symm, Eq.trans ?_ a5.symm⟩
        · show iv' 3 _ = _
          rw [← hiv, xu2_k (by decide), xu2_k (by decide), xu2_k (by decide), xu2_k (by decide), xu2_k (by decide), xu2_k (by decide), xu2_s]
        · show iv' 4 _ = _
          rw [← hiv, xu2_k (by decide), xu2_k (by decide), xu2_k (by decide), xu2_k (by decide), xu2_k (by decide), xu2_s]
        · show iv' 5 _ = _
          rw [← hiv, xu2_k (by decide), xu2_k (by decide), xu2_k (by decide), xu2_k (by decide), xu2_s]
        · show iv' 6 _ = _
          rw [← hiv, xu2_k (by decide), xu2_k (by decide), xu2_k (by decide), xu2_s]
        · show iv' 7 _ = _
          rw [← hiv, xu2_k (by decide), xu2_k (by decide), xu2_s]
      · have hi2 : i < cnt (vL sg) 0 := by omega
        obtain ⟨b1, b2, b3, b4, b5⟩ := hy.2 i hi2
        rw [addW_old (by omega), addW_old (by omega), addW_old (by omega), addW_old (by omega), addW_old (by omega)]
        refine ⟨Eq.trans ?_ b1, Eq.trans ?_ b2, Eq.trans ?_ b3, Eq.trans ?_ b4, Eq.trans ?_ b5⟩
        · show iv' 3 _ = iv 3 _
          rw [← hiv, xu2_k (by decide), xu2_k (by decide), xu2_k (by decide), xu2_k (by decide), xu2_k (by decide), xu2_k (by decide), xu2_j e]
        · show iv' 4 _ = iv 4 _
          rw [← hiv, xu2_k (by decide), xu2_k (by decide), xu2_k (by decide), xu2_k (by decide), xu2_k (by decide), xu2_j e, xu2_k (by decide)]
        · show iv' 5 _ = iv 5 _
          rw [← hiv, xu2_k (by decide), xu2_k (by decide), xu2_k (by decide), xu2_k (by decide), xu2_j e, xu2_k (by decide), xu2_k (by decide)]
        · show iv' 6 _ = iv 6 _
          rw [← hiv, xu2_k (by decide), xu2_k (by decide), xu2_k (by decide), xu2_j e, xu2_k (by decide), xu2_k (by decide), xu2_k (by decide)]
        · show iv' 7 _ = iv 7 _
          rw [← hiv, xu2_k (by decide), xu2_k (by decide), xu2_j e, xu2_k (by decide), xu2_k (by decide), xu2_k (by decide), xu2_k (by decide)]
  · refine hp.keep (fun i a b => hr _ (by omega) (by omega) (by omega) (by omega) (by omega) (by omega) (by omega)) (addW_79 (by decide)) (fun j _ => ?_) (fun j _ => ?_)
    · show addW sg f t2 ln sl g 81 j = sg 81 j
      rw [addW_row (by decide) (by decide)]
    · show addW sg f t2 ln sl g 82 j = sg 82 j
      rw [addW_row (by decide) (by decide)]
  · refine ho.keep (hr _ (by omega) (by omega) (by omega) (by omega) (by omega) (by omega) (by omega)) (hr _ (by omega) (by omega) (by omega) (by omega) (by omega) (by omega) (by omega)) (hr _ (by omega) (by omega) (by omega) (by omega) (by omega) (by omega) (by omega)) (addW_79 (by decide)) (addW_79 (by decide)) (addW_79 (by decide)) (fun j _ => ?_) (fun j _ => ?_)
    · show addW sg f t2 ln sl g 84 j = sg 84 j
      rw [addW_row (by decide) (by decide)]
    · show addW sg f t2 ln sl g 83 j = sg 83 j
      rw [addW_row (by decide) (by decide)]
  · exact hC.kept (fun k a b => hr _ (by omega) (by omega) (by omega) (by omega) (by omega) (by omega) (by omega)) (by rw [hr 0 (by decide) (by decide) (by decide) (by decide) (by decide) (by decide) (by decide)]) (addW_79 (by decide)) (addW_row (by decide) (by decide)) (addW_row (by decide) (by decide))
  · exact RD.zero (by rw [← hiv, xu2_s])
  · exact htp.keep (by rw [hr 53 (by decide) (by decide) (by decide) (by decide) (by decide) (by decide) (by decide)]) (hr 54 (by decide) (by decide) (by decide) (by decide) (by decide) (by decide) (by decide)) (hr 69 (by decide) (by decide) (by decide) (by decide) (by decide) (by decide) (by decide)) (addW_79 (by decide)) (addW_row (by decide) (by decide))
  · exact hst.keep (fun k a b => hr _ (by omega) (by omega) (by omega) (by omega) (by omega) (by omega) (by omega)) (fun _ _ _ => rfl) (addW_row (by decide) (by decide)) (addW_row (by decide) (by decide))
set_option maxRecDepth 100000 in
theorem c_way {f t2 ln sl : Int32} (hC : CX iv lg sg tw) (hG : Gv t (vL sg)) (k : ∀ iv', CX iv' lg (opWay sg f t2 ln sl).2 tw → refS iv' lg iv lg → Q (some (.int (opWay sg f t2 ln sl).1)) SH RF iv' lg) : Sp L xs m_SR_way [.ref 0, .int f, .int t2, .int ln, .int sl] SH RF iv lg Q := by
  have hn : iv 2 0 = nI (cnt (vL sg) 0) := hC.1.1.1.trans hG.1.1
  have kb : ¬ okWy f t2 ln sl → Q (some (.int (-1))) SH RF iv lg := fun h => by
    have e : opWay sg f t2 ln sl = (-1, sg) := if_neg h
    rw [e] at k
    exact k iv hC refS.rfl
  refine sgo [] 100 ?_
  refine s_isPlace (fun h1 => ?_) (fun h1 => ?_)
  · refine And.intro (fun z => absurd z (by decide)) (fun _ => ?_)
    refine s_isPlace (fun h2 => ?_) (fun h2 => ?_)
    · refine And.intro (fun z => absurd z (by decide)) (fun _ => ?_)
      refine And.intro (fun h3 => ?_) (fun h3 => ?_)
      · refine s_within (fun h4 => ?_) (fun h4 => ?_)
        · refine And.intro (fun z => absurd z (by decide)) (fun _ => ?_)
          refine s_within (fun h5 => ?_) (fun h5 => ?_)
          · refine And.intro (fun _ => ?_) (fun z => absurd (by decide) z)
            have hok : okWy f t2 ln sl := ⟨h1, h2, h3, h4, h5⟩
            refine And.intro (fun h6 => ?_) (fun h6 => ?_)
            · rw [hn] at h6
              replace h6 : cnt (vL sg) 0 < 24 := (nI_ltI (b := 24) (by have := hG.1.2; omega) (by decide)).mp h6
              have e : opWay sg f t2 ln sl = (nI (cnt (vL sg) 0), addW sg f t2 ln sl 0) := by unfold opWay; rw [if_pos hok, if_neg (by omega)]
              rw [e] at k
              refine s_add2 hn h6 ?_
              refine s_forget ?_
              exact k _ (c_addW hC hG h6) ⟨fun k hk => by rw [xu2_ne (by omega), xu2_ne (by omega), xu2_ne (by omega), xu2_ne (by omega), xu2_ne (by omega), xu2_ne (by omega), xu2_ne (by omega)], fun _ _ => rfl⟩
            · rw [hn] at h6
              replace h6 : ¬ cnt (vL sg) 0 < 24 := fun z => h6 ((nI_ltI (b := 24) (by have := hG.1.2; omega) (by decide)).mpr z)
              have e : opWay sg f t2 ln sl = (-3, sg) := by unfold opWay; rw [if_pos hok, if_pos (by have := hG.1.2; omega)]
              rw [e] at k
              exact k iv hC refS.rfl
          · refine And.intro (fun z => absurd rfl z) (fun _ => ?_)
            exact kb (fun z => h5 z.2.2.2.2)
        · refine And.intro (fun _ => ?_) (fun z => absurd rfl z)
          exact kb (fun z => h4 z.2.2.2.1)
      · exact kb (fun z => h3 z.2.2.1)
    · refine And.intro (fun _ => ?_) (fun z => absurd rfl z)
      exact kb (fun z => h2 z.2.1)
  · refine And.intro (fun _ => ?_) (fun z => absurd rfl z)
    exact kb (fun z => h1 z.1)
theorem lit_eq {n c : Nat} (hn : n < 2 ^ 31) (hc : c < 2 ^ 31) : nI n = nI c ↔ n = c := nI_eq hn hc
set_option maxRecDepth 100000 in
theorem m_addWay {n : Nat} {f t ln sl g : Int32} (hn : iv 79 1 = nI n) (h24 : n < 24) (k : Q none SH RF (xu2 (xu2 (xu2 (xu2 (xu2 (xu2 iv 80 (5 * n) f) 80 (5 * n + 1) t) 80 (5 * n + 2) ln) 80 (5 * n + 3) sl) 80 (5 * n + 4) g) 79 1 (nI (n + 1))) lg) : Sp L xs m_Mo_addWay [.ref 79, .int f, .int t, .int ln, .int sl, .int g] SH RF iv lg Q := by
  have e5 : (5 : Int32) * iv 79 1 = nI (5 * n) := by rw [hn]; exact ni5 n
  have e : ∀ c, (5 : Int32) * iv 79 1 + nI c = nI (5 * n + c) := fun c => by rw [e5]; exact ni_a _ _
  refine sgo [] 100 ?_
  refine And.intro (by rw [e5]; exact vp_N (by omega)) ?_
  refine And.intro (by show vp_in ((5 : Int32) * iv 79 1 + nI 1) 120; rw [e]; exact vp_N (by omega)) ?_
  refine And.intro (by show vp_in ((5 : Int32) * iv 79 1 + nI 2) 120; rw [e]; exact vp_N (by omega)) ?_
  refine And.intro (by show vp_in ((5 : Int32) * iv 79 1 + nI 3) 120; rw [e]; exact vp_N (by omega)) ?_
  refine And.intro (by show vp_in ((5 : Int32) * iv 79 1 + nI 4) 120; rw [e]; exact vp_N (by omega)) ?_
  show Q none SH RF (xu2 (xu2 (xu2 (xu2 (xu2 (xu2 iv 80 ((5 : Int32) * iv 79 1).toNatClampNeg f) 80 ((5 : Int32) * iv 79 1 + nI 1).toNatClampNeg t) 80 ((5 : Int32) * iv 79 1 + nI 2).toNatClampNeg ln) 80 ((5 : Int32) * iv 79 1 + nI 3).toNatClampNeg sl) 80 ((5 : Int32) * iv 79 1 + nI 4).toNatClampNeg g) 79 1 (iv 79 1 + 1)) lg
  rw [e, e, e, e, e5, cl, cl, cl, cl, cl, hn, nI_1]
  exact k
set_option maxRecDepth 100000 in
theorem m_way {f t2 ln sl : Int32} (hM : MV iv lg sg tw) (hG : Gv t (vL sg)) (k : ∀ iv', MV iv' lg (opWay sg f t2 ln sl).2 tw → clsS iv' lg iv lg → Q (some (.int (opWay sg f t2 ln sl).1)) SH RF iv' lg) : Sp L xs m_Mo_way [.ref 79, .int f, .int t2, .int ln, .int sl] SH RF iv lg Q := by
  have hn : iv 79 1 = nI (cnt (vL sg) 0) := hM.1.1.trans hG.1.1
  have kb : ¬ okWy f t2 ln sl → Q (some (.int (-1))) SH RF iv lg := fun h => by
    have e : opWay sg f t2 ln sl = (-1, sg) := if_neg h
    rw [e] at k
    exact k iv hM clsS.rfl
  refine sgo [] 100 ?_
  refine s_moPlace (fun h1 => ?_) (fun h1 => ?_)
  · refine And.intro (fun z => absurd z (by decide)) (fun _ => ?_)
    refine s_moPlace (fun h2 => ?_) (fun h2 => ?_)
    · refine And.intro (fun z => absurd z (by decide)) (fun _ => ?_)
      refine And.intro (fun h3 => ?_) (fun h3 => ?_)
      · exact kb (fun z => z.2.2.1 h3)
      · refine s_inI (a := 1) (b := 99) (kt := fun h4 => ?_) (kf := fun h4 => ?_)
        · refine And.intro (fun z => absurd z (by decide)) (fun _ => ?_)
          refine s_inI (a := -9) (b := 9) (kt := fun h5 => ?_) (kf := fun h5 => ?_)
          · refine And.intro (fun _ => ?_) (fun z => absurd (by decide) z)
            have hok : okWy f t2 ln sl := ⟨h1, h2, h3, h4, h5⟩
            refine And.intro (fun h6 => ?_) (fun h6 => ?_)
            · rw [hn] at h6
              replace h6 : cnt (vL sg) 0 < 24 := by
                have h7 : ¬ cnt (vL sg) 0 = 24 := fun z => h6 ((nI_eq (b := 24) (by have := hG.1.2; omega) (by decide)).mpr z)
                have := hG.1.2
                omega
              have e : opWay sg f t2 ln sl = (nI (cnt (vL sg) 0), addW sg f t2 ln sl 0) := by unfold opWay; rw [if_pos hok, if_neg (by omega)]
              rw [e] at k
              refine m_addWay hn h6 ?_
              show Q (some (.int (xu2 _ 79 1 (nI (cnt (vL sg) 0 + 1)) 79 1 - 1))) SH RF _ lg
              rw [xu2_s, nI_pred]
              refine k _ ?_ ?_
              · unfold addW
                exact (((((hM.up _ _ _).up _ _ _).up _ _ _).up _ _ _).up _ _ _).up _ _ _
              · exact (((((clsS.rfl.up (by decide)).up (by decide)).up (by decide)).up (by decide)).up (by decide)).up (by decide)
            · rw [hn] at h6
              replace h6 : cnt (vL sg) 0 = 24 := by
                by_cases z : cnt (vL sg) 0 = 24
                · exact z
                · exact absurd (fun w => z ((nI_eq (b := 24) (by have := hG.1.2; omega) (by decide)).mp w)) h6
              have e : opWay sg f t2 ln sl = (-3, sg) := by unfold opWay; rw [if_pos hok, if_pos h6]
              rw [e] at k
              exact k iv hM clsS.rfl
          · refine And.intro (fun z => absurd rfl z) (fun _ => ?_)
            exact kb (fun z => h5 z.2.2.2.2)
        · refine And.intro (fun _ => ?_) (fun z => absurd rfl z)
          exact kb (fun z => h4 z.2.2.2.1)
    · refine And.intro (fun _ => ?_) (fun z => absurd rfl z)
      exact kb (fun z => h2 z.2.1)
  · refine And.intro (fun _ => ?_) (fun z => absurd rfl z)
    exact kb (fun z => h1 z.1)
theorem g_addW {f t2 ln sl g : Int32} (hG : Gv t (vL sg)) (hok : okWy f t2 ln sl) (hg : g = 0 ∨ g = 1) (h6 : cnt (vL sg) 0 < 24) : Gv t (vL (addW sg f t2 ln sl g)) := by
  obtain ⟨h1, h2, h3, h4, h5, h6', h7, h8, h9, h10⟩ := hG
  have e0 : cnt (vL (addW sg f t2 ln sl g)) 0 = cnt (vL sg) 0 + 1 := by rw [vL_addW0, cl]
  have ez : ∀ j, j ≠ 0 → vL (addW sg f t2 ln sl g) 0 j = vL sg 0 j := fun j hj => by
    match j, hj with
    | 1, _ => exact addW_79 (by decide)
    | 2, _ => exact addW_79 (by decide)
    | 3, _ => exact addW_79 (by decide)
    | j + 4, _ => exact addW_79 (by decide)
  have e1 : cnt (vL (addW sg f t2 ln sl g)) 1 = cnt (vL sg) 1 := by unfold cnt; rw [ez 1 (by decide)]
  have e2 : cnt (vL (addW sg f t2 ln sl g)) 2 = cnt (vL sg) 2 := by unfold cnt; rw [ez 2 (by decide)]
  have r2 : vL (addW sg f t2 ln sl g) 2 = vL sg 2 := by funext j; show addW sg f t2 ln sl g 81 j = _; rw [addW_row (by decide) (by decide)]; rfl
  have r3 : vL (addW sg f t2 ln sl g) 3 = vL sg 3 := by funext j; show addW sg f t2 ln sl g 82 j = _; rw [addW_row (by decide) (by decide)]; rfl
  have r4 : vL (addW sg f t2 ln sl g) 4 = vL sg 4 := by funext j; show addW sg f t2 ln sl g 83 j = _; rw [addW_row (by decide) (by decide)]; rfl
  have r5 : vL (addW sg f t2 ln sl g) 5 = vL sg 5 := by funext j; show addW sg f t2 ln sl g 84 j = _; rw [addW_row (by decide) (by decide)]; rfl
  refine ⟨⟨?_, by omega⟩, by rw [ez 1 (by decide), e1]; exact h2, by rw [ez 2 (by decide), e2]; exact h3, by rw [ez 3 (by decide)]; exact h4, by rw [ez 4 (by decide)]; exact h5, fun w hw => ?_, fun p hp => ?_, fun j hj => by rw [r3]; exact h8 j hj, fun j hj => by rw [r4]; exact h9 j hj, fun x hx => by rw [e2] at hx; rw [r5]; exact h10 x hx⟩
  · rw [e0]
    show addW sg f t2 ln sl g 79 1 = _
    unfold addW
    rw [xu2_s]
  · rw [e0] at hw
    by_cases e : w = cnt (vL sg) 0
    · subst e
      obtain ⟨a1, a2, a3, a4, a5⟩ := addW_n (sg := sg) (f := f) (t2 := t2) (ln := ln) (sl := sl) (g := g)
      unfold okW
      show isN (addW sg f t2 ln sl g 80 _) 12 ∧ isN (addW sg f t2 ln sl g 80 _) 12 ∧ ¬ addW sg f t2 ln sl g 80 _ = addW sg f t2 ln sl g 80 _ ∧ (1 ≤ addW sg f t2 ln sl g 80 _ ∧ addW sg f t2 ln sl g 80 _ ≤ 99) ∧ (-9 ≤ addW sg f t2 ln sl g 80 _ ∧ addW sg f t2 ln sl g 80 _ ≤ 9) ∧ (addW sg f t2 ln sl g 80 _ = 0 ∨ addW sg f t2 ln sl g 80 _ = 1)
      rw [a1, a2, a3, a4, a5]
      exact ⟨hok.1, hok.2.1, hok.2.2.1, hok.2.2.2.1, hok.2.2.2.2, hg⟩
    · have := h6' w (by omega)
      unfold okW at this ⊢
      rw [addW_old (by omega), addW_old (by omega), addW_old (by omega), addW_old (by omega), addW_old (by omega)]
      exact this
  · rw [e1] at hp
    have := h7 p hp
    unfold okP at this ⊢
    rw [r2]
    exact this
theorem e_way (f t2 ln sl : Int32) : EQ m_SR_way m_Mo_way [.int f, .int t2, .int ln, .int sl] := by
  refine EQ.of (fun sg tw => ((opWay sg f t2 ln sl).1, (opWay sg f t2 ln sl).2, tw)) (fun hC hG ht k => c_way hC hG.1 (fun iv' h1 h2 => k iv' _ h1 h2)) (fun hM hG ht k => m_way hM hG.1 (fun iv' h1 h2 => k iv' _ h1 h2)) (fun {t sg tw} hG ht => ?_)
  show GG (t + 1) (opWay sg f t2 ln sl).2
  unfold opWay
  split
  · rename_i hok
    split
    · exact hG.mono (Nat.le_succ t)
    · rename_i h24
      exact GG.kept (sg' := addW sg f t2 ln sl 0) hG ((g_addW hG.1 hok (Or.inl rfl) (by have := hG.1.1.2; omega)).mono (Nat.le_succ t)) (addW_79 (by decide)) (addW_row (by decide) (by decide)) (addW_row (by decide) (by decide))
  · exact hG.mono (Nat.le_succ t)
end WAY
