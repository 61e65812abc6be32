-- ===== town, people: the reference, and both =====
section TOWNM
variable {L : Nat} {xs : Nat → Int32} {iv : xIv} {lg : xLg} {Q : xQ} {sg : xIv} {tw : Nat → Int64} {t : Nat}
theorem MV.txm (hM : MV iv lg sg tw) (hX : TXs sg) : TM iv (tT sg) (tpN sg) := by
  refine ⟨hM.1.2.2.2.2.2.1.trans hX.2.1, hX.1, fun j hj => ?_⟩
  rw [hM.2.1.2.2.2.2.2.1]
  exact hX.2.2 j hj
theorem MV.s5 {iv' : xIv} (hM : MV iv lg sg tw) (hr : S5 iv' iv) : MV iv' lg sg tw := hM.wk (fun j h1 h2 => hr.2 j h1 h2) (fun k hk => hr.1 k (by omega) (by omega))
/-- while ways are laid -/
def LW (iv iv0 : xIv) (m i : Nat) (a : Nat → wI) : Prop := iv 79 1 = nI i ∧ iv 79 14 = nI m ∧ iv 79 12 = 0 ∧ (∀ j, j ≠ 1 → j ≠ 12 → j ≠ 13 → j ≠ 14 → iv 79 j = iv0 79 j) ∧ (∀ j, iv 80 j = if j < 5 * i then wf (a (j / 5)) (j % 5) else iv0 80 j) ∧ (∀ k, k ≠ 79 → k ≠ 80 → k ≠ 87 → iv k = iv0 k) ∧ RA iv m a
theorem MV.twn {iv0 : xIv} {m : Nat} {a : Nat → wI} (hM : MV iv0 lg sg tw) (h : LW iv iv0 m m a) : MV iv lg (twS sg m a) tw := by
  obtain ⟨h1, h14, h12, hj, h80, hr, -⟩ := h
  obtain ⟨⟨a1, a2, a3, a4, a5, a6, a7⟩, ⟨b1, b2, b3, b4, b5, b6, b7, b8, b9, b10⟩, c⟩ := hM
  have q : ∀ j, j ≠ 1 → j ≠ 12 → j ≠ 13 → j ≠ 14 → iv0 79 j = sg 79 j → iv 79 j = twS sg m a 79 j := fun j z1 z2 z3 z4 e => by rw [hj j z1 z2 z3 z4, e, twS_79 z1 z2]
  have r : ∀ k, k ≠ 79 → k ≠ 80 → k ≠ 87 → iv0 k = sg k → iv k = twS sg m a k := fun k z1 z2 z3 e => by rw [hr k z1 z2 z3, e, twS_k z1 z2]
  refine ⟨⟨h1.trans twS_n.1.symm, q 3 (by decide) (by decide) (by decide) (by decide) a2, q 6 (by decide) (by decide) (by decide) (by decide) a3, q 8 (by decide) (by decide) (by decide) (by decide) a4, q 9 (by decide) (by decide) (by decide) (by decide) a5, h12.trans twS_n.2.symm, q 24 (by decide) (by decide) (by decide) (by decide) a7⟩, ⟨?_, r 81 (by decide) (by decide) (by decide) b2, r 82 (by decide) (by decide) (by decide) b3, r 83 (by decide) (by decide) (by decide) b4, r 84 (by decide) (by decide) (by decide) b5, r 86 (by decide) (by decide) (by decide) b6, r 96 (by decide) (by decide) (by decide) b7, r 97 (by decide) (by decide) (by decide) b8, r 98 (by decide) (by decide) (by decide) b9, r 99 (by decide) (by decide) (by decide) b10⟩, c⟩
  funext j
  rw [h80 j]
  by_cases z : j < 5 * m
  · rw [if_pos z]
    have e : j = 5 * (j / 5) + j % 5 := by omega
    have := twS_f (sg := sg) (a := a) (m := m) (i := j / 5) (f := j % 5) (by omega) (by omega)
    rw [← e] at this
    exact this.symm
  · rw [if_neg z, b1, twS_o z]
set_option maxRecDepth 100000 in
theorem m_town_l {m : Nat} {a : Nat → wI} {iv0 : xIv} {g : Int32} (hm : m ≤ 24) : ∀ (r i : Nat) (X : Int32) (iv : xIv), i + r = m → X = nI i → LW iv iv0 m i a → (∀ iv', LW iv' iv0 m m a → (∀ k, k < 79 → iv' k = iv k) → Q (some (.int (nI m))) SH RF iv' lg) → Wp L xs m_Mo_town 24 [some (.ref 79), some (.int g), some (.int X)] [] SH RF iv lg Q
  | 0, i, X, iv, hi, hX, hL, kk => by
    obtain rfl : i = m := by omega
    subst hX
    have k2 := kk iv hL (fun _ _ => rfl)
    have h1 := hL.1
    have h14 := hL.2.1
    clear kk
    refine wgo [24] 100 ?_
    refine And.intro (fun _ => ?_) (fun z => absurd (by rw [h14]; exact il.mpr (Int.le_refl _)) z)
    exact qv k2 h1
  | r + 1, i, X, iv, hi, hX, hL, kk => by
    subst hX
    obtain ⟨h1, h14, h12, hj, h80, hr, hA⟩ := id hL
    have him : i < m := by omega
    have hlt : nI i < iv 79 14 := by rw [h14]; exact nI_lt him (by omega)
    have e5 : (5 : Int32) * nI i = nI (5 * i) := ni5 i
    have j1 : (5 : Int32) * nI i + 1 = nI (5 * i + 1) := by rw [e5]; exact nI_1 _
    have j2 : (5 : Int32) * nI i + 2 = nI (5 * i + 2) := by rw [e5]; exact ni_a _ 2
    have j3 : (5 : Int32) * nI i + 3 = nI (5 * i + 3) := by rw [e5]; exact ni_a _ 3
    have j4 : (5 : Int32) * nI i + 4 = nI (5 * i + 4) := by rw [e5]; exact ni_a _ 4
    have v0 : vp_in ((5 : Int32) * nI i) 120 := by rw [e5]; exact vp_N (by omega)
    have v1 : vp_in ((5 : Int32) * nI i + 1) 120 := by rw [j1]; exact vp_N (by omega)
    have v2 : vp_in ((5 : Int32) * nI i + 2) 120 := by rw [j2]; exact vp_N (by omega)
    have v3 : vp_in ((5 : Int32) * nI i + 3) 120 := by rw [j3]; exact vp_N (by omega)
    have v4 : vp_in ((5 : Int32) * nI i + 4) 120 := by rw [j4]; exact vp_N (by omega)
    have w0 : iv 87 ((5 : Int32) * nI i).toNatClampNeg = wf (a i) 0 := by rw [e5, cl]; exact hA i him 0 (by decide)
    have w1 : iv 87 ((5 : Int32) * nI i + 1).toNatClampNeg = wf (a i) 1 := by rw [j1, cl]; exact hA i him 1 (by decide)
    have w2 : iv 87 ((5 : Int32) * nI i + 2).toNatClampNeg = wf (a i) 2 := by rw [j2, cl]; exact hA i him 2 (by decide)
    have w3 : iv 87 ((5 : Int32) * nI i + 3).toNatClampNeg = wf (a i) 3 := by rw [j3, cl]; exact hA i him 3 (by decide)
    have w4 : iv 87 ((5 : Int32) * nI i + 4).toNatClampNeg = wf (a i) 4 := by rw [j4, cl]; exact hA i him 4 (by decide)
    have nx : ∀ f0 f1 f2 f3 f4 : Int32, f0 = wf (a i) 0 → f1 = wf (a i) 1 → f2 = wf (a i) 2 → f3 = wf (a i) 3 → f4 = wf (a i) 4 → Wp L xs m_Mo_town 24 [some (.ref 79), some (.int g), some (.int (nI i + 1))] [] SH RF (xu2 (xu2 (xu2 (xu2 (xu2 (xu2 iv 80 (5 * i) f0) 80 (5 * i + 1) f1) 80 (5 * i + 2) f2) 80 (5 * i + 3) f3) 80 (5 * i + 4) f4) 79 1 (nI (i + 1))) lg Q := fun f0 f1 f2 f3 f4 g0 g1 g2 g3 g4 => by
      have rr : ∀ k, k ≠ 79 → k ≠ 80 → xu2 (xu2 (xu2 (xu2 (xu2 (xu2 iv 80 (5 * i) f0) 80 (5 * i + 1) f1) 80 (5 * i + 2) f2) 80 (5 * i + 3) f3) 80 (5 * i + 4) f4) 79 1 (nI (i + 1)) k = iv k := fun k z1 z2 => by rw [xu2_ne z1, xu2_ne z2, xu2_ne z2, xu2_ne z2, xu2_ne z2, xu2_ne z2]
      have r79 : ∀ j, j ≠ 1 → xu2 (xu2 (xu2 (xu2 (xu2 (xu2 iv 80 (5 * i) f0) 80 (5 * i + 1) f1) 80 (5 * i + 2) f2) 80 (5 * i + 3) f3) 80 (5 * i + 4) f4) 79 1 (nI (i + 1)) 79 j = iv 79 j := fun j z => by rw [xu2_j z, xu2_k (by decide), xu2_k (by decide), xu2_k (by decide), xu2_k (by decide), xu2_k (by decide)]
      refine m_town_l hm r (i + 1) _ _ (by omega) (nI_1 i) ⟨xu2_s, by rw [r79 14 (by decide)]; exact h14, by rw [r79 12 (by decide)]; exact h12, fun j z1 z2 z3 z4 => by rw [r79 j z1]; exact hj j z1 z2 z3 z4, fun j => ?_, fun k z1 z2 z3 => by rw [rr k z1 z2]; exact hr k z1 z2 z3, hA.cg (fun j _ => congrFun (rr 87 (by decide) (by decide)) j)⟩ (fun iv' c1 c2 => kk iv' c1 (fun k hk => (c2 k hk).trans (rr k (by omega) (by omega))))
      rw [xu2_k (by decide)]
      by_cases c4 : j = 5 * i + 4
      · rw [c4, xu2_s, if_pos (by omega), g4, show (5 * i + 4) / 5 = i by omega, show (5 * i + 4) % 5 = 4 by omega]
      · rw [xu2_j c4]
        by_cases c3 : j = 5 * i + 3
        · rw [c3, xu2_s, if_pos (by omega), g3, show (5 * i + 3) / 5 = i by omega, show (5 * i + 3) % 5 = 3 by omega]
        · rw [xu2_j c3]
          by_cases c2 : j = 5 * i + 2
          · rw [c2, xu2_s, if_pos (by omega), g2, show (5 * i + 2) / 5 = i by omega, show (5 * i + 2) % 5 = 2 by omega]
          · rw [xu2_j c2]
            by_cases c1 : j = 5 * i + 1
            · rw [c1, xu2_s, if_pos (by omega), g1, show (5 * i + 1) / 5 = i by omega, show (5 * i + 1) % 5 = 1 by omega]
            · rw [xu2_j c1]
              by_cases c0 : j = 5 * i
              · rw [c0, xu2_s, if_pos (by omega), g0, show (5 * i) / 5 = i by omega, show (5 * i) % 5 = 0 by omega]
              · rw [xu2_j c0, h80 j]
                by_cases z : j < 5 * i
                · rw [if_pos z, if_pos (by omega)]
                · rw [if_neg z, if_neg (by omega)]
    have n2 := nx _ _ _ _ _ w0 w1 w2 w3 w4
    clear kk nx
    refine wgo [24] 100 ?_
    refine And.intro (fun z => absurd hlt (lenl z)) (fun _ => ?_)
    refine And.intro v0 ?_
    refine And.intro v1 ?_
    refine And.intro v2 ?_
    refine And.intro v3 ?_
    refine And.intro v4 ?_
    refine m_addWay h1 (by omega) ?_
    exact n2
set_option maxRecDepth 100000 in
theorem m_readT (hM : MV iv lg sg tw) (hX : TXs sg) (kt : ∀ m a q, prT sg = (some (m, a), q) → ∀ iv', RA iv' m a → iv' 79 14 = nI m → S5 iv' iv → Q (some (.int 1)) SH RF iv' lg) (kf : ∀ q, prT sg = (none, q) → ∀ iv', iv' 79 13 = nI q → S5 iv' iv → Q (some (.int 0)) SH RF iv' lg) : Sp L xs m_Mo_readAll [.ref 79, .int 1] SH RF iv lg Q := by
  have hT := hM.txm hX
  refine sgo [11] 100 ?_
  refine b1 ?_
  exact m_all_w 24 0 0 a0W _ _ none (by omega) (by decide) rfl (Nat.zero_le _) (hT.cg S5.rfl.u13) (fun i hi => absurd hi (Nat.not_lt_zero i)) xu2_s (fun m a q e iv' d1 d2 d3 => kt m a q e iv' d1 d2 (d3.trans S5.rfl.u13)) (fun q e iv' d1 d2 => kf q e iv' d1 (d2.trans S5.rfl.u13))
set_option maxRecDepth 100000 in
theorem m_readQ (hM : MV iv lg sg tw) (hX : TXs sg) (kt : ∀ m a q, prQ sg = (some (m, a), q) → ∀ iv', RP iv' m a → iv' 79 14 = nI m → S5 iv' iv → Q (some (.int 1)) SH RF iv' lg) (kf : ∀ q, prQ sg = (none, q) → ∀ iv', iv' 79 13 = nI q → S5 iv' iv → Q (some (.int 0)) SH RF iv' lg) : Sp L xs m_Mo_readAll [.ref 79, .int 0] SH RF iv lg Q := by
  have hT := hM.txm hX
  refine sgo [11] 100 ?_
  refine b0 ?_
  exact m_all_p 8 0 0 a0P _ _ none (by omega) (by decide) rfl (Nat.zero_le _) (hT.cg S5.rfl.u13) (fun i hi => absurd hi (Nat.not_lt_zero i)) xu2_s (fun m a q e iv' d1 d2 d3 => kt m a q e iv' d1 d2 (d3.trans S5.rfl.u13)) (fun q e iv' d1 d2 => kf q e iv' d1 (d2.trans S5.rfl.u13))
set_option maxRecDepth 100000 in
theorem m_town (hM : MV iv lg sg tw) (hX : TXs sg) (k1 : ∀ m a q, prT sg = (some (m, a), q) → ∀ iv', MV iv' lg (twS sg m a) tw → clsS iv' lg iv lg → Q (some (.int (nI m))) SH RF iv' lg) (k0 : ∀ q, prT sg = (none, q) → ∀ iv', MV iv' lg (tE sg) tw → clsS iv' lg iv lg → Q (some (.int (-20 - nI q))) SH RF iv' lg) : Sp L xs m_Mo_town [.ref 79] SH RF iv lg Q := by
  obtain ⟨p0, p1⟩ := prT_ok hX
  refine sgo [24] 100 ?_
  refine m_readT hM hX (fun m a q e iv1 d1 d2 d3 => ?_) (fun q e iv1 d1 d2 => ?_)
  · have hm := (p1 m a q e).1
    refine c1 ?_
    refine c1 ?_
    refine m_town_l (iv0 := iv) (m := m) (a := a) hm m 0 _ _ (Nat.zero_add m) rfl ⟨xu2_s, ?_, ?_, fun j z1 z2 z3 z4 => ?_, fun j => ?_, fun k z1 z2 z3 => ?_, d1.cg (fun j _ => ?_)⟩ (fun iv' c1 c2 => k1 m a q e iv' (hM.twn c1) ⟨fun k hk => ?_, fun _ _ => rfl⟩)
    · rw [xu2_j (by decide), xu2_j (by decide)]; exact d2
    · rw [xu2_j (by decide), xu2_s]
    · rw [xu2_j z1, xu2_j z2]; exact d3.2 j z3 z4
    · rw [if_neg (by omega), xu2_ne (by decide), xu2_ne (by decide), d3.1 80 (by decide) (by decide)]
    · rw [xu2_ne z1, xu2_ne z1]; exact d3.1 k z1 z3
    · rw [xu2_ne (by decide), xu2_ne (by decide)]
    · rw [c2 k hk, xu2_ne (by omega), xu2_ne (by omega)]; exact d3.1 k (by omega) (by omega)
  · obtain ⟨hq, hsk⟩ := p0 q e
    refine c0 ?_
    refine m_next ((hM.txm hX).cg d2) d1 hq (fun iv2 g1 g2 => ?_)
    rw [hsk] at g1
    refine c0 ?_
    have S2 : S5 iv2 iv := g2.S5.trans d2
    refine qv (k0 q e _ ((hM.s5 S2).up 79 12 0) ⟨fun k hk => ?_, fun _ _ => rfl⟩) ?_
    · rw [xu2_ne (by omega)]; exact S2.1 k (by omega) (by omega)
    · show -20 - xu2 iv2 79 12 0 79 13 = _
      rw [xu2_j (by decide), g1]
/-- while people are laid -/
def LQ (iv iv0 : xIv) (m i : Nat) (a : Nat → pI) : Prop := iv 79 3 = nI i ∧ iv 79 14 = nI m ∧ iv 79 12 = 0 ∧ (∀ j, j ≠ 3 → j ≠ 12 → j ≠ 13 → j ≠ 14 → iv 79 j = iv0 79 j) ∧ (∀ j, iv 81 j = if j < 7 * i then pf (a (j / 7)) (j % 7) else iv0 81 j) ∧ (∀ j, iv 82 j = if j < 64 then 0 else iv0 82 j) ∧ (∀ k, k ≠ 79 → k ≠ 81 → k ≠ 82 → k ≠ 87 → iv k = iv0 k) ∧ RP iv m a
theorem MV.ppl {iv0 : xIv} {m : Nat} {a : Nat → pI} (hM : MV iv0 lg sg tw) (h : LQ iv iv0 m m a) : MV iv lg (ppS sg m a) tw := by
  obtain ⟨h1, h14, h12, hj, h81, h82, hr, -⟩ := h
  obtain ⟨⟨a1, a2, a3, a4, a5, a6, a7⟩, ⟨b1, b2, b3, b4, b5, b6, b7, b8, b9, b10⟩, c⟩ := hM
  have q : ∀ j, j ≠ 3 → j ≠ 12 → j ≠ 13 → j ≠ 14 → iv0 79 j = sg 79 j → iv 79 j = ppS sg m a 79 j := fun j z1 z2 z3 z4 e => by rw [hj j z1 z2 z3 z4, e, ppS_79 z1 z2]
  have r : ∀ k, k ≠ 79 → k ≠ 81 → k ≠ 82 → k ≠ 87 → iv0 k = sg k → iv k = ppS sg m a k := fun k z1 z2 z3 z4 e => by rw [hr k z1 z2 z3 z4, e, ppS_k z1 z2 z3]
  refine ⟨⟨q 1 (by decide) (by decide) (by decide) (by decide) a1, h1.trans ppS_n.1.symm, q 6 (by decide) (by decide) (by decide) (by decide) a3, q 8 (by decide) (by decide) (by decide) (by decide) a4, q 9 (by decide) (by decide) (by decide) (by decide) a5, h12.trans ppS_n.2.symm, q 24 (by decide) (by decide) (by decide) (by decide) a7⟩, ⟨r 80 (by decide) (by decide) (by decide) (by decide) b1, ?_, ?_, r 83 (by decide) (by decide) (by decide) (by decide) b4, r 84 (by decide) (by decide) (by decide) (by decide) b5, r 86 (by decide) (by decide) (by decide) (by decide) b6, r 96 (by decide) (by decide) (by decide) (by decide) b7, r 97 (by decide) (by decide) (by decide) (by decide) b8, r 98 (by decide) (by decide) (by decide) (by decide) b9, r 99 (by decide) (by decide) (by decide) (by decide) b10⟩, c⟩
  · funext j
    rw [h81 j]
    by_cases z : j < 7 * m
    · rw [if_pos z]
      have e : j = 7 * (j / 7) + j % 7 := by omega
      have := ppS_f (sg := sg) (a := a) (m := m) (i := j / 7) (f := j % 7) (by omega) (by omega)
      rw [← e] at this
      exact this.symm
    · rw [if_neg z, b2, ppS_o z]
  · funext j
    rw [h82 j]
    by_cases z : j < 64
    · rw [if_pos z, ppS_82.1 z]
    · rw [if_neg z, b3, ppS_82.2 z]
set_option maxRecDepth 100000 in
theorem m_peo_0 {g : Int32} : ∀ (r i : Nat) (X : Int32) (iv : xIv), i + r = 64 → X = nI i → (∀ j, j < i → iv 82 j = 0) → (∀ iv', (∀ j, j < 64 → iv' 82 j = 0) → (∀ j, 64 ≤ j → iv' 82 j = iv 82 j) → (∀ k, k ≠ 82 → iv' k = iv k) → Wp L xs m_Mo_people 36 [some (.ref 79), some (.int g), some (.int 0)] [] SH RF iv' lg Q) → Wp L xs m_Mo_people 24 [some (.ref 79), some (.int g), some (.int X)] [] SH RF iv lg Q
  | 0, i, X, iv, hi, hX, h0, kk => by
    obtain rfl : i = 64 := by omega
    subst hX
    have k2 := kk iv h0 (fun _ _ => rfl) (fun _ _ => rfl)
    clear kk
    refine wgo [24, 36] 100 ?_
    exact And.intro (fun _ => k2) (fun z => absurd (by decide) z)
  | r + 1, i, X, iv, hi, hX, h0, kk => by
    subst hX
    have vi : vp_in (nI i) 64 := vp_N (by omega)
    have nx : Wp L xs m_Mo_people 24 [some (.ref 79), some (.int g), some (.int (nI i + 1))] [] SH RF (xu2 iv 82 (nI i).toNatClampNeg 0) lg Q := by
      rw [cl]
      refine m_peo_0 r (i + 1) _ _ (by omega) (nI_1 i) (fun j hj => ?_) (fun iv' c1 c2 c3 => kk iv' c1 (fun j hj => (c2 j hj).trans (xu2_j (by omega))) (fun k hk => (c3 k hk).trans (xu2_ne hk)))
      by_cases c : j = i
      · rw [c, xu2_s]
      · rw [xu2_j c]; exact h0 j (by omega)
    clear kk
    refine wgo [24, 36] 100 ?_
    refine And.intro (fun z => absurd (nI_lt (b := 64) (show i < 64 by omega) (by decide)) (lenl z)) (fun _ => ?_)
    refine And.intro vi ?_
    exact nx
set_option maxRecDepth 100000 in
theorem m_peo_l {m : Nat} {a : Nat → pI} {iv0 : xIv} {g : Int32} (hm : m ≤ 8) : ∀ (r i : Nat) (X : Int32) (iv : xIv), i + r = m → X = nI i → LQ iv iv0 m i a → (∀ iv', LQ iv' iv0 m m a → (∀ k, k < 79 → iv' k = iv k) → Q (some (.int (nI m))) SH RF iv' lg) → Wp L xs m_Mo_people 36 [some (.ref 79), some (.int g), some (.int X)] [] SH RF iv lg Q
  | 0, i, X, iv, hi, hX, hL, kk => by
    obtain rfl : i = m := by omega
    subst hX
    have k2 := kk iv hL (fun _ _ => rfl)
    have h1 := hL.1
    have h14 := hL.2.1
    clear kk
    refine wgo [36] 100 ?_
    refine And.intro (fun _ => ?_) (fun z => absurd (by rw [h14]; exact il.mpr (Int.le_refl _)) z)
    exact qv k2 h1
  | r + 1, i, X, iv, hi, hX, hL, kk => by
    subst hX
    obtain ⟨h1, h14, h12, hj, h81, h82, hr, hA⟩ := id hL
    have him : i < m := by omega
    have hlt : nI i < iv 79 14 := by rw [h14]; exact nI_lt him (by omega)
    have e5 : (5 : Int32) * nI i = nI (5 * i) := ni5 i
    have j1 : (5 : Int32) * nI i + 1 = nI (5 * i + 1) := by rw [e5]; exact nI_1 _
    have j2 : (5 : Int32) * nI i + 2 = nI (5 * i + 2) := by rw [e5]; exact ni_a _ 2
    have v0 : vp_in ((5 : Int32) * nI i) 120 := by rw [e5]; exact vp_N (by omega)
    have v1 : vp_in ((5 : Int32) * nI i + 1) 120 := by rw [j1]; exact vp_N (by omega)
    have v2 : vp_in ((5 : Int32) * nI i + 2) 120 := by rw [j2]; exact vp_N (by omega)
    have w0 : iv 87 ((5 : Int32) * nI i).toNatClampNeg = pf (a i) 0 := by rw [e5, cl]; exact hA i him 0 (by decide)
    have w1 : iv 87 ((5 : Int32) * nI i + 1).toNatClampNeg = pf (a i) 1 := by rw [j1, cl]; exact hA i him 1 (by decide)
    have w2 : iv 87 ((5 : Int32) * nI i + 2).toNatClampNeg = pf (a i) 2 := by rw [j2, cl]; exact hA i him 2 (by decide)
    have nx : ∀ f0 f1 f2 : Int32, f0 = pf (a i) 0 → f1 = pf (a i) 1 → f2 = pf (a i) 2 → Wp L xs m_Mo_people 36 [some (.ref 79), some (.int g), some (.int (nI i + 1))] [] SH RF (xu2 (xu2 (xu2 (xu2 (xu2 (xu2 (xu2 (xu2 iv 81 (7 * i) f0) 81 (7 * i + 1) f1) 81 (7 * i + 2) f2) 81 (7 * i + 3) f0) 81 (7 * i + 4) 0) 81 (7 * i + 5) 0) 81 (7 * i + 6) 0) 79 3 (nI (i + 1))) lg Q := fun f0 f1 f2 g0 g1 g2 => by
      have rr : ∀ k, k ≠ 79 → k ≠ 81 → xu2 (xu2 (xu2 (xu2 (xu2 (xu2 (xu2 (xu2 iv 81 (7 * i) f0) 81 (7 * i + 1) f1) 81 (7 * i + 2) f2) 81 (7 * i + 3) f0) 81 (7 * i + 4) 0) 81 (7 * i + 5) 0) 81 (7 * i + 6) 0) 79 3 (nI (i + 1)) k = iv k := fun k z1 z2 => by rw [xu2_ne z1, xu2_ne z2, xu2_ne z2, xu2_ne z2, xu2_ne z2, xu2_ne z2, xu2_ne z2, xu2_ne z2]
      have r79 : ∀ j, j ≠ 3 → xu2 (xu2 (xu2 (xu2 (xu2 (xu2 (xu2 (xu2 iv 81 (7 * i) f0) 81 (7 * i + 1) f1) 81 (7 * i + 2) f2) 81 (7 * i + 3) f0) 81 (7 * i + 4) 0) 81 (7 * i + 5) 0) 81 (7 * i + 6) 0) 79 3 (nI (i + 1)) 79 j = iv 79 j := fun j z => by rw [xu2_j z, xu2_k (by decide), xu2_k (by decide), xu2_k (by decide), xu2_k (by decide), xu2_k (by decide), xu2_k (by decide), xu2_k (by decide)]
      refine m_peo_l hm r (i + 1) _ _ (by omega) (nI_1 i) ⟨xu2_s, by rw [r79 14 (by decide)]; exact h14, by rw [r79 12 (by decide)]; exact h12, fun j z1 z2 z3 z4 => by rw [r79 j z1]; exact hj j z1 z2 z3 z4, fun j => ?_, fun j => by rw [rr 82 (by decide) (by decide)]; exact h82 j, fun k z1 z2 z3 z4 => by rw [rr k z1 z2]; exact hr k z1 z2 z3 z4, hA.cg (fun j _ => congrFun (rr 87 (by decide) (by decide)) j)⟩ (fun iv' c1 c2 => kk iv' c1 (fun k hk => (c2 k hk).trans (rr k (by omega) (by omega))))
      rw [xu2_k (by decide)]
      by_cases c6 : j = 7 * i + 6
      · rw [c6, xu2_s, if_pos (by omega), show (7 * i + 6) / 7 = i by omega, show (7 * i + 6) % 7 = 6 by omega]; rfl
      · rw [xu2_j c6]
        by_cases c5 : j = 7 * i + 5
        · rw [c5, xu2_s, if_pos (by omega), show (7 * i + 5) / 7 = i by omega, show (7 * i + 5) % 7 = 5 by omega]; rfl
        · rw [xu2_j c5]
          by_cases c4 : j = 7 * i + 4
          · rw [c4, xu2_s, if_pos (by omega), show (7 * i + 4) / 7 = i by omega, show (7 * i + 4) % 7 = 4 by omega]; rfl
          · rw [xu2_j c4]
            by_cases c3 : j = 7 * i + 3
            · rw [c3, xu2_s, if_pos (by omega), g0, show (7 * i + 3) / 7 = i by omega, show (7 * i + 3) % 7 = 3 by omega]; rfl
            · rw [xu2_j c3]
              by_cases c2 : j = 7 * i + 2
              · rw [c2, xu2_s, if_pos (by omega), g2, show (7 * i + 2) / 7 = i by omega, show (7 * i + 2) % 7 = 2 by omega]
              · rw [xu2_j c2]
                by_cases c1 : j = 7 * i + 1
                · rw [c1, xu2_s, if_pos (by omega), g1, show (7 * i + 1) / 7 = i by omega, show (7 * i + 1) % 7 = 1 by omega]
                · rw [xu2_j c1]
                  by_cases c0 : j = 7 * i
                  · rw [c0, xu2_s, if_pos (by omega), g0, show (7 * i) / 7 = i by omega, show (7 * i) % 7 = 0 by omega]
                  · rw [xu2_j c0, h81 j]
                    by_cases z : j < 7 * i
                    · rw [if_pos z, if_pos (by omega)]
                    · rw [if_neg z, if_neg (by omega)]
    have n2 := nx _ _ _ w0 w1 w2
    clear kk nx
    refine wgo [36] 100 ?_
    refine And.intro (fun z => absurd hlt (lenl z)) (fun _ => ?_)
    refine And.intro v0 ?_
    refine And.intro v1 ?_
    refine And.intro v2 ?_
    refine m_addOne h1 (by omega) ?_
    exact n2
set_option maxRecDepth 100000 in
theorem m_people (hM : MV iv lg sg tw) (hX : TXs sg) (k1 : ∀ m a q, prQ sg = (some (m, a), q) → ∀ iv', MV iv' lg (ppS sg m a) tw → clsS iv' lg iv lg → Q (some (.int (nI m))) SH RF iv' lg) (k0 : ∀ q, prQ sg = (none, q) → ∀ iv', MV iv' lg (tE sg) tw → clsS iv' lg iv lg → Q (some (.int (-20 - nI q))) SH RF iv' lg) : Sp L xs m_Mo_people [.ref 79] SH RF iv lg Q := by
  obtain ⟨p0, p1⟩ := prQ_ok hX
  refine sgo [24] 100 ?_
  refine m_readQ hM hX (fun m a q e iv1 d1 d2 d3 => ?_) (fun q e iv1 d1 d2 => ?_)
  · have hm := (p1 m a q e).1
    refine c1 ?_
    refine c1 ?_
    refine m_peo_0 64 0 _ _ (by omega) rfl (fun j hj => absurd hj (Nat.not_lt_zero j)) (fun iv2 g1 g2 g3 => ?_)
    refine m_peo_l (iv0 := iv) (m := m) (a := a) hm m 0 _ _ (Nat.zero_add m) rfl ⟨?_, ?_, ?_, fun j z1 z2 z3 z4 => ?_, fun j => ?_, fun j => ?_, fun k z1 z2 z3 z4 => ?_, d1.cg (fun j _ => ?_)⟩ (fun iv' c1 c2 => k1 m a q e iv' (hM.ppl c1) ⟨fun k hk => ?_, fun _ _ => rfl⟩)
    · rw [g3 79 (by decide), xu2_s]; rfl
    · rw [g3 79 (by decide), xu2_j (by decide), xu2_j (by decide)]; exact d2
    · rw [g3 79 (by decide), xu2_j (by decide), xu2_s]
    · rw [g3 79 (by decide), xu2_j z1, xu2_j z2]; exact d3.2 j z3 z4
    · rw [if_neg (by omega), g3 81 (by decide), xu2_ne (by decide), xu2_ne (by decide), d3.1 81 (by decide) (by decide)]
    · by_cases z : j < 64
      · rw [if_pos z]; exact g1 j z
      · rw [if_neg z, g2 j (by omega), xu2_ne (by decide), xu2_ne (by decide), d3.1 82 (by decide) (by decide)]
    · rw [g3 k z3, xu2_ne z1, xu2_ne z1]; exact d3.1 k z1 z4
    · rw [g3 87 (by decide), xu2_ne (by decide), xu2_ne (by decide)]
    · rw [c2 k hk, g3 k (by omega), xu2_ne (by omega), xu2_ne (by omega)]; exact d3.1 k (by omega) (by omega)
  · obtain ⟨hq, hsk⟩ := p0 q e
    refine c0 ?_
    refine m_next ((hM.txm hX).cg d2) d1 hq (fun iv2 g1 g2 => ?_)
    rw [hsk] at g1
    refine c0 ?_
    have S2 : S5 iv2 iv := g2.S5.trans d2
    refine qv (k0 q e _ ((hM.s5 S2).up 79 12 0) ⟨fun k hk => ?_, fun _ _ => rfl⟩) ?_
    · rw [xu2_ne (by omega)]; exact S2.1 k (by omega) (by omega)
    · show -20 - xu2 iv2 79 12 0 79 13 = _
      rw [xu2_j (by decide), g1]
theorem GG.emp (hG : GG t sg) : GG (t + 1) (tE sg) := (hG.tape (fun k h1 _ => xu2_ne h1) (fun j hj => xu2_j hj)).mono (Nat.le_succ t)
theorem GG.twn {m : Nat} {a : Nat → wI} (hG : GG t sg) (hm : m ≤ 24) (hok : ∀ i, i < m → okI (a i)) : GG (t + 1) (twS sg m a) := by
  obtain ⟨h1, h2, h3, h4, h5, h6, h7, h8, h9, h10⟩ := hG.1.mono (Nat.le_succ t)
  have hc : cnt (vL (twS sg m a)) 0 = m := by
    show (twS sg m a 79 1).toNatClampNeg = m
    rw [twS_n.1, cl]
  have e1 : vL (twS sg m a) 0 1 = vL sg 0 1 := twS_79 (by decide) (by decide)
  have e2 : vL (twS sg m a) 0 2 = vL sg 0 2 := twS_79 (by decide) (by decide)
  have e3 : vL (twS sg m a) 0 3 = vL sg 0 3 := twS_79 (by decide) (by decide)
  have e4 : vL (twS sg m a) 0 4 = vL sg 0 4 := twS_79 (by decide) (by decide)
  have r2 : vL (twS sg m a) 2 = vL sg 2 := funext (fun j => congrFun (twS_k (k := 81) (by decide) (by decide)) j)
  have r3 : vL (twS sg m a) 3 = vL sg 3 := funext (fun j => congrFun (twS_k (k := 82) (by decide) (by decide)) j)
  have r4 : vL (twS sg m a) 4 = vL sg 4 := funext (fun j => congrFun (twS_k (k := 83) (by decide) (by decide)) j)
  have r5 : vL (twS sg m a) 5 = vL sg 5 := funext (fun j => congrFun (twS_k (k := 84) (by decide) (by decide)) j)
  have c1' : cnt (vL (twS sg m a)) 1 = cnt (vL sg) 1 := by unfold cnt; rw [e1]
  have c2' : cnt (vL (twS sg m a)) 2 = cnt (vL sg) 2 := by unfold cnt; rw [e2]
  refine hG.kept ⟨⟨?_, by rw [hc]; exact hm⟩, by rw [e1, c1']; exact h2, by rw [e2, c2']; exact h3, by rw [e3]; exact h4, by rw [e4]; exact h5, fun w hw => ?_, fun p hp => ?_, by rw [r3]; exact h8, by rw [r4]; exact h9, by rw [r5, c2']; exact h10⟩ (twS_79 (by decide) (by decide)) (twS_k (by decide) (by decide)) (twS_k (by decide) (by decide))
  · rw [hc]; exact twS_n.1
  · rw [hc] at hw
    obtain ⟨o1, o2, o3, ⟨o4, o5⟩, o6, o7⟩ := hok w hw
    have tf := fun f hf => twS_f (sg := sg) (a := a) (f := f) hw hf
    have t0 : vL (twS sg m a) 1 (5 * w) = nI (a w).1 := tf 0 (by decide)
    have t1 : vL (twS sg m a) 1 (5 * w + 1) = nI (a w).2.1 := tf 1 (by decide)
    have t2 : vL (twS sg m a) 1 (5 * w + 2) = nI (a w).2.2.1 := tf 2 (by decide)
    have t3 : vL (twS sg m a) 1 (5 * w + 3) = (a w).2.2.2.1 := tf 3 (by decide)
    have t4 : vL (twS sg m a) 1 (5 * w + 4) = nI (a w).2.2.2.2 := tf 4 (by decide)
    unfold okW
    rw [t0, t1, t2, t3, t4]
    refine ⟨isN_nI o1 (by decide), isN_nI o2 (by decide), fun z => o3 ((nI_eq (by omega) (by omega)).mp z), ⟨nI_le (a := 1) o4 (by omega), nI_le (b := 99) o5 (by decide)⟩, o6, ?_⟩
    rcases o7 with o | o <;> rw [o]
    · exact Or.inl rfl
    · exact Or.inr rfl
  · rw [c1'] at hp
    have := h7 p hp
    unfold okP at this ⊢
    rw [r2]
    exact this
theorem GG.ppl {m : Nat} {a : Nat → pI} (hG : GG t sg) (hm : m ≤ 8) (hok : ∀ i, i < m → okJ (a i)) : GG (t + 1) (ppS sg m a) := by
  obtain ⟨h1, h2, h3, h4, h5, h6, h7, h8, h9, h10⟩ := hG.1.mono (Nat.le_succ t)
  have hc : cnt (vL (ppS sg m a)) 1 = m := by
    show (ppS sg m a 79 3).toNatClampNeg = m
    rw [ppS_n.1, cl]
  have e1 : vL (ppS sg m a) 0 0 = vL sg 0 0 := ppS_79 (by decide) (by decide)
  have e2 : vL (ppS sg m a) 0 2 = vL sg 0 2 := ppS_79 (by decide) (by decide)
  have e3 : vL (ppS sg m a) 0 3 = vL sg 0 3 := ppS_79 (by decide) (by decide)
  have e4 : vL (ppS sg m a) 0 4 = vL sg 0 4 := ppS_79 (by decide) (by decide)
  have r1 : vL (ppS sg m a) 1 = vL sg 1 := funext (fun j => congrFun (ppS_k (k := 80) (by decide) (by decide) (by decide)) j)
  have r4 : vL (ppS sg m a) 4 = vL sg 4 := funext (fun j => congrFun (ppS_k (k := 83) (by decide) (by decide) (by decide)) j)
  have r5 : vL (ppS sg m a) 5 = vL sg 5 := funext (fun j => congrFun (ppS_k (k := 84) (by decide) (by decide) (by decide)) j)
  have c0' : cnt (vL (ppS sg m a)) 0 = cnt (vL sg) 0 := by unfold cnt; rw [e1]
  have c2' : cnt (vL (ppS sg m a)) 2 = cnt (vL sg) 2 := by unfold cnt; rw [e2]
  refine hG.kept ⟨by rw [e1, c0']; exact h1, ⟨?_, by rw [hc]; exact hm⟩, by rw [e2, c2']; exact h3, by rw [e3]; exact h4, by rw [e4]; exact h5, fun w hw => ?_, fun p hp => ?_, fun j hj => ?_, by rw [r4]; exact h9, by rw [r5, c2']; exact h10⟩ (ppS_79 (by decide) (by decide)) (ppS_k (by decide) (by decide) (by decide)) (ppS_k (by decide) (by decide) (by decide))
  · rw [hc]; exact ppS_n.1
  · rw [c0'] at hw
    have := h6 w hw
    unfold okW at this ⊢
    rw [r1]
    exact this
  · rw [hc] at hp
    obtain ⟨o1, o2, o3⟩ := hok p hp
    have tf := fun f hf => ppS_f (sg := sg) (a := a) (f := f) hp hf
    have t0 : vL (ppS sg m a) 2 (7 * p) = nI (a p).1 := tf 0 (by decide)
    have t1 : vL (ppS sg m a) 2 (7 * p + 1) = nI (a p).2.1 := tf 1 (by decide)
    have t2 : vL (ppS sg m a) 2 (7 * p + 2) = nI (a p).2.2 := tf 2 (by decide)
    have t3 : vL (ppS sg m a) 2 (7 * p + 3) = nI (a p).1 := tf 3 (by decide)
    unfold okP
    rw [t0, t1, t2, t3]
    exact ⟨isN_nI o1 (by decide), isN_nI o2 (by decide), ⟨nI_pos' (by omega), nI_le (b := 99999) o3 (by decide)⟩, isN_nI o1 (by decide)⟩
  · have e : vL (ppS sg m a) 3 j = 0 := ppS_82.1 hj
    rw [e, tl0]
    omega
theorem e_town : EQ m_SR_town m_Mo_town [] := by
  intro L xs t iv lg Q hI ht k
  obtain ⟨sg, tw, hC, hM, hG⟩ := id hI
  obtain ⟨hX, -⟩ := hC.txs
  obtain ⟨-, pk⟩ := prT_ok hX
  refine c_town hC (fun m a q e iv1 C1 R1 => k _ iv1 lg (fun Q2 k2 => m_town (MV_congr R1 hM) hX (fun m' a' q' e' iv2 M2 R2 => ?_) (fun q' e' => by rw [e] at e'; cases e'))) (fun q e iv1 C1 R1 => k _ iv1 lg (fun Q2 k2 => m_town (MV_congr R1 hM) hX (fun m' a' q' e' => by rw [e] at e'; cases e') (fun q' e' iv2 M2 R2 => ?_)))
  · rw [e] at e'
    cases e'
    exact k2 _ _ ⟨_, tw, CX_congr R2 C1, M2, hG.twn (pk m a q e).1 (pk m a q e).2⟩
  · rw [e] at e'
    cases e'
    exact k2 _ _ ⟨_, tw, CX_congr R2 C1, M2, hG.emp⟩
theorem e_people : EQ m_SR_people m_Mo_people [] := by
  intro L xs t iv lg Q hI ht k
  obtain ⟨sg, tw, hC, hM, hG⟩ := id hI
  obtain ⟨hX, -⟩ := hC.txs
  obtain ⟨-, pk⟩ := prQ_ok hX
  refine c_people hC (fun m a q e iv1 C1 R1 => k _ iv1 lg (fun Q2 k2 => m_people (MV_congr R1 hM) hX (fun m' a' q' e' iv2 M2 R2 => ?_) (fun q' e' => by rw [e] at e'; cases e'))) (fun q e iv1 C1 R1 => k _ iv1 lg (fun Q2 k2 => m_people (MV_congr R1 hM) hX (fun m' a' q' e' => by rw [e] at e'; cases e') (fun q' e' iv2 M2 R2 => ?_)))
  · rw [e] at e'
    cases e'
    exact k2 _ _ ⟨_, tw, CX_congr R2 C1, M2, hG.ppl (pk m a q e).1 (pk m a q e).2⟩
  · rw [e] at e'
    cases e'
    exact k2 _ _ ⟨_, tw, CX_congr R2 C1, M2, hG.emp⟩
end TOWNM
