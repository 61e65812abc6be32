-- ===== person =====
def addP (sg : xIv) (h kd r : Int32) : xIv := xu2 (xu2 (xu2 (xu2 (xu2 (xu2 (xu2 (xu2 sg 81 (7 * cnt (vL sg) 1) h) 81 (7 * cnt (vL sg) 1 + 1) kd) 81 (7 * cnt (vL sg) 1 + 2) r) 81 (7 * cnt (vL sg) 1 + 3) h) 81 (7 * cnt (vL sg) 1 + 4) 0) 81 (7 * cnt (vL sg) 1 + 5) 0) 81 (7 * cnt (vL sg) 1 + 6) 0) 79 3 (nI (cnt (vL sg) 1 + 1))
section PERS
variable {L : Nat} {xs : Nat → Int32} {iv : xIv} {lg : xLg} {Q : xQ} {sg : xIv} {tw : Nat → Int64} {t : Nat} {h kd r : Int32}
theorem addP_cnt : cnt (vL (addP sg h kd r)) 1 = (nI (cnt (vL sg) 1 + 1)).toNatClampNeg := by
  show (addP sg h kd r 79 3).toNatClampNeg = _
  unfold addP
  rw [xu2_s]
theorem addP_old {j : Nat} (hj : j < 7 * cnt (vL sg) 1) : addP sg h kd r 81 j = sg 81 j := by
  unfold addP
  rw [xu2_k (by decide), xu2_j (by omega), xu2_j (by omega), xu2_j (by omega), xu2_j (by omega), xu2_j (by omega), xu2_j (by omega), xu2_j (by omega)]
theorem addP_row {k : Nat} (h1 : k ≠ 79) (h2 : k ≠ 81) : addP sg h kd r k = sg k := by
  unfold addP
  rw [xu2_ne h1, xu2_ne h2, xu2_ne h2, xu2_ne h2, xu2_ne h2, xu2_ne h2, xu2_ne h2, xu2_ne h2]
theorem addP_79 {j : Nat} (hj : j ≠ 3) : addP sg h kd r 79 j = sg 79 j := by
  unfold addP
  rw [xu2_j hj, xu2_k (by decide), xu2_k (by decide), xu2_k (by decide), xu2_k (by decide), xu2_k (by decide), xu2_k (by decide), xu2_k (by decide)]
theorem addP_n : addP sg h kd r 81 (7 * cnt (vL sg) 1) = h ∧ addP sg h kd r 81 (7 * cnt (vL sg) 1 + 1) = kd ∧ addP sg h kd r 81 (7 * cnt (vL sg) 1 + 2) = r ∧ addP sg h kd r 81 (7 * cnt (vL sg) 1 + 3) = h ∧ addP sg h kd r 81 (7 * cnt (vL sg) 1 + 4) = 0 ∧ addP sg h kd r 81 (7 * cnt (vL sg) 1 + 5) = 0 ∧ addP sg h kd r 81 (7 * cnt (vL sg) 1 + 6) = 0 := by
  unfold addP
  refine ⟨?_, ?_, ?_, ?_, ?_, ?_, ?_⟩
  · rw [xu2_k (by decide), xu2_j (by omega), xu2_j (by omega), xu2_j (by omega), xu2_j (by omega), xu2_j (by omega), xu2_j (by omega), xu2_s]
  · rw [xu2_k (by decide), xu2_j (by omega), xu2_j (by omega), xu2_j (by omega), xu2_j (by omega), xu2_j (by omega), xu2_s]
  · rw [xu2_k (by decide), xu2_j (by omega), xu2_j (by omega), xu2_j (by omega), xu2_j (by omega), xu2_s]
  · rw [xu2_k (by decide), xu2_j (by omega), xu2_j (by omega), xu2_j (by omega), xu2_s]
  · rw [xu2_k (by decide), xu2_j (by omega), xu2_j (by omega), xu2_s]
  · rw [xu2_k (by decide), xu2_j (by omega), xu2_s]
  · rw [xu2_k (by decide), xu2_s]
theorem c_addP (hC : CX iv lg sg tw) (h8 : cnt (vL sg) 1 < 8) : CX (xu2 (xu2 (xu2 (xu2 (xu2 (xu2 (xu2 (xu2 iv 9 (cnt (vL sg) 1) h) 10 (cnt (vL sg) 1) kd) 11 (cnt (vL sg) 1) r) 12 (cnt (vL sg) 1) h) 13 (cnt (vL sg) 1) 0) 14 (cnt (vL sg) 1) 0) 15 (cnt (vL sg) 1) 0) 8 0 (nI (cnt (vL sg) 1 + 1))) lg (addP sg h kd r) tw := by
  generalize hiv : xu2 (xu2 (xu2 (xu2 (xu2 (xu2 (xu2 (xu2 iv 9 (cnt (vL sg) 1) h) 10 (cnt (vL sg) 1) kd) 11 (cnt (vL sg) 1) r) 12 (cnt (vL sg) 1) h) 13 (cnt (vL sg) 1) 0) 14 (cnt (vL sg) 1) 0) 15 (cnt (vL sg) 1) 0) 8 0 (nI (cnt (vL sg) 1 + 1)) = iv'
  have hr : ∀ k, k ≠ 8 → k ≠ 9 → k ≠ 10 → k ≠ 11 → k ≠ 12 → k ≠ 13 → k ≠ 14 → k ≠ 15 → iv' k = iv k := fun k a b c d e f g i => by rw [← hiv, xu2_ne a, xu2_ne i, xu2_ne g, xu2_ne f, xu2_ne e, xu2_ne d, xu2_ne c, xu2_ne b]
  obtain ⟨⟨hy, hp, ho⟩, hk, hrd, htp, hst⟩ := id hC
  refine hC.of (hy.keep (fun i a b => hr _ (by omega) (by omega) (by omega) (by omega) (by omega) (by omega) (by omega) (by omega)) (addP_79 (by decide)) (fun j _ => ?_)) ?_ (ho.keep (hr _ (by omega) (by omega) (by omega) (by omega) (by omega) (by omega) (by omega) (by omega)) (hr _ (by omega) (by omega) (by omega) (by omega) (by omega) (by omega) (by omega) (by omega)) (hr _ (by omega) (by omega) (by omega) (by omega) (by omega) (by omega) (by omega) (by omega)) (addP_79 (by decide)) (addP_79 (by decide)) (addP_79 (by decide)) (fun j _ => ?_) (fun j _ => ?_)) (hrd.keep (fun k a b => hr k (by omega) (by omega) (by omega) (by omega) (by omega) (by omega) (by omega) (by omega)) (addP_79 (by decide)) (fun w f _ _ => ?_)) (fun k a b => hr k (by omega) (by omega) (by omega) (by omega) (by omega) (by omega) (by omega) (by omega)) (by rw [hr 0 (by decide) (by decide) (by decide) (by decide) (by decide) (by decide) (by decide) (by decide)]) (by rw [hr 53 (by decide) (by decide) (by decide) (by decide) (by decide) (by decide) (by decide) (by decide)]) (hr 54 (by decide) (by decide) (by decide) (by decide) (by decide) (by decide) (by decide) (by decide)) (hr 69 (by decide) (by decide) (by decide) (by decide) (by decide) (by decide) (by decide) (by decide)) (fun k a b => hr k (by omega) (by omega) (by omega) (by omega) (by omega) (by omega) (by omega) (by omega)) (addP_79 (by decide)) (addP_79 (by decide)) (addP_row (by decide) (by decide)) (addP_row (by decide) (by decide)) (addP_row (by decide) (by decide)) (addP_row (by decide) (by decide)) (addP_row (by decide) (by decide))
  · show addP sg h kd r 80 j = sg 80 j
    rw [addP_row (by decide) (by decide)]
  · refine ⟨?_, fun i hi => ?_, fun j hj => ?_⟩
    · show iv' 8 0 = addP sg h kd r 79 3
      rw [← hiv, xu2_s]
      unfold addP
      rw [xu2_s]
    · rw [addP_cnt, cl] at hi
      by_cases e : i = cnt (vL sg) 1
      · subst e
        obtain ⟨a0, a1, a2, a3, a4, a5, a6⟩ := addP_n (sg := sg) (h := h) (kd := kd) (r := r)
        refine ⟨Eq.trans ?_ a0.symm, Eq.trans ?_ a1.symm, Eq.trans ?_ a2.symm, Eq.trans ?_ a3.symm, Eq.trans ?_ a4.symm, Eq.trans ?_ a5.symm, Eq.trans ?_ a6.symm⟩
        · show iv' 9 _ = _
          rw [← hiv, xu2_k (by decide), xu2_k (by decide), xu2_k (by decide), xu2_k (by decide), xu2_k (by decide), xu2_k (by decide), xu2_k (by decide), xu2_s]
        · show iv' 10 _ = _
          rw [← hiv, xu2_k (by decide), xu2_k (by decide), xu2_k (by decide), xu2_k (by decide), xu2_k (by decide), xu2_k (by decide), xu2_s]
        · show iv' 11 _ = _
          rw [← hiv, xu2_k (by decide), xu2_k (by decide), xu2_k (by decide), xu2_k (by decide), xu2_k (by decide), xu2_s]
        · show iv' 12 _ = _
          rw [← hiv, xu2_k (by decide), xu2_k (by decide), xu2_k (by decide), xu2_k (by decide), xu2_s]
        · show iv' 13 _ = _
          rw [← hiv, xu2_k (by decide), xu2_k (by decide), xu2_k (by decide), xu2_s]
        · show iv' 14 _ = _
          rw [← hiv, xu2_k (by decide), xu2_k (by decide), xu2_s]
        · show iv' 15 _ = _
          rw [← hiv, xu2_k (by decide), xu2_s]
      · obtain ⟨b0, b1, b2, b3, b4, b5, b6⟩ := hp.2.1 i (by omega)
        have eo : ∀ f, f < 7 → vL (addP sg h kd r) 2 (7 * i + f) = vL sg 2 (7 * i + f) := fun f hf => addP_old (by omega)
        rw [show 7 * i = 7 * i + 0 from rfl, eo 0 (by decide), eo 1 (by decide), eo 2 (by decide), eo 3 (by decide), eo 4 (by decide), eo 5 (by decide), eo 6 (by decide)]
        refine ⟨Eq.trans ?_ b0, Eq.trans ?_ b1, Eq.trans ?_ b2, Eq.trans ?_ b3, Eq.trans ?_ b4, Eq.trans ?_ b5, Eq.trans ?_ b6⟩
        · show iv' 9 _ = iv 9 _
          rw [← hiv, xu2_k (by decide), xu2_k (by decide), xu2_k (by decide), xu2_k (by decide), xu2_k (by decide), xu2_k (by decide), xu2_k (by decide), xu2_j e]
        · show iv' 10 _ = iv 10 _
          rw [← hiv, xu2_k (by decide), xu2_k (by decide), xu2_k (by decide), xu2_k (by decide), xu2_k (by decide), xu2_k (by decide), xu2_j e, xu2_k (by decide)]
        · show iv' 11 _ = iv 11 _
          rw [← hiv, xu2_k (by decide), xu2_k (by decide), xu2_k (by decide), xu2_k (by decide), xu2_k (by decide), xu2_j e, xu2_k (by decide), xu2_k (by decide)]
        · show iv' 12 _ = iv 12 _
          rw [← hiv, xu2_k (by decide), xu2_k (by decide), xu2_k (by decide), xu2_k (by decide), xu2_j e, xu2_k (by decide), xu2_k (by decide), xu2_k (by decide)]
        · show iv' 13 _ = iv 13 _
          rw [← hiv, xu2_k (by decide), xu2_k (by decide), xu2_k (by decide), xu2_j e, xu2_k (by decide), xu2_k (by decide), xu2_k (by decide), xu2_k (by decide)]
        · show iv' 14 _ = iv 14 _
          rw [← hiv, xu2_k (by decide), xu2_k (by decide), xu2_j e, xu2_k (by decide), xu2_k (by decide), xu2_k (by decide), xu2_k (by decide), xu2_k (by decide)]
        · show iv' 15 _ = iv 15 _
          rw [← hiv, xu2_k (by decide), xu2_j e, xu2_k (by decide), xu2_k (by decide), xu2_k (by decide), xu2_k (by decide), xu2_k (by decide), xu2_k (by decide)]
    · show iv' 16 j = addP sg h kd r 82 j
      rw [hr 16 (by decide) (by decide) (by decide) (by decide) (by decide) (by decide) (by decide) (by decide), addP_row (by decide) (by decide)]
      exact hp.2.2 j hj
  · show addP sg h kd r 84 j = sg 84 j
    rw [addP_row (by decide) (by decide)]
  · show addP sg h kd r 83 j = sg 83 j
    rw [addP_row (by decide) (by decide)]
  · show addP sg h kd r 80 _ = sg 80 _
    rw [addP_row (by decide) (by decide)]
set_option maxRecDepth 100000 in
theorem s_addP8 {n : Nat} (hn : iv 8 0 = nI n) (h8 : n < 8) (k : Q (some (.int (nI n))) SH RF (xu2 (xu2 (xu2 (xu2 (xu2 (xu2 (xu2 (xu2 iv 9 n h) 10 n kd) 11 n r) 12 n h) 13 n 0) 14 n 0) 15 n 0) 8 0 (nI (n + 1))) lg) : Sp L xs m_People_add [.ref 8, .int h, .int kd, .int r] SH RF iv lg Q := by
  have hv : vp_in (iv 8 0) 8 := by rw [hn]; exact vp_N h8
  refine sgo [] 100 ?_
  refine And.intro hv ?_
  refine And.intro hv ?_
  refine And.intro hv ?_
  refine And.intro hv ?_
  refine And.intro hv ?_
  refine And.intro hv ?_
  refine And.intro hv ?_
  show Q _ _ _ _ _
  rw [hn, cl]
  have e : ∀ a : xIv, a 8 0 = nI n → a 8 0 + 1 = nI (n + 1) := fun a ha => by rw [ha]; exact nI_1 n
  rw [e _ (by simp only [xu2_k (show (8 : Nat) ≠ 9 by decide), xu2_k (show (8 : Nat) ≠ 10 by decide), xu2_k (show (8 : Nat) ≠ 11 by decide), xu2_k (show (8 : Nat) ≠ 12 by decide), xu2_k (show (8 : Nat) ≠ 13 by decide), xu2_k (show (8 : Nat) ≠ 14 by decide), xu2_k (show (8 : Nat) ≠ 15 by decide)]; exact hn)]
  exact k
set_option maxRecDepth 100000 in
theorem m_addOne {n : Nat} (hn : iv 79 3 = nI n) (h8 : n < 8) (k : Q none SH RF (xu2 (xu2 (xu2 (xu2 (xu2 (xu2 (xu2 (xu2 iv 81 (7 * n) h) 81 (7 * n + 1) kd) 81 (7 * n + 2) r) 81 (7 * n + 3) h) 81 (7 * n + 4) 0) 81 (7 * n + 5) 0) 81 (7 * n + 6) 0) 79 3 (nI (n + 1))) lg) : Sp L xs m_Mo_addOne [.ref 79, .int h, .int kd, .int r] SH RF iv lg Q := by
  have e5 : (7 : Int32) * iv 79 3 = nI (7 * n) := by rw [hn]; exact ni7 n
  have e : ∀ c, (7 : Int32) * iv 79 3 + nI c = nI (7 * n + c) := fun c => by rw [e5]; exact ni_a _ _
  refine sgo [] 100 ?_
  refine And.intro (by rw [e5]; exact vp_N (by omega)) ?_
  refine And.intro (by show vp_in ((7 : Int32) * iv 79 3 + nI 1) 56; rw [e]; exact vp_N (by omega)) ?_
  refine And.intro (by show vp_in ((7 : Int32) * iv 79 3 + nI 2) 56; rw [e]; exact vp_N (by omega)) ?_
  refine And.intro (by show vp_in ((7 : Int32) * iv 79 3 + nI 3) 56; rw [e]; exact vp_N (by omega)) ?_
  refine And.intro (by show vp_in ((7 : Int32) * iv 79 3 + nI 4) 56; rw [e]; exact vp_N (by omega)) ?_
  refine And.intro (by show vp_in ((7 : Int32) * iv 79 3 + nI 5) 56; rw [e]; exact vp_N (by omega)) ?_
  refine And.intro (by show vp_in ((7 : Int32) * iv 79 3 + nI 6) 56; rw [e]; exact vp_N (by omega)) ?_
  show Q none SH RF (xu2 (xu2 (xu2 (xu2 (xu2 (xu2 (xu2 (xu2 iv 81 ((7 : Int32) * iv 79 3).toNatClampNeg h) 81 ((7 : Int32) * iv 79 3 + nI 1).toNatClampNeg kd) 81 ((7 : Int32) * iv 79 3 + nI 2).toNatClampNeg r) 81 ((7 : Int32) * iv 79 3 + nI 3).toNatClampNeg h) 81 ((7 : Int32) * iv 79 3 + nI 4).toNatClampNeg 0) 81 ((7 : Int32) * iv 79 3 + nI 5).toNatClampNeg 0) 81 ((7 : Int32) * iv 79 3 + nI 6).toNatClampNeg 0) 79 3 (iv 79 3 + 1)) lg
  rw [e, e, e, e, e, e, e5, cl, cl, cl, cl, cl, cl, cl, hn, nI_1]
  exact k
abbrev okPy (h kd r : Int32) : Prop := isN h 12 ∧ isN kd 4 ∧ (0 ≤ r ∧ r ≤ 99999)
def opPer (sg : xIv) (h kd r : Int32) : Int32 × xIv := if okPy h kd r then (if cnt (vL sg) 1 = 8 then (-3, sg) else (nI (cnt (vL sg) 1), addP sg h kd r)) else (-1, sg)
set_option maxRecDepth 100000 in
theorem c_person (hC : CX iv lg sg tw) (hG : GG t sg) (k : ∀ iv', CX iv' lg (opPer sg h kd r).2 tw → refS iv' lg iv lg → Q (some (.int (opPer sg h kd r).1)) SH RF iv' lg) : Sp L xs m_SR_person [.ref 0, .int h, .int kd, .int r] SH RF iv lg Q := by
  have hn := nP_c hC hG
  have h8 := hG.1.2.1.2
  have kb : ¬ okPy h kd r → Q (some (.int (-1))) SH RF iv lg := fun z => by
    have e : opPer sg h kd r = (-1, sg) := if_neg z
    rw [e] at k
    exact k iv hC refS.rfl
  refine sgo [] 100 ?_
  refine s_isPlace (fun h1 => ?_) (fun h1 => ?_)
  · refine b1 ?_
    refine s_isKind (fun h2 => ?_) (fun h2 => ?_)
    · refine b1 ?_
      refine s_within (fun h3 => ?_) (fun h3 => ?_)
      · refine c1 ?_
        have hok : okPy h kd r := ⟨h1, h2, h3⟩
        refine And.intro (fun h6 => ?_) (fun h6 => ?_)
        · rw [hn] at h6
          replace h6 : cnt (vL sg) 1 < 8 := (nI_ltI (b := 8) (by omega) (by decide)).mp h6
          have e : opPer sg h kd r = (nI (cnt (vL sg) 1), addP sg h kd r) := by unfold opPer; rw [if_pos hok, if_neg (by omega)]
          rw [e] at k
          refine s_addP8 hn h6 ?_
          exact k _ (c_addP hC h6) ((((((((refS.rfl.up (by decide)).up (by decide)).up (by decide)).up (by decide)).up (by decide)).up (by decide)).up (by decide)).up (by decide))
        · rw [hn] at h6
          replace h6 : ¬ cnt (vL sg) 1 < 8 := fun z => h6 ((nI_ltI (b := 8) (by omega) (by decide)).mpr z)
          have e : opPer sg h kd r = (-3, sg) := by unfold opPer; rw [if_pos hok, if_pos (by omega)]
          rw [e] at k
          exact k iv hC refS.rfl
      · refine c0 ?_
        exact kb (fun z => h3 z.2.2)
    · refine b0 ?_
      exact kb (fun z => h2 z.2.1)
  · refine b0 ?_
    exact kb (fun z => h1 z.1)
set_option maxRecDepth 100000 in
theorem m_person (hM : MV iv lg sg tw) (hG : GG t sg) (k : ∀ iv', MV iv' lg (opPer sg h kd r).2 tw → clsS iv' lg iv lg → Q (some (.int (opPer sg h kd r).1)) SH RF iv' lg) : Sp L xs m_Mo_person [.ref 79, .int h, .int kd, .int r] SH RF iv lg Q := by
  have hn := nP_m hM hG
  have h8 := hG.1.2.1.2
  have kb : ¬ okPy h kd r → Q (some (.int (-1))) SH RF iv lg := fun z => by
    have e : opPer sg h kd r = (-1, sg) := if_neg z
    rw [e] at k
    exact k iv hM clsS.rfl
  refine sgo [] 100 ?_
  refine s_moPlace (fun h1 => ?_) (fun h1 => ?_)
  · refine b1 ?_
    refine s_inI (a := 0) (b := 3) (kt := fun h2 => ?_) (kf := fun h2 => ?_)
    · refine b1 ?_
      refine s_inI (a := 0) (b := 99999) (kt := fun h3 => ?_) (kf := fun h3 => ?_)
      · refine c1 ?_
        have hok : okPy h kd r := ⟨h1, r3.mp h2, h3⟩
        refine And.intro (fun h6 => ?_) (fun h6 => ?_)
        · rw [hn] at h6
          have h7 : ¬ cnt (vL sg) 1 = 8 := fun z => h6 (by rw [z]; rfl)
          have e : opPer sg h kd r = (nI (cnt (vL sg) 1), addP sg h kd r) := by unfold opPer; rw [if_pos hok, if_neg h7]
          rw [e] at k
          refine m_addOne hn (by omega) ?_
          show Q (some (.int (xu2 _ 79 3 (nI (cnt (vL sg) 1 + 1)) 79 3 - 1))) SH RF _ lg
          rw [xu2_s, nI_pred]
          refine k _ ?_ ?_
          · unfold addP
            exact (((((((hM.up _ _ _).up _ _ _).up _ _ _).up _ _ _).up _ _ _).up _ _ _).up _ _ _).up _ _ _
          · exact (((((((clsS.rfl.up (by decide)).up (by decide)).up (by decide)).up (by decide)).up (by decide)).up (by decide)).up (by decide)).up (by decide)
        · rw [hn] at h6
          have h7 : cnt (vL sg) 1 = 8 := by
            by_cases z : cnt (vL sg) 1 = 8
            · exact z
            · exact absurd (fun w => z ((nI_eq (b := 8) (by omega) (by decide)).mp w)) h6
          have e : opPer sg h kd r = (-3, sg) := by unfold opPer; rw [if_pos hok, if_pos h7]
          rw [e] at k
          exact k iv hM clsS.rfl
      · refine c0 ?_
        exact kb (fun z => h3 z.2.2)
    · refine b0 ?_
      exact kb (fun z => h2 (r3.mpr z.2.1))
  · refine b0 ?_
    exact kb (fun z => h1 z.1)
theorem g_addP (hG : Gv t (vL sg)) (hok : okPy h kd r) (h8 : cnt (vL sg) 1 < 8) : Gv t (vL (addP sg h kd r)) := by
  obtain ⟨g1, g2, g3, g4, g5, g6, g7, g8, g9, g10⟩ := hG
  have e1 : cnt (vL (addP sg h kd r)) 1 = cnt (vL sg) 1 + 1 := by rw [addP_cnt, cl]
  have ez : ∀ j, j ≠ 1 → vL (addP sg h kd r) 0 j = vL sg 0 j := fun j hj => by
    match j, hj with
    | 0, _ => exact addP_79 (by decide)
    | 2, _ => exact addP_79 (by decide)
    | 3, _ => exact addP_79 (by decide)
    | j + 4, _ => exact addP_79 (by decide)
  have c0 : cnt (vL (addP sg h kd r)) 0 = cnt (vL sg) 0 := by unfold cnt; rw [ez 0 (by decide)]
  have c2 : cnt (vL (addP sg h kd r)) 2 = cnt (vL sg) 2 := by unfold cnt; rw [ez 2 (by decide)]
  have r1 : vL (addP sg h kd r) 1 = vL sg 1 := by funext j; show addP sg h kd r 80 j = _; rw [addP_row (by decide) (by decide)]; rfl
  have r3 : vL (addP sg h kd r) 3 = vL sg 3 := by funext j; show addP sg h kd r 82 j = _; rw [addP_row (by decide) (by decide)]; rfl
  have r4 : vL (addP sg h kd r) 4 = vL sg 4 := by funext j; show addP sg h kd r 83 j = _; rw [addP_row (by decide) (by decide)]; rfl
  have r5 : vL (addP sg h kd r) 5 = vL sg 5 := by funext j; show addP sg h kd r 84 j = _; rw [addP_row (by decide) (by decide)]; rfl
  refine ⟨by rw [ez 0 (by decide), c0]; exact g1, ⟨?_, by omega⟩, by rw [ez 2 (by decide), c2]; exact g3, by rw [ez 3 (by decide)]; exact g4, by rw [ez 4 (by decide)]; exact g5, fun w hw => ?_, fun p hp => ?_, fun j hj => by rw [r3]; exact g8 j hj, fun j hj => by rw [r4]; exact g9 j hj, fun x hx => by rw [c2] at hx; rw [r5]; exact g10 x hx⟩
  · rw [e1]
    show addP sg h kd r 79 3 = _
    unfold addP
    rw [xu2_s]
  · rw [c0] at hw
    unfold okW
    rw [r1]
    exact g6 w hw
  · rw [e1] at hp
    by_cases e : p = cnt (vL sg) 1
    · subst e
      obtain ⟨a0, a1, a2, a3, -⟩ := addP_n (sg := sg) (h := h) (kd := kd) (r := r)
      unfold okP
      show isN (addP sg h kd r 81 _) 12 ∧ isN (addP sg h kd r 81 _) 4 ∧ (0 ≤ addP sg h kd r 81 _ ∧ addP sg h kd r 81 _ ≤ 99999) ∧ isN (addP sg h kd r 81 _) 12
      rw [a0, a1, a2, a3]
      exact ⟨hok.1, hok.2.1, hok.2.2, hok.1⟩
    · have := g7 p (by omega)
      have eo : ∀ f, f < 7 → vL (addP sg h kd r) 2 (7 * p + f) = vL sg 2 (7 * p + f) := fun f hf => addP_old (by omega)
      unfold okP at this ⊢
      rw [show 7 * p = 7 * p + 0 from rfl, eo 0 (by decide), eo 1 (by decide), eo 2 (by decide), eo 3 (by decide)]
      exact this
theorem e_person (h kd r : Int32) : EQ m_SR_person m_Mo_person [.int h, .int kd, .int r] := by
  refine EQ.of (fun sg tw => ((opPer sg h kd r).1, (opPer sg h kd r).2, tw)) (fun hC hG ht k => c_person hC hG (fun iv' h1 h2 => k iv' _ h1 h2)) (fun hM hG ht k => m_person hM hG (fun iv' h1 h2 => k iv' _ h1 h2)) (fun {t sg tw} hG ht => ?_)
  show GG (t + 1) (opPer sg h kd r).2
  unfold opPer
  split
  · rename_i hok
    split
    · exact hG.mono (Nat.le_succ t)
    · rename_i h24
      exact GG.kept (sg' := addP sg h kd r) hG ((g_addP hG.1 hok (by have := hG.1.2.1.2; omega)).mono (Nat.le_succ t)) (addP_79 (by decide)) (addP_row (by decide) (by decide)) (addP_row (by decide) (by decide))
  · exact hG.mono (Nat.le_succ t)
end PERS
