-- ===== told, of, owes, gate, given, rule, errand, rest =====
theorem br1 {A B : Prop} {z : Int32} (hz : z = 1) (h : B) : (z = 0 → A) ∧ (¬ z = 0 → B) := ⟨fun w => absurd (hz ▸ w) (by decide), fun _ => h⟩
theorem b1 {A B : Prop} (h : B) : ((1 : Int32) = 0 → A) ∧ (¬ (1 : Int32) = 0 → B) := ⟨fun w => absurd w (by decide), fun _ => h⟩
theorem b0 {A B : Prop} (h : A) : ((0 : Int32) = 0 → A) ∧ (¬ (0 : Int32) = 0 → B) := ⟨fun _ => h, fun w => absurd rfl w⟩
theorem c1 {A B : Prop} (h : A) : (¬ (1 : Int32) = 0 → A) ∧ (¬ ¬ (1 : Int32) = 0 → B) := ⟨fun _ => h, fun w => absurd (by decide) w⟩
theorem c0 {A B : Prop} (h : B) : (¬ (0 : Int32) = 0 → A) ∧ (¬ ¬ (0 : Int32) = 0 → B) := ⟨fun w => absurd rfl w, fun _ => h⟩
theorem r4 {v : Int32} : (0 ≤ v ∧ v ≤ 4) ↔ isN v 5 := isN_m1 (n := 5) (by decide)
section OPS1
variable {L : Nat} {xs : Nat → Int32} {iv : xIv} {lg : xLg} {Q : xQ} {sg : xIv} {tw : Nat → Int64} {t : Nat}
theorem s_inN {v c : Int32} {n : Nat} {sh : xSh} {rf : xRf} (hn : c = nI n) (h : n < 2 ^ 30) (kt : isN v n → Q (some (.int 1)) sh rf iv lg) (kf : ¬ isN v n → Q (some (.int 0)) sh rf iv lg) : Sp L xs m_Mo_in [.long v.toInt64, .long 0, .long (c - 1).toInt64] sh rf iv lg Q := by
  subst hn
  exact s_inI (a := 0) (hb := rfl) (kt := fun h' => kt ((isN_m1 h).mp h')) (kf := fun h' => kf (fun z => h' ((isN_m1 h).mpr z)))
theorem INV.wk {t' : Nat} (h : t ≤ t') (hI : INV t iv lg) : INV t' iv lg := by
  obtain ⟨sg, tw, a, b, c⟩ := hI
  exact ⟨sg, tw, a, b, c.mono h⟩
theorem nW_c (hC : CX iv lg sg tw) (hG : GG t sg) : iv 2 0 = nI (cnt (vL sg) 0) := hC.1.1.1.trans hG.1.1.1
theorem nW_m (hM : MV iv lg sg tw) (hG : GG t sg) : iv 79 1 = nI (cnt (vL sg) 0) := hM.1.1.trans hG.1.1.1
theorem nP_c (hC : CX iv lg sg tw) (hG : GG t sg) : iv 8 0 = nI (cnt (vL sg) 1) := hC.1.2.1.1.trans hG.1.2.1.1
theorem nP_m (hM : MV iv lg sg tw) (hG : GG t sg) : iv 79 3 = nI (cnt (vL sg) 1) := hM.1.2.1.trans hG.1.2.1.1
theorem nE_c (hC : CX iv lg sg tw) (hG : GG t sg) : iv 1 2 = nI (cnt (vL sg) 2) := hC.1.2.2.1.trans hG.1.2.2.1.1
theorem nE_m (hM : MV iv lg sg tw) (hG : GG t sg) : iv 79 8 = nI (cnt (vL sg) 2) := hM.1.2.2.2.1.trans hG.1.2.2.1.1
set_option maxRecDepth 100000 in
theorem m_told {a b : Int32} (hM : MV iv lg sg tw) (hG : GG t sg) (k1 : ∀ w f, w < cnt (vL sg) 0 → f < 5 → a = nI w → b = nI f → Q (some (.int (sg 80 (5 * w + f)))) SH RF iv lg) (k2 : ¬ (isN a (cnt (vL sg) 0) ∧ isN b 5) → Q (some (.int (-100001))) SH RF iv lg) : Sp L xs m_Mo_told [.ref 79, .int a, .int b] SH RF iv lg Q := by
  have h24 := hG.1.1.2
  refine sgo [] 100 ?_
  refine s_inN (nW_m hM hG) (by omega) (fun h1 => ?_) (fun h1 => ?_)
  · refine b1 ?_
    refine s_inI (a := 0) (b := 4) (kt := fun h2 => ?_) (kf := fun h2 => ?_)
    · refine b1 ?_
      obtain ⟨w, hw, rfl⟩ := isN_of h1 (by omega)
      obtain ⟨f, hf, rfl⟩ := isN_of (r4.mp h2) (by decide)
      have e : (5 : Int32) * nI w + nI f = nI (5 * w + f) := by rw [ni5, ni_a]
      refine And.intro (by rw [e]; exact vp_N (by omega)) ?_
      show Q (some (.int (iv 80 ((5 : Int32) * nI w + nI f).toNatClampNeg))) SH RF iv lg
      rw [e, cl, hM.2.1.1]
      exact k1 w f hw hf rfl rfl
    · refine b0 ?_
      exact k2 (fun z => h2 (r4.mpr z.2))
  · refine b0 ?_
    exact k2 (fun z => h1 z.1)
set_option maxRecDepth 100000 in
theorem e_told (a b : Int32) : EQ m_SR_told m_Mo_told [.int a, .int b] := by
  intro L xs t iv lg Q hI ht k
  obtain ⟨sg, tw, hC, hM, hG⟩ := id hI
  have h24 := hG.1.1.2
  have bad : ¬ (isN a (cnt (vL sg) 0) ∧ isN b 5) → Q (some (.int (-100001))) SH RF iv lg := fun h => k _ iv lg (fun Q2 k2 => m_told hM hG (fun w f hw hf ha hb => absurd ⟨ha ▸ isN_nI hw (by omega), hb ▸ isN_nI hf (by decide)⟩ h) (fun _ => k2 _ _ (hI.wk (Nat.le_succ t))))
  have good : ∀ w f, w < cnt (vL sg) 0 → f < 5 → a = nI w → b = nI f → Q (some (.int (sg 80 (5 * w + f)))) SH RF iv lg := fun w f hw hf ha hb => k _ iv lg (fun Q2 k2 => m_told hM hG (fun w' f' hw' hf' ha' hb' => by
      have e1 : w = w' := (nI_eq (by omega) (by omega)).mp (ha.symm.trans ha')
      have e2 : f = f' := (nI_eq (by omega) (by omega)).mp (hb.symm.trans hb')
      subst e1; subst e2
      exact k2 _ _ (hI.wk (Nat.le_succ t))) (fun h => absurd ⟨ha ▸ isN_nI hw (by omega), hb ▸ isN_nI hf (by decide)⟩ h))
  refine sgo [] 100 ?_
  refine s_has (nW_c hC hG) (by omega) (fun h1 => ?_) (fun h1 => ?_)
  · refine c1 ?_
    obtain ⟨w, hw, rfl⟩ := isN_of h1 (by omega)
    obtain ⟨y0, y1, y2, y3, y4⟩ := hC.1.1.2 w hw
    have hv : vp_in (nI w) 24 := vp_N (by omega)
    refine And.intro (fun hb => ?_) (fun hb0 => ?_)
    · refine And.intro hv ?_
      show Q (some (.int (iv 3 (nI w).toNatClampNeg))) SH RF iv lg
      rw [cl, show iv 3 w = sg 80 (5 * w + 0) from y0]
      exact good w 0 hw (by decide) rfl hb
    · refine And.intro (fun hb => ?_) (fun hb1 => ?_)
      · refine And.intro hv ?_
        show Q (some (.int (iv 4 (nI w).toNatClampNeg))) SH RF iv lg
        rw [cl, show iv 4 w = sg 80 (5 * w + 1) from y1]
        exact good w 1 hw (by decide) rfl hb
      · refine And.intro (fun hb => ?_) (fun hb2 => ?_)
        · refine And.intro hv ?_
          show Q (some (.int (iv 5 (nI w).toNatClampNeg))) SH RF iv lg
          rw [cl, show iv 5 w = sg 80 (5 * w + 2) from y2]
          exact good w 2 hw (by decide) rfl hb
        · refine And.intro (fun hb => ?_) (fun hb3 => ?_)
          · refine And.intro hv ?_
            show Q (some (.int (iv 6 (nI w).toNatClampNeg))) SH RF iv lg
            rw [cl, show iv 6 w = sg 80 (5 * w + 3) from y3]
            exact good w 3 hw (by decide) rfl hb
          · refine And.intro (fun hb => ?_) (fun hb4 => ?_)
            · refine And.intro hv ?_
              show Q (some (.int (iv 7 (nI w).toNatClampNeg))) SH RF iv lg
              rw [cl, show iv 7 w = sg 80 (5 * w + 4) from y4]
              exact good w 4 hw (by decide) rfl hb
            · refine bad (fun z => ?_)
              obtain ⟨f, hf, e⟩ := isN_of z.2 (by decide)
              match f, hf, e with
              | 0, _, e => exact hb0 e
              | 1, _, e => exact hb1 e
              | 2, _, e => exact hb2 e
              | 3, _, e => exact hb3 e
              | 4, _, e => exact hb4 e
  · refine c0 ?_
    exact bad (fun z => h1 z.1)
set_option maxRecDepth 100000 in
theorem m_of {a b : Int32} (hM : MV iv lg sg tw) (hG : GG t sg) (k1 : ∀ w f, w < cnt (vL sg) 1 → f < 5 → a = nI w → b = nI f → Q (some (.int (sg 81 (7 * w + f)))) SH RF iv lg) (k2 : ¬ (isN a (cnt (vL sg) 1) ∧ isN b 5) → Q (some (.int (-1))) SH RF iv lg) : Sp L xs m_Mo_of [.ref 79, .int a, .int b] SH RF iv lg Q := by
  have h24 := hG.1.2.1.2
  refine sgo [] 100 ?_
  refine s_isOne (nP_m hM hG) (by omega) (fun h1 => ?_) (fun h1 => ?_)
  · refine b1 ?_
    refine s_inI (a := 0) (b := 4) (kt := fun h2 => ?_) (kf := fun h2 => ?_)
    · refine b1 ?_
      obtain ⟨w, hw, rfl⟩ := isN_of h1 (by omega)
      obtain ⟨f, hf, rfl⟩ := isN_of (r4.mp h2) (by decide)
      have e : (7 : Int32) * nI w + nI f = nI (7 * w + f) := by rw [ni7, ni_a]
      refine And.intro (by rw [e]; exact vp_N (by omega)) ?_
      show Q (some (.int (iv 81 ((7 : Int32) * nI w + nI f).toNatClampNeg))) SH RF iv lg
      rw [e, cl, hM.2.1.2.1]
      exact k1 w f hw hf rfl rfl
    · refine b0 ?_
      exact k2 (fun z => h2 (r4.mpr z.2))
  · refine b0 ?_
    exact k2 (fun z => h1 z.1)
set_option maxRecDepth 100000 in
theorem e_of (a b : Int32) : EQ m_SR_of m_Mo_of [.int a, .int b] := by
  intro L xs t iv lg Q hI ht k
  obtain ⟨sg, tw, hC, hM, hG⟩ := id hI
  have h24 := hG.1.2.1.2
  have bad : ¬ (isN a (cnt (vL sg) 1) ∧ isN b 5) → Q (some (.int (-1))) SH RF iv lg := fun h => k _ iv lg (fun Q2 k2 => m_of hM hG (fun w f hw hf ha hb => absurd ⟨ha ▸ isN_nI hw (by omega), hb ▸ isN_nI hf (by decide)⟩ h) (fun _ => k2 _ _ (hI.wk (Nat.le_succ t))))
  have good : ∀ w f, w < cnt (vL sg) 1 → f < 5 → a = nI w → b = nI f → Q (some (.int (sg 81 (7 * w + f)))) SH RF iv lg := fun w f hw hf ha hb => k _ iv lg (fun Q2 k2 => m_of hM hG (fun w' f' hw' hf' ha' hb' => by
      have e1 : w = w' := (nI_eq (by omega) (by omega)).mp (ha.symm.trans ha')
      have e2 : f = f' := (nI_eq (by omega) (by omega)).mp (hb.symm.trans hb')
      subst e1; subst e2
      exact k2 _ _ (hI.wk (Nat.le_succ t))) (fun h => absurd ⟨ha ▸ isN_nI hw (by omega), hb ▸ isN_nI hf (by decide)⟩ h))
  refine sgo [] 100 ?_
  refine s_isPerson (nP_c hC hG) (by omega) (fun h1 => ?_) (fun h1 => ?_)
  · refine c1 ?_
    obtain ⟨w, hw, rfl⟩ := isN_of h1 (by omega)
    obtain ⟨y0, y1, y2, y3, y4, y5, y6⟩ := hC.1.2.1.2.1 w hw
    have hv : vp_in (nI w) 8 := vp_N (by omega)
    refine And.intro (fun hb => ?_) (fun hb0 => ?_)
    · refine And.intro hv ?_
      show Q (some (.int (iv 9 (nI w).toNatClampNeg))) SH RF iv lg
      rw [cl, show iv 9 w = sg 81 (7 * w + 0) from y0]
      exact good w 0 hw (by decide) rfl hb
    · refine And.intro (fun hb => ?_) (fun hb1 => ?_)
      · refine And.intro hv ?_
        show Q (some (.int (iv 10 (nI w).toNatClampNeg))) SH RF iv lg
        rw [cl, show iv 10 w = sg 81 (7 * w + 1) from y1]
        exact good w 1 hw (by decide) rfl hb
      · refine And.intro (fun hb => ?_) (fun hb2 => ?_)
        · refine And.intro hv ?_
          show Q (some (.int (iv 11 (nI w).toNatClampNeg))) SH RF iv lg
          rw [cl, show iv 11 w = sg 81 (7 * w + 2) from y2]
          exact good w 2 hw (by decide) rfl hb
        · refine And.intro (fun hb => ?_) (fun hb3 => ?_)
          · refine And.intro hv ?_
            show Q (some (.int (iv 12 (nI w).toNatClampNeg))) SH RF iv lg
            rw [cl, show iv 12 w = sg 81 (7 * w + 3) from y3]
            exact good w 3 hw (by decide) rfl hb
          · refine And.intro (fun hb => ?_) (fun hb4 => ?_)
            · refine And.intro hv ?_
              show Q (some (.int (iv 13 (nI w).toNatClampNeg))) SH RF iv lg
              rw [cl, show iv 13 w = sg 81 (7 * w + 4) from y4]
              exact good w 4 hw (by decide) rfl hb
            · refine bad (fun z => ?_)
              obtain ⟨f, hf, e⟩ := isN_of z.2 (by decide)
              match f, hf, e with
              | 0, _, e => exact hb0 e
              | 1, _, e => exact hb1 e
              | 2, _, e => exact hb2 e
              | 3, _, e => exact hb3 e
              | 4, _, e => exact hb4 e
  · refine c0 ?_
    exact bad (fun z => h1 z.1)
end OPS1
