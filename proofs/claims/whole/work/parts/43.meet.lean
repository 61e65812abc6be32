-- ===== meet =====
section MEET
variable {L : Nat} {xs : Nat → Int32} {iv : xIv} {lg : xLg} {Q : xQ} {sg : xIv} {tw : Nat → Int64} {t : Nat}
def mtA (c : Int32) (s : Option (Nat × Nat)) : Int32 := match s with
  | none => -4
  | some (q, d) => if c = 0 then nI q else nI d
abbrev okM (sg : xIv) (a b c : Int32) : Prop := (isN a (cnt (vL sg) 1) ∧ isN b (cnt (vL sg) 1) ∧ ¬ a = b) ∧ isN c 2
theorem mtS_bd {v : xIv} {ka xa kb xb p : Nat} {s : Option (Nat × Nat)} (hw : ∀ w, w < cnt v 0 → okW v w) (ha : xa < 12) (hb : xb < 12) (hp : p < 12) (hs : mtOk s) : mtOk (mtS v ka xa kb xb p s) := (mt_step (inf := 1000000) (by decide) (by decide) (fun c hc => dst_bd hw ha hc) (fun c hc => dst_bd hw hb hc) hs hp).1
set_option maxRecDepth 100000 in
theorem c_meet_l {p q ka xa kb xb : Nat} {c : Int32} (hG : GG t sg) (hp : p < cnt (vL sg) 1) (hq : q < cnt (vL sg) 1) (hka : ka < 4) (hkb : kb < 4) (hxa : xa < 12) (hxb : xb < 12) (e1 : sg 81 (7 * p + 1) = nI ka) (e2 : sg 81 (7 * p + 3) = nI xa) (e3 : sg 81 (7 * q + 1) = nI kb) (e4 : sg 81 (7 * q + 3) = nI xb) : ∀ (r i : Nat) (y b w : Int32) (s : Option (Nat × Nat)) (iv : xIv) (o7 : Option Int32), i + r = 12 → y = nI i → mtOk s → b = mtB 1000000 s → w = mtW s → CX iv lg sg tw → (∀ iv', CX iv' lg sg tw → refS iv' lg iv lg → Q (some (.int (mtA c (mtR (vL sg) ka xa kb xb r i s)))) SH RF iv' lg) → Wp L xs m_SR_meet 18 [some (.ref 0), some (.int (nI p)), some (.int (nI q)), some (.int c), some (.int b), some (.int w), some (.int y), o7.map Value.int] [] SH RF iv lg Q
  | 0, i, y, b, w, s, iv, o7, h, hy, hs, hb, hw, hC, k => by
    obtain rfl : i = 12 := by omega
    subst hy; subst hb; subst hw
    have kk : Q (some (.int (mtA c s))) SH RF iv lg := k iv hC refS.rfl
    cases o7
    all_goals
      refine wgo [18] 100 ?_
      refine And.intro (fun _ => ?_) (fun z => absurd (by decide) z)
      refine And.intro (fun z => ?_) (fun z => ?_)
      · refine s_orNone (fun w => ?_) (fun w => ?_)
        · match s, hs, kk, w with
          | none, _, kk, _ => exact kk
          | some (q, d), hs, _, w => exact absurd ((nI_leI (a := 1000000) (b := d) (by decide) (by have := (hs q d rfl).2; omega)).mp w) (by have := (hs q d rfl).2; omega)
        · match s, hs, kk, w with
          | none, _, _, w => exact absurd (by decide) w
          | some (q, d), hs, kk, _ => exact qv kk (by show nI d = (if c = 0 then nI q else nI d); rw [if_neg z])
      · refine qv kk ?_
        match s with
        | none => rfl
        | some (q, d) => show nI q = (if c = 0 then nI q else nI d); rw [if_pos (Decidable.not_not.mp z)]
  | r + 1, i, y, b, w, s, iv, o7, h, hy, hs, hb, hw, hC, k => by
    subst hy; subst hb; subst hw
    have hi : i < 12 := by omega
    obtain ⟨g1, g2, g3⟩ := mt_step (v := vL sg) (ka := ka) (xa := xa) (kb := kb) (xb := xb) (p := i) (inf := 1000000) (s := s) (by decide) (by decide) (fun c hc => dst_bd hG.1.2.2.2.2.2.1 hxa hc) (fun c hc => dst_bd hG.1.2.2.2.2.2.1 hxb hc) hs hi
    cases o7
    all_goals
      refine wgo [18] 100 ?_
      refine And.intro (fun z => absurd (lt12 hi) (lenl z)) (fun _ => ?_)
      refine c_now hC hG hp hxa hi hka e1 e2 (fun iv1 C1 R1 => ?_)
      refine c_now C1 hG hq hxb hi hkb e3 e4 (fun iv2 C2 R2 => ?_)
      refine And.intro (fun z => ?_) (fun z => ?_)
      · have e := g2 z
        exact c_meet_l hG hp hq hka hkb hxa hxb e1 e2 e3 e4 r (i + 1) _ _ _ (mtS (vL sg) ka xa kb xb i s) iv2 (some _) (by omega) (nI_1 i) g1 (by rw [e]) (by rw [e]) C2 (fun iv' c1 c2 => k iv' c1 (c2.trans (R2.trans R1)))
      · have e := g3 z
        exact c_meet_l hG hp hq hka hkb hxa hxb e1 e2 e3 e4 r (i + 1) _ _ _ (mtS (vL sg) ka xa kb xb i s) iv2 (some _) (by omega) (nI_1 i) g1 e.2.symm e.1.symm C2 (fun iv' c1 c2 => k iv' c1 (c2.trans (R2.trans R1)))
set_option maxRecDepth 100000 in
theorem c_meet {a b c : Int32} (hC : CX iv lg sg tw) (hG : GG t sg) (k1 : ∀ p q ka xa kb xb, p < cnt (vL sg) 1 → q < cnt (vL sg) 1 → ka < 4 → kb < 4 → xa < 12 → xb < 12 → a = nI p → b = nI q → ¬ a = b → isN c 2 → sg 81 (7 * p + 1) = nI ka → sg 81 (7 * p + 3) = nI xa → sg 81 (7 * q + 1) = nI kb → sg 81 (7 * q + 3) = nI xb → ∀ iv', CX iv' lg sg tw → refS iv' lg iv lg → Q (some (.int (mtA c (mtR (vL sg) ka xa kb xb 12 0 none)))) SH RF iv' lg) (k2 : ¬ okM sg a b c → Q (some (.int (-1))) SH RF iv lg) : Sp L xs m_SR_meet [.ref 0, .int a, .int b, .int c] SH RF iv lg Q := by
  have h8 := hG.1.2.1.2
  refine sgo [18] 100 ?_
  refine s_areTwo (nP_c hC hG) h8 (fun h1 => ?_) (fun h1 => ?_)
  · refine b1 ?_
    refine s_within (fun h3 => ?_) (fun h3 => ?_)
    · refine c1 ?_
      obtain ⟨p, hp, rfl⟩ := isN_of h1.1 (by omega)
      obtain ⟨q, hq, rfl⟩ := isN_of h1.2.1 (by omega)
      obtain ⟨ka, hka, e1⟩ := kindOf hG hp
      obtain ⟨kb, hkb, e3⟩ := kindOf hG hq
      obtain ⟨xa, hxa, e2⟩ := placeOf' hG hp
      obtain ⟨xb, hxb, e4⟩ := placeOf' hG hq
      exact c_meet_l hG hp hq hka hkb hxa hxb e1 e2 e3 e4 12 0 _ _ _ none iv none (by omega) rfl (fun q c e => by cases e) rfl rfl hC (k1 p q ka xa kb xb hp hq hka hkb hxa hxb rfl rfl h1.2.2 (r1.mp h3) e1 e2 e3 e4)
    · refine c0 ?_
      exact k2 (fun z => h3 (r1.mpr z.2))
  · refine b0 ?_
    exact k2 (fun z => h1 z.1)
set_option maxRecDepth 100000 in
theorem m_meet_l {p q ka xa kb xb : Nat} {c : Int32} (hG : GG t sg) (hp : p < cnt (vL sg) 1) (hq : q < cnt (vL sg) 1) (hka : ka < 4) (hkb : kb < 4) (hxa : xa < 12) (hxb : xb < 12) (e1 : sg 81 (7 * p + 1) = nI ka) (e2 : sg 81 (7 * p + 3) = nI xa) (e3 : sg 81 (7 * q + 1) = nI kb) (e4 : sg 81 (7 * q + 3) = nI xb) : ∀ (r i : Nat) (y b w : Int32) (s : Option (Nat × Nat)) (iv : xIv) (o7 : Option Int32), i + r = 12 → y = nI i → mtOk s → b = mtB 100000000 s → w = mtW s → MV iv lg sg tw → (∀ iv', MV iv' lg sg tw → clsS iv' lg iv lg → Q (some (.int (mtA c (mtR (vL sg) ka xa kb xb r i s)))) SH RF iv' lg) → Wp L xs m_Mo_meet 19 [some (.ref 79), some (.int (nI p)), some (.int (nI q)), some (.int c), some (.int w), some (.int b), some (.int y), o7.map Value.int] [] SH RF iv lg Q
  | 0, i, y, b, w, s, iv, o7, h, hy, hs, hb, hw, hC, k => by
    obtain rfl : i = 12 := by omega
    subst hy; subst hb; subst hw
    have kk : Q (some (.int (mtA c s))) SH RF iv lg := k iv hC clsS.rfl
    refine wgo [19] 100 ?_
    refine And.intro (fun _ => ?_) (fun z => absurd (by decide) z)
    refine And.intro (fun z => ?_) (fun z => ?_)
    · match s, hs, kk, z with
      | none, _, _, z => exact absurd z (by decide)
      | some (q, d), hs, kk, _ =>
        refine And.intro (fun w => ?_) (fun w => ?_)
        · exact qv kk (by show nI d = (if c = 0 then nI q else nI d); rw [if_neg w])
        · exact qv kk (by show nI q = (if c = 0 then nI q else nI d); rw [if_pos (Decidable.not_not.mp w)])
    · match s, hs, kk, z with
      | none, _, kk, _ => exact kk
      | some (q, d), hs, _, z => exact absurd (nI_pos' (by have := (hs q d rfl).1; omega)) z
  | r + 1, i, y, b, w, s, iv, o7, h, hy, hs, hb, hw, hC, k => by
    subst hy; subst hb; subst hw
    have h8 := hG.1.2.1.2
    have hi : i < 12 := by omega
    obtain ⟨g1, g2, g3⟩ := mt_step (v := vL sg) (ka := ka) (xa := xa) (kb := kb) (xb := xb) (p := i) (inf := 100000000) (s := s) (by decide) (by decide) (fun c hc => dst_bd hG.1.2.2.2.2.2.1 hxa hc) (fun c hc => dst_bd hG.1.2.2.2.2.2.1 hxb hc) hs hi
    have ep : (7 : Int32) * nI p + 3 = nI (7 * p + 3) := by rw [ni7]; exact ni_a _ 3
    have eq' : (7 : Int32) * nI q + 3 = nI (7 * q + 3) := by rw [ni7]; exact ni_a _ 3
    have vp : vp_in ((7 : Int32) * nI p + 3) 56 := by rw [ep]; exact vp_N (by omega)
    have vq : vp_in ((7 : Int32) * nI q + 3) 56 := by rw [eq']; exact vp_N (by omega)
    have ip : iv 81 ((7 : Int32) * nI p + 3).toNatClampNeg = nI xa := by rw [ep, cl, hC.2.1.2.1, e2]
    have f1 := fun Q2 => m_farOf (L := L) (xs := xs) (Q := Q2) hG hC hp hxa hi hka e1
    rw [← ip] at f1
    have f2 : ∀ iv1, (∀ k, k ≠ 85 → iv1 k = iv k) → ∀ Q2 : xQ, (∀ iv', (∀ k, k ≠ 85 → iv' k = iv1 k) → Q2 (some (.int (enc 100000000 (dst (vL sg) kb xb i)))) SH RF iv' lg) → Sp L xs m_Mo_farOf [.ref 79, .int (nI q), .int (iv1 81 ((7 : Int32) * nI q + 3).toNatClampNeg), .int (nI i)] SH RF iv1 lg Q2 := fun iv1 d Q2 kq => by
      have M1 := hC.w85 d
      have iq : iv1 81 ((7 : Int32) * nI q + 3).toNatClampNeg = nI xb := by rw [eq', cl, M1.2.1.2.1, e4]
      rw [iq]
      exact m_farOf hG M1 hq hxb hi hkb e3 (fun iv' _ c2 => kq iv' c2)
    cases o7
    all_goals
      refine wgo [19] 100 ?_
      refine And.intro (fun z => absurd (lt12 hi) (lenl z)) (fun _ => ?_)
      refine And.intro vp ?_
      refine f1 _ (fun iv1 _ d2 => ?_)
      refine And.intro vq ?_
      refine f2 iv1 d2 _ (fun iv2 d4 => ?_)
      have d5 : ∀ k, k ≠ 85 → iv2 k = iv k := fun k hk => (d4 k hk).trans (d2 k hk)
      refine And.intro (fun z => ?_) (fun z => ?_)
      · have e := g2 z
        refine And.intro (fun z2 => ?_) (fun z2 => absurd z z2)
        exact m_meet_l hG hp hq hka hkb hxa hxb e1 e2 e3 e4 r (i + 1) _ _ _ (mtS (vL sg) ka xa kb xb i s) iv2 (some _) (by omega) (nI_1 i) g1 (by rw [e]) (by rw [e]) (hC.w85 d5) (fun iv' c1 c2 => k iv' c1 (c2.trans (clsS.w85 d5)))
      · have e := g3 z
        refine And.intro (fun z2 => absurd z2 z) (fun z2 => ?_)
        exact m_meet_l hG hp hq hka hkb hxa hxb e1 e2 e3 e4 r (i + 1) _ _ _ (mtS (vL sg) ka xa kb xb i s) iv2 (some _) (by omega) (nI_1 i) g1 e.2.symm e.1.symm (hC.w85 d5) (fun iv' c1 c2 => k iv' c1 (c2.trans (clsS.w85 d5)))
set_option maxRecDepth 100000 in
theorem m_meet {a b c : Int32} (hM : MV iv lg sg tw) (hG : GG t sg) (k1 : ∀ p q ka xa kb xb, p < cnt (vL sg) 1 → q < cnt (vL sg) 1 → ka < 4 → kb < 4 → xa < 12 → xb < 12 → a = nI p → b = nI q → ¬ a = b → isN c 2 → sg 81 (7 * p + 1) = nI ka → sg 81 (7 * p + 3) = nI xa → sg 81 (7 * q + 1) = nI kb → sg 81 (7 * q + 3) = nI xb → ∀ iv', MV iv' lg sg tw → clsS iv' lg iv lg → Q (some (.int (mtA c (mtR (vL sg) ka xa kb xb 12 0 none)))) SH RF iv' lg) (k2 : ¬ okM sg a b c → Q (some (.int (-1))) SH RF iv lg) : Sp L xs m_Mo_meet [.ref 79, .int a, .int b, .int c] SH RF iv lg Q := by
  have h8 := hG.1.2.1.2
  refine sgo [19] 100 ?_
  refine s_moTwo (nP_m hM hG) h8 (fun h1 => ?_) (fun h1 => ?_)
  · refine b1 ?_
    refine s_inI (a := 0) (b := 1) (kt := fun h3 => ?_) (kf := fun h3 => ?_)
    · refine c1 ?_
      obtain ⟨p, hp, rfl⟩ := isN_of h1.1 (by omega)
      obtain ⟨q, hq, rfl⟩ := isN_of h1.2.1 (by omega)
      obtain ⟨ka, hka, e1⟩ := kindOf hG hp
      obtain ⟨kb, hkb, e3⟩ := kindOf hG hq
      obtain ⟨xa, hxa, e2⟩ := placeOf' hG hp
      obtain ⟨xb, hxb, e4⟩ := placeOf' hG hq
      exact m_meet_l hG hp hq hka hkb hxa hxb e1 e2 e3 e4 12 0 _ _ _ none iv none (by omega) rfl (fun q c e => by cases e) rfl rfl hM (k1 p q ka xa kb xb hp hq hka hkb hxa hxb rfl rfl h1.2.2 (r1.mp h3) e1 e2 e3 e4)
    · refine c0 ?_
      exact k2 (fun z => h3 (r1.mpr z.2))
  · refine b0 ?_
    exact k2 (fun z => h1 z.1)
theorem e_meet (a b c : Int32) : EQ m_SR_meet m_Mo_meet [.int a, .int b, .int c] := by
  intro L xs t iv lg Q hI ht k
  obtain ⟨sg, tw, hC, hM, hG⟩ := id hI
  have h8 := hG.1.2.1.2
  refine c_meet hC hG (fun p q ka xa kb xb hp hq hka hkb hxa hxb ha hb hab hc e1 e2 e3 e4 iv1 C1 R1 => k _ iv1 lg (fun Q2 k2 => m_meet (MV_congr R1 hM) hG (fun p' q' ka' xa' kb' xb' hp' hq' hka' hkb' hxa' hxb' ha' hb' hab' hc' e1' e2' e3' e4' iv2 M2 R2 => ?_) (fun h => absurd ⟨⟨ha ▸ isN_nI hp (by omega), hb ▸ isN_nI hq (by omega), hab⟩, hc⟩ h))) (fun h => k _ iv lg (fun Q2 k2 => m_meet hM hG (fun p q ka xa kb xb hp hq hka hkb hxa hxb ha hb hab hc e1 e2 e3 e4 => absurd ⟨⟨ha ▸ isN_nI hp (by omega), hb ▸ isN_nI hq (by omega), hab⟩, hc⟩ h) (fun _ => k2 _ _ (hI.wk (Nat.le_succ t)))))
  have f1 : p = p' := (nI_eq (by omega) (by omega)).mp (ha.symm.trans ha')
  have f2 : q = q' := (nI_eq (by omega) (by omega)).mp (hb.symm.trans hb')
  subst f1; subst f2
  have f3 : ka = ka' := (nI_eq (by omega) (by omega)).mp (e1.symm.trans e1')
  have f4 : xa = xa' := (nI_eq (by omega) (by omega)).mp (e2.symm.trans e2')
  have f5 : kb = kb' := (nI_eq (by omega) (by omega)).mp (e3.symm.trans e3')
  have f6 : xb = xb' := (nI_eq (by omega) (by omega)).mp (e4.symm.trans e4')
  subst f3; subst f4; subst f5; subst f6
  exact k2 _ _ ⟨sg, tw, CX_congr R2 C1, M2, hG.mono (Nat.le_succ t)⟩
end MEET
