-- ===== item, film, lies =====
def rfR (sg : xIv) (a b f c : Int32) : Int32 := if okS a b then (if sg 98 a.toNatClampNeg = -1 then -11 else if sg 98 a.toNatClampNeg = b then (if 0 ≤ f ∧ f ≤ sg 99 a.toNatClampNeg - c then 0 else -13) else -12) else -1
section ITEM
variable {L : Nat} {xs : Nat → Int32} {iv : xIv} {lg : xLg} {Q : xQ} {sg : xIv} {tw : Nat → Int64} {t : Nat}
set_option maxRecDepth 100000 in
theorem c_refused {a b f c : Int32} (hC : CX iv lg sg tw) (k : Q (some (.int (rfR sg a b f c))) SH RF iv lg) : Sp L xs m_SR_refusedRow [.ref 0, .int a, .int b, .int f, .int c] SH RF iv lg Q := by
  unfold rfR at k
  refine sgo [] 100 ?_
  refine s_isSheet (fun h1 => ?_) (fun h1 => ?_)
  · refine b1 ?_
    refine s_isLane (fun h2 => ?_) (fun h2 => ?_)
    · refine c1 ?_
      rw [if_pos ⟨h1, h2⟩] at k
      obtain ⟨s, hs, rfl⟩ := isN_of h1 (by decide)
      have es : (nI s).toNatClampNeg = s := cl
      rw [es] at k
      have v : vp_in (nI s) 4 := vp_N hs
      have hh := ST_h hC hs
      have hz : iv (71 + 2 * s) 2 = sg 99 s := (hC.2.2.2.2 s hs).2.1
      have h5 : s = 0 ∨ s = 1 ∨ s = 2 ∨ s = 3 := by omega
      clear h1
      rcases h5 with rfl | rfl | rfl | rfl
      all_goals
        refine And.intro v ?_
        refine And.intro (fun z => ?_) (fun z => ?_)
        · rcases hh with ⟨g1, g2⟩ | ⟨g1, g2, g3, g4⟩
          · exact absurd g2 z
          rw [if_neg g1] at k
          refine And.intro v ?_
          refine And.intro (fun z2 => ?_) (fun z2 => ?_)
          · rw [if_pos (g4.symm.trans z2)] at k
            refine And.intro (fun z3 => ?_) (fun z3 => ?_)
            · rw [if_neg (fun w => lnle z3 w.1)] at k
              exact k
            · refine And.intro v ?_
              refine And.intro (fun z4 => ?_) (fun z4 => ?_)
              · rw [if_pos ⟨nlt z3, hz ▸ z4⟩] at k
                exact k
              · rw [if_neg (fun w => z4 (hz.symm ▸ w.2))] at k
                exact k
          · rw [if_neg (fun w => z2 (g4.trans w))] at k
            exact k
        · rcases hh with ⟨g1, g2⟩ | ⟨g1, g2, g3, g4⟩
          · rw [if_pos g1] at k
            exact k
          · exact absurd (Decidable.not_not.mp z) g2
    · refine c0 ?_
      rw [if_neg (fun z => h2 z.2)] at k
      exact k
  · refine b0 ?_
    rw [if_neg (fun z => h1 z.1)] at k
    exact k
set_option maxRecDepth 100000 in
theorem m_lacks {a b f c : Int32} (hS : ∀ s, s < 4 → sg 98 s = -1 ∨ isN (sg 98 s) 3) (hM : MV iv lg sg tw) (hab : okS a b) (k : Q (some (.int (rfR sg a b f c))) SH RF iv lg) : Sp L xs m_Mo_lacksRow [.ref 79, .int a, .int b, .int f, .int c] SH RF iv lg Q := by
  unfold rfR at k
  rw [if_pos hab] at k
  obtain ⟨s, hs, rfl⟩ := isN_of hab.1 (by decide)
  have es : (nI s).toNatClampNeg = s := cl
  rw [es] at k
  have v : vp_in (nI s) 4 := vp_N hs
  have e98 : iv 98 (nI s).toNatClampNeg = sg 98 s := by rw [es, hM.2.1.2.2.2.2.2.2.2.2.1]
  have e99 : iv 99 (nI s).toNatClampNeg = sg 99 s := by rw [es, hM.2.1.2.2.2.2.2.2.2.2.2]
  refine sgo [] 100 ?_
  refine And.intro v ?_
  refine And.intro (fun z => ?_) (fun z => ?_)
  · rw [e98] at z
    have z2 : ¬ sg 98 s = -1 := fun w => by
      have := hab.2.1
      rw [← z, w] at this
      exact absurd this (by decide)
    rw [if_neg z2, if_pos z] at k
    refine And.intro v ?_
    refine s_inI (a := 0) (hb := rfl) (kt := fun h => ?_) (kf := fun h => ?_)
    · refine b1 ?_
      rw [e99] at h
      rw [if_pos h] at k
      exact k
    · refine b0 ?_
      rw [e99] at h
      rw [if_neg h] at k
      exact k
  · rw [e98] at z
    refine And.intro v ?_
    refine And.intro (fun z2 => ?_) (fun z2 => ?_)
    · rw [e98] at z2
      rw [if_neg (fun w => by rw [w] at z2; exact absurd z2 (by decide)), if_neg z] at k
      exact k
    · rw [e98] at z2
      have z3 : sg 98 s = -1 := by
        rcases hS s hs with h | h
        · exact h
        · exact absurd h.1 z2
      rw [if_pos z3] at k
      exact k
theorem rfR_lt {a b f c : Int32} : (rfR sg a b f c = 0 ∧ okS a b ∧ ¬ sg 98 a.toNatClampNeg = -1 ∧ sg 98 a.toNatClampNeg = b ∧ 0 ≤ f ∧ f ≤ sg 99 a.toNatClampNeg - c) ∨ (¬ rfR sg a b f c = 0 ∧ ¬ 0 ≤ rfR sg a b f c) := by
  unfold rfR
  by_cases h1 : okS a b
  · rw [if_pos h1]
    by_cases h2 : sg 98 a.toNatClampNeg = -1
    · rw [if_pos h2]; exact Or.inr (by decide)
    · rw [if_neg h2]
      by_cases h3 : sg 98 a.toNatClampNeg = b
      · rw [if_pos h3]
        by_cases h4 : 0 ≤ f ∧ f ≤ sg 99 a.toNatClampNeg - c
        · rw [if_pos h4]; exact Or.inl ⟨rfl, h1, h2, h3, h4⟩
        · rw [if_neg h4]; exact Or.inr (by decide)
      · rw [if_neg h3]; exact Or.inr (by decide)
  · rw [if_neg h1]; exact Or.inr (by decide)
/-- a row that isn't refused -/
theorem rfR_0 {a b f : Int32} {n : Nat} (hz : ∀ s, s < 4 → ∃ m, m ≤ 24 ∧ sg 99 s = nI m) (hn : n ≤ 8) (h : rfR sg a b f (nI n) = 0) : ∃ s g, s < 4 ∧ a = nI s ∧ f = nI g ∧ g + n ≤ 24 ∧ isN b 3 ∧ sg 98 s = b := by
  rcases rfR_lt (sg := sg) (a := a) (b := b) (f := f) (c := nI n) with ⟨-, h1, h2, h3, h4, h5⟩ | ⟨h1, -⟩
  · obtain ⟨s, hs, rfl⟩ := isN_of h1.1 (by decide)
    rw [cl] at h2 h3 h5
    obtain ⟨m, hm, em⟩ := hz s hs
    obtain ⟨g, hg, rfl⟩ := nI_of (lenl h4)
    rw [em, il, subI, nI_toInt (by omega), nI_toInt (by omega), nI_toInt (by omega)] at h5
    · exact ⟨s, g, hs, rfl, rfl, by omega, h1.2, h3⟩
    · rw [nI_toInt (by omega), nI_toInt (by omega)]; omega
    · rw [nI_toInt (by omega), nI_toInt (by omega)]; omega
  · exact absurd h h1
theorem ST_z (hC : CX iv lg sg tw) : ∀ s, s < 4 → ∃ m, m ≤ 24 ∧ sg 99 s = nI m := fun s hs => (hC.2.2.2.2 s hs).2.2.1
set_option maxRecDepth 100000 in
theorem c_put {s g : Nat} {b : Int32} {v : Int64} (hs : s < 4) (hg : g < 24) (x : Int32) (hx : x = nI g) (hb : iv (71 + 2 * s) 1 = b) (k : Q none SH RF iv (xu2 lg (72 + 2 * s) g (lcC b v))) : Sp L xs m_Sheet_put [.ref (71 + 2 * s), .int x, .long v] SH RF iv lg Q := by
  subst hx
  have hv : vp_in (nI g) 24 := vp_N hg
  unfold lcC at k
  have eg : (nI g).toNatClampNeg = g := cl
  rw [← eg] at k
  have h5 : s = 0 ∨ s = 1 ∨ s = 2 ∨ s = 3 := by omega
  rcases h5 with rfl | rfl | rfl | rfl
  all_goals
    refine sgo [] 100 ?_
    refine And.intro (fun z => ?_) (fun z => ?_)
    · rw [if_neg (fun w => z (hb.trans w))] at k
      refine And.intro (fun z2 => ?_) (fun z2 => ?_)
      · rw [if_neg (fun w => z2 (hb.trans w))] at k
        exact And.intro hv k
      · rw [if_pos (hb.symm.trans (Decidable.not_not.mp z2))] at k
        exact And.intro hv k
    · rw [if_pos (hb.symm.trans (Decidable.not_not.mp z))] at k
      exact And.intro hv k
set_option maxRecDepth 100000 in
theorem m_asLane {sh : xSh} {rf : xRf} {b : Int32} {v : Int64} (k : Q (some (.long (lcC b v))) sh rf iv lg) : Sp L xs m_Mo_asLane [.int b, .long v] sh rf iv lg Q := by
  unfold lcC at k
  refine sgo [] 100 ?_
  refine And.intro (fun z => ?_) (fun z => ?_)
  · rw [if_neg z] at k
    refine And.intro (fun z2 => ?_) (fun z2 => ?_)
    · rw [if_neg z2] at k
      exact k
    · rw [if_pos (Decidable.not_not.mp z2)] at k
      exact qvL k (sh32 v)
  · rw [if_pos (Decidable.not_not.mp z)] at k
    exact qvL k (sh48 v)
def opIt (sg : xIv) (tw : Nat → Int64) (a b f : Int32) (v : Int64) : Int32 × (Nat → Int64) := if rfR sg a b f 1 = 0 then (1, upT tw (24 * a.toNatClampNeg + f.toNatClampNeg) (lcC b v)) else (rfR sg a b f 1, tw)
set_option maxRecDepth 100000 in
theorem c_item {a b f : Int32} {v : Int64} (hC : CX iv lg sg tw) (k : ∀ lg', CX iv lg' sg (opIt sg tw a b f v).2 → refS iv lg' iv lg → Q (some (.int (opIt sg tw a b f v).1)) SH RF iv lg') : Sp L xs m_SR_item [.ref 0, .int a, .int b, .int f, .long v] SH RF iv lg Q := by
  refine sgo [] 100 ?_
  refine c_refused hC ?_
  refine And.intro (fun z => ?_) (fun z => ?_)
  · obtain ⟨s, g, hs, rfl, rfl, hg, hb, h98⟩ := rfR_0 (ST_z hC) (by decide) (show rfR sg a b f (nI 1) = 0 from z)
    have e : opIt sg tw (nI s) b (nI g) v = (1, upT tw (24 * s + g) (lcC b v)) := by unfold opIt; rw [if_pos z, cl, cl]
    rw [e] at k
    have hl : iv (71 + 2 * s) 1 = b := by
      rcases ST_h hC hs with ⟨g1, g2⟩ | ⟨g1, g2, g3, g4⟩
      · rw [← h98, g1] at hb
        exact absurd hb.1 (by decide)
      · exact g4.trans h98
    have kk := k _ (hC.it (v := lcC b v) hs (show g < 24 by omega)) (refS.rfl.it (by omega))
    have hv : vp_in (nI s) 4 := vp_N hs
    have pt := fun Q => c_put (L := L) (xs := xs) (iv := iv) (lg := lg) (Q := Q) (v := v) hs (show g < 24 by omega) (nI g) rfl hl
    have h5 : s = 0 ∨ s = 1 ∨ s = 2 ∨ s = 3 := by omega
    clear k e z
    rcases h5 with rfl | rfl | rfl | rfl
    all_goals
      refine And.intro hv ?_
      refine pt _ ?_
      exact kk
  · have e : opIt sg tw a b f v = (rfR sg a b f 1, tw) := if_neg z
    rw [e] at k
    exact k lg hC refS.rfl
set_option maxRecDepth 100000 in
theorem m_item {a b f : Int32} {v : Int64} (hS : ∀ s, s < 4 → sg 98 s = -1 ∨ isN (sg 98 s) 3) (hz : ∀ s, s < 4 → ∃ m, m ≤ 24 ∧ sg 99 s = nI m) (hM : MV iv lg sg tw) (k : ∀ lg', MV iv lg' sg (opIt sg tw a b f v).2 → clsS iv lg' iv lg → Q (some (.int (opIt sg tw a b f v).1)) SH RF iv lg') : Sp L xs m_Mo_item [.ref 79, .int a, .int b, .int f, .long v] SH RF iv lg Q := by
  refine sgo [] 100 ?_
  refine m_isSheet (fun h1 => ?_) (fun h1 => ?_)
  · refine c1 ?_
    refine m_lacks hS hM h1 ?_
    refine And.intro (fun z => ?_) (fun z => ?_)
    · have z0 : rfR sg a b f (nI 1) = 0 := by
        rcases rfR_lt (sg := sg) (a := a) (b := b) (f := f) (c := 1) with ⟨h, -⟩ | ⟨-, h⟩
        · exact h
        · exact absurd z h
      obtain ⟨s, g, hs, rfl, rfl, hg, hb, h98⟩ := rfR_0 hz (by decide) z0
      have e : opIt sg tw (nI s) b (nI g) v = (1, upT tw (24 * s + g) (lcC b v)) := by unfold opIt; rw [if_pos (show rfR sg (nI s) b (nI g) 1 = 0 from z0), cl, cl]
      rw [e] at k
      have e4 : (24 : Int32) * nI s + nI g = nI (24 * s + g) := by rw [show (24 : Int32) * nI s = nI (24 * s) from pk_mul 24 s, ni_a]
      have hv : vp_in ((24 : Int32) * nI s + nI g) 96 := by rw [e4]; exact vp_N (by omega)
      refine m_asLane ?_
      refine And.intro hv ?_
      show Q (some (.int 1)) SH RF iv (xu2 lg 100 ((24 : Int32) * nI s + nI g).toNatClampNeg (lcC b v))
      rw [e4, cl]
      exact k _ hM.it (clsS.rfl.it (by decide))
    · have e : opIt sg tw a b f v = (rfR sg a b f 1, tw) := if_neg (fun w => z (by rw [w]; decide))
      rw [e] at k
      exact k lg hM clsS.rfl
  · refine c0 ?_
    have e0 : rfR sg a b f 1 = -1 := if_neg h1
    have e : opIt sg tw a b f v = (-1, tw) := by unfold opIt; rw [e0, if_neg (by decide)]
    rw [e] at k
    exact k lg hM clsS.rfl
theorem e_item (a b f : Int32) (v : Int64) : EQ m_SR_item m_Mo_item [.int a, .int b, .int f, .long v] := by
  intro L xs t iv lg Q hI ht k
  obtain ⟨sg, tw, hC, hM, hG⟩ := hI
  refine c_item hC (fun lg1 C1 R1 => k _ iv lg1 (fun Q2 k2 => ?_))
  exact m_item (ST_l hC) (ST_z hC) (MV_congr R1 hM) (fun lg2 M2 R2 => k2 _ _ ⟨_, _, CX_congr R2 C1, M2, hG.mono (Nat.le_succ t)⟩)
/-- the rings filmed -/
def fmR (sg : xIv) (s g : Nat) (b : Int32) : Nat → Nat → (Nat → Int64) → (Nat → Int64)
  | 0, _, tw => tw
  | r + 1, p, tw => fmR sg s g b r (p + 1) (upT tw (24 * s + (g + p)) (lcC b (sg 81 (7 * p + 2)).toInt64))
def opFm (sg : xIv) (tw : Nat → Int64) (a b f : Int32) : Int32 × (Nat → Int64) := if rfR sg a b f (sg 79 3) = 0 then (sg 79 3, fmR sg a.toNatClampNeg f.toNatClampNeg b (cnt (vL sg) 1) 0 tw) else (rfR sg a b f (sg 79 3), tw)
set_option maxRecDepth 100000 in
theorem c_film_l {s g m : Nat} {b : Int32} (hs : s < 4) (hm8 : m ≤ 8) (hg : g + m ≤ 24) (hm : cnt (vL sg) 1 = m) (hn : iv 8 0 = nI m) (hl : iv (71 + 2 * s) 1 = b) : ∀ (r p : Nat) (x : Int32) (lg : xLg) (tw : Nat → Int64) (o4 : Int32), p + r = m → x = nI p → CX iv lg sg tw → (∀ lg', CX iv lg' sg (fmR sg s g b r p tw) → refS iv lg' iv lg → Q (some (.int (nI m))) SH RF iv lg') → Wp L xs m_SR_film 16 [some (.ref 0), some (.int (nI s)), some (.int b), some (.int (nI g)), some (.int o4), some (.int x)] [] SH RF iv lg Q
  | 0, p, x, lg, tw, o4, h, hx, hC, k => by
    obtain rfl : p = m := by omega
    subst hx
    refine wgo [16] 100 ?_
    exact And.intro (fun _ => qv (k lg hC refS.rfl) hn) (fun z => absurd (by rw [hn]; exact il.mpr (Int.le_refl _)) z)
  | r + 1, p, x, lg, tw, o4, h, hx, hC, k => by
    subst hx
    have hv : vp_in (nI s) 4 := vp_N hs
    have hvp : vp_in (nI p) 8 := vp_N (by omega)
    have er : iv 11 (nI p).toNatClampNeg = sg 81 (7 * p + 2) := by rw [cl]; exact (hC.rd (by omega)).2.2.1
    have pt := fun Q => c_put (L := L) (xs := xs) (iv := iv) (lg := lg) (Q := Q) (v := (iv 11 (nI p).toNatClampNeg).toInt64) hs (show g + p < 24 by omega) (nI g + nI p) (ni_a g p) hl
    have key : ∀ o4, Wp L xs m_SR_film 16 [some (.ref 0), some (.int (nI s)), some (.int b), some (.int (nI g)), some (.int o4), some (.int (nI p + 1))] [] SH RF iv (xu2 lg (72 + 2 * s) (g + p) (lcC b (iv 11 (nI p).toNatClampNeg).toInt64)) Q := fun o4 => by
      refine c_film_l hs hm8 hg hm hn hl r (p + 1) _ _ (upT tw (24 * s + (g + p)) (lcC b (sg 81 (7 * p + 2)).toInt64)) o4 (by omega) (nI_1 p) (by rw [er]; exact hC.it hs (by omega)) (fun lg' c1 c2 => k lg' c1 (c2.trans (refS.rfl.it (by omega))))
    have h5 : s = 0 ∨ s = 1 ∨ s = 2 ∨ s = 3 := by omega
    clear k
    rcases h5 with rfl | rfl | rfl | rfl
    all_goals
      refine wgo [16] 100 ?_
      refine And.intro (fun z => absurd (nI_lt (show p < m by omega) (by omega)) (by rw [hn] at z; exact lenl z)) (fun _ => ?_)
      refine And.intro hv ?_
      refine And.intro hvp ?_
      refine pt _ ?_
      exact key _
set_option maxRecDepth 100000 in
theorem c_film {a b f : Int32} (hG : GG t sg) (hC : CX iv lg sg tw) (k : ∀ lg', CX iv lg' sg (opFm sg tw a b f).2 → refS iv lg' iv lg → Q (some (.int (opFm sg tw a b f).1)) SH RF iv lg') : Sp L xs m_SR_film [.ref 0, .int a, .int b, .int f] SH RF iv lg Q := by
  have h8 := hG.1.2.1.2
  have e3 : iv 8 0 = sg 79 3 := hC.1.2.1.1
  have e4 : sg 79 3 = nI (cnt (vL sg) 1) := hG.1.2.1.1
  refine sgo [16] 100 ?_
  refine c_refused hC ?_
  refine And.intro (fun z => ?_) (fun z => ?_)
  · rw [e3, e4] at z
    obtain ⟨s, g, hs, rfl, rfl, hg, hb, h98⟩ := rfR_0 (ST_z hC) h8 z
    have e : opFm sg tw (nI s) b (nI g) = (nI (cnt (vL sg) 1), fmR sg s g b (cnt (vL sg) 1) 0 tw) := by unfold opFm; rw [e4, if_pos z, cl, cl]
    rw [e] at k
    have hl : iv (71 + 2 * s) 1 = b := by
      rcases ST_h hC hs with ⟨g1, g2⟩ | ⟨g1, g2, g3, g4⟩
      · rw [← h98, g1] at hb
        exact absurd hb.1 (by decide)
      · exact g4.trans h98
    exact c_film_l hs h8 hg rfl (e3.trans e4) hl _ 0 _ lg tw _ (Nat.zero_add _) rfl hC k
  · rw [e3] at z
    have e : opFm sg tw a b f = (rfR sg a b f (sg 79 3), tw) := if_neg z
    rw [e] at k
    exact qv (k lg hC refS.rfl) (by rw [e3])
set_option maxRecDepth 100000 in
theorem m_film_l {s g m : Nat} {b : Int32} (hs : s < 4) (hm8 : m ≤ 8) (hg : g + m ≤ 24) (hn : iv 79 3 = nI m) : ∀ (r p : Nat) (x : Int32) (lg : xLg) (tw : Nat → Int64) (o4 : Int32), p + r = m → x = nI p → MV iv lg sg tw → (∀ lg', MV iv lg' sg (fmR sg s g b r p tw) → clsS iv lg' iv lg → Q (some (.int (nI m))) SH RF iv lg') → Wp L xs m_Mo_film 20 [some (.ref 79), some (.int (nI s)), some (.int b), some (.int (nI g)), some (.int o4), some (.int x)] [] SH RF iv lg Q
  | 0, p, x, lg, tw, o4, h, hx, hM, k => by
    obtain rfl : p = m := by omega
    subst hx
    refine wgo [20] 100 ?_
    exact And.intro (fun _ => qv (k lg hM clsS.rfl) hn) (fun z => absurd (by rw [hn]; exact il.mpr (Int.le_refl _)) z)
  | r + 1, p, x, lg, tw, o4, h, hx, hM, k => by
    subst hx
    have e7 : (7 : Int32) * nI p + 2 = nI (7 * p + 2) := by rw [ni7]; exact ni_a _ 2
    have v7 : vp_in ((7 : Int32) * nI p + 2) 56 := by rw [e7]; exact vp_N (by omega)
    have i7 : iv 81 ((7 : Int32) * nI p + 2).toNatClampNeg = sg 81 (7 * p + 2) := by rw [e7, cl, hM.2.1.2.1]
    have e4 : (24 : Int32) * nI s + nI g + nI p = nI (24 * s + (g + p)) := by rw [show (24 : Int32) * nI s = nI (24 * s) from pk_mul 24 s, ni_a, ni_a, Nat.add_assoc]
    have v4 : vp_in ((24 : Int32) * nI s + nI g + nI p) 96 := by rw [e4]; exact vp_N (by omega)
    refine wgo [20] 100 ?_
    refine And.intro (fun z => absurd (nI_lt (show p < m by omega) (by omega)) (by rw [hn] at z; exact lenl z)) (fun _ => ?_)
    refine And.intro v7 ?_
    refine m_asLane ?_
    refine And.intro v4 ?_
    exact m_film_l hs hm8 hg hn r (p + 1) _ _ (upT tw (24 * s + (g + p)) (lcC b (sg 81 (7 * p + 2)).toInt64)) _ (by omega) (nI_1 p) (by rw [i7, e4, cl]; exact hM.it) (fun lg' c1 c2 => k lg' c1 (c2.trans (clsS.rfl.it (by decide))))
set_option maxRecDepth 100000 in
theorem m_film {a b f : Int32} (hG : GG t sg) (hS : ∀ s, s < 4 → sg 98 s = -1 ∨ isN (sg 98 s) 3) (hz : ∀ s, s < 4 → ∃ m, m ≤ 24 ∧ sg 99 s = nI m) (hM : MV iv lg sg tw) (k : ∀ lg', MV iv lg' sg (opFm sg tw a b f).2 → clsS iv lg' iv lg → Q (some (.int (opFm sg tw a b f).1)) SH RF iv lg') : Sp L xs m_Mo_film [.ref 79, .int a, .int b, .int f] SH RF iv lg Q := by
  have h8 := hG.1.2.1.2
  have e3 : iv 79 3 = sg 79 3 := hM.1.2.1
  have e4 : sg 79 3 = nI (cnt (vL sg) 1) := hG.1.2.1.1
  refine sgo [20] 100 ?_
  refine m_isSheet (fun h1 => ?_) (fun h1 => ?_)
  · refine c1 ?_
    refine m_lacks hS hM h1 ?_
    refine And.intro (fun z => ?_) (fun z => ?_)
    · rw [e3] at z
      have z0 : rfR sg a b f (sg 79 3) = 0 := by
        rcases rfR_lt (sg := sg) (a := a) (b := b) (f := f) (c := sg 79 3) with ⟨h, -⟩ | ⟨-, h⟩
        · exact h
        · exact absurd z h
      rw [e4] at z0
      obtain ⟨s, g, hs, rfl, rfl, hg, hb, h98⟩ := rfR_0 hz h8 z0
      have e : opFm sg tw (nI s) b (nI g) = (nI (cnt (vL sg) 1), fmR sg s g b (cnt (vL sg) 1) 0 tw) := by unfold opFm; rw [e4, if_pos z0, cl, cl]
      rw [e] at k
      exact m_film_l hs h8 hg (e3.trans e4) _ 0 _ lg tw _ (Nat.zero_add _) rfl hM k
    · rw [e3] at z
      have e : opFm sg tw a b f = (rfR sg a b f (sg 79 3), tw) := if_neg (fun w => z (by rw [w]; decide))
      rw [e] at k
      exact qv (k lg hM clsS.rfl) (by rw [e3])
  · refine c0 ?_
    have e0 : rfR sg a b f (sg 79 3) = -1 := if_neg h1
    have e : opFm sg tw a b f = (-1, tw) := by unfold opFm; rw [e0, if_neg (by decide)]
    rw [e] at k
    exact k lg hM clsS.rfl
theorem e_film (a b f : Int32) : EQ m_SR_film m_Mo_film [.int a, .int b, .int f] := by
  intro L xs t iv lg Q hI ht k
  obtain ⟨sg, tw, hC, hM, hG⟩ := hI
  refine c_film hG hC (fun lg1 C1 R1 => k _ iv lg1 (fun Q2 k2 => ?_))
  exact m_film hG (ST_l hC) (ST_z hC) (MV_congr R1 hM) (fun lg2 M2 R2 => k2 _ _ ⟨_, _, CX_congr R2 C1, M2, hG.mono (Nat.le_succ t)⟩)
/-- what a ring should have had -/
def duN (sg : xIv) (p : Nat) : Int64 := (sg 81 (7 * p + 4)).toInt64 + (sg 81 (7 * p + 6)).toInt64 + (sg 81 (7 * p + 2)).toInt64 - (sg 81 (7 * p + 5)).toInt64
def lsR (sg : xIv) (tw : Nat → Int64) (s g : Nat) : Nat → Nat → Int32 → Int32
  | 0, _, z => z
  | r + 1, p, z => lsR sg tw s g r (p + 1) (if tw (24 * s + (g + p)) < duN sg p then z ||| (1 <<< (nI p &&& 31)) else z)
def opLs (sg : xIv) (tw : Nat → Int64) (a b f : Int32) : Int32 := if rfR sg a b f (sg 79 3) = 0 then lsR sg tw a.toNatClampNeg f.toNatClampNeg (cnt (vL sg) 1) 0 0 else rfR sg a b f (sg 79 3)
theorem lcmp_ge {x y : Int64} : 0 ≤ lg_cmp x y ↔ ¬ x < y := by
  rw [← lcmp_lt]
  exact ⟨fun h => lenl h, fun h => nlt h⟩
set_option maxRecDepth 100000 in
theorem c_liar {p : Nat} {v : Int64} (hC : CX iv lg sg tw) (hp : p < cnt (vL sg) 1) (h8 : cnt (vL sg) 1 ≤ 8) (kt : v < duN sg p → Q (some (.int 1)) SH RF iv lg) (kf : ¬ v < duN sg p → Q (some (.int 0)) SH RF iv lg) : Sp L xs m_People_isLiar [.ref 8, .int (nI p), .long v] SH RF iv lg Q := by
  have hv : vp_in (nI p) 8 := vp_N (by omega)
  obtain ⟨y0, y1, y2, y3, y4, y5, y6⟩ := hC.rd hp
  have ep : (nI p).toNatClampNeg = p := cl
  have e : (iv 13 (nI p).toNatClampNeg).toInt64 + (iv 11 (nI p).toNatClampNeg).toInt64 + (iv 15 (nI p).toNatClampNeg).toInt64 - (iv 14 (nI p).toNatClampNeg).toInt64 = duN sg p := by
    rw [ep, y2, y4, y5, y6]
    unfold duN
    rw [Int64.add_assoc, Int64.add_comm (sg 81 (7 * p + 2)).toInt64, ← Int64.add_assoc]
  refine sgo [] 100 ?_
  refine And.intro hv ?_
  refine And.intro hv ?_
  refine And.intro hv ?_
  refine And.intro hv ?_
  refine And.intro (fun z => ?_) (fun z => ?_)
  · rw [e] at z
    exact And.intro (Or.inl rfl) (kf (lcmp_ge.mp z))
  · rw [e] at z
    exact And.intro (Or.inr rfl) (kt (Decidable.not_not.mp (fun w => z (lcmp_ge.mpr w))))
set_option maxRecDepth 100000 in
theorem c_lies_l {s g m : Nat} {b : Int32} (hs : s < 4) (hm8 : m ≤ 8) (hg : g + m ≤ 24) (hm : cnt (vL sg) 1 = m) (hn : iv 8 0 = nI m) (hC : CX iv lg sg tw) : ∀ (r p : Nat) (x z : Int32) (o4 : Int32), p + r = m → x = nI p → Q (some (.int (lsR sg tw s g r p z))) SH RF iv lg → Wp L xs m_SR_lies 18 [some (.ref 0), some (.int (nI s)), some (.int b), some (.int (nI g)), some (.int o4), some (.int z), some (.int x)] [] SH RF iv lg Q
  | 0, p, x, z, o4, h, hx, k => by
    obtain rfl : p = m := by omega
    subst hx
    refine wgo [18] 100 ?_
    exact And.intro (fun _ => k) (fun z => absurd (by rw [hn]; exact il.mpr (Int.le_refl _)) z)
  | r + 1, p, x, z, o4, h, hx, k => by
    subst hx
    have hv : vp_in (nI s) 4 := vp_N hs
    have hvg : vp_in (nI g + nI p) 24 := by rw [ni_a]; exact vp_N (by omega)
    have et : lg (72 + 2 * s) (nI g + nI p).toNatClampNeg = tw (24 * s + (g + p)) := by rw [ni_a, cl]; exact (hC.2.2.2.2 s hs).2.2.2 _ (by omega)
    have ls := fun Q => c_liar (L := L) (xs := xs) (Q := Q) (v := lg (72 + 2 * s) (nI g + nI p).toNatClampNeg) hC (show p < cnt (vL sg) 1 by omega) (by omega)
    have key1 : tw (24 * s + (g + p)) < duN sg p → ∀ o4, Wp L xs m_SR_lies 18 [some (.ref 0), some (.int (nI s)), some (.int b), some (.int (nI g)), some (.int o4), some (.int (z ||| (1 <<< (nI p &&& 31)))), some (.int (nI p + 1))] [] SH RF iv lg Q := fun h o4 => by
      refine c_lies_l hs hm8 hg hm hn hC r (p + 1) _ _ o4 (by omega) (nI_1 p) ?_
      have e : lsR sg tw s g (r + 1) p z = lsR sg tw s g r (p + 1) (z ||| (1 <<< (nI p &&& 31))) := by show lsR sg tw s g r (p + 1) (if tw (24 * s + (g + p)) < duN sg p then z ||| (1 <<< (nI p &&& 31)) else z) = _; rw [if_pos h]
      rw [e] at k
      exact k
    have key2 : ¬ tw (24 * s + (g + p)) < duN sg p → ∀ o4, Wp L xs m_SR_lies 18 [some (.ref 0), some (.int (nI s)), some (.int b), some (.int (nI g)), some (.int o4), some (.int z), some (.int (nI p + 1))] [] SH RF iv lg Q := fun h o4 => by
      refine c_lies_l hs hm8 hg hm hn hC r (p + 1) _ _ o4 (by omega) (nI_1 p) ?_
      have e : lsR sg tw s g (r + 1) p z = lsR sg tw s g r (p + 1) z := by show lsR sg tw s g r (p + 1) (if tw (24 * s + (g + p)) < duN sg p then z ||| (1 <<< (nI p &&& 31)) else z) = _; rw [if_neg h]
      rw [e] at k
      exact k
    rw [← et] at key1 key2
    have h5 : s = 0 ∨ s = 1 ∨ s = 2 ∨ s = 3 := by omega
    clear k et
    rcases h5 with rfl | rfl | rfl | rfl
    all_goals
      refine wgo [18] 100 ?_
      refine And.intro (fun z => absurd (nI_lt (show p < m by omega) (by omega)) (by rw [hn] at z; exact lenl z)) (fun _ => ?_)
      refine And.intro hv ?_
      refine And.intro hvg ?_
      refine ls _ (fun h => ?_) (fun h => ?_)
      · refine b1 ?_
        exact key1 h _
      · refine b0 ?_
        exact key2 h _
set_option maxRecDepth 100000 in
theorem c_lies {a b f : Int32} (hG : GG t sg) (hC : CX iv lg sg tw) (k : Q (some (.int (opLs sg tw a b f))) SH RF iv lg) : Sp L xs m_SR_lies [.ref 0, .int a, .int b, .int f] SH RF iv lg Q := by
  have h8 := hG.1.2.1.2
  have e3 : iv 8 0 = sg 79 3 := hC.1.2.1.1
  have e4 : sg 79 3 = nI (cnt (vL sg) 1) := hG.1.2.1.1
  refine sgo [18] 100 ?_
  refine c_refused hC ?_
  refine And.intro (fun z => ?_) (fun z => ?_)
  · rw [e3, e4] at z
    obtain ⟨s, g, hs, rfl, rfl, hg, hb, h98⟩ := rfR_0 (ST_z hC) h8 z
    have e : opLs sg tw (nI s) b (nI g) = lsR sg tw s g (cnt (vL sg) 1) 0 0 := by unfold opLs; rw [e4, if_pos z, cl, cl]
    rw [e] at k
    exact c_lies_l hs h8 hg rfl (e3.trans e4) hC _ 0 _ _ _ (Nat.zero_add _) rfl k
  · rw [e3] at z
    have e : opLs sg tw a b f = rfR sg a b f (sg 79 3) := if_neg z
    rw [e] at k
    exact qv k (by rw [e3])
set_option maxRecDepth 100000 in
theorem m_lies_l {s g m : Nat} {b : Int32} (hs : s < 4) (hm8 : m ≤ 8) (hg : g + m ≤ 24) (hn : iv 79 3 = nI m) (hM : MV iv lg sg tw) : ∀ (r p : Nat) (x z : Int32) (o4 : Int32) (o7 o8 : Option Value), p + r = m → x = nI p → Q (some (.int (lsR sg tw s g r p z))) SH RF iv lg → Wp L xs m_Mo_lies 22 [some (.ref 79), some (.int (nI s)), some (.int b), some (.int (nI g)), some (.int o4), some (.int z), some (.int x), o7, o8] [] SH RF iv lg Q
  | 0, p, x, z, o4, o7, o8, h, hx, k => by
    obtain rfl : p = m := by omega
    subst hx
    refine wgo [22] 100 ?_
    exact And.intro (fun _ => k) (fun z => absurd (by rw [hn]; exact il.mpr (Int.le_refl _)) z)
  | r + 1, p, x, z, o4, o7, o8, h, hx, k => by
    subst hx
    have e7 : ∀ c : Nat, (7 : Int32) * nI p + nI c = nI (7 * p + c) := fun c => by rw [ni7]; exact ni_a _ _
    have v7 : ∀ c : Nat, c < 7 → vp_in ((7 : Int32) * nI p + nI c) 56 := fun c hcc => by rw [e7]; exact vp_N (by omega)
    have i7 : ∀ c : Nat, c < 7 → iv 81 ((7 : Int32) * nI p + nI c).toNatClampNeg = sg 81 (7 * p + c) := fun c hcc => by rw [e7, cl, hM.2.1.2.1]
    have e4 : (24 : Int32) * nI s + nI g + nI p = nI (24 * s + (g + p)) := by rw [show (24 : Int32) * nI s = nI (24 * s) from pk_mul 24 s, ni_a, ni_a, Nat.add_assoc]
    have v4 : vp_in ((24 : Int32) * nI s + nI g + nI p) 96 := by rw [e4]; exact vp_N (by omega)
    have ed : (iv 81 ((7 : Int32) * nI p + nI 4).toNatClampNeg).toInt64 + (iv 81 ((7 : Int32) * nI p + nI 6).toNatClampNeg).toInt64 + (iv 81 ((7 : Int32) * nI p + nI 2).toNatClampNeg).toInt64 - (iv 81 ((7 : Int32) * nI p + nI 5).toNatClampNeg).toInt64 = duN sg p := by
      rw [i7 4 (by decide), i7 6 (by decide), i7 2 (by decide), i7 5 (by decide)]; rfl
    have el : lg 100 ((24 : Int32) * nI s + nI g + nI p).toNatClampNeg = tw (24 * s + (g + p)) := by rw [e4, cl, hM.2.2]
    refine wgo [22] 100 ?_
    refine And.intro (fun z => absurd (nI_lt (show p < m by omega) (by omega)) (by rw [hn] at z; exact lenl z)) (fun _ => ?_)
    refine And.intro (v7 4 (by decide)) ?_
    refine And.intro (v7 6 (by decide)) ?_
    refine And.intro (v7 2 (by decide)) ?_
    refine And.intro (v7 5 (by decide)) ?_
    refine And.intro v4 ?_
    refine And.intro (fun w => ?_) (fun w => ?_)
    · have w2 : ¬ tw (24 * s + (g + p)) < duN sg p := by
        rw [← el, ← ed]; exact lcmp_ge.mp w
      have e : lsR sg tw s g (r + 1) p z = lsR sg tw s g r (p + 1) z := by show lsR sg tw s g r (p + 1) (if tw (24 * s + (g + p)) < duN sg p then z ||| (1 <<< (nI p &&& 31)) else z) = _; rw [if_neg w2]
      rw [e] at k
      exact m_lies_l hs hm8 hg hn hM r (p + 1) _ _ _ _ _ (by omega) (nI_1 p) (by rw [Int32.or_zero]; exact k)
    · have w2 : tw (24 * s + (g + p)) < duN sg p := by
        rw [← el, ← ed]; exact Decidable.not_not.mp (fun h => w (lcmp_ge.mpr h))
      have e : lsR sg tw s g (r + 1) p z = lsR sg tw s g r (p + 1) (z ||| (1 <<< (nI p &&& 31))) := by show lsR sg tw s g r (p + 1) (if tw (24 * s + (g + p)) < duN sg p then z ||| (1 <<< (nI p &&& 31)) else z) = _; rw [if_pos w2]
      rw [e] at k
      exact m_lies_l hs hm8 hg hn hM r (p + 1) _ _ _ _ _ (by omega) (nI_1 p) k
set_option maxRecDepth 100000 in
theorem m_lies {a b f : Int32} (hG : GG t sg) (hS : ∀ s, s < 4 → sg 98 s = -1 ∨ isN (sg 98 s) 3) (hz : ∀ s, s < 4 → ∃ m, m ≤ 24 ∧ sg 99 s = nI m) (hM : MV iv lg sg tw) (k : Q (some (.int (opLs sg tw a b f))) SH RF iv lg) : Sp L xs m_Mo_lies [.ref 79, .int a, .int b, .int f] SH RF iv lg Q := by
  have h8 := hG.1.2.1.2
  have e3 : iv 79 3 = sg 79 3 := hM.1.2.1
  have e4 : sg 79 3 = nI (cnt (vL sg) 1) := hG.1.2.1.1
  refine sgo [22] 100 ?_
  refine m_isSheet (fun h1 => ?_) (fun h1 => ?_)
  · refine c1 ?_
    refine m_lacks hS hM h1 ?_
    refine And.intro (fun z => ?_) (fun z => ?_)
    · rw [e3] at z
      have z0 : rfR sg a b f (sg 79 3) = 0 := by
        rcases rfR_lt (sg := sg) (a := a) (b := b) (f := f) (c := sg 79 3) with ⟨h, -⟩ | ⟨-, h⟩
        · exact h
        · exact absurd z h
      rw [e4] at z0
      obtain ⟨s, g, hs, rfl, rfl, hg, hb, h98⟩ := rfR_0 hz h8 z0
      have e : opLs sg tw (nI s) b (nI g) = lsR sg tw s g (cnt (vL sg) 1) 0 0 := by unfold opLs; rw [e4, if_pos z0, cl, cl]
      rw [e] at k
      exact m_lies_l hs h8 hg (e3.trans e4) hM _ 0 _ _ _ _ _ (Nat.zero_add _) rfl k
    · rw [e3] at z
      have e : opLs sg tw a b f = rfR sg a b f (sg 79 3) := if_neg (fun w => z (by rw [w]; decide))
      rw [e] at k
      exact qv k (by rw [e3])
  · refine c0 ?_
    have e0 : rfR sg a b f (sg 79 3) = -1 := if_neg h1
    have e : opLs sg tw a b f = -1 := by unfold opLs; rw [e0, if_neg (by decide)]
    rw [e] at k
    exact k
theorem e_lies (a b f : Int32) : EQ m_SR_lies m_Mo_lies [.int a, .int b, .int f] := by
  intro L xs t iv lg Q hI ht k
  obtain ⟨sg, tw, hC, hM, hG⟩ := id hI
  refine c_lies hG hC (k _ iv lg (fun Q2 k2 => ?_))
  exact m_lies hG (ST_l hC) (ST_z hC) hM (k2 _ _ (hI.wk (Nat.le_succ t)))
end ITEM
