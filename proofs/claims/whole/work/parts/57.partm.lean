-- ===== parted: the reference =====
section PARTM
variable {L : Nat} {xs : Nat → Int32} {iv : xIv} {lg : xLg} {Q : xQ} {sg : xIv} {tw : Nat → Int64} {t : Nat} {A W : Nat → Option Nat} {n q : Nat}
set_option maxRecDepth 100000 in
theorem m_pa_0 {m : Int32} {N : Nat} (hN : N ≤ 64) : ∀ (r s : Nat) (X : Int32) (iv : xIv), s + r = N → X = nI s → 0 < N → shO iv 90 100000000 pa0 s → (∀ iv', shO iv' 90 100000000 pa0 N → (∀ k, k ≠ 90 → iv' k = iv k) → Wp L xs m_Mo_parted 39 [some (.ref 79), some (.int m), some (.int (nI (N - 1))), some (.int 0), none, none, none] [] SH RF iv' lg Q) → Wp L xs m_Mo_parted 23 [some (.ref 79), some (.int m), some (.int (nI (N - 1))), some (.int X), none, none, none] [] SH RF iv lg Q
  | 0, s, X, iv, h, hX, h0, hA, k => by
    obtain rfl : s = N := by omega
    subst hX
    have kk := k iv hA (fun _ _ => rfl)
    clear k
    refine wgo [23, 39] 100 ?_
    exact And.intro (fun _ => kk) (fun z => absurd (nI_lt (by omega) (by omega)) z)
  | r + 1, s, X, iv, h, hX, h0, hA, k => by
    subst hX
    have hle : ¬ nI (N - 1) < nI s := fun z => by have := (nI_ltI (by omega) (by omega)).mp z; omega
    have vs : vp_in (nI s) 64 := vp_N (by omega)
    have nx : ∀ V : Int32, V = nI ((pa0 s).getD 100000000) → Wp L xs m_Mo_parted 23 [some (.ref 79), some (.int m), some (.int (nI (N - 1))), some (.int (nI s + 1)), none, none, none] [] SH RF (xu2 iv 90 (nI s).toNatClampNeg V) lg Q := fun V hV => by
      subst hV
      rw [cl]
      refine m_pa_0 hN r (s + 1) _ _ (by omega) (nI_1 s) h0 (fun S hS => ?_) (fun iv' c1 c2 => k iv' c1 (fun k hk => (c2 k hk).trans (xu2_ne hk)))
      by_cases c : S = s
      · rw [c, xu2_s]
      · rw [xu2_j c]; exact hA S (by omega)
    clear k
    refine wgo [23, 39] 100 ?_
    refine And.intro (fun z => absurd z hle) (fun _ => ?_)
    refine And.intro (fun z => ?_) (fun z => ?_)
    · refine And.intro vs ?_
      refine nx _ ?_
      unfold pa0
      rw [if_neg (fun w => z (by rw [w]; rfl))]
      rfl
    · refine And.intro vs ?_
      refine nx _ ?_
      have : s = 0 := (nI_eq (b := 0) (by omega) (by decide)).mp (Decidable.not_not.mp z)
      unfold pa0
      rw [if_pos this]
      rfl
set_option maxRecDepth 100000 in
theorem m_pa_in {s : Nat} {m al p : Int32} (hq : q ≤ 8) (hs : s < 64) (hA : AB A q) (hW : AB W 1) : ∀ (r o : Nat) (b : Option Nat) (O : Int32) (iv : xIv) (o6 : Option Int32), o < r → o &&& s = o → O = nI o → shO iv 90 100000000 A (s + 1) → (∀ S, S < s + 1 → iv 89 (7 * S + 6) = nI ((W S).getD 100000000)) → iv 91 s = nI (b.getD 100000000) → oLe b 100000000 → (∀ iv' O' (o6' : Option Int32), iv' 91 s = nI ((shI A W s r o b).getD 100000000) → (∀ S, S ≠ s → iv' 91 S = iv 91 S) → (∀ k, k ≠ 91 → iv' k = iv k) → Wp L xs m_Mo_parted 111 [some (.ref 79), some (.int m), some (.int al), some (.int p), some (.int (nI s)), some (.int O'), o6'.map Value.int] [] SH RF iv' lg Q) → Wp L xs m_Mo_parted 68 [some (.ref 79), some (.int m), some (.int al), some (.int p), some (.int (nI s)), some (.int O), o6.map Value.int] [] SH RF iv lg Q
  | 0, o, b, O, iv, o6, h, _, _, _, _, _, _, _ => absurd h (Nat.not_lt_zero _)
  | r + 1, o, b, O, iv, o6, h, hos, hO, h90, h89, h91, hb, k => by
    subst hO
    have hle : o ≤ s := by rw [← hos]; exact Nat.and_le_right
    by_cases h0 : o = 0
    · subst h0
      rw [shI_0] at k
      have kk := fun O' => k iv O' o6 h91 (fun _ _ => rfl) (fun _ _ => rfl)
      clear k
      refine wgo [68, 111] 100 ?_
      exact And.intro (fun _ => kk _) (fun z => absurd (by decide) z)
    · rw [shI_S h0] at k
      have e := sd_lt s hs o (by omega) hos
      have g := sd_and s hs (o - 1) (by omega)
      have eo := sd_op s hs o (by omega)
      have en := sd_nx (s := s) (o := o) (by omega) (by omega)
      have vs : vp_in (nI s) 64 := vp_N (by omega)
      have vo : vp_in (nI s &&& (nI o ^^^ (-1))) 64 := by rw [eo]; exact vp_N (by omega)
      have e7 : (7 : Int32) * nI o + 6 = nI (7 * o + 6) := by rw [ni7]; exact ni_a _ 6
      have v7 : vp_in ((7 : Int32) * nI o + 6) 448 := by rw [e7]; exact vp_N (by omega)
      have hpos : ¬ nI o ≤ 0 := fun z => by have := (nI_leI (a := o) (b := 0) (by omega) (by decide)).mp z; omega
      have bA := getD_le (AB_bd (inf := 100000000) hA (by omega) (show sdf s o < 64 by omega) (by decide))
      have bW := getD_le (AB_bd (inf := 100000000) hW (by omega) (show o < 64 by omega) (by decide))
      have bB := getD_le hb
      have es : iv 90 (nI s &&& (nI o ^^^ (-1))).toNatClampNeg + iv 89 ((7 : Int32) * nI o + 6).toNatClampNeg = nI ((A (sdf s o)).getD 100000000 + (W o).getD 100000000) := by
        rw [eo, e7, cl, cl, h90 (sdf s o) (by omega), h89 o (by omega), ni_a]
      have stp := sh_step hA hW hq (show sdf s o < 64 by omega) (show o < 64 by omega) (show 1000000 ≤ 100000000 by decide) hb
      have b3 : oLe (omin b (oadd (A (sdf s o)) (W o))) 100000000 := omin_le hb (fun c hc => by
        have := oadd_le (AB_bd (inf := 300000) hA (by omega) (show sdf s o < 64 by omega) (by decide)) (AB_bd (inf := 300000) hW (by omega) (show o < 64 by omega) (by decide)) c hc
        omega)
      have nx : ∀ (V U : Int32), V = nI ((omin b (oadd (A (sdf s o)) (W o))).getD 100000000) → Wp L xs m_Mo_parted 68 [some (.ref 79), some (.int m), some (.int al), some (.int p), some (.int (nI s)), some (.int ((nI o - 1) &&& nI s)), (some U).map Value.int] [] SH RF (xu2 iv 91 (nI s).toNatClampNeg V) lg Q := fun V U hV => by
        rw [cl]
        refine m_pa_in hq hs hA hW r ((o - 1) &&& s) _ _ _ (some U) (by omega) g.1 en (fun S hS => by rw [xu2_ne (by decide)]; exact h90 S hS) (fun S hS => by rw [xu2_ne (by decide)]; exact h89 S hS) (by rw [xu2_s]; exact hV) b3 (fun iv' O' o6' c1 c2 c3 => k iv' O' o6' c1 (fun S hS => (c2 S hS).trans (xu2_j hS)) (fun k hk => (c3 k hk).trans (xu2_ne hk)))
      have ec : iv 91 (nI s).toNatClampNeg = nI (b.getD 100000000) := by rw [cl]; exact h91
      clear k
      refine wgo [68, 111] 100 ?_
      refine And.intro (fun z => absurd z hpos) (fun _ => ?_)
      refine And.intro vo ?_
      refine And.intro v7 ?_
      refine And.intro vs ?_
      refine And.intro (fun z => ?_) (fun z => ?_)
      · refine And.intro vs ?_
        refine And.intro vs ?_
        refine nx _ _ ?_
        rw [es, ec] at z
        have := (nI_leI (by omega) (by omega)).mp z
        rw [ec, ← stp]
        congr 1
        omega
      · refine And.intro vs ?_
        refine nx _ _ ?_
        rw [es, ec] at z
        have : ¬ _ := fun w => z ((nI_leI (by omega) (by omega)).mpr w)
        rw [es, ← stp]
        congr 1
        omega
set_option maxRecDepth 100000 in
theorem m_pa_mid {N : Nat} {m p : Int32} (hN : N ≤ 64) (hq : q ≤ 8) (hA : AB A q) (hW : AB W 1) : ∀ (r s : Nat) (X : Int32) (iv : xIv) (o5 : Option Int32) (o6 : Option Int32), s + r = N → 0 < N → X = nI s → shO iv 90 100000000 A N → (∀ S, S < N → iv 89 (7 * S + 6) = nI ((W S).getD 100000000)) → shO iv 91 100000000 (shN A W) s → (∀ iv' X' (o5' o6' : Option Int32), shO iv' 91 100000000 (shN A W) N → (∀ k, k ≠ 91 → iv' k = iv k) → Wp L xs m_Mo_parted 113 [some (.ref 79), some (.int m), some (.int (nI (N - 1))), some (.int p), some (.int X'), o5'.map Value.int, o6'.map Value.int] [] SH RF iv' lg Q) → Wp L xs m_Mo_parted 55 [some (.ref 79), some (.int m), some (.int (nI (N - 1))), some (.int p), some (.int X), o5.map Value.int, o6.map Value.int] [] SH RF iv lg Q
  | 0, s, X, iv, o5, o6, h, h0, hX, h90, h89, h91, k => by
    obtain rfl : s = N := by omega
    subst hX
    have kk := k iv (nI s) o5 o6 h91 (fun _ _ => rfl)
    clear k
    refine wgo [55, 113] 100 ?_
    exact And.intro (fun _ => kk) (fun z => absurd (nI_lt (by omega) (by omega)) z)
  | r + 1, s, X, iv, o5, o6, h, h0, hX, h90, h89, h91, k => by
    subst hX
    have hle : ¬ nI (N - 1) < nI s := fun z => by have := (nI_ltI (by omega) (by omega)).mp z; omega
    have vs : vp_in (nI s) 64 := vp_N (by omega)
    have es : iv 90 (nI s).toNatClampNeg = nI ((A s).getD 100000000) := by rw [cl]; exact h90 s (by omega)
    have n1 : Wp L xs m_Mo_parted 68 [some (.ref 79), some (.int m), some (.int (nI (N - 1))), some (.int p), some (.int (nI s)), some (.int (nI s)), o6.map Value.int] [] SH RF (xu2 iv 91 (nI s).toNatClampNeg (iv 90 (nI s).toNatClampNeg)) lg Q := by
      rw [es, cl]
      refine m_pa_in hq (show s < 64 by omega) hA hW 64 s (A s) _ _ o6 (by omega) (Nat.and_self s) rfl (fun S hS => by rw [xu2_ne (by decide)]; exact h90 S (by omega)) (fun S hS => by rw [xu2_ne (by decide)]; exact h89 S (by omega)) xu2_s (AB_bd hA (by omega) (by omega) (by decide)) (fun iv' O' o6' c1 c2 c3 => ?_)
      refine wgo [55] 100 ?_
      have r1 : ∀ k, k ≠ 91 → iv' k = iv k := fun k hk => (c3 k hk).trans (xu2_ne hk)
      refine m_pa_mid hN hq hA hW r (s + 1) _ iv' (some O') o6' (by omega) h0 (nI_1 s) (fun S hS => by rw [r1 90 (by decide)]; exact h90 S hS) (fun S hS => by rw [r1 89 (by decide)]; exact h89 S hS) (fun S hS => ?_) (fun iv2 X' o5' o6' d1 d2 => k iv2 X' o5' o6' d1 (fun k hk => (d2 k hk).trans (r1 k hk)))
      by_cases c : S = s
      · rw [c]; exact c1
      · rw [c2 S c, xu2_j c]; exact h91 S (by omega)
    clear k
    refine wgo [55, 68, 113] 100 ?_
    refine And.intro (fun z => absurd z hle) (fun _ => ?_)
    refine And.intro vs ?_
    refine And.intro vs ?_
    exact n1
set_option maxRecDepth 100000 in
theorem m_pa_cp {N : Nat} {m p : Int32} (hN : N ≤ 64) : ∀ (r s : Nat) (X : Int32) (iv : xIv) (o5 : Option Int32) (o6 : Option Int32), s + r = N → 0 < N → X = nI s → shO iv 91 100000000 A N → shO iv 90 100000000 A s → (∀ iv' X' (o5' o6' : Option Int32), shO iv' 90 100000000 A N → (∀ k, k ≠ 90 → iv' k = iv k) → Wp L xs m_Mo_parted 128 [some (.ref 79), some (.int m), some (.int (nI (N - 1))), some (.int p), some (.int X'), o5'.map Value.int, o6'.map Value.int] [] SH RF iv' lg Q) → Wp L xs m_Mo_parted 115 [some (.ref 79), some (.int m), some (.int (nI (N - 1))), some (.int p), some (.int X), o5.map Value.int, o6.map Value.int] [] SH RF iv lg Q
  | 0, s, X, iv, o5, o6, h, h0, hX, h91, h90, k => by
    obtain rfl : s = N := by omega
    subst hX
    have kk := k iv (nI s) o5 o6 h90 (fun _ _ => rfl)
    clear k
    refine wgo [115, 128] 100 ?_
    exact And.intro (fun _ => kk) (fun z => absurd (nI_lt (by omega) (by omega)) z)
  | r + 1, s, X, iv, o5, o6, h, h0, hX, h91, h90, k => by
    subst hX
    have hle : ¬ nI (N - 1) < nI s := fun z => by have := (nI_ltI (by omega) (by omega)).mp z; omega
    have vs : vp_in (nI s) 64 := vp_N (by omega)
    have es : iv 91 (nI s).toNatClampNeg = nI ((A s).getD 100000000) := by rw [cl]; exact h91 s (by omega)
    have n1 : Wp L xs m_Mo_parted 115 [some (.ref 79), some (.int m), some (.int (nI (N - 1))), some (.int p), some (.int (nI s + 1)), o5.map Value.int, o6.map Value.int] [] SH RF (xu2 iv 90 (nI s).toNatClampNeg (iv 91 (nI s).toNatClampNeg)) lg Q := by
      rw [es, cl]
      refine m_pa_cp hN r (s + 1) _ _ o5 o6 (by omega) h0 (nI_1 s) (fun S hS => by rw [xu2_ne (by decide)]; exact h91 S hS) (fun S hS => ?_) (fun iv2 X' o5' o6' d1 d2 => k iv2 X' o5' o6' d1 (fun k hk => (d2 k hk).trans (xu2_ne hk)))
      by_cases c : S = s
      · rw [c, xu2_s]
      · rw [xu2_j c]; exact h90 S (by omega)
    clear k
    refine wgo [115, 128] 100 ?_
    refine And.intro (fun z => absurd z hle) (fun _ => ?_)
    refine And.intro vs ?_
    refine And.intro vs ?_
    exact n1
set_option maxRecDepth 100000 in
theorem m_pa_out {m : Nat} (hG : GG t sg) (hm : m < 256) : ∀ (r p q : Nat) (X : Int32) (iv : xIv) (A : Nat → Option Nat) (o4 o5 o6 : Option Int32), p + r = cnt (vL sg) 1 → q ≤ p → X = nI p → MV iv lg sg tw → AB A q → shO iv 90 100000000 A (2 ^ cnt (vL sg) 2) → (∀ iv', MV iv' lg sg tw → clsS iv' lg iv lg → Q (some (.int (orN (paR (wfP sg) m r p A (2 ^ cnt (vL sg) 2 - 1))))) SH RF iv' lg) → Wp L xs m_Mo_parted 39 [some (.ref 79), some (.int (nI m)), some (.int (nI (2 ^ cnt (vL sg) 2 - 1))), some (.int X), o4.map Value.int, o5.map Value.int, o6.map Value.int] [] SH RF iv lg Q
  | 0, p, q, X, iv, A, o4, o5, o6, h, hq, hX, hM, hA, h90, k => by
    obtain rfl : p = cnt (vL sg) 1 := by omega
    subst hX
    have h8 := hG.1.2.1.2
    have h6 := hG.1.2.2.1.2
    have h64 := pw6 (cnt (vL sg) 2) (by omega)
    have kk := k iv hM clsS.rfl
    have hn := nP_m hM hG
    have v1 : vp_in (nI (2 ^ cnt (vL sg) 2 - 1)) 64 := vp_N (by omega)
    have bd : oLe (A (2 ^ cnt (vL sg) 2 - 1)) 300000 := AB_bd hA (by omega) (by omega) (by decide)
    have ev : iv 90 (nI (2 ^ cnt (vL sg) 2 - 1)).toNatClampNeg = nI ((A (2 ^ cnt (vL sg) 2 - 1)).getD 100000000) := by rw [cl]; exact h90 _ (by omega)
    replace kk : Q (some (.int (orN (A (2 ^ cnt (vL sg) 2 - 1))))) SH RF iv lg := kk
    clear k
    refine wgo [39] 100 ?_
    refine And.intro (fun _ => ?_) (fun z => absurd (by rw [hn]; exact il.mpr (Int.le_refl _)) z)
    refine And.intro v1 ?_
    cases eA : A (2 ^ cnt (vL sg) 2 - 1) with
    | none =>
      rw [eA] at ev kk
      refine And.intro (fun z => absurd (by rw [ev] at z; exact z) (by decide)) (fun _ => ?_)
      exact kk
    | some c =>
      have bc := bd c eA
      rw [eA] at ev kk
      replace ev : iv 90 (nI (2 ^ cnt (vL sg) 2 - 1)).toNatClampNeg = nI c := ev
      refine And.intro (fun _ => ?_) (fun z => absurd (by rw [ev]; exact nI_lt (b := 100000000) (by omega) (by decide)) z)
      refine And.intro v1 ?_
      exact qv kk ev
  | r + 1, p, q, X, iv, A, o4, o5, o6, h, hq, hX, hM, hA, h90, k => by
    subst hX
    have h8 := hG.1.2.1.2
    have h6 := hG.1.2.2.1.2
    have h64 := pw6 (cnt (vL sg) 2) (by omega)
    have hn := nP_m hM hG
    have hp : p < cnt (vL sg) 1 := by omega
    have hlt : nI p < iv 79 3 := by rw [hn]; exact nI_lt hp (by omega)
    have hbit := nx_bi1 (k := m) (x := p) (by omega) (by omega)
    have hb2 : m.testBit p = true ∨ m.testBit p = false := by cases m.testBit p <;> simp
    rcases hb2 with hb | hb
    · have hnb := hbit.mpr hb
      have e : paR (wfP sg) m (r + 1) p A = paR (wfP sg) m r (p + 1) (shN A (wfP sg p)) := by
        show paR (wfP sg) m r (p + 1) (if m.testBit p then shN A (wfP sg p) else A) = _
        rw [if_pos hb]
      rw [e] at k
      obtain ⟨kd, hkd, ek⟩ := kindOf hG hp
      obtain ⟨hm', hhm, eh⟩ := homeOf hG hp
      obtain ⟨x, hx, ex⟩ := placeOf' hG hp
      have ft := fun Q => m_tours (L := L) (xs := xs) (Q := Q) hG hM hp hkd ek hhm eh hx ex
      have n1 : ∀ iv1 (o5 o6 : Option Int32), LF iv1 (dst (vL sg) kd) (ePl sg) hm' (cnt (vL sg) 2) x (2 ^ cnt (vL sg) 2) → (∀ k, k ≠ 85 → k ≠ 88 → k ≠ 89 → iv1 k = iv k) → Wp L xs m_Mo_parted 55 [some (.ref 79), some (.int (nI m)), some (.int (nI (2 ^ cnt (vL sg) 2 - 1))), some (.int (nI p)), some (.int 0), o5.map Value.int, o6.map Value.int] [] SH RF iv1 lg Q := fun iv1 o5 o6 L1 r1 => by
        refine m_pa_mid (A := A) (W := wfP sg p) (q := q) (show 2 ^ cnt (vL sg) 2 ≤ 64 by omega) (by omega) hA (wfP_AB hG hp) _ 0 _ iv1 o5 o6 (Nat.zero_add _) (by omega) rfl (fun S hS => by rw [r1 90 (by decide) (by decide) (by decide)]; exact h90 S hS) (fun S hS => ?_) (fun S hS => absurd hS (Nat.not_lt_zero S)) (fun iv2 X' o5' o6' d1 d2 => ?_)
        · unfold wfP
          rw [ek, eh, ex, cl, cl, cl]
          exact L1 S 6 hS (Or.inr rfl)
        · refine wgo [115] 100 ?_
          refine m_pa_cp (A := shN A (wfP sg p)) (show 2 ^ cnt (vL sg) 2 ≤ 64 by omega) _ 0 _ iv2 o5' o6' (Nat.zero_add _) (by omega) rfl d1 (fun S hS => absurd hS (Nat.not_lt_zero S)) (fun iv3 X'' o5' o6' g1 g2 => ?_)
          have r3 : ∀ k, k ≠ 85 → k ≠ 88 → k ≠ 89 → k ≠ 90 → k ≠ 91 → iv3 k = iv k := fun k h1 h2 h3 h4 h5 => by rw [g2 k h4, d2 k h5, r1 k h1 h2 h3]
          have M3 : MV iv3 lg sg tw := hM.wk (fun j _ _ => by rw [r3 79 (by decide) (by decide) (by decide) (by decide) (by decide)]) (fun k hk => r3 k (by omega) (by omega) (by omega) (by omega) (by omega))
          have R3 : clsS iv3 lg iv lg := ⟨fun k hk => r3 k (by omega) (by omega) (by omega) (by omega) (by omega), fun _ _ => rfl⟩
          refine wgo [39] 100 ?_
          exact m_pa_out hG hm r (p + 1) (q + 1) _ iv3 (shN A (wfP sg p)) (some X'') o5' o6' (by omega) (by omega) (nI_1 p) M3 (shN_le hA (wfP_AB hG hp)) g1 (fun iv' c1 c2 => k iv' c1 (c2.trans R3))
      clear k
      cases o4 <;> cases o5 <;> cases o6
      all_goals
        refine wgo [39, 55] 100 ?_
        refine And.intro (fun z => absurd hlt (lenl z)) (fun _ => ?_)
        refine And.intro (fun z => absurd hnb z) (fun _ => ?_)
        refine ft _ (fun iv1 T1 L1 r1 => ?_)
        first
        | exact n1 iv1 none none L1 r1
        | exact n1 iv1 (some _) none L1 r1
        | exact n1 iv1 none (some _) L1 r1
        | exact n1 iv1 (some _) (some _) L1 r1
    · have hnb : ¬ (nI m >>> (nI p &&& 31)) &&& 1 = 1 := fun z => by rw [hbit.mp z] at hb; cases hb
      have e : paR (wfP sg) m (r + 1) p A = paR (wfP sg) m r (p + 1) A := by
        show paR (wfP sg) m r (p + 1) (if m.testBit p then shN A (wfP sg p) else A) = _
        rw [if_neg (by rw [hb]; decide)]
      rw [e] at k
      refine wgo [39] 100 ?_
      refine And.intro (fun z => absurd hlt (lenl z)) (fun _ => ?_)
      refine And.intro (fun _ => ?_) (fun z => absurd hnb z)
      exact m_pa_out hG hm r (p + 1) q _ iv A o4 o5 o6 (by omega) (by omega) (nI_1 p) hM hA h90 k
set_option maxRecDepth 100000 in
theorem m_parted {a : Int32} (hM : MV iv lg sg tw) (hG : GG t sg) (k1 : ∀ m, m < 256 → a = nI m → okPa sg a → ∀ iv', MV iv' lg sg tw → clsS iv' lg iv lg → Q (some (.int (orN (opPa sg m)))) SH RF iv' lg) (k2 : ¬ okPa sg a → Q (some (.int (-1))) SH RF iv lg) : Sp L xs m_Mo_parted [.ref 79, .int a] SH RF iv lg Q := by
  have h8 := hG.1.2.1.2
  have h6 := hG.1.2.2.1.2
  have h64 := pw8 (cnt (vL sg) 1) (by omega)
  have h65 := pw6 (cnt (vL sg) 2) (by omega)
  have e1 : (1 : Int32) <<< (iv 79 3 &&& 31) - 1 = nI (2 ^ cnt (vL sg) 1 - 1) := by rw [nP_m hM hG, sh_n _ (by omega)]; exact nI_subN (b := 1) (by omega) (by omega)
  have e2 : (1 : Int32) <<< (iv 79 8 &&& 31) - 1 = nI (2 ^ cnt (vL sg) 2 - 1) := by rw [nE_m hM hG, sh_n _ (by omega)]; exact nI_subN (b := 1) (by omega) (by omega)
  refine sgo [23] 100 ?_
  refine s_inI (a := 1) (hb := rfl) (kt := fun h1 => ?_) (kf := fun h1 => ?_)
  · rw [e1] at h1
    refine c1 ?_
    obtain ⟨m, hm, rfl⟩ := okPa_of hG h1
    have kk := k1 m hm rfl h1
    clear k1 k2
    have fin : ∀ AL : Int32, AL = nI (2 ^ cnt (vL sg) 2 - 1) → Wp L xs m_Mo_parted 23 [some (.ref 79), some (.int (nI m)), some (.int AL), some (.int 0), none, none, none] [] SH RF iv lg Q := fun AL hAL => by
      subst hAL
      refine m_pa_0 (N := 2 ^ cnt (vL sg) 2) (by omega) _ 0 _ iv (Nat.zero_add _) rfl (by omega) (fun S hS => absurd hS (Nat.not_lt_zero S)) (fun iv1 c1 c2 => ?_)
      have M1 : MV iv1 lg sg tw := hM.wk (fun j _ _ => by rw [c2 79 (by decide)]) (fun k hk => c2 k (by omega))
      have R1 : clsS iv1 lg iv lg := ⟨fun k hk => c2 k (by omega), fun _ _ => rfl⟩
      exact m_pa_out hG hm _ 0 0 _ iv1 pa0 none none none (Nat.zero_add _) (Nat.le_refl _) rfl M1 pa0_AB c1 (fun iv' d1 d2 => kk iv' d1 (d2.trans R1))
    exact fin _ e2
  · rw [e1] at h1
    refine c0 ?_
    exact k2 h1
theorem e_parted (a : Int32) : EQ m_SR_parted m_Mo_parted [.int a] := by
  intro L xs t iv lg Q hI ht k
  obtain ⟨sg, tw, hC, hM, hG⟩ := id hI
  refine c_parted hC hG (fun m hm ha hok iv1 C1 R1 => k _ iv1 lg (fun Q2 k2 => m_parted (MV_congr R1 hM) hG (fun m' hm' ha' hok' iv2 M2 R2 => ?_) (fun h => absurd hok h))) (fun h => k _ iv lg (fun Q2 k2 => m_parted hM hG (fun m hm ha hok => absurd hok h) (fun _ => k2 _ _ (hI.wk (Nat.le_succ t)))))
  have e1 : m = m' := (nI_eq (by omega) (by omega)).mp (ha.symm.trans ha')
  subst e1
  exact k2 _ _ ⟨sg, tw, CX_congr R2 C1, M2, hG.mono (Nat.le_succ t)⟩
end PARTM
