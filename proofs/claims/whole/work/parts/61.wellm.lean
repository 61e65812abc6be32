-- ===== wells: the reference =====
theorem nx_xor (a b : Nat) : nI a ^^^ nI b = nI (a ^^^ b) := by
  apply Int32.toBitVec_inj.1
  show BitVec.ofNat 32 a ^^^ BitVec.ofNat 32 b = BitVec.ofNat 32 (a ^^^ b)
  apply BitVec.eq_of_getLsbD_eq
  intro i hi
  simp [hi]
theorem nx_neg {u : Nat} (h : u < 4294967296) : - nI u = nI (4294967296 - u) := by
  apply Int32.toBitVec_inj.1
  show - BitVec.ofNat 32 u = BitVec.ofNat 32 (4294967296 - u)
  apply BitVec.eq_of_toNat_eq
  rw [BitVec.toNat_neg, BitVec.toNat_ofNat, BitVec.toNat_ofNat, Nat.mod_eq_of_lt (a := u) h]
section WELLM
variable {L : Nat} {xs : Nat → Int32} {iv : xIv} {lg : xLg} {Q : xQ} {sg : xIv} {tw : Nat → Int64} {t : Nat} {k w : Nat}
set_option maxRecDepth 100000 in
theorem m_ones_l {s0 : Int32} : ∀ (r s c : Nat) (C S : Int32), s < r → s < 4096 → C = nI c → S = nI s → Q (some (.int (nI (c + onesF r s)))) SH RF iv lg → Wp L xs m_Mo_ones 4 [some (.int s0), some (.int C), some (.int S)] [] SH RF iv lg Q
  | 0, s, c, C, S, h, _, _, _, _ => absurd h (Nat.not_lt_zero _)
  | r + 1, s, c, C, S, h, h4, hC, hS, kk => by
    subst hC; subst hS
    by_cases h0 : s = 0
    · subst h0
      have e : onesF (r + 1) 0 = 0 := if_pos rfl
      rw [e, Nat.add_zero] at kk
      refine wgo [4] 100 ?_
      exact And.intro (fun _ => kk) (fun z => absurd rfl z)
    · have e : onesF (r + 1) s = 1 + onesF r (s &&& (s - 1)) := if_neg h0
      rw [e, ← Nat.add_assoc] at kk
      have hle : s &&& (s - 1) ≤ s - 1 := Nat.and_le_right
      have es : nI s &&& (nI s - 1) = nI (s &&& (s - 1)) := by rw [show nI s - 1 = nI (s - 1) from nI_subN (b := 1) (by omega) (by omega), nx_and]
      have nx := m_ones_l (s0 := s0) r (s &&& (s - 1)) (c + 1) _ _ (by omega) (by omega) (nI_1 c) es kk
      refine wgo [4] 100 ?_
      exact And.intro (fun z => absurd ((nI_eq (b := 0) (by omega) (by decide)).mp z) h0) (fun _ => nx)
set_option maxRecDepth 100000 in
theorem m_ones {s : Nat} (hs : s < 4096) (kk : Q (some (.int (nI (onesF 4096 s)))) SH RF iv lg) : Sp L xs m_Mo_ones [.int (nI s)] SH RF iv lg Q := by
  rw [← Nat.zero_add (onesF 4096 s)] at kk
  have nx := m_ones_l (L := L) (xs := xs) (s0 := nI s) 4096 s 0 0 (nI s) hs hs rfl rfl kk
  refine sgo [4] 100 ?_
  exact nx
set_option maxRecDepth 100000 in
theorem m_ahead {a b : Nat} (ha : a < 4096) (hb : b < 4096) (kt : ahN a b = true → Q (some (.int 1)) SH RF iv lg) (kf : ¬ ahN a b = true → Q (some (.int 0)) SH RF iv lg) : Sp L xs m_Mo_isAhead [.int (nI a), .int (nI b)] SH RF iv lg Q := by
  have hu : a ^^^ b < 4096 := Nat.xor_lt_two_pow (n := 12) ha hb
  have eu : nI a ^^^ nI b = nI (a ^^^ b) := nx_xor a b
  have ev : (nI a &&& (nI a ^^^ nI b)) &&& (- (nI a ^^^ nI b)) = nI ((a &&& (a ^^^ b)) &&& (4294967296 - (a ^^^ b))) := by rw [eu, nx_neg (by omega), nx_and, nx_and]
  have hl : (a &&& (a ^^^ b)) &&& (4294967296 - (a ^^^ b)) < 4096 := Nat.lt_of_le_of_lt (Nat.and_le_left) (Nat.lt_of_le_of_lt Nat.and_le_left ha)
  have c1 : (nI a ^^^ nI b = 0) ↔ a ^^^ b = 0 := by rw [eu]; exact nI_eq (b := 0) (by omega) (by decide)
  have c2 : ((nI a &&& (nI a ^^^ nI b)) &&& (- (nI a ^^^ nI b)) = 0) ↔ (a &&& (a ^^^ b)) &&& (4294967296 - (a ^^^ b)) = 0 := by rw [ev]; exact nI_eq (b := 0) (by omega) (by decide)
  have ha' : ahN a b = true ↔ ¬ a ^^^ b = 0 ∧ ¬ (a &&& (a ^^^ b)) &&& (4294967296 - (a ^^^ b)) = 0 := by
    unfold ahN
    rw [Bool.and_eq_true, Bool.not_eq_true', Bool.not_eq_true']
    have bq : ∀ n : Nat, Nat.beq n 0 = false ↔ ¬ n = 0 := fun n => by
      constructor
      · intro h e; rw [e] at h; cases h
      · intro h
        cases e : Nat.beq n 0 with
        | false => rfl
        | true => exact absurd (Nat.eq_of_beq_eq_true e) h
    rw [bq, bq]
  clear ev eu
  refine sgo [] 100 ?_
  refine And.intro (fun z => ?_) (fun z => ?_)
  · exact And.intro (Or.inl rfl) (kf (fun q => (ha'.mp q).1 (c1.mp z)))
  · refine And.intro (fun z2 => ?_) (fun z2 => ?_)
    · exact And.intro (Or.inl rfl) (kf (fun q => (ha'.mp q).2 (c2.mp z2)))
    · exact And.intro (Or.inr rfl) (kt (ha'.mpr ⟨fun q => z (c1.mpr q), fun q => z2 (c2.mpr q)⟩))
def FH (iv : xIv) (H : Nat → Nat → Option Nat) (M : Nat) : Prop := ∀ p q, p < M → q < 12 → iv 92 (12 * p + q) = nI ((H p q).getD 100000000)
set_option maxRecDepth 100000 in
theorem m_wo_in {H : Nat → Nat → Option Nat} {s p M : Nat} {W S : Int32} (hs : s < 4096) (hM : M ≤ 8) (hp : p < M) (hH : ∀ q, oLe (H p q) 2772) (h92 : FH iv H M) : ∀ (r j : Nat) (J B : Int32), j + r = 12 → J = nI j → B = nI ((mnE (fun q => if s.testBit q then H p q else none) j).getD 100000000) → (∀ J', Wp L xs m_Mo_wellsOf 45 [some (.ref 79), some (.int (nI s)), some (.int W), some (.int S), some (.int (nI p)), some (.int (nI ((nrM H s p).getD 100000000))), some (.int J')] [] SH RF iv lg Q) → Wp L xs m_Mo_wellsOf 12 [some (.ref 79), some (.int (nI s)), some (.int W), some (.int S), some (.int (nI p)), some (.int B), some (.int J)] [] SH RF iv lg Q
  | 0, j, J, B, hj, hJ, hB, kk => by
    obtain rfl : j = 12 := by omega
    subst hJ; subst hB
    have k2 := kk (nI 12)
    clear kk
    refine wgo [12, 45] 100 ?_
    exact And.intro (fun _ => k2) (fun z => absurd (by decide) z)
  | r + 1, j, J, B, hj, hJ, hB, kk => by
    subst hJ; subst hB
    have hbit := nx_bi1 (k := s) (x := j) (by omega) (by omega)
    have e12 : (12 : Int32) * nI p + nI j = nI (12 * p + j) := by rw [ni12, ni_a]
    have v12 : vp_in ((12 : Int32) * nI p + nI j) 96 := by rw [e12]; exact vp_N (by omega)
    have ev : iv 92 ((12 : Int32) * nI p + nI j).toNatClampNeg = nI ((H p j).getD 100000000) := by rw [e12, cl]; exact h92 p j hp (by omega)
    have bF : ∀ e, oLe (if s.testBit e then H p e else none) 100000000 := fun e c hc => by
      by_cases h : s.testBit e = true
      · rw [if_pos h] at hc; exact Nat.le_trans (hH _ c hc) (by decide)
      · rw [if_neg h] at hc; cases hc
    have b1 : oLe (mnE (fun q => if s.testBit q then H p q else none) j) 100000000 := mnE_le j (fun e _ => bF e)
    have es : (mnE (fun q => if s.testBit q then H p q else none) (j + 1)).getD 100000000 = min ((mnE (fun q => if s.testBit q then H p q else none) j).getD 100000000) ((if s.testBit j then H p j else none).getD 100000000) := omin_n b1 (bF j)
    have g1 := getD_le b1
    have nx : ∀ B : Int32, B = nI ((mnE (fun q => if s.testBit q then H p q else none) (j + 1)).getD 100000000) → Wp L xs m_Mo_wellsOf 12 [some (.ref 79), some (.int (nI s)), some (.int W), some (.int S), some (.int (nI p)), some (.int B), some (.int (nI j + 1))] [] SH RF iv lg Q := fun B hB => m_wo_in hs hM hp hH h92 r (j + 1) _ B (by omega) (nI_1 j) hB kk
    clear kk
    have hlt := lt12 (show j < 12 by omega)
    have hb2 : s.testBit j = true ∨ s.testBit j = false := by cases s.testBit j <;> simp
    rcases hb2 with hb | hb
    · rw [if_pos hb] at es
      have b2 : oLe (H p j) 100000000 := fun c hc => Nat.le_trans (hH _ c hc) (by decide)
      have g2 := getD_le b2
      refine wgo [12, 45] 100 ?_
      refine And.intro (fun z => absurd hlt (lenl z)) (fun _ => ?_)
      refine And.intro (fun z => absurd (hbit.mpr hb) z) (fun _ => ?_)
      refine And.intro v12 ?_
      refine And.intro (fun z => ?_) (fun z => ?_)
      · refine nx _ ?_
        rw [ev] at z
        have := (nI_leI (by omega) (by omega)).mp z
        rw [es]
        congr 1
        omega
      · refine And.intro v12 ?_
        refine nx _ ?_
        rw [ev] at z
        have : ¬ _ := fun q => z ((nI_leI (by omega) (by omega)).mpr q)
        rw [ev, es]
        congr 1
        omega
    · rw [if_neg (by rw [hb]; decide)] at es
      have hnb : ¬ (nI s >>> (nI j &&& 31)) &&& 1 = 1 := fun z => by rw [hbit.mp z] at hb; cases hb
      refine wgo [12, 45] 100 ?_
      refine And.intro (fun z => absurd hlt (lenl z)) (fun _ => ?_)
      refine And.intro (fun _ => ?_) (fun z => absurd hnb z)
      refine nx _ ?_
      rw [es]
      congr 1
      show _ = min _ 100000000
      omega
set_option maxRecDepth 100000 in
theorem m_wo_out {H : Nat → Nat → Option Nat} {s M : Nat} (hs : s < 4096) (hM : M ≤ 8) (hw : w ≤ 99999) (hH : ∀ p q, p < M → oLe (H p q) 2772) (h92 : FH iv H M) (h3 : iv 79 3 = nI M) : ∀ (r p sm : Nat) (X S : Int32) (o5 o6 : Option Value), p + r = M → sm ≤ 2772 * p → X = nI p → S = nI sm → Q (some (.int (nI ((coR (nrM H s) w r p sm).getD 100000000)))) SH RF iv lg → Wp L xs m_Mo_wellsOf 4 [some (.ref 79), some (.int (nI s)), some (.int (nI w)), some (.int S), some (.int X), o5, o6] [] SH RF iv lg Q
  | 0, p, sm, X, S, o5, o6, hp, hsm, hX, hS, kk => by
    obtain rfl : p = M := by omega
    subst hX; subst hS
    refine wgo [4, 12] 100 ?_
    exact And.intro (fun _ => kk) (fun z => absurd (by rw [h3]; exact il.mpr (Int.le_refl _)) z)
  | r + 1, p, sm, X, S, o5, o6, hp, hsm, hX, hS, kk => by
    subst hX; subst hS
    have hp1 : p < M := by omega
    have hlt : nI p < iv 79 3 := by rw [h3]; exact nI_lt hp1 (by omega)
    have bN : oLe (nrM H s p) 2772 := mnE_le 12 (fun e _ c hc => by
      by_cases h : s.testBit e = true
      · rw [if_pos h] at hc; exact hH p e hp1 c hc
      · rw [if_neg h] at hc; cases hc)
    have at45 : ∀ J', Wp L xs m_Mo_wellsOf 45 [some (.ref 79), some (.int (nI s)), some (.int (nI w)), some (.int (nI sm)), some (.int (nI p)), some (.int (nI ((nrM H s p).getD 100000000))), some (.int J')] [] SH RF iv lg Q := fun J' => by
      have ec : coR (nrM H s) w (r + 1) p sm = (match nrM H s p with | some c => if c ≤ w then coR (nrM H s) w r (p + 1) (sm + c) else none | none => none) := rfl
      cases eN : nrM H s p with
      | none =>
        rw [eN] at ec
        rw [ec] at kk
        refine wgo [4] 100 ?_
        refine And.intro (fun z => absurd ((nI_leI (a := 100000000) (b := w) (by decide) (by omega)).mp z) (by omega)) (fun _ => ?_)
        exact kk
      | some c =>
        have bc := bN c eN
        rw [eN] at ec
        dsimp only at ec
        by_cases hcw : c ≤ w
        · rw [if_pos hcw] at ec
          rw [ec] at kk
          have nx := fun SS hSS o5 o6 => m_wo_out hs hM hw hH h92 h3 r (p + 1) (sm + c) (nI p + 1) SS o5 o6 (by omega) (by omega) (nI_1 p) hSS kk
          have nx2 := nx (nI sm + nI c) (ni_a sm c)
          clear nx
          refine wgo [4] 100 ?_
          refine And.intro (fun _ => ?_) (fun z => absurd ((nI_leI (by omega) (by omega)).mpr hcw) z)
          exact nx2 _ _
        · rw [if_neg hcw] at ec
          rw [ec] at kk
          refine wgo [4] 100 ?_
          refine And.intro (fun z => absurd ((nI_leI (a := c) (b := w) (by omega) (by omega)).mp z) hcw) (fun _ => ?_)
          exact kk
    have inn := m_wo_in (L := L) (xs := xs) (Q := Q) (lg := lg) (W := nI w) (S := nI sm) hs hM hp1 (fun q => hH p q hp1) h92 12 0 0 100000000 (by omega) rfl rfl at45
    clear kk at45
    refine wgo [4, 12] 100 ?_
    refine And.intro (fun z => absurd hlt (lenl z)) (fun _ => ?_)
    exact inn
set_option maxRecDepth 100000 in
theorem m_wellsOf {s : Nat} (hG : GG t sg) (hs : s < 4096) (hw : w ≤ 99999) (h92 : FH iv (HH sg) (cnt (vL sg) 1)) (h3 : iv 79 3 = nI (cnt (vL sg) 1)) (kk : Q (some (.int (nI ((wCo sg w s).getD 100000000)))) SH RF iv lg) : Sp L xs m_Mo_wellsOf [.ref 79, .int (nI s), .int (nI w)] SH RF iv lg Q := by
  have nx := m_wo_out (L := L) (xs := xs) hs hG.1.2.1.2 hw (fun p q hp => HH_bd hG hp q) h92 h3 _ 0 0 0 0 none none (Nat.zero_add _) (Nat.zero_le _) rfl rfl kk
  clear kk
  refine sgo [4] 100 ?_
  exact nx
set_option maxRecDepth 100000 in
theorem m_wl_in {p kd hm M : Nat} {K W I : Int32} (hG : GG t sg) (hM8 : M = cnt (vL sg) 1) (hp : p < M) (hkd : kd < 4) (ek : sg 81 (7 * p + 1) = nI kd) (hhm : hm < 12) (eh : sg 81 (7 * p) = nI hm) : ∀ (r j : Nat) (J : Int32) (iv : xIv), j + r = 12 → J = nI j → MV iv lg sg tw → FH iv (HH sg) p → (∀ q, q < j → iv 92 (12 * p + q) = nI ((HH sg p q).getD 100000000)) → (∀ iv' J', MV iv' lg sg tw → clsS iv' lg iv lg → FH iv' (HH sg) (p + 1) → Wp L xs m_Mo_wells 59 [some (.ref 79), some (.int K), some (.int W), some (.int I), some (.int (nI p)), some (.int J'), none, none] [] SH RF iv' lg Q) → Wp L xs m_Mo_wells 36 [some (.ref 79), some (.int K), some (.int W), some (.int I), some (.int (nI p)), some (.int J), none, none] [] SH RF iv lg Q
  | 0, j, J, iv, hj, hJ, hM, hF, hA, kk => by
    obtain rfl : j = 12 := by omega
    subst hJ
    have k2 := kk iv (nI 12) hM clsS.rfl (fun p' q h1 h2 => by
      by_cases c : p' = p
      · rw [c]; exact hA q h2
      · exact hF p' q (by omega) h2)
    clear kk
    refine wgo [36, 59] 100 ?_
    exact And.intro (fun _ => k2) (fun z => absurd (by decide) z)
  | r + 1, j, J, iv, hj, hJ, hM, hF, hA, kk => by
    subst hJ
    have h8 := hG.1.2.1.2
    have e12 : (12 : Int32) * nI p + nI j = nI (12 * p + j) := by rw [ni12, ni_a]
    have v12 : vp_in ((12 : Int32) * nI p + nI j) 96 := by rw [e12]; exact vp_N (by omega)
    have v7 : vp_in ((7 : Int32) * nI p) 56 := by rw [ni7]; exact vp_N (by omega)
    have e81 : iv 81 ((7 : Int32) * nI p).toNatClampNeg = nI hm := by rw [ni7, cl, hM.2.1.2.1]; exact eh
    have ff := fun Q2 => m_farOf (L := L) (xs := xs) (Q := Q2) hG hM (show p < cnt (vL sg) 1 by omega) hhm (show j < 12 by omega) hkd ek
    rw [← e81] at ff
    have eH : HH sg p j = dst (vL sg) kd hm j := by unfold HH kdP hmP; rw [ek, eh, cl, cl]
    have nx : ∀ iv1, (∀ k, k ≠ 85 → iv1 k = iv k) → Wp L xs m_Mo_wells 36 [some (.ref 79), some (.int K), some (.int W), some (.int I), some (.int (nI p)), some (.int (nI j + 1)), none, none] [] SH RF (xu2 iv1 92 ((12 : Int32) * nI p + nI j).toNatClampNeg (enc 100000000 (dst (vL sg) kd hm j))) lg Q := fun iv1 d => by
      rw [e12, cl]
      have M1 : MV (xu2 iv1 92 (12 * p + j) (enc 100000000 (dst (vL sg) kd hm j))) lg sg tw := (hM.w85 d).wk (fun j _ _ => by rw [xu2_ne (by decide)]) (fun k hk => xu2_ne (by omega))
      refine m_wl_in hG hM8 hp hkd ek hhm eh r (j + 1) _ _ (by omega) (nI_1 j) M1 (fun p' q h1 h2 => ?_) (fun q hq => ?_) (fun iv' J' c1 c2 c3 => kk iv' J' c1 (c2.trans ⟨fun k hk => by rw [xu2_ne (by omega), d k (by omega)], fun _ _ => rfl⟩) c3)
      · rw [xu2_j (by omega), d 92 (by decide)]; exact hF p' q h1 h2
      · by_cases c : q = j
        · rw [c, xu2_s, eH]; rfl
        · rw [xu2_j (by omega), d 92 (by decide)]; exact hA q (by omega)
    have ed : (iv 81 ((7 : Int32) * nI p).toNatClampNeg).toNatClampNeg = hm := by rw [e81, cl]
    clear kk
    refine wgo [36, 59] 100 ?_
    refine And.intro (fun z => absurd (lt12 (show j < 12 by omega)) (lenl z)) (fun _ => ?_)
    refine And.intro v7 ?_
    refine ff _ (fun iv1 d1 d2 => ?_)
    refine And.intro v12 ?_
    exact nx iv1 d2
set_option maxRecDepth 100000 in
theorem m_wl_fill {K W I : Int32} (hG : GG t sg) : ∀ (r p : Nat) (X : Int32) (iv : xIv) (o5 : Option Value), p + r = cnt (vL sg) 1 → X = nI p → MV iv lg sg tw → FH iv (HH sg) p → (∀ iv', MV iv' lg sg tw → clsS iv' lg iv lg → FH iv' (HH sg) (cnt (vL sg) 1) → Wp L xs m_Mo_wells 67 [some (.ref 79), some (.int K), some (.int W), some (.int I), some (.int 0), some (.int 100000000), some (.int 1), none] [] SH RF iv' lg Q) → Wp L xs m_Mo_wells 30 [some (.ref 79), some (.int K), some (.int W), some (.int I), some (.int X), o5, none, none] [] SH RF iv lg Q
  | 0, p, X, iv, o5, hp, hX, hM, hF, kk => by
    obtain rfl : p = cnt (vL sg) 1 := by omega
    subst hX
    have k2 := kk iv hM clsS.rfl hF
    have hn := nP_m hM hG
    clear kk
    refine wgo [30, 36, 67] 100 ?_
    exact And.intro (fun _ => k2) (fun z => absurd (by rw [hn]; exact il.mpr (Int.le_refl _)) z)
  | r + 1, p, X, iv, o5, hp, hX, hM, hF, kk => by
    subst hX
    have h8 := hG.1.2.1.2
    have hp1 : p < cnt (vL sg) 1 := by omega
    have hn := nP_m hM hG
    have hlt : nI p < iv 79 3 := by rw [hn]; exact nI_lt hp1 (by omega)
    obtain ⟨kd, hkd, ek⟩ := kindOf hG hp1
    obtain ⟨hm, hhm, eh⟩ := homeOf hG hp1
    have inn : Wp L xs m_Mo_wells 36 [some (.ref 79), some (.int K), some (.int W), some (.int I), some (.int (nI p)), some (.int 0), none, none] [] SH RF iv lg Q := by
      refine m_wl_in hG rfl hp1 hkd ek hhm eh 12 0 _ iv (by omega) rfl hM hF (fun q hq => absurd hq (Nat.not_lt_zero q)) (fun iv1 J' c1 c2 c3 => ?_)
      refine wgo [30] 100 ?_
      exact m_wl_fill hG r (p + 1) _ iv1 _ (by omega) (nI_1 p) c1 c3 (fun iv' d1 d2 d3 => kk iv' d1 (d2.trans c2) d3)
    clear kk
    refine wgo [30, 36, 67] 100 ?_
    refine And.intro (fun z => absurd hlt (lenl z)) (fun _ => ?_)
    exact inn
set_option maxRecDepth 100000 in
theorem m_wl_l {I : Int32} (hG : GG t sg) (hk : 1 ≤ k ∧ k ≤ 3) (hw : w ≤ 99999) (h92 : FH iv (HH sg) (cnt (vL sg) 1)) (h3 : iv 79 3 = nI (cnt (vL sg) 1)) : ∀ (r s : Nat) (SS BE LE : Int32) (o : Option (wE × Nat)) (o7 : Option Int32), s + r = 4096 → 1 ≤ s → SS = nI s → LE = nI (lcost 100000000 o) → (∀ x c, o = some (x, c) → BE = nI x.2.1) → bst k (wCo sg w) (fun z => z.2.1 < s) o → (∀ BE' o' o6 o7, (∀ x c, o' = some (x, c) → BE' = nI x.2.1) → bst k (wCo sg w) (fun z => z ∈ wlK k) o' → Wp L xs m_Mo_wells 98 [some (.ref 79), some (.int (nI k)), some (.int (nI w)), some (.int I), some (.int BE'), some (.int (nI (lcost 100000000 o'))), o6, o7] [] SH RF iv lg Q) → Wp L xs m_Mo_wells 67 [some (.ref 79), some (.int (nI k)), some (.int (nI w)), some (.int I), some (.int BE), some (.int LE), some (.int SS), o7.map Value.int] [] SH RF iv lg Q
  | 0, s, SS, BE, LE, o, o7, hs, h1, hSS, hLE, hBE, hB, kk => by
    obtain rfl : s = 4096 := by omega
    subst hSS; subst hLE
    have k2 := fun o6 o7 => kk BE o o6 o7 hBE (bst_cg (fun z hz => ⟨fun _ => hz, fun _ => (wl_e hk hz).2.2.2.2.2.1⟩) hB)
    clear kk
    refine wgo [67, 98] 100 ?_
    exact And.intro (fun _ => k2 _ _) (fun z => absurd (by decide) z)
  | r + 1, s, SS, BE, LE, o, o7, hs, h1, hSS, hLE, hBE, hB, kk => by
    subst hSS; subst hLE
    have hs4 : s < 4096 := by omega
    have hlt : nI s < (4096 : Int32) := nI_lt (b := 4096) hs4 (by decide)
    have hlc := lc_bd hG (inf := 100000000) (by decide) hB
    have skip : bst k (wCo sg w) (fun z => z.2.1 < s + 1) o → ∀ o7 : Option Int32, Wp L xs m_Mo_wells 96 [some (.ref 79), some (.int (nI k)), some (.int (nI w)), some (.int I), some (.int BE), some (.int (nI (lcost 100000000 o))), some (.int (nI s)), o7.map Value.int] [] SH RF iv lg Q := fun hb o7 => by
      have nx := m_wl_l hG hk hw h92 h3 r (s + 1) (nI s + 1) BE _ o o7 (by omega) (by omega) (nI_1 s) rfl hBE hb kk
      clear kk
      refine wgo [67] 100 ?_
      exact nx
    by_cases ho : onesF 4096 s = k
    · obtain ⟨y, hy, ey⟩ := wl_cv hk hs4 ho
      have samerv : ∀ z, z ∈ wlK k → z.2.1 = s → z = y := fun z hz ez => by
        have a1 := wl_ah hk hz hy
        have a2 := wl_ah hk hy hz
        have self : ∀ n, ahN n n = false := fun n => by unfold ahN; rw [Nat.xor_self]; rfl
        rw [ez, ey, self] at a1 a2
        have n1 : ¬ y.2.2 < z.2.2 := fun q => by have := a1.mpr q; cases this
        have n2 : ¬ z.2.2 < y.2.2 := fun q => by have := a2.mpr q; cases this
        exact wnx_inj _ (wl_all hk).2.1 z y hz hy (by omega)
      have Bs : ∀ {o' : Option (wE × Nat)}, bst k (wCo sg w) (fun z => z.2.1 < s ∨ z = y) o' → bst k (wCo sg w) (fun z => z.2.1 < s + 1) o' := fun hb => bst_cg (fun z hz => ⟨fun q => by
          rcases q with q | q
          · omega
          · rw [q, ey]; omega, fun q => by
          by_cases c : z.2.1 = s
          · exact Or.inr (samerv z hz c)
          · exact Or.inl (by omega)⟩) hb
      have bC := wCo_bd (w := w) hG s
      have take : ∀ d, wCo sg w s = some d → (∀ x c, o = some (x, c) → d < c ∨ (d = c ∧ x.2.2 < y.2.2)) → Wp L xs m_Mo_wells 92 [some (.ref 79), some (.int (nI k)), some (.int (nI w)), some (.int I), some (.int BE), some (.int (nI (lcost 100000000 o))), some (.int (nI s)), some (.int (nI d))] [] SH RF iv lg Q := fun d hd hq => by
        have nx := m_wl_l hG hk hw h92 h3 r (s + 1) (nI s + 1) (nI s) (nI d) (some (y, d)) (some (nI d)) (by omega) (by omega) (nI_1 s) rfl (fun x c e => by cases e; rw [ey]) (Bs (bst_take hy (by rw [ey]; exact hd) hB hq)) kk
        clear kk
        refine wgo [67] 100 ?_
        exact nx
      have wo := fun Q kk => m_wellsOf (L := L) (xs := xs) (lg := lg) (Q := Q) (s := s) hG hs4 hw h92 h3 kk
      clear kk
      cases o7
      all_goals
        refine wgo [67, 92, 96, 98] 100 ?_
        refine And.intro (fun z => absurd hlt (lenl z)) (fun _ => ?_)
        refine m_ones hs4 ?_
        rw [ho]
        refine And.intro (fun z => absurd rfl z) (fun _ => ?_)
        refine wo _ ?_
        cases eC : wCo sg w s with
        | none =>
          refine And.intro (fun z => ?_) (fun z => ?_)
          · exact absurd ((nI_ltI (a := 100000000) (by decide) (by omega)).mp z) (by omega)
          · have sk := skip (Bs (bst_skip hB (Or.inl (by rw [ey]; exact eC)))) (some (nI 100000000))
            refine And.intro (fun _ => ?_) (fun _ => ?_)
            · exact sk
            · refine And.intro (fun _ => ?_) (fun z2 => absurd (by decide) z2)
              exact sk
        | some d =>
          have bd := bC d eC
          refine And.intro (fun z => ?_) (fun z => ?_)
          · have z2 := (nI_ltI (a := d) (by omega) (by omega)).mp z
            refine take d eC (fun x c e => Or.inl ?_)
            rw [e] at z2
            exact z2
          · have z2 : ¬ d < lcost 100000000 o := fun q => z (nI_lt q (by omega))
            match o, hB, hBE, hlc, z2, skip, take with
            | none, _, _, _, z2, _, _ => replace z2 : ¬ d < 100000000 := z2; omega
            | some (x, c), hB, hBE, hlc, z2, skip, take =>
              replace z2 : ¬ d < c := z2
              replace hlc : c ≤ 100000000 := hlc
              refine And.intro (fun z3 => ?_) (fun z3 => ?_)
              · refine skip (Bs (bst_skip hB (Or.inr ⟨x, c, d, rfl, by rw [ey]; exact eC, by omega, fun e => ?_⟩))) (some (nI d))
                exact absurd (by rw [e]; rfl) z3
              · have edc : d = c := (nI_eq (by omega) (by omega)).mp (Decidable.not_not.mp z3)
                refine And.intro (fun z4 => absurd ((nI_leI (a := 100000000) (b := d) (by decide) (by omega)).mp z4) (by omega)) (fun _ => ?_)
                have eBE := hBE x c rfl
                subst eBE
                have hx4 := (wl_e hk hB.1).2.2.2.2.2.1
                have ah := wl_ah hk hy hB.1
                rw [ey] at ah
                refine m_ahead hs4 hx4 (fun q => ?_) (fun q => ?_)
                · refine b1 ?_
                  refine take d eC (fun x' c' e => Or.inr ?_)
                  cases e
                  exact ⟨edc, ah.mp q⟩
                · refine b0 ?_
                  refine skip (Bs (bst_skip hB (Or.inr ⟨x, c, d, rfl, by rw [ey]; exact eC, by omega, fun _ => ?_⟩))) (some (nI d))
                  exact Nat.le_of_not_lt (fun v => q (ah.mpr v))
    · have sk := skip (bst_cg (fun z hz => ⟨fun q => by omega, fun q => by
        by_cases c : z.2.1 = s
        · exact absurd (c ▸ (wl_e hk hz).2.2.2.1) ho
        · omega⟩) hB)
      have hne : ¬ nI (onesF 4096 s) = nI k := fun z => by
        have hb : onesF 4096 s < 2 ^ 31 := by
          have : ∀ r s, onesF r s ≤ r := fun r => by
            induction r with
            | zero => intro s; exact Nat.le_refl _
            | succ r ih =>
              intro s
              by_cases h0 : s = 0
              · rw [show onesF (r + 1) s = 0 from if_pos h0]; omega
              · rw [show onesF (r + 1) s = 1 + onesF r (s &&& (s - 1)) from if_neg h0]
                have := ih (s &&& (s - 1))
                omega
          have := this 4096 s
          omega
        exact ho ((nI_eq hb (by omega)).mp z)
      clear kk skip
      cases o7
      all_goals
        refine wgo [67, 92, 96, 98] 100 ?_
        refine And.intro (fun z => absurd hlt (lenl z)) (fun _ => ?_)
        refine m_ones hs4 ?_
        refine And.intro (fun _ => ?_) (fun z => absurd hne z)
        first
        | exact sk none
        | exact sk (some _)
set_option maxRecDepth 100000 in
theorem m_nth {b i : Nat} {K W LE : Int32} (hi : i < 3) (hb : b < 4096) : ∀ (r q m res : Nat) (QQ NN : Int32), nthF r b i q m = some res → q + r ≤ 13 → m ≤ q + 1 → QQ = nI q → NN = nI m - 1 → Q (some (.int (nI res))) SH RF iv lg → Wp L xs m_Mo_wells 115 [some (.ref 79), some (.int K), some (.int W), some (.int (nI i)), some (.int (nI b)), some (.int LE), some (.int QQ), some (.int NN)] [] SH RF iv lg Q
  | 0, q, m, res, QQ, NN, h, _, _, _, _, _ => by cases h
  | r + 1, q, m, res, QQ, NN, h, hq, hm, hQ, hN, kk => by
    subst hQ; subst hN
    have cmp : (nI i ≤ nI m - 1) ↔ ¬ m ≤ i := by rw [il, nI_m1_toInt (by omega), nI_toInt (by omega)]; omega
    by_cases c : m ≤ i
    · have e : nthF (r + 1) b i q m = nthF r b i (q + 1) (m + b / 2 ^ (q + 1) % 2) := if_pos c
      rw [e] at h
      have eb : (nI b >>> ((nI q + 1) &&& 31)) &&& 1 = nI (b / 2 ^ (q + 1) % 2) := by rw [nI_1]; exact nx_b1 (k := b) (x := q + 1) (by omega) (by omega)
      have hmod : b / 2 ^ (q + 1) % 2 < 2 := Nat.mod_lt _ (by decide)
      have en : nI m - 1 + ((nI b >>> ((nI q + 1) &&& 31)) &&& 1) = nI (m + b / 2 ^ (q + 1) % 2) - 1 := by
        rw [eb]
        apply ie.mpr
        rw [nI_m1_toInt (by omega), addI] <;> rw [nI_m1_toInt (by omega), nI_toInt (by omega)] <;> omega
      have nx := m_nth (K := K) (W := W) (LE := LE) hi hb r (q + 1) _ res (nI q + 1) _ h (by omega) (by omega) (nI_1 q) en kk
      refine wgo [115] 100 ?_
      exact And.intro (fun z => absurd c (cmp.mp z)) (fun _ => nx)
    · have e : nthF (r + 1) b i q m = some q := if_neg c
      rw [e] at h
      cases h
      refine wgo [115] 100 ?_
      exact And.intro (fun _ => kk) (fun z => absurd (cmp.mpr c) z)
set_option maxRecDepth 100000 in
theorem m_wells {a b c : Int32} (hM : MV iv lg sg tw) (hG : GG t sg) (k1 : ∀ k w o, (1 ≤ k ∧ k ≤ 3) → w ≤ 99999 → a = nI k → b = nI w → okWl a b c → ¬ cnt (vL sg) 1 = 0 → bst k (wCo sg w) (fun z => z ∈ wlK k) o → ∀ iv', MV iv' lg sg tw → clsS iv' lg iv lg → Q (some (.int (wlA o c))) SH RF iv' lg) (k3 : okWl a b c → cnt (vL sg) 1 = 0 → Q (some (.int (-4))) SH RF iv lg) (k2 : ¬ okWl a b c → Q (some (.int (-1))) SH RF iv lg) : Sp L xs m_Mo_wells [.ref 79, .int a, .int b, .int c] SH RF iv lg Q := by
  have h8 := hG.1.2.1.2
  have hn := nP_m hM hG
  refine sgo [30] 100 ?_
  refine s_inI (a := 1) (b := 3) (kt := fun h1 => ?_) (kf := fun h1 => ?_)
  · refine b1 ?_
    refine s_inI (a := 0) (b := 99999) (kt := fun h2 => ?_) (kf := fun h2 => ?_)
    · refine b1 ?_
      refine s_inI (a := -1) (hb := rfl) (kt := fun h3 => ?_) (kf := fun h3 => ?_)
      · refine c1 ?_
        refine And.intro (fun z => ?_) (fun z => ?_)
        · have hne : ¬ cnt (vL sg) 1 = 0 := fun e => z (by rw [hn, e]; rfl)
          obtain ⟨k, hk, rfl⟩ := n13 h1
          obtain ⟨w, hw, rfl⟩ := n09 h2
          have kk := fun o => k1 k w o hk hw rfl rfl ⟨h1, h2, h3⟩ hne
          clear k1 k2 k3
          refine m_wl_fill hG _ 0 _ iv _ (Nat.zero_add _) rfl hM (fun p q h => absurd h (Nat.not_lt_zero p)) (fun iv1 M1 R1 F1 => ?_)
          refine m_wl_l hG hk hw F1 (nP_m M1 hG) 4095 1 _ _ _ none none (by omega) (by decide) rfl rfl (fun x c e => by cases e) (fun z hz hb => ?_) (fun BE o o6 o7 hBE B1 => ?_)
          · have := (wl_e hk hz).2.2.2.2.1
            omega
          · have k2 := kk o B1 iv1 M1 R1
            have hlc := lc_bd hG (inf := 100000000) (by decide) B1
            match o, B1, hBE, k2, hlc with
            | none, _, _, k2, _ =>
              refine wgo [115] 100 ?_
              refine And.intro (fun z => absurd z (by decide)) (fun _ => ?_)
              exact k2
            | some (x, d), B1, hBE, k2, _ =>
              have bd := wCo_bd hG x.2.1 d B1.2.2.1
              have eB := hBE x d rfl
              subst eB
              have ex := wl_e hk B1.1
              rcases m1k hk h3 with rfl | ⟨i, hi, rfl⟩
              · refine wgo [115] 100 ?_
                refine And.intro (fun _ => ?_) (fun z => absurd (nI_lt (a := d) (b := 100000000) (by omega) (by decide)) z)
                refine And.intro (fun z => absurd z (by decide)) (fun _ => ?_)
                exact k2
              · have hnn : ¬ nI i < 0 := lenl (nI_pos' (by omega))
                have e1 : (nI x.2.1 &&& 1) - 1 = nI (x.2.1 % 2) - 1 := by rw [show (1 : Int32) = nI 1 from rfl, nx_and, Nat.and_one_is_mod]
                have k3 : Q (some (.int (nI (x.1.getD i 0)))) SH RF iv1 lg := by
                  have e2 : wlA (some (x, d)) (nI i) = nI (x.1.getD i 0) := by
                    show (if nI i < 0 then nI d else nI (x.1.getD (nI i).toNatClampNeg 0)) = _
                    rw [if_neg hnn, cl]
                  rw [← e2]; exact k2
                have nx := m_nth (L := L) (xs := xs) (Q := Q) (iv := iv1) (lg := lg) (K := nI k) (W := nI w) (LE := nI d) (show i < 3 by omega) ex.2.2.2.2.2.1 13 0 (x.2.1 % 2) _ 0 _ (ex.2.2.2.2.2.2 i hi) (by omega) (by omega) rfl e1 k3
                refine wgo [115] 100 ?_
                refine And.intro (fun _ => ?_) (fun z => absurd (nI_lt (a := d) (b := 100000000) (by omega) (by decide)) z)
                refine And.intro (fun _ => ?_) (fun z => absurd (nlt hnn) z)
                exact nx
        · refine k3 ⟨h1, h2, h3⟩ ?_
          have := Decidable.not_not.mp z
          rw [hn] at this
          exact (nI_eq (b := 0) (by omega) (by decide)).mp this
      · refine c0 ?_
        exact k2 (fun z => h3 z.2.2)
    · refine b0 ?_
      exact k2 (fun z => h2 z.2.1)
  · refine b0 ?_
    exact k2 (fun z => h1 z.1)
theorem e_wells (a b c : Int32) : EQ m_SR_wells m_Mo_wells [.int a, .int b, .int c] := by
  intro L xs t iv lg Q hI ht k
  obtain ⟨sg, tw, hC, hM, hG⟩ := id hI
  refine c_wells hC hG (fun kk w o hk hw ha hb hok hne hB iv1 C1 R1 => k _ iv1 lg (fun Q2 k2 => m_wells (MV_congr R1 hM) hG (fun kk' w' o' hk' hw' ha' hb' hok' hne' hB' iv2 M2 R2 => ?_) (fun _ h => absurd h hne) (fun h => absurd hok h))) (fun hok h0 => k _ iv lg (fun Q2 k2 => m_wells hM hG (fun kk w o hk hw ha hb hok hne => absurd h0 hne) (fun _ _ => k2 _ _ (hI.wk (Nat.le_succ t))) (fun h => absurd hok h))) (fun h => k _ iv lg (fun Q2 k2 => m_wells hM hG (fun kk w o hk hw ha hb hok => absurd hok h) (fun hok => absurd hok h) (fun _ => k2 _ _ (hI.wk (Nat.le_succ t)))))
  have e1 : kk = kk' := (nI_eq (by omega) (by omega)).mp (ha.symm.trans ha')
  have e2 : w = w' := (nI_eq (by omega) (by omega)).mp (hb.symm.trans hb')
  subst e1; subst e2
  rw [← bst_uniq hk (fun z hz => hz) (fun z hz => hz) hB hB']
  exact k2 _ _ ⟨sg, tw, CX_congr R2 C1, M2, hG.mono (Nat.le_succ t)⟩
end WELLM
