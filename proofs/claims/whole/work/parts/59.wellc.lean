-- ===== wells: the class =====
def rwU (ro : List Nat) (i j : Nat) : Nat := if j < i then ro.getD j 0 else ro.getD i 0 + 1 + (j - i)
theorem nx_some {k i : Nat} {ro : List Nat} (hk : 1 ≤ k ∧ k ≤ 3) (hl : ro.length = k) (hi : i < k) (h1 : ro.getD i 0 ≠ 12 - k + i) (h2 : ∀ j, i < j → j < k → ro.getD j 0 = 12 - k + j) : ∃ ro', nxR ro = some ro' ∧ ro'.length = k ∧ ∀ j, j < k → ro'.getD j 0 = rwU ro i j := by
  have c3 : ∀ {P : Nat → Prop}, P 0 → P 1 → P 2 → ∀ j, j < 3 → P j := fun p0 p1 p2 j hj => by
    have : j = 0 ∨ j = 1 ∨ j = 2 := by omega
    rcases this with rfl | rfl | rfl
    · exact p0
    · exact p1
    · exact p2
  have c2 : ∀ {P : Nat → Prop}, P 0 → P 1 → ∀ j, j < 2 → P j := fun p0 p1 j hj => by
    have : j = 0 ∨ j = 1 := by omega
    rcases this with rfl | rfl
    · exact p0
    · exact p1
  match ro, hl with
  | [], hl => have h0 : 0 = k := hl; omega
  | a :: b :: c :: d :: l, hl => have h0 : l.length + 4 = k := hl; omega
  | [a], hl =>
    obtain rfl : k = 1 := hl.symm
    obtain rfl : i = 0 := by omega
    have g1 : a ≠ 11 := h1
    refine ⟨[a + 1], if_neg g1, rfl, fun j hj => ?_⟩
    obtain rfl : j = 0 := by omega
    rfl
  | [a, b], hl =>
    obtain rfl : k = 2 := hl.symm
    have hi2 : i = 0 ∨ i = 1 := by omega
    rcases hi2 with rfl | rfl
    · have g1 : a ≠ 10 := h1
      have g2 : b = 11 := h2 1 (by decide) (by decide)
      refine ⟨[a + 1, a + 2], (if_pos g2).trans (if_neg g1), rfl, c2 rfl rfl⟩
    · have g1 : b ≠ 11 := h1
      exact ⟨[a, b + 1], if_neg g1, rfl, c2 rfl rfl⟩
  | [a, b, c], hl =>
    obtain rfl : k = 3 := hl.symm
    have hi2 : i = 0 ∨ i = 1 ∨ i = 2 := by omega
    rcases hi2 with rfl | rfl | rfl
    · have g1 : a ≠ 9 := h1
      have g2 : b = 10 := h2 1 (by decide) (by decide)
      have g3 : c = 11 := h2 2 (by decide) (by decide)
      exact ⟨[a + 1, a + 2, a + 3], (if_pos g3).trans ((if_pos g2).trans (if_neg g1)), rfl, c3 rfl rfl rfl⟩
    · have g1 : b ≠ 10 := h1
      have g3 : c = 11 := h2 2 (by decide) (by decide)
      exact ⟨[a, b + 1, b + 2], (if_pos g3).trans (if_neg g1), rfl, c3 rfl rfl rfl⟩
    · have g1 : c ≠ 11 := h1
      exact ⟨[a, b, c + 1], if_neg g1, rfl, c3 rfl rfl rfl⟩
theorem nx_none {k : Nat} {ro : List Nat} (hk : 1 ≤ k ∧ k ≤ 3) (hl : ro.length = k) (h2 : ∀ j, j < k → ro.getD j 0 = 12 - k + j) : nxR ro = none := by
  match ro, hl with
  | [], hl => have h0 : 0 = k := hl; omega
  | [a], hl =>
    obtain rfl : k = 1 := hl.symm
    exact if_pos (h2 0 (by decide))
  | [a, b], hl =>
    obtain rfl : k = 2 := hl.symm
    exact (if_pos (h2 1 (by decide))).trans (if_pos (h2 0 (by decide)))
  | [a, b, c], hl =>
    obtain rfl : k = 3 := hl.symm
    exact (if_pos (h2 2 (by decide))).trans ((if_pos (h2 1 (by decide))).trans (if_pos (h2 0 (by decide))))
  | a :: b :: c :: d :: l, hl => have h0 : l.length + 4 = k := hl; omega
def RW (iv : xIv) (ro : List Nat) (k : Nat) : Prop := ∀ i, i < k → iv 48 i = nI (ro.getD i 0)
section WELLC
variable {L : Nat} {xs : Nat → Int32} {iv : xIv} {lg : xLg} {Q : xQ} {sg : xIv} {tw : Nat → Int64} {t : Nat} {k : Nat} {ro : List Nat}
set_option maxRecDepth 100000 in
theorem c_nx_2 {i : Nat} (hk : 1 ≤ k ∧ k ≤ 3) : ∀ (r j : Nat) (J : Int32) (iv : xIv), j + r = k → i < j → J = nI j → (∀ j', j' < j → iv 48 j' = nI (rwU ro i j')) → (∀ j, j < k → rwU ro i j < 1000) → (∀ iv', (∀ j', j' < k → iv' 48 j' = nI (rwU ro i j')) → (∀ k, k ≠ 48 → iv' k = iv k) → Q (some (.int 1)) SH RF iv' lg) → Wp L xs m_Wells_nextRow 34 [some (.ref 47), some (.int (nI k)), some (.int (nI i)), some (.int J)] [] SH RF iv lg Q
  | 0, j, J, iv, hj, hij, hJ, h48, hb, kk => by
    obtain rfl : j = k := by omega
    subst hJ
    have k2 := kk iv h48 (fun _ _ => rfl)
    clear kk
    refine wgo [34] 100 ?_
    refine And.intro (fun _ => ?_) (fun z => absurd (il.mpr (Int.le_refl _)) z)
    exact And.intro (Or.inr rfl) k2
  | r + 1, j, J, iv, hj, hij, hJ, h48, hb, kk => by
    subst hJ
    have e1 : nI j - 1 = nI (j - 1) := nI_subN (b := 1) (by omega) (by omega)
    have v1 : vp_in (nI j - 1) 3 := by rw [e1]; exact vp_N (by omega)
    have vj : vp_in (nI j) 3 := vp_N (by omega)
    have ev : iv 48 (nI j - 1).toNatClampNeg + 1 = nI (rwU ro i j) := by
      rw [e1, cl, h48 (j - 1) (by omega), nI_1]
      congr 1
      unfold rwU
      rw [if_neg (by omega), if_neg (by omega)]
      omega
    have nx : Wp L xs m_Wells_nextRow 34 [some (.ref 47), some (.int (nI k)), some (.int (nI i)), some (.int (nI j + 1))] [] SH RF (xu2 iv 48 (nI j).toNatClampNeg (iv 48 (nI j - 1).toNatClampNeg + 1)) lg Q := by
      rw [ev, cl]
      refine c_nx_2 hk r (j + 1) _ _ (by omega) (by omega) (nI_1 j) (fun j' hj' => ?_) hb (fun iv' c1 c2 => kk iv' c1 (fun k hk => (c2 k hk).trans (xu2_ne hk)))
      by_cases c : j' = j
      · rw [c, xu2_s]
      · rw [xu2_j c]; exact h48 j' (by omega)
    clear kk
    refine wgo [34] 100 ?_
    refine And.intro (fun z => absurd (nI_lt (show j < k by omega) (by omega)) (lenl z)) (fun _ => ?_)
    refine And.intro v1 ?_
    refine And.intro vj ?_
    exact nx
set_option maxRecDepth 100000 in
theorem c_nx_1 (hk : 1 ≤ k ∧ k ≤ 3) (hl : ro.length = k) (h12 : ∀ i, i < k → ro.getD i 0 < 12) (h48 : RW iv ro k) (k1 : ∀ ro' iv', nxR ro = some ro' → RW iv' ro' k → (∀ k, k ≠ 48 → iv' k = iv k) → Q (some (.int 1)) SH RF iv' lg) (k0 : nxR ro = none → Q (some (.int 0)) SH RF iv lg) : ∀ (i : Nat) (I : Int32), i ≤ k → I.toInt = (i : Int) - 1 → (∀ j, i ≤ j → j < k → ro.getD j 0 = 12 - k + j) → Wp L xs m_Wells_nextRow 4 [some (.ref 47), some (.int (nI k)), some (.int I), none] [] SH RF iv lg Q
  | 0, I, hi, hI, hj => by
    have k2 := k0 (nx_none hk hl (fun j h => hj j (Nat.zero_le _) h))
    have hneg : I < 0 := it.mpr (by rw [hI, tl0]; omega)
    clear k1 k0
    refine wgo [4] 100 ?_
    refine And.intro (fun _ => ?_) (fun z => absurd hneg z)
    refine And.intro (fun z => absurd hneg (lenl z)) (fun _ => ?_)
    exact And.intro (Or.inl rfl) k2
  | i + 1, I, hi, hI, hj => by
    have eI : I = nI i := nI_of_toInt (by omega)
    subst eI
    have hnn : ¬ nI i < 0 := lenl (nI_pos' (by omega))
    have vi : vp_in (nI i) 3 := vp_N (by omega)
    have eR : iv 48 (nI i).toNatClampNeg = nI (ro.getD i 0) := by rw [cl]; exact h48 i (by omega)
    have eK : (12 : Int32) - nI k + nI i = nI (12 - k + i) := by
      rw [show (12 : Int32) - nI k = nI (12 - k) from nI_subN (a := 12) (by omega) (by omega), ni_a]
    have hb := h12 i (by omega)
    have ec : (iv 48 (nI i).toNatClampNeg = (12 : Int32) - nI k + nI i) ↔ ro.getD i 0 = 12 - k + i := by rw [eR, eK, nI_eq (by omega) (by omega)]
    by_cases c : ro.getD i 0 = 12 - k + i
    · have nx := c_nx_1 hk hl h12 h48 k1 k0 i (nI i + (-1)) (by omega) (by rw [dm1]; exact nI_m1_toInt (by omega)) (fun j h1 h2 => by
        by_cases q : j = i
        · rw [q]; exact c
        · exact hj j (by omega) h2)
      have c' := ec.mpr c
      clear k1 k0
      refine wgo [4] 100 ?_
      refine And.intro (fun z => absurd z hnn) (fun _ => ?_)
      refine And.intro vi ?_
      exact And.intro (fun z => absurd c' z) (fun _ => nx)
    · obtain ⟨ro', n1, n2, n3⟩ := nx_some hk hl (show i < k by omega) c (fun j h1 h2 => hj j (by omega) h2)
      have bd : ∀ j, j < k → rwU ro i j < 1000 := fun j hj => by
        unfold rwU
        split
        · have := h12 j hj; omega
        · omega
      have nx : Wp L xs m_Wells_nextRow 34 [some (.ref 47), some (.int (nI k)), some (.int (nI i)), some (.int (nI i + 1))] [] SH RF (xu2 iv 48 (nI i).toNatClampNeg (iv 48 (nI i).toNatClampNeg + 1)) lg Q := by
        rw [eR, cl]
        refine c_nx_2 hk _ (i + 1) _ _ (show i + 1 + (k - (i + 1)) = k by omega) (by omega) (nI_1 i) (fun j' hj' => ?_) bd (fun iv' c1 c2 => k1 ro' iv' n1 (fun j hj => by rw [c1 j hj, n3 j hj]) (fun k hk => (c2 k hk).trans (xu2_ne hk)))
        unfold rwU
        by_cases q : j' = i
        · rw [q, xu2_s, if_neg (Nat.lt_irrefl i), nI_1, Nat.sub_self, Nat.add_zero]
        · rw [xu2_j q, if_pos (by omega)]; exact h48 j' (by omega)
      have c' : ¬ _ := fun w => c (ec.mp w)
      clear k1 k0
      refine wgo [4, 34] 100 ?_
      refine And.intro (fun z => absurd z hnn) (fun _ => ?_)
      refine And.intro vi ?_
      refine And.intro (fun _ => ?_) (fun z => absurd c' z)
      refine And.intro (fun _ => ?_) (fun z => absurd (nlt hnn) z)
      refine And.intro vi ?_
      refine And.intro vi ?_
      exact nx
set_option maxRecDepth 100000 in
theorem c_next (hk : 1 ≤ k ∧ k ≤ 3) (hl : ro.length = k) (h12 : ∀ i, i < k → ro.getD i 0 < 12) (h48 : RW iv ro k) (k1 : ∀ ro' iv', nxR ro = some ro' → RW iv' ro' k → (∀ k, k ≠ 48 → iv' k = iv k) → Q (some (.int 1)) SH RF iv' lg) (k0 : nxR ro = none → Q (some (.int 0)) SH RF iv lg) : Sp L xs m_Wells_nextRow [.ref 47, .int (nI k)] SH RF iv lg Q := by
  have nx := c_nx_1 (L := L) (xs := xs) hk hl h12 h48 k1 k0 k (nI k - 1) (Nat.le_refl _) (nI_m1_toInt (by omega)) (fun j h1 h2 => by omega)
  clear k1 k0
  refine sgo [4] 100 ?_
  exact nx
def kdP (sg : xIv) (p : Nat) : Nat := (sg 81 (7 * p + 1)).toNatClampNeg
def hmP (sg : xIv) (p : Nat) : Nat := (sg 81 (7 * p)).toNatClampNeg
noncomputable def HH (sg : xIv) (p q : Nat) : Option Nat := dst (vL sg) (kdP sg p) (hmP sg p) q
theorem HH_bd (hG : GG t sg) {p : Nat} (hp : p < cnt (vL sg) 1) (q : Nat) : oLe (HH sg p q) 2772 := fun c hc => by
  obtain ⟨hm, hhm, eh⟩ := homeOf hG hp
  unfold HH hmP at hc
  rw [eh, cl] at hc
  exact dst_bd hG.1.2.2.2.2.2.1 hhm hc
set_option maxRecDepth 100000 in
theorem c_cr_in {R p hm : Nat} {w s : Int32} (hR : isR R) (hk : k ≤ 3) (hp : p < 8) (hhm : hm < 12) {F : Nat → Option Nat} (hF : ∀ q, oLe (F q) 2772) (h9 : iv 9 p = nI hm) (h12 : ∀ i, i < k → ro.getD i 0 < 12) (h48 : RW iv ro k) (hT : ∀ q, q < 12 → iv R (12 * hm + q) = nI ((F q).getD 1000000)) : ∀ (r j : Nat) (J B : Int32), j + r = k → J = nI j → B = nI ((mnE (fun i => F (ro.getD i 0)) j).getD 1000000) → (∀ J', Wp L xs m_Wells_costOfRow 44 [some (.ref 47), some (.int (nI k)), some (.int w), some (.int s), some (.int (nI p)), some (.ref R), some (.int (nI ((mnE (fun i => F (ro.getD i 0)) k).getD 1000000))), some (.int J')] [] SH RF iv lg Q) → Wp L xs m_Wells_costOfRow 22 [some (.ref 47), some (.int (nI k)), some (.int w), some (.int s), some (.int (nI p)), some (.ref R), some (.int B), some (.int J)] [] SH RF iv lg Q
  | 0, j, J, B, hj, hJ, hB, kk => by
    obtain rfl : j = k := by omega
    subst hJ; subst hB
    have k2 := kk (nI j)
    clear kk
    refine wgo [22, 44] 100 ?_
    exact And.intro (fun _ => k2) (fun z => absurd (il.mpr (Int.le_refl _)) z)
  | r + 1, j, J, B, hj, hJ, hB, kk => by
    subst hJ; subst hB
    have vj : vp_in (nI j) 3 := vp_N (by omega)
    have v8 : vp_in (nI p) 8 := vp_N hp
    have hq := h12 j (by omega)
    have e12 : iv 9 (nI p).toNatClampNeg * (12 : Int32) + iv 48 (nI j).toNatClampNeg = nI (12 * hm + ro.getD j 0) := by rw [cl, cl, h9, h48 j (by omega), ni12', ni_a]
    have v12 : vp_in (iv 9 (nI p).toNatClampNeg * (12 : Int32) + iv 48 (nI j).toNatClampNeg) 144 := by rw [e12]; exact vp_N (by omega)
    have b1 : oLe (mnE (fun i => F (ro.getD i 0)) j) 1000000 := mnE_le j (fun e _ c hc => Nat.le_trans (hF _ c hc) (by decide))
    have b2 : oLe (F (ro.getD j 0)) 1000000 := fun c hc => Nat.le_trans (hF _ c hc) (by decide)
    have g1 := getD_le b1
    have g2 := getD_le b2
    have ev : imn (nI ((mnE (fun i => F (ro.getD i 0)) j).getD 1000000)) (iv R (iv 9 (nI p).toNatClampNeg * (12 : Int32) + iv 48 (nI j).toNatClampNeg).toNatClampNeg) = nI ((mnE (fun i => F (ro.getD i 0)) (j + 1)).getD 1000000) := by
      rw [e12, cl, hT _ hq, imn_nI (by omega) (by omega)]
      show _ = nI ((omin (mnE (fun i => F (ro.getD i 0)) j) (F (ro.getD j 0))).getD 1000000)
      rw [omin_n b1 b2]
    have nx : ∀ B : Int32, B = nI ((mnE (fun i => F (ro.getD i 0)) (j + 1)).getD 1000000) → Wp L xs m_Wells_costOfRow 22 [some (.ref 47), some (.int (nI k)), some (.int w), some (.int s), some (.int (nI p)), some (.ref R), some (.int B), some (.int (nI j + 1))] [] SH RF iv lg Q := fun B hB => c_cr_in hR hk hp hhm hF h9 h12 h48 hT r (j + 1) _ B (by omega) (nI_1 j) hB kk
    have n2 := nx _ ev
    have hlt : nI j < nI k := nI_lt (by omega) (by omega)
    clear kk nx ev hT e12
    rcases hR with rfl | rfl | rfl | rfl
    all_goals
      refine wgo [22, 44] 100 ?_
      refine And.intro (fun z => absurd hlt (lenl z)) (fun _ => ?_)
      refine And.intro v8 ?_
      refine And.intro vj ?_
      refine And.intro v12 ?_
      exact n2
set_option maxRecDepth 100000 in
theorem c_cr_out {w : Nat} (hG : GG t sg) (hk : k ≤ 3) (hw : w ≤ 99999) (h12 : ∀ i, i < k → ro.getD i 0 < 12) : ∀ (r p s : Nat) (X S : Int32) (iv : xIv) (o : Option (Nat × Int32 × Int32)), p + r = cnt (vL sg) 1 → s ≤ 2772 * p → X = nI p → S = nI s → (∀ q, o = some q → q.1 < 4) → CX iv lg sg tw → RW iv ro k → (∀ iv', CX iv' lg sg tw → refS iv' lg iv lg → (∀ k, (k < 37 ∨ 43 ≤ k) → iv' k = iv k) → Q (some (.int (nI ((coR (nrR (HH sg) ro k) w r p s).getD 1000000)))) SH RF iv' lg) → Wp L xs m_Wells_costOfRow 4 [some (.ref 47), some (.int (nI k)), some (.int (nI w)), some (.int S), some (.int X), o.map (fun q => Value.ref (39 + q.1)), o.map (fun q => Value.int q.2.1), o.map (fun q => Value.int q.2.2)] [] SH RF iv lg Q
  | 0, p, s, X, S, iv, o, hp, hs, hX, hS, ho, hC, h48, kk => by
    obtain rfl : p = cnt (vL sg) 1 := by omega
    subst hX; subst hS
    have k2 := kk iv hC refS.rfl (fun _ _ => rfl)
    have hn := nP_c hC hG
    clear kk
    refine wgo [4] 100 ?_
    exact And.intro (fun _ => k2) (fun z => absurd (by rw [hn]; exact il.mpr (Int.le_refl _)) z)
  | r + 1, p, s, X, S, iv, o, hp, hs, hX, hS, ho, hC, h48, kk => by
    subst hX; subst hS
    have h8 := hG.1.2.1.2
    have hp1 : p < cnt (vL sg) 1 := by omega
    have hn := nP_c hC hG
    have hlt : nI p < iv 8 0 := by rw [hn]; exact nI_lt hp1 (by omega)
    have v8 : vp_in (nI p) 8 := vp_N (by omega)
    obtain ⟨kd, hkd, ek⟩ := kindOf hG hp1
    obtain ⟨hm, hhm, eh⟩ := homeOf hG hp1
    have ei : iv 10 (nI p).toNatClampNeg = nI kd := by rw [cl, (hC.rd hp1).2.1, ek]
    have cc := fun Q => c_costsOf (L := L) (xs := xs) (Q := Q) hkd hC hG
    rw [← ei] at cc
    have bH := HH_bd hG hp1
    have eH : ∀ q, HH sg p q = dst (vL sg) kd hm q := fun q => by unfold HH kdP hmP; rw [ek, eh, cl, cl]
    have bN : oLe (nrR (HH sg) ro k p) 2772 := mnE_le k (fun e _ => bH _)
    have fin : ∀ iv', CX iv' lg sg tw → refS iv' lg iv lg → TD iv' (vL sg) kd → (∀ k, (k < 37 ∨ 43 ≤ k) → iv' k = iv k) → ∀ o5 o6 o7 : Option Value, Wp L xs m_Wells_costOfRow 17 [some (.ref 47), some (.int (nI k)), some (.int (nI w)), some (.int (nI s)), some (.int (nI p)), o5, o6, o7] [.ref (39 + kd)] SH RF iv' lg Q := fun iv1 C1 R1 T1 d1 o5 o6 o7 => by
      have R48 : RW iv1 ro k := fun i hi => by rw [d1 48 (by omega)]; exact h48 i hi
      have at44 : ∀ J', Wp L xs m_Wells_costOfRow 44 [some (.ref 47), some (.int (nI k)), some (.int (nI w)), some (.int (nI s)), some (.int (nI p)), some (.ref (39 + kd)), some (.int (nI ((mnE (fun i => HH sg p (ro.getD i 0)) k).getD 1000000))), some (.int J')] [] SH RF iv1 lg Q := fun J' => by
        have ec : coR (nrR (HH sg) ro k) w (r + 1) p s = (match nrR (HH sg) ro k p with | some c => if c ≤ w then coR (nrR (HH sg) ro k) w r (p + 1) (s + c) else none | none => none) := rfl
        cases eN : nrR (HH sg) ro k p with
        | none =>
          rw [eN] at ec
          have eN' : mnE (fun i => HH sg p (ro.getD i 0)) k = none := eN
          rw [eN']
          have k2 := kk iv1 C1 R1 d1
          rw [ec] at k2
          clear kk
          refine wgo [4] 100 ?_
          refine And.intro (fun z => absurd ((nI_leI (a := 1000000) (b := w) (by decide) (by omega)).mp z) (by omega)) (fun _ => ?_)
          exact k2
        | some c =>
          have bc := bN c eN
          rw [eN] at ec
          dsimp only at ec
          have eN' : mnE (fun i => HH sg p (ro.getD i 0)) k = some c := eN
          rw [eN']
          by_cases hcw : c ≤ w
          · rw [if_pos hcw] at ec
            rw [ec] at kk
            have nx := fun SS hSS J'' => c_cr_out hG hk hw h12 r (p + 1) (s + c) (nI p + 1) SS iv1 (some (kd, nI c, J'')) (by omega) (by omega) (nI_1 p) hSS (fun q hq => by cases hq; exact hkd) C1 R48 (fun iv' g1 g2 g3 => kk iv' g1 (g2.trans R1) (fun k hk => (g3 k hk).trans (d1 k hk)))
            have nx2 := nx (nI s + nI c) (ni_a s c) J'
            clear kk nx
            refine wgo [4] 100 ?_
            refine And.intro (fun _ => ?_) (fun z => absurd ((nI_leI (by omega) (by omega)).mpr hcw) z)
            exact nx2
          · rw [if_neg hcw] at ec
            have k2 := kk iv1 C1 R1 d1
            rw [ec] at k2
            clear kk
            refine wgo [4] 100 ?_
            refine And.intro (fun z => absurd ((nI_leI (a := c) (b := w) (by omega) (by omega)).mp z) hcw) (fun _ => ?_)
            exact k2
      have inn := c_cr_in (L := L) (xs := xs) (Q := Q) (iv := iv1) (lg := lg) (ro := ro) (w := nI w) (s := nI s) (R := 39 + kd) (show isR (39 + kd) by unfold isR; omega) hk (show p < 8 by omega) hhm (F := fun q => HH sg p q) bH ((C1.rd hp1).1.trans eh) h12 R48 (fun q hq => by rw [eH q]; exact T1 hm q hhm hq) k 0 0 1000000 (Nat.zero_add k) rfl rfl at44
      clear kk at44
      refine wgo [22] 100 ?_
      exact inn
    clear kk
    have ho5 : o = none ∨ ∃ a b, o = some (0, a, b) ∨ o = some (1, a, b) ∨ o = some (2, a, b) ∨ o = some (3, a, b) := by
      cases o with
      | none => exact Or.inl rfl
      | some q =>
        obtain ⟨q, a, b⟩ := q
        have := ho _ rfl
        dsimp only at this
        have h4 : q = 0 ∨ q = 1 ∨ q = 2 ∨ q = 3 := by omega
        refine Or.inr ⟨a, b, ?_⟩
        rcases h4 with rfl | rfl | rfl | rfl <;> simp
    rcases ho5 with rfl | ⟨a, b, rfl | rfl | rfl | rfl⟩
    all_goals
      refine wgo [4, 17] 100 ?_
      refine And.intro (fun z => absurd hlt (lenl z)) (fun _ => ?_)
      refine And.intro v8 ?_
      refine cc _ (fun iv' d1 d2 d3 d4 => ?_)
      exact fin iv' d1 d2 d3 d4 _ _ _
set_option maxRecDepth 100000 in
theorem c_costRow {w : Nat} (hG : GG t sg) (hk : k ≤ 3) (hw : w ≤ 99999) (h12 : ∀ i, i < k → ro.getD i 0 < 12) (hC : CX iv lg sg tw) (h48 : RW iv ro k) (kk : ∀ iv', CX iv' lg sg tw → refS iv' lg iv lg → (∀ k, (k < 37 ∨ 43 ≤ k) → iv' k = iv k) → Q (some (.int (nI ((coR (nrR (HH sg) ro k) w (cnt (vL sg) 1) 0 0).getD 1000000)))) SH RF iv' lg) : Sp L xs m_Wells_costOfRow [.ref 47, .int (nI k), .int (nI w)] SH RF iv lg Q := by
  have nx := c_cr_out (L := L) (xs := xs) (ro := ro) hG hk hw h12 _ 0 0 0 0 iv none (Nat.zero_add _) (Nat.zero_le _) rfl rfl (fun q hq => by cases hq) hC h48 kk
  clear kk
  refine sgo [4] 100 ?_
  exact nx
end WELLC
