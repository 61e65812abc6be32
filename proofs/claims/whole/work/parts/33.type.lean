-- ===== type =====
/-- a byte of a long -/
def bN (w : Int64) (x : Int32) : Nat := (w >>> ((8 * x).toInt64 &&& 63)).toBitVec.toNat % 256
theorem bN_lt {w : Int64} {x : Int32} : bN w x < 256 := Nat.mod_lt _ (by decide)
theorem nx_and2 (a b : Nat) : nI a &&& nI b = nI (a &&& b) := by
  apply Int32.toBitVec_inj.1
  show BitVec.ofNat 32 a &&& BitVec.ofNat 32 b = BitVec.ofNat 32 (a &&& b)
  apply BitVec.eq_of_getLsbD_eq
  intro i hi
  simp [hi]
theorem bN_c (y : Int64) : y.toInt32 &&& 255 = nI (y.toBitVec.toNat % 256) := by
  have e : y.toInt32 = nI y.toBitVec.toNat := by
    apply Int32.toBitVec_inj.1
    rw [Int64.toBitVec_toInt32]
    show _ = BitVec.ofNat 32 y.toBitVec.toNat
    apply BitVec.eq_of_toNat_eq
    rw [BitVec.toNat_ofNat, BitVec.signExtend_eq_setWidth_of_le _ (by decide), BitVec.toNat_setWidth]
  rw [e]
  show nI _ &&& nI 255 = _
  rw [nx_and2, show (255 : Nat) = 2 ^ 8 - 1 from rfl, Nat.and_two_pow_sub_one_eq_mod]
theorem bN_m (y : Int64) : y &&& 255 = (nI (y.toBitVec.toNat % 256)).toInt64 := by
  rw [nI_l (by have := Nat.mod_lt y.toBitVec.toNat (show 0 < 256 by decide); omega)]
  apply Int64.toBitVec_inj.1
  rw [Int64.toBitVec_and]
  apply BitVec.eq_of_toNat_eq
  show (y.toBitVec &&& 255#64).toNat = (BitVec.ofNat 64 _).toNat
  rw [BitVec.toNat_and, BitVec.toNat_ofNat, BitVec.toNat_ofNat, show 255 % 2 ^ 64 = 2 ^ 8 - 1 from rfl, Nat.and_two_pow_sub_one_eq_mod]
  have := Nat.mod_lt y.toBitVec.toNat (show 0 < 256 by decide)
  omega
theorem bN_ch {n : Nat} (h : n < 256) : vp_nar .char ((nI n).toUInt32 % 65536).toInt32 = nI n := by
  rw [pk_vc, pk_char]
  show nI ((BitVec.ofNat 32 n).toNat % 65536) = nI n
  rw [BitVec.toNat_ofNat]
  congr 1
  omega
theorem toI32_l {n : Nat} (h : n < 2 ^ 31) : (nI n).toInt64.toInt32 = nI n := by rw [nI_l h, lN_i]
section TYPE
variable {L : Nat} {xs : Nat → Int32} {iv : xIv} {lg : xLg} {Q : xQ} {sg : xIv} {tw : Nat → Int64} {t : Nat}
theorem vL_tp {sg' : xIv} (h1 : ∀ k, k ≠ 79 → k ≠ 86 → sg' k = sg k) (h2 : ∀ j, j ≠ 12 → sg' 79 j = sg 79 j) : vL sg' = vL sg ∧ vK sg' = vK sg := by
  constructor
  · funext r j
    unfold vL
    rw [h2 1 (by decide), h2 3 (by decide), h2 8 (by decide), h2 6 (by decide), h2 9 (by decide), h1 80 (by decide) (by decide), h1 81 (by decide) (by decide), h1 82 (by decide) (by decide), h1 83 (by decide) (by decide), h1 84 (by decide) (by decide)]
  · funext r j
    unfold vK
    rw [h1 96 (by decide) (by decide), h1 97 (by decide) (by decide)]
/-- the tape alone changes -/
theorem CX.tape {iv' sg' : xIv} (hC : CX iv lg sg tw) (h1 : ∀ k, k ≠ 79 → k ≠ 86 → sg' k = sg k) (h2 : ∀ j, j ≠ 12 → sg' 79 j = sg 79 j) (hr : ∀ k, k ≠ 53 → k ≠ 54 → k < 79 → iv' k = iv k) (hT : TP iv' sg') : CX iv' lg sg' tw := by
  obtain ⟨e1, e2⟩ := vL_tp h1 h2
  obtain ⟨h, ⟨a1, a2, a3⟩, hrd, htp, hst⟩ := hC
  refine ⟨by rw [e1]; exact CW_congr (fun i hi => hr _ (by omega) (by omega) (by omega)) h, ⟨?_, ?_, fun z => ?_⟩, by rw [e1]; exact RD_congr (fun k a b => hr k (by omega) (by omega) (by omega)) hrd, hT, hst.keep (fun k a b => hr k (by omega) (by omega) (by omega)) (fun _ _ _ => rfl) (h1 98 (by decide) (by decide)) (h1 99 (by decide) (by decide))⟩
  · rw [hr 0 (by decide) (by decide) (by decide), h2 24 (by decide)]; exact a1
  · rw [h2 24 (by decide)]; exact a2
  · rw [h2 24 (by decide)] at z
    rw [e2]
    exact CW_congr (fun i hi => hr _ (by omega) (by omega) (by omega)) (a3 z)
theorem GG.tape {sg' : xIv} (hG : GG t sg) (h1 : ∀ k, k ≠ 79 → k ≠ 86 → sg' k = sg k) (h2 : ∀ j, j ≠ 12 → sg' 79 j = sg 79 j) : GG t sg' := by
  obtain ⟨e1, e2⟩ := vL_tp h1 h2
  exact ⟨by rw [e1]; exact hG.1, fun z => by rw [e2]; exact hG.2 (by rw [h2 24 (by decide)] at z; exact z)⟩
def tpN (sg : xIv) : Nat := (sg 79 12).toNatClampNeg
def ap1 (sg : xIv) (x : Int32) : xIv := xu2 (xu2 sg 86 (tpN sg) x) 79 12 (nI (tpN sg + 1))
def apR (w : Int64) : Nat → xIv → xIv
  | 0, s => s
  | r + 1, s => apR w r (ap1 s (nI (bN w (nI r))))
abbrev allB (w : Int64) (n : Nat) : Prop := ∀ i, i < n → 32 ≤ bN w (nI i) ∧ bN w (nI i) ≤ 126
def opTy (sg : xIv) (w : Int64) (x : Int32) : Int32 × xIv := if (1 ≤ x ∧ x ≤ 8) ∧ allB w x.toNatClampNeg then (if tpN sg + x.toNatClampNeg ≤ 160 then (nI (tpN sg + x.toNatClampNeg), apR w x.toNatClampNeg sg) else (-3, sg)) else (-1, sg)
theorem CX.tn (hC : CX iv lg sg tw) : tpN sg ≤ 160 ∧ iv 53 1 = nI (tpN sg) ∧ sg 79 12 = nI (tpN sg) := by
  obtain ⟨n, h1, h2, h3, -⟩ := hC.2.2.2.1
  have e : tpN sg = n := by unfold tpN; rw [h3, cl]
  rw [e]
  exact ⟨h1, h2, h3⟩
theorem ap1_k {x : Int32} : (∀ k, k ≠ 79 → k ≠ 86 → ap1 sg x k = sg k) ∧ ∀ j, j ≠ 12 → ap1 sg x 79 j = sg 79 j := by
  unfold ap1
  exact ⟨fun k a b => by rw [xu2_ne a, xu2_ne b], fun j hj => by rw [xu2_j hj, xu2_k (by decide)]⟩
theorem ap1_n {x : Int32} (h : tpN sg < 160) : tpN (ap1 sg x) = tpN sg + 1 := by
  show (ap1 sg x 79 12).toNatClampNeg = _
  unfold ap1
  rw [xu2_s, cl]
theorem CX.ap (hC : CX iv lg sg tw) {b : Nat} (h : tpN sg < 160) (hb : 32 ≤ b ∧ b ≤ 126) : CX (xu2 (xu2 iv 54 (tpN sg) (nI b)) 53 1 (nI (tpN sg + 1))) lg (ap1 sg (nI b)) tw := by
  refine hC.tape ap1_k.1 ap1_k.2 (fun k a b _ => by rw [xu2_ne a, xu2_ne b]) ?_
  obtain ⟨n, h1, h2, h3, h4, h5⟩ := hC.2.2.2.1
  have e : tpN sg = n := by unfold tpN; rw [h3, cl]
  unfold ap1
  rw [e] at h ⊢
  refine ⟨n + 1, by omega, xu2_s, xu2_s, fun j hj => ?_, fun j hj => ?_⟩
  · rw [xu2_k (k := 53) (by decide), xu2_k (k := 79) (by decide)]
    by_cases ej : j = n
    · rw [ej, xu2_s, xu2_s, nI_toInt (by omega)]
      exact ⟨rfl, by omega, by omega⟩
    · rw [xu2_j ej, xu2_j ej]
      exact h4 j (by omega)
  · rw [xu2_k (by decide), xu2_k (by decide)]
    exact h5 j hj
set_option maxRecDepth 100000 in
theorem s_byteOf {sh : xSh} {rf : xRf} {w : Int64} {x : Int32} (k : Q (some (.int (nI (bN w x)))) sh rf iv lg) : Sp L xs m_Tape_byteOf [.long w, .int x] sh rf iv lg Q := by
  refine sgo [] 100 ?_
  exact qv k (bN_c _)
theorem n8 {b : Nat} (hb : b < 256) : ((32 : Int32) ≤ nI b ∧ nI b ≤ (126 : Int32)) ↔ (32 ≤ b ∧ b ≤ 126) := by
  rw [il, il, nI_toInt (by omega), show (32 : Int32).toInt = 32 by decide, show (126 : Int32).toInt = 126 by decide]
  omega
set_option maxRecDepth 100000 in
theorem s_canHold_l {sh : xSh} {rf : xRf} {w : Int64} {n : Nat} (hn : n ≤ 8) (kt : allB w n → Q (some (.int 1)) sh rf iv lg) (kf : ¬ allB w n → Q (some (.int 0)) sh rf iv lg) : ∀ (r i : Nat) (x : Int32), i + r = n → x = nI i → allB w i → Wp L xs m_Tape_canHold 2 [some (.long w), none, some (.int (nI n)), some (.int x)] [] sh rf iv lg Q
  | 0, i, x, h, hx, ha => by
    obtain rfl : i = n := by omega
    subst hx
    refine wgo [2] 100 ?_
    exact And.intro (fun _ => And.intro (Or.inr rfl) (kt ha)) (fun z => absurd (il.mpr (Int.le_refl _)) z)
  | r + 1, i, x, h, hx, ha => by
    subst hx
    refine wgo [2] 100 ?_
    refine And.intro (fun z => absurd (nI_lt (show i < n by omega) (by omega)) (lenl z)) (fun _ => ?_)
    refine s_byteOf ?_
    refine s_within (fun h2 => ?_) (fun h2 => ?_)
    · refine c1 ?_
      refine s_canHold_l hn kt kf r (i + 1) _ (by omega) (nI_1 i) (fun j hj => ?_)
      by_cases e : j = i
      · rw [e]; exact (n8 bN_lt).mp h2
      · exact ha j (by omega)
    · refine c0 ?_
      exact And.intro (Or.inl rfl) (kf (fun z => h2 ((n8 bN_lt).mpr (z i (by omega)))))
theorem s_canHold {sh : xSh} {rf : xRf} {w : Int64} {n : Nat} (hn : n ≤ 8) (kt : allB w n → Q (some (.int 1)) sh rf iv lg) (kf : ¬ allB w n → Q (some (.int 0)) sh rf iv lg) : Sp L xs m_Tape_canHold [.long w, .int (nI n)] sh rf iv lg Q := by
  refine sgo [2] 100 ?_
  exact s_canHold_l hn kt kf n 0 _ (by omega) rfl (fun j hj => absurd hj (Nat.not_lt_zero j))
theorem dm1 (x : Int32) : x + (-1) = x - 1 := by rw [Int32.sub_eq_add_neg]
theorem m1lt : (nI 0 - 1) < 0 := by decide
set_option maxRecDepth 100000 in
theorem s_append_l {w : Int64} {n : Nat} (ha : allB w n) (hn : n ≤ 8) {T : Nat} : ∀ (r : Nat) (x : Int32) (iv sg : xIv), r ≤ n → x = nI r - 1 → tpN sg + r = T → T ≤ 160 → CX iv lg sg tw → (∀ iv', CX iv' lg (apR w r sg) tw → refS iv' lg iv lg → Q (some (.int (nI T))) SH RF iv' lg) → Wp L xs m_Tape_append 4 [some (.ref 53), some (.long w), none, some (.int (nI n)), some (.int x)] [] SH RF iv lg Q
  | 0, x, iv, sg, hr, hx, hT, h160, hC, k => by
    subst hx
    refine wgo [4] 100 ?_
    refine And.intro (fun _ => ?_) (fun z => absurd m1lt z)
    exact qv (k iv hC refS.rfl) (hC.tn.2.1.trans (by rw [show tpN sg = T by omega]))
  | r + 1, x, iv, sg, hr, hx, hT, h160, hC, k => by
    rw [nI_pred] at hx
    subst hx
    obtain ⟨a1, a2, a3⟩ := hC.tn
    have hv : vp_in (iv 53 1) 160 := by rw [a2]; exact vp_N (by omega)
    refine wgo [4] 100 ?_
    refine And.intro (fun z => absurd z (nI_pos (by omega))) (fun _ => ?_)
    refine s_byteOf ?_
    refine And.intro hv ?_
    have C1 := hC.ap (b := bN w (nI r)) (by omega) (ha r (by omega))
    have e : xu2 (xu2 iv 54 (iv 53 1).toNatClampNeg (vp_nar .char ((nI (bN w (nI r))).toUInt32 % 65536).toInt32)) 53 1 (xu2 iv 54 (iv 53 1).toNatClampNeg (vp_nar .char ((nI (bN w (nI r))).toUInt32 % 65536).toInt32) 53 1 + 1) = xu2 (xu2 iv 54 (tpN sg) (nI (bN w (nI r)))) 53 1 (nI (tpN sg + 1)) := by
      rw [xu2_k (k := 54) (k' := 53) (by decide), a2, cl, nI_1, bN_ch bN_lt]
    rw [← e] at C1
    exact s_append_l ha hn r _ _ (ap1 sg (nI (bN w (nI r)))) (by omega) (dm1 _) (by rw [ap1_n (by omega)]; omega) h160 C1 (fun iv' c1 c2 => k iv' c1 (c2.trans ((refS.rfl.up (by decide)).up (by decide))))
set_option maxRecDepth 100000 in
theorem c_type {w : Int64} {x : Int32} (hC : CX iv lg sg tw) (k : ∀ iv', CX iv' lg (opTy sg w x).2 tw → refS iv' lg iv lg → Q (some (.int (opTy sg w x).1)) SH RF iv' lg) : Sp L xs m_SR_type [.ref 0, .long w, .int x] SH RF iv lg Q := by
  have kb : ¬ ((1 ≤ x ∧ x ≤ 8) ∧ allB w x.toNatClampNeg) → Q (some (.int (-1))) SH RF iv lg := fun h => by
    have e : opTy sg w x = (-1, sg) := if_neg h
    rw [e] at k
    exact k iv hC refS.rfl
  obtain ⟨a1, a2, a3⟩ := hC.tn
  refine sgo [] 100 ?_
  refine s_within (fun h1 => ?_) (fun h1 => ?_)
  · refine b1 ?_
    obtain ⟨n, hn, rfl⟩ := nI_of2 (x := x) (M := 8) (n := 8) (by decide) (lenl (il.mpr (by have := il.mp h1.1; rw [tl1] at this; rw [tl0]; omega))) h1.2
    have en : (nI n).toNatClampNeg = n := cl
    refine s_canHold hn (fun h2 => ?_) (fun h2 => ?_)
    · refine c1 ?_
      refine And.intro (fun h3 => ?_) (fun h3 => ?_)
      · rw [a2, ni_a] at h3
        have h3 : tpN sg + n ≤ 160 := (nI_leI (b := 160) (by omega) (by decide)).mp h3
        have e : opTy sg w (nI n) = (nI (tpN sg + n), apR w n sg) := by unfold opTy; rw [en, if_pos ⟨h1, h2⟩, if_pos h3]
        rw [e] at k
        refine sgo [4] 100 ?_
        exact s_append_l h2 hn n _ iv sg (Nat.le_refl n) rfl rfl h3 hC k
      · rw [a2, ni_a] at h3
        have h3 : ¬ tpN sg + n ≤ 160 := fun z => h3 ((nI_leI (b := 160) (by omega) (by decide)).mpr z)
        have e : opTy sg w (nI n) = (-3, sg) := by unfold opTy; rw [en, if_pos ⟨h1, h2⟩, if_neg h3]
        rw [e] at k
        exact k iv hC refS.rfl
    · refine c0 ?_
      exact kb (fun z => h2 (by have := z.2; rw [en] at this; exact this))
  · refine b0 ?_
    exact kb (fun z => h1 z.1)
set_option maxRecDepth 100000 in
theorem m_type_2 {w : Int64} {n : Nat} (ha : allB w n) (hn : n ≤ 8) {T : Nat} : ∀ (r : Nat) (x : Int32) (iv sg : xIv), r ≤ n → x = nI r - 1 → tpN sg + r = T → T ≤ 160 → sg 79 12 = nI (tpN sg) → MV iv lg sg tw → (∀ iv', MV iv' lg (apR w r sg) tw → clsS iv' lg iv lg → Q (some (.int (nI T))) SH RF iv' lg) → Wp L xs m_Mo_type 41 [some (.ref 79), some (.long w), none, some (.int (nI n)), some (.int x)] [] SH RF iv lg Q
  | 0, x, iv, sg, hr, hx, hT, h160, h12, hM, k => by
    subst hx
    refine wgo [41] 100 ?_
    refine And.intro (fun _ => ?_) (fun z => absurd m1lt z)
    exact qv (k iv hM clsS.rfl) (hM.1.2.2.2.2.2.1.trans (h12.trans (by rw [show tpN sg = T by omega])))
  | r + 1, x, iv, sg, hr, hx, hT, h160, h12, hM, k => by
    rw [nI_pred] at hx
    subst hx
    have a2 : iv 79 12 = nI (tpN sg) := hM.1.2.2.2.2.2.1.trans h12
    have hv : vp_in (iv 79 12) 160 := by rw [a2]; exact vp_N (by omega)
    refine wgo [41] 100 ?_
    refine And.intro (fun z => absurd z (nI_pos (by omega))) (fun _ => ?_)
    refine And.intro hv ?_
    have M1 : MV (xu2 (xu2 iv 86 (tpN sg) (nI (bN w (nI r)))) 79 12 (nI (tpN sg + 1))) lg (ap1 sg (nI (bN w (nI r)))) tw := (hM.up _ _ _).up _ _ _
    have e : xu2 (xu2 iv 86 (iv 79 12).toNatClampNeg ((w >>> ((8 * nI r).toInt64 &&& 63)) &&& 255).toInt32) 79 12 (xu2 iv 86 (iv 79 12).toNatClampNeg ((w >>> ((8 * nI r).toInt64 &&& 63)) &&& 255).toInt32 79 12 + 1) = xu2 (xu2 iv 86 (tpN sg) (nI (bN w (nI r)))) 79 12 (nI (tpN sg + 1)) := by
      rw [xu2_k (k := 86) (k' := 79) (by decide), a2, cl, nI_1, bN_m, toI32_l (by have := bN_lt (w := w) (x := nI r); unfold bN at this; omega)]
      rfl
    rw [← e] at M1
    exact m_type_2 ha hn r _ _ (ap1 sg (nI (bN w (nI r)))) (by omega) (dm1 _) (by rw [ap1_n (by omega)]; omega) h160 (by rw [ap1_n (by omega)]; unfold ap1; rw [xu2_s]) M1 (fun iv' c1 c2 => k iv' c1 (c2.trans ((clsS.rfl.up (by decide)).up (by decide))))
set_option maxRecDepth 100000 in
theorem m_type_1 {w : Int64} {n : Nat} (hn : n ≤ 8) (kt : allB w n → ∀ o, Wp L xs m_Mo_type 29 [some (.ref 79), some (.long w), none, some (.int (nI n)), o] [] SH RF iv lg Q) (kf : ¬ allB w n → Q (some (.int (-1))) SH RF iv lg) : ∀ (r : Nat) (x : Int32), r ≤ n → x = nI r - 1 → (∀ i, r ≤ i → i < n → 32 ≤ bN w (nI i) ∧ bN w (nI i) ≤ 126) → Wp L xs m_Mo_type 12 [some (.ref 79), some (.long w), none, some (.int (nI n)), some (.int x)] [] SH RF iv lg Q
  | 0, x, hr, hx, ha => by
    subst hx
    refine wgo [12, 29] 100 ?_
    exact And.intro (fun _ => kt (fun i hi => ha i (Nat.zero_le _) hi) _) (fun z => absurd m1lt z)
  | r + 1, x, hr, hx, ha => by
    rw [nI_pred] at hx
    subst hx
    refine wgo [12, 29] 100 ?_
    refine And.intro (fun z => absurd z (nI_pos (by omega))) (fun _ => ?_)
    have e : (w >>> ((8 * nI r).toInt64 &&& 63)) &&& 255 = (nI (bN w (nI r))).toInt64 := bN_m _
    have hS : ∀ Q2 : xQ, (((32 : Int32) ≤ nI (bN w (nI r)) ∧ nI (bN w (nI r)) ≤ (126 : Int32)) → Q2 (some (.int 1)) SH RF iv lg) → (¬ ((32 : Int32) ≤ nI (bN w (nI r)) ∧ nI (bN w (nI r)) ≤ (126 : Int32)) → Q2 (some (.int 0)) SH RF iv lg) → Sp L xs m_Mo_in [.long ((w >>> ((8 * nI r).toInt64 &&& 63)) &&& 255), .long 32, .long 126] SH RF iv lg Q2 := fun Q2 k1 k2 => by
      rw [e]
      exact s_inI (a := 32) (b := 126) (kt := k1) (kf := k2)
    refine hS _ (fun h2 => ?_) (fun h2 => ?_)
    · refine c1 ?_
      refine m_type_1 hn kt kf r _ (by omega) (dm1 _) (fun i h3 h4 => ?_)
      by_cases e : i = r
      · rw [e]; exact (n8 bN_lt).mp h2
      · exact ha i (by omega) h4
    · refine c0 ?_
      exact kf (fun z => h2 ((n8 bN_lt).mpr (z r (by omega))))
set_option maxRecDepth 100000 in
theorem m_type {w : Int64} {x : Int32} (hT : tpN sg ≤ 160 ∧ sg 79 12 = nI (tpN sg)) (hM : MV iv lg sg tw) (k : ∀ iv', MV iv' lg (opTy sg w x).2 tw → clsS iv' lg iv lg → Q (some (.int (opTy sg w x).1)) SH RF iv' lg) : Sp L xs m_Mo_type [.ref 79, .long w, .int x] SH RF iv lg Q := by
  have kb : ¬ ((1 ≤ x ∧ x ≤ 8) ∧ allB w x.toNatClampNeg) → Q (some (.int (-1))) SH RF iv lg := fun h => by
    have e : opTy sg w x = (-1, sg) := if_neg h
    rw [e] at k
    exact k iv hM clsS.rfl
  have a2 : iv 79 12 = nI (tpN sg) := hM.1.2.2.2.2.2.1.trans hT.2
  refine sgo [12] 100 ?_
  refine s_inI (a := 1) (b := 8) (kt := fun h1 => ?_) (kf := fun h1 => ?_)
  · refine c1 ?_
    obtain ⟨n, hn, rfl⟩ := nI_of2 (x := x) (M := 8) (n := 8) (by decide) (lenl (il.mpr (by have := il.mp h1.1; rw [tl1] at this; rw [tl0]; omega))) h1.2
    have en : (nI n).toNatClampNeg = n := cl
    refine m_type_1 hn (fun h2 o => ?_) (fun h2 => kb (fun z => h2 (by have := z.2; rw [en] at this; exact this))) n _ (Nat.le_refl n) rfl (fun i h3 h4 => absurd h3 (by omega))
    refine wgo [41] 100 ?_
    refine And.intro (fun h3 => ?_) (fun h3 => ?_)
    · rw [a2, ni_a] at h3
      have h3 : tpN sg + n ≤ 160 := (nI_leI (b := 160) (by omega) (by decide)).mp h3
      have e : opTy sg w (nI n) = (nI (tpN sg + n), apR w n sg) := by unfold opTy; rw [en, if_pos ⟨h1, h2⟩, if_pos h3]
      rw [e] at k
      exact m_type_2 h2 hn n _ iv sg (Nat.le_refl n) rfl rfl h3 hT.2 hM k
    · rw [a2, ni_a] at h3
      have h3 : ¬ tpN sg + n ≤ 160 := fun z => h3 ((nI_leI (b := 160) (by omega) (by decide)).mpr z)
      have e : opTy sg w (nI n) = (-3, sg) := by unfold opTy; rw [en, if_pos ⟨h1, h2⟩, if_neg h3]
      rw [e] at k
      exact k iv hM clsS.rfl
  · refine c0 ?_
    exact kb (fun z => h1 z.1)
theorem apR_k (w : Int64) : ∀ (r : Nat) (s : xIv), (∀ k, k ≠ 79 → k ≠ 86 → apR w r s k = s k) ∧ ∀ j, j ≠ 12 → apR w r s 79 j = s 79 j
  | 0, s => ⟨fun _ _ _ => rfl, fun _ _ => rfl⟩
  | r + 1, s => by
    obtain ⟨h1, h2⟩ := apR_k w r (ap1 s (nI (bN w (nI r))))
    exact ⟨fun k a b => (h1 k a b).trans (ap1_k.1 k a b), fun j hj => (h2 j hj).trans (ap1_k.2 j hj)⟩
theorem e_type (w : Int64) (x : Int32) : EQ m_SR_type m_Mo_type [.long w, .int x] := by
  intro L xs t iv lg Q hI ht k
  obtain ⟨sg, tw, hC, hM, hG⟩ := hI
  refine c_type hC (fun iv1 C1 R1 => k _ iv1 lg (fun Q2 k2 => ?_))
  refine m_type ⟨hC.tn.1, hC.tn.2.2⟩ (MV_congr R1 hM) (fun iv2 M2 R2 => k2 _ _ ⟨_, _, CX_congr R2 C1, M2, ?_⟩)
  unfold opTy
  split
  · split
    · exact (hG.tape (apR_k w _ sg).1 (apR_k w _ sg).2).mono (Nat.le_succ t)
    · exact hG.mono (Nat.le_succ t)
  · exact hG.mono (Nat.le_succ t)
end TYPE
