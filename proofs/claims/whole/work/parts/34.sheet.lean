-- ===== sheets =====
theorem sh48 (v : Int64) : (v <<< ((48 : Int32).toInt64 &&& 63)) >>> ((48 : Int32).toInt64 &&& 63) = v.toInt32.toInt16.toInt32.toInt64 := by
  rw [show (48 : Int32).toInt64 &&& 63 = (48 : Int64) by decide]
  refine Int64.toInt_inj.mp ?_
  rw [Int32.toInt_toInt64, Int16.toInt_toInt32, Int32.toInt_toInt16, Int64.toInt_toInt32]
  show ((v.toBitVec <<< 48).sshiftRight 48).toInt = (v.toBitVec.toInt.bmod _).bmod _
  rw [BitVec.toInt_sshiftRight, BitVec.toInt_shiftLeft, BitVec.toInt_eq_toNat_bmod, Nat.shiftLeft_eq, Int.shiftRight_eq_div_pow]
  have h := v.toBitVec.isLt
  generalize v.toBitVec.toNat = N at h ⊢
  simp only [Int.bmod_def]
  omega
theorem sh32 (v : Int64) : (v <<< ((32 : Int32).toInt64 &&& 63)) >>> ((32 : Int32).toInt64 &&& 63) = v.toInt32.toInt64 := by
  rw [show (32 : Int32).toInt64 &&& 63 = (32 : Int64) by decide]
  refine Int64.toInt_inj.mp ?_
  rw [Int32.toInt_toInt64, Int64.toInt_toInt32]
  show ((v.toBitVec <<< 32).sshiftRight 32).toInt = v.toBitVec.toInt.bmod _
  rw [BitVec.toInt_sshiftRight, BitVec.toInt_shiftLeft, BitVec.toInt_eq_toNat_bmod, Nat.shiftLeft_eq, Int.shiftRight_eq_div_pow]
  have h := v.toBitVec.isLt
  generalize v.toBitVec.toNat = N at h ⊢
  simp only [Int.bmod_def]
  omega
/-- a long cut to a lane -/
def lcC (b : Int32) (v : Int64) : Int64 := if b = 0 then v.toInt32.toInt16.toInt32.toInt64 else if b = 1 then v.toInt32.toInt64 else v
def upT (tw : Nat → Int64) (j : Nat) (v : Int64) : Nat → Int64 := fun i => if i = j then v else tw i
theorem upT_s {tw : Nat → Int64} {j : Nat} {v : Int64} : upT tw j v j = v := if_pos rfl
theorem upT_n {tw : Nat → Int64} {i j : Nat} {v : Int64} (h : i ≠ j) : upT tw j v i = tw i := if_neg h
theorem qvL {Q : xQ} {sh : xSh} {rf : xRf} {iv : xIv} {lg : xLg} {a b : Int64} (k : Q (some (.long b)) sh rf iv lg) (h : a = b) : Q (some (.long a)) sh rf iv lg := h ▸ k
section SHEET
variable {L : Nat} {xs : Nat → Int32} {iv : xIv} {lg : xLg} {Q : xQ} {sg : xIv} {tw : Nat → Int64} {t : Nat}
theorem vL_sh {sg' : xIv} (h1 : ∀ k, k ≠ 98 → k ≠ 99 → sg' k = sg k) : vL sg' = vL sg ∧ vK sg' = vK sg := by
  constructor
  · funext r j
    unfold vL
    rw [h1 79 (by decide) (by decide), h1 80 (by decide) (by decide), h1 81 (by decide) (by decide), h1 82 (by decide) (by decide), h1 83 (by decide) (by decide), h1 84 (by decide) (by decide)]
  · funext r j
    unfold vK
    rw [h1 96 (by decide) (by decide), h1 97 (by decide) (by decide)]
/-- the sheets alone change -/
theorem CX.shs {iv' sg' : xIv} {lg' : xLg} {tw' : Nat → Int64} (hC : CX iv lg sg tw) (h1 : ∀ k, k ≠ 98 → k ≠ 99 → sg' k = sg k) (hr : ∀ k, k < 71 → iv' k = iv k) (hT : ST iv' lg' sg' tw') : CX iv' lg' sg' tw' := by
  obtain ⟨e1, e2⟩ := vL_sh h1
  obtain ⟨h, ⟨a1, a2, a3⟩, hrd, htp, hst⟩ := hC
  refine ⟨by rw [e1]; exact CW_congr (fun i hi => hr _ (by omega)) h, ⟨?_, ?_, fun z => ?_⟩, by rw [e1]; exact RD_congr (fun k a b => hr k (by omega)) hrd, htp.keep (by rw [hr 53 (by decide)]) (hr 54 (by decide)) (hr 69 (by decide)) (by rw [h1 79 (by decide) (by decide)]) (h1 86 (by decide) (by decide)), hT⟩
  · rw [hr 0 (by decide), h1 79 (by decide) (by decide)]; exact a1
  · rw [h1 79 (by decide) (by decide)]; exact a2
  · rw [h1 79 (by decide) (by decide)] at z
    rw [e2]
    exact CW_congr (fun i hi => hr _ (by omega)) (a3 z)
theorem GG.shs {sg' : xIv} (hG : GG t sg) (h1 : ∀ k, k ≠ 98 → k ≠ 99 → sg' k = sg k) : GG t sg' := by
  obtain ⟨e1, e2⟩ := vL_sh h1
  exact ⟨by rw [e1]; exact hG.1, fun z => by rw [e2]; exact hG.2 (by rw [h1 79 (by decide) (by decide)] at z; exact z)⟩
/-- one item -/
theorem CX.it (hC : CX iv lg sg tw) {s g : Nat} {v : Int64} (hs : s < 4) (hg : g < 24) : CX iv (xu2 lg (72 + 2 * s) g v) sg (upT tw (24 * s + g) v) := by
  refine hC.shs (fun _ _ _ => rfl) (fun _ _ => rfl) (fun s' hs' => ?_)
  obtain ⟨a1, a2, a3, a4⟩ := hC.2.2.2.2 s' hs'
  refine ⟨a1, a2, a3, fun i hi => ?_⟩
  by_cases e : s' = s ∧ i = g
  · rw [e.1, e.2, xu2_s, upT_s]
  · rw [upT_n (by omega), ← a4 i hi]
    by_cases e2 : s' = s
    · rw [e2]; exact xu2_j (fun z => e ⟨e2, z⟩)
    · exact xu2_k (by omega)
theorem MV.it (hM : MV iv lg sg tw) {j : Nat} {v : Int64} : MV iv (xu2 lg 100 j v) sg (upT tw j v) := by
  refine ⟨hM.1, hM.2.1, ?_⟩
  rw [← hM.2.2]
  funext i
  unfold xu2 upT
  rw [if_pos rfl]
theorem refS.it {iv' : xIv} {lg' : xLg} (h : refS iv' lg' iv lg) {k j : Nat} {x : Int64} (hk : k < 79) : refS iv' (xu2 lg' k j x) iv lg := ⟨h.1, fun k' hk' => by rw [xu2_ne (by omega)]; exact h.2 k' hk'⟩
theorem clsS.it {iv' : xIv} {lg' : xLg} (h : clsS iv' lg' iv lg) {k j : Nat} {x : Int64} (hk : 79 ≤ k) : clsS iv' (xu2 lg' k j x) iv lg := ⟨h.1, fun k' hk' => by rw [xu2_ne (by omega)]; exact h.2 k' hk'⟩
/-- a row of noughts -/
def flR (s : Nat) : Nat → Nat → (Nat → Int64) → (Nat → Int64)
  | 0, _, tw => tw
  | r + 1, i, tw => flR s r (i + 1) (upT tw (24 * s + i) 0)
theorem flR_v {s : Nat} : ∀ (r i : Nat) (tw : Nat → Int64) (j : Nat), (24 * s + i ≤ j ∧ j < 24 * s + i + r → flR s r i tw j = 0) ∧ (¬ (24 * s + i ≤ j ∧ j < 24 * s + i + r) → flR s r i tw j = tw j)
  | 0, i, tw, j => ⟨fun h => absurd h (by omega), fun _ => rfl⟩
  | r + 1, i, tw, j => by
    obtain ⟨h1, h2⟩ := flR_v (s := s) r (i + 1) (upT tw (24 * s + i) 0) j
    refine ⟨fun h => ?_, fun h => ?_⟩
    · by_cases e : j = 24 * s + i
      · show flR s r (i + 1) (upT tw (24 * s + i) 0) j = 0
        rw [h2 (by omega), e, upT_s]
      · exact h1 (by omega)
    · show flR s r (i + 1) (upT tw (24 * s + i) 0) j = tw j
      rw [h2 (by omega), upT_n (by omega)]
set_option maxRecDepth 100000 in
theorem s_fillL_l {s : Nat} (hs : s < 4) (k : ∀ lg', (∀ k, k ≠ 72 + 2 * s → lg' k = lg k) → (∀ j, j < 24 → lg' (72 + 2 * s) j = 0) → Q none SH RF iv lg') : ∀ (r i : Nat) (x : Int32) (lg' : xLg), i + r = 24 → x = nI i → (∀ k, k ≠ 72 + 2 * s → lg' k = lg k) → (∀ j, j < i → lg' (72 + 2 * s) j = 0) → Wp L xs m_Ar_fillL 5 [some (.ref (72 + 2 * s)), some (.long 0), none, some (.int x), some (.int 24)] [] SH RF iv lg' Q
  | 0, i, x, lg', h, hx, h1, h2 => by
    obtain rfl : i = 24 := by omega
    subst hx
    refine wgo [5] 100 ?_
    exact And.intro (fun _ => k lg' h1 h2) (fun z => absurd (by decide) z)
  | r + 1, i, x, lg', h, hx, h1, h2 => by
    subst hx
    have hv : vp_in (nI i) 24 := vp_N (by omega)
    have hlt : nI i < (24 : Int32) := nI_lt (b := 24) (by omega) (by decide)
    have key : Wp L xs m_Ar_fillL 5 [some (.ref (72 + 2 * s)), some (.long 0), none, some (.int (nI i + 1)), some (.int 24)] [] SH RF iv (xu2 lg' (72 + 2 * s) (nI i).toNatClampNeg 0) Q := by
      refine s_fillL_l hs k r (i + 1) _ _ (by omega) (nI_1 i) (fun k hk => by rw [xu2_ne hk]; exact h1 k hk) (fun j hj => ?_)
      rw [cl]
      by_cases e : j = i
      · rw [e, xu2_s]
      · rw [xu2_j e]; exact h2 j (by omega)
    have h4 : s = 0 ∨ s = 1 ∨ s = 2 ∨ s = 3 := by omega
    clear h1 h2
    rcases h4 with rfl | rfl | rfl | rfl
    all_goals
      refine wgo [5] 100 ?_
      refine And.intro (fun z => absurd hlt (lenl z)) (fun _ => ?_)
      refine And.intro hv ?_
      exact key
set_option maxRecDepth 100000 in
theorem s_fillL {s : Nat} (hs : s < 4) (k : ∀ lg', (∀ k, k ≠ 72 + 2 * s → lg' k = lg k) → (∀ j, j < 24 → lg' (72 + 2 * s) j = 0) → Q none SH RF iv lg') : Sp L xs m_Ar_fillL [.ref (72 + 2 * s), .long 0] SH RF iv lg Q := by
  have key := s_fillL_l (L := L) (xs := xs) hs k 24 0 0 lg (by omega) rfl (fun _ _ => rfl) (fun j hj => absurd hj (Nat.not_lt_zero j))
  have h4 : s = 0 ∨ s = 1 ∨ s = 2 ∨ s = 3 := by omega
  clear k
  rcases h4 with rfl | rfl | rfl | rfl
  all_goals
    refine sgo [5] 100 ?_
    exact key
/-- a new row -/
def shS (sg : xIv) (s : Nat) (b n : Int32) : xIv := xu2 (xu2 sg 98 s b) 99 s n
theorem shS_k {s : Nat} {b n : Int32} : ∀ k, k ≠ 98 → k ≠ 99 → shS sg s b n k = sg k := fun k h1 h2 => by unfold shS; rw [xu2_ne h2, xu2_ne h1]
abbrev okS (a b : Int32) : Prop := isN a 4 ∧ isN b 3
theorem CX.fr (hC : CX iv lg sg tw) {s m : Nat} {b : Int32} {lg' : xLg} (hs : s < 4) (hb : isN b 3) (hm : m ≤ 24) (h1 : ∀ k, k ≠ 72 + 2 * s → lg' k = lg k) (h2 : ∀ j, j < 24 → lg' (72 + 2 * s) j = 0) : CX (xu2 (xu2 (xu2 iv (71 + 2 * s) 0 1) (71 + 2 * s) 1 b) (71 + 2 * s) 2 (nI m)) lg' (shS sg s b (nI m)) (flR s 24 0 tw) := by
  refine hC.shs shS_k (fun k hk => by rw [xu2_ne (by omega), xu2_ne (by omega), xu2_ne (by omega)]) (fun s' hs' => ?_)
  obtain ⟨a1, a2, a3, a4⟩ := hC.2.2.2.2 s' hs'
  unfold shS
  by_cases e : s' = s
  · subst e
    refine ⟨Or.inr ⟨?_, ?_, ?_⟩, ?_, ⟨m, hm, ?_⟩, fun i hi => ?_⟩
    · rw [xu2_k (k := 99) (by decide), xu2_s]; exact hb
    · rw [xu2_j (by decide), xu2_j (by decide), xu2_s]
    · rw [xu2_j (by decide), xu2_s, xu2_k (k := 99) (by decide), xu2_s]
    · rw [xu2_s, xu2_s]
    · rw [xu2_s]
    · rw [h2 i hi, (flR_v 24 0 tw _).1 (by omega)]
  · rw [xu2_ne (f := xu2 (xu2 iv (71 + 2 * s) 0 1) (71 + 2 * s) 1 b) (by omega), xu2_ne (f := xu2 iv (71 + 2 * s) 0 1) (by omega), xu2_ne (f := iv) (by omega), xu2_k (k := 99) (k' := 98) (by decide), xu2_j e, xu2_j e, xu2_k (k := 98) (k' := 99) (by decide)]
    refine ⟨a1, a2, a3, fun i hi => ?_⟩
    rw [h1 _ (by omega), (flR_v 24 0 tw _).2 (by omega)]
    exact a4 i hi
def opSh (sg : xIv) (tw : Nat → Int64) (a b n : Int32) : Int32 × xIv × (Nat → Int64) := if okS a b ∧ n ≤ 24 then (if n < 0 then (-14, sg, tw) else (n, shS sg a.toNatClampNeg b n, flR a.toNatClampNeg 24 0 tw)) else (-1, sg, tw)
set_option maxRecDepth 100000 in
theorem c_sheet {a b n : Int32} (hC : CX iv lg sg tw) (k : ∀ iv' lg', CX iv' lg' (opSh sg tw a b n).2.1 (opSh sg tw a b n).2.2 → refS iv' lg' iv lg → Q (some (.int (opSh sg tw a b n).1)) SH RF iv' lg') : Sp L xs m_SR_sheet [.ref 0, .int a, .int b, .int n] SH RF iv lg Q := by
  have kb : ¬ (okS a b ∧ n ≤ 24) → Q (some (.int (-1))) SH RF iv lg := fun h => by
    have e : opSh sg tw a b n = (-1, sg, tw) := if_neg h
    rw [e] at k
    exact k iv lg hC refS.rfl
  refine sgo [] 100 ?_
  refine s_isSheet (fun h1 => ?_) (fun h1 => ?_)
  · refine b1 ?_
    refine s_isLane (fun h2 => ?_) (fun h2 => ?_)
    · refine b1 ?_
      refine And.intro (fun h3 => ?_) (fun h3 => ?_)
      · refine And.intro (fun h4 => ?_) (fun h4 => ?_)
        · obtain ⟨s, hs, rfl⟩ := isN_of h1 (by decide)
          obtain ⟨m, hm, rfl⟩ := nI_of2 (x := n) (M := 24) (n := 24) (by decide) (lenl h4) h3
          have es : (nI s).toNatClampNeg = s := cl
          have e : opSh sg tw (nI s) b (nI m) = (nI m, shS sg s b (nI m), flR s 24 0 tw) := by unfold opSh; rw [if_pos ⟨⟨h1, h2⟩, h3⟩, if_neg (lenl h4), es]
          rw [e] at k
          have key : ∀ lg', (∀ k, k ≠ 72 + 2 * s → lg' k = lg k) → (∀ j, j < 24 → lg' (72 + 2 * s) j = 0) → Q (some (.int (nI m))) SH RF (xu2 (xu2 (xu2 iv (71 + 2 * s) 0 1) (71 + 2 * s) 1 b) (71 + 2 * s) 2 (nI m)) lg' := fun lg' g1 g2 => k _ lg' (hC.fr hs h2 hm g1 g2) ⟨(((refS.rfl.up (by omega)).up (by omega)).up (by omega) : refS _ lg iv lg).1, fun k hk => g1 k (by omega)⟩
          have v : vp_in (nI s) 4 := vp_N hs
          have fl := fun Q => s_fillL (L := L) (xs := xs) (iv := xu2 (xu2 (xu2 iv (71 + 2 * s) 0 1) (71 + 2 * s) 1 b) (71 + 2 * s) 2 (nI m)) (lg := lg) (Q := Q) hs
          have h5 : s = 0 ∨ s = 1 ∨ s = 2 ∨ s = 3 := by omega
          clear k e h1
          rcases h5 with rfl | rfl | rfl | rfl
          all_goals
            refine And.intro v ?_
            refine sgo [] 100 ?_
            refine And.intro (Or.inr rfl) ?_
            refine fl _ (fun lg' g1 g2 => ?_)
            exact key lg' g1 g2
        · have e : opSh sg tw a b n = (-14, sg, tw) := by unfold opSh; rw [if_pos ⟨⟨h1, h2⟩, h3⟩, if_pos (nle h4)]
          rw [e] at k
          exact k iv lg hC refS.rfl
      · exact kb (fun z => h3 z.2)
    · refine b0 ?_
      exact kb (fun z => h2 z.1.2)
  · refine b0 ?_
    exact kb (fun z => h1 z.1.1)
set_option maxRecDepth 100000 in
theorem m_isSheet {sh : xSh} {rf : xRf} {a b : Int32} (kt : okS a b → Q (some (.int 1)) sh rf iv lg) (kf : ¬ okS a b → Q (some (.int 0)) sh rf iv lg) : Sp L xs m_Mo_isSheet [.int a, .int b] sh rf iv lg Q := by
  refine sgo [] 100 ?_
  refine s_inI (a := 0) (b := 3) (kt := fun h1 => ?_) (kf := fun h1 => ?_)
  · refine b1 ?_
    refine s_inI (a := 0) (b := 2) (kt := fun h2 => ?_) (kf := fun h2 => ?_)
    · refine b1 ?_
      exact And.intro (Or.inr rfl) (kt ⟨r3.mp h1, r2.mp h2⟩)
    · refine b0 ?_
      exact And.intro (Or.inl rfl) (kf (fun z => h2 (r2.mpr z.2)))
  · refine b0 ?_
    exact And.intro (Or.inl rfl) (kf (fun z => h1 (r3.mpr z.1)))
set_option maxRecDepth 100000 in
theorem m_sheet_l {s : Nat} {b n : Int32} (hs : s < 4) : ∀ (r i : Nat) (x : Int32) (lg : xLg) (tw : Nat → Int64), i + r = 24 → x = nI i → MV iv lg sg tw → (∀ lg', MV iv lg' sg (flR s r i tw) → clsS iv lg' iv lg → Q (some (.int n)) SH RF iv lg') → Wp L xs m_Mo_sheet 25 [some (.ref 79), some (.int (nI s)), some (.int b), some (.int n), some (.int x)] [] SH RF iv lg Q
  | 0, i, x, lg, tw, h, hx, hM, k => by
    obtain rfl : i = 24 := by omega
    subst hx
    refine wgo [25] 100 ?_
    exact And.intro (fun _ => k lg hM clsS.rfl) (fun z => absurd (by decide) z)
  | r + 1, i, x, lg, tw, h, hx, hM, k => by
    subst hx
    have e : (24 : Int32) * nI s + nI i = nI (24 * s + i) := by rw [show (24 : Int32) * nI s = nI (24 * s) from pk_mul 24 s, ni_a]
    have v : vp_in ((24 : Int32) * nI s + nI i) 96 := by rw [e]; exact vp_N (by omega)
    have ke : ((24 : Int32) * nI s + nI i).toNatClampNeg = 24 * s + i := by rw [e, cl]
    refine wgo [25] 100 ?_
    refine And.intro (fun z => absurd (show nI i < (24 : Int32) from nI_lt (b := 24) (by omega) (by decide)) (lenl z)) (fun _ => ?_)
    refine And.intro v ?_
    refine m_sheet_l hs r (i + 1) _ _ (upT tw (24 * s + i) 0) (by omega) (nI_1 i) (by rw [ke]; exact hM.it) (fun lg' c1 c2 => k lg' c1 (c2.trans (clsS.rfl.it (by decide))))
set_option maxRecDepth 100000 in
theorem m_sheet {a b n : Int32} (hM : MV iv lg sg tw) (k : ∀ iv' lg', MV iv' lg' (opSh sg tw a b n).2.1 (opSh sg tw a b n).2.2 → clsS iv' lg' iv lg → Q (some (.int (opSh sg tw a b n).1)) SH RF iv' lg') : Sp L xs m_Mo_sheet [.ref 79, .int a, .int b, .int n] SH RF iv lg Q := by
  have kb : ¬ (okS a b ∧ n ≤ 24) → Q (some (.int (-1))) SH RF iv lg := fun h => by
    have e : opSh sg tw a b n = (-1, sg, tw) := if_neg h
    rw [e] at k
    exact k iv lg hM clsS.rfl
  refine sgo [25] 100 ?_
  refine m_isSheet (fun h1 => ?_) (fun h1 => ?_)
  · refine b1 ?_
    refine And.intro (fun h3 => ?_) (fun h3 => ?_)
    · refine And.intro (fun h4 => ?_) (fun h4 => ?_)
      · obtain ⟨s, hs, rfl⟩ := isN_of h1.1 (by decide)
        have es : (nI s).toNatClampNeg = s := cl
        have e : opSh sg tw (nI s) b n = (n, shS sg s b n, flR s 24 0 tw) := by unfold opSh; rw [if_pos ⟨h1, h3⟩, if_neg (lenl h4), es]
        rw [e] at k
        have v : vp_in (nI s) 4 := vp_N hs
        refine And.intro v ?_
        refine And.intro v ?_
        refine m_sheet_l (sg := shS sg s b n) hs 24 0 _ _ tw (by omega) rfl ?_ (fun lg' c1 c2 => k _ lg' c1 (c2.trans ((clsS.rfl.up (by decide)).up (by decide))))
        rw [es]
        exact (hM.up _ _ _).up _ _ _
      · have e : opSh sg tw a b n = (-14, sg, tw) := by unfold opSh; rw [if_pos ⟨h1, h3⟩, if_pos (nle h4)]
        rw [e] at k
        exact k iv lg hM clsS.rfl
    · exact kb (fun z => h3 z.2)
  · refine b0 ?_
    exact kb (fun z => h1 z.1)
theorem e_sheet (a b n : Int32) : EQ m_SR_sheet m_Mo_sheet [.int a, .int b, .int n] := by
  refine EQ.of (fun sg tw => opSh sg tw a b n) (fun hC hG ht k => c_sheet hC (fun iv' lg' h1 h2 => k iv' lg' h1 h2)) (fun hM hG ht k => m_sheet hM (fun iv' lg' h1 h2 => k iv' lg' h1 h2)) (fun {t sg tw} hG ht => ?_)
  unfold opSh
  split
  · split
    · exact hG.mono (Nat.le_succ t)
    · exact (hG.shs shS_k).mono (Nat.le_succ t)
  · exact hG.mono (Nat.le_succ t)
def opDr (sg : xIv) (a : Int32) : Int32 × xIv := if isN a 4 then (if sg 98 a.toNatClampNeg = -1 then (-11, sg) else (sg 99 a.toNatClampNeg, xu2 sg 98 a.toNatClampNeg (-1))) else (-1, sg)
theorem drS_k {s : Nat} : ∀ k, k ≠ 98 → k ≠ 99 → xu2 sg 98 s (-1) k = sg k := fun k h1 h2 => xu2_ne h1
theorem CX.dr (hC : CX iv lg sg tw) {s : Nat} (hs : s < 4) : CX (xu2 iv (71 + 2 * s) 0 0) lg (xu2 sg 98 s (-1)) tw := by
  refine hC.shs drS_k (fun k hk => by rw [xu2_ne (by omega)]) (fun s' hs' => ?_)
  obtain ⟨a1, a2, a3, a4⟩ := hC.2.2.2.2 s' hs'
  by_cases e : s' = s
  · subst e
    refine ⟨Or.inl ⟨xu2_s, xu2_s⟩, ?_, ?_, a4⟩
    · rw [xu2_j (by decide), xu2_k (by decide)]; exact a2
    · rw [xu2_k (by decide)]; exact a3
  · rw [xu2_ne (f := iv) (by omega), xu2_j e, xu2_k (by decide)]
    exact ⟨a1, a2, a3, a4⟩
theorem ST_h (hC : CX iv lg sg tw) {s : Nat} (hs : s < 4) : (sg 98 s = -1 ∧ iv (71 + 2 * s) 0 = 0) ∨ (¬ sg 98 s = -1 ∧ ¬ iv (71 + 2 * s) 0 = 0 ∧ isN (sg 98 s) 3 ∧ iv (71 + 2 * s) 1 = sg 98 s) := by
  obtain ⟨a1, a2, a3, a4⟩ := hC.2.2.2.2 s hs
  rcases a1 with h | ⟨h1, h2, h3⟩
  · exact Or.inl h
  · refine Or.inr ⟨fun z => ?_, fun z => ?_, h1, h3⟩
    · rw [z] at h1; exact absurd h1.1 (by decide)
    · rw [z] at h2; exact absurd h2 (by decide)
set_option maxRecDepth 100000 in
theorem c_drop {a : Int32} (hC : CX iv lg sg tw) (k : ∀ iv', CX iv' lg (opDr sg a).2 tw → refS iv' lg iv lg → Q (some (.int (opDr sg a).1)) SH RF iv' lg) : Sp L xs m_SR_drop [.ref 0, .int a] SH RF iv lg Q := by
  refine sgo [] 100 ?_
  refine s_isSheet (fun h1 => ?_) (fun h1 => ?_)
  · refine c1 ?_
    obtain ⟨s, hs, rfl⟩ := isN_of h1 (by decide)
    have es : (nI s).toNatClampNeg = s := cl
    have v : vp_in (nI s) 4 := vp_N hs
    have k1 : sg 98 s = -1 → Q (some (.int (-11))) SH RF iv lg := fun z => by
      have e : opDr sg (nI s) = (-11, sg) := by unfold opDr; rw [if_pos h1, es, if_pos z]
      rw [e] at k
      exact k iv hC refS.rfl
    have k2 : ¬ sg 98 s = -1 → Q (some (.int (iv (71 + 2 * s) 2))) SH RF (xu2 iv (71 + 2 * s) 0 0) lg := fun z => by
      have e : opDr sg (nI s) = (sg 99 s, xu2 sg 98 s (-1)) := by unfold opDr; rw [if_pos h1, es, if_neg z]
      rw [e] at k
      rw [(hC.2.2.2.2 s hs).2.1]
      exact k _ (hC.dr hs) (refS.rfl.up (by omega))
    have hh := ST_h hC hs
    have h5 : s = 0 ∨ s = 1 ∨ s = 2 ∨ s = 3 := by omega
    clear k h1
    rcases h5 with rfl | rfl | rfl | rfl
    all_goals
      refine And.intro v ?_
      refine And.intro (fun z => ?_) (fun z => ?_)
      · refine And.intro v ?_
        refine And.intro (Or.inl rfl) ?_
        refine And.intro v ?_
        exact k2 (by rcases hh with ⟨h, h2⟩ | ⟨h, h2⟩; exact absurd h2 z; exact h)
      · exact k1 (by rcases hh with ⟨h, h2⟩ | ⟨h, h2, h3⟩; exact h; exact absurd (Decidable.not_not.mp z) h2)
  · refine c0 ?_
    have e : opDr sg a = (-1, sg) := if_neg h1
    rw [e] at k
    exact k iv hC refS.rfl
set_option maxRecDepth 100000 in
theorem m_drop {a : Int32} (hS : ∀ s, s < 4 → sg 98 s = -1 ∨ isN (sg 98 s) 3) (hM : MV iv lg sg tw) (k : ∀ iv', MV iv' lg (opDr sg a).2 tw → clsS iv' lg iv lg → Q (some (.int (opDr sg a).1)) SH RF iv' lg) : Sp L xs m_Mo_drop [.ref 79, .int a] SH RF iv lg Q := by
  refine sgo [] 100 ?_
  refine s_inI (a := 0) (b := 3) (kt := fun h1 => ?_) (kf := fun h1 => ?_)
  · refine c1 ?_
    replace h1 := r3.mp h1
    obtain ⟨s, hs, rfl⟩ := isN_of h1 (by decide)
    have es : (nI s).toNatClampNeg = s := cl
    have v : vp_in (nI s) 4 := vp_N hs
    have e98 : iv 98 (nI s).toNatClampNeg = sg 98 s := by rw [es, hM.2.1.2.2.2.2.2.2.2.2.1]
    refine And.intro v ?_
    refine And.intro (fun z => ?_) (fun z => ?_)
    · rw [e98] at z
      have z2 : ¬ sg 98 s = -1 := fun w => by rw [w] at z; exact absurd z (by decide)
      have e : opDr sg (nI s) = (sg 99 s, xu2 sg 98 s (-1)) := by unfold opDr; rw [if_pos h1, es, if_neg z2]
      rw [e] at k
      refine And.intro v ?_
      refine And.intro v ?_
      show Q (some (.int (xu2 iv 98 (nI s).toNatClampNeg (-1) 99 (nI s).toNatClampNeg))) SH RF (xu2 iv 98 (nI s).toNatClampNeg (-1)) lg
      rw [es, xu2_k (by decide), hM.2.1.2.2.2.2.2.2.2.2.2]
      exact k _ (hM.up _ _ _) (clsS.rfl.up (by decide))
    · rw [e98] at z
      have z2 : sg 98 s = -1 := by
        rcases hS s hs with h | h
        · exact h
        · exact absurd h.1 z
      have e : opDr sg (nI s) = (-11, sg) := by unfold opDr; rw [if_pos h1, es, if_pos z2]
      rw [e] at k
      exact k iv hM clsS.rfl
  · refine c0 ?_
    have e : opDr sg a = (-1, sg) := if_neg (fun z => h1 (r3.mpr z))
    rw [e] at k
    exact k iv hM clsS.rfl
theorem ST_l (hC : CX iv lg sg tw) : ∀ s, s < 4 → sg 98 s = -1 ∨ isN (sg 98 s) 3 := fun s hs => by
  rcases (hC.2.2.2.2 s hs).1 with h | h
  · exact Or.inl h.1
  · exact Or.inr h.1
theorem e_drop (a : Int32) : EQ m_SR_drop m_Mo_drop [.int a] := by
  intro L xs t iv lg Q hI ht k
  obtain ⟨sg, tw, hC, hM, hG⟩ := hI
  refine c_drop hC (fun iv1 C1 R1 => k _ iv1 lg (fun Q2 k2 => ?_))
  refine m_drop (ST_l hC) (MV_congr R1 hM) (fun iv2 M2 R2 => k2 _ _ ⟨_, _, CX_congr R2 C1, M2, ?_⟩)
  unfold opDr
  split
  · split
    · exact hG.mono (Nat.le_succ t)
    · exact (hG.shs drS_k).mono (Nat.le_succ t)
  · exact hG.mono (Nat.le_succ t)
end SHEET
