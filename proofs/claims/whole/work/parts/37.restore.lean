-- ===== image, restore =====
def imR : Nat → Nat → xIv → xIv
  | 0, _, s => s
  | r + 1, k, s => imR r (k + 1) (xu2 s 96 k (s (cR k) (cO k)))
def rsR : Nat → Nat → xIv → xIv
  | 0, _, s => s
  | r + 1, k, s => rsR r (k + 1) (xu2 s (cR k) (cO k) (s 96 k))
theorem cR_bd {k : Nat} (h : k < 250) : 80 ≤ cR k ∧ cR k < 85 := by
  rcases cRO h with h | h | h | h | h <;> omega
theorem cRO_inj {j k : Nat} (hj : j < 250) (hk : k < 250) (h : cR j = cR k) (h2 : cO j = cO k) : j = k := by
  rcases cRO hj with a | a | a | a | a <;> rcases cRO hk with b | b | b | b | b <;> omega
theorem imR_v : ∀ (r k : Nat) (s : xIv), k + r ≤ 250 → (∀ j, j ≠ 96 → imR r k s j = s j) ∧ (∀ j, k ≤ j → j < k + r → imR r k s 96 j = s (cR j) (cO j)) ∧ (∀ j, j < k → imR r k s 96 j = s 96 j)
  | 0, k, s, _ => ⟨fun _ _ => rfl, fun j h1 h2 => absurd h1 (by omega), fun _ _ => rfl⟩
  | r + 1, k, s, h => by
    obtain ⟨a1, a2, a3⟩ := imR_v r (k + 1) (xu2 s 96 k (s (cR k) (cO k))) (by omega)
    refine ⟨fun j hj => ?_, fun j h1 h2 => ?_, fun j hj => ?_⟩
    · exact (a1 j hj).trans (xu2_ne hj)
    · by_cases e : j = k
      · subst e
        show imR r (j + 1) _ 96 j = _
        rw [a3 j (by omega), xu2_s]
      · show imR r (k + 1) _ 96 j = _
        rw [a2 j (by omega) (by omega), xu2_ne (by have := cR_bd (k := j) (by omega); omega)]
    · show imR r (k + 1) _ 96 j = _
      rw [a3 j (by omega), xu2_j (by omega)]
theorem rsR_v : ∀ (r k : Nat) (s : xIv), k + r ≤ 250 → (∀ j, (j < 80 ∨ 85 ≤ j) → rsR r k s j = s j) ∧ (∀ j, k ≤ j → j < k + r → rsR r k s (cR j) (cO j) = s 96 j) ∧ (∀ j, j < k → rsR r k s (cR j) (cO j) = s (cR j) (cO j))
  | 0, k, s, _ => ⟨fun _ _ => rfl, fun j h1 h2 => absurd h1 (by omega), fun _ _ => rfl⟩
  | r + 1, k, s, h => by
    obtain ⟨a1, a2, a3⟩ := rsR_v r (k + 1) (xu2 s (cR k) (cO k) (s 96 k)) (by omega)
    have bk := cR_bd (k := k) (by omega)
    refine ⟨fun j hj => ?_, fun j h1 h2 => ?_, fun j hj => ?_⟩
    · exact (a1 j hj).trans (xu2_ne (by omega))
    · by_cases e : j = k
      · subst e
        show rsR r (j + 1) _ (cR j) (cO j) = _
        rw [a3 j (by omega), xu2_s]
      · show rsR r (k + 1) _ (cR j) (cO j) = _
        rw [a2 j (by omega) (by omega), xu2_ne (by omega)]
    · show rsR r (k + 1) _ (cR j) (cO j) = _
      rw [a3 j (by omega)]
      by_cases e : cR j = cR k
      · rw [e]
        exact xu2_j (fun z => absurd (cRO_inj (by omega) (by omega) e z) (by omega))
      · exact xu2_k e
section IMG
variable {n : Nat} {L : Nat} {xs : Nat → Int32} {iv : xIv} {lg : xLg} {Q : xQ} {sg : xIv} {tw : Nat → Int64} {t : Nat}
def imS2 (s : xIv) : xIv := xu2 (xu2 (xu2 (xu2 (xu2 (xu2 s 97 0 (s 79 1)) 97 1 (s 79 3)) 97 2 (s 79 8)) 97 3 (s 79 6)) 97 4 (s 79 9)) 79 24 1
def imS (n : Nat) (sg : xIv) : xIv := imS2 (imR n 0 sg)
theorem MV.row (hM : MV iv lg sg tw) {k : Nat} (h : 80 ≤ k ∧ k < 85) : iv k = sg k := by
  obtain ⟨-, ⟨a0, a1, a2, a3, a4, -⟩, -⟩ := hM
  have : k = 80 ∨ k = 81 ∨ k = 82 ∨ k = 83 ∨ k = 84 := by omega
  rcases this with rfl | rfl | rfl | rfl | rfl
  · exact a0
  · exact a1
  · exact a2
  · exact a3
  · exact a4
set_option maxRecDepth 100000 in
theorem m_image_l : ∀ (r k : Nat) (x : Int32) (iv sg : xIv), k + r = 250 → x = nI k → MV iv lg sg tw → (∀ iv' x', MV iv' lg (imR r k sg) tw → clsS iv' lg iv lg → Wp L xs m_Mo_image 16 [some (.ref 79), some (.int x')] [] SH RF iv' lg Q) → Wp L xs m_Mo_image 2 [some (.ref 79), some (.int x)] [] SH RF iv lg Q
  | 0, k, x, iv, sg, h, hx, hM, kk => by
    obtain rfl : k = 250 := by omega
    subst hx
    refine wgo [2, 16] 100 ?_
    exact And.intro (fun _ => kk iv _ hM clsS.rfl) (fun z => absurd (by decide) z)
  | r + 1, k, x, iv, sg, h, hx, hM, kk => by
    subst hx
    refine wgo [2, 16] 100 ?_
    refine And.intro (fun z => absurd (show nI k < (250 : Int32) from nI_lt (b := 250) (by omega) (by decide)) (lenl z)) (fun _ => ?_)
    refine m_carried (by omega) ?_
    refine And.intro (vp_N (by omega)) ?_
    have bk := cR_bd (k := k) (by omega)
    have e0 : crV iv k 0 0 = sg (cR k) (cO k) := by unfold crV; rw [if_pos rfl, hM.row bk]
    have e1 : xu2 iv (cR k) (cO k) (crV iv k 0 0) = iv := by unfold crV; rw [if_pos rfl]; exact xu2_id
    have M1 : MV (xu2 (xu2 iv (cR k) (cO k) (crV iv k 0 0)) 96 (nI k).toNatClampNeg (crV iv k 0 0)) lg (xu2 sg 96 k (sg (cR k) (cO k))) tw := by
      rw [e1, e0, cl]
      exact hM.up _ _ _
    exact m_image_l r (k + 1) _ _ (xu2 sg 96 k (sg (cR k) (cO k))) (by omega) (nI_1 k) M1 (fun iv' x' c1 c2 => kk iv' x' c1 (c2.trans (by rw [e1]; exact clsS.rfl.up (by decide))))
set_option maxRecDepth 100000 in
theorem m_image (hn : n = 250) (hM : MV iv lg sg tw) (k : ∀ iv', MV iv' lg (imS n sg) tw → clsS iv' lg iv lg → Q (some (.int 1)) SH RF iv' lg) : Sp L xs m_Mo_image [.ref 79] SH RF iv lg Q := by
  refine sgo [2] 100 ?_
  refine m_image_l n 0 _ iv sg (by omega) rfl hM (fun iv1 x' M1 R1 => ?_)
  refine wgo [] 100 ?_
  refine And.intro (show vp_in (nI 0) 5 from vp_N (by decide)) ?_
  refine And.intro (show vp_in (nI 1) 5 from vp_N (by decide)) ?_
  refine And.intro (show vp_in (nI 2) 5 from vp_N (by decide)) ?_
  refine And.intro (show vp_in (nI 3) 5 from vp_N (by decide)) ?_
  refine And.intro (show vp_in (nI 4) 5 from vp_N (by decide)) ?_
  refine And.intro (Or.inr rfl) ?_
  obtain ⟨b1, b2, b3, b4, b5, -⟩ := M1.1
  have M2 : MV (xu2 (xu2 (xu2 (xu2 (xu2 (xu2 iv1 97 0 (iv1 79 1)) 97 1 (iv1 79 3)) 97 2 (iv1 79 8)) 97 3 (iv1 79 6)) 97 4 (iv1 79 9)) 79 24 1) lg (imS n sg) tw := by
    rw [b1, b2, b3, b4, b5]
    exact (((((M1.up _ _ _).up _ _ _).up _ _ _).up _ _ _).up _ _ _).up _ _ _
  exact k _ M2 ((((((R1.up (by decide)).up (by decide)).up (by decide)).up (by decide)).up (by decide)).up (by decide))
theorem imS_k (hn : n = 250) {k : Nat} (h1 : k ≠ 79) (h2 : k ≠ 96) (h3 : k ≠ 97) : imS n sg k = sg k := by
  unfold imS imS2
  rw [xu2_ne h1, xu2_ne h3, xu2_ne h3, xu2_ne h3, xu2_ne h3, xu2_ne h3, (imR_v n 0 sg (by omega)).1 k h2]
theorem imS_79 (hn : n = 250) {j : Nat} (h1 : j ≠ 24) : imS n sg 79 j = sg 79 j := by
  unfold imS imS2
  rw [xu2_j h1, xu2_k (by decide), xu2_k (by decide), xu2_k (by decide), xu2_k (by decide), xu2_k (by decide), (imR_v n 0 sg (by omega)).1 79 (by decide)]
theorem imS_24 : imS n sg 79 24 = 1 := by
  unfold imS imS2
  rw [xu2_s]
theorem imS_96 (hn : n = 250) {j : Nat} (h : j < 250) : imS n sg 96 j = sg (cR j) (cO j) := by
  unfold imS imS2
  rw [xu2_ne (by decide), xu2_ne (by decide), xu2_ne (by decide), xu2_ne (by decide), xu2_ne (by decide), xu2_ne (by decide)]
  exact (imR_v n 0 sg (by omega)).2.1 j (Nat.zero_le j) (by omega)
theorem imS_97 (hn : n = 250) : imS n sg 97 0 = sg 79 1 ∧ imS n sg 97 1 = sg 79 3 ∧ imS n sg 97 2 = sg 79 8 ∧ imS n sg 97 3 = sg 79 6 ∧ imS n sg 97 4 = sg 79 9 := by
  have e : ∀ j, imR n 0 sg 79 j = sg 79 j := fun j => by rw [(imR_v n 0 sg (by omega)).1 79 (by decide)]
  unfold imS imS2
  rw [e, e, e, e, e]
  refine ⟨?_, ?_, ?_, ?_, ?_⟩
  · rw [xu2_k (k := 79) (by decide), xu2_j (by decide), xu2_j (by decide), xu2_j (by decide), xu2_j (by decide), xu2_s]
  · rw [xu2_k (k := 79) (by decide), xu2_j (by decide), xu2_j (by decide), xu2_j (by decide), xu2_s]
  · rw [xu2_k (k := 79) (by decide), xu2_j (by decide), xu2_j (by decide), xu2_s]
  · rw [xu2_k (k := 79) (by decide), xu2_j (by decide), xu2_s]
  · rw [xu2_k (k := 79) (by decide), xu2_s]
theorem cRO_at : (∀ j, j < 120 → cR j = 80 ∧ cO j = j) ∧ (∀ j, j < 56 → cR (120 + j) = 81 ∧ cO (120 + j) = j) ∧ (∀ j, j < 64 → cR (176 + j) = 82 ∧ cO (176 + j) = j) ∧ (∀ j, j < 4 → cR (240 + j) = 83 ∧ cO (240 + j) = j) ∧ (∀ j, j < 6 → cR (244 + j) = 84 ∧ cO (244 + j) = j) := by
  refine ⟨fun j hj => ?_, fun j hj => ?_, fun j hj => ?_, fun j hj => ?_, fun j hj => ?_⟩
  · rcases cRO (k := j) (by omega) with h | h | h | h | h <;> omega
  · rcases cRO (k := 120 + j) (by omega) with h | h | h | h | h <;> omega
  · rcases cRO (k := 176 + j) (by omega) with h | h | h | h | h <;> omega
  · rcases cRO (k := 240 + j) (by omega) with h | h | h | h | h <;> omega
  · rcases cRO (k := 244 + j) (by omega) with h | h | h | h | h <;> omega
theorem imS_vL (hn : n = 250) : vL (imS n sg) = vL sg := by
  funext r j
  unfold vL
  rw [imS_79 hn (by decide), imS_79 hn (by decide), imS_79 hn (by decide), imS_79 hn (by decide), imS_79 hn (by decide), imS_k hn (by decide) (by decide) (by decide), imS_k hn (by decide) (by decide) (by decide), imS_k hn (by decide) (by decide) (by decide), imS_k hn (by decide) (by decide) (by decide), imS_k hn (by decide) (by decide) (by decide)]
theorem imS_eq (hn : n = 250) : vEq (vL sg) (vK (imS n sg)) := by
  obtain ⟨c0, c1, c2, c3, c4⟩ := cRO_at
  obtain ⟨a0, a1, a2, a3, a4⟩ := imS_97 hn (sg := sg)
  refine ⟨fun j hj => ?_, fun j hj => ?_, fun j hj => ?_, fun j hj => ?_, fun j hj => ?_, fun j hj => ?_⟩
  · have h5 : j = 0 ∨ j = 1 ∨ j = 2 ∨ j = 3 ∨ j = 4 := by omega
    rcases h5 with rfl | rfl | rfl | rfl | rfl
    · exact a0
    · exact a1
    · exact a2
    · exact a3
    · exact a4
  · show imS n sg 96 j = sg 80 j
    rw [imS_96 hn (by omega), (c0 j hj).1, (c0 j hj).2]
  · show imS n sg 96 (120 + j) = sg 81 j
    rw [imS_96 hn (by omega), (c1 j hj).1, (c1 j hj).2]
  · show imS n sg 96 (176 + j) = sg 82 j
    rw [imS_96 hn (by omega), (c2 j hj).1, (c2 j hj).2]
  · show imS n sg 96 (240 + j) = sg 83 j
    rw [imS_96 hn (by omega), (c3 j hj).1, (c3 j hj).2]
  · show imS n sg 96 (244 + j) = sg 84 j
    rw [imS_96 hn (by omega), (c4 j hj).1, (c4 j hj).2]
theorem CX.im (hC : CX iv lg sg tw) (hn : n = 250) (hG : GG t sg) : CX (xu2 (woC iv 19 1) 0 2 1) lg (imS n sg) tw := by
  obtain ⟨h, -, hrd, htp, hst⟩ := hC
  have hr : ∀ k, k ≠ 0 → (k < 19 ∨ 37 ≤ k) → xu2 (woC iv 19 1) 0 2 1 k = iv k := fun k a b => by rw [xu2_ne a, woC_ne (by omega)]
  refine ⟨?_, ⟨?_, Or.inr imS_24, fun _ => ?_⟩, ?_, htp.keep ?_ (hr 54 (by decide) (by decide)) (hr 69 (by decide) (by decide)) (imS_79 hn (by decide)) (imS_k hn (by decide) (by decide) (by decide)), hst.keep (fun k a b => hr k (by omega) (by omega)) (fun _ _ _ => rfl) (imS_k hn (by decide) (by decide) (by decide)) (imS_k hn (by decide) (by decide) (by decide))⟩
  · rw [imS_vL hn]
    exact CW_congr (fun i hi => hr _ (by omega) (by omega)) h
  · rw [xu2_s, imS_24]
  · refine CW_cg hG.1.1.2 hG.1.2.1.2 hG.1.2.2.1.2 (imS_eq hn) ?_
    exact CW_congr (fun i hi => xu2_ne (by omega)) (CW_copy (Or.inl (by decide)) hG.1.1.2 hG.1.2.1.2 hG.1.2.2.1.2 h)
  · rw [imS_vL hn]
    exact RD_congr (fun k a b => hr k (by omega) (by omega)) hrd
  · rw [hr 53 (by decide) (by decide)]
set_option maxRecDepth 100000 in
theorem c_image (hn : n = 250) (hC : CX iv lg sg tw) (hG : GG t sg) (k : ∀ iv', CX iv' lg (imS n sg) tw → refS iv' lg iv lg → Q (some (.int 1)) SH RF iv' lg) : Sp L xs m_SR_image [.ref 0] SH RF iv lg Q := by
  refine sgo [] 100 ?_
  refine s_woC (Or.inl ⟨rfl, rfl⟩) ?_
  refine And.intro (Or.inr rfl) ?_
  refine k _ (hC.im hn hG) ⟨fun j hj => ?_, fun _ _ => rfl⟩
  rw [xu2_ne (by omega), woC_ne (by omega)]
theorem e_image : EQ m_SR_image m_Mo_image [] := by
  obtain ⟨n, hn⟩ : ∃ n : Nat, n = 250 := ⟨250, rfl⟩
  refine EQ.of (fun sg tw => (1, imS n sg, tw)) (fun hC hG ht k => c_image hn hC hG (fun iv' h1 h2 => k iv' _ h1 h2)) (fun hM hG ht k => m_image hn hM (fun iv' h1 h2 => k iv' _ h1 h2)) (fun {t sg tw} hG ht => ?_)
  refine ⟨?_, fun _ => ?_⟩
  · show Gv (t + 1) (vL (imS n sg))
    rw [imS_vL hn]
    exact hG.1.mono (Nat.le_succ t)
  · exact Gv_cg (imS_eq hn) (hG.1.mono (Nat.le_succ t))
def rsS2 (s : xIv) : xIv := xu2 (xu2 (xu2 (xu2 (xu2 s 79 1 (s 97 0)) 79 3 (s 97 1)) 79 8 (s 97 2)) 79 6 (s 97 3)) 79 9 (s 97 4)
def rsS (n : Nat) (sg : xIv) : xIv := rsS2 (rsR n 0 sg)
set_option maxRecDepth 100000 in
theorem m_restore_l : ∀ (r k : Nat) (x : Int32) (iv sg : xIv), k + r = 250 → x = nI k → MV iv lg sg tw → (∀ iv' x', MV iv' lg (rsR r k sg) tw → clsS iv' lg iv lg → Wp L xs m_Mo_restore 21 [some (.ref 79), some (.int x')] [] SH RF iv' lg Q) → Wp L xs m_Mo_restore 7 [some (.ref 79), some (.int x)] [] SH RF iv lg Q
  | 0, k, x, iv, sg, h, hx, hM, kk => by
    obtain rfl : k = 250 := by omega
    subst hx
    refine wgo [7, 21] 100 ?_
    exact And.intro (fun _ => kk iv _ hM clsS.rfl) (fun z => absurd (by decide) z)
  | r + 1, k, x, iv, sg, h, hx, hM, kk => by
    subst hx
    refine wgo [7, 21] 100 ?_
    refine And.intro (fun z => absurd (show nI k < (250 : Int32) from nI_lt (b := 250) (by omega) (by decide)) (lenl z)) (fun _ => ?_)
    refine And.intro (vp_N (by omega)) ?_
    refine m_carried (by omega) ?_
    have bk := cR_bd (k := k) (by omega)
    have e0 : crV iv k (iv 96 (nI k).toNatClampNeg) 1 = sg 96 k := by unfold crV; rw [if_neg (by decide), cl, hM.2.1.2.2.2.2.2.2.1]
    have M1 : MV (xu2 iv (cR k) (cO k) (crV iv k (iv 96 (nI k).toNatClampNeg) 1)) lg (xu2 sg (cR k) (cO k) (sg 96 k)) tw := by
      rw [e0]
      exact hM.up _ _ _
    exact m_restore_l r (k + 1) _ _ (xu2 sg (cR k) (cO k) (sg 96 k)) (by omega) (nI_1 k) M1 (fun iv' x' c1 c2 => kk iv' x' c1 (c2.trans (clsS.rfl.up (by omega))))
def opRs (n : Nat) (sg : xIv) : Int32 × xIv := if sg 79 24 = 0 then (-4, sg) else (1, rsS n sg)
set_option maxRecDepth 100000 in
theorem m_restore (hn : n = 250) (hM : MV iv lg sg tw) (k : ∀ iv', MV iv' lg (opRs n sg).2 tw → clsS iv' lg iv lg → Q (some (.int (opRs n sg).1)) SH RF iv' lg) : Sp L xs m_Mo_restore [.ref 79] SH RF iv lg Q := by
  have e24 : iv 79 24 = sg 79 24 := hM.1.2.2.2.2.2.2
  refine sgo [7] 100 ?_
  refine And.intro (fun z => ?_) (fun z => ?_)
  · rw [e24] at z
    have e : opRs n sg = (1, rsS n sg) := if_neg z
    rw [e] at k
    refine m_restore_l n 0 _ iv sg (by omega) rfl hM (fun iv1 x' M1 R1 => ?_)
    refine wgo [] 100 ?_
    refine And.intro (show vp_in (nI 0) 5 from vp_N (by decide)) ?_
    refine And.intro (show vp_in (nI 1) 5 from vp_N (by decide)) ?_
    refine And.intro (show vp_in (nI 2) 5 from vp_N (by decide)) ?_
    refine And.intro (show vp_in (nI 3) 5 from vp_N (by decide)) ?_
    refine And.intro (show vp_in (nI 4) 5 from vp_N (by decide)) ?_
    have b := M1.2.1.2.2.2.2.2.2.2.1
    have M2 : MV (xu2 (xu2 (xu2 (xu2 (xu2 iv1 79 1 (iv1 97 0)) 79 3 (iv1 97 1)) 79 8 (iv1 97 2)) 79 6 (iv1 97 3)) 79 9 (iv1 97 4)) lg (rsS n sg) tw := by
      rw [b]
      exact ((((M1.up _ _ _).up _ _ _).up _ _ _).up _ _ _).up _ _ _
    exact k _ M2 (((((R1.up (by decide)).up (by decide)).up (by decide)).up (by decide)).up (by decide))
  · rw [e24] at z
    have e : opRs n sg = (-4, sg) := if_pos (Decidable.not_not.mp z)
    rw [e] at k
    exact k iv hM clsS.rfl
theorem rsS_k (hn : n = 250) {k : Nat} (h : (k < 79 ∨ 85 ≤ k)) : rsS n sg k = sg k := by
  unfold rsS rsS2
  rw [xu2_ne (by omega), xu2_ne (by omega), xu2_ne (by omega), xu2_ne (by omega), xu2_ne (by omega), (rsR_v n 0 sg (by omega)).1 k (by omega)]
theorem rsS_79 (hn : n = 250) {j : Nat} (h1 : j ≠ 1 ∧ j ≠ 3 ∧ j ≠ 8 ∧ j ≠ 6 ∧ j ≠ 9) : rsS n sg 79 j = sg 79 j := by
  unfold rsS rsS2
  rw [xu2_j h1.2.2.2.2, xu2_j h1.2.2.2.1, xu2_j h1.2.2.1, xu2_j h1.2.1, xu2_j h1.1, (rsR_v n 0 sg (by omega)).1 79 (by omega)]
theorem rsS_n (hn : n = 250) : rsS n sg 79 1 = sg 97 0 ∧ rsS n sg 79 3 = sg 97 1 ∧ rsS n sg 79 8 = sg 97 2 ∧ rsS n sg 79 6 = sg 97 3 ∧ rsS n sg 79 9 = sg 97 4 := by
  have e : ∀ j, rsR n 0 sg 97 j = sg 97 j := fun j => by rw [(rsR_v n 0 sg (by omega)).1 97 (by omega)]
  unfold rsS rsS2
  rw [e, e, e, e, e]
  refine ⟨?_, ?_, ?_, ?_, ?_⟩
  · rw [xu2_j (by decide), xu2_j (by decide), xu2_j (by decide), xu2_j (by decide), xu2_s]
  · rw [xu2_j (by decide), xu2_j (by decide), xu2_j (by decide), xu2_s]
  · rw [xu2_j (by decide), xu2_j (by decide), xu2_s]
  · rw [xu2_j (by decide), xu2_s]
  · rw [xu2_s]
theorem rsS_c (hn : n = 250) {j : Nat} (h : j < 250) : rsS n sg (cR j) (cO j) = sg 96 j := by
  have := cR_bd h
  unfold rsS rsS2
  rw [xu2_ne (by omega), xu2_ne (by omega), xu2_ne (by omega), xu2_ne (by omega), xu2_ne (by omega)]
  exact (rsR_v n 0 sg (by omega)).2.1 j (Nat.zero_le j) (by omega)
theorem rsS_eq (hn : n = 250) : vEq (vK sg) (vL (rsS n sg)) := by
  obtain ⟨c0, c1, c2, c3, c4⟩ := cRO_at
  obtain ⟨a0, a1, a2, a3, a4⟩ := rsS_n hn (sg := sg)
  refine ⟨fun j hj => ?_, fun j hj => ?_, fun j hj => ?_, fun j hj => ?_, fun j hj => ?_, fun j hj => ?_⟩
  · have h5 : j = 0 ∨ j = 1 ∨ j = 2 ∨ j = 3 ∨ j = 4 := by omega
    rcases h5 with rfl | rfl | rfl | rfl | rfl
    · exact a0
    · exact a1
    · exact a2
    · exact a3
    · exact a4
  · show rsS n sg 80 j = sg 96 j
    have := rsS_c hn (sg := sg) (j := j) (by omega)
    rw [(c0 j hj).1, (c0 j hj).2] at this
    exact this
  · show rsS n sg 81 j = sg 96 (120 + j)
    have := rsS_c hn (sg := sg) (j := 120 + j) (by omega)
    rw [(c1 j hj).1, (c1 j hj).2] at this
    exact this
  · show rsS n sg 82 j = sg 96 (176 + j)
    have := rsS_c hn (sg := sg) (j := 176 + j) (by omega)
    rw [(c2 j hj).1, (c2 j hj).2] at this
    exact this
  · show rsS n sg 83 j = sg 96 (240 + j)
    have := rsS_c hn (sg := sg) (j := 240 + j) (by omega)
    rw [(c3 j hj).1, (c3 j hj).2] at this
    exact this
  · show rsS n sg 84 j = sg 96 (244 + j)
    have := rsS_c hn (sg := sg) (j := 244 + j) (by omega)
    rw [(c4 j hj).1, (c4 j hj).2] at this
    exact this
theorem rsS_vK (hn : n = 250) : vK (rsS n sg) = vK sg := by
  funext r j
  unfold vK
  rw [rsS_k hn (by omega), rsS_k hn (by omega)]
theorem CX.rs (hC : CX iv lg sg tw) (hn : n = 250) (hG : GG t sg) (h1 : sg 79 24 = 1) : CX (xu2 (woC iv 1 19) 37 2 0) lg (rsS n sg) tw := by
  obtain ⟨-, ⟨k1, k2, k3⟩, hrd, htp, hst⟩ := hC
  have hg := hG.2 h1
  have hr : ∀ k, k ≠ 37 → (k < 1 ∨ 19 ≤ k) → xu2 (woC iv 1 19) 37 2 0 k = iv k := fun k a b => by rw [xu2_ne a, woC_ne (by omega)]
  refine ⟨?_, ⟨?_, ?_, fun _ => ?_⟩, RD.zero xu2_s, htp.keep ?_ (hr 54 (by decide) (by decide)) (hr 69 (by decide) (by decide)) (rsS_79 hn (by decide)) (rsS_k hn (by omega)), hst.keep (fun k a b => hr k (by omega) (by omega)) (fun _ _ _ => rfl) (rsS_k hn (by omega)) (rsS_k hn (by omega))⟩
  · refine CW_cg hg.1.2 hg.2.1.2 hg.2.2.1.2 (rsS_eq hn) ?_
    exact CW_congr (fun i hi => xu2_ne (by omega)) (CW_copy (Or.inr (by decide)) hg.1.2 hg.2.1.2 hg.2.2.1.2 (k3 h1))
  · rw [hr 0 (by decide) (by decide), rsS_79 hn (by decide)]; exact k1
  · rw [rsS_79 hn (by decide)]; exact k2
  · rw [rsS_vK hn]
    exact CW_congr (fun i hi => hr _ (by omega) (by omega)) (k3 h1)
  · rw [hr 53 (by decide) (by decide)]
set_option maxRecDepth 100000 in
theorem c_restore (hn : n = 250) (hC : CX iv lg sg tw) (hG : GG t sg) (k : ∀ iv', CX iv' lg (opRs n sg).2 tw → refS iv' lg iv lg → Q (some (.int (opRs n sg).1)) SH RF iv' lg) : Sp L xs m_SR_restore [.ref 0] SH RF iv lg Q := by
  have e24 : iv 0 2 = sg 79 24 := hC.2.1.1
  refine sgo [] 100 ?_
  refine And.intro (fun z => ?_) (fun z => ?_)
  · rw [e24] at z
    have e : opRs n sg = (1, rsS n sg) := if_neg z
    rw [e] at k
    refine s_woC (Or.inr ⟨rfl, rfl⟩) ?_
    refine s_forget ?_
    refine k _ (hC.rs hn hG (by rcases hC.2.1.2.1 with h | h; exact absurd h z; exact h)) ⟨fun j hj => ?_, fun _ _ => rfl⟩
    rw [xu2_ne (by omega), woC_ne (by omega)]
  · rw [e24] at z
    have e : opRs n sg = (-4, sg) := if_pos (Decidable.not_not.mp z)
    rw [e] at k
    exact k iv hC refS.rfl
theorem e_restore : EQ m_SR_restore m_Mo_restore [] := by
  obtain ⟨n, hn⟩ : ∃ n : Nat, n = 250 := ⟨250, rfl⟩
  intro L xs t iv lg Q hI ht k
  obtain ⟨sg, tw, hC, hM, hG⟩ := hI
  refine c_restore hn hC hG (fun iv1 C1 R1 => k _ iv1 lg (fun Q2 k2 => ?_))
  refine m_restore (n := n) hn (MV_congr R1 hM) (fun iv2 M2 R2 => k2 _ _ ⟨_, _, CX_congr R2 C1, M2, ?_⟩)
  unfold opRs
  split
  · exact hG.mono (Nat.le_succ t)
  · rename_i z
    have h1 : sg 79 24 = 1 := by rcases hC.2.1.2.1 with h | h; exact absurd h z; exact h
    refine ⟨Gv_cg (rsS_eq hn) ((hG.2 h1).mono (Nat.le_succ t)), fun _ => ?_⟩
    show Gv (t + 1) (vK (rsS n sg))
    rw [rsS_vK hn]
    exact (hG.2 h1).mono (Nat.le_succ t)
end IMG
