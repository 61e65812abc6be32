-- ===== how parts of a state stay =====
theorem xu2_s {α : Type} {f : Nat → Nat → α} {k j : Nat} {x : α} : xu2 f k j x k j = x := by unfold xu2; rw [if_pos rfl, if_pos rfl]
theorem xu2_k {α : Type} {f : Nat → Nat → α} {k j k' j' : Nat} {x : α} (h : k' ≠ k) : xu2 f k j x k' j' = f k' j' := by unfold xu2; rw [if_neg h]
theorem xu2_j {α : Type} {f : Nat → Nat → α} {k j k' j' : Nat} {x : α} (h : j' ≠ j) : xu2 f k j x k' j' = f k' j' := by unfold xu2; rw [if_neg h, ite_self]
theorem xu2_rc {α : Type} {f g : Nat → Nat → α} {k j k' : Nat} {x : α} (h : f k' = g k') : xu2 f k j x k' = xu2 g k j x k' := by
  funext b
  unfold xu2
  rw [h]
theorem xu2_ec {α : Type} {f g : Nat → Nat → α} {k j k' j' : Nat} {x : α} (h : f k' j' = g k' j') : xu2 f k j x k' j' = xu2 g k j x k' j' := by
  unfold xu2
  rw [h]
theorem ni5 (n : Nat) : (5 : Int32) * nI n = nI (5 * n) := pk_mul 5 n
theorem ni7 (n : Nat) : (7 : Int32) * nI n = nI (7 * n) := pk_mul 7 n
theorem ni_a (n c : Nat) : nI n + nI c = nI (n + c) := nI_add n c
theorem cl {n : Nat} (h : n < 2 ^ 31 := by omega) : (nI n).toNatClampNeg = n := nI_clamp h
theorem CWy.keep {iv iv' : xIv} {w : Nat} {v v' : xIv} (h : CWy iv w v) (hr : ∀ i, 1 ≤ i → i < 7 → iv' (w + i) = iv (w + i)) (h0 : v' 0 0 = v 0 0) (h1 : ∀ j, j < 5 * cnt v 0 → v' 1 j = v 1 j) : CWy iv' w v' := by
  have e0 : cnt v' 0 = cnt v 0 := by unfold cnt; rw [h0]
  unfold CWy at h ⊢
  rw [hr 1 (by decide) (by decide), hr 2 (by decide) (by decide), hr 3 (by decide) (by decide), hr 4 (by decide) (by decide), hr 5 (by decide) (by decide), hr 6 (by decide) (by decide), h0, e0]
  refine ⟨h.1, fun i hi => ?_⟩
  rw [h1 _ (by omega), h1 _ (by omega), h1 _ (by omega), h1 _ (by omega), h1 _ (by omega)]
  exact h.2 i hi
theorem CWp.keep {iv iv' : xIv} {w : Nat} {v v' : xIv} (h : CWp iv w v) (hr : ∀ i, 7 ≤ i → i < 16 → iv' (w + i) = iv (w + i)) (h0 : v' 0 1 = v 0 1) (h1 : ∀ j, j < 7 * cnt v 1 → v' 2 j = v 2 j) (h2 : ∀ j, j < 64 → v' 3 j = v 3 j) : CWp iv' w v' := by
  have e0 : cnt v' 1 = cnt v 1 := by unfold cnt; rw [h0]
  unfold CWp at h ⊢
  rw [hr 7 (by decide) (by decide), hr 8 (by decide) (by decide), hr 9 (by decide) (by decide), hr 10 (by decide) (by decide), hr 11 (by decide) (by decide), hr 12 (by decide) (by decide), hr 13 (by decide) (by decide), hr 14 (by decide) (by decide), hr 15 (by decide) (by decide), h0, e0]
  refine ⟨h.1, fun i hi => ?_, fun j hj => by rw [h2 j hj]; exact h.2.2 j hj⟩
  rw [h1 _ (by omega), h1 _ (by omega), h1 _ (by omega), h1 _ (by omega), h1 _ (by omega), h1 _ (by omega), h1 _ (by omega)]
  exact h.2.1 i hi
theorem CWo.keep {iv iv' : xIv} {w : Nat} {v v' : xIv} (h : CWo iv w v) (hr : iv' w = iv w) (hr1 : iv' (w + 16) = iv (w + 16)) (hr2 : iv' (w + 17) = iv (w + 17)) (h0 : v' 0 2 = v 0 2) (h3 : v' 0 3 = v 0 3) (h4 : v' 0 4 = v 0 4) (h5 : ∀ j, j < cnt v 2 → v' 5 j = v 5 j) (h6 : ∀ j, j < 4 → v' 4 j = v 4 j) : CWo iv' w v' := by
  have e0 : cnt v' 2 = cnt v 2 := by unfold cnt; rw [h0]
  unfold CWo at h ⊢
  rw [hr, hr1, hr2, h0, h3, h4, e0]
  exact ⟨h.1, fun j hj => by rw [h5 j hj]; exact h.2.1 j hj, fun j hj => by rw [h6 j hj]; exact h.2.2.1 j hj, h.2.2.2⟩
theorem RD.keep {iv iv' : xIv} {v v' : xIv} (h : RD iv v) (hr : ∀ k, 37 ≤ k → k < 43 → iv' k = iv k) (h0 : v' 0 0 = v 0 0) (h1 : ∀ w f, w < cnt v 0 → f < 4 → v' 1 (5 * w + f) = v 1 (5 * w + f)) : RD iv' v' := by
  obtain ⟨kn, g1, g2, g3⟩ := RD_congr hr h
  exact ⟨kn, g1, g2, fun k hk hb a b ha hb2 => by rw [dst_congr h0 h1]; exact g3 k hk hb a b ha hb2⟩
theorem RD.zero {iv : xIv} {v : xIv} (h : iv 37 2 = 0) : RD iv v := ⟨0, by decide, h, fun k _ hb => by simp at hb⟩
theorem TP.keep {iv iv' sg sg' : xIv} (h : TP iv sg) (h1 : iv' 53 1 = iv 53 1) (h2 : iv' 54 = iv 54) (h3 : iv' 69 = iv 69) (h4 : sg' 79 12 = sg 79 12) (h5 : sg' 86 = sg 86) : TP iv' sg' := by
  unfold TP at h ⊢
  rw [h1, h2, h3, h4, h5]
  exact h
theorem ST.keep {iv iv' sg sg' : xIv} {lg lg' : xLg} {tw : Nat → Int64} (h : ST iv lg sg tw) (hr : ∀ k, 71 ≤ k → k < 79 → iv' k = iv k) (hl : ∀ k, 71 ≤ k → k < 79 → lg' k = lg k) (h1 : sg' 98 = sg 98) (h2 : sg' 99 = sg 99) : ST iv' lg' sg' tw := by
  unfold ST at h ⊢
  rw [h1, h2]
  exact ST_congr hr hl h
theorem CX.kept {iv iv' sg sg' : xIv} {lg : xLg} {tw : Nat → Int64} (h : CX iv lg sg tw) (hr : ∀ k, 19 ≤ k → k < 37 → iv' k = iv k) (h0 : iv' 0 2 = iv 0 2) (h1 : sg' 79 24 = sg 79 24) (h2 : sg' 96 = sg 96) (h3 : sg' 97 = sg 97) : iv' 0 2 = sg' 79 24 ∧ (sg' 79 24 = 0 ∨ sg' 79 24 = 1) ∧ (sg' 79 24 = 1 → CW iv' 19 (vK sg')) := by
  obtain ⟨-, ⟨g1, g2, g3⟩, -⟩ := h
  rw [h0, h1]
  refine ⟨g1, g2, fun z => ?_⟩
  have e : vK sg' = vK sg := by
    funext r j
    unfold vK
    rw [h2, h3]
  rw [e]
  exact CW_congr (fun i hi => hr _ (by omega) (by omega)) (g3 z)
theorem Gv.mono {t t' : Nat} {v : xIv} (h : Gv t v) (ht : t ≤ t') : Gv t' v := by
  obtain ⟨h1, h2, h3, h4, h5, h6, h7, h8, h9, h10⟩ := h
  exact ⟨h1, h2, h3, h4, h5, h6, h7, fun j hj => ⟨(h8 j hj).1, by have := (h8 j hj).2; omega⟩, h9, h10⟩
theorem GG.mono {t t' : Nat} {sg : xIv} (h : GG t sg) (ht : t ≤ t') : GG t' sg := ⟨h.1.mono ht, fun z => (h.2 z).mono ht⟩
theorem GG.kept {t : Nat} {sg sg' : xIv} (h : GG t sg) (hL : Gv (t + 1) (vL sg')) (h1 : sg' 79 24 = sg 79 24) (h2 : sg' 96 = sg 96) (h3 : sg' 97 = sg 97) : GG (t + 1) sg' := by
  refine ⟨hL, fun z => ?_⟩
  have e : vK sg' = vK sg := by
    funext r j
    unfold vK
    rw [h2, h3]
  rw [e]
  exact (h.2 (h1 ▸ z)).mono (Nat.le_succ t)
/-- a call of the class and the same call of the reference: like answers, and the state stands -/
def EQ (mc mm : Nat) (as : List Value) : Prop := ∀ {L : Nat} {xs : Nat → Int32} {t : Nat} {iv : xIv} {lg : xLg} {Q : xQ}, INV t iv lg → t < 512 → (∀ (v : Int32) (iv1 : xIv) (lg1 : xLg), (∀ Q2 : xQ, (∀ iv2 lg2, INV (t + 1) iv2 lg2 → Q2 (some (.int v)) SH RF iv2 lg2) → Sp L xs mm (.ref 79 :: as) SH RF iv1 lg1 Q2) → Q (some (.int v)) SH RF iv1 lg1) → Sp L xs mc (.ref 0 :: as) SH RF iv lg Q
/-- out of the two sides, each against one account of the call -/
theorem EQ.of {mc mm : Nat} {as : List Value} (op : xIv → (Nat → Int64) → Int32 × xIv × (Nat → Int64))
    (hc : ∀ {L : Nat} {xs : Nat → Int32} {t : Nat} {iv : xIv} {lg : xLg} {Q : xQ} {sg : xIv} {tw : Nat → Int64}, CX iv lg sg tw → GG t sg → t < 512 → (∀ iv' lg', CX iv' lg' (op sg tw).2.1 (op sg tw).2.2 → refS iv' lg' iv lg → Q (some (.int (op sg tw).1)) SH RF iv' lg') → Sp L xs mc (.ref 0 :: as) SH RF iv lg Q)
    (hm : ∀ {L : Nat} {xs : Nat → Int32} {t : Nat} {iv : xIv} {lg : xLg} {Q : xQ} {sg : xIv} {tw : Nat → Int64}, MV iv lg sg tw → GG t sg → t < 512 → (∀ iv' lg', MV iv' lg' (op sg tw).2.1 (op sg tw).2.2 → clsS iv' lg' iv lg → Q (some (.int (op sg tw).1)) SH RF iv' lg') → Sp L xs mm (.ref 79 :: as) SH RF iv lg Q)
    (hg : ∀ {t : Nat} {sg : xIv} {tw : Nat → Int64}, GG t sg → t < 512 → GG (t + 1) (op sg tw).2.1) : EQ mc mm as := by
  intro L xs t iv lg Q hI ht k
  obtain ⟨sg, tw, hC, hM, hG⟩ := hI
  refine hc hC hG ht (fun iv1 lg1 hC1 hr => k _ iv1 lg1 (fun Q2 k2 => ?_))
  exact hm (MV_congr hr hM) hG ht (fun iv2 lg2 hM2 hs => k2 iv2 lg2 ⟨_, _, CX_congr hs hC1, hM2, hg hG ht⟩)
