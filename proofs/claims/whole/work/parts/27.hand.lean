-- ===== hand, lend, pay =====
theorem addI {a b : Int32} (h1 : -2147483648 ≤ a.toInt + b.toInt) (h2 : a.toInt + b.toInt < 2147483648) : (a + b).toInt = a.toInt + b.toInt := by
  rw [Int32.toInt_add]
  simp only [Int.bmod_def]
  omega
theorem subI {a b : Int32} (h1 : -2147483648 ≤ a.toInt - b.toInt) (h2 : a.toInt - b.toInt < 2147483648) : (a - b).toInt = a.toInt - b.toInt := by
  rw [Int32.toInt_sub]
  simp only [Int.bmod_def]
  omega
theorem tl0 : (0 : Int32).toInt = 0 := by decide
theorem tl1 : (1 : Int32).toInt = 1 := by decide
theorem tl9 : (99999 : Int32).toInt = 99999 := by decide
theorem imn_toInt (x y : Int32) : (imn x y).toInt = if y.toInt < x.toInt then y.toInt else x.toInt := by
  unfold imn
  by_cases h : y < x
  · rw [if_pos h, if_pos (it.mp h)]
  · rw [if_neg h, if_neg (fun z => h (it.mpr z))]
/-- n steps go from p's ring to q's -/
def hnd1 (sg : xIv) (p : Nat) (n : Int32) : xIv := xu2 sg 81 (7 * p + 2) (sg 81 (7 * p + 2) - n)
def hnd2 (sg : xIv) (p : Nat) (n : Int32) : xIv := xu2 (hnd1 sg p n) 81 (7 * p + 6) (hnd1 sg p n 81 (7 * p + 6) + n)
def hnd3 (sg : xIv) (p q : Nat) (n : Int32) : xIv := xu2 (hnd2 sg p n) 81 (7 * q + 2) (imn 99999 (hnd2 sg p n 81 (7 * q + 2) + n))
def hnd (sg : xIv) (p q : Nat) (n : Int32) : xIv := xu2 (hnd3 sg p q n) 81 (7 * q + 5) (hnd3 sg p q n 81 (7 * q + 5) + n)
section HAND
variable {L : Nat} {xs : Nat → Int32} {iv : xIv} {lg : xLg} {Q : xQ} {sg : xIv} {tw : Nat → Int64} {t : Nat}
theorem CX.rd (hC : CX iv lg sg tw) {p : Nat} (hp : p < cnt (vL sg) 1) : iv 9 p = sg 81 (7 * p) ∧ iv 10 p = sg 81 (7 * p + 1) ∧ iv 11 p = sg 81 (7 * p + 2) ∧ iv 12 p = sg 81 (7 * p + 3) ∧ iv 13 p = sg 81 (7 * p + 4) ∧ iv 14 p = sg 81 (7 * p + 5) ∧ iv 15 p = sg 81 (7 * p + 6) := hC.1.2.1.2.1 p hp
theorem hnd_cnt {p q : Nat} {n : Int32} (i : Nat) : cnt (vL (hnd sg p q n)) i = cnt (vL sg) i := by
  unfold hnd hnd3 hnd2 hnd1
  rw [cnt_ne (by decide), cnt_ne (by decide), cnt_ne (by decide), cnt_ne (by decide)]
theorem hnd_row {p q k : Nat} {n : Int32} (h : k ≠ 81) : hnd sg p q n k = sg k := by
  unfold hnd hnd3 hnd2 hnd1
  rw [xu2_ne h, xu2_ne h, xu2_ne h, xu2_ne h]
theorem Gv_hnd {p q : Nat} {n : Int32} (hG : Gv t (vL sg)) (hp : p < cnt (vL sg) 1) (hq : q < cnt (vL sg) 1) (h0 : 0 ≤ n.toInt) (hn : n ≤ sg 81 (7 * p + 2)) : Gv t (vL (hnd sg p q n)) := by
  have hr : 0 ≤ sg 81 (7 * p + 2) ∧ sg 81 (7 * p + 2) ≤ 99999 := (hG.2.2.2.2.2.2.1 p hp).2.2.1
  rw [il, il, tl0, tl9] at hr
  rw [il] at hn
  have g1 : Gv t (vL (hnd1 sg p n)) := by
    refine hG.p (by decide) ⟨fun z => absurd z (by decide), fun z => absurd z (by decide), fun _ => ?_, fun z => absurd z (by decide)⟩
    rw [il, il, tl0, tl9, subI (by omega) (by omega)]
    omega
  have g2 : Gv t (vL (hnd2 sg p n)) := g1.p (by decide) ⟨fun z => absurd z (by decide), fun z => absurd z (by decide), fun z => absurd z (by decide), fun z => absurd z (by decide)⟩
  have c2 : cnt (vL (hnd2 sg p n)) 1 = cnt (vL sg) 1 := by unfold hnd2 hnd1; rw [cnt_ne (by decide), cnt_ne (by decide)]
  have hr2 : 0 ≤ hnd2 sg p n 81 (7 * q + 2) ∧ hnd2 sg p n 81 (7 * q + 2) ≤ 99999 := (g2.2.2.2.2.2.2.1 q (by rw [c2]; exact hq)).2.2.1
  rw [il, il, tl0, tl9] at hr2
  have g3 : Gv t (vL (hnd3 sg p q n)) := by
    refine g2.p (by decide) ⟨fun z => absurd z (by decide), fun z => absurd z (by decide), fun _ => ?_, fun z => absurd z (by decide)⟩
    rw [il, il, imn_toInt, tl0, tl9, addI (by omega) (by omega)]
    split <;> omega
  exact g3.p (by decide) ⟨fun z => absurd z (by decide), fun z => absurd z (by decide), fun z => absurd z (by decide), fun z => absurd z (by decide)⟩
set_option maxRecDepth 100000 in
theorem s_hand {p q : Nat} {n : Int32} (hC : CX iv lg sg tw) (h8 : cnt (vL sg) 1 ≤ 8) (hp : p < cnt (vL sg) 1) (hq : q < cnt (vL sg) 1) (k : ∀ iv', CX iv' lg (hnd sg p q n) tw → refS iv' lg iv lg → Q none SH RF iv' lg) : Sp L xs m_People_hand [.ref 8, .int (nI p), .int (nI q), .int n] SH RF iv lg Q := by
  have hvp : vp_in (nI p) 8 := vp_N (by omega)
  have hvq : vp_in (nI q) 8 := vp_N (by omega)
  have ep : (nI p).toNatClampNeg = p := cl
  have eq' : (nI q).toNatClampNeg = q := cl
  refine sgo [] 100 ?_
  refine And.intro hvp ?_
  refine And.intro hvp ?_
  refine And.intro hvp ?_
  refine And.intro hvp ?_
  refine And.intro hvq ?_
  refine And.intro hvq ?_
  refine And.intro hvq ?_
  refine And.intro hvq ?_
  show Q none SH RF _ lg
  rw [ep, eq']
  have C1 : CX (xu2 iv 11 p (iv 11 p - n)) lg (hnd1 sg p n) tw := by
    unfold hnd1
    rw [(hC.rd hp).2.2.1]
    exact hC.p hp (f := 2) (by decide)
  have c1 : cnt (vL (hnd1 sg p n)) 1 = cnt (vL sg) 1 := cnt_ne (by decide)
  generalize h1 : xu2 iv 11 p (iv 11 p - n) = iv1 at C1 ⊢
  have C2 : CX (xu2 iv1 15 p (iv1 15 p + n)) lg (hnd2 sg p n) tw := by
    unfold hnd2
    rw [(C1.rd (by rw [c1]; exact hp)).2.2.2.2.2.2]
    exact C1.p (by rw [c1]; exact hp) (f := 6) (by decide)
  have c2 : cnt (vL (hnd2 sg p n)) 1 = cnt (vL sg) 1 := (cnt_ne (by decide)).trans c1
  generalize h2 : xu2 iv1 15 p (iv1 15 p + n) = iv2 at C2 ⊢
  have C3 : CX (xu2 iv2 11 q (imn 99999 (iv2 11 q + n))) lg (hnd3 sg p q n) tw := by
    unfold hnd3
    rw [(C2.rd (by rw [c2]; exact hq)).2.2.1]
    exact C2.p (by rw [c2]; exact hq) (f := 2) (by decide)
  have c3 : cnt (vL (hnd3 sg p q n)) 1 = cnt (vL sg) 1 := (cnt_ne (by decide)).trans c2
  generalize h3 : xu2 iv2 11 q (imn 99999 (iv2 11 q + n)) = iv3 at C3 ⊢
  have C4 : CX (xu2 iv3 14 q (iv3 14 q + n)) lg (hnd sg p q n) tw := by
    unfold hnd
    rw [(C3.rd (by rw [c3]; exact hq)).2.2.2.2.2.1]
    exact C3.p (by rw [c3]; exact hq) (f := 5) (by decide)
  refine k _ C4 ?_
  rw [← h3, ← h2, ← h1]
  exact (((refS.rfl.up (by decide)).up (by decide)).up (by decide)).up (by decide)
set_option maxRecDepth 100000 in
theorem m_send {p q : Nat} {n : Int32} (hM : MV iv lg sg tw) (hp : p < 8) (hq : q < 8) (k : ∀ iv', MV iv' lg (hnd sg p q n) tw → clsS iv' lg iv lg → Q none SH RF iv' lg) : Sp L xs m_Mo_send [.ref 79, .int (nI p), .int (nI q), .int n] SH RF iv lg Q := by
  have ep : ∀ c : Nat, c < 7 → (7 : Int32) * nI p + nI c = nI (7 * p + c) := fun c _ => by rw [ni7, ni_a]
  have eq' : ∀ c : Nat, c < 7 → (7 : Int32) * nI q + nI c = nI (7 * q + c) := fun c _ => by rw [ni7, ni_a]
  have vp2 : vp_in ((7 : Int32) * nI p + 2) 56 := by rw [show (7 : Int32) * nI p + 2 = nI (7 * p + 2) from ep 2 (by decide)]; exact vp_N (by omega)
  have vp6 : vp_in ((7 : Int32) * nI p + 6) 56 := by rw [show (7 : Int32) * nI p + 6 = nI (7 * p + 6) from ep 6 (by decide)]; exact vp_N (by omega)
  have vq2 : vp_in ((7 : Int32) * nI q + 2) 56 := by rw [show (7 : Int32) * nI q + 2 = nI (7 * q + 2) from eq' 2 (by decide)]; exact vp_N (by omega)
  have vq5 : vp_in ((7 : Int32) * nI q + 5) 56 := by rw [show (7 : Int32) * nI q + 5 = nI (7 * q + 5) from eq' 5 (by decide)]; exact vp_N (by omega)
  have cp2 : ((7 : Int32) * nI p + 2).toNatClampNeg = 7 * p + 2 := by rw [show (7 : Int32) * nI p + 2 = nI (7 * p + 2) from ep 2 (by decide), cl]
  have cp6 : ((7 : Int32) * nI p + 6).toNatClampNeg = 7 * p + 6 := by rw [show (7 : Int32) * nI p + 6 = nI (7 * p + 6) from ep 6 (by decide), cl]
  have cq2 : ((7 : Int32) * nI q + 2).toNatClampNeg = 7 * q + 2 := by rw [show (7 : Int32) * nI q + 2 = nI (7 * q + 2) from eq' 2 (by decide), cl]
  have cq5 : ((7 : Int32) * nI q + 5).toNatClampNeg = 7 * q + 5 := by rw [show (7 : Int32) * nI q + 5 = nI (7 * q + 5) from eq' 5 (by decide), cl]
  have M1 : MV (xu2 iv 81 (7 * p + 2) (iv 81 (7 * p + 2) - n)) lg (hnd1 sg p n) tw := by
    unfold hnd1
    rw [hM.2.1.2.1]
    exact hM.up _ _ _
  generalize h1 : xu2 iv 81 (7 * p + 2) (iv 81 (7 * p + 2) - n) = iv1 at M1
  have M2 : MV (xu2 iv1 81 (7 * p + 6) (iv1 81 (7 * p + 6) + n)) lg (hnd2 sg p n) tw := by
    unfold hnd2
    rw [M1.2.1.2.1]
    exact M1.up _ _ _
  generalize h2 : xu2 iv1 81 (7 * p + 6) (iv1 81 (7 * p + 6) + n) = iv2 at M2
  have M3 : MV (xu2 iv2 81 (7 * q + 2) (imn 99999 (iv2 81 (7 * q + 2) + n))) lg (hnd3 sg p q n) tw := by
    unfold hnd3
    rw [M2.2.1.2.1]
    exact M2.up _ _ _
  generalize h3 : xu2 iv2 81 (7 * q + 2) (imn 99999 (iv2 81 (7 * q + 2) + n)) = iv3 at M3
  have M4 : MV (xu2 iv3 81 (7 * q + 5) (iv3 81 (7 * q + 5) + n)) lg (hnd sg p q n) tw := by
    unfold hnd
    rw [M3.2.1.2.1]
    exact M3.up _ _ _
  have hk := k _ M4 (by rw [← h3, ← h2, ← h1]; exact (((clsS.rfl.up (by decide)).up (by decide)).up (by decide)).up (by decide))
  refine sgo [] 100 ?_
  refine And.intro vp2 ?_
  refine And.intro vp2 ?_
  refine And.intro vp6 ?_
  refine And.intro vp6 ?_
  refine And.intro vq2 ?_
  rw [cp2, cp6, cq2, h1, h2]
  refine And.intro (fun h => ?_) (fun h => ?_)
  · refine And.intro vq2 ?_
    refine And.intro vq2 ?_
    refine And.intro vq5 ?_
    refine And.intro vq5 ?_
    show Q none SH RF (xu2 (xu2 iv2 81 ((7 : Int32) * nI q + 2).toNatClampNeg (iv2 81 ((7 : Int32) * nI q + 2).toNatClampNeg + n)) 81 ((7 : Int32) * nI q + 5).toNatClampNeg (xu2 iv2 81 ((7 : Int32) * nI q + 2).toNatClampNeg (iv2 81 ((7 : Int32) * nI q + 2).toNatClampNeg + n) 81 ((7 : Int32) * nI q + 5).toNatClampNeg + n)) lg
    rw [cq2, cq5]
    have e : imn 99999 (iv2 81 (7 * q + 2) + n) = iv2 81 (7 * q + 2) + n := by
      unfold imn
      by_cases z : iv2 81 (7 * q + 2) + n < 99999
      · rw [if_pos z]
      · rw [if_neg z]
        exact ie.mpr (by rw [il] at h; rw [it] at z; omega)
    rw [← e, h3]
    exact hk
  · refine And.intro vq2 ?_
    refine And.intro vq5 ?_
    refine And.intro vq5 ?_
    show Q none SH RF (xu2 (xu2 iv2 81 ((7 : Int32) * nI q + 2).toNatClampNeg 99999) 81 ((7 : Int32) * nI q + 5).toNatClampNeg (xu2 iv2 81 ((7 : Int32) * nI q + 2).toNatClampNeg 99999 81 ((7 : Int32) * nI q + 5).toNatClampNeg + n)) lg
    rw [cq2, cq5]
    have e : imn 99999 (iv2 81 (7 * q + 2) + n) = 99999 := by
      unfold imn
      rw [if_neg (fun z => by rw [il] at h; rw [it] at z; omega)]
    rw [← e, h3]
    exact hk
end HAND
