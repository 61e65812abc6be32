-- ===== layWays, costsOf, far =====
theorem kn_bit : ∀ kn, kn < 16 → ∀ kd, kd < 4 → ((nI kn >>> (nI kd &&& 31)) &&& 1 = 0 ↔ kn.testBit kd = false) := by decide +kernel
theorem kn_or : ∀ kn, kn < 16 → ∀ kd, kd < 4 → (nI kn ||| ((1 : Int32) <<< (nI kd &&& 31)) = nI (kn ||| 2 ^ kd) ∧ kn ||| 2 ^ kd < 16 ∧ ∀ j, j < 4 → ((kn ||| 2 ^ kd).testBit j = true → kn.testBit j = true ∨ j = kd)) := by decide +kernel
section LAY
variable {L : Nat} {xs : Nat → Int32} {iv : xIv} {lg : xLg} {Q : xQ} {sg : xIv} {tw : Nat → Int64} {t : Nat}
/-- only the tables change -/
theorem CX.rdw {iv' : xIv} (hC : CX iv lg sg tw) (hr : ∀ k, (k < 37 ∨ 43 ≤ k) → iv' k = iv k) (hrd : RD iv' (vL sg)) : CX iv' lg sg tw := by
  obtain ⟨⟨hy, hpp, ho⟩, hkk, -, htp, hst⟩ := id hC
  exact hC.of (hy.keep (fun i a b => hr _ (by omega)) rfl (fun j _ => rfl)) (hpp.keep (fun i a b => hr _ (by omega)) rfl (fun _ _ => rfl) (fun _ _ => rfl)) (ho.keep (hr _ (by omega)) (hr _ (by omega)) (hr _ (by omega)) rfl rfl rfl (fun j _ => rfl) (fun j _ => rfl)) hrd (fun k a b => hr k (by omega)) (by rw [hr 0 (by omega)]) (by rw [hr 53 (by omega)]) (hr 54 (by omega)) (hr 69 (by omega)) (fun k a b => hr k (by omega)) rfl rfl rfl rfl rfl rfl rfl
def dg (i a b : Nat) : Nat := if a = b ∧ a < i then 0 else 1000000
set_option maxRecDepth 100000 in
theorem c_lay_1 {R : Nat} {kd : Int32} (hR : R = 39 ∨ R = 40 ∨ R = 41 ∨ R = 42) : ∀ (r i : Nat) (x : Int32) (iv : xIv), i + r = 12 → x = nI i → TB iv R (dg i) → (∀ iv', TB iv' R (dg 12) → (∀ k, k ≠ R → iv' k = iv k) → Wp L xs m_Roads_layWays 25 [some (.ref 37), some (.int kd), some (.ref R), some (.int 0), none, none] [] SH RF iv' lg Q) → Wp L xs m_Roads_layWays 10 [some (.ref 37), some (.int kd), some (.ref R), some (.int x), none, none] [] SH RF iv lg Q
  | 0, i, x, iv, h, hx, hTB, k => by
    obtain rfl : i = 12 := by omega
    subst hx
    refine wgo [10, 25] 100 ?_
    exact And.intro (fun _ => k iv hTB (fun _ _ => rfl)) (fun z => absurd (by decide) z)
  | r + 1, i, x, iv, h, hx, hTB, k => by
    subst hx
    have e : nI i * (12 : Int32) + nI i = nI (12 * i + i) := by rw [ni12', ni_a]
    have v : vp_in (nI i * (12 : Int32) + nI i) 144 := by rw [e]; exact vp_N (by omega)
    have key : Wp L xs m_Roads_layWays 10 [some (.ref 37), some (.int kd), some (.ref R), some (.int (nI i + 1)), none, none] [] SH RF (xu2 iv R (nI i * (12 : Int32) + nI i).toNatClampNeg 0) lg Q := by
      rw [e, cl]
      refine c_lay_1 hR r (i + 1) _ _ (by omega) (nI_1 i) ((hTB.up (b := i) (x := 0) (by omega)).cg (fun a b ha hb => ?_)) (fun iv' c1 c2 => k iv' c1 (fun k hk => by rw [c2 k hk, xu2_ne hk]))
      unfold upT2 dg
      by_cases c : a = i ∧ b = i
      · rw [if_pos c, if_pos (by omega)]
      · rw [if_neg c]
        by_cases c2 : a = b ∧ a < i
        · rw [if_pos c2, if_pos (by omega)]
        · rw [if_neg c2, if_neg (by omega)]
    clear k
    rcases hR with rfl | rfl | rfl | rfl
    all_goals
      refine wgo [10, 25] 100 ?_
      refine And.intro (fun z => absurd (lt12 (show i < 12 by omega)) (lenl z)) (fun _ => ?_)
      refine And.intro v ?_
      exact key
set_option maxRecDepth 100000 in
theorem c_lay_2 {R kd : Nat} (hR : R = 39 ∨ R = 40 ∨ R = 41 ∨ R = 42) (hkd : kd < 4) (hG : GG t sg) : ∀ (r w : Nat) (x : Int32) (iv : xIv) (T : Nat → Nat → Nat) (o4 o5 : Option Value), w + r = cnt (vL sg) 0 → x = nI w → CWy iv 1 (vL sg) → TB iv R T → SD (vL sg) kd T → LY (vL sg) kd w T → (∀ iv' T', TB iv' R T' → SD (vL sg) kd T' → LY (vL sg) kd (cnt (vL sg) 0) T' → (∀ k, k ≠ R → iv' k = iv k) → Q none SH RF iv' lg) → Wp L xs m_Roads_layWays 25 [some (.ref 37), some (.int (nI kd)), some (.ref R), some (.int x), o4, o5] [] SH RF iv lg Q
  | 0, w, x, iv, T, o4, o5, h, hx, hW, hTB, hS, hL, k => by
    obtain rfl : w = cnt (vL sg) 0 := by omega
    subst hx
    have hn : iv 2 0 = nI (cnt (vL sg) 0) := hW.1.trans hG.1.1.1
    refine wgo [25] 100 ?_
    exact And.intro (fun _ => k iv T hTB hS hL (fun _ _ => rfl)) (fun z => absurd (by rw [hn]; exact il.mpr (Int.le_refl _)) z)
  | r + 1, w, x, iv, T, o4, o5, h, hx, hW, hTB, hS, hL, k => by
    subst hx
    have h24 := hG.1.1.2
    have hn : iv 2 0 = nI (cnt (vL sg) 0) := hW.1.trans hG.1.1.1
    have hw : w < cnt (vL sg) 0 := by omega
    have okw := hG.1.2.2.2.2.2.1 w hw
    obtain ⟨y0, y1, y2, y3, y4⟩ := hW.2 w hw
    obtain ⟨a, ha, ea⟩ := isN_of okw.1 (by decide)
    obtain ⟨b, hb, eb⟩ := isN_of okw.2.1 (by decide)
    have hab : a ≠ b := fun z => okw.2.2.1 (by rw [ea, eb, z])
    have i3 : iv 3 (nI w).toNatClampNeg = nI a := by rw [cl]; exact y0.trans ea
    have i4 : iv 4 (nI w).toNatClampNeg = nI b := by rw [cl]; exact y1.trans eb
    have vw : vp_in (nI w) 24 := vp_N (by omega)
    have et : iv 3 (nI w).toNatClampNeg * (12 : Int32) + iv 4 (nI w).toNatClampNeg = nI (12 * a + b) := by rw [i3, i4, ni12', ni_a]
    have ek : iv 4 (nI w).toNatClampNeg * (12 : Int32) + iv 3 (nI w).toNatClampNeg = nI (12 * b + a) := by rw [i3, i4, ni12', ni_a]
    have vt : vp_in (iv 3 (nI w).toNatClampNeg * (12 : Int32) + iv 4 (nI w).toNatClampNeg) 144 := by rw [et]; exact vp_N (by omega)
    have vk : vp_in (iv 4 (nI w).toNatClampNeg * (12 : Int32) + iv 3 (nI w).toNatClampNeg) 144 := by rw [ek]; exact vp_N (by omega)
    have c0 := (wcost_bd (k := kd) (d := 0) okw).2
    have c1 := (wcost_bd (k := kd) (d := 1) okw).2
    have W0 : ∃ n, Wk (vL sg) kd n a b (wcost (vL sg) kd w 0) := ⟨1, Wk_one hw (by decide) ea eb hb⟩
    have W1 : ∃ n, Wk (vL sg) kd n b a (wcost (vL sg) kd w 1) := ⟨1, Wk_one hw (by decide) eb ea ha⟩
    have S1 := hS.up hab W0
    have S2 := S1.up (Ne.symm hab) W1
    have L2 : LY (vL sg) kd (w + 1) (upT2 (upT2 T a b (min (T a b) (wcost (vL sg) kd w 0))) b a (min (upT2 T a b (min (T a b) (wcost (vL sg) kd w 0)) b a) (wcost (vL sg) kd w 1))) := by
      have m1 := upT2_le (T := T) (a := a) (b := b) (Nat.min_le_left (T a b) (wcost (vL sg) kd w 0))
      have m2 := upT2_le (T := upT2 T a b (min (T a b) (wcost (vL sg) kd w 0))) (a := b) (b := a) (Nat.min_le_left (upT2 T a b (min (T a b) (wcost (vL sg) kd w 0)) b a) (wcost (vL sg) kd w 1))
      intro w' d p q g1 g2 g3 g4 g5 g6
      by_cases e : w' = w
      · subst e
        match d, g2 with
        | 0, _ =>
          have ep : p = a := (nI_eq (by omega) (by omega)).mp (g5.symm.trans ea)
          have eq' : q = b := (nI_eq (by omega) (by omega)).mp (g6.symm.trans eb)
          subst ep; subst eq'
          refine Nat.le_trans (m2 p q) ?_
          unfold upT2
          rw [if_pos ⟨rfl, rfl⟩]
          exact Nat.min_le_right _ _
        | 1, _ =>
          have ep : p = b := (nI_eq (by omega) (by omega)).mp (g5.symm.trans eb)
          have eq' : q = a := (nI_eq (by omega) (by omega)).mp (g6.symm.trans ea)
          subst ep; subst eq'
          show upT2 _ p q _ p q ≤ _
          unfold upT2
          rw [if_pos ⟨rfl, rfl⟩]
          exact Nat.min_le_right _ _
      · exact Nat.le_trans (m2 p q) (Nat.le_trans (m1 p q) (hL w' d p q (by omega) g2 g3 g4 g5 g6))
    have hT1 := hS.1 a b
    have hT2 := S1.1 b a
    have T1 : TB (xu2 iv R (12 * a + b) (nI (min (T a b) (wcost (vL sg) kd w 0)))) R (upT2 T a b (min (T a b) (wcost (vL sg) kd w 0))) := hTB.up hb
    have ev1 : imn (iv R (iv 3 (nI w).toNatClampNeg * (12 : Int32) + iv 4 (nI w).toNatClampNeg).toNatClampNeg) (nI (wcost (vL sg) kd w 0)) = nI (min (T a b) (wcost (vL sg) kd w 0)) := by
      rw [et, cl, hTB a b ha hb, imn_nI (by omega) (by omega)]
    have R1 : ∀ j, j ≠ R → xu2 iv R (12 * a + b) (nI (min (T a b) (wcost (vL sg) kd w 0))) j = iv j := fun j hj => xu2_ne hj
    generalize hiv1 : xu2 iv R (12 * a + b) (nI (min (T a b) (wcost (vL sg) kd w 0))) = iv1 at T1 R1
    have T2 := T1.up (a := b) (b := a) (x := min (upT2 T a b (min (T a b) (wcost (vL sg) kd w 0)) b a) (wcost (vL sg) kd w 1)) ha
    have ev2 : imn (iv1 R (iv 4 (nI w).toNatClampNeg * (12 : Int32) + iv 3 (nI w).toNatClampNeg).toNatClampNeg) (nI (wcost (vL sg) kd w 1)) = nI (min (upT2 T a b (min (T a b) (wcost (vL sg) kd w 0)) b a) (wcost (vL sg) kd w 1)) := by
      rw [ek, cl, T1 b a hb ha, imn_nI (by omega) (by omega)]
    have R2 : ∀ j, j ≠ R → xu2 iv1 R (12 * b + a) (nI (min (upT2 T a b (min (T a b) (wcost (vL sg) kd w 0)) b a) (wcost (vL sg) kd w 1))) j = iv j := fun j hj => by rw [xu2_ne hj, R1 j hj]
    have hR8 : 8 ≤ R := by omega
    have key : ∀ o4 o5, Wp L xs m_Roads_layWays 25 [some (.ref 37), some (.int (nI kd)), some (.ref R), some (.int (nI w + 1)), o4, o5] [] SH RF (xu2 iv1 R (12 * b + a) (nI (min (upT2 T a b (min (T a b) (wcost (vL sg) kd w 0)) b a) (wcost (vL sg) kd w 1)))) lg Q := fun o4 o5 => by
      refine c_lay_2 hR hkd hG r (w + 1) _ _ _ o4 o5 (by omega) (nI_1 w) (hW.keep (fun i a b => R2 _ (by omega)) rfl (fun _ _ => rfl)) T2 S2 L2 (fun iv' T' d1 d2 d3 d4 => k iv' T' d1 d2 d3 (fun k hk => by rw [d4 k hk, R2 k hk]))
    have q1 := fun Q => s_costOf0 (L := L) (xs := xs) (iv := iv) (lg := lg) (Q := Q) (w := w) (k := kd) (d := 0) (b := 1) (x := vL sg 1 (5 * w + 2)) (u := upO (vL sg) w 0) (by omega) hkd (Or.inr ⟨rfl, rfl⟩) y2 y3
    have q2 := fun Q => s_costOf0 (L := L) (xs := xs) (iv := iv1) (lg := lg) (Q := Q) (w := w) (k := kd) (d := 1) (b := 0) (x := vL sg 1 (5 * w + 2)) (u := upO (vL sg) w 1) (by omega) hkd (Or.inl ⟨rfl, rfl⟩) (by rw [R1 5 (by omega)]; exact y2) (by rw [R1 6 (by omega)]; exact congrArg (fun z : Int32 => -z) y3)
    rw [wcC_N okw] at q1 q2
    have fin : ∀ (x2 j2 : Int32), j2 = nI (12 * b + a) → x2 = nI (min (upT2 T a b (min (T a b) (wcost (vL sg) kd w 0)) b a) (wcost (vL sg) kd w 1)) → ∀ o4 o5, Wp L xs m_Roads_layWays 25 [some (.ref 37), some (.int (nI kd)), some (.ref R), some (.int (nI w + 1)), o4, o5] [] SH RF (xu2 iv1 R j2.toNatClampNeg x2) lg Q := fun x2 j2 e2 e4 o4 o5 => by
      subst e2; subst e4
      rw [cl]
      exact key o4 o5
    have st1 : ∀ (x1 : Int32), x1 = nI (min (T a b) (wcost (vL sg) kd w 0)) → xu2 iv R (iv 3 (nI w).toNatClampNeg * (12 : Int32) + iv 4 (nI w).toNatClampNeg).toNatClampNeg x1 = iv1 := fun x1 e1 => by rw [e1, et, cl, hiv1]
    clear k key T1 T2 R1 R2 hTB
    rcases hR with rfl | rfl | rfl | rfl
    all_goals
      refine wgo [25] 100 ?_
      refine And.intro (fun z => absurd (nI_lt hw (by omega)) (by rw [hn] at z; exact lenl z)) (fun _ => ?_)
      refine And.intro vw ?_
      refine And.intro vw ?_
      refine And.intro vw ?_
      refine And.intro vw ?_
      refine And.intro vt ?_
      refine q1 _ ?_
      refine And.intro vt ?_
      refine And.intro vk ?_
      rw [st1 _ ev1]
      refine q2 _ ?_
      refine And.intro vk ?_
      exact fin _ _ ek ev2 _ _
theorem dg_SD {v : xIv} {k : Nat} : SD v k (dg 12) := by
  refine ⟨fun a b => ?_, fun a ha => ?_, fun a b ha hb h => ?_⟩
  · unfold dg; split <;> omega
  · unfold dg; rw [if_pos ⟨rfl, ha⟩]
  · unfold dg at h ⊢
    by_cases c : a = b ∧ a < 12
    · rw [if_pos c]; exact ⟨0, c.1, rfl⟩
    · rw [if_neg c] at h; omega
set_option maxRecDepth 100000 in
theorem c_lay {kd : Nat} (hkd : kd < 4) (hG : GG t sg) (hW : CWy iv 1 (vL sg)) (k : ∀ iv' T', TB iv' (39 + kd) T' → SD (vL sg) kd T' → LY (vL sg) kd (cnt (vL sg) 0) T' → (∀ k, k ≠ 39 + kd → iv' k = iv k) → Q none SH RF iv' lg) : Sp L xs m_Roads_layWays [.ref 37, .int (nI kd)] SH RF iv lg Q := by
  have hv : vp_in (nI kd) 4 := vp_N hkd
  have hR : 39 + kd = 39 ∨ 39 + kd = 40 ∨ 39 + kd = 41 ∨ 39 + kd = 42 := by omega
  have fl := fun Q => s_fillI (L := L) (xs := xs) (iv := iv) (lg := lg) (Q := Q) (K := 39 + kd) (n := 144) (v := 1000000) (by unfold fiOK; omega)
  have key : ∀ iv', (∀ k, k ≠ 39 + kd → iv' k = iv k) → (∀ j, j < 144 → iv' (39 + kd) j = 1000000) → Wp L xs m_Roads_layWays 10 [some (.ref 37), some (.int (nI kd)), some (.ref (39 + kd)), some (.int 0), none, none] [] SH RF iv' lg Q := fun iv1 g1 g2 => by
    refine c_lay_1 hR 12 0 _ iv1 (by omega) rfl (fun a b ha hb => ?_) (fun iv2 c1 c2 => ?_)
    · rw [g2 _ (by omega)]
      unfold dg
      rw [if_neg (by omega)]
      rfl
    · refine c_lay_2 hR hkd hG _ 0 _ iv2 (dg 12) _ _ (Nat.zero_add _) rfl (hW.keep (fun i a b => by rw [c2 _ (by omega), g1 _ (by omega)]) rfl (fun _ _ => rfl)) c1 dg_SD (fun w d a b h => absurd h (Nat.not_lt_zero w)) (fun iv' T' d1 d2 d3 d4 => k iv' T' d1 d2 d3 (fun k hk => by rw [d4 k hk, c2 k hk, g1 k hk]))
  have h4 : kd = 0 ∨ kd = 1 ∨ kd = 2 ∨ kd = 3 := by omega
  clear k
  rcases h4 with rfl | rfl | rfl | rfl
  all_goals
    refine sgo [10] 100 ?_
    refine And.intro hv ?_
    refine fl _ (fun iv1 g1 g2 => ?_)
    exact key iv1 g1 g2
/-- the costs of a kind, as the class holds them -/
def TD (iv : xIv) (v : xIv) (kd : Nat) : Prop := ∀ a b, a < 12 → b < 12 → iv (39 + kd) (12 * a + b) = enc 1000000 (dst v kd a b)
set_option maxRecDepth 100000 in
theorem c_costsOf {kd : Nat} (hkd : kd < 4) (hC : CX iv lg sg tw) (hG : GG t sg) (k : ∀ iv', CX iv' lg sg tw → refS iv' lg iv lg → TD iv' (vL sg) kd → (∀ k, (k < 37 ∨ 43 ≤ k) → iv' k = iv k) → Q (some (.ref (39 + kd))) SH RF iv' lg) : Sp L xs m_Roads_costsOf [.ref 37, .int (nI kd)] SH RF iv lg Q := by
  have hv : vp_in (nI kd) 4 := vp_N hkd
  have hR : 39 + kd = 39 ∨ 39 + kd = 40 ∨ 39 + kd = 41 ∨ 39 + kd = 42 := by omega
  obtain ⟨kn, hkn, e37, hDT⟩ := id hC.2.2.1
  have hbit := kn_bit kn hkn kd hkd
  rw [← e37] at hbit
  have k1 : kn.testBit kd = true → Q (some (.ref (39 + kd))) SH RF iv lg := fun z => k iv hC refS.rfl (hDT kd hkd z) (fun _ _ => rfl)
  obtain ⟨o1, o2, o3⟩ := kn_or kn hkn kd hkd
  have lay := fun Q => c_lay (L := L) (xs := xs) (lg := lg) (Q := Q) hkd hG hC.1.1
  have join := fun iv T hTB hS hL Q => c_join (L := L) (xs := xs) (iv := iv) (lg := lg) (Q := Q) (v := vL sg) (kd := kd) (c := cnt (vL sg) 0) (T := T) hR hTB hS hL
  have k2 : ∀ (iv1 iv2 : xIv) (T2 : Nat → Nat → Nat), (∀ k, k ≠ 39 + kd → iv1 k = iv k) → (∀ k, k ≠ 39 + kd → iv2 k = iv1 k) → TB iv2 (39 + kd) T2 → SD (vL sg) kd T2 → LY (vL sg) kd (cnt (vL sg) 0) T2 → Tri 12 T2 → Q (some (.ref (39 + kd))) SH RF (xu2 iv2 37 2 (iv2 37 2 ||| ((1 : Int32) <<< (nI kd &&& 31)))) lg := fun iv1 iv2 T2 r1 r2 g1 g2 g3 g4 => by
    have r3 : ∀ k, k ≠ 39 + kd → iv2 k = iv k := fun k hk => by rw [r2 k hk, r1 k hk]
    rw [r3 37 (by omega), e37, o1]
    have hTD : TD iv2 (vL sg) kd := fun a b ha hb => by rw [g1 a b ha hb]; exact joined hG.1.2.2.2.2.2.1 g2 g3 g4 ha hb
    have r4 : ∀ j, (j < 37 ∨ 43 ≤ j) → xu2 iv2 37 2 (nI (kn ||| 2 ^ kd)) j = iv j := fun j hj => by rw [xu2_ne (by omega), r3 j (by omega)]
    have hTD2 : TD (xu2 iv2 37 2 (nI (kn ||| 2 ^ kd))) (vL sg) kd := fun a b ha hb => by rw [xu2_ne (by omega)]; exact hTD a b ha hb
    refine k _ (hC.rdw r4 ⟨kn ||| 2 ^ kd, o2, xu2_s, fun j hj hb => ?_⟩) ⟨fun j hj => r4 j (by omega), fun _ _ => rfl⟩ hTD2 r4
    by_cases e : j = kd
    · rw [e]; exact hTD2
    · have hb2 : kn.testBit j = true := by
        rcases o3 j hj hb with h | h
        · exact h
        · exact absurd h e
      intro a b ha hb
      rw [xu2_ne (by omega), r3 _ (by omega)]
      exact hDT j hj hb2 a b ha hb
  clear k
  have h4 : kd = 0 ∨ kd = 1 ∨ kd = 2 ∨ kd = 3 := by omega
  rcases h4 with rfl | rfl | rfl | rfl
  all_goals
    refine sgo [] 100 ?_
    refine And.intro (fun z => ?_) (fun z => ?_)
    · refine And.intro hv ?_
      exact k1 (by
        cases hb : kn.testBit _ with
        | true => rfl
        | false => exact absurd (hbit.mpr hb) z)
    · refine lay _ (fun iv1 T1 d1 d2 d3 d4 => ?_)
      refine And.intro hv ?_
      refine join iv1 T1 d1 d2 d3 _ (fun iv2 T2 g1 g2 g3 g4 g5 => ?_)
      refine And.intro hv ?_
      exact k2 iv1 iv2 T2 d4 g5 g1 g2 g3 g4
abbrev okF (sg : xIv) (a b c : Int32) : Prop := isN a (cnt (vL sg) 1) ∧ isN b 12 ∧ isN c 12
theorem enc_ge {o : Option Nat} (h : ∀ c, o = some c → c ≤ 2772) : ((1000000 : Int32) ≤ enc 1000000 o → o = none) ∧ (¬ (1000000 : Int32) ≤ enc 1000000 o → ∃ c, o = some c ∧ enc 1000000 o = nI c) := by
  cases o with
  | none => exact ⟨fun _ => rfl, fun z => absurd (by decide) z⟩
  | some c =>
    have hc := h c rfl
    exact ⟨fun z => absurd ((nI_leI (a := 1000000) (b := c) (by decide) (by omega)).mp z) (by omega), fun _ => ⟨c, rfl, rfl⟩⟩
/-- the kind of one -/
theorem kindOf (hG : GG t sg) {p : Nat} (hp : p < cnt (vL sg) 1) : ∃ kd, kd < 4 ∧ sg 81 (7 * p + 1) = nI kd := isN_of (hG.1.2.2.2.2.2.2.1 p hp).2.1 (by decide)
theorem placeOf' (hG : GG t sg) {p : Nat} (hp : p < cnt (vL sg) 1) : ∃ q, q < 12 ∧ sg 81 (7 * p + 3) = nI q := isN_of (hG.1.2.2.2.2.2.2.1 p hp).2.2.2 (by decide)
theorem homeOf (hG : GG t sg) {p : Nat} (hp : p < cnt (vL sg) 1) : ∃ q, q < 12 ∧ sg 81 (7 * p) = nI q := isN_of (hG.1.2.2.2.2.2.2.1 p hp).1 (by decide)
def orN (o : Option Nat) : Int32 := match o with
  | none => -4
  | some c => nI c
set_option maxRecDepth 100000 in
theorem c_far {a b c : Int32} (hC : CX iv lg sg tw) (hG : GG t sg) (k1 : ∀ p x y kd, p < cnt (vL sg) 1 → x < 12 → y < 12 → kd < 4 → a = nI p → b = nI x → c = nI y → sg 81 (7 * p + 1) = nI kd → ∀ iv', CX iv' lg sg tw → refS iv' lg iv lg → Q (some (.int (orN (dst (vL sg) kd x y)))) SH RF iv' lg) (k2 : ¬ okF sg a b c → Q (some (.int (-1))) SH RF iv lg) : Sp L xs m_SR_far [.ref 0, .int a, .int b, .int c] SH RF iv lg Q := by
  have h8 := hG.1.2.1.2
  refine sgo [] 100 ?_
  refine s_isPerson (nP_c hC hG) (by omega) (fun h1 => ?_) (fun h1 => ?_)
  · refine b1 ?_
    refine s_isPlace (fun h2 => ?_) (fun h2 => ?_)
    · refine b1 ?_
      refine s_isPlace (fun h3 => ?_) (fun h3 => ?_)
      · refine c1 ?_
        obtain ⟨p, hp, rfl⟩ := isN_of h1 (by omega)
        obtain ⟨x, hx, rfl⟩ := isN_of h2 (by decide)
        obtain ⟨y, hy, rfl⟩ := isN_of h3 (by decide)
        obtain ⟨kd, hkd, ek⟩ := kindOf hG hp
        refine And.intro (vp_N (by omega)) ?_
        have ei : iv 10 (nI p).toNatClampNeg = nI kd := by rw [cl, (hC.rd hp).2.1, ek]
        have kk := k1 p x y kd hp hx hy hkd rfl rfl rfl ek
        have e12 : nI x * (12 : Int32) + nI y = nI (12 * x + y) := by rw [ni12', ni_a]
        have v12 : vp_in (nI x * (12 : Int32) + nI y) 144 := by rw [e12]; exact vp_N (by omega)
        have fin : ∀ (iv' : xIv) (Q2 : xQ), TD iv' (vL sg) kd → Q2 (some (.int (orN (dst (vL sg) kd x y)))) SH RF iv' lg → Sp L xs m_SR_orNone [.int (iv' (39 + kd) (nI x * (12 : Int32) + nI y).toNatClampNeg)] SH RF iv' lg Q2 := fun iv' Q2 d3 kf => by
          rw [e12, cl, d3 x y hx hy]
          obtain ⟨g1, g2⟩ := enc_ge (o := dst (vL sg) kd x y) (fun c hc => dst_bd hG.1.2.2.2.2.2.1 hx hc)
          refine s_orNone (fun z => ?_) (fun z => ?_)
          · rw [g1 z] at kf
            exact kf
          · obtain ⟨c, e1, e2⟩ := g2 z
            rw [e1] at kf
            rw [e2]
            exact kf
        have cc := fun Q => c_costsOf (L := L) (xs := xs) (Q := Q) hkd hC hG
        rw [← ei] at cc
        have h4 : kd = 0 ∨ kd = 1 ∨ kd = 2 ∨ kd = 3 := by omega
        clear k1 k2 ei
        rcases h4 with rfl | rfl | rfl | rfl
        all_goals
          refine cc _ (fun iv' d1 d2 d3 d4 => ?_)
          refine And.intro v12 ?_
          refine fin iv' _ d3 ?_
          exact kk iv' d1 d2
      · refine c0 ?_
        exact k2 (fun z => h3 z.2.2)
    · refine b0 ?_
      exact k2 (fun z => h2 z.2.1)
  · refine b0 ?_
    exact k2 (fun z => h1 z.1)
end LAY
