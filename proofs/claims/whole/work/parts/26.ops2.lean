-- ===== gate, given, rule, owes, errand, rest =====
section OPS2
variable {L : Nat} {xs : Nat → Int32} {iv : xIv} {lg : xLg} {Q : xQ} {sg : xIv} {tw : Nat → Int64} {t : Nat}
/-- behind both sides' changes -/
theorem INV.mk2 {sg' : xIv} {iv1 iv2 : xIv} {lg1 lg2 : xLg} (hC : CX iv1 lg1 sg' tw) (hs : clsS iv2 lg2 iv1 lg1) (hM : MV iv2 lg2 sg' tw) (hG : GG t sg') : INV t iv2 lg2 := ⟨sg', tw, CX_congr hs hC, hM, hG⟩
set_option maxRecDepth 100000 in
theorem m_gate {a b : Int32} (hM : MV iv lg sg tw) (hG : GG t sg) (k1 : ∀ w x, w < cnt (vL sg) 0 → a = nI w → (¬ b = 0 ∧ x = 1 ∨ b = 0 ∧ x = 0) → Q (some (.int (sg 80 (5 * w + 4)))) SH RF (xu2 iv 80 (5 * w + 4) x) lg) (k2 : ¬ isN a (cnt (vL sg) 0) → Q (some (.int (-1))) SH RF iv lg) : Sp L xs m_Mo_gate [.ref 79, .int a, .int b] SH RF iv lg Q := by
  have h24 := hG.1.1.2
  refine sgo [] 100 ?_
  refine s_inN (nW_m hM hG) (by omega) (fun h1 => ?_) (fun h1 => ?_)
  · refine c1 ?_
    obtain ⟨w, hw, rfl⟩ := isN_of h1 (by omega)
    have e : (5 : Int32) * nI w + 4 = nI (5 * w + 4) := by rw [ni5]; exact ni_a _ 4
    have hv : vp_in ((5 : Int32) * nI w + 4) 120 := by rw [e]; exact vp_N (by omega)
    refine And.intro hv ?_
    refine And.intro (fun hb => ?_) (fun hb => ?_)
    · refine And.intro hv ?_
      show Q (some (.int (iv 80 ((5 : Int32) * nI w + 4).toNatClampNeg))) SH RF (xu2 iv 80 ((5 : Int32) * nI w + 4).toNatClampNeg 0) lg
      rw [e, cl, hM.2.1.1]
      exact k1 w 0 hw rfl (Or.inr ⟨hb, rfl⟩)
    · refine And.intro hv ?_
      show Q (some (.int (iv 80 ((5 : Int32) * nI w + 4).toNatClampNeg))) SH RF (xu2 iv 80 ((5 : Int32) * nI w + 4).toNatClampNeg 1) lg
      rw [e, cl, hM.2.1.1]
      exact k1 w 1 hw rfl (Or.inl ⟨hb, rfl⟩)
  · refine c0 ?_
    exact k2 h1
set_option maxRecDepth 100000 in
theorem e_gate (a b : Int32) : EQ m_SR_gate m_Mo_gate [.int a, .int b] := by
  intro L xs t iv lg Q hI ht k
  obtain ⟨sg, tw, hC, hM, hG⟩ := id hI
  have h24 := hG.1.1.2
  have good : ∀ w x, w < cnt (vL sg) 0 → a = nI w → (¬ b = 0 ∧ x = 1 ∨ b = 0 ∧ x = 0) → Q (some (.int (sg 80 (5 * w + 4)))) SH RF (xu2 iv 7 w x) lg := fun w x hw ha hx => k _ _ lg (fun Q2 k2 => by
    have hM1 : MV (xu2 iv 7 w x) lg sg tw := MV_congr (refS.rfl.up (by decide)) hM
    refine m_gate hM1 hG (fun w' x' hw' ha' hx' => ?_) (fun h => absurd (ha ▸ isN_nI hw (by omega)) h)
    have e1 : w = w' := (nI_eq (by omega) (by omega)).mp (ha.symm.trans ha')
    subst e1
    have e2 : x = x' := by
      rcases hx with ⟨p, q⟩ | ⟨p, q⟩ <;> rcases hx' with ⟨p', q'⟩ | ⟨p', q'⟩
      · rw [q, q']
      · exact absurd p' p
      · exact absurd p p'
      · rw [q, q']
    subst e2
    have h01 : x = 0 ∨ x = 1 := by rcases hx with ⟨_, q⟩ | ⟨_, q⟩ <;> simp [q]
    exact k2 _ _ (INV.mk2 (hC.gt hw) (clsS.rfl.up (by decide)) (hM1.up _ _ _) (hG.up (Nat.le_succ t) ((hG.1.gt hw h01).mono (Nat.le_succ t)) (fun z => absurd z (by decide)) (by decide) (by decide))))
  refine sgo [] 100 ?_
  refine s_has (nW_c hC hG) (by omega) (fun h1 => ?_) (fun h1 => ?_)
  · refine c1 ?_
    obtain ⟨w, hw, rfl⟩ := isN_of h1 (by omega)
    obtain ⟨-, -, -, -, y4⟩ := hC.1.1.2 w hw
    have hv : vp_in (nI w) 24 := vp_N (by omega)
    refine And.intro hv ?_
    refine And.intro (fun hb => ?_) (fun hb => ?_)
    · refine And.intro hv ?_
      show Q (some (.int (iv 7 (nI w).toNatClampNeg))) SH RF (xu2 iv 7 (nI w).toNatClampNeg 0) lg
      rw [cl, show iv 7 w = sg 80 (5 * w + 4) from y4]
      exact good w 0 hw rfl (Or.inr ⟨hb, rfl⟩)
    · refine And.intro hv ?_
      show Q (some (.int (iv 7 (nI w).toNatClampNeg))) SH RF (xu2 iv 7 (nI w).toNatClampNeg 1) lg
      rw [cl, show iv 7 w = sg 80 (5 * w + 4) from y4]
      exact good w 1 hw rfl (Or.inl ⟨hb, rfl⟩)
  · refine c0 ?_
    exact k _ iv lg (fun Q2 k2 => m_gate hM hG (fun w x hw ha _ => absurd (ha ▸ isN_nI hw (by omega)) h1) (fun _ => k2 _ _ (hI.wk (Nat.le_succ t))))
set_option maxRecDepth 100000 in
theorem m_given {a b : Int32} (hM : MV iv lg sg tw) (k1 : ∀ w, w < 4 → a = nI w → (0 ≤ b ∧ b ≤ 9999) → Q (some (.int (sg 83 w))) SH RF (xu2 iv 83 w b) lg) (k2 : ¬ (isN a 4 ∧ (0 ≤ b ∧ b ≤ 9999)) → Q (some (.int (-1))) SH RF iv lg) : Sp L xs m_Mo_given [.ref 79, .int a, .int b] SH RF iv lg Q := by
  refine sgo [] 100 ?_
  refine s_inI (a := 0) (b := 3) (kt := fun h1 => ?_) (kf := fun h1 => ?_)
  · refine b1 ?_
    refine s_inI (a := 0) (b := 9999) (kt := fun h2 => ?_) (kf := fun h2 => ?_)
    · refine c1 ?_
      obtain ⟨w, hw, rfl⟩ := isN_of (r3.mp h1) (by decide)
      have hv : vp_in (nI w) 4 := vp_N (by omega)
      refine And.intro hv ?_
      refine And.intro hv ?_
      show Q (some (.int (iv 83 (nI w).toNatClampNeg))) SH RF (xu2 iv 83 (nI w).toNatClampNeg b) lg
      rw [cl, hM.2.1.2.2.2.1]
      exact k1 w hw rfl h2
    · refine c0 ?_
      exact k2 (fun z => h2 z.2)
  · refine b0 ?_
    exact k2 (fun z => h1 (r3.mpr z.1))
set_option maxRecDepth 100000 in
theorem e_given (a b : Int32) : EQ m_SR_given m_Mo_given [.int a, .int b] := by
  intro L xs t iv lg Q hI ht k
  obtain ⟨sg, tw, hC, hM, hG⟩ := id hI
  have bad : ¬ (isN a 4 ∧ (0 ≤ b ∧ b ≤ 9999)) → Q (some (.int (-1))) SH RF iv lg := fun h => k _ iv lg (fun Q2 k2 => m_given hM (fun w hw ha hb => absurd ⟨ha ▸ isN_nI hw (by decide), hb⟩ h) (fun _ => k2 _ _ (hI.wk (Nat.le_succ t))))
  refine sgo [] 100 ?_
  refine s_isKind (fun h1 => ?_) (fun h1 => ?_)
  · refine b1 ?_
    refine s_within (fun h2 => ?_) (fun h2 => ?_)
    · refine c1 ?_
      obtain ⟨w, hw, rfl⟩ := isN_of h1 (by decide)
      have hv : vp_in (nI w) 4 := vp_N (by omega)
      refine And.intro hv ?_
      refine And.intro hv ?_
      show Q (some (.int (iv 18 (nI w).toNatClampNeg))) SH RF (xu2 iv 18 (nI w).toNatClampNeg b) lg
      rw [cl, show iv 18 w = sg 83 w from hC.1.2.2.2.2.1 w hw]
      refine k _ _ lg (fun Q2 k2 => ?_)
      have hM1 : MV (xu2 iv 18 w b) lg sg tw := MV_congr (refS.rfl.up (by decide)) hM
      refine m_given hM1 (fun w' hw' ha' _ => ?_) (fun h => absurd ⟨h1, h2⟩ h)
      have e1 : w = w' := (nI_eq (by omega) (by omega)).mp ha'
      subst e1
      exact k2 _ _ (INV.mk2 hC.g (clsS.rfl.up (by decide)) (hM1.up _ _ _) (hG.up (Nat.le_succ t) ((hG.1.g h2).mono (Nat.le_succ t)) (fun z => absurd z (by decide)) (by decide) (by decide)))
    · refine c0 ?_
      exact bad (fun z => h2 z.2)
  · refine b0 ?_
    exact bad (fun z => h1 z.1)
set_option maxRecDepth 100000 in
theorem m_rule {a : Int32} (hM : MV iv lg sg tw) (k1 : isN a 3 → Q (some (.int (sg 79 6))) SH RF (xu2 iv 79 6 a) lg) (k2 : ¬ isN a 3 → Q (some (.int (-1))) SH RF iv lg) : Sp L xs m_Mo_rule [.ref 79, .int a] SH RF iv lg Q := by
  refine sgo [] 100 ?_
  refine s_inI (a := 0) (b := 2) (kt := fun h1 => ?_) (kf := fun h1 => ?_)
  · refine c1 ?_
    show Q (some (.int (iv 79 6))) SH RF (xu2 iv 79 6 a) lg
    rw [hM.1.2.2.1]
    exact k1 (r2.mp h1)
  · refine c0 ?_
    exact k2 (fun z => h1 (r2.mpr z))
set_option maxRecDepth 100000 in
theorem e_rule (a : Int32) : EQ m_SR_rule m_Mo_rule [.int a] := by
  intro L xs t iv lg Q hI ht k
  obtain ⟨sg, tw, hC, hM, hG⟩ := id hI
  refine sgo [] 100 ?_
  refine s_within (fun h1 => ?_) (fun h1 => ?_)
  · refine c1 ?_
    show Q (some (.int (iv 1 5))) SH RF (xu2 iv 1 5 a) lg
    rw [show iv 1 5 = sg 79 6 from hC.1.2.2.2.2.2.1]
    refine k _ _ lg (fun Q2 k2 => ?_)
    have hM1 : MV (xu2 iv 1 5 a) lg sg tw := MV_congr (refS.rfl.up (by decide)) hM
    refine m_rule hM1 (fun h => ?_) (fun h => absurd (r2.mp h1) h)
    exact k2 _ _ (INV.mk2 (hC.s (Or.inl ⟨rfl, rfl⟩)) (clsS.rfl.up (by decide)) (hM1.up _ _ _) (hG.up (Nat.le_succ t) ((hG.1.s (Or.inl ⟨rfl, h⟩)).mono (Nat.le_succ t)) (by decide) (by decide) (by decide)))
  · refine c0 ?_
    exact k _ iv lg (fun Q2 k2 => m_rule hM (fun h => absurd (r2.mpr h) h1) (fun _ => k2 _ _ (hI.wk (Nat.le_succ t))))
theorem ni8 (n : Nat) : (8 : Int32) * nI n = nI (8 * n) := pk_mul 8 n
theorem ni8' (n : Nat) : nI n * (8 : Int32) = nI (8 * n) := by rw [Nat.mul_comm]; exact pk_mul n 8
set_option maxRecDepth 100000 in
theorem m_owes {a b : Int32} (hM : MV iv lg sg tw) (hG : GG t sg) (k1 : ∀ p q, p < cnt (vL sg) 1 → q < cnt (vL sg) 1 → a = nI p → b = nI q → ¬ a = b → Q (some (.int (sg 82 (8 * p + q)))) SH RF iv lg) (k2 : ¬ (isN a (cnt (vL sg) 1) ∧ isN b (cnt (vL sg) 1) ∧ ¬ a = b) → Q (some (.int (-1))) SH RF iv lg) : Sp L xs m_Mo_owes [.ref 79, .int a, .int b] SH RF iv lg Q := by
  have h8 := hG.1.2.1.2
  refine sgo [] 100 ?_
  refine s_moTwo (nP_m hM hG) h8 (fun h1 => ?_) (fun h1 => ?_)
  · refine b1 ?_
    obtain ⟨p, hp, rfl⟩ := isN_of h1.1 (by omega)
    obtain ⟨q, hq, rfl⟩ := isN_of h1.2.1 (by omega)
    have e : (8 : Int32) * nI p + nI q = nI (8 * p + q) := by rw [ni8, ni_a]
    refine And.intro (by rw [e]; exact vp_N (by omega)) ?_
    show Q (some (.int (iv 82 ((8 : Int32) * nI p + nI q).toNatClampNeg))) SH RF iv lg
    rw [e, cl, hM.2.1.2.2.1]
    exact k1 p q hp hq rfl rfl h1.2.2
  · refine b0 ?_
    exact k2 h1
set_option maxRecDepth 100000 in
theorem e_owes (a b : Int32) : EQ m_SR_owes m_Mo_owes [.int a, .int b] := by
  intro L xs t iv lg Q hI ht k
  obtain ⟨sg, tw, hC, hM, hG⟩ := id hI
  have h8 := hG.1.2.1.2
  refine sgo [] 100 ?_
  refine s_areTwo (nP_c hC hG) h8 (fun h1 => ?_) (fun h1 => ?_)
  · refine c1 ?_
    obtain ⟨p, hp, rfl⟩ := isN_of h1.1 (by omega)
    obtain ⟨q, hq, rfl⟩ := isN_of h1.2.1 (by omega)
    have e : nI p * (8 : Int32) + nI q = nI (8 * p + q) := by rw [ni8', ni_a]
    refine And.intro (by rw [e]; exact vp_N (by omega)) ?_
    show Q (some (.int (iv 16 (nI p * (8 : Int32) + nI q).toNatClampNeg))) SH RF iv lg
    rw [e, cl, show iv 16 (8 * p + q) = sg 82 (8 * p + q) from hC.1.2.1.2.2 _ (by omega)]
    refine k _ iv lg (fun Q2 k2 => m_owes hM hG (fun p' q' hp' hq' ha' hb' _ => ?_) (fun h => absurd h1 h))
    have e1 : p = p' := (nI_eq (by omega) (by omega)).mp ha'
    have e2 : q = q' := (nI_eq (by omega) (by omega)).mp hb'
    subst e1; subst e2
    exact k2 _ _ (hI.wk (Nat.le_succ t))
  · refine c0 ?_
    exact k _ iv lg (fun Q2 k2 => m_owes hM hG (fun p q hp hq ha hb hab => absurd ⟨ha ▸ isN_nI hp (by omega), hb ▸ isN_nI hq (by omega), hab⟩ h1) (fun _ => k2 _ _ (hI.wk (Nat.le_succ t))))
set_option maxRecDepth 100000 in
theorem m_errand {a : Int32} (hM : MV iv lg sg tw) (hG : GG t sg) (k0 : ¬ isN a 12 → Q (some (.int (-1))) SH RF iv lg) (k1 : isN a 12 → cnt (vL sg) 2 = 6 → Q (some (.int (-3))) SH RF iv lg) (k2 : isN a 12 → cnt (vL sg) 2 < 6 → Q (some (.int (nI (cnt (vL sg) 2)))) SH RF (xu2 (xu2 iv 84 (cnt (vL sg) 2) a) 79 8 (nI (cnt (vL sg) 2 + 1))) lg) : Sp L xs m_Mo_errand [.ref 79, .int a] SH RF iv lg Q := by
  have h6 := hG.1.2.2.1.2
  have hn := nE_m hM hG
  generalize cnt (vL sg) 2 = n at *
  refine sgo [] 100 ?_
  refine s_moPlace (fun h1 => ?_) (fun h1 => ?_)
  · refine c1 ?_
    refine And.intro (fun h2 => ?_) (fun h2 => ?_)
    · rw [hn] at h2
      have h3 : ¬ n = 6 := fun z => h2 (by rw [z]; rfl)
      refine And.intro (by rw [hn]; exact vp_N (by omega)) ?_
      show Q (some (.int (xu2 (xu2 iv 84 (iv 79 8).toNatClampNeg a) 79 8 (xu2 iv 84 (iv 79 8).toNatClampNeg a 79 8 + 1) 79 8 - 1))) SH RF (xu2 (xu2 iv 84 (iv 79 8).toNatClampNeg a) 79 8 (xu2 iv 84 (iv 79 8).toNatClampNeg a 79 8 + 1)) lg
      rw [xu2_s, xu2_k (by decide), hn, cl, nI_1, nI_pred]
      exact k2 h1 (by omega)
    · rw [hn] at h2
      have h3 : n = 6 := by
        by_cases z : n = 6
        · exact z
        · exact absurd (fun w => z ((nI_eq (b := 6) (by omega) (by decide)).mp w)) h2
      exact k1 h1 h3
  · refine c0 ?_
    exact k0 h1
set_option maxRecDepth 100000 in
theorem e_errand (a : Int32) : EQ m_SR_errand m_Mo_errand [.int a] := by
  intro L xs t iv lg Q hI ht k
  obtain ⟨sg, tw, hC, hM, hG⟩ := id hI
  have h6 := hG.1.2.2.1.2
  have hn := nE_c hC hG
  refine sgo [] 100 ?_
  refine s_isPlace (fun h1 => ?_) (fun h1 => ?_)
  · refine c1 ?_
    refine And.intro (fun h2 => ?_) (fun h2 => ?_)
    · rw [hn] at h2
      replace h2 : cnt (vL sg) 2 < 6 := (nI_ltI (b := 6) (by omega) (by decide)).mp h2
      refine And.intro (by rw [hn]; exact vp_N (by omega)) ?_
      show Q (some (.int (xu2 (xu2 iv 17 (iv 1 2).toNatClampNeg a) 1 2 (xu2 iv 17 (iv 1 2).toNatClampNeg a 1 2 + 1) 1 2 - 1))) SH RF (xu2 (xu2 iv 17 (iv 1 2).toNatClampNeg a) 1 2 (xu2 iv 17 (iv 1 2).toNatClampNeg a 1 2 + 1)) lg
      rw [xu2_s, xu2_k (by decide), hn, cl, nI_1, nI_pred]
      refine k _ _ lg (fun Q2 k2 => ?_)
      have hM1 : MV (xu2 (xu2 iv 17 (cnt (vL sg) 2) a) 1 2 (nI (cnt (vL sg) 2 + 1))) lg sg tw := MV_congr ((refS.rfl.up (by decide)).up (by decide)) hM
      refine m_errand hM1 hG (fun h => absurd h1 h) (fun _ h => by omega) (fun _ _ => ?_)
      refine k2 _ _ (INV.mk2 (hC.e rfl h2) ((clsS.rfl.up (by decide)).up (by decide)) ((hM1.up _ _ _).up _ _ _) ?_)
      refine GG.kept hG ((hG.1.e rfl h2 h1).mono (Nat.le_succ t)) ?_ ?_ ?_
      · rw [xu2_j (by decide), xu2_k (by decide)]
      · rw [xu2_ne (by decide), xu2_ne (by decide)]
      · rw [xu2_ne (by decide), xu2_ne (by decide)]
    · rw [hn] at h2
      replace h2 : ¬ cnt (vL sg) 2 < 6 := fun z => h2 ((nI_ltI (b := 6) (by omega) (by decide)).mpr z)
      exact k _ iv lg (fun Q2 k2 => m_errand hM hG (fun h => absurd h1 h) (fun _ _ => k2 _ _ (hI.wk (Nat.le_succ t))) (fun _ h => absurd h h2))
  · refine c0 ?_
    exact k _ iv lg (fun Q2 k2 => m_errand hM hG (fun _ => k2 _ _ (hI.wk (Nat.le_succ t))) (fun h => absurd h h1) (fun h => absurd h h1))
set_option maxRecDepth 100000 in
theorem e_rest : EQ m_SR_rest m_Mo_rest [] := by
  intro L xs t iv lg Q hI ht k
  obtain ⟨sg, tw, hC, hM, hG⟩ := id hI
  refine sgo [] 100 ?_
  show Q (some (.int (iv 1 2))) SH RF (xu2 iv 1 2 0) lg
  refine k _ _ lg (fun Q2 k2 => ?_)
  have hM1 : MV (xu2 iv 1 2 0) lg sg tw := MV_congr (refS.rfl.up (by decide)) hM
  refine sgo [] 100 ?_
  show Q2 (some (.int (xu2 iv 1 2 0 79 8))) SH RF (xu2 (xu2 iv 1 2 0) 79 8 0) lg
  rw [hM1.1.2.2.2.1, show sg 79 8 = iv 1 2 from hC.1.2.2.1.symm]
  exact k2 _ _ (INV.mk2 (hC.s (Or.inr (Or.inr ⟨rfl, rfl, Nat.zero_le _⟩))) (clsS.rfl.up (by decide)) (hM1.up _ _ _) (hG.up (Nat.le_succ t) ((hG.1.s (Or.inr (Or.inr ⟨rfl, rfl⟩))).mono (Nat.le_succ t)) (by decide) (by decide) (by decide)))
end OPS2
