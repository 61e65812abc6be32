-- ===== lend, pay =====
section LEND
variable {L : Nat} {xs : Nat → Int32} {iv : xIv} {lg : xLg} {Q : xQ} {sg : xIv} {tw : Nat → Int64} {t : Nat}
abbrev okT (sg : xIv) (a b n : Int32) : Prop := (isN a (cnt (vL sg) 1) ∧ isN b (cnt (vL sg) 1) ∧ ¬ a = b) ∧ (1 ≤ n ∧ n ≤ 99999)
def lnd (sg : xIv) (p q : Nat) (n : Int32) : xIv := xu2 (hnd sg p q n) 82 (8 * q + p) (hnd sg p q n 82 (8 * q + p) + n)
def pyb (sg : xIv) (p q : Nat) (n : Int32) : xIv := xu2 (hnd sg p q n) 82 (8 * p + q) (hnd sg p q n 82 (8 * p + q) - n)
def opLend (sg : xIv) (a b n : Int32) : Int32 × xIv := if okT sg a b n then (if n ≤ sg 81 (7 * a.toNatClampNeg + 2) then (lnd sg a.toNatClampNeg b.toNatClampNeg n 81 (7 * a.toNatClampNeg + 2), lnd sg a.toNatClampNeg b.toNatClampNeg n) else (-2, sg)) else (-1, sg)
def opPay (sg : xIv) (a b n : Int32) : Int32 × xIv := if okT sg a b n then (if n ≤ sg 81 (7 * a.toNatClampNeg + 2) ∧ n ≤ sg 82 (8 * a.toNatClampNeg + b.toNatClampNeg) then (pyb sg a.toNatClampNeg b.toNatClampNeg n 81 (7 * a.toNatClampNeg + 2), pyb sg a.toNatClampNeg b.toNatClampNeg n) else (-2, sg)) else (-1, sg)
set_option maxRecDepth 100000 in
theorem c_lend {a b n : Int32} (hC : CX iv lg sg tw) (hG : GG t sg) (k : ∀ iv', CX iv' lg (opLend sg a b n).2 tw → refS iv' lg iv lg → Q (some (.int (opLend sg a b n).1)) SH RF iv' lg) : Sp L xs m_SR_lend [.ref 0, .int a, .int b, .int n] SH RF iv lg Q := by
  have h8 := hG.1.2.1.2
  have kb : ¬ okT sg a b n → Q (some (.int (-1))) SH RF iv lg := fun h => by
    have e : opLend sg a b n = (-1, sg) := if_neg h
    rw [e] at k
    exact k iv hC refS.rfl
  refine sgo [] 100 ?_
  refine s_areTwo (nP_c hC hG) h8 (fun h1 => ?_) (fun h1 => ?_)
  · refine b1 ?_
    refine s_within (fun h2 => ?_) (fun h2 => ?_)
    · refine c1 ?_
      have hok : okT sg a b n := ⟨h1, h2⟩
      obtain ⟨p, hp, rfl⟩ := isN_of h1.1 (by omega)
      obtain ⟨q, hq, rfl⟩ := isN_of h1.2.1 (by omega)
      have ep : (nI p).toNatClampNeg = p := cl
      have eq' : (nI q).toNatClampNeg = q := cl
      have hvp : vp_in (nI p) 8 := vp_N (by omega)
      refine And.intro hvp ?_
      rw [ep, (hC.rd hp).2.2.1]
      refine And.intro (fun h3 => ?_) (fun h3 => ?_)
      · have e : opLend sg (nI p) (nI q) n = (lnd sg p q n 81 (7 * p + 2), lnd sg p q n) := by unfold opLend; rw [if_pos hok, ep, eq', if_pos h3]
        rw [e] at k
        refine s_hand hC h8 hp hq (fun iv1 C1 R1 => ?_)
        have c1 : cnt (vL (hnd sg p q n)) 1 = cnt (vL sg) 1 := hnd_cnt 1
        have e8 : nI q * (8 : Int32) + nI p = nI (8 * q + p) := by rw [ni8', ni_a]
        have v8 : vp_in (nI q * (8 : Int32) + nI p) 64 := by rw [e8]; exact vp_N (by omega)
        have k8 : (nI q * (8 : Int32) + nI p).toNatClampNeg = 8 * q + p := by rw [e8, cl]
        refine And.intro v8 ?_
        refine And.intro v8 ?_
        refine And.intro hvp ?_
        show Q (some (.int (xu2 iv1 16 (nI q * (8 : Int32) + nI p).toNatClampNeg (iv1 16 (nI q * (8 : Int32) + nI p).toNatClampNeg + n) 11 (nI p).toNatClampNeg))) SH RF (xu2 iv1 16 (nI q * (8 : Int32) + nI p).toNatClampNeg (iv1 16 (nI q * (8 : Int32) + nI p).toNatClampNeg + n)) lg
        rw [k8, ep, show iv1 16 (8 * q + p) = hnd sg p q n 82 (8 * q + p) from C1.1.2.1.2.2 _ (by omega)]
        have C2 : CX (xu2 iv1 16 (8 * q + p) (hnd sg p q n 82 (8 * q + p) + n)) lg (lnd sg p q n) tw := C1.o
        rw [(C2.rd (by unfold lnd; rw [cnt_ne (by decide), c1]; exact hp)).2.2.1]
        exact k _ C2 (R1.up (by decide))
      · have e : opLend sg (nI p) (nI q) n = (-2, sg) := by unfold opLend; rw [if_pos hok, ep, if_neg h3]
        rw [e] at k
        exact k iv hC refS.rfl
    · refine c0 ?_
      exact kb (fun z => h2 z.2)
  · refine b0 ?_
    exact kb (fun z => h1 z.1)
set_option maxRecDepth 100000 in
theorem m_lend {a b n : Int32} (hM : MV iv lg sg tw) (hG : GG t sg) (k : ∀ iv', MV iv' lg (opLend sg a b n).2 tw → clsS iv' lg iv lg → Q (some (.int (opLend sg a b n).1)) SH RF iv' lg) : Sp L xs m_Mo_lend [.ref 79, .int a, .int b, .int n] SH RF iv lg Q := by
  have h8 := hG.1.2.1.2
  have kb : ¬ okT sg a b n → Q (some (.int (-1))) SH RF iv lg := fun h => by
    have e : opLend sg a b n = (-1, sg) := if_neg h
    rw [e] at k
    exact k iv hM clsS.rfl
  refine sgo [] 100 ?_
  refine s_moTwo (nP_m hM hG) h8 (fun h1 => ?_) (fun h1 => ?_)
  · refine b1 ?_
    refine s_inI (a := 1) (b := 99999) (kt := fun h2 => ?_) (kf := fun h2 => ?_)
    · refine c1 ?_
      have hok : okT sg a b n := ⟨h1, h2⟩
      obtain ⟨p, hp, rfl⟩ := isN_of h1.1 (by omega)
      obtain ⟨q, hq, rfl⟩ := isN_of h1.2.1 (by omega)
      have ep : (nI p).toNatClampNeg = p := cl
      have eq' : (nI q).toNatClampNeg = q := cl
      have e7 : (7 : Int32) * nI p + 2 = nI (7 * p + 2) := by rw [ni7]; exact ni_a _ 2
      have v7 : vp_in ((7 : Int32) * nI p + 2) 56 := by rw [e7]; exact vp_N (by omega)
      have k7 : ((7 : Int32) * nI p + 2).toNatClampNeg = 7 * p + 2 := by rw [e7, cl]
      refine And.intro v7 ?_
      rw [k7, hM.2.1.2.1]
      refine And.intro (fun h3 => ?_) (fun h3 => ?_)
      · have e : opLend sg (nI p) (nI q) n = (lnd sg p q n 81 (7 * p + 2), lnd sg p q n) := by unfold opLend; rw [if_pos hok, ep, eq', if_pos h3]
        rw [e] at k
        refine m_send hM (by omega) (by omega) (fun iv1 M1 R1 => ?_)
        have e8 : (8 : Int32) * nI q + nI p = nI (8 * q + p) := by rw [ni8, ni_a]
        have v8 : vp_in ((8 : Int32) * nI q + nI p) 64 := by rw [e8]; exact vp_N (by omega)
        have k8 : ((8 : Int32) * nI q + nI p).toNatClampNeg = 8 * q + p := by rw [e8, cl]
        refine And.intro v8 ?_
        refine And.intro v8 ?_
        refine And.intro v7 ?_
        show Q (some (.int (xu2 iv1 82 ((8 : Int32) * nI q + nI p).toNatClampNeg (iv1 82 ((8 : Int32) * nI q + nI p).toNatClampNeg + n) 81 ((7 : Int32) * nI p + 2).toNatClampNeg))) SH RF (xu2 iv1 82 ((8 : Int32) * nI q + nI p).toNatClampNeg (iv1 82 ((8 : Int32) * nI q + nI p).toNatClampNeg + n)) lg
        rw [k8, k7, M1.2.1.2.2.1]
        have M2 : MV (xu2 iv1 82 (8 * q + p) (hnd sg p q n 82 (8 * q + p) + n)) lg (lnd sg p q n) tw := M1.up _ _ _
        rw [M2.2.1.2.1]
        exact k _ M2 (R1.up (by decide))
      · have e : opLend sg (nI p) (nI q) n = (-2, sg) := by unfold opLend; rw [if_pos hok, ep, if_neg h3]
        rw [e] at k
        exact k iv hM clsS.rfl
    · refine c0 ?_
      exact kb (fun z => h2 z.2)
  · refine b0 ?_
    exact kb (fun z => h1 z.1)
theorem e_lend (a b n : Int32) : EQ m_SR_lend m_Mo_lend [.int a, .int b, .int n] := by
  refine EQ.of (fun sg tw => ((opLend sg a b n).1, (opLend sg a b n).2, tw)) (fun hC hG ht k => c_lend hC hG (fun iv' h1 h2 => k iv' _ h1 h2)) (fun hM hG ht k => m_lend hM hG (fun iv' h1 h2 => k iv' _ h1 h2)) (fun {t sg tw} hG ht => ?_)
  show GG (t + 1) (opLend sg a b n).2
  unfold opLend
  split
  · rename_i hok
    split
    · rename_i hle
      have h8 := hG.1.2.1.2
      obtain ⟨p, hp, rfl⟩ := isN_of hok.1.1 (by omega)
      obtain ⟨q, hq, rfl⟩ := isN_of hok.1.2.1 (by omega)
      rw [cl (n := p)] at hle ⊢
      rw [cl (n := q)]
      have hn := hok.2
      rw [il, il, tl1, tl9] at hn
      have g1 : Gv t (vL (hnd sg p q n)) := Gv_hnd hG.1 hp hq (by omega) hle
      have g2 : Gv (t + 1) (vL (lnd sg p q n)) := by
        have ho := g1.2.2.2.2.2.2.2.1 (8 * q + p) (by omega)
        refine g1.o (Nat.le_succ t) ?_
        show 0 ≤ (hnd sg p q n 82 (8 * q + p) + n).toInt ∧ (hnd sg p q n 82 (8 * q + p) + n).toInt ≤ 99999 * ((t + 1 : Nat) : Int)
        have ho : 0 ≤ (hnd sg p q n 82 (8 * q + p)).toInt ∧ (hnd sg p q n 82 (8 * q + p)).toInt ≤ 99999 * (t : Int) := ho
        rw [addI (by omega) (by omega)]
        omega
      have er : ∀ k, k ≠ 81 → k ≠ 82 → lnd sg p q n k = sg k := fun k h1 h2 => by unfold lnd; rw [xu2_ne h2, hnd_row h1]
      exact GG.kept (sg' := lnd sg p q n) hG g2 (by rw [er 79 (by decide) (by decide)]) (er 96 (by decide) (by decide)) (er 97 (by decide) (by decide))
    · exact hG.mono (Nat.le_succ t)
  · exact hG.mono (Nat.le_succ t)
set_option maxRecDepth 100000 in
theorem s_payBack {p q : Nat} {n : Int32} (hC : CX iv lg sg tw) (h8 : cnt (vL sg) 1 ≤ 8) (hp : p < cnt (vL sg) 1) (hq : q < cnt (vL sg) 1) (k : ∀ iv', CX iv' lg (pyb sg p q n) tw → refS iv' lg iv lg → Q none SH RF iv' lg) : Sp L xs m_People_payBack [.ref 8, .int (nI p), .int (nI q), .int n] SH RF iv lg Q := by
  refine sgo [] 100 ?_
  refine s_hand hC h8 hp hq (fun iv1 C1 R1 => ?_)
  have e8 : nI p * (8 : Int32) + nI q = nI (8 * p + q) := by rw [ni8', ni_a]
  have v8 : vp_in (nI p * (8 : Int32) + nI q) 64 := by rw [e8]; exact vp_N (by omega)
  have k8 : (nI p * (8 : Int32) + nI q).toNatClampNeg = 8 * p + q := by rw [e8, cl]
  refine And.intro v8 ?_
  refine And.intro v8 ?_
  show Q none SH RF (xu2 iv1 16 (nI p * (8 : Int32) + nI q).toNatClampNeg (iv1 16 (nI p * (8 : Int32) + nI q).toNatClampNeg - n)) lg
  rw [k8, show iv1 16 (8 * p + q) = hnd sg p q n 82 (8 * p + q) from C1.1.2.1.2.2 _ (by omega)]
  exact k _ C1.o (R1.up (by decide))
set_option maxRecDepth 100000 in
theorem c_pay {a b n : Int32} (hC : CX iv lg sg tw) (hG : GG t sg) (k : ∀ iv', CX iv' lg (opPay sg a b n).2 tw → refS iv' lg iv lg → Q (some (.int (opPay sg a b n).1)) SH RF iv' lg) : Sp L xs m_SR_pay [.ref 0, .int a, .int b, .int n] SH RF iv lg Q := by
  have h8 := hG.1.2.1.2
  have kb : ¬ okT sg a b n → Q (some (.int (-1))) SH RF iv lg := fun h => by
    have e : opPay sg a b n = (-1, sg) := if_neg h
    rw [e] at k
    exact k iv hC refS.rfl
  refine sgo [] 100 ?_
  refine s_areTwo (nP_c hC hG) h8 (fun h1 => ?_) (fun h1 => ?_)
  · refine b1 ?_
    refine s_within (fun h2 => ?_) (fun h2 => ?_)
    · refine c1 ?_
      have hok : okT sg a b n := ⟨h1, h2⟩
      obtain ⟨p, hp, rfl⟩ := isN_of h1.1 (by omega)
      obtain ⟨q, hq, rfl⟩ := isN_of h1.2.1 (by omega)
      have ep : (nI p).toNatClampNeg = p := cl
      have eq' : (nI q).toNatClampNeg = q := cl
      have hvp : vp_in (nI p) 8 := vp_N (by omega)
      have bad : ¬ (n ≤ sg 81 (7 * p + 2) ∧ n ≤ sg 82 (8 * p + q)) → Q (some (.int (-2))) SH RF iv lg := fun h => by
        have e : opPay sg (nI p) (nI q) n = (-2, sg) := by unfold opPay; rw [if_pos hok, ep, eq', if_neg h]
        rw [e] at k
        exact k iv hC refS.rfl
      refine And.intro hvp ?_
      rw [ep, (hC.rd hp).2.2.1]
      refine And.intro (fun h3 => ?_) (fun h3 => ?_)
      · exact bad (fun z => lnle h3 z.1)
      · have e8 : nI p * (8 : Int32) + nI q = nI (8 * p + q) := by rw [ni8', ni_a]
        have v8 : vp_in (nI p * (8 : Int32) + nI q) 64 := by rw [e8]; exact vp_N (by omega)
        have k8 : (nI p * (8 : Int32) + nI q).toNatClampNeg = 8 * p + q := by rw [e8, cl]
        refine And.intro v8 ?_
        rw [k8, show iv 16 (8 * p + q) = sg 82 (8 * p + q) from hC.1.2.1.2.2 _ (by omega)]
        refine And.intro (fun h4 => ?_) (fun h4 => ?_)
        · have e : opPay sg (nI p) (nI q) n = (pyb sg p q n 81 (7 * p + 2), pyb sg p q n) := by unfold opPay; rw [if_pos hok, ep, eq', if_pos ⟨nlt h3, h4⟩]
          rw [e] at k
          refine s_payBack hC h8 hp hq (fun iv1 C1 R1 => ?_)
          refine And.intro hvp ?_
          show Q (some (.int (iv1 11 (nI p).toNatClampNeg))) SH RF iv1 lg
          rw [ep, (C1.rd (by unfold pyb; rw [cnt_ne (by decide), hnd_cnt]; exact hp)).2.2.1]
          exact k _ C1 R1
        · exact bad (fun z => h4 z.2)
    · refine c0 ?_
      exact kb (fun z => h2 z.2)
  · refine b0 ?_
    exact kb (fun z => h1 z.1)
set_option maxRecDepth 100000 in
theorem m_pay {a b n : Int32} (hM : MV iv lg sg tw) (hG : GG t sg) (k : ∀ iv', MV iv' lg (opPay sg a b n).2 tw → clsS iv' lg iv lg → Q (some (.int (opPay sg a b n).1)) SH RF iv' lg) : Sp L xs m_Mo_pay [.ref 79, .int a, .int b, .int n] SH RF iv lg Q := by
  have h8 := hG.1.2.1.2
  have kb : ¬ okT sg a b n → Q (some (.int (-1))) SH RF iv lg := fun h => by
    have e : opPay sg a b n = (-1, sg) := if_neg h
    rw [e] at k
    exact k iv hM clsS.rfl
  refine sgo [] 100 ?_
  refine s_moTwo (nP_m hM hG) h8 (fun h1 => ?_) (fun h1 => ?_)
  · refine b1 ?_
    refine s_inI (a := 1) (b := 99999) (kt := fun h2 => ?_) (kf := fun h2 => ?_)
    · refine c1 ?_
      have hok : okT sg a b n := ⟨h1, h2⟩
      obtain ⟨p, hp, rfl⟩ := isN_of h1.1 (by omega)
      obtain ⟨q, hq, rfl⟩ := isN_of h1.2.1 (by omega)
      have ep : (nI p).toNatClampNeg = p := cl
      have eq' : (nI q).toNatClampNeg = q := cl
      have e7 : (7 : Int32) * nI p + 2 = nI (7 * p + 2) := by rw [ni7]; exact ni_a _ 2
      have v7 : vp_in ((7 : Int32) * nI p + 2) 56 := by rw [e7]; exact vp_N (by omega)
      have k7 : ((7 : Int32) * nI p + 2).toNatClampNeg = 7 * p + 2 := by rw [e7, cl]
      have bad : ¬ (n ≤ sg 81 (7 * p + 2) ∧ n ≤ sg 82 (8 * p + q)) → Q (some (.int (-2))) SH RF iv lg := fun h => by
        have e : opPay sg (nI p) (nI q) n = (-2, sg) := by unfold opPay; rw [if_pos hok, ep, eq', if_neg h]
        rw [e] at k
        exact k iv hM clsS.rfl
      have e8 : (8 : Int32) * nI p + nI q = nI (8 * p + q) := by rw [ni8, ni_a]
      have v8 : vp_in ((8 : Int32) * nI p + nI q) 64 := by rw [e8]; exact vp_N (by omega)
      have k8 : ((8 : Int32) * nI p + nI q).toNatClampNeg = 8 * p + q := by rw [e8, cl]
      refine And.intro v7 ?_
      rw [k7, hM.2.1.2.1]
      refine And.intro (fun h3 => ?_) (fun h3 => ?_)
      · exact bad (fun z => lnle h3 z.1)
      · refine And.intro v8 ?_
        rw [k8, hM.2.1.2.2.1]
        refine And.intro (fun h4 => ?_) (fun h4 => ?_)
        · have e : opPay sg (nI p) (nI q) n = (pyb sg p q n 81 (7 * p + 2), pyb sg p q n) := by unfold opPay; rw [if_pos hok, ep, eq', if_pos ⟨nlt h3, h4⟩]
          rw [e] at k
          refine m_send hM (by omega) (by omega) (fun iv1 M1 R1 => ?_)
          refine And.intro v8 ?_
          refine And.intro v8 ?_
          refine And.intro v7 ?_
          show Q (some (.int (xu2 iv1 82 ((8 : Int32) * nI p + nI q).toNatClampNeg (iv1 82 ((8 : Int32) * nI p + nI q).toNatClampNeg - n) 81 ((7 : Int32) * nI p + 2).toNatClampNeg))) SH RF (xu2 iv1 82 ((8 : Int32) * nI p + nI q).toNatClampNeg (iv1 82 ((8 : Int32) * nI p + nI q).toNatClampNeg - n)) lg
          rw [k8, k7, M1.2.1.2.2.1]
          have M2 : MV (xu2 iv1 82 (8 * p + q) (hnd sg p q n 82 (8 * p + q) - n)) lg (pyb sg p q n) tw := M1.up _ _ _
          rw [M2.2.1.2.1]
          exact k _ M2 (R1.up (by decide))
        · exact bad (fun z => h4 z.2)
    · refine c0 ?_
      exact kb (fun z => h2 z.2)
  · refine b0 ?_
    exact kb (fun z => h1 z.1)
theorem pyb_row {p q k : Nat} {n : Int32} (h1 : k ≠ 81) (h2 : k ≠ 82) : pyb sg p q n k = sg k := by unfold pyb; rw [xu2_ne h2, hnd_row h1]
theorem Gv_pyb {p q : Nat} {n : Int32} (hG : Gv t (vL sg)) (hp : p < cnt (vL sg) 1) (hq : q < cnt (vL sg) 1) (h8 : cnt (vL sg) 1 ≤ 8) (ht : t ≤ 512) (h0 : 0 ≤ n.toInt) (hn : n ≤ sg 81 (7 * p + 2)) (ho : n ≤ sg 82 (8 * p + q)) : Gv t (vL (pyb sg p q n)) := by
  have g1 : Gv t (vL (hnd sg p q n)) := Gv_hnd hG hp hq h0 hn
  have h3 := g1.2.2.2.2.2.2.2.1 (8 * p + q) (by omega)
  refine g1.o (Nat.le_refl t) ?_
  have h3 : 0 ≤ (hnd sg p q n 82 (8 * p + q)).toInt ∧ (hnd sg p q n 82 (8 * p + q)).toInt ≤ 99999 * (t : Int) := h3
  rw [hnd_row (by decide)] at h3 ⊢
  rw [il] at ho
  rw [subI (by omega) (by omega)]
  omega
theorem e_pay (a b n : Int32) : EQ m_SR_pay m_Mo_pay [.int a, .int b, .int n] := by
  refine EQ.of (fun sg tw => ((opPay sg a b n).1, (opPay sg a b n).2, tw)) (fun hC hG ht k => c_pay hC hG (fun iv' h1 h2 => k iv' _ h1 h2)) (fun hM hG ht k => m_pay hM hG (fun iv' h1 h2 => k iv' _ h1 h2)) (fun {t sg tw} hG ht => ?_)
  show GG (t + 1) (opPay sg a b n).2
  unfold opPay
  split
  · rename_i hok
    split
    · rename_i hle
      have h8 := hG.1.2.1.2
      obtain ⟨p, hp, rfl⟩ := isN_of hok.1.1 (by omega)
      obtain ⟨q, hq, rfl⟩ := isN_of hok.1.2.1 (by omega)
      rw [cl (n := p), cl (n := q)] at hle ⊢
      have hn := hok.2
      rw [il, il, tl1, tl9] at hn
      exact GG.kept (sg' := pyb sg p q n) hG ((Gv_pyb hG.1 hp hq h8 (by omega) (by omega) hle.1 hle.2).mono (Nat.le_succ t)) (by rw [pyb_row (by decide) (by decide)]) (pyb_row (by decide) (by decide)) (pyb_row (by decide) (by decide))
    · exact hG.mono (Nat.le_succ t)
  · exact hG.mono (Nat.le_succ t)
end LEND
