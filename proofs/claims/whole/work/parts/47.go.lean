-- ===== go, carry =====
section GO
variable {L : Nat} {xs : Nat → Int32} {iv : xIv} {lg : xLg} {Q : xQ} {sg : xIv} {tw : Nat → Int64} {t : Nat}
noncomputable def goN (sg : xIv) (p x y kd r s : Nat) : Int32 × xIv := match dst (vL sg) kd x y with
  | none => (-4, sg)
  | some d => if r < 1 * d then (-2, sg) else (nI (r - 1 * d), sgW sg p (nI (r - 1 * d)) (nI y) (wkC (vL sg) kd y 1 11 x (sg 81 (7 * p + 4))) (nI (min 1000000000 (s + 1 * d))))
noncomputable def opGo (sg : xIv) (a b : Int32) : Int32 × xIv := if isN a (cnt (vL sg) 1) ∧ isN b 12 then goN sg a.toNatClampNeg (sg 81 (7 * a.toNatClampNeg + 3)).toNatClampNeg b.toNatClampNeg (sg 81 (7 * a.toNatClampNeg + 1)).toNatClampNeg (sg 81 (7 * a.toNatClampNeg + 2)).toNatClampNeg (sg 79 9).toNatClampNeg else (-1, sg)
/-- what one has -/
theorem ringOf (hG : GG t sg) {p : Nat} (hp : p < cnt (vL sg) 1) : ∃ r, r ≤ 99999 ∧ sg 81 (7 * p + 2) = nI r := by
  have h := (hG.1.2.2.2.2.2.2.1 p hp).2.2.1
  obtain ⟨r, hr, e⟩ := nI_of (lenl h.1)
  have h2 := h.2
  rw [e] at h2
  exact ⟨r, (nI_leI (b := 99999) (by omega) (by decide)).mp h2, e⟩
theorem spentOf (hG : GG t sg) : ∃ s, s ≤ 1000000000 ∧ sg 79 9 = nI s := by
  have h := hG.1.2.2.2.2.1
  obtain ⟨r, hr, e⟩ := nI_of (lenl h.1)
  have h2 := h.2
  rw [e] at h2
  exact ⟨r, (nI_leI (b := 1000000000) (by omega) (by decide)).mp h2, e⟩
theorem opGo_eq {p x y kd r s : Nat} (hG : GG t sg) (hp : p < cnt (vL sg) 1) (hx : x < 12) (hy : y < 12) (hkd : kd < 4) (hr : r ≤ 99999) (hs : s ≤ 1000000000) (e1 : sg 81 (7 * p + 1) = nI kd) (e2 : sg 81 (7 * p + 2) = nI r) (e3 : sg 81 (7 * p + 3) = nI x) (e9 : sg 79 9 = nI s) : opGo sg (nI p) (nI y) = goN sg p x y kd r s := by
  have h8 := hG.1.2.1.2
  unfold opGo
  rw [if_pos ⟨isN_nI hp (by omega), isN_nI hy (by decide)⟩, cl (n := p), cl (n := y), e1, e2, e3, e9, cl (n := x), cl (n := kd), cl (n := r), cl (n := s)]
theorem opGo_G {a b : Int32} (hG : GG t sg) : GG (t + 1) (opGo sg a b).2 := by
  have h8 := hG.1.2.1.2
  have h0 := hG.mono (Nat.le_succ t)
  by_cases h : isN a (cnt (vL sg) 1) ∧ isN b 12
  · obtain ⟨p, hp, rfl⟩ := isN_of h.1 (by omega)
    obtain ⟨y, hy, rfl⟩ := isN_of h.2 (by decide)
    obtain ⟨kd, hkd, e1⟩ := kindOf hG hp
    obtain ⟨r, hr, e2⟩ := ringOf hG hp
    obtain ⟨x, hx, e3⟩ := placeOf' hG hp
    obtain ⟨s, hs, e9⟩ := spentOf hG
    rw [opGo_eq hG hp hx hy hkd hr hs e1 e2 e3 e9]
    unfold goN
    cases dst (vL sg) kd x y with
    | none => exact h0
    | some d =>
      dsimp only
      split
      · exact h0
      · exact GG_W h0 (by omega) hy (by omega)
  · unfold opGo
    rw [if_neg h]
    exact h0
set_option maxRecDepth 100000 in
theorem c_go {a b : Int32} (hC : CX iv lg sg tw) (hG : GG t sg) (k : ∀ iv', CX iv' lg (opGo sg a b).2 tw → refS iv' lg iv lg → Q (some (.int (opGo sg a b).1)) SH RF iv' lg) : Sp L xs m_SR_go [.ref 0, .int a, .int b] SH RF iv lg Q := by
  have h8 := hG.1.2.1.2
  have bad : ¬ (isN a (cnt (vL sg) 1) ∧ isN b 12) → Q (some (.int (-1))) SH RF iv lg := fun h => by
    have e : opGo sg a b = (-1, sg) := by unfold opGo; rw [if_neg h]
    rw [e] at k
    exact k iv hC refS.rfl
  refine sgo [] 100 ?_
  refine s_isPerson (nP_c hC hG) (by omega) (fun h1 => ?_) (fun h1 => ?_)
  · refine b1 ?_
    refine s_isPlace (fun h2 => ?_) (fun h2 => ?_)
    · refine c1 ?_
      clear bad
      obtain ⟨p, hp, rfl⟩ := isN_of h1 (by omega)
      obtain ⟨y, hy, rfl⟩ := isN_of h2 (by decide)
      obtain ⟨kd, hkd, e1⟩ := kindOf hG hp
      obtain ⟨r, hr, e2⟩ := ringOf hG hp
      obtain ⟨x, hx, e3⟩ := placeOf' hG hp
      obtain ⟨s, hs, e9⟩ := spentOf hG
      rw [opGo_eq hG hp hx hy hkd hr hs e1 e2 e3 e9] at k
      refine c_now hC hG hp hx hy hkd e1 e3 (fun iv1 C1 R1 => ?_)
      have k2 : ∀ iv', CX iv' lg (goN sg p x y kd r s).2 tw → refS iv' lg iv1 lg → Q (some (.int (goN sg p x y kd r s).1)) SH RF iv' lg := fun iv' a b => k iv' a (b.trans R1)
      clear k
      unfold goN at k2
      have hb : ∀ c, dst (vL sg) kd x y = some c → c ≤ 2772 := fun c hc => dst_bd hG.1.2.2.2.2.2.1 hx hc
      cases ed : dst (vL sg) kd x y with
      | none =>
        rw [ed] at k2
        refine And.intro (fun z => absurd z (by decide)) (fun _ => ?_)
        exact k2 iv1 C1 refS.rfl
      | some d =>
        rw [ed] at k2
        dsimp only at k2
        have hd := hb d ed
        have e11 : iv1 11 (nI p).toNatClampNeg = nI r := by rw [cl]; exact (C1.rd hp).2.2.1.trans e2
        refine And.intro (fun _ => ?_) (fun z => absurd (nI_lt (a := d) (b := 1000000) (by omega) (by decide)) z)
        refine And.intro (vp_N (by omega)) ?_
        refine And.intro (fun z => ?_) (fun z => ?_)
        · rw [e11] at z
          have z := (nI_leI (a := d) (b := r) (by omega) (by omega)).mp z
          rw [if_neg (by omega)] at k2
          exact c_walk (tm := 1) hkd hx hy (by decide) hG hp C1 e1 e2 e3 rfl e9 hr hs ed (by omega) k2
        · rw [e11] at z
          have z : ¬ d ≤ r := fun w => z ((nI_leI (a := d) (b := r) (by omega) (by omega)).mpr w)
          rw [if_pos (by omega)] at k2
          exact k2 iv1 C1 refS.rfl
    · refine c0 ?_
      exact bad (fun z => h2 z.2)
  · refine b0 ?_
    exact bad (fun z => h1 z.1)
set_option maxRecDepth 100000 in
theorem m_go {a b : Int32} (hM : MV iv lg sg tw) (hG : GG t sg) (k : ∀ iv', MV iv' lg (opGo sg a b).2 tw → clsS iv' lg iv lg → Q (some (.int (opGo sg a b).1)) SH RF iv' lg) : Sp L xs m_Mo_go [.ref 79, .int a, .int b] SH RF iv lg Q := by
  have h8 := hG.1.2.1.2
  have bad : ¬ (isN a (cnt (vL sg) 1) ∧ isN b 12) → Q (some (.int (-1))) SH RF iv lg := fun h => by
    have e : opGo sg a b = (-1, sg) := by unfold opGo; rw [if_neg h]
    rw [e] at k
    exact k iv hM clsS.rfl
  refine sgo [] 100 ?_
  refine s_isOne (nP_m hM hG) (by omega) (fun h1 => ?_) (fun h1 => ?_)
  · refine b1 ?_
    refine s_moPlace (fun h2 => ?_) (fun h2 => ?_)
    · refine c1 ?_
      clear bad
      obtain ⟨p, hp, rfl⟩ := isN_of h1 (by omega)
      obtain ⟨y, hy, rfl⟩ := isN_of h2 (by decide)
      obtain ⟨kd, hkd, e1⟩ := kindOf hG hp
      obtain ⟨r, hr, e2⟩ := ringOf hG hp
      obtain ⟨x, hx, e3⟩ := placeOf' hG hp
      obtain ⟨s, hs, e9⟩ := spentOf hG
      rw [opGo_eq hG hp hx hy hkd hr hs e1 e2 e3 e9] at k
      have f2 : (7 : Int32) * nI p + 2 = nI (7 * p + 2) := by rw [ni7]; exact ni_a _ 2
      have f3 : (7 : Int32) * nI p + 3 = nI (7 * p + 3) := by rw [ni7]; exact ni_a _ 3
      have v2 : vp_in ((7 : Int32) * nI p + 2) 56 := by rw [f2]; exact vp_N (by omega)
      have v3 : vp_in ((7 : Int32) * nI p + 3) 56 := by rw [f3]; exact vp_N (by omega)
      have i3 : iv 81 ((7 : Int32) * nI p + 3).toNatClampNeg = nI x := by rw [f3, cl, hM.2.1.2.1, e3]
      refine And.intro v3 ?_
      have fo : ∀ (Q2 : xQ) (x' : Int32), x' = nI x → (∀ iv', (∀ a, a < 12 → iv' 85 a = enc 100000000 (dst (vL sg) kd a y)) → (∀ k, k ≠ 85 → iv' k = iv k) → Q2 (some (.int (enc 100000000 (dst (vL sg) kd x y)))) SH RF iv' lg) → Sp L xs m_Mo_farOf [.ref 79, .int (nI p), .int x', .int (nI y)] SH RF iv lg Q2 := fun Q2 x' ex k2 => by
        subst ex
        exact m_farOf hG hM hp hx hy hkd e1 k2
      refine fo _ _ i3 (fun iv1 d1 d2 => ?_)
      have M1 := hM.w85 d2
      have R1 : clsS iv1 lg iv lg := clsS.w85 d2
      have k2 : ∀ iv', MV iv' lg (goN sg p x y kd r s).2 tw → clsS iv' lg iv1 lg → Q (some (.int (goN sg p x y kd r s).1)) SH RF iv' lg := fun iv' a b => k iv' a (b.trans R1)
      clear k
      unfold goN at k2
      have hb : ∀ c, dst (vL sg) kd x y = some c → c ≤ 2772 := fun c hc => dst_bd hG.1.2.2.2.2.2.1 hx hc
      cases ed : dst (vL sg) kd x y with
      | none =>
        rw [ed] at k2
        refine And.intro (fun z => absurd z (by decide)) (fun _ => ?_)
        exact k2 iv1 M1 clsS.rfl
      | some d =>
        rw [ed] at k2
        dsimp only at k2
        have hd := hb d ed
        have e11 : iv1 81 ((7 : Int32) * nI p + 2).toNatClampNeg = nI r := by rw [f2, cl, M1.2.1.2.1, e2]
        refine And.intro (fun _ => ?_) (fun z => absurd (nI_lt (a := d) (b := 100000000) (by omega) (by decide)) z)
        refine And.intro v2 ?_
        refine And.intro (fun z => ?_) (fun z => ?_)
        · rw [e11] at z
          have z := (nI_leI (a := d) (b := r) (by omega) (by omega)).mp z
          rw [if_neg (by omega)] at k2
          refine m_goBy (tm := 1) hkd hx hy (by decide) hG hp M1 d1 e1 e2 e3 rfl e9 hr hs ed (by omega) (fun iv2 M2 R2 => ?_)
          refine And.intro v2 ?_
          exact qv (k2 iv2 M2 R2) (by rw [f2, cl, M2.2.1.2.1]; exact sgW_at.1)
        · rw [e11] at z
          have z : ¬ d ≤ r := fun w => z ((nI_leI (a := d) (b := r) (by omega) (by omega)).mpr w)
          rw [if_pos (by omega)] at k2
          exact k2 iv1 M1 clsS.rfl
    · refine c0 ?_
      exact bad (fun z => h2 z.2)
  · refine b0 ?_
    exact bad (fun z => h1 z.1)
theorem e_go (a b : Int32) : EQ m_SR_go m_Mo_go [.int a, .int b] :=
  EQ.of (fun sg tw => ((opGo sg a b).1, (opGo sg a b).2, tw)) (fun hC hG _ k => c_go hC hG (fun iv' c1 c2 => k iv' _ c1 c2)) (fun hM hG _ k => m_go hM hG (fun iv' c1 c2 => k iv' _ c1 c2)) (fun hG _ => opGo_G hG)
-- carry
noncomputable def caN (sg : xIv) (p q x y kd r s : Nat) : Int32 × xIv := match dst (vL sg) kd x y with
  | none => (-4, sg)
  | some d => if r < 2 * d then (-3, sg) else (nI (r - 2 * d), xu2 (sgW sg p (nI (r - 2 * d)) (nI y) (wkC (vL sg) kd y 2 11 x (sg 81 (7 * p + 4))) (nI (min 1000000000 (s + 2 * d)))) 81 (7 * q + 3) (nI y))
abbrev okCa (sg : xIv) (a b c : Int32) : Prop := (isN a (cnt (vL sg) 1) ∧ isN b (cnt (vL sg) 1) ∧ ¬ a = b) ∧ isN c 12
noncomputable def opCa (sg : xIv) (a b c : Int32) : Int32 × xIv := if okCa sg a b c then (if sg 81 (7 * a.toNatClampNeg + 3) = sg 81 (7 * b.toNatClampNeg + 3) then caN sg a.toNatClampNeg b.toNatClampNeg (sg 81 (7 * a.toNatClampNeg + 3)).toNatClampNeg c.toNatClampNeg (sg 81 (7 * a.toNatClampNeg + 1)).toNatClampNeg (sg 81 (7 * a.toNatClampNeg + 2)).toNatClampNeg (sg 79 9).toNatClampNeg else (-2, sg)) else (-1, sg)
theorem opCa_eq {p q x y kd r s : Nat} (hG : GG t sg) (hp : p < cnt (vL sg) 1) (hq : q < cnt (vL sg) 1) (hpq : p ≠ q) (hx : x < 12) (hy : y < 12) (hkd : kd < 4) (hr : r ≤ 99999) (hs : s ≤ 1000000000) (e1 : sg 81 (7 * p + 1) = nI kd) (e2 : sg 81 (7 * p + 2) = nI r) (e3 : sg 81 (7 * p + 3) = nI x) (e9 : sg 79 9 = nI s) : opCa sg (nI p) (nI q) (nI y) = if nI x = sg 81 (7 * q + 3) then caN sg p q x y kd r s else (-2, sg) := by
  have h8 := hG.1.2.1.2
  unfold opCa
  rw [if_pos ⟨⟨isN_nI hp (by omega), isN_nI hq (by omega), fun z => hpq ((nI_eq (by omega) (by omega)).mp z)⟩, isN_nI hy (by decide)⟩, cl (n := p), cl (n := q), cl (n := y), e1, e2, e3, e9, cl (n := x), cl (n := kd), cl (n := r), cl (n := s)]
theorem sgW_cm {p q : Nat} {r x c s z : Int32} (h : p ≠ q) : sgW (xu2 sg 81 (7 * q + 3) z) p r x c s = xu2 (sgW sg p r x c s) 81 (7 * q + 3) z := by
  unfold sgW sgM
  rw [xu2_cm (Or.inr (show 7 * q + 3 ≠ 7 * p + 2 by omega)), xu2_cm (Or.inr (show 7 * q + 3 ≠ 7 * p + 4 by omega)), xu2_cm (Or.inr (show 7 * q + 3 ≠ 7 * p + 3 by omega)), xu2_cm (Or.inl (show 81 ≠ 79 by decide))]
theorem GG_pl {t q y : Nat} (hG : GG t sg) (hy : y < 12) : GG t (xu2 sg 81 (7 * q + 3) (nI y)) := hG.up (Nat.le_refl t) (hG.1.p (by decide) ⟨fun z => absurd z (by decide), fun z => absurd z (by decide), fun z => absurd z (by decide), fun _ => isN_nI hy (by decide)⟩) (fun z => absurd z (by decide)) (by decide) (by decide)
theorem opCa_G {a b c : Int32} (hG : GG t sg) : GG (t + 1) (opCa sg a b c).2 := by
  have h8 := hG.1.2.1.2
  have h0 := hG.mono (Nat.le_succ t)
  by_cases h : okCa sg a b c
  · obtain ⟨p, hp, rfl⟩ := isN_of h.1.1 (by omega)
    obtain ⟨q, hq, rfl⟩ := isN_of h.1.2.1 (by omega)
    obtain ⟨y, hy, rfl⟩ := isN_of h.2 (by decide)
    obtain ⟨kd, hkd, e1⟩ := kindOf hG hp
    obtain ⟨r, hr, e2⟩ := ringOf hG hp
    obtain ⟨x, hx, e3⟩ := placeOf' hG hp
    obtain ⟨s, hs, e9⟩ := spentOf hG
    rw [opCa_eq hG hp hq (fun z => h.1.2.2 (by rw [z])) hx hy hkd hr hs e1 e2 e3 e9]
    split
    · unfold caN
      cases dst (vL sg) kd x y with
      | none => exact h0
      | some d =>
        dsimp only
        split
        · exact h0
        · exact GG_pl (GG_W h0 (by omega) hy (by omega)) hy
    · exact h0
  · unfold opCa
    rw [if_neg h]
    exact h0
set_option maxRecDepth 100000 in
theorem c_carry {a b c : Int32} (hC : CX iv lg sg tw) (hG : GG t sg) (k : ∀ iv', CX iv' lg (opCa sg a b c).2 tw → refS iv' lg iv lg → Q (some (.int (opCa sg a b c).1)) SH RF iv' lg) : Sp L xs m_SR_carry [.ref 0, .int a, .int b, .int c] SH RF iv lg Q := by
  have h8 := hG.1.2.1.2
  have bad : ¬ okCa sg a b c → Q (some (.int (-1))) SH RF iv lg := fun h => by
    have e : opCa sg a b c = (-1, sg) := by unfold opCa; rw [if_neg h]
    rw [e] at k
    exact k iv hC refS.rfl
  refine sgo [] 100 ?_
  refine s_areTwo (nP_c hC hG) h8 (fun h1 => ?_) (fun h1 => ?_)
  · refine b1 ?_
    refine s_isPlace (fun h2 => ?_) (fun h2 => ?_)
    · refine c1 ?_
      clear bad
      obtain ⟨p, hp, rfl⟩ := isN_of h1.1 (by omega)
      obtain ⟨q, hq, rfl⟩ := isN_of h1.2.1 (by omega)
      obtain ⟨y, hy, rfl⟩ := isN_of h2 (by decide)
      have hpq : p ≠ q := fun z => h1.2.2 (by rw [z])
      obtain ⟨kd, hkd, e1⟩ := kindOf hG hp
      obtain ⟨r, hr, e2⟩ := ringOf hG hp
      obtain ⟨x, hx, e3⟩ := placeOf' hG hp
      obtain ⟨s, hs, e9⟩ := spentOf hG
      rw [opCa_eq hG hp hq hpq hx hy hkd hr hs e1 e2 e3 e9] at k
      have ip : iv 12 (nI p).toNatClampNeg = nI x := by rw [cl]; exact (hC.rd hp).2.2.2.1.trans e3
      have iq : iv 12 (nI q).toNatClampNeg = sg 81 (7 * q + 3) := by rw [cl]; exact (hC.rd hq).2.2.2.1
      have vp : vp_in (nI p) 8 := vp_N (by omega)
      have vq : vp_in (nI q) 8 := vp_N (by omega)
      refine And.intro vp ?_
      refine And.intro vq ?_
      refine And.intro (fun z => ?_) (fun z => ?_)
      · rw [ip, iq] at z
        rw [if_pos z] at k
        refine c_now hC hG hp hx hy hkd e1 e3 (fun iv1 C1 R1 => ?_)
        have k2 : ∀ iv', CX iv' lg (caN sg p q x y kd r s).2 tw → refS iv' lg iv1 lg → Q (some (.int (caN sg p q x y kd r s).1)) SH RF iv' lg := fun iv' a b => k iv' a (b.trans R1)
        clear k
        unfold caN at k2
        have hb : ∀ c, dst (vL sg) kd x y = some c → c ≤ 2772 := fun c hc => dst_bd hG.1.2.2.2.2.2.1 hx hc
        cases ed : dst (vL sg) kd x y with
        | none =>
          rw [ed] at k2
          refine And.intro (fun z => absurd z (by decide)) (fun _ => ?_)
          exact k2 iv1 C1 refS.rfl
        | some d =>
          rw [ed] at k2
          dsimp only at k2
          have hd := hb d ed
          have e11 : iv1 11 (nI p).toNatClampNeg = nI r := by rw [cl]; exact (C1.rd hp).2.2.1.trans e2
          have ed2 : (2 : Int32) * enc 1000000 (some d) = nI (2 * d) := pk_mul 2 d
          refine And.intro (fun _ => ?_) (fun z => absurd (nI_lt (a := d) (b := 1000000) (by omega) (by decide)) z)
          refine And.intro vp ?_
          refine And.intro (fun z => ?_) (fun z => ?_)
          · rw [e11, ed2] at z
            have z := (nI_leI (by omega) (by omega)).mp z
            rw [if_neg (by omega)] at k2
            refine And.intro vq ?_
            have C2 := C1.p (x := nI y) hq (f := 3) (by decide)
            have a2 : xu2 iv1 12 (nI q).toNatClampNeg (nI y) = xu2 iv1 (9 + 3) q (nI y) := by rw [cl]
            rw [a2]
            have V1 : vL (xu2 sg 81 (7 * q + 3) (nI y)) 1 = vL sg 1 := v1_ne (by decide)
            have V0 : vL (xu2 sg 81 (7 * q + 3) (nI y)) 0 0 = vL sg 0 0 := by rw [v0_ne (by decide)]
            refine c_walk (tm := 2) hkd hx hy (by decide) (GG_pl hG hy) (by rw [cnt_ne (by decide)]; exact hp) C2 (by rw [xu2_j (by omega)]; exact e1) (by rw [xu2_j (by omega)]; exact e2) (by rw [xu2_j (by omega)]; exact e3) (by rw [xu2_j (by omega)]) (by rw [xu2_k (by decide)]; exact e9) hr hs (by rw [dst_cg V0 V1]; exact ed) (by omega) (fun iv2 c1 c2 => ?_)
            rw [sgW_cm hpq, wkC_cg V0 V1] at c1
            exact k2 iv2 c1 (c2.trans (refS.rfl.up (by decide)))
          · rw [e11, ed2] at z
            have z : ¬ 2 * d ≤ r := fun w => z ((nI_leI (by omega) (by omega)).mpr w)
            rw [if_pos (by omega)] at k2
            exact k2 iv1 C1 refS.rfl
      · rw [ip, iq] at z
        rw [if_neg z] at k
        exact k iv hC refS.rfl
    · refine c0 ?_
      exact bad (fun z => h2 z.2)
  · refine b0 ?_
    exact bad (fun z => h1 z.1)
set_option maxRecDepth 100000 in
theorem m_carry {a b c : Int32} (hM : MV iv lg sg tw) (hG : GG t sg) (k : ∀ iv', MV iv' lg (opCa sg a b c).2 tw → clsS iv' lg iv lg → Q (some (.int (opCa sg a b c).1)) SH RF iv' lg) : Sp L xs m_Mo_carry [.ref 79, .int a, .int b, .int c] SH RF iv lg Q := by
  have h8 := hG.1.2.1.2
  have bad : ¬ okCa sg a b c → Q (some (.int (-1))) SH RF iv lg := fun h => by
    have e : opCa sg a b c = (-1, sg) := by unfold opCa; rw [if_neg h]
    rw [e] at k
    exact k iv hM clsS.rfl
  refine sgo [] 100 ?_
  refine s_moTwo (nP_m hM hG) h8 (fun h1 => ?_) (fun h1 => ?_)
  · refine b1 ?_
    refine s_moPlace (fun h2 => ?_) (fun h2 => ?_)
    · refine c1 ?_
      clear bad
      obtain ⟨p, hp, rfl⟩ := isN_of h1.1 (by omega)
      obtain ⟨q, hq, rfl⟩ := isN_of h1.2.1 (by omega)
      obtain ⟨y, hy, rfl⟩ := isN_of h2 (by decide)
      have hpq : p ≠ q := fun z => h1.2.2 (by rw [z])
      obtain ⟨kd, hkd, e1⟩ := kindOf hG hp
      obtain ⟨r, hr, e2⟩ := ringOf hG hp
      obtain ⟨x, hx, e3⟩ := placeOf' hG hp
      obtain ⟨s, hs, e9⟩ := spentOf hG
      rw [opCa_eq hG hp hq hpq hx hy hkd hr hs e1 e2 e3 e9] at k
      have f2 : (7 : Int32) * nI p + 2 = nI (7 * p + 2) := by rw [ni7]; exact ni_a _ 2
      have f3 : (7 : Int32) * nI p + 3 = nI (7 * p + 3) := by rw [ni7]; exact ni_a _ 3
      have g3 : (7 : Int32) * nI q + 3 = nI (7 * q + 3) := by rw [ni7]; exact ni_a _ 3
      have v2 : vp_in ((7 : Int32) * nI p + 2) 56 := by rw [f2]; exact vp_N (by omega)
      have v3 : vp_in ((7 : Int32) * nI p + 3) 56 := by rw [f3]; exact vp_N (by omega)
      have w3 : vp_in ((7 : Int32) * nI q + 3) 56 := by rw [g3]; exact vp_N (by omega)
      have i3 : iv 81 ((7 : Int32) * nI p + 3).toNatClampNeg = nI x := by rw [f3, cl, hM.2.1.2.1, e3]
      have j3 : iv 81 ((7 : Int32) * nI q + 3).toNatClampNeg = sg 81 (7 * q + 3) := by rw [g3, cl, hM.2.1.2.1]
      refine And.intro v3 ?_
      refine And.intro w3 ?_
      refine And.intro (fun z => ?_) (fun z => ?_)
      · rw [i3, j3] at z
        rw [if_pos z] at k
        refine And.intro v3 ?_
        have fo : ∀ (Q2 : xQ) (x' : Int32), x' = nI x → (∀ iv', (∀ a, a < 12 → iv' 85 a = enc 100000000 (dst (vL sg) kd a y)) → (∀ k, k ≠ 85 → iv' k = iv k) → Q2 (some (.int (enc 100000000 (dst (vL sg) kd x y)))) SH RF iv' lg) → Sp L xs m_Mo_farOf [.ref 79, .int (nI p), .int x', .int (nI y)] SH RF iv lg Q2 := fun Q2 x' ex k2 => by
          subst ex
          exact m_farOf hG hM hp hx hy hkd e1 k2
        refine fo _ _ i3 (fun iv1 d1 d2 => ?_)
        have M1 := hM.w85 d2
        have R1 : clsS iv1 lg iv lg := clsS.w85 d2
        have k2 : ∀ iv', MV iv' lg (caN sg p q x y kd r s).2 tw → clsS iv' lg iv1 lg → Q (some (.int (caN sg p q x y kd r s).1)) SH RF iv' lg := fun iv' a b => k iv' a (b.trans R1)
        clear k
        unfold caN at k2
        have hb : ∀ c, dst (vL sg) kd x y = some c → c ≤ 2772 := fun c hc => dst_bd hG.1.2.2.2.2.2.1 hx hc
        cases ed : dst (vL sg) kd x y with
        | none =>
          rw [ed] at k2
          refine And.intro (fun z => absurd z (by decide)) (fun _ => ?_)
          exact k2 iv1 M1 clsS.rfl
        | some d =>
          rw [ed] at k2
          dsimp only at k2
          have hd := hb d ed
          have e11 : iv1 81 ((7 : Int32) * nI p + 2).toNatClampNeg = nI r := by rw [f2, cl, M1.2.1.2.1, e2]
          have ed2 : (2 : Int32) * enc 100000000 (some d) = nI (2 * d) := pk_mul 2 d
          refine And.intro (fun _ => ?_) (fun z => absurd (nI_lt (a := d) (b := 100000000) (by omega) (by decide)) z)
          refine And.intro v2 ?_
          refine And.intro (fun z => ?_) (fun z => ?_)
          · rw [e11, ed2] at z
            have z := (nI_leI (by omega) (by omega)).mp z
            rw [if_neg (by omega)] at k2
            refine m_goBy (tm := 2) hkd hx hy (by decide) hG hp M1 d1 e1 e2 e3 rfl e9 hr hs ed (by omega) (fun iv2 M2 R2 => ?_)
            refine And.intro w3 ?_
            have a2 : xu2 iv2 81 ((7 : Int32) * nI q + 3).toNatClampNeg (nI y) = xu2 iv2 81 (7 * q + 3) (nI y) := by rw [g3, cl]
            rw [a2]
            have M3 := M2.up 81 (7 * q + 3) (nI y)
            refine And.intro v2 ?_
            refine qv (k2 _ M3 ((R2.up (by decide)))) ?_
            rw [f2, cl, xu2_j (by omega), M2.2.1.2.1]
            exact sgW_at.1
          · rw [e11, ed2] at z
            have z : ¬ 2 * d ≤ r := fun w => z ((nI_leI (by omega) (by omega)).mpr w)
            rw [if_pos (by omega)] at k2
            exact k2 iv1 M1 clsS.rfl
      · rw [i3, j3] at z
        rw [if_neg z] at k
        exact k iv hM clsS.rfl
    · refine c0 ?_
      exact bad (fun z => h2 z.2)
  · refine b0 ?_
    exact bad (fun z => h1 z.1)
theorem e_carry (a b c : Int32) : EQ m_SR_carry m_Mo_carry [.int a, .int b, .int c] :=
  EQ.of (fun sg tw => ((opCa sg a b c).1, (opCa sg a b c).2, tw)) (fun hC hG _ k => c_carry hC hG (fun iv' c1 c2 => k iv' _ c1 c2)) (fun hM hG _ k => m_carry hM hG (fun iv' c1 c2 => k iv' _ c1 c2)) (fun hG _ => opCa_G hG)
end GO
