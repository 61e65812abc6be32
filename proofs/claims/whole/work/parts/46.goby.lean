-- ===== the reference's walking; go, carry =====
section GOBY
variable {L : Nat} {xs : Nat → Int32} {iv : xIv} {lg : xLg} {Q : xQ} {sg : xIv} {tw : Nat → Int64} {t : Nat}
def FR (iv : xIv) (v : xIv) (kd y : Nat) : Prop := ∀ a, a < 12 → iv 85 a = enc 100000000 (dst v kd a y)
set_option maxRecDepth 100000 in
theorem m_isNext {kd x y e c : Nat} (hkd : kd < 4) (hx : x < 12) (hM : MV iv lg sg tw) (hG : GG t sg) (hF : FR iv (vL sg) kd y) (hc : dst (vL sg) kd x y = some c) (he : e < 2 * cnt (vL sg) 0) (k1 : NX (vL sg) kd y x e → Q (some (.int 1)) SH RF iv lg) (k0 : ¬ NX (vL sg) kd y x e → Q (some (.int 0)) SH RF iv lg) : Sp L xs m_Mo_isNext [.ref 79, .int (nI kd), .int (nI x), .int (nI e)] SH RF iv lg Q := by
  have h24 := hG.1.1.2
  have hw : e / 2 < cnt (vL sg) 0 := by omega
  have okw := hG.1.2.2.2.2.2.1 (e / 2) hw
  have hd : e % 2 < 2 := by omega
  have ends : ∃ a b, a < 12 ∧ b < 12 ∧ vL sg 1 (5 * (e / 2) + e % 2) = nI a ∧ vL sg 1 (5 * (e / 2) + (1 - e % 2)) = nI b := by
    obtain ⟨a, ha, ea⟩ := isN_of okw.1 (by decide)
    obtain ⟨b, hb, eb⟩ := isN_of okw.2.1 (by decide)
    have h01 : e % 2 = 0 ∨ e % 2 = 1 := by omega
    rcases h01 with e | e <;> rw [e]
    · exact ⟨a, b, ha, hb, ea, eb⟩
    · exact ⟨b, a, hb, ha, eb, ea⟩
  obtain ⟨a, b, ha, hb, ea, eb⟩ := ends
  have eh : nI e / 2 = nI (e / 2) := nI_half (by omega)
  have er : nI e - nI e / 2 * 2 = nI (e % 2) := nI_rem (by omega)
  have i1 : (5 : Int32) * (nI e / 2) + (nI e - nI e / 2 * 2) = nI (5 * (e / 2) + e % 2) := by rw [er, eh, ni5, ni_a]
  have i2 : (5 : Int32) * (nI e / 2) + 1 - (nI e - nI e / 2 * 2) = nI (5 * (e / 2) + (1 - e % 2)) := by
    rw [er, eh, ni5, nI_1, nI_subN (by omega) (by omega)]
    congr 1
    omega
  have v1 : vp_in ((5 : Int32) * (nI e / 2) + (nI e - nI e / 2 * 2)) 120 := by rw [i1]; exact vp_N (by omega)
  have v2 : vp_in ((5 : Int32) * (nI e / 2) + 1 - (nI e - nI e / 2 * 2)) 120 := by rw [i2]; exact vp_N (by omega)
  have ra : iv 80 ((5 : Int32) * (nI e / 2) + (nI e - nI e / 2 * 2)).toNatClampNeg = nI a := by rw [i1, cl, hM.2.1.1]; exact ea
  have rb : iv 80 ((5 : Int32) * (nI e / 2) + 1 - (nI e - nI e / 2 * 2)).toNatClampNeg = nI b := by rw [i2, cl, hM.2.1.1]; exact eb
  have vb : vp_in (iv 80 ((5 : Int32) * (nI e / 2) + 1 - (nI e - nI e / 2 * 2)).toNatClampNeg) 12 := by rw [rb]; exact vp_N hb
  have fb : iv 85 (iv 80 ((5 : Int32) * (nI e / 2) + 1 - (nI e - nI e / 2 * 2)).toNatClampNeg).toNatClampNeg = enc 100000000 (dst (vL sg) kd b y) := by rw [rb, cl]; exact hF b hb
  have fx : iv 85 (nI x).toNatClampNeg = nI c := by rw [cl, hF x hx, hc]; rfl
  have cb := (wcost_bd (k := kd) (d := e % 2) okw).2
  have cx := dst_bd hG.1.2.2.2.2.2.1 hx hc
  have cst := fun Q2 => m_costOf (L := L) (xs := xs) (Q := Q2) (w := e / 2) (k := kd) (d := e % 2) hM hG hw hkd hd
  rw [← eh, ← er] at cst
  have nx : NX (vL sg) kd y x e ↔ a = x ∧ ∃ c', dst (vL sg) kd b y = some c' ∧ c = wcost (vL sg) kd (e / 2) (e % 2) + c' := by
    unfold NX
    rw [hc]
    refine ⟨fun ⟨_, g2, a', c', g3, g4, g5, g6⟩ => ?_, fun ⟨g1, c', g2, g3⟩ => ?_⟩
    · have e1 : a = x := (nI_eq (by omega) (by omega)).mp (ea.symm.trans g2)
      have e2 : b = a' := (nI_eq (by omega) (by omega)).mp (eb.symm.trans g3)
      subst e2
      exact ⟨e1, c', g5, by injection g6⟩
    · exact ⟨he, by rw [← g1]; exact ea, b, c', eb, hb, g2, by rw [g3]⟩
  have cmp : (enc 100000000 (dst (vL sg) kd b y) + nI (wcost (vL sg) kd (e / 2) (e % 2)) = nI c) ↔ ∃ c', dst (vL sg) kd b y = some c' ∧ c = wcost (vL sg) kd (e / 2) (e % 2) + c' := by
    have qb : ∀ c', dst (vL sg) kd b y = some c' → c' ≤ 2772 := fun c' h => dst_bd hG.1.2.2.2.2.2.1 hb h
    cases e1 : dst (vL sg) kd b y with
    | none =>
      refine ⟨fun z => ?_, fun ⟨c', z, _⟩ => by cases z⟩
      have z : nI 100000000 + nI (wcost (vL sg) kd (e / 2) (e % 2)) = nI c := z
      rw [ni_a, nI_eq (by omega) (by omega)] at z
      omega
    | some c' =>
      have := qb c' e1
      refine ⟨fun z => ⟨c', rfl, ?_⟩, fun ⟨c2, z1, z2⟩ => ?_⟩
      · have z : nI c' + nI (wcost (vL sg) kd (e / 2) (e % 2)) = nI c := z
        rw [ni_a, nI_eq (by omega) (by omega)] at z
        omega
      · cases z1
        show nI c' + nI (wcost (vL sg) kd (e / 2) (e % 2)) = nI c
        rw [ni_a, z2, Nat.add_comm]
  refine sgo [] 100 ?_
  refine And.intro (by decide) ?_
  refine And.intro (by decide) ?_
  refine And.intro v2 ?_
  refine And.intro (by decide) ?_
  refine And.intro (by decide) ?_
  refine And.intro v1 ?_
  refine And.intro (fun z => ?_) (fun z => ?_)
  · rw [ra] at z
    exact And.intro (Or.inl rfl) (k0 (fun h => z (by rw [(nx.mp h).1])))
  · rw [ra] at z
    have zx : a = x := (nI_eq (by omega) (by omega)).mp (Decidable.not_not.mp z)
    refine And.intro vb ?_
    refine And.intro (by decide) ?_
    refine And.intro (by decide) ?_
    refine cst _ ?_
    refine And.intro (vp_N hx) ?_
    refine And.intro (fun w => ?_) (fun w => ?_)
    · rw [fb, fx] at w
      exact And.intro (Or.inl rfl) (k0 (fun h => w (cmp.mpr (nx.mp h).2)))
    · rw [fb, fx] at w
      exact And.intro (Or.inr rfl) (k1 (nx.mpr ⟨zx, cmp.mp (Decidable.not_not.mp w)⟩))
set_option maxRecDepth 100000 in
theorem m_goBy_s {p kd x y c : Nat} {z1 z2 z3 z6 : Int32} {o8 : Option Int32} (hkd : kd < 4) (hx : x < 12) (hne : x ≠ y) (hM : MV iv lg sg tw) (hG : GG t sg) (hF : FR iv (vL sg) kd y) (hc : dst (vL sg) kd x y = some c) (k : Wp L xs m_Mo_goBy 38 [some (.ref 79), some (.int z1), some (.int z2), some (.int z3), some (.int (nI x)), some (.int (nI kd)), some (.int z6), some (.int (nI (chE (vL sg) kd y x))), o8.map Value.int] [] SH RF iv lg Q) : ∀ (r e : Nat) (z : Int32), e + r = chE (vL sg) kd y x → z = nI e → Wp L xs m_Mo_goBy 30 [some (.ref 79), some (.int z1), some (.int z2), some (.int z3), some (.int (nI x)), some (.int (nI kd)), some (.int z6), some (.int z), o8.map Value.int] [] SH RF iv lg Q := by
  obtain ⟨h1, h2⟩ := chE_is (NX_ex hne hc)
  have hlt := h1.1
  intro r
  induction r with
  | zero =>
    intro e z he hz
    subst hz
    have he : e = chE (vL sg) kd y x := by omega
    cases o8
    all_goals
      refine wgo [30, 38] 100 ?_
      refine m_isNext hkd hx hM hG hF hc (by omega) (fun _ => ?_) (fun h => absurd (by rw [he]; exact h1) h)
      refine c1 ?_
      rw [he]
      exact k
  | succ r ih =>
    intro e z he hz
    subst hz
    cases o8
    all_goals
      refine wgo [30, 38] 100 ?_
      refine m_isNext hkd hx hM hG hF hc (by omega) (fun h => absurd h (h2 e (by omega))) (fun _ => ?_)
      refine c0 ?_
      exact ih (e + 1) _ (by omega) (nI_1 e)
set_option maxRecDepth 100000 in
theorem m_goBy_l {p kd y tm D s : Nat} (hkd : kd < 4) (hy : y < 12) (htm : tm ≤ 2) (hG : GG t sg) (hp : p < cnt (vL sg) 1) (hD : D ≤ 2772) (hs : s ≤ 1000000000) (es : sg 79 9 = nI s) : ∀ (n x r d : Nat) (c : Int32) (iv : xIv) (o7 : Option Value) (o8 : Option Int32), x < 12 → dst (vL sg) kd x y = some d → rkN (vL sg) kd y d ≤ n → tm * d ≤ r → r ≤ 99999 → MV iv lg (sgM sg p (nI r) c) tw → FR iv (vL sg) kd y → (∀ iv', MV iv' lg (sgW sg p (nI (r - tm * d)) (nI y) (wkC (vL sg) kd y tm n x c) (nI (min 1000000000 (s + tm * D)))) tw → clsS iv' lg iv lg → Q none SH RF iv' lg) → Wp L xs m_Mo_goBy 25 [some (.ref 79), some (.int (nI p)), some (.int (nI y)), some (.int (nI tm)), some (.int (nI x)), some (.int (nI kd)), some (.int (nI tm * nI D)), o7, o8.map Value.int] [] SH RF iv lg Q := by
  have h8 := hG.1.2.1.2
  have okw := hG.1.2.2.2.2.2.1
  have e2 : (7 : Int32) * nI p + 2 = nI (7 * p + 2) := by rw [ni7]; exact ni_a _ 2
  have e3 : (7 : Int32) * nI p + 3 = nI (7 * p + 3) := by rw [ni7]; exact ni_a _ 3
  have e4 : (7 : Int32) * nI p + 4 = nI (7 * p + 4) := by rw [ni7]; exact ni_a _ 4
  have v2 : vp_in ((7 : Int32) * nI p + 2) 56 := by rw [e2]; exact vp_N (by omega)
  have v3 : vp_in ((7 : Int32) * nI p + 3) 56 := by rw [e3]; exact vp_N (by omega)
  have v4 : vp_in ((7 : Int32) * nI p + 4) 56 := by rw [e4]; exact vp_N (by omega)
  have k2 : ((7 : Int32) * nI p + 2).toNatClampNeg = 7 * p + 2 := by rw [e2, cl]
  have k3 : ((7 : Int32) * nI p + 3).toNatClampNeg = 7 * p + 3 := by rw [e3, cl]
  have k4 : ((7 : Int32) * nI p + 4).toNatClampNeg = 7 * p + 4 := by rw [e4, cl]
  have hall : tm * D ≤ 5544 := Nat.le_trans (Nat.mul_le_mul htm hD) (by decide)
  have eall : nI tm * nI D = nI (tm * D) := pk_mul tm D
  have stop : ∀ (n x r d : Nat) (c : Int32) (iv : xIv) (o7 : Option Value) (o8 : Option Int32), x = y → dst (vL sg) kd x y = some d → MV iv lg (sgM sg p (nI r) c) tw → wkC (vL sg) kd y tm n x c = c → (∀ iv', MV iv' lg (sgW sg p (nI (r - tm * d)) (nI y) (wkC (vL sg) kd y tm n x c) (nI (min 1000000000 (s + tm * D)))) tw → clsS iv' lg iv lg → Q none SH RF iv' lg) → Wp L xs m_Mo_goBy 25 [some (.ref 79), some (.int (nI p)), some (.int (nI y)), some (.int (nI tm)), some (.int (nI x)), some (.int (nI kd)), some (.int (nI tm * nI D)), o7, o8.map Value.int] [] SH RF iv lg Q := by
    intro n x r d c iv o7 o8 hx hd hM ew k
    subst hx
    rw [dst_self] at hd
    injection hd with hd
    subst hd
    rw [ew, Nat.mul_zero, Nat.sub_zero] at k
    have M2 := (hM.up 81 (7 * p + 3) (nI x)).up 79 9 (nI (min 1000000000 (s + tm * D)))
    have R2 : clsS (xu2 (xu2 iv 81 (7 * p + 3) (nI x)) 79 9 (nI (min 1000000000 (s + tm * D)))) lg iv lg := (clsS.rfl.up (by decide)).up (by decide)
    have kk := k _ M2 R2
    have s9 : iv 79 9 = nI s := by
      refine hM.1.2.2.2.2.1.trans ?_
      rw [sgM_row (by decide)]
      exact es
    have fin : ∀ sp : Int32, sp = nI (min 1000000000 (s + tm * D)) → Q none SH RF (xu2 (xu2 iv 81 (7 * p + 3) (nI x)) 79 9 sp) lg := fun sp e => by subst e; exact kk
    rw [eall]
    have esub : (1000000000 : Int32) - nI (tm * D) = nI (1000000000 - tm * D) := nI_subN (a := 1000000000) (by omega) (by decide)
    refine wgo [25, 30] 100 ?_
    refine And.intro (fun _ => ?_) (fun z => absurd rfl z)
    refine And.intro v3 ?_
    rw [k3]
    have s9' : xu2 iv 81 (7 * p + 3) (nI x) 79 9 = nI s := by rw [xu2_k (by decide)]; exact s9
    refine And.intro (fun z => ?_) (fun z => ?_)
    · rw [s9', esub] at z
      have z := (nI_leI (by omega) (by omega)).mp z
      exact fin _ (by rw [s9', ni_a]; congr 1; omega)
    · rw [s9', esub] at z
      have z : ¬ s ≤ 1000000000 - tm * D := fun w => z ((nI_leI (by omega) (by omega)).mpr w)
      exact fin _ (by rw [show min 1000000000 (s + tm * D) = 1000000000 by omega]; rfl)
  intro n
  induction n with
  | zero =>
    intro x r d c iv o7 o8 hx hd hrk hrd hr hM hF k
    exact stop 0 x r d c iv o7 o8 (at_end okw hd hrk) hd hM rfl k
  | succ n ih =>
    intro x r d c iv o7 o8 hx hd hrk hrd hr hM hF k
    by_cases hne : x = y
    · exact stop (n + 1) x r d c iv o7 o8 hne hd hM (by unfold wkC; rw [if_pos hne]) k
    have ewk : wkC (vL sg) kd y tm (n + 1) x c = wkC (vL sg) kd y tm n (nxE (vL sg) kd y x) (if vL sg 1 (5 * (chE (vL sg) kd y x / 2) + 4) = 0 then c else c + nI (tm * csE (vL sg) kd y x)) := by
      show (if x = y then c else _) = _
      rw [if_neg hne]
    rw [ewk] at k
    clear ewk stop
    obtain ⟨q1, q2, q3, q4, d', q5, q6, q7⟩ := step_E okw hne hd
    have hlt := (chE_is (NX_ex hne hd)).1.1
    have hGM := GG_M (p := p) (c := c) hG hr
    have hv0 : vL (sgM sg p (nI r) c) 0 0 = vL sg 0 0 := by rw [sgM_v0]
    have srch := m_goBy_s (L := L) (xs := xs) (iv := iv) (lg := lg) (Q := Q) (sg := sgM sg p (nI r) c) (tw := tw) (t := t) (p := p) (kd := kd) (x := x) (y := y) (c := d) (z1 := nI p) (z2 := nI y) (z3 := nI tm) (z6 := nI tm * nI D) (o8 := o8) hkd hx hne hM hGM (fun a ha => by rw [dst_cg hv0 sgM_v1]; exact hF a ha) (by rw [dst_cg hv0 sgM_v1]; exact hd)
    rw [chE_cg hv0 sgM_v1] at srch
    have hcs : csE (vL sg) kd y x ≤ 252 := (wcost_bd (okw _ q1)).2
    have hok := okw _ q1
    have cst : ∀ Q2 : xQ, Q2 (some (.int (nI (csE (vL sg) kd y x)))) SH RF iv lg → Sp L xs m_Mo_costOf [.ref 79, .int (nI kd), .int (nI (chE (vL sg) kd y x) / 2), .int (nI (chE (vL sg) kd y x) - nI (chE (vL sg) kd y x) / 2 * 2)] SH RF iv lg Q2 := fun Q2 k2 => by
      have h24 := hG.1.1.2
      rw [nI_rem (by omega), nI_half (by omega)]
      refine m_costOf hM hGM (by rw [sgM_c]; exact q1) hkd (by omega) ?_
      rw [wcost_cg sgM_v1]
      exact k2
    unfold csE at hcs cst k q6
    generalize ecs : wcost (vL sg) kd (chE (vL sg) kd y x / 2) (chE (vL sg) kd y x % 2) = cs at hcs cst k q6
    generalize enx : nxE (vL sg) kd y x = x' at q3 q4 q5 k
    generalize ew : chE (vL sg) kd y x = e at q1 q2 q3 cst hok k hlt srch
    clear ecs enx ew
    have hmul : tm * d = tm * cs + tm * d' := by rw [q6, Nat.mul_add]
    have htc : tm * cs ≤ 504 := Nat.le_trans (Nat.mul_le_mul htm hcs) (by decide)
    have h24 := hG.1.1.2
    have epr : nI tm * nI cs = nI (tm * cs) := pk_mul tm cs
    have er : r - tm * d = (r - tm * cs) - tm * d' := by omega
    rw [er] at k
    have eh : nI e / 2 = nI (e / 2) := nI_half (by omega)
    have er' : nI e - nI e / 2 * 2 = nI (e % 2) := nI_rem (by omega)
    have i4 : (5 : Int32) * (nI e / 2) + 4 = nI (5 * (e / 2) + 4) := by rw [eh, ni5]; exact ni_a _ 4
    have i2 : (5 : Int32) * (nI e / 2) + 1 - (nI e - nI e / 2 * 2) = nI (5 * (e / 2) + (1 - e % 2)) := by
      rw [er', eh, ni5, nI_1, nI_subN (by omega) (by omega)]
      congr 1
      omega
    have w4 : vp_in ((5 : Int32) * (nI e / 2) + 4) 120 := by rw [i4]; exact vp_N (by omega)
    have w2 : vp_in ((5 : Int32) * (nI e / 2) + 1 - (nI e - nI e / 2 * 2)) 120 := by rw [i2]; exact vp_N (by omega)
    obtain ⟨m2, m4⟩ := sgM_at (sg := sg) (p := p) (r := nI r) (c := c)
    have r81 : iv 81 = sgM sg p (nI r) c 81 := hM.2.1.2.1
    have r80 : iv 80 = sg 80 := hM.2.1.1.trans (sgM_row (by decide))
    have a2 : xu2 iv 81 ((7 : Int32) * nI p + 2).toNatClampNeg (iv 81 ((7 : Int32) * nI p + 2).toNatClampNeg - nI tm * nI cs) = xu2 iv 81 (7 * p + 2) (nI (r - tm * cs)) := by
      rw [k2, r81, m2, epr, nI_subN (by omega) (by omega)]
    have gw : xu2 iv 81 (7 * p + 2) (nI (r - tm * cs)) 80 ((5 : Int32) * (nI e / 2) + 4).toNatClampNeg = vL sg 1 (5 * (e / 2) + 4) := by
      rw [xu2_k (by decide), i4, cl, r80]
      rfl
    have c4 : xu2 iv 81 (7 * p + 2) (nI (r - tm * cs)) 81 ((7 : Int32) * nI p + 4).toNatClampNeg = c := by
      rw [k4, xu2_j (by omega), r81]
      exact m4
    have fin : ∀ (cn z8 : Int32), cn = (if vL sg 1 (5 * (e / 2) + 4) = 0 then c else c + nI (tm * cs)) → vp_in ((5 : Int32) * (nI e / 2) + 1 - (nI e - nI e / 2 * 2)) 120 ∧ Wp L xs m_Mo_goBy 25 [some (.ref 79), some (.int (nI p)), some (.int (nI y)), some (.int (nI tm)), some (.int (xu2 (xu2 iv 81 (7 * p + 2) (nI (r - tm * cs))) 81 ((7 : Int32) * nI p + 4).toNatClampNeg cn 80 ((5 : Int32) * (nI e / 2) + 1 - (nI e - nI e / 2 * 2)).toNatClampNeg)), some (.int (nI kd)), some (.int (nI tm * nI D)), some (.int (nI e)), some (.int z8)] [] SH RF (xu2 (xu2 iv 81 (7 * p + 2) (nI (r - tm * cs))) 81 ((7 : Int32) * nI p + 4).toNatClampNeg cn) lg Q := fun cn z8 ecn => by
      subst ecn
      refine ⟨w2, ?_⟩
      have M2 := (hM.up 81 (7 * p + 2) (nI (r - tm * cs))).up 81 (7 * p + 4) (if vL sg 1 (5 * (e / 2) + 4) = 0 then c else c + nI (tm * cs))
      rw [sgM_st] at M2
      have R2 : clsS (xu2 (xu2 iv 81 (7 * p + 2) (nI (r - tm * cs))) 81 (7 * p + 4) (if vL sg 1 (5 * (e / 2) + 4) = 0 then c else c + nI (tm * cs))) lg iv lg := (clsS.rfl.up (by decide)).up (by decide)
      rw [k4, i2, cl, xu2_k (by decide), xu2_k (by decide), r80]
      rw [show sg 80 (5 * (e / 2) + (1 - e % 2)) = nI x' from q3]
      refine ih x' (r - tm * cs) d' _ _ _ (some _) q4 q5 (by omega) (by omega) (by omega) M2 (fun a ha => ?_) (fun iv' e1 e2 => k iv' e1 (e2.trans R2))
      rw [xu2_k (by decide), xu2_k (by decide)]
      exact hF a ha
    cases o8
    all_goals
      refine wgo [25, 30] 100 ?_
      refine And.intro (fun z => absurd ((nI_eq (by omega) (by omega)).mp z) hne) (fun _ => ?_)
      refine srch ?_ e 0 _ (by omega) rfl
      refine wgo [25] 1000 ?_
      refine And.intro (by decide) ?_
      refine And.intro (by decide) ?_
      refine cst _ ?_
      refine And.intro v2 ?_
      refine And.intro v2 ?_
      rw [a2]
      refine And.intro v4 ?_
      refine And.intro (by decide) ?_
      refine And.intro w4 ?_
      refine And.intro (fun z => ?_) (fun z => ?_)
      · rw [gw] at z
        have z0 : vL sg 1 (5 * (e / 2) + 4) = 0 := by
          rcases hok.2.2.2.2.2 with h | h
          · exact h
          · exact absurd h z
        refine And.intro v4 ?_
        refine And.intro (by decide) ?_
        refine And.intro (by decide) ?_
        exact fin _ _ (by rw [c4, if_pos z0, Int32.add_zero])
      · rw [gw] at z
        have z1 := Decidable.not_not.mp z
        refine And.intro v4 ?_
        refine And.intro (by decide) ?_
        refine And.intro (by decide) ?_
        exact fin _ _ (by rw [c4, if_neg (by rw [z1]; decide), epr])
set_option maxRecDepth 100000 in
theorem m_goBy {p kd x y tm r s d : Nat} {c : Int32} (hkd : kd < 4) (hx : x < 12) (hy : y < 12) (htm : tm ≤ 2) (hG : GG t sg) (hp : p < cnt (vL sg) 1) (hM : MV iv lg sg tw) (hF : FR iv (vL sg) kd y) (ek : sg 81 (7 * p + 1) = nI kd) (er : sg 81 (7 * p + 2) = nI r) (ex : sg 81 (7 * p + 3) = nI x) (ec : sg 81 (7 * p + 4) = c) (es : sg 79 9 = nI s) (hr : r ≤ 99999) (hs : s ≤ 1000000000) (hd : dst (vL sg) kd x y = some d) (hrd : tm * d ≤ r) (k : ∀ iv', MV iv' lg (sgW sg p (nI (r - tm * d)) (nI y) (wkC (vL sg) kd y tm 11 x c) (nI (min 1000000000 (s + tm * d)))) tw → clsS iv' lg iv lg → Q none SH RF iv' lg) : Sp L xs m_Mo_goBy [.ref 79, .int (nI p), .int (nI y), .int (nI tm)] SH RF iv lg Q := by
  have h8 := hG.1.2.1.2
  have M2 : MV iv lg (sgM sg p (nI r) c) tw := by
    rw [← er, ← ec, sgM_id]
    exact hM
  have e1 : (7 : Int32) * nI p + 1 = nI (7 * p + 1) := by rw [ni7]; exact ni_a _ 1
  have e3 : (7 : Int32) * nI p + 3 = nI (7 * p + 3) := by rw [ni7]; exact ni_a _ 3
  have v1 : vp_in ((7 : Int32) * nI p + 1) 56 := by rw [e1]; exact vp_N (by omega)
  have v3 : vp_in ((7 : Int32) * nI p + 3) 56 := by rw [e3]; exact vp_N (by omega)
  have i1 : iv 81 ((7 : Int32) * nI p + 1).toNatClampNeg = nI kd := by rw [e1, cl, hM.2.1.2.1, ek]
  have i3 : iv 81 ((7 : Int32) * nI p + 3).toNatClampNeg = nI x := by rw [e3, cl, hM.2.1.2.1, ex]
  have f : iv 85 (nI x).toNatClampNeg = nI d := by rw [cl, hF x hx, hd]; rfl
  have key : ∀ z4 z5 z6 : Int32, z4 = nI x → z5 = nI kd → z6 = nI d → Wp L xs m_Mo_goBy 25 [some (.ref 79), some (.int (nI p)), some (.int (nI y)), some (.int (nI tm)), some (.int z4), some (.int z5), some (.int (nI tm * z6)), none, none] [] SH RF iv lg Q := fun z4 z5 z6 f4 f5 f6 => by
    subst f4; subst f5; subst f6
    exact m_goBy_l hkd hy htm hG hp (dst_bd hG.1.2.2.2.2.2.1 hx hd) hs es 11 x r d c iv none none hx hd (by have := rkN_bd hx hd; omega) hrd hr M2 hF k
  refine sgo [25] 100 ?_
  refine And.intro v3 ?_
  refine And.intro v1 ?_
  refine And.intro (by rw [i3]; exact vp_N hx) ?_
  exact key _ _ _ i3 i1 (by rw [i3]; exact f)
end GOBY
