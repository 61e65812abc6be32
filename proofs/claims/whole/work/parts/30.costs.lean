-- ===== what a way costs =====
theorem mulI {a b : Int32} (h1 : -2147483648 ≤ a.toInt * b.toInt) (h2 : a.toInt * b.toInt < 2147483648) : (a * b).toInt = a.toInt * b.toInt := by
  rw [Int32.toInt_mul]
  simp only [Int.bmod_def]
  omega
theorem negI {a : Int32} (h1 : -2147483648 < a.toInt) : (-a).toInt = - a.toInt := by
  rw [Int32.toInt_neg]
  have := Int32.toInt_lt a
  simp only [Int.bmod_def]
  omega
theorem tl2 : (2 : Int32).toInt = 2 := by decide
theorem tl3 : (3 : Int32).toInt = 3 := by decide
theorem halfI {a : Int32} (h : 0 ≤ a.toInt) : (a / 2).toInt = a.toInt / 2 := by
  rw [Int32.toInt_div, tl2, Int.tdiv_eq_ediv_of_nonneg h]
  have := Int32.toInt_lt a
  simp only [Int.bmod_def]
  omega
theorem nI_of_toInt {r : Int32} {n : Nat} (h : r.toInt = (n : Int)) (hn : n < 2 ^ 31 := by omega) : r = nI n := ie.mpr (h.trans (nI_toInt hn).symm)
theorem imx_toInt (x y : Int32) : (imx x y).toInt = if x.toInt < y.toInt then y.toInt else x.toInt := by
  unfold imx
  by_cases h : x < y
  · rw [if_pos h, if_pos (it.mp h)]
  · rw [if_neg h, if_neg (fun z => h (it.mpr z))]
theorem qv {Q : xQ} {sh : xSh} {rf : xRf} {iv : xIv} {lg : xLg} {a b : Int32} (k : Q (some (.int b)) sh rf iv lg) (h : a = b) : Q (some (.int a)) sh rf iv lg := h ▸ k
/-- the class's reckoning -/
def wcC (k : Nat) (x u : Int32) : Int32 := match k with
  | 0 => x + 3 * imx 0 u
  | 1 => 2 * (x + 3 * imx 0 u)
  | 2 => if u ≤ 0 then x + 3 * imx 0 u else x + 3 * imx 0 u + x / 2
  | _ => imx 1 ((if u ≤ 0 then x + 3 * imx 0 u else x + 3 * imx 0 u + x / 2) / 2)
/-- the reference's -/
def wcM (k : Nat) (x u : Int32) : Int32 := match k with
  | 0 => if u ≤ 0 then x else x + 3 * u
  | 1 => 2 * (if u ≤ 0 then x else x + 3 * u)
  | 2 => if u ≤ 0 then x else x + 3 * u + x / 2
  | _ => if 4 ≤ (if u ≤ 0 then x else x + 3 * u + x / 2) then (if u ≤ 0 then x else x + 3 * u + x / 2) / 2 else 1
def wcN (k : Nat) (len up : Int) : Nat :=
  let grown := if up > 0 then len + 3 * up else len
  let old := if up > 0 then grown + len / 2 else grown
  (match k with
  | 0 => grown
  | 1 => 2 * grown
  | 2 => old
  | _ => if old < 4 then 1 else old / 2).toNat
theorem wcN0 {len up : Int} : wcN 0 len up = (if up > 0 then len + 3 * up else len).toNat := rfl
theorem wcN1 {len up : Int} : wcN 1 len up = (2 * (if up > 0 then len + 3 * up else len)).toNat := rfl
theorem wcN2 {len up : Int} : wcN 2 len up = (if up > 0 then (if up > 0 then len + 3 * up else len) + len / 2 else (if up > 0 then len + 3 * up else len)).toNat := rfl
theorem wcN3 {len up : Int} {k : Nat} : wcN (k + 3) len up = (if (if up > 0 then (if up > 0 then len + 3 * up else len) + len / 2 else (if up > 0 then len + 3 * up else len)) < 4 then 1 else (if up > 0 then (if up > 0 then len + 3 * up else len) + len / 2 else (if up > 0 then len + 3 * up else len)) / 2).toNat := rfl
theorem wcM0 {x u : Int32} : wcM 0 x u = (if u ≤ 0 then x else x + 3 * u) := rfl
theorem wcM1 {x u : Int32} : wcM 1 x u = 2 * (if u ≤ 0 then x else x + 3 * u) := rfl
theorem wcM2 {x u : Int32} : wcM 2 x u = (if u ≤ 0 then x else x + 3 * u + x / 2) := rfl
theorem wcM3 {x u : Int32} {k : Nat} : wcM (k + 3) x u = (if 4 ≤ (if u ≤ 0 then x else x + 3 * u + x / 2) then (if u ≤ 0 then x else x + 3 * u + x / 2) / 2 else 1) := rfl
theorem wcC0 {x u : Int32} : wcC 0 x u = x + 3 * imx 0 u := rfl
theorem wcC1 {x u : Int32} : wcC 1 x u = 2 * (x + 3 * imx 0 u) := rfl
theorem wcC2 {x u : Int32} : wcC 2 x u = (if u ≤ 0 then x + 3 * imx 0 u else x + 3 * imx 0 u + x / 2) := rfl
theorem wcC3 {x u : Int32} {k : Nat} : wcC (k + 3) x u = imx 1 ((if u ≤ 0 then x + 3 * imx 0 u else x + 3 * imx 0 u + x / 2) / 2) := rfl
theorem wcN_bd {k : Nat} {len up : Int} (h1 : 1 ≤ len) (h2 : len ≤ 99) (h3 : -9 ≤ up) (h4 : up ≤ 9) : 1 ≤ wcN k len up ∧ wcN k len up ≤ 252 := by
  match k with
  | 0 => rw [wcN0]; split <;> omega
  | 1 => rw [wcN1]; split <;> omega
  | 2 => rw [wcN2]; split <;> omega
  | k + 3 => rw [wcN3]; split <;> split <;> omega
theorem tl4 : (4 : Int32).toInt = 4 := by decide
theorem wcM_eq {k : Nat} {x u : Int32} (h1 : 1 ≤ x.toInt) (h2 : x.toInt ≤ 99) (h3 : -9 ≤ u.toInt) (h4 : u.toInt ≤ 9) : wcM k x u = nI (wcN k x.toInt u.toInt) := by
  have hb := wcN_bd (k := k) h1 h2 h3 h4
  refine nI_of_toInt ?_
  have e3 : (3 * u).toInt = 3 * u.toInt := by rw [mulI] <;> rw [tl3] <;> omega
  have hx2 := halfI (a := x) (by omega)
  by_cases hu : u ≤ 0
  · have hu' : ¬ u.toInt > 0 := by rw [il, tl0] at hu; omega
    match k with
    | 0 => rw [wcM0, wcN0, if_pos hu, if_neg hu']; omega
    | 1 => rw [wcM1, wcN1, if_pos hu, if_neg hu', mulI] <;> rw [tl2] <;> omega
    | 2 => rw [wcM2, wcN2, if_pos hu, if_neg hu', if_neg hu']; omega
    | k + 3 =>
      rw [wcM3, wcN3, if_pos hu, if_neg hu', if_neg hu']
      by_cases h5 : 4 ≤ x
      · rw [if_pos h5]
        rw [il, tl4] at h5
        rw [if_neg (by omega)]
        omega
      · rw [if_neg h5]
        rw [il, tl4] at h5
        rw [if_pos (by omega)]
        decide
  · have hu' : u.toInt > 0 := by rw [il, tl0] at hu; omega
    have eg : (x + 3 * u).toInt = x.toInt + 3 * u.toInt := by rw [addI] <;> omega
    have eo : (x + 3 * u + x / 2).toInt = x.toInt + 3 * u.toInt + x.toInt / 2 := by rw [addI] <;> omega
    match k with
    | 0 => rw [wcM0, wcN0, if_neg hu, if_pos hu']; omega
    | 1 => rw [wcM1, wcN1, if_neg hu, if_pos hu', mulI] <;> rw [tl2] <;> omega
    | 2 => rw [wcM2, wcN2, if_neg hu, if_pos hu', if_pos hu']; omega
    | k + 3 =>
      rw [wcM3, wcN3, if_neg hu, if_pos hu', if_pos hu']
      by_cases h5 : 4 ≤ x + 3 * u + x / 2
      · rw [if_pos h5]
        rw [il, tl4] at h5
        rw [if_neg (by omega), halfI (by omega)]
        omega
      · rw [if_neg h5]
        rw [il, tl4] at h5
        rw [if_pos (by omega)]
        decide
theorem wcC_eq {k : Nat} {x u : Int32} (h1 : 1 ≤ x.toInt) (h2 : x.toInt ≤ 99) (h3 : -9 ≤ u.toInt) (h4 : u.toInt ≤ 9) : wcC k x u = wcM k x u := by
  have hz : u ≤ 0 → imx 0 u = 0 := fun h => by unfold imx; rw [if_neg (lenl h)]
  have hp : ¬ u ≤ 0 → imx 0 u = u := fun h => by unfold imx; rw [if_pos (nle h)]
  have hm : ∀ o : Int32, 1 ≤ o.toInt → imx 1 (o / 2) = if 4 ≤ o then o / 2 else 1 := fun o ho => by
    have e := halfI (a := o) (by omega)
    refine ie.mpr ?_
    rw [imx_toInt, e, tl1]
    by_cases h5 : 4 ≤ o
    · rw [if_pos h5, e]
      rw [il, tl4] at h5
      split <;> omega
    · rw [if_neg h5, tl1]
      rw [il, tl4] at h5
      split <;> omega
  have e3 : (3 * u).toInt = 3 * u.toInt := by rw [mulI] <;> rw [tl3] <;> omega
  have hx2 := halfI (a := x) (by omega)
  by_cases hu : u ≤ 0
  · have e0 : x + 3 * (0 : Int32) = x := by rw [show (3 : Int32) * 0 = 0 by decide, Int32.add_zero]
    match k with
    | 0 => rw [wcC0, wcM0, if_pos hu, hz hu, e0]
    | 1 => rw [wcC1, wcM1, if_pos hu, hz hu, e0]
    | 2 => rw [wcC2, wcM2, if_pos hu, if_pos hu, hz hu, e0]
    | k + 3 => rw [wcC3, wcM3, if_pos hu, if_pos hu, hz hu, e0]; exact hm x h1
  · have hu' : u.toInt > 0 := by rw [il, tl0] at hu; omega
    have eg : (x + 3 * u).toInt = x.toInt + 3 * u.toInt := by rw [addI] <;> omega
    have eo : (x + 3 * u + x / 2).toInt = x.toInt + 3 * u.toInt + x.toInt / 2 := by rw [addI] <;> omega
    match k with
    | 0 => rw [wcC0, wcM0, if_neg hu, hp hu]
    | 1 => rw [wcC1, wcM1, if_neg hu, hp hu]
    | 2 => rw [wcC2, wcM2, if_neg hu, if_neg hu, hp hu]
    | k + 3 => rw [wcC3, wcM3, if_neg hu, if_neg hu, hp hu]; exact hm _ (by omega)
theorem wcost_N {v : xIv} {k w d : Nat} : wcost v k w d = wcN k (v 1 (5 * w + 2)).toInt (if d = 0 then (v 1 (5 * w + 3)).toInt else - (v 1 (5 * w + 3)).toInt) := rfl
def upO (v : xIv) (w d : Nat) : Int32 := if d = 0 then v 1 (5 * w + 3) else - v 1 (5 * w + 3)
theorem okW_bd {v : xIv} {w d : Nat} (h : okW v w) : (1 ≤ (v 1 (5 * w + 2)).toInt ∧ (v 1 (5 * w + 2)).toInt ≤ 99) ∧ (-9 ≤ (upO v w d).toInt ∧ (upO v w d).toInt ≤ 9) ∧ (upO v w d).toInt = (if d = 0 then (v 1 (5 * w + 3)).toInt else - (v 1 (5 * w + 3)).toInt) := by
  obtain ⟨-, -, -, h1, h2, -⟩ := h
  rw [il, il] at h1 h2
  rw [show (1 : Int32).toInt = 1 by decide, show (99 : Int32).toInt = 99 by decide] at h1
  rw [show (-9 : Int32).toInt = -9 by decide, show (9 : Int32).toInt = 9 by decide] at h2
  unfold upO
  refine ⟨h1, ?_⟩
  split
  · exact ⟨h2, rfl⟩
  · rw [negI (by omega)]
    exact ⟨by omega, rfl⟩
theorem wcM_N {v : xIv} {k w d : Nat} (h : okW v w) : wcM k (v 1 (5 * w + 2)) (upO v w d) = nI (wcost v k w d) := by
  obtain ⟨h1, h2, h3⟩ := okW_bd (d := d) h
  rw [wcM_eq h1.1 h1.2 h2.1 h2.2, h3, wcost_N]
theorem wcC_N {v : xIv} {k w d : Nat} (h : okW v w) : wcC k (v 1 (5 * w + 2)) (upO v w d) = nI (wcost v k w d) := by
  obtain ⟨h1, h2, h3⟩ := okW_bd (d := d) h
  rw [wcC_eq h1.1 h1.2 h2.1 h2.2, wcM_N h]
theorem wcost_bd {v : xIv} {k w d : Nat} (h : okW v w) : 1 ≤ wcost v k w d ∧ wcost v k w d ≤ 252 := by
  obtain ⟨h1, h2, h3⟩ := okW_bd (d := d) h
  rw [wcost_N, ← h3]
  exact wcN_bd h1.1 h1.2 h2.1 h2.2
section COSTS
variable {L : Nat} {xs : Nat → Int32} {iv : xIv} {lg : xLg} {Q : xQ} {sg : xIv} {tw : Nat → Int64} {t : Nat}
set_option maxRecDepth 100000 in
theorem s_costOf0 {w k : Nat} {d : Nat} {b x u : Int32} (hw : w < 24) (hk : k < 4) (hb : (d = 1 ∧ b = 0) ∨ (d = 0 ∧ b = 1)) (hx : iv 5 w = x) (hu : (if d = 0 then iv 6 w else - iv 6 w) = u) (kk : Q (some (.int (wcC k x u))) SH RF iv lg) : Sp L xs m_Ways_costOf [.ref 2, .int (nI w), .int (nI k), .int b] SH RF iv lg Q := by
  have hv : vp_in (nI w) 24 := vp_N hw
  have ew : (nI w).toNatClampNeg = w := cl
  have key : ∀ {lv : xLv}, (∀ {x u : Int32}, iv 5 w = x → (if d = 0 then iv 6 w else - iv 6 w) = u → Q (some (.int (wcC k x u))) SH RF iv lg → Wp L xs m_Ways_costOf 12 [some (.ref 2), some (.int (nI w)), some (.int (nI k)), some (.int b), none, none, none] [.int u] SH RF iv lg Q) := by
    intro _ x u hx hu kk
    refine wgo [] 100 ?_
    refine And.intro hv ?_
    rw [ew, hx]
    refine And.intro (fun h => ?_) (fun h => ?_)
    · match k, hk, kk with
      | 0, _, kk => exact ⟨fun z => absurd z (by decide), fun _ => ⟨fun z => absurd z (by decide), fun _ => ⟨fun z => absurd z (by decide), fun _ => kk⟩⟩⟩
      | 1, _, kk => exact ⟨fun _ => kk, fun z => absurd rfl z⟩
      | 2, _, kk => exact ⟨fun z => absurd z (by decide), fun _ => ⟨fun _ => qv kk (by rw [wcC2, if_pos h]), fun z => absurd rfl z⟩⟩
      | 3, _, kk => exact ⟨fun z => absurd z (by decide), fun _ => ⟨fun z => absurd z (by decide), fun _ => ⟨fun _ => ⟨by decide, qv kk (by rw [show wcC 3 _ _ = _ from wcC3 (k := 0), if_pos h])⟩, fun z => absurd rfl z⟩⟩⟩
    · refine And.intro hv ?_
      rw [ew, hx]
      refine And.intro (by decide) ?_
      match k, hk, kk with
      | 0, _, kk => exact ⟨fun z => absurd z (by decide), fun _ => ⟨fun z => absurd z (by decide), fun _ => ⟨fun z => absurd z (by decide), fun _ => kk⟩⟩⟩
      | 1, _, kk => exact ⟨fun _ => kk, fun z => absurd rfl z⟩
      | 2, _, kk => exact ⟨fun z => absurd z (by decide), fun _ => ⟨fun _ => qv kk (by rw [wcC2, if_neg h]), fun z => absurd rfl z⟩⟩
      | 3, _, kk => exact ⟨fun z => absurd z (by decide), fun _ => ⟨fun z => absurd z (by decide), fun _ => ⟨fun _ => ⟨by decide, qv kk (by rw [show wcC 3 _ _ = _ from wcC3 (k := 0), if_neg h])⟩, fun z => absurd rfl z⟩⟩⟩
  refine sgo [12] 100 ?_
  rcases hb with ⟨hd, hb⟩ | ⟨hd, hb⟩
  · subst hd; subst hb
    refine b0 ?_
    refine And.intro hv ?_
    rw [ew]
    exact key (lv := []) hx (by rw [if_neg (by decide)] at hu ⊢) (by rw [if_neg (by decide)] at hu; rw [hu]; exact kk)
  · subst hd; subst hb
    refine b1 ?_
    refine And.intro hv ?_
    rw [ew]
    exact key (lv := []) hx (by rw [if_pos rfl] at hu ⊢) (by rw [if_pos rfl] at hu; rw [hu]; exact kk)
theorem s_costOf {w k : Nat} {d : Nat} {b : Int32} (hC : CX iv lg sg tw) (hG : GG t sg) (hw : w < cnt (vL sg) 0) (hk : k < 4) (hb : (d = 1 ∧ b = 0) ∨ (d = 0 ∧ b = 1)) (kk : Q (some (.int (nI (wcost (vL sg) k w d)))) SH RF iv lg) : Sp L xs m_Ways_costOf [.ref 2, .int (nI w), .int (nI k), .int b] SH RF iv lg Q := by
  obtain ⟨y0, y1, y2, y3, y4⟩ := hC.1.1.2 w hw
  have h24 := hG.1.1.2
  refine s_costOf0 (by omega) hk hb y2 (u := upO (vL sg) w d) ?_ ?_
  · rw [show iv 6 w = vL sg 1 (5 * w + 3) from y3]; rfl
  · rw [wcC_N (hG.1.2.2.2.2.2.1 w hw)]; exact kk
set_option maxRecDepth 100000 in
theorem m_costOf {w k : Nat} {d : Nat} (hM : MV iv lg sg tw) (hG : GG t sg) (hw : w < cnt (vL sg) 0) (hk : k < 4) (hd : d < 2) (kk : Q (some (.int (nI (wcost (vL sg) k w d)))) SH RF iv lg) : Sp L xs m_Mo_costOf [.ref 79, .int (nI k), .int (nI w), .int (nI d)] SH RF iv lg Q := by
  have h24 := hG.1.1.2
  rw [← wcM_N (hG.1.2.2.2.2.2.1 w hw)] at kk
  have e2 : (5 : Int32) * nI w + 2 = nI (5 * w + 2) := by rw [ni5]; exact ni_a _ 2
  have e3 : (5 : Int32) * nI w + 3 = nI (5 * w + 3) := by rw [ni5]; exact ni_a _ 3
  have v2 : vp_in ((5 : Int32) * nI w + 2) 120 := by rw [e2]; exact vp_N (by omega)
  have v3 : vp_in ((5 : Int32) * nI w + 3) 120 := by rw [e3]; exact vp_N (by omega)
  have k2 : iv 80 ((5 : Int32) * nI w + 2).toNatClampNeg = vL sg 1 (5 * w + 2) := by rw [e2, cl, hM.2.1.1]; rfl
  have k3 : iv 80 ((5 : Int32) * nI w + 3).toNatClampNeg = vL sg 1 (5 * w + 3) := by rw [e3, cl, hM.2.1.1]; rfl
  have key : ∀ (x u : Int32), Q (some (.int (wcM k x u))) SH RF iv lg → Wp L xs m_Mo_costOf 29 [some (.ref 79), some (.int (nI k)), some (.int (nI w)), some (.int (nI d)), some (.int x), none, none, none] [.int u] SH RF iv lg Q := by
    intro x u kk
    refine wgo [] 100 ?_
    refine And.intro (fun h => ?_) (fun h => ?_)
    · match k, hk, kk with
      | 0, _, kk => exact ⟨fun z => absurd z (by decide), fun _ => ⟨fun _ => qv kk (by rw [wcM0, if_pos h]), fun z => absurd (by decide) z⟩⟩
      | 1, _, kk => exact ⟨fun z => absurd z (by decide), fun _ => ⟨fun z => absurd rfl z, fun _ => qv kk (by rw [wcM1, if_pos h])⟩⟩
      | 2, _, kk => exact ⟨fun _ => ⟨fun _ => ⟨fun z => absurd rfl z, fun _ => qv kk (by rw [wcM2, if_pos h])⟩, fun z => absurd h z⟩, fun z => absurd (by decide) z⟩
      | 3, _, kk =>
        refine ⟨fun _ => ⟨fun _ => ⟨fun _ => ⟨fun z => ⟨by decide, qv kk ?_⟩, fun z => qv kk ?_⟩, fun z => absurd (by decide) z⟩, fun z => absurd h z⟩, fun z => absurd (by decide) z⟩
        · rw [show wcM 3 _ _ = _ from wcM3 (k := 0), if_pos h, if_pos z]
        · rw [show wcM 3 _ _ = _ from wcM3 (k := 0), if_pos h, if_neg z]
    · match k, hk, kk with
      | 0, _, kk => exact ⟨fun z => absurd z (by decide), fun _ => ⟨fun _ => qv kk (by rw [wcM0, if_neg h]), fun z => absurd (by decide) z⟩⟩
      | 1, _, kk => exact ⟨fun z => absurd z (by decide), fun _ => ⟨fun z => absurd rfl z, fun _ => qv kk (by rw [wcM1, if_neg h])⟩⟩
      | 2, _, kk => exact ⟨fun _ => ⟨fun z => absurd z h, fun _ => ⟨by decide, ⟨fun z => absurd rfl z, fun _ => qv kk (by rw [wcM2, if_neg h])⟩⟩⟩, fun z => absurd (by decide) z⟩
      | 3, _, kk =>
        refine ⟨fun _ => ⟨fun z => absurd z h, fun _ => ⟨by decide, ⟨fun _ => ⟨fun z => ⟨by decide, qv kk ?_⟩, fun z => qv kk ?_⟩, fun z => absurd (by decide) z⟩⟩⟩, fun z => absurd (by decide) z⟩
        · rw [show wcM 3 _ _ = _ from wcM3 (k := 0), if_neg h, if_pos z]
        · rw [show wcM 3 _ _ = _ from wcM3 (k := 0), if_neg h, if_neg z]
  refine sgo [29] 100 ?_
  refine And.intro v2 ?_
  rw [k2]
  match d, hd, key, kk with
  | 0, _, key, kk =>
    refine And.intro (fun z => absurd rfl z) (fun _ => ?_)
    refine And.intro v3 ?_
    rw [k3]
    exact key _ _ kk
  | 1, _, key, kk =>
    refine And.intro (fun _ => ?_) (fun z => absurd (by decide) z)
    refine And.intro v3 ?_
    rw [k3]
    exact key _ _ kk
abbrev okC (sg : xIv) (a b c : Int32) : Prop := isN a (cnt (vL sg) 1) ∧ isN b (cnt (vL sg) 0) ∧ isN c 2
theorem r1 {v : Int32} : (0 ≤ v ∧ v ≤ 1) ↔ isN v 2 := isN_m1 (n := 2) (by decide)
set_option maxRecDepth 100000 in
theorem m_costs {a b c : Int32} (hM : MV iv lg sg tw) (hG : GG t sg) (k1 : ∀ p w d kd, p < cnt (vL sg) 1 → w < cnt (vL sg) 0 → d < 2 → kd < 4 → a = nI p → b = nI w → c = nI d → sg 81 (7 * p + 1) = nI kd → Q (some (.int (nI (wcost (vL sg) kd w d)))) SH RF iv lg) (k2 : ¬ okC sg a b c → Q (some (.int (-1))) SH RF iv lg) : Sp L xs m_Mo_costs [.ref 79, .int a, .int b, .int c] SH RF iv lg Q := by
  have h24 := hG.1.1.2
  have h8 := hG.1.2.1.2
  refine sgo [] 100 ?_
  refine s_isOne (nP_m hM hG) (by omega) (fun h1 => ?_) (fun h1 => ?_)
  · refine b1 ?_
    refine s_inN (nW_m hM hG) (by omega) (fun h2 => ?_) (fun h2 => ?_)
    · refine b1 ?_
      refine s_inI (a := 0) (b := 1) (kt := fun h3 => ?_) (kf := fun h3 => ?_)
      · refine b1 ?_
        obtain ⟨p, hp, rfl⟩ := isN_of h1 (by omega)
        obtain ⟨w, hw, rfl⟩ := isN_of h2 (by omega)
        obtain ⟨d, hd, rfl⟩ := isN_of (r1.mp h3) (by decide)
        obtain ⟨kd, hkd, ek⟩ := isN_of (hG.1.2.2.2.2.2.2.1 p hp).2.1 (by decide)
        have e : (7 : Int32) * nI p + 1 = nI (7 * p + 1) := by rw [ni7]; exact ni_a _ 1
        refine And.intro (by rw [e]; exact vp_N (by omega)) ?_
        rw [e, cl, hM.2.1.2.1, show sg 81 (7 * p + 1) = nI kd from ek]
        exact m_costOf hM hG hw hkd hd (k1 p w d kd hp hw hd hkd rfl rfl rfl ek)
      · refine b0 ?_
        exact k2 (fun z => h3 (r1.mpr z.2.2))
    · refine b0 ?_
      exact k2 (fun z => h2 z.2.1)
  · refine b0 ?_
    exact k2 (fun z => h1 z.1)
set_option maxRecDepth 100000 in
theorem c_costs {a b c : Int32} (hC : CX iv lg sg tw) (hG : GG t sg) (k1 : ∀ p w d kd, p < cnt (vL sg) 1 → w < cnt (vL sg) 0 → d < 2 → kd < 4 → a = nI p → b = nI w → c = nI d → sg 81 (7 * p + 1) = nI kd → Q (some (.int (nI (wcost (vL sg) kd w d)))) SH RF iv lg) (k2 : ¬ okC sg a b c → Q (some (.int (-1))) SH RF iv lg) : Sp L xs m_SR_costs [.ref 0, .int a, .int b, .int c] SH RF iv lg Q := by
  have h24 := hG.1.1.2
  have h8 := hG.1.2.1.2
  refine sgo [] 100 ?_
  refine s_isPerson (nP_c hC hG) (by omega) (fun h1 => ?_) (fun h1 => ?_)
  · refine b1 ?_
    refine s_has (nW_c hC hG) (by omega) (fun h2 => ?_) (fun h2 => ?_)
    · refine b1 ?_
      refine s_within (fun h3 => ?_) (fun h3 => ?_)
      · refine c1 ?_
        obtain ⟨p, hp, rfl⟩ := isN_of h1 (by omega)
        obtain ⟨w, hw, rfl⟩ := isN_of h2 (by omega)
        obtain ⟨d, hd, rfl⟩ := isN_of (r1.mp h3) (by decide)
        obtain ⟨kd, hkd, ek⟩ := isN_of (hG.1.2.2.2.2.2.2.1 p hp).2.1 (by decide)
        refine And.intro (vp_N (by omega)) ?_
        rw [cl, (hC.rd hp).2.1, show sg 81 (7 * p + 1) = nI kd from ek]
        match d, hd with
        | 0, hd => exact ⟨fun z => absurd rfl z, fun _ => s_costOf hC hG hw hkd (Or.inr ⟨rfl, rfl⟩) (k1 p w 0 kd hp hw hd hkd rfl rfl rfl ek)⟩
        | 1, hd => exact ⟨fun _ => s_costOf hC hG hw hkd (Or.inl ⟨rfl, rfl⟩) (k1 p w 1 kd hp hw hd hkd rfl rfl rfl ek), fun z => absurd (by decide) z⟩
      · refine c0 ?_
        exact k2 (fun z => h3 (r1.mpr z.2.2))
    · refine b0 ?_
      exact k2 (fun z => h2 z.2.1)
  · refine b0 ?_
    exact k2 (fun z => h1 z.1)
theorem e_costs (a b c : Int32) : EQ m_SR_costs m_Mo_costs [.int a, .int b, .int c] := by
  intro L xs t iv lg Q hI ht k
  obtain ⟨sg, tw, hC, hM, hG⟩ := id hI
  have h24 := hG.1.1.2
  have h8 := hG.1.2.1.2
  refine c_costs hC hG (fun p w d kd hp hw hd hkd ha hb hc ek => k _ iv lg (fun Q2 k2 => m_costs hM hG (fun p' w' d' kd' hp' hw' hd' hkd' ha' hb' hc' ek' => ?_) (fun h => absurd ⟨ha ▸ isN_nI hp (by omega), hb ▸ isN_nI hw (by omega), hc ▸ isN_nI hd (by decide)⟩ h))) (fun h => k _ iv lg (fun Q2 k2 => m_costs hM hG (fun p w d kd hp hw hd hkd ha hb hc ek => absurd ⟨ha ▸ isN_nI hp (by omega), hb ▸ isN_nI hw (by omega), hc ▸ isN_nI hd (by decide)⟩ h) (fun _ => k2 _ _ (hI.wk (Nat.le_succ t)))))
  have e1 : p = p' := (nI_eq (by omega) (by omega)).mp (ha.symm.trans ha')
  have e2 : w = w' := (nI_eq (by omega) (by omega)).mp (hb.symm.trans hb')
  have e3 : d = d' := (nI_eq (by omega) (by omega)).mp (hc.symm.trans hc')
  subst e1; subst e2; subst e3
  have e4 : kd = kd' := (nI_eq (by omega) (by omega)).mp (ek.symm.trans ek')
  subst e4
  exact k2 _ _ (hI.wk (Nat.le_succ t))
end COSTS
