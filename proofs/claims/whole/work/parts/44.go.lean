-- ===== the way on =====
theorem xu2_xx {α : Type} {f : Nat → Nat → α} {k j : Nat} {x y : α} : xu2 (xu2 f k j x) k j y = xu2 f k j y := by
  funext a b
  unfold xu2
  split
  · split
    · rfl
    · rfl
  · rfl
theorem xu2_cm {α : Type} {f : Nat → Nat → α} {k j k' j' : Nat} {x y : α} (h : k ≠ k' ∨ j ≠ j') : xu2 (xu2 f k j x) k' j' y = xu2 (xu2 f k' j' y) k j x := by
  funext a b
  unfold xu2
  by_cases h1 : a = k' <;> by_cases h2 : a = k <;> by_cases h3 : b = j' <;> by_cases h4 : b = j <;> simp only [h1, h2, h3, h4, if_true, if_false, ite_true, ite_false] <;> first | rfl | (exfalso; omega) | skip
  all_goals
    first
    | (subst h1; subst h2; subst h3; subst h4; exfalso; omega)
    | (simp_all)
def NX (v : xIv) (kd y x e : Nat) : Prop := e < 2 * cnt v 0 ∧ v 1 (5 * (e / 2) + e % 2) = nI x ∧ ∃ a' c', v 1 (5 * (e / 2) + (1 - e % 2)) = nI a' ∧ a' < 12 ∧ dst v kd a' y = some c' ∧ dst v kd x y = some (wcost v kd (e / 2) (e % 2) + c')
noncomputable def chE (v : xIv) (kd y x : Nat) : Nat := Classical.epsilon (fun e => NX v kd y x e ∧ ∀ e', e' < e → ¬ NX v kd y x e')
theorem chE_is {v : xIv} {kd y x : Nat} (h : ∃ e, NX v kd y x e) : NX v kd y x (chE v kd y x) ∧ ∀ e', e' < chE v kd y x → ¬ NX v kd y x e' := Classical.epsilon_spec (p := fun e => NX v kd y x e ∧ ∀ e', e' < e → ¬ NX v kd y x e') (pk_least (NX v kd y x) h)
theorem chE_eq {v : xIv} {kd y x e : Nat} (h : NX v kd y x e) (h2 : ∀ e', e' < e → ¬ NX v kd y x e') : chE v kd y x = e := by
  obtain ⟨a, b⟩ := chE_is ⟨e, h⟩
  by_cases c1 : chE v kd y x < e
  · exact absurd a (h2 _ c1)
  · by_cases c2 : e < chE v kd y x
    · exact absurd h (b _ c2)
    · omega
theorem NX_ex {v : xIv} {kd y x c : Nat} (hne : x ≠ y) (h : dst v kd x y = some c) : ∃ e, NX v kd y x e := by
  obtain ⟨w, d, a', c', g1, g2, g3, g4, g5, g6, g7⟩ := dst_step hne h
  have ed : (2 * w + d) / 2 = w := by omega
  have em : (2 * w + d) % 2 = d := by omega
  refine ⟨2 * w + d, by omega, ?_, a', c', ?_, g5, g6, ?_⟩
  · rw [ed, em]; exact g3
  · rw [ed, em]; exact g4
  · rw [ed, em, h, g7]
theorem NX_cg {v v' : xIv} (h0 : v' 0 0 = v 0 0) (h1 : v' 1 = v 1) : NX v' = NX v := by
  have e0 : cnt v' 0 = cnt v 0 := by unfold cnt; rw [h0]
  have ed : ∀ kd a b, dst v' kd a b = dst v kd a b := fun kd a b => dst_congr h0 (fun w f _ _ => by rw [h1])
  have ew : ∀ kd w d, wcost v' kd w d = wcost v kd w d := fun kd w d => by unfold wcost; rw [h1]
  funext kd y x e
  unfold NX
  rw [e0, h1]
  simp only [ed, ew]
theorem chE_cg {v v' : xIv} (h0 : v' 0 0 = v 0 0) (h1 : v' 1 = v 1) (kd y x : Nat) : chE v' kd y x = chE v kd y x := by
  unfold chE
  rw [NX_cg h0 h1]
-- how many are nearer
theorem smN_le {f g : Nat → Nat} : ∀ n, (∀ a, a < n → f a ≤ g a) → smN f n ≤ smN g n
  | 0, _ => Nat.le_refl 0
  | n + 1, h => by
    have h1 := smN_le n (fun a ha => h a (by omega))
    have h2 := h n (by omega)
    show smN f n + f n ≤ smN g n + g n
    omega
theorem smN_ltb {f g : Nat → Nat} {b : Nat} (hb : f b < g b) : ∀ n, b < n → (∀ a, a < n → f a ≤ g a) → smN f n < smN g n
  | 0, h, _ => absurd h (Nat.not_lt_zero b)
  | n + 1, h, hle => by
    show smN f n + f n < smN g n + g n
    by_cases e : b = n
    · have := smN_le n (fun a ha => hle a (by omega))
      subst e
      omega
    · have := smN_ltb hb n (by omega) (fun a ha => hle a (by omega))
      have := hle n (by omega)
      omega
noncomputable def rkN (v : xIv) (kd y d : Nat) : Nat := smN (fun a => if (dst v kd a y).getD 100000000 < d then 1 else 0) 12
theorem rkN_lt {v : xIv} {kd y a d d' : Nat} (ha : a < 12) (h : dst v kd a y = some d) (hd : d < d') : rkN v kd y d < rkN v kd y d' := by
  unfold rkN
  refine smN_ltb (b := a) ?_ 12 ha (fun p _ => ?_)
  · rw [h]
    show (if d < d then 1 else 0) < (if d < d' then 1 else 0)
    rw [if_neg (Nat.lt_irrefl d), if_pos hd]
    omega
  · by_cases c : (dst v kd p y).getD 100000000 < d
    · rw [if_pos c, if_pos (by omega)]
      exact Nat.le_refl 1
    · rw [if_neg c]
      exact Nat.zero_le _
theorem smN_one : ∀ n, smN (fun _ => 1) n = n
  | 0 => rfl
  | n + 1 => by show smN (fun _ => 1) n + 1 = n + 1; rw [smN_one n]
theorem rkN_bd {v : xIv} {kd y a d : Nat} (ha : a < 12) (h : dst v kd a y = some d) : rkN v kd y d < 12 := by
  unfold rkN
  have h1 : smN (fun a => if (dst v kd a y).getD 100000000 < d then 1 else 0) 12 < smN (fun _ => 1) 12 := by
    refine smN_ltb (b := a) ?_ 12 ha (fun p _ => ?_)
    · rw [h]
      show (if d < d then 1 else 0) < 1
      rw [if_neg (Nat.lt_irrefl d)]
      omega
    · by_cases c : (dst v kd p y).getD 100000000 < d
      · rw [if_pos c]; exact Nat.le_refl 1
      · rw [if_neg c]; exact Nat.zero_le _
  rw [smN_one] at h1
  exact h1
section WAYON
variable {L : Nat} {xs : Nat → Int32} {iv : xIv} {lg : xLg} {Q : xQ} {sg : xIv} {tw : Nat → Int64} {t : Nat}
set_option maxRecDepth 100000 in
theorem c_other {w x : Nat} (hC : CX iv lg sg tw) (hG : GG t sg) (hw : w < cnt (vL sg) 0) (k0 : vL sg 1 (5 * w) = nI x → Q (some (.int (vL sg 1 (5 * w + 1)))) SH RF iv lg) (k1 : ¬ vL sg 1 (5 * w) = nI x → vL sg 1 (5 * w + 1) = nI x → Q (some (.int (vL sg 1 (5 * w)))) SH RF iv lg) (k2 : ¬ vL sg 1 (5 * w) = nI x → ¬ vL sg 1 (5 * w + 1) = nI x → Q (some (.int (-1))) SH RF iv lg) : Sp L xs m_Ways_otherEnd [.ref 2, .int (nI w), .int (nI x)] SH RF iv lg Q := by
  have h24 := hG.1.1.2
  obtain ⟨y0, y1, -, -, -⟩ := hC.1.1.2 w hw
  have vw : vp_in (nI w) 24 := vp_N (by omega)
  have i3 : iv 3 (nI w).toNatClampNeg = vL sg 1 (5 * w) := by rw [cl]; exact y0
  have i4 : iv 4 (nI w).toNatClampNeg = vL sg 1 (5 * w + 1) := by rw [cl]; exact y1
  refine sgo [] 100 ?_
  refine And.intro vw ?_
  refine And.intro (fun z => ?_) (fun z => ?_)
  · rw [i3] at z
    refine And.intro vw ?_
    refine And.intro (fun z2 => ?_) (fun z2 => ?_)
    · rw [i4] at z2
      exact k2 z z2
    · rw [i4] at z2
      refine And.intro vw ?_
      exact qv (k1 z (Decidable.not_not.mp z2)) i3
  · rw [i3] at z
    refine And.intro vw ?_
    exact qv (k0 (Decidable.not_not.mp z)) i4
set_option maxRecDepth 100000 in
theorem c_wayOn_l {R kd x y c : Nat} (hR : R = 39 ∨ R = 40 ∨ R = 41 ∨ R = 42) (hkd : kd < 4) (hx : x < 12) (hy : y < 12) (hC : CX iv lg sg tw) (hG : GG t sg) (hT : ∀ a b, a < 12 → b < 12 → iv R (12 * a + b) = enc 1000000 (dst (vL sg) kd a b)) (hc : dst (vL sg) kd x y = some c) (hne : x ≠ y) (k : Q (some (.int (nI (chE (vL sg) kd y x / 2)))) SH RF iv lg) : ∀ (r w : Nat) (z : Int32) (o6 o7 : Option Int32), w + r = cnt (vL sg) 0 → z = nI w → (∀ e, e < 2 * w → ¬ NX (vL sg) kd y x e) → Wp L xs m_Roads_wayOn 6 [some (.ref 37), some (.int (nI kd)), some (.int (nI x)), some (.int (nI y)), some (.ref R), some (.int z), o6.map Value.int, o7.map Value.int] [] SH RF iv lg Q
  | 0, w, z, o6, o7, h, hz, hno => by
    obtain ⟨e, he⟩ := NX_ex hne hc
    exact absurd he (hno e (by have := he.1; omega))
  | r + 1, w, z, o6, o7, h, hz, hno => by
    subst hz
    have h24 := hG.1.1.2
    have hw : w < cnt (vL sg) 0 := by omega
    have okw := hG.1.2.2.2.2.2.1 w hw
    obtain ⟨a, ha, ea⟩ := isN_of okw.1 (by decide)
    obtain ⟨b, hb, eb⟩ := isN_of okw.2.1 (by decide)
    have hab : a ≠ b := fun z => okw.2.2.1 (by rw [ea, eb, z])
    have hn := nW_c hC hG
    have vw : vp_in (nI w) 24 := vp_N (by omega)
    obtain ⟨y0, y1, -, -, -⟩ := hC.1.1.2 w hw
    have i3 : iv 3 (nI w).toNatClampNeg = nI a := by rw [cl]; exact y0.trans ea
    have cb := dst_bd hG.1.2.2.2.2.2.1 hx hc
    have nx0 : NX (vL sg) kd y x (2 * w) ↔ a = x ∧ ∃ c', dst (vL sg) kd b y = some c' ∧ c = wcost (vL sg) kd w 0 + c' := by
      unfold NX
      rw [show 2 * w / 2 = w by omega, show 2 * w % 2 = 0 by omega, hc]
      refine ⟨fun ⟨_, g2, a', c', g3, g4, g5, g6⟩ => ?_, fun ⟨g1, c', g2, g3⟩ => ?_⟩
      · have e1 : a = x := (nI_eq (by omega) (by omega)).mp (ea.symm.trans g2)
        have e2 : b = a' := (nI_eq (by omega) (by omega)).mp (eb.symm.trans g3)
        subst e2
        exact ⟨e1, c', g5, by injection g6⟩
      · exact ⟨by omega, by rw [← g1]; exact ea, b, c', eb, hb, g2, by rw [g3]⟩
    have nx1 : NX (vL sg) kd y x (2 * w + 1) ↔ b = x ∧ ∃ c', dst (vL sg) kd a y = some c' ∧ c = wcost (vL sg) kd w 1 + c' := by
      unfold NX
      rw [show (2 * w + 1) / 2 = w by omega, show (2 * w + 1) % 2 = 1 by omega, hc]
      refine ⟨fun ⟨_, g2, a', c', g3, g4, g5, g6⟩ => ?_, fun ⟨g1, c', g2, g3⟩ => ?_⟩
      · have e1 : b = x := (nI_eq (by omega) (by omega)).mp (eb.symm.trans g2)
        have e2 : a = a' := (nI_eq (by omega) (by omega)).mp (ea.symm.trans g3)
        subst e2
        exact ⟨e1, c', g5, by injection g6⟩
      · exact ⟨by omega, by rw [← g1]; exact eb, a, c', ea, ha, g2, by rw [g3]⟩
    have on : ¬ NX (vL sg) kd y x (2 * w) → ¬ NX (vL sg) kd y x (2 * w + 1) → ∀ o6 o7 : Option Int32, Wp L xs m_Roads_wayOn 6 [some (.ref 37), some (.int (nI kd)), some (.int (nI x)), some (.int (nI y)), some (.ref R), some (.int (nI w + 1)), o6.map Value.int, o7.map Value.int] [] SH RF iv lg Q := fun n0 n1 o6 o7 => by
      refine c_wayOn_l hR hkd hx hy hC hG hT hc hne k r (w + 1) _ o6 o7 (by omega) (nI_1 w) (fun e he => ?_)
      by_cases c0 : e = 2 * w
      · rw [c0]; exact n0
      · by_cases c1 : e = 2 * w + 1
        · rw [c1]; exact n1
        · exact hno e (by omega)
    have fin0 : NX (vL sg) kd y x (2 * w) → Q (some (.int (nI w))) SH RF iv lg := fun h => by
      have e := chE_eq h hno
      rw [e, show 2 * w / 2 = w by omega] at k
      exact k
    have fin1 : ¬ NX (vL sg) kd y x (2 * w) → NX (vL sg) kd y x (2 * w + 1) → Q (some (.int (nI w))) SH RF iv lg := fun h0 h => by
      have e := chE_eq h (fun e' he' => by
        by_cases c0 : e' = 2 * w
        · rw [c0]; exact h0
        · exact hno e' (by omega))
      rw [e, show (2 * w + 1) / 2 = w by omega] at k
      exact k
    have ey : ∀ p, nI p * (12 : Int32) + nI y = nI (12 * p + y) := fun p => by rw [ni12', ni_a]
    have vy : ∀ p, p < 12 → vp_in (nI p * (12 : Int32) + nI y) 144 := fun p hp => by rw [ey]; exact vp_N (by omega)
    have ry : ∀ p, p < 12 → iv R (nI p * (12 : Int32) + nI y).toNatClampNeg = enc 1000000 (dst (vL sg) kd p y) := fun p hp => by rw [ey, cl]; exact hT p y hp hy
    have cmp : ∀ (d q : Nat), q < 12 → (¬ nI (wcost (vL sg) kd w d) + iv R (nI q * (12 : Int32) + nI y).toNatClampNeg = iv R (nI x * (12 : Int32) + nI y).toNatClampNeg ↔ ¬ ∃ c', dst (vL sg) kd q y = some c' ∧ c = wcost (vL sg) kd w d + c') := fun d q hq => by
      have wb := (wcost_bd (k := kd) (d := d) okw).2
      rw [ry q hq, ry x hx, hc]
      refine not_congr ?_
      have qb : ∀ c', dst (vL sg) kd q y = some c' → c' ≤ 2772 := fun c' h => dst_bd hG.1.2.2.2.2.2.1 hq h
      cases e : dst (vL sg) kd q y with
      | none =>
        refine ⟨fun z => ?_, fun ⟨c', z, _⟩ => by cases z⟩
        have z : nI (wcost (vL sg) kd w d) + nI 1000000 = nI c := z
        rw [ni_a, nI_eq (by omega) (by omega)] at z
        omega
      | some c' =>
        have := qb c' e
        refine ⟨fun z => ⟨c', rfl, ?_⟩, fun ⟨c2, z1, z2⟩ => ?_⟩
        · have z : nI (wcost (vL sg) kd w d) + nI c' = nI c := z
          rw [ni_a, nI_eq (by omega) (by omega)] at z
          omega
        · cases z1
          show nI (wcost (vL sg) kd w d) + nI c' = nI c
          rw [ni_a, z2]
    have oe := fun Q => c_other (L := L) (xs := xs) (Q := Q) (x := x) hC hG hw
    rw [show vL sg 1 (5 * w) = nI a from ea, show vL sg 1 (5 * w + 1) = nI b from eb] at oe
    have q0 := fun Q => s_costOf (L := L) (xs := xs) (Q := Q) (w := w) (k := kd) (d := 0) (b := 1) hC hG hw hkd (Or.inr ⟨rfl, rfl⟩)
    have q1 := fun Q => s_costOf (L := L) (xs := xs) (Q := Q) (w := w) (k := kd) (d := 1) (b := 0) hC hG hw hkd (Or.inl ⟨rfl, rfl⟩)
    have ax : ∀ {p : Nat}, p < 12 → (nI p = nI x ↔ p = x) := fun hp => nI_eq (by omega) (by omega)
    have hlt := nI_lt hw (show cnt (vL sg) 0 < 2 ^ 31 by omega)
    have pa : (0 : Int32) ≤ nI a := nI_pos' (by omega)
    have pb : (0 : Int32) ≤ nI b := nI_pos' (by omega)
    have vx := vy x hx
    have va := vy a ha
    have vb := vy b hb
    have cmp0 := cmp 0 b hb
    have cmp1 := cmp 1 a ha
    clear k hT ry vy cmp hno
    cases o6 <;> cases o7
    all_goals
      rcases hR with rfl | rfl | rfl | rfl
    all_goals
      refine wgo [6] 100 ?_
      refine And.intro (fun z => absurd hlt (by rw [hn] at z; exact lenl z)) (fun _ => ?_)
      refine oe _ (fun z => ?_) (fun z z1 => ?_) (fun z z1 => ?_)
      · have zx := (ax ha).mp z
        refine And.intro (fun _ => ?_) (fun w => absurd pb w)
        refine And.intro vw ?_
        refine And.intro (fun w => absurd (i3.trans z) w) (fun _ => ?_)
        refine q0 _ ?_
        refine And.intro vb ?_
        refine And.intro vx ?_
        refine And.intro (fun w => ?_) (fun w => ?_)
        · exact on (fun h => cmp0.mp w (nx0.mp h).2) (fun h => hab (zx.trans (nx1.mp h).1.symm)) (some _) (some _)
        · exact fin0 (nx0.mpr ⟨zx, Decidable.not_not.mp (fun h => w (cmp0.mpr h))⟩)
      · have zx := (ax hb).mp z1
        have za : ¬ a = x := fun h => z ((ax ha).mpr h)
        refine And.intro (fun _ => ?_) (fun w => absurd pa w)
        refine And.intro vw ?_
        refine And.intro (fun _ => ?_) (fun w => absurd (fun h => z (i3.symm.trans h)) w)
        refine q1 _ ?_
        refine And.intro va ?_
        refine And.intro vx ?_
        refine And.intro (fun w => ?_) (fun w => ?_)
        · exact on (fun h => za (nx0.mp h).1) (fun h => cmp1.mp w (nx1.mp h).2) (some _) (some _)
        · exact fin1 (fun h => za (nx0.mp h).1) (nx1.mpr ⟨zx, Decidable.not_not.mp (fun h => w (cmp1.mpr h))⟩)
      · refine And.intro (fun w => absurd w (by decide)) (fun _ => ?_)
        first
        | exact on (fun h => z ((ax ha).mpr (nx0.mp h).1)) (fun h => z1 ((ax hb).mpr (nx1.mp h).1)) (some _) none
        | exact on (fun h => z ((ax ha).mpr (nx0.mp h).1)) (fun h => z1 ((ax hb).mpr (nx1.mp h).1)) (some _) (some _)
set_option maxRecDepth 100000 in
theorem c_wayOn {kd x y c : Nat} (hkd : kd < 4) (hx : x < 12) (hy : y < 12) (hC : CX iv lg sg tw) (hG : GG t sg) (hc : dst (vL sg) kd x y = some c) (hne : x ≠ y) (k : ∀ iv', CX iv' lg sg tw → refS iv' lg iv lg → Q (some (.int (nI (chE (vL sg) kd y x / 2)))) SH RF iv' lg) : Sp L xs m_Roads_wayOn [.ref 37, .int (nI kd), .int (nI x), .int (nI y)] SH RF iv lg Q := by
  have cc := fun Q => c_costsOf (L := L) (xs := xs) (Q := Q) hkd hC hG
  have fin : ∀ iv', CX iv' lg sg tw → refS iv' lg iv lg → TD iv' (vL sg) kd → Wp L xs m_Roads_wayOn 6 [some (.ref 37), some (.int (nI kd)), some (.int (nI x)), some (.int (nI y)), some (.ref (39 + kd)), some (.int 0), none, none] [] SH RF iv' lg Q := fun iv' d1 d2 d3 =>
    c_wayOn_l (R := 39 + kd) (by omega) hkd hx hy d1 hG d3 hc hne (k iv' d1 d2) _ 0 _ none none (Nat.zero_add _) rfl (fun e he => absurd he (by omega))
  have h4 : kd = 0 ∨ kd = 1 ∨ kd = 2 ∨ kd = 3 := by omega
  clear k hc
  rcases h4 with rfl | rfl | rfl | rfl
  all_goals
    refine sgo [6] 100 ?_
    refine cc _ (fun iv' d1 d2 d3 d4 => ?_)
    exact fin iv' d1 d2 d3
end WAYON
