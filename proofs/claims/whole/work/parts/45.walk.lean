-- ===== walking =====
def sgM (sg : xIv) (p : Nat) (r c : Int32) : xIv := xu2 (xu2 sg 81 (7 * p + 2) r) 81 (7 * p + 4) c
def sgW (sg : xIv) (p : Nat) (r x c s : Int32) : xIv := xu2 (xu2 (sgM sg p r c) 81 (7 * p + 3) x) 79 9 s
section SGW
variable {sg : xIv} {p : Nat} {r x c s : Int32}
theorem sgW_at : sgW sg p r x c s 81 (7 * p + 2) = r ∧ sgW sg p r x c s 81 (7 * p + 3) = x ∧ sgW sg p r x c s 81 (7 * p + 4) = c ∧ sgW sg p r x c s 79 9 = s := by
  unfold sgW sgM
  refine ⟨?_, ?_, ?_, ?_⟩
  · rw [xu2_k (by decide), xu2_j (by omega), xu2_j (by omega), xu2_s]
  · rw [xu2_k (by decide), xu2_s]
  · rw [xu2_k (by decide), xu2_j (by omega), xu2_s]
  · rw [xu2_s]
theorem sgW_kd : sgW sg p r x c s 81 (7 * p + 1) = sg 81 (7 * p + 1) := by
  unfold sgW sgM
  rw [xu2_k (by decide), xu2_j (by omega), xu2_j (by omega), xu2_j (by omega)]
theorem sgM_at : sgM sg p r c 81 (7 * p + 2) = r ∧ sgM sg p r c 81 (7 * p + 4) = c := by
  unfold sgM
  exact ⟨by rw [xu2_j (by omega), xu2_s], xu2_s⟩
theorem sgM_row {k : Nat} (h : k ≠ 81) : sgM sg p r c k = sg k := by unfold sgM; rw [xu2_ne h, xu2_ne h]
theorem sgM_v1 : vL (sgM sg p r c) 1 = vL sg 1 := by unfold sgM; exact (v1_ne (by decide)).trans (v1_ne (by decide))
theorem sgM_v0 : vL (sgM sg p r c) 0 = vL sg 0 := by unfold sgM; exact (v0_ne (by decide)).trans (v0_ne (by decide))
theorem sgM_c (i : Nat) : cnt (vL (sgM sg p r c)) i = cnt (vL sg) i := by unfold cnt; rw [sgM_v0]
theorem sgW_v1 : vL (sgW sg p r x c s) 1 = vL sg 1 := by unfold sgW; exact (v1_ne (by decide)).trans ((v1_ne (by decide)).trans sgM_v1)
theorem sgW_79 {j : Nat} (h : j ≠ 9) : sgW sg p r x c s 79 j = sg 79 j := by unfold sgW; rw [xu2_j h, xu2_k (by decide), sgM_row (by decide)]
theorem sgW_v0 : vL (sgW sg p r x c s) 0 0 = vL sg 0 0 := sgW_79 (by decide)
theorem sgW_c0 : cnt (vL (sgW sg p r x c s)) 0 = cnt (vL sg) 0 := by unfold cnt; rw [sgW_v0]
theorem sgW_c1 : cnt (vL (sgW sg p r x c s)) 1 = cnt (vL sg) 1 := by
  show (sgW sg p r x c s 79 3).toNatClampNeg = (sg 79 3).toNatClampNeg
  rw [sgW_79 (by decide)]
theorem sgW_st {r' x' c' s' : Int32} : xu2 (xu2 (xu2 (xu2 (sgW sg p r x c s) 81 (7 * p + 2) r') 81 (7 * p + 3) x') 81 (7 * p + 4) c') 79 9 s' = sgW sg p r' x' c' s' := by
  funext a b
  unfold sgW sgM xu2
  by_cases h1 : a = 79
  · subst h1
    by_cases h2 : b = 9 <;> simp [h2]
  · by_cases h2 : a = 81
    · subst h2
      by_cases h3 : b = 7 * p + 2
      · subst h3; simp
      · by_cases h4 : b = 7 * p + 3
        · subst h4; simp
        · by_cases h5 : b = 7 * p + 4
          · subst h5; simp
          · simp [h3, h4, h5]
    · simp [h1, h2]
theorem sgW_s0 {r' x' s' : Int32} : xu2 (xu2 (xu2 (sgW sg p r x c s) 81 (7 * p + 2) r') 81 (7 * p + 3) x') 79 9 s' = sgW sg p r' x' c s' := by
  funext a b
  unfold sgW sgM xu2
  by_cases h1 : a = 79
  · subst h1
    by_cases h2 : b = 9 <;> simp [h2]
  · by_cases h2 : a = 81
    · subst h2
      by_cases h3 : b = 7 * p + 2
      · subst h3; simp
      · by_cases h4 : b = 7 * p + 3
        · subst h4; simp
        · by_cases h5 : b = 7 * p + 4
          · subst h5; simp
          · simp [h3, h4, h5]
    · simp [h1, h2]
theorem sgM_st {r' c' : Int32} : xu2 (xu2 (sgM sg p r c) 81 (7 * p + 2) r') 81 (7 * p + 4) c' = sgM sg p r' c' := by
  funext a b
  unfold sgM xu2
  by_cases h2 : a = 81
  · subst h2
    by_cases h3 : b = 7 * p + 2
    · subst h3; simp
    · by_cases h5 : b = 7 * p + 4
      · subst h5; simp
      · simp [h3, h5]
  · simp [h2]
theorem sgM_id : sgM sg p (sg 81 (7 * p + 2)) (sg 81 (7 * p + 4)) = sg := by
  unfold sgM
  rw [xu2_id]
  exact xu2_id
theorem sgW_id : sgW sg p (sg 81 (7 * p + 2)) (sg 81 (7 * p + 3)) (sg 81 (7 * p + 4)) (sg 79 9) = sg := by
  unfold sgW
  rw [sgM_id, xu2_id]
  exact xu2_id
theorem GG_M {t r : Nat} (hG : GG t sg) (hr : r ≤ 99999) : GG t (sgM sg p (nI r) c) := by
  have b2 : 0 ≤ nI r ∧ nI r ≤ 99999 := ⟨nI_pos' (by omega), nI_le (b := 99999) hr (by decide)⟩
  have g1 : GG t (xu2 sg 81 (7 * p + 2) (nI r)) := hG.up (Nat.le_refl t) (hG.1.p (by decide) ⟨fun z => absurd z (by decide), fun z => absurd z (by decide), fun _ => b2, fun z => absurd z (by decide)⟩) (fun z => absurd z (by decide)) (by decide) (by decide)
  exact g1.up (Nat.le_refl t) (g1.1.p (by decide) ⟨fun z => absurd z (by decide), fun z => absurd z (by decide), fun z => absurd z (by decide), fun z => absurd z (by decide)⟩) (fun z => absurd z (by decide)) (by decide) (by decide)
theorem GG_W {t r x s : Nat} (hG : GG t sg) (hr : r ≤ 99999) (hx : x < 12) (hs : s ≤ 1000000000) : GG t (sgW sg p (nI r) (nI x) c (nI s)) := by
  have g2 : GG t (sgM sg p (nI r) c) := GG_M hG hr
  have g3 : GG t (xu2 (sgM sg p (nI r) c) 81 (7 * p + 3) (nI x)) := g2.up (Nat.le_refl t) (g2.1.p (by decide) ⟨fun z => absurd z (by decide), fun z => absurd z (by decide), fun z => absurd z (by decide), fun _ => isN_nI hx (by decide)⟩) (fun z => absurd z (by decide)) (by decide) (by decide)
  exact g3.up (Nat.le_refl t) (g3.1.s (Or.inr (Or.inl ⟨rfl, nI_pos' (by omega), nI_le (b := 1000000000) hs (by decide)⟩))) (fun _ => by decide) (by decide) (by decide)
end SGW
theorem wcost_cg {v v' : xIv} (h1 : v' 1 = v 1) (kd w d : Nat) : wcost v' kd w d = wcost v kd w d := by unfold wcost; rw [h1]
theorem dst_cg {v v' : xIv} (h0 : v' 0 0 = v 0 0) (h1 : v' 1 = v 1) (kd a b : Nat) : dst v' kd a b = dst v kd a b := dst_congr h0 (fun w f _ _ => by rw [h1])
noncomputable def nxE (v : xIv) (kd y x : Nat) : Nat := (v 1 (5 * (chE v kd y x / 2) + (1 - chE v kd y x % 2))).toNatClampNeg
noncomputable def csE (v : xIv) (kd y x : Nat) : Nat := wcost v kd (chE v kd y x / 2) (chE v kd y x % 2)
noncomputable def wkC (v : xIv) (kd y tm : Nat) : Nat → Nat → Int32 → Int32
  | 0, _, c => c
  | n + 1, x, c => if x = y then c else wkC v kd y tm n (nxE v kd y x) (if v 1 (5 * (chE v kd y x / 2) + 4) = 0 then c else c + nI (tm * csE v kd y x))
theorem wkC_cg {v v' : xIv} (h0 : v' 0 0 = v 0 0) (h1 : v' 1 = v 1) (kd y tm : Nat) : ∀ (n x : Nat) (c : Int32), wkC v' kd y tm n x c = wkC v kd y tm n x c
  | 0, _, _ => rfl
  | n + 1, x, c => by
    unfold wkC nxE csE
    rw [chE_cg h0 h1, h1, wcost_cg h1, wkC_cg h0 h1 kd y tm n]
theorem step_E {v : xIv} {kd y x d : Nat} (hw : ∀ w, w < cnt v 0 → okW v w) (hne : x ≠ y) (h : dst v kd x y = some d) : chE v kd y x / 2 < cnt v 0 ∧ v 1 (5 * (chE v kd y x / 2) + chE v kd y x % 2) = nI x ∧ v 1 (5 * (chE v kd y x / 2) + (1 - chE v kd y x % 2)) = nI (nxE v kd y x) ∧ nxE v kd y x < 12 ∧ ∃ d', dst v kd (nxE v kd y x) y = some d' ∧ d = csE v kd y x + d' ∧ rkN v kd y d' < rkN v kd y d := by
  obtain ⟨⟨g1, g2, a', c', g3, g4, g5, g6⟩, -⟩ := chE_is (NX_ex hne h)
  have en : nxE v kd y x = a' := by unfold nxE; rw [g3, cl]
  have hw' : chE v kd y x / 2 < cnt v 0 := by omega
  have h1 := (wcost_bd (k := kd) (d := chE v kd y x % 2) (hw _ hw')).1
  rw [h] at g6
  have ed : d = csE v kd y x + c' := by unfold csE; injection g6
  rw [en]
  refine ⟨hw', g2, g3, g4, c', g5, ed, rkN_lt g4 g5 ?_⟩
  unfold csE at ed
  omega
theorem at_end {v : xIv} {kd y x d : Nat} (hw : ∀ w, w < cnt v 0 → okW v w) (h : dst v kd x y = some d) (hr : rkN v kd y d ≤ 0) : x = y := by
  by_cases e : x = y
  · exact e
  · obtain ⟨-, -, -, -, d', -, -, h3⟩ := step_E hw e h
    omega
section WALK
variable {L : Nat} {xs : Nat → Int32} {iv : xIv} {lg : xLg} {Q : xQ} {sg : xIv} {tw : Nat → Int64} {t : Nat}
set_option maxRecDepth 100000 in
theorem c_walk_e {p y r g : Nat} {z3 z5 : Int32} {o7 o8 o9 : Option Value} (hp : p < 8) (h12 : iv 12 p = nI y) (h11 : iv 11 p = nI r) (hg : g < 12) (k : Q (some (.int (nI r))) SH RF iv lg) : Wp L xs m_SR_walk 11 [some (.ref 0), some (.int (nI p)), some (.int (nI y)), some (.int z3), some (.ref 8), some (.int z5), some (.int (nI g)), o7, o8, o9] [] SH RF iv lg Q := by
  have v8 : vp_in (nI p) 8 := vp_N hp
  refine wgo [11] 100 ?_
  refine And.intro (fun z => absurd (lt12 hg) (lenl z)) (fun _ => ?_)
  refine And.intro v8 ?_
  refine And.intro (fun _ => ?_) (fun z => absurd (by rw [cl]; exact h12) z)
  refine And.intro v8 ?_
  exact qv k (by rw [cl]; exact h11)
theorem imn_9 {a : Nat} (h : a < 2 ^ 31) : imn 1000000000 (nI a) = nI (min 1000000000 a) := imn_nI (a := 1000000000) (by decide) h
set_option maxRecDepth 100000 in
theorem c_walk_l {p kd y tm : Nat} (hkd : kd < 4) (hy : y < 12) (htm : tm ≤ 2) (hG : GG t sg) (hp : p < cnt (vL sg) 1) : ∀ (n g x r s d : Nat) (c z : Int32) (iv : xIv) (oo : Option (Int32 × Int32 × Int32)), g + n = 11 → z = nI g → x < 12 → dst (vL sg) kd x y = some d → rkN (vL sg) kd y d ≤ n → tm * d ≤ r → r ≤ 99999 → s ≤ 1000000000 → CX iv lg (sgW sg p (nI r) (nI x) c (nI s)) tw → (∀ iv', CX iv' lg (sgW sg p (nI (r - tm * d)) (nI y) (wkC (vL sg) kd y tm n x c) (nI (min 1000000000 (s + tm * d)))) tw → refS iv' lg iv lg → Q (some (.int (nI (r - tm * d)))) SH RF iv' lg) → Wp L xs m_SR_walk 11 [some (.ref 0), some (.int (nI p)), some (.int (nI y)), some (.int (nI tm)), some (.ref 8), some (.int (nI kd)), some (.int z), oo.map (fun q => Value.int q.1), oo.map (fun q => Value.int q.2.1), oo.map (fun q => Value.int q.2.2)] [] SH RF iv lg Q := by
  have h8 := hG.1.2.1.2
  have okw := hG.1.2.2.2.2.2.1
  have stop : ∀ (n g x r s d : Nat) (c z : Int32) (iv : xIv) (oo : Option (Int32 × Int32 × Int32)), g + n = 11 → z = nI g → x = y → dst (vL sg) kd x y = some d → s ≤ 1000000000 → CX iv lg (sgW sg p (nI r) (nI x) c (nI s)) tw → wkC (vL sg) kd y tm n x c = c → (∀ iv', CX iv' lg (sgW sg p (nI (r - tm * d)) (nI y) (wkC (vL sg) kd y tm n x c) (nI (min 1000000000 (s + tm * d)))) tw → refS iv' lg iv lg → Q (some (.int (nI (r - tm * d)))) SH RF iv' lg) → Wp L xs m_SR_walk 11 [some (.ref 0), some (.int (nI p)), some (.int (nI y)), some (.int (nI tm)), some (.ref 8), some (.int (nI kd)), some (.int z), oo.map (fun q => Value.int q.1), oo.map (fun q => Value.int q.2.1), oo.map (fun q => Value.int q.2.2)] [] SH RF iv lg Q := by
    intro n g x r s d c z iv oo hn hz hx hd hs hC ew k
    subst hz; subst hx
    rw [dst_self] at hd
    injection hd with hd
    subst hd
    rw [ew, Nat.mul_zero, Nat.sub_zero, Nat.add_zero, Nat.min_eq_right hs] at k
    obtain ⟨w1, w2, w3, w4⟩ := sgW_at (sg := sg) (p := p) (r := nI r) (x := nI x) (c := c) (s := nI s)
    have rd := hC.rd (p := p) (by rw [sgW_c1]; exact hp)
    exact c_walk_e (by omega) (rd.2.2.2.1.trans w2) (rd.2.2.1.trans w1) (by omega) (k iv hC refS.rfl)
  intro n
  induction n with
  | zero =>
    intro g x r s d c z iv oo hn hz hx hd hrk hrd hr hs hC k
    exact stop 0 g x r s d c z iv oo hn hz (at_end okw hd hrk) hd hs hC rfl k
  | succ n ih =>
    intro g x r s d c z iv oo hn hz hx hd hrk hrd hr hs hC k
    by_cases hne : x = y
    · exact stop (n + 1) g x r s d c z iv oo hn hz hne hd hs hC (by unfold wkC; rw [if_pos hne]) k
    have ewk : wkC (vL sg) kd y tm (n + 1) x c = wkC (vL sg) kd y tm n (nxE (vL sg) kd y x) (if vL sg 1 (5 * (chE (vL sg) kd y x / 2) + 4) = 0 then c else c + nI (tm * csE (vL sg) kd y x)) := by
      show (if x = y then c else _) = _
      rw [if_neg hne]
    rw [ewk] at k
    clear ewk stop
    subst hz
    obtain ⟨q1, q2, q3, q4, d', q5, q6, q7⟩ := step_E okw hne hd
    have hGW := GG_W (p := p) (c := c) hG hr hx hs
    have wo : ∀ (Q2 : xQ) (x' : Int32), x' = nI x → (∀ iv', CX iv' lg (sgW sg p (nI r) (nI x) c (nI s)) tw → refS iv' lg iv lg → Q2 (some (.int (nI (chE (vL sg) kd y x / 2)))) SH RF iv' lg) → Sp L xs m_Roads_wayOn [.ref 37, .int (nI kd), .int x', .int (nI y)] SH RF iv lg Q2 := fun Q2 x' ex k2 => by
      subst ex
      exact c_wayOn hkd hx hy hC hGW (by rw [dst_cg sgW_v0 sgW_v1]; exact hd) hne (fun iv' a b => by rw [chE_cg sgW_v0 sgW_v1]; exact k2 iv' a b)
    have hcs : csE (vL sg) kd y x ≤ 252 := (wcost_bd (okw _ q1)).2
    have cst : ∀ (Q2 : xQ) (iv1 : xIv) (b : Int32), CX iv1 lg (sgW sg p (nI r) (nI x) c (nI s)) tw → ((chE (vL sg) kd y x % 2 = 1 ∧ b = 0) ∨ (chE (vL sg) kd y x % 2 = 0 ∧ b = 1)) → Q2 (some (.int (nI (csE (vL sg) kd y x)))) SH RF iv1 lg → Sp L xs m_Ways_costOf [.ref 2, .int (nI (chE (vL sg) kd y x / 2)), .int (nI kd), .int b] SH RF iv1 lg Q2 := fun Q2 iv1 b C1 hb k2 => by
      refine s_costOf (d := chE (vL sg) kd y x % 2) C1 hGW (by rw [sgW_c0]; exact q1) hkd hb ?_
      rw [wcost_cg sgW_v1]
      exact k2
    have hok := okw _ q1
    have hm2 : chE (vL sg) kd y x % 2 = 0 ∨ chE (vL sg) kd y x % 2 = 1 := by omega
    unfold csE at hcs cst k q6
    generalize ecs : wcost (vL sg) kd (chE (vL sg) kd y x / 2) (chE (vL sg) kd y x % 2) = cs at hcs cst k q6
    generalize enx : nxE (vL sg) kd y x = x' at q3 q4 q5 k
    generalize ew : chE (vL sg) kd y x / 2 = w at q1 q2 q3 wo cst hok k
    generalize em : chE (vL sg) kd y x % 2 = m at q2 q3 cst hm2
    clear ecs enx ew em
    have hmul : tm * d = tm * cs + tm * d' := by rw [q6, Nat.mul_add]
    have htc : tm * cs ≤ 504 := Nat.le_trans (Nat.mul_le_mul htm hcs) (by decide)
    have h24 := hG.1.1.2
    have v8 : vp_in (nI p) 8 := vp_N (by omega)
    have vw : vp_in (nI w) 24 := vp_N (by omega)
    have ep : (nI p).toNatClampNeg = p := cl
    have ew : (nI w).toNatClampNeg = w := cl
    have epr : nI tm * nI cs = nI (tm * cs) := pk_mul tm cs
    obtain ⟨w1, w2, w3, w4⟩ := sgW_at (sg := sg) (p := p) (r := nI r) (x := nI x) (c := c) (s := nI s)
    have hpW : p < cnt (vL (sgW sg p (nI r) (nI x) c (nI s))) 1 := by rw [sgW_c1]; exact hp
    have rd0 := hC.rd hpW
    have ex : iv 12 (nI p).toNatClampNeg = nI x := by rw [ep]; exact rd0.2.2.2.1.trans w2
    have er : r - tm * d = (r - tm * cs) - tm * d' := by omega
    have es : min 1000000000 (s + tm * d) = min 1000000000 (min 1000000000 (s + tm * cs) + tm * d') := by omega
    rw [er, es] at k
    have fin : ∀ (iv1 : xIv) (X : Int32) (o9 : Option Value), X = nI x → CX iv1 lg (sgW sg p (nI r) (nI x) c (nI s)) tw → refS iv1 lg iv lg → Wp L xs m_SR_walk 53 [some (.ref 0), some (.int (nI p)), some (.int (nI y)), some (.int (nI tm)), some (.ref 8), some (.int (nI kd)), some (.int (nI g)), some (.int X), some (.int (nI w)), o9] [.int (nI cs), .int (nI tm)] SH RF iv1 lg Q := by
      intro iv1 X o9 eX C1 R1
      subst eX
      have rd1 := C1.rd hpW
      have C2 := C1.p (x := nI (r - tm * cs)) hpW (f := 2) (by decide)
      have G2 : GG t (xu2 (sgW sg p (nI r) (nI x) c (nI s)) 81 (7 * p + 2) (nI (r - tm * cs))) := hGW.up (Nat.le_refl t) (hGW.1.p (by decide) ⟨fun z => absurd z (by decide), fun z => absurd z (by decide), fun _ => ⟨nI_pos' (by omega), nI_le (b := 99999) (by omega) (by decide)⟩, fun z => absurd z (by decide)⟩) (fun z => absurd z (by decide)) (by decide) (by decide)
      have a2 : xu2 iv1 11 (nI p).toNatClampNeg (iv1 11 (nI p).toNatClampNeg - nI tm * nI cs) = xu2 iv1 (9 + 2) p (nI (r - tm * cs)) := by
        rw [ep, rd1.2.2.1, w1, epr, nI_subN (by omega) (by omega)]
      have V2 : vL (xu2 (sgW sg p (nI r) (nI x) c (nI s)) 81 (7 * p + 2) (nI (r - tm * cs))) 1 = vL sg 1 := (v1_ne (by decide)).trans sgW_v1
      have c20 : cnt (vL (xu2 (sgW sg p (nI r) (nI x) c (nI s)) 81 (7 * p + 2) (nI (r - tm * cs)))) 0 = cnt (vL sg) 0 := (cnt_ne (by decide)).trans sgW_c0
      have c21 : cnt (vL (xu2 (sgW sg p (nI r) (nI x) c (nI s)) 81 (7 * p + 2) (nI (r - tm * cs)))) 1 = cnt (vL sg) 1 := (cnt_ne (by decide)).trans sgW_c1
      generalize eiv2 : xu2 iv1 (9 + 2) p (nI (r - tm * cs)) = iv2 at C2 a2
      have oe : ∀ Q2 : xQ, Q2 (some (.int (nI x'))) SH RF iv2 lg → Sp L xs m_Ways_otherEnd [.ref 2, .int (nI w), .int (nI x)] SH RF iv2 lg Q2 := fun Q2 k2 => by
        have oe := c_other (L := L) (xs := xs) (Q := Q2) (x := x) C2 G2 (by rw [c20]; exact q1)
        rw [V2] at oe
        rcases hm2 with e | e
        · rw [e] at q2 q3
          refine oe (fun _ => ?_) (fun z _ => absurd q2 z) (fun z _ => absurd q2 z)
          rw [q3]
          exact k2
        · rw [e] at q2 q3
          refine oe (fun z => absurd (z.trans q2.symm) hok.2.2.1) (fun _ _ => ?_) (fun _ z => absurd q2 z)
          rw [show vL sg 1 (5 * w) = nI x' from q3]
          exact k2
      have C3 := C2.p (x := nI x') (by rw [c21]; exact hp) (f := 3) (by decide)
      have a3 : xu2 iv2 12 (nI p).toNatClampNeg (nI x') = xu2 iv2 (9 + 3) p (nI x') := by rw [ep]
      have V3 : vL (xu2 (xu2 (sgW sg p (nI r) (nI x) c (nI s)) 81 (7 * p + 2) (nI (r - tm * cs))) 81 (7 * p + 3) (nI x')) 1 = vL sg 1 := (v1_ne (by decide)).trans V2
      have c30 : cnt (vL (xu2 (xu2 (sgW sg p (nI r) (nI x) c (nI s)) 81 (7 * p + 2) (nI (r - tm * cs))) 81 (7 * p + 3) (nI x'))) 0 = cnt (vL sg) 0 := (cnt_ne (by decide)).trans c20
      have c31 : cnt (vL (xu2 (xu2 (sgW sg p (nI r) (nI x) c (nI s)) 81 (7 * p + 2) (nI (r - tm * cs))) 81 (7 * p + 3) (nI x'))) 1 = cnt (vL sg) 1 := (cnt_ne (by decide)).trans c21
      have R3 : refS (xu2 iv2 (9 + 3) p (nI x')) lg iv lg := by rw [← eiv2]; exact (R1.up (by decide)).up (by decide)
      generalize eiv3 : xu2 iv2 (9 + 3) p (nI x') = iv3 at C3 a3 R3
      have gw : iv3 7 (nI w).toNatClampNeg = vL sg 1 (5 * w + 4) := by
        rw [ew]
        have := (C3.1.1.2 w (by rw [c30]; exact q1)).2.2.2.2
        rw [V3] at this
        exact this
      have s6 : iv3 1 6 = nI s := by
        refine C3.1.2.2.2.2.2.2.trans ?_
        show xu2 (xu2 (sgW sg p (nI r) (nI x) c (nI s)) 81 (7 * p + 2) (nI (r - tm * cs))) 81 (7 * p + 3) (nI x') 79 9 = nI s
        rw [xu2_k (by decide), xu2_k (by decide)]
        exact w4
      have i13 : iv3 13 p = c := by
        refine (C3.rd (p := p) (by rw [c31]; exact hp)).2.2.2.2.1.trans ?_
        rw [xu2_j (by omega), xu2_j (by omega)]
        exact w3
      have espent : imn 1000000000 (nI s + nI tm * nI cs) = nI (min 1000000000 (s + tm * cs)) := by rw [epr, ni_a]; exact imn_9 (by omega)
      refine wgo [11] 1000 ?_
      refine And.intro v8 ?_
      refine And.intro v8 ?_
      rw [a2]
      refine oe _ ?_
      refine And.intro v8 ?_
      rw [a3]
      refine And.intro vw ?_
      refine And.intro (fun z => ?_) (fun z => ?_)
      · rw [gw] at z
        rw [if_pos z] at k
        have C4 := C3.s (x := nI (min 1000000000 (s + tm * cs))) (j := 6) (i := 9) (Or.inr (Or.inl ⟨rfl, rfl⟩))
        rw [sgW_s0] at C4
        have R4 : refS (xu2 iv3 1 6 (nI (min 1000000000 (s + tm * cs)))) lg iv lg := R3.up (by decide)
        have nxt : ∀ (sp z7 z9 : Int32), sp = nI (min 1000000000 (s + tm * cs)) → Wp L xs m_SR_walk 11 [some (.ref 0), some (.int (nI p)), some (.int (nI y)), some (.int (nI tm)), some (.ref 8), some (.int (nI kd)), some (.int (nI g + 1)), some (.int z7), some (.int (nI w)), some (.int z9)] [] SH RF (xu2 iv3 1 6 sp) lg Q := fun sp z7 z9 e => by
          subst e
          exact ih (g + 1) x' (r - tm * cs) (min 1000000000 (s + tm * cs)) d' c _ _ (some (_, _, _)) (by omega) (nI_1 g) q4 q5 (by omega) (by omega) (by omega) (by omega) C4 (fun iv' e1 e2 => k iv' e1 (e2.trans R4))
        exact nxt _ _ _ (by rw [s6]; exact espent)
      · rw [gw] at z
        rw [if_neg z] at k
        refine And.intro v8 ?_
        refine And.intro v8 ?_
        have C4 := C3.p (x := c + nI (tm * cs)) (by rw [c31]; exact hp) (f := 4) (by decide)
        have C5 := C4.s (x := nI (min 1000000000 (s + tm * cs))) (j := 6) (i := 9) (Or.inr (Or.inl ⟨rfl, rfl⟩))
        rw [sgW_st] at C5
        have a4 : xu2 iv3 13 (nI p).toNatClampNeg (iv3 13 (nI p).toNatClampNeg + nI tm * nI cs) = xu2 iv3 (9 + 4) p (c + nI (tm * cs)) := by rw [ep, i13, epr]
        rw [a4]
        have R5 : refS (xu2 (xu2 iv3 (9 + 4) p (c + nI (tm * cs))) 1 6 (nI (min 1000000000 (s + tm * cs)))) lg iv lg := (R3.up (by decide)).up (by decide)
        have nxt : ∀ (sp z7 z9 : Int32), sp = nI (min 1000000000 (s + tm * cs)) → Wp L xs m_SR_walk 11 [some (.ref 0), some (.int (nI p)), some (.int (nI y)), some (.int (nI tm)), some (.ref 8), some (.int (nI kd)), some (.int (nI g + 1)), some (.int z7), some (.int (nI w)), some (.int z9)] [] SH RF (xu2 (xu2 iv3 (9 + 4) p (c + nI (tm * cs))) 1 6 sp) lg Q := fun sp z7 z9 e => by
          subst e
          exact ih (g + 1) x' (r - tm * cs) (min 1000000000 (s + tm * cs)) d' (c + nI (tm * cs)) _ _ (some (_, _, _)) (by omega) (nI_1 g) q4 q5 (by omega) (by omega) (by omega) (by omega) C5 (fun iv' e1 e2 => k iv' e1 (e2.trans R5))
        exact nxt _ _ _ (by rw [xu2_k (by decide), s6]; exact espent)
    cases oo
    all_goals
      refine wgo [11, 53] 1000 ?_
      refine And.intro (fun z => absurd (lt12 (show g < 12 by omega)) (lenl z)) (fun _ => ?_)
      refine And.intro v8 ?_
      refine And.intro (fun z => absurd ((nI_eq (by omega) (by omega)).mp (ex.symm.trans z)) hne) (fun _ => ?_)
      refine And.intro v8 ?_
      refine wo _ _ ex (fun iv1 C1 R1 => ?_)
      refine And.intro (fun _ => ?_) (fun z => absurd (nI_pos' (show w < 2 ^ 31 by omega)) z)
      refine And.intro vw ?_
      have i3 : iv1 3 (nI w).toNatClampNeg = vL sg 1 (5 * w) := by
        rw [ew]
        have := (C1.1.1.2 w (by rw [sgW_c0]; exact q1)).1
        rw [sgW_v1] at this
        exact this
      refine And.intro (fun z => ?_) (fun z => ?_)
      · rw [i3, ex] at z
        have e1 : m = 1 := by
          rcases hm2 with e | e
          · rw [e] at q2; exact absurd q2 z
          · exact e
        refine cst _ iv1 0 C1 (Or.inl ⟨e1, rfl⟩) ?_
        exact fin iv1 _ _ ex C1 R1
      · rw [i3, ex] at z
        have z := Decidable.not_not.mp z
        have e0 : m = 0 := by
          rcases hm2 with e | e
          · exact e
          · rw [e] at q2; exact absurd (z.trans q2.symm) hok.2.2.1
        refine cst _ iv1 1 C1 (Or.inr ⟨e0, rfl⟩) ?_
        exact fin iv1 _ _ ex C1 R1
set_option maxRecDepth 100000 in
theorem c_walk {p kd x y tm r s d : Nat} {c : Int32} (hkd : kd < 4) (hx : x < 12) (hy : y < 12) (htm : tm ≤ 2) (hG : GG t sg) (hp : p < cnt (vL sg) 1) (hC : CX iv lg sg tw) (ek : sg 81 (7 * p + 1) = nI kd) (er : sg 81 (7 * p + 2) = nI r) (ex : sg 81 (7 * p + 3) = nI x) (ec : sg 81 (7 * p + 4) = c) (es : sg 79 9 = nI s) (hr : r ≤ 99999) (hs : s ≤ 1000000000) (hd : dst (vL sg) kd x y = some d) (hrd : tm * d ≤ r) (k : ∀ iv', CX iv' lg (sgW sg p (nI (r - tm * d)) (nI y) (wkC (vL sg) kd y tm 11 x c) (nI (min 1000000000 (s + tm * d)))) tw → refS iv' lg iv lg → Q (some (.int (nI (r - tm * d)))) SH RF iv' lg) : Sp L xs m_SR_walk [.ref 0, .int (nI p), .int (nI y), .int (nI tm)] SH RF iv lg Q := by
  have h8 := hG.1.2.1.2
  have hC2 : CX iv lg (sgW sg p (nI r) (nI x) c (nI s)) tw := by
    rw [← er, ← ex, ← ec, ← es, sgW_id]
    exact hC
  have ei : iv 10 (nI p).toNatClampNeg = nI kd := by rw [cl, (hC.rd hp).2.1, ek]
  have key : ∀ z5 : Int32, z5 = nI kd → Wp L xs m_SR_walk 11 [some (.ref 0), some (.int (nI p)), some (.int (nI y)), some (.int (nI tm)), some (.ref 8), some (.int z5), some (.int 0), none, none, none] [] SH RF iv lg Q := fun z5 e => by
    subst e
    exact c_walk_l hkd hy htm hG hp 11 0 x r s d c _ iv none rfl rfl hx hd (by have := rkN_bd hx hd; omega) hrd hr hs hC2 k
  refine sgo [11] 100 ?_
  refine And.intro (vp_N (by omega)) ?_
  exact key _ ei
end WALK
