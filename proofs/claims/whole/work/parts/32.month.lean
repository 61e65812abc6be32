-- ===== month =====
theorem xu2_id {α : Type} {f : Nat → Nat → α} {k j : Nat} : xu2 f k j (f k j) = f := by
  funext a b
  unfold xu2
  split
  · rename_i h; subst h
    split
    · rename_i h; subst h; rfl
    · rfl
  · rfl
def nS (sg : xIv) (p q : Nat) : Int32 := imn (sg 81 (7 * p + 2)) (sg 82 (8 * p + q))
def stS (p q : Nat) (s : xIv × Int32) : xIv × Int32 := (pyb s.1 p q (nS s.1 p q), s.2 + nS s.1 p q)
def stI (p : Nat) : Nat → Nat → xIv × Int32 → xIv × Int32
  | 0, _, s => s
  | r + 1, q, s => stI p r (q + 1) (stS p q s)
def stO (m : Nat) : Nat → Nat → xIv × Int32 → xIv × Int32
  | 0, _, s => s
  | r + 1, p, s => stO m r (p + 1) (stI p m 0 s)
abbrev Kp (sg' sg : xIv) : Prop := ∀ k, k ≠ 81 → k ≠ 82 → sg' k = sg k
theorem Kp.n {sg' sg : xIv} (h : Kp sg' sg) (i : Nat) : cnt (vL sg') i = cnt (vL sg) i := by
  have : vL sg' 0 = vL sg 0 := by
    funext j
    unfold vL
    rw [h 79 (by decide) (by decide)]
    rfl
  unfold cnt
  rw [this]
section MONTH
variable {L : Nat} {xs : Nat → Int32} {iv : xIv} {lg : xLg} {Q : xQ} {sg : xIv} {tw : Nat → Int64} {t : Nat}
theorem nS_bd {p q : Nat} (hG : Gv t (vL sg)) (hp : p < cnt (vL sg) 1) (hq : q < cnt (vL sg) 1) : 0 ≤ (nS sg p q).toInt ∧ nS sg p q ≤ sg 81 (7 * p + 2) ∧ nS sg p q ≤ sg 82 (8 * p + q) := by
  have h8 := hG.2.1.2
  have hr : 0 ≤ sg 81 (7 * p + 2) ∧ sg 81 (7 * p + 2) ≤ 99999 := (hG.2.2.2.2.2.2.1 p hp).2.2.1
  have ho : 0 ≤ (sg 82 (8 * p + q)).toInt ∧ (sg 82 (8 * p + q)).toInt ≤ 99999 * (t : Int) := hG.2.2.2.2.2.2.2.1 (8 * p + q) (by omega)
  rw [il, il, tl0] at hr
  rw [il, il]
  unfold nS
  rw [imn_toInt]
  split <;> omega
theorem pyb_kp {p q : Nat} {n : Int32} : Kp (pyb sg p q n) sg := fun k h1 h2 => by unfold pyb; rw [xu2_ne h2, hnd_row h1]
theorem stS_ok {p q : Nat} {a : Int32} (ht : t ≤ 512) (hG : Gv t (vL sg)) (hp : p < cnt (vL sg) 1) (hq : q < cnt (vL sg) 1) : Gv t (vL (stS p q (sg, a)).1) ∧ Kp (stS p q (sg, a)).1 sg := by
  obtain ⟨b1, b2, b3⟩ := nS_bd hG hp hq
  exact ⟨Gv_pyb hG hp hq hG.2.1.2 ht b1 b2 b3, pyb_kp⟩
theorem Kp.trans {a b c : xIv} (h : Kp a b) (h2 : Kp b c) : Kp a c := fun k x y => (h k x y).trans (h2 k x y)
theorem stI_ok {p m : Nat} (ht : t ≤ 512) (hp : p < m) : ∀ (r q : Nat) (s : xIv × Int32), q + r = m → cnt (vL s.1) 1 = m → Gv t (vL s.1) → Gv t (vL (stI p r q s).1) ∧ Kp (stI p r q s).1 s.1
  | 0, q, s, _, _, hG => ⟨hG, fun _ _ _ => rfl⟩
  | r + 1, q, s, h, hm, hG => by
    obtain ⟨g1, k1⟩ := stS_ok (p := p) (q := q) (a := s.2) ht hG (by omega) (by omega)
    obtain ⟨g2, k2⟩ := stI_ok ht hp r (q + 1) (stS p q s) (by omega) ((k1.n 1).trans hm) g1
    exact ⟨g2, k2.trans k1⟩
theorem stO_ok {m : Nat} (ht : t ≤ 512) : ∀ (r p : Nat) (s : xIv × Int32), p + r = m → cnt (vL s.1) 1 = m → Gv t (vL s.1) → Gv t (vL (stO m r p s).1) ∧ Kp (stO m r p s).1 s.1
  | 0, q, s, _, _, hG => ⟨hG, fun _ _ _ => rfl⟩
  | r + 1, p, s, h, hm, hG => by
    obtain ⟨g1, k1⟩ := stI_ok (p := p) (m := m) ht (by omega) m 0 s (by omega) hm hG
    obtain ⟨g2, k2⟩ := stO_ok ht r (p + 1) (stI p m 0 s) (by omega) ((k1.n 1).trans hm) g1
    exact ⟨g2, k2.trans k1⟩
theorem pyb_zero {p q : Nat} (hG : Gv t (vL sg)) (hq : q < cnt (vL sg) 1) : pyb sg p q 0 = sg := by
  have hr : 0 ≤ sg 81 (7 * q + 2) ∧ sg 81 (7 * q + 2) ≤ 99999 := (hG.2.2.2.2.2.2.1 q hq).2.2.1
  have e1 : hnd1 sg p 0 = sg := by unfold hnd1; rw [Int32.sub_zero]; exact xu2_id
  have e2 : hnd2 sg p 0 = sg := by unfold hnd2; rw [e1, Int32.add_zero]; exact xu2_id
  have e3 : hnd3 sg p q 0 = sg := by
    unfold hnd3
    rw [e2, Int32.add_zero, show imn 99999 (sg 81 (7 * q + 2)) = sg 81 (7 * q + 2) from ?_]
    · exact xu2_id
    · refine ie.mpr ?_
      rw [imn_toInt]
      rw [il, il] at hr
      split <;> omega
  have e4 : hnd sg p q 0 = sg := by unfold hnd; rw [e3, Int32.add_zero]; exact xu2_id
  unfold pyb
  rw [e4, Int32.sub_zero]
  exact xu2_id
theorem stS_zero {p q : Nat} {a : Int32} (hG : Gv t (vL sg)) (hp : p < cnt (vL sg) 1) (hq : q < cnt (vL sg) 1) (h : nS sg p q ≤ 0) : stS p q (sg, a) = (sg, a) := by
  obtain ⟨b1, b2, b3⟩ := nS_bd hG hp hq
  rw [il, tl0] at h
  have e : nS sg p q = 0 := ie.mpr (by rw [tl0]; omega)
  unfold stS
  dsimp only
  rw [e, pyb_zero hG hq, Int32.add_zero]
set_option maxRecDepth 100000 in
theorem c_set_in {m p : Nat} (ht : t ≤ 512) (hm8 : m ≤ 8) (hp : p < m) : ∀ (r q : Nat) (x a A : Int32) (iv sg : xIv) (o4 : Option Value), q + r = m → x = nI q → a = A → cnt (vL sg) 1 = m → CX iv lg sg tw → Gv t (vL sg) → (∀ iv' a' x' o4', CX iv' lg (stI p r q (sg, A)).1 tw → refS iv' lg iv lg → a' = (stI p r q (sg, A)).2 → Wp L xs m_People_settle 39 [some (.ref 8), some (.int a'), some (.int (nI p)), some (.int x'), o4'] [] SH RF iv' lg Q) → Wp L xs m_People_settle 10 [some (.ref 8), some (.int a), some (.int (nI p)), some (.int x), o4] [] SH RF iv lg Q
  | 0, q, x, a, A, iv, sg, o4, h, hx, ha, hc, hC, hG, k => by
    obtain rfl : q = m := by omega
    subst hx; subst ha
    have hn : iv 8 0 = nI q := by rw [hC.1.2.1.1, hG.2.1.1, hc]
    refine wgo [10, 39] 100 ?_
    exact And.intro (fun _ => k iv _ _ _ hC refS.rfl rfl) (fun z => absurd (by rw [hn]; exact il.mpr (Int.le_refl _)) z)
  | r + 1, q, x, a, A, iv, sg, o4, h, hx, ha, hc, hC, hG, k => by
    subst hx; subst ha
    have hn : iv 8 0 = nI m := by rw [hC.1.2.1.1, hG.2.1.1, hc]
    have e8 : nI p * (8 : Int32) + nI q = nI (8 * p + q) := by rw [ni8', ni_a]
    have v8 : vp_in (nI p * (8 : Int32) + nI q) 64 := by rw [e8]; exact vp_N (by omega)
    have k8 : (nI p * (8 : Int32) + nI q).toNatClampNeg = 8 * p + q := by rw [e8, cl]
    have en : imn (iv 11 (nI p).toNatClampNeg) (iv 16 (nI p * (8 : Int32) + nI q).toNatClampNeg) = nS sg p q := by
      rw [k8, cl, (hC.rd (show p < cnt (vL sg) 1 by omega)).2.2.1, show iv 16 (8 * p + q) = sg 82 (8 * p + q) from hC.1.2.1.2.2 _ (by omega)]
      rfl
    refine wgo [10, 39] 100 ?_
    refine And.intro (fun z => absurd (nI_lt (show q < m by omega) (by omega)) (by rw [hn] at z; exact lenl z)) (fun _ => ?_)
    refine And.intro (vp_N (by omega)) ?_
    refine And.intro v8 ?_
    refine s_payBack hC (by omega) (by omega) (by omega) (fun iv1 C1 R1 => ?_)
    rw [en] at C1
    obtain ⟨g1, k1⟩ := stS_ok (p := p) (q := q) (a := a) ht hG (by omega) (by omega)
    exact c_set_in ht hm8 hp r (q + 1) _ _ (a + nS sg p q) iv1 (pyb sg p q (nS sg p q)) _ (by omega) (nI_1 q) (by rw [en]) ((k1.n 1).trans hc) C1 g1 (fun iv' a' x' o4' c1 c2 c3 => k iv' a' x' o4' c1 (c2.trans R1) c3)
set_option maxRecDepth 100000 in
theorem c_set_out {m : Nat} (ht : t ≤ 512) (hm8 : m ≤ 8) : ∀ (r p : Nat) (x a A : Int32) (iv sg : xIv) (o3 o4 : Option Value), p + r = m → x = nI p → a = A → cnt (vL sg) 1 = m → CX iv lg sg tw → Gv t (vL sg) → (∀ iv', CX iv' lg (stO m r p (sg, A)).1 tw → refS iv' lg iv lg → Q (some (.int (stO m r p (sg, A)).2)) SH RF iv' lg) → Wp L xs m_People_settle 4 [some (.ref 8), some (.int a), some (.int x), o3, o4] [] SH RF iv lg Q
  | 0, q, x, a, A, iv, sg, o3, o4, h, hx, ha, hc, hC, hG, k => by
    obtain rfl : q = m := by omega
    subst hx; subst ha
    have hn : iv 8 0 = nI q := by rw [hC.1.2.1.1, hG.2.1.1, hc]
    refine wgo [4, 10] 100 ?_
    exact And.intro (fun _ => k iv hC refS.rfl) (fun z => absurd (by rw [hn]; exact il.mpr (Int.le_refl _)) z)
  | r + 1, p, x, a, A, iv, sg, o3, o4, h, hx, ha, hc, hC, hG, k => by
    subst hx; subst ha
    have hn : iv 8 0 = nI m := by rw [hC.1.2.1.1, hG.2.1.1, hc]
    refine wgo [4, 10] 100 ?_
    refine And.intro (fun z => absurd (nI_lt (show p < m by omega) (by omega)) (by rw [hn] at z; exact lenl z)) (fun _ => ?_)
    obtain ⟨g1, k1⟩ := stI_ok (p := p) (m := m) ht (by omega) m 0 (sg, a) (by omega) hc hG
    refine c_set_in ht hm8 (show p < m by omega) m 0 _ _ a iv sg _ (by omega) rfl rfl hc hC hG (fun iv' a' x' o4' c1 c2 c3 => ?_)
    refine wgo [4, 10] 100 ?_
    exact c_set_out ht hm8 r (p + 1) _ _ (stI p m 0 (sg, a)).2 iv' (stI p m 0 (sg, a)).1 _ _ (by omega) (nI_1 p) c3 ((k1.n 1).trans hc) c1 g1 (fun iv2 d1 d2 => k iv2 d1 (d2.trans c2))
theorem c_settle (ht : t ≤ 512) (hC : CX iv lg sg tw) (hG : Gv t (vL sg)) (k : ∀ iv', CX iv' lg (stO (cnt (vL sg) 1) (cnt (vL sg) 1) 0 (sg, 0)).1 tw → refS iv' lg iv lg → Q (some (.int (stO (cnt (vL sg) 1) (cnt (vL sg) 1) 0 (sg, 0)).2)) SH RF iv' lg) : Sp L xs m_People_settle [.ref 8] SH RF iv lg Q := by
  refine sgo [4, 10] 100 ?_
  exact c_set_out ht hG.2.1.2 _ 0 _ _ 0 iv sg _ _ (by omega) rfl rfl rfl hC hG k
set_option maxRecDepth 100000 in
theorem m_set_in {m p : Nat} (ht : t ≤ 512) (hm8 : m ≤ 8) (hp : p < m) : ∀ (r q : Nat) (x a A : Int32) (iv sg : xIv) (o4 : Option Value), q + r = m → x = nI q → a = A → cnt (vL sg) 1 = m → MV iv lg sg tw → Gv t (vL sg) → (∀ iv' a' x' o4', MV iv' lg (stI p r q (sg, A)).1 tw → clsS iv' lg iv lg → a' = (stI p r q (sg, A)).2 → Wp L xs m_Mo_month 74 [some (.ref 79), some (.int a'), some (.int (nI p)), some (.int x'), o4'] [] SH RF iv' lg Q) → Wp L xs m_Mo_month 10 [some (.ref 79), some (.int a), some (.int (nI p)), some (.int x), o4] [] SH RF iv lg Q
  | 0, q, x, a, A, iv, sg, o4, h, hx, ha, hc, hC, hG, k => by
    obtain rfl : q = m := by omega
    subst hx; subst ha
    have hn : iv 79 3 = nI q := by rw [hC.1.2.1]; exact hG.2.1.1.trans (by rw [hc])
    refine wgo [10, 74] 100 ?_
    exact And.intro (fun _ => k iv _ _ _ hC clsS.rfl rfl) (fun z => absurd (by rw [hn]; exact il.mpr (Int.le_refl _)) z)
  | r + 1, q, x, a, A, iv, sg, o4, h, hx, ha, hc, hC, hG, k => by
    subst hx; subst ha
    have hn : iv 79 3 = nI m := by rw [hC.1.2.1]; exact hG.2.1.1.trans (by rw [hc])
    have e8 : (8 : Int32) * nI p + nI q = nI (8 * p + q) := by rw [ni8, ni_a]
    have v8 : vp_in ((8 : Int32) * nI p + nI q) 64 := by rw [e8]; exact vp_N (by omega)
    have k8 : ((8 : Int32) * nI p + nI q).toNatClampNeg = 8 * p + q := by rw [e8, cl]
    have e7 : (7 : Int32) * nI p + 2 = nI (7 * p + 2) := by rw [ni7]; exact ni_a _ 2
    have v7 : vp_in ((7 : Int32) * nI p + 2) 56 := by rw [e7]; exact vp_N (by omega)
    have k7 : ((7 : Int32) * nI p + 2).toNatClampNeg = 7 * p + 2 := by rw [e7, cl]
    have i8 : iv 82 ((8 : Int32) * nI p + nI q).toNatClampNeg = sg 82 (8 * p + q) := by rw [k8, hC.2.1.2.2.1]
    have i7 : iv 81 ((7 : Int32) * nI p + 2).toNatClampNeg = sg 81 (7 * p + 2) := by rw [k7, hC.2.1.2.1]
    have key : ∀ (n : Int32) (o4 : Option Value), n = nS sg p q → Wp L xs m_Mo_month 48 [some (.ref 79), some (.int a), some (.int (nI p)), some (.int (nI q)), o4] [.int n] SH RF iv lg Q := by
      intro n o4 en
      subst en
      refine wgo [10, 74] 100 ?_
      refine And.intro (fun z => ?_) (fun z => ?_)
      · have es := stS_zero (a := a) hG (show p < cnt (vL sg) 1 by omega) (show q < cnt (vL sg) 1 by omega) z
        refine m_set_in ht hm8 hp r (q + 1) _ _ a iv sg _ (by omega) (nI_1 q) rfl hc hC hG (fun iv' a' x' o4' c1 c2 c3 => ?_)
        have e : stI p (r + 1) q (sg, a) = stI p r (q + 1) (sg, a) := by show stI p r (q + 1) (stS p q (sg, a)) = _; rw [es]
        rw [e] at k
        exact k iv' a' x' o4' c1 c2 c3
      · refine m_send hC (by omega) (by omega) (fun iv1 M1 R1 => ?_)
        refine And.intro v8 ?_
        refine And.intro v8 ?_
        obtain ⟨g1, k1⟩ := stS_ok (p := p) (q := q) (a := a) ht hG (by omega) (by omega)
        have M2 : MV (xu2 iv1 82 ((8 : Int32) * nI p + nI q).toNatClampNeg (iv1 82 ((8 : Int32) * nI p + nI q).toNatClampNeg - nS sg p q)) lg (pyb sg p q (nS sg p q)) tw := by
          rw [k8, M1.2.1.2.2.1]
          exact M1.up _ _ _
        exact m_set_in ht hm8 hp r (q + 1) _ _ (a + nS sg p q) _ (pyb sg p q (nS sg p q)) _ (by omega) (nI_1 q) rfl ((k1.n 1).trans hc) M2 g1 (fun iv' a' x' o4' c1 c2 c3 => k iv' a' x' o4' c1 (c2.trans (R1.up (by decide))) c3)
    refine wgo [10, 48, 74] 100 ?_
    refine And.intro (fun z => absurd (nI_lt (show q < m by omega) (by omega)) (by rw [hn] at z; exact lenl z)) (fun _ => ?_)
    refine And.intro v8 ?_
    refine And.intro v7 ?_
    refine And.intro (fun z => ?_) (fun z => ?_)
    · rw [i7, i8] at z
      refine And.intro v7 ?_
      exact key _ _ (by rw [i7]; unfold nS imn; rw [if_neg (lenl z)])
    · rw [i7, i8] at z
      refine And.intro v8 ?_
      exact key _ _ (by rw [i8]; unfold nS imn; rw [if_pos (nle z)])
set_option maxRecDepth 100000 in
theorem m_set_out {m : Nat} (ht : t ≤ 512) (hm8 : m ≤ 8) : ∀ (r p : Nat) (x a A : Int32) (iv sg : xIv) (o3 o4 : Option Value), p + r = m → x = nI p → a = A → cnt (vL sg) 1 = m → MV iv lg sg tw → Gv t (vL sg) → (∀ iv' o3' o4', MV iv' lg (stO m r p (sg, A)).1 tw → clsS iv' lg iv lg → Wp L xs m_Mo_month 78 [some (.ref 79), some (.int (stO m r p (sg, A)).2), some (.int 0), o3', o4'] [] SH RF iv' lg Q) → Wp L xs m_Mo_month 4 [some (.ref 79), some (.int a), some (.int x), o3, o4] [] SH RF iv lg Q
  | 0, q, x, a, A, iv, sg, o3, o4, h, hx, ha, hc, hC, hG, k => by
    obtain rfl : q = m := by omega
    subst hx; subst ha
    have hn : iv 79 3 = nI q := by rw [hC.1.2.1]; exact hG.2.1.1.trans (by rw [hc])
    refine wgo [4, 10, 78] 100 ?_
    exact And.intro (fun _ => k iv _ _ hC clsS.rfl) (fun z => absurd (by rw [hn]; exact il.mpr (Int.le_refl _)) z)
  | r + 1, p, x, a, A, iv, sg, o3, o4, h, hx, ha, hc, hC, hG, k => by
    subst hx; subst ha
    have hn : iv 79 3 = nI m := by rw [hC.1.2.1]; exact hG.2.1.1.trans (by rw [hc])
    refine wgo [4, 10, 78] 100 ?_
    refine And.intro (fun z => absurd (nI_lt (show p < m by omega) (by omega)) (by rw [hn] at z; exact lenl z)) (fun _ => ?_)
    obtain ⟨g1, k1⟩ := stI_ok (p := p) (m := m) ht (by omega) m 0 (sg, a) (by omega) hc hG
    refine m_set_in ht hm8 (show p < m by omega) m 0 _ _ a iv sg _ (by omega) rfl rfl hc hC hG (fun iv' a' x' o4' c1 c2 c3 => ?_)
    refine wgo [4, 10, 78] 100 ?_
    exact m_set_out ht hm8 r (p + 1) _ _ (stI p m 0 (sg, a)).2 iv' (stI p m 0 (sg, a)).1 _ _ (by omega) (nI_1 p) c3 ((k1.n 1).trans hc) c1 g1 (fun iv2 o3' o4' d1 d2 => k iv2 o3' o4' d1 (d2.trans c2))
/-- the new month of one -/
def rnV (sg : xIv) (p : Nat) : Int32 := imn 99999 ((if sg 79 6 = 0 then 0 else if sg 79 6 = 2 then sg 81 (7 * p + 2) / 2 else sg 81 (7 * p + 2)) + sg 83 (sg 81 (7 * p + 1)).toNatClampNeg)
def rn1 (sg : xIv) (p : Nat) : xIv := xu2 sg 81 (7 * p + 2) (rnV sg p)
def rn2 (sg : xIv) (p : Nat) : xIv := xu2 (rn1 sg p) 81 (7 * p + 3) (rn1 sg p 81 (7 * p))
def rn3 (sg : xIv) (p : Nat) : xIv := xu2 (rn2 sg p) 81 (7 * p + 4) 0
def rn4 (sg : xIv) (p : Nat) : xIv := xu2 (rn3 sg p) 81 (7 * p + 5) 0
def rnw (sg : xIv) (p : Nat) : xIv := xu2 (rn4 sg p) 81 (7 * p + 6) 0
def rnR : Nat → Nat → xIv → xIv
  | 0, _, s => s
  | r + 1, p, s => rnR r (p + 1) (rnw s p)
theorem rn_c {p : Nat} (i : Nat) : cnt (vL (rn1 sg p)) i = cnt (vL sg) i ∧ cnt (vL (rn2 sg p)) i = cnt (vL sg) i ∧ cnt (vL (rn3 sg p)) i = cnt (vL sg) i ∧ cnt (vL (rn4 sg p)) i = cnt (vL sg) i ∧ cnt (vL (rnw sg p)) i = cnt (vL sg) i := by
  have a1 : cnt (vL (rn1 sg p)) i = cnt (vL sg) i := cnt_ne (by decide)
  have a2 : cnt (vL (rn2 sg p)) i = cnt (vL sg) i := (cnt_ne (by decide)).trans a1
  have a3 : cnt (vL (rn3 sg p)) i = cnt (vL sg) i := (cnt_ne (by decide)).trans a2
  have a4 : cnt (vL (rn4 sg p)) i = cnt (vL sg) i := (cnt_ne (by decide)).trans a3
  exact ⟨a1, a2, a3, a4, (cnt_ne (by decide)).trans a4⟩
theorem rnw_kp {p : Nat} : Kp (rnw sg p) sg := fun k h1 _ => by unfold rnw rn4 rn3 rn2 rn1; rw [xu2_ne h1, xu2_ne h1, xu2_ne h1, xu2_ne h1, xu2_ne h1]
theorem rnw_ok {p : Nat} (hG : Gv t (vL sg)) (hp : p < cnt (vL sg) 1) : Gv t (vL (rnw sg p)) := by
  obtain ⟨a1, a2, a3, a4⟩ := hG.2.2.2.2.2.2.1 p hp
  obtain ⟨kd, hkd, ek⟩ := isN_of a2 (by decide)
  have ek : sg 81 (7 * p + 1) = nI kd := ek
  have hr : 0 ≤ sg 81 (7 * p + 2) ∧ sg 81 (7 * p + 2) ≤ 99999 := a3
  have hg : 0 ≤ sg 83 kd ∧ sg 83 kd ≤ 9999 := hG.2.2.2.2.2.2.2.2.1 kd hkd
  rw [il, il, tl0, tl9] at hr
  rw [il, il, tl0, show (9999 : Int32).toInt = 9999 by decide] at hg
  have hv : 0 ≤ rnV sg p ∧ rnV sg p ≤ 99999 := by
    unfold rnV
    rw [il, il, imn_toInt, tl0, tl9, ek, cl]
    have h2 := halfI (a := sg 81 (7 * p + 2)) (by omega)
    have hl : ∀ l : Int32, 0 ≤ l.toInt → l.toInt ≤ 99999 → 0 ≤ (if (l + sg 83 kd).toInt < 99999 then (l + sg 83 kd).toInt else 99999) ∧ (if (l + sg 83 kd).toInt < 99999 then (l + sg 83 kd).toInt else 99999) ≤ 99999 := fun l h1 h3 => by
      rw [addI (by omega) (by omega)]
      split <;> omega
    refine hl _ ?_ ?_
    · split
      · rw [tl0]; omega
      · split <;> omega
    · split
      · rw [tl0]; omega
      · split <;> omega
  have g1 : Gv t (vL (rn1 sg p)) := hG.p (by decide) ⟨fun z => absurd z (by decide), fun z => absurd z (by decide), fun _ => hv, fun z => absurd z (by decide)⟩
  have g2 : Gv t (vL (rn2 sg p)) := by
    refine g1.p (by decide) ⟨fun z => absurd z (by decide), fun z => absurd z (by decide), fun z => absurd z (by decide), fun _ => ?_⟩
    exact (g1.2.2.2.2.2.2.1 p (by rw [(rn_c 1).1]; exact hp)).1
  have g3 : Gv t (vL (rn3 sg p)) := g2.p (by decide) ⟨fun z => absurd z (by decide), fun z => absurd z (by decide), fun z => absurd z (by decide), fun z => absurd z (by decide)⟩
  have g4 : Gv t (vL (rn4 sg p)) := g3.p (by decide) ⟨fun z => absurd z (by decide), fun z => absurd z (by decide), fun z => absurd z (by decide), fun z => absurd z (by decide)⟩
  exact g4.p (by decide) ⟨fun z => absurd z (by decide), fun z => absurd z (by decide), fun z => absurd z (by decide), fun z => absurd z (by decide)⟩
theorem rnR_ok {m : Nat} : ∀ (r p : Nat) (s : xIv), p + r = m → cnt (vL s) 1 = m → Gv t (vL s) → Gv t (vL (rnR r p s)) ∧ Kp (rnR r p s) s
  | 0, q, s, _, _, hG => ⟨hG, fun _ _ _ => rfl⟩
  | r + 1, p, s, h, hm, hG => by
    have g1 := rnw_ok (p := p) hG (by omega)
    obtain ⟨g2, k2⟩ := rnR_ok r (p + 1) (rnw s p) (by omega) ((rnw_kp.n 1).trans hm) g1
    exact ⟨g2, k2.trans rnw_kp⟩
set_option maxRecDepth 100000 in
theorem c_renew_l {m : Nat} (hm8 : m ≤ 8) : ∀ (r p : Nat) (x law : Int32) (iv sg : xIv) (o4 : Option Value), p + r = m → x = nI p → law = sg 79 6 → cnt (vL sg) 1 = m → CX iv lg sg tw → Gv t (vL sg) → (∀ iv', CX iv' lg (rnR r p sg) tw → refS iv' lg iv lg → Q none SH RF iv' lg) → Wp L xs m_People_renew 2 [some (.ref 8), some (.int law), some (.ref 18), some (.int x), o4] [] SH RF iv lg Q
  | 0, q, x, law, iv, sg, o4, h, hx, hl, hc, hC, hG, k => by
    obtain rfl : q = m := by omega
    subst hx
    have hn : iv 8 0 = nI q := by rw [hC.1.2.1.1, hG.2.1.1, hc]
    refine wgo [2] 100 ?_
    exact And.intro (fun _ => k iv hC refS.rfl) (fun z => absurd (by rw [hn]; exact il.mpr (Int.le_refl _)) z)
  | r + 1, p, x, law, iv, sg, o4, h, hx, hl, hc, hC, hG, k => by
    subst hx
    have hn : iv 8 0 = nI m := by rw [hC.1.2.1.1, hG.2.1.1, hc]
    have hp : p < cnt (vL sg) 1 := by omega
    have hvp : vp_in (nI p) 8 := vp_N (by omega)
    have ep : (nI p).toNatClampNeg = p := cl
    obtain ⟨kd, hkd, ek⟩ := isN_of (hG.2.2.2.2.2.2.1 p hp).2.1 (by decide)
    have ek : sg 81 (7 * p + 1) = nI kd := ek
    have key : ∀ (lf : Int32) (o4 : Option Value), lf = (if sg 79 6 = 0 then 0 else if sg 79 6 = 2 then sg 81 (7 * p + 2) / 2 else sg 81 (7 * p + 2)) → Wp L xs m_People_renew 24 [some (.ref 8), some (.int law), some (.ref 18), some (.int (nI p)), o4] [.int lf] SH RF iv lg Q := by
      intro lf o4 elf
      refine wgo [2] 100 ?_
      refine And.intro hvp ?_
      refine And.intro (by rw [ep, (hC.rd hp).2.1, ek]; exact vp_N (by omega)) ?_
      refine And.intro hvp ?_
      refine And.intro hvp ?_
      refine And.intro hvp ?_
      refine And.intro hvp ?_
      refine And.intro hvp ?_
      refine And.intro hvp ?_
      have ev : imn 99999 (lf + iv 18 (iv 10 (nI p).toNatClampNeg).toNatClampNeg) = rnV sg p := by
        rw [ep, (hC.rd hp).2.1, elf]
        unfold rnV
        rw [ek, cl, show iv 18 kd = sg 83 kd from hC.1.2.2.2.2.1 kd hkd]
      have C1 : CX (xu2 iv 11 (nI p).toNatClampNeg (imn 99999 (lf + iv 18 (iv 10 (nI p).toNatClampNeg).toNatClampNeg))) lg (rn1 sg p) tw := by
        rw [ev, ep]
        exact hC.p hp (f := 2) (by decide)
      obtain ⟨a1, a2, a3, a4, a5⟩ := rn_c (sg := sg) (p := p) 1
      have R1 : refS (xu2 iv 11 (nI p).toNatClampNeg (imn 99999 (lf + iv 18 (iv 10 (nI p).toNatClampNeg).toNatClampNeg))) lg iv lg := refS.rfl.up (by decide)
      generalize xu2 iv 11 (nI p).toNatClampNeg (imn 99999 (lf + iv 18 (iv 10 (nI p).toNatClampNeg).toNatClampNeg)) = iv1 at C1 R1 ⊢
      have C2 : CX (xu2 iv1 12 (nI p).toNatClampNeg (iv1 9 (nI p).toNatClampNeg)) lg (rn2 sg p) tw := by
        rw [ep, (C1.rd (by omega)).1]
        exact C1.p (by omega) (f := 3) (by decide)
      have C5 : CX (xu2 (xu2 (xu2 (xu2 iv1 12 (nI p).toNatClampNeg (iv1 9 (nI p).toNatClampNeg)) 13 (nI p).toNatClampNeg 0) 14 (nI p).toNatClampNeg 0) 15 (nI p).toNatClampNeg 0) lg (rnw sg p) tw := by
        rw [ep] at C2 ⊢
        have C3 : CX (xu2 (xu2 iv1 12 p (iv1 9 p)) 13 p 0) lg (rn3 sg p) tw := C2.p (by omega) (f := 4) (by decide)
        have C4 : CX (xu2 (xu2 (xu2 iv1 12 p (iv1 9 p)) 13 p 0) 14 p 0) lg (rn4 sg p) tw := C3.p (by omega) (f := 5) (by decide)
        exact C4.p (by omega) (f := 6) (by decide)
      exact c_renew_l hm8 r (p + 1) _ _ _ (rnw sg p) _ (by omega) (nI_1 p) (hl.trans (by rw [rnw_kp 79 (by decide) (by decide)])) (a5.trans hc) C5 (rnw_ok hG hp) (fun iv' c1 c2 => k iv' c1 (c2.trans ((((R1.up (by decide)).up (by decide)).up (by decide)).up (by decide))))
    refine wgo [2, 24] 100 ?_
    refine And.intro (fun z => absurd (nI_lt (show p < m by omega) (by omega)) (by rw [hn] at z; exact lenl z)) (fun _ => ?_)
    refine And.intro (fun z => ?_) (fun z => ?_)
    · refine And.intro (fun z2 => ?_) (fun z2 => ?_)
      · refine And.intro hvp ?_
        exact key _ _ (by rw [ep, (hC.rd hp).2.2.1, ← hl, if_neg z, if_neg z2])
      · refine And.intro hvp ?_
        refine And.intro (by decide) ?_
        exact key _ _ (by rw [ep, (hC.rd hp).2.2.1, ← hl, if_neg z, if_pos (Decidable.not_not.mp z2)])
    · exact key _ _ (by rw [← hl, if_pos (Decidable.not_not.mp z)])
set_option maxRecDepth 100000 in
theorem m_renew_l {m : Nat} {A : Int32} (hm8 : m ≤ 8) : ∀ (r p : Nat) (x : Int32) (iv sg : xIv) (o3 o4 : Option Value), p + r = m → x = nI p → cnt (vL sg) 1 = m → MV iv lg sg tw → Gv t (vL sg) → (∀ iv', MV iv' lg (rnR r p sg) tw → clsS iv' lg iv lg → Q (some (.int A)) SH RF iv' lg) → Wp L xs m_Mo_month 78 [some (.ref 79), some (.int A), some (.int x), o3, o4] [] SH RF iv lg Q
  | 0, q, x, iv, sg, o3, o4, h, hx, hc, hC, hG, k => by
    obtain rfl : q = m := by omega
    subst hx
    have hn : iv 79 3 = nI q := by rw [hC.1.2.1]; exact hG.2.1.1.trans (by rw [hc])
    refine wgo [78] 100 ?_
    exact And.intro (fun _ => k iv hC clsS.rfl) (fun z => absurd (by rw [hn]; exact il.mpr (Int.le_refl _)) z)
  | r + 1, p, x, iv, sg, o3, o4, h, hx, hc, hC, hG, k => by
    subst hx
    have hn : iv 79 3 = nI m := by rw [hC.1.2.1]; exact hG.2.1.1.trans (by rw [hc])
    have hp : p < cnt (vL sg) 1 := by omega
    have e7 : ∀ c : Nat, (7 : Int32) * nI p + nI c = nI (7 * p + c) := fun c => by rw [ni7]; exact ni_a _ _
    have e70 : (7 : Int32) * nI p = nI (7 * p) := ni7 p
    have v7 : ∀ c : Nat, c < 7 → vp_in ((7 : Int32) * nI p + nI c) 56 := fun c hcc => by rw [e7]; exact vp_N (by omega)
    have k7 : ∀ c : Nat, c < 7 → ((7 : Int32) * nI p + nI c).toNatClampNeg = 7 * p + c := fun c hcc => by rw [e7, cl]
    have v70 : vp_in ((7 : Int32) * nI p) 56 := by rw [e70]; exact vp_N (by omega)
    have k70 : ((7 : Int32) * nI p).toNatClampNeg = 7 * p := by rw [e70, cl]
    obtain ⟨kd, hkd, ek⟩ := isN_of (hG.2.2.2.2.2.2.1 p hp).2.1 (by decide)
    have ek : sg 81 (7 * p + 1) = nI kd := ek
    have i1 : iv 81 ((7 : Int32) * nI p + nI 1).toNatClampNeg = nI kd := by rw [k7 1 (by decide), hC.2.1.2.1, ek]
    have i2 : iv 81 ((7 : Int32) * nI p + nI 2).toNatClampNeg = sg 81 (7 * p + 2) := by rw [k7 2 (by decide), hC.2.1.2.1]
    obtain ⟨a1, a2, a3, a4, a5⟩ := rn_c (sg := sg) (p := p) 1
    have key2 : ∀ (v : Int32) (o3 o4 : Option Value), v = rnV sg p → Wp L xs m_Mo_month 131 [some (.ref 79), some (.int A), some (.int (nI p)), o3, o4] [.int v, .int ((7 : Int32) * nI p + nI 2), .ref 81] SH RF iv lg Q := by
      intro v o3 o4 ev
      refine wgo [78] 100 ?_
      refine And.intro (v7 2 (by decide)) ?_
      refine And.intro v70 ?_
      refine And.intro (v7 3 (by decide)) ?_
      refine And.intro (v7 4 (by decide)) ?_
      refine And.intro (v7 5 (by decide)) ?_
      refine And.intro (v7 6 (by decide)) ?_
      have M1 : MV (xu2 iv 81 ((7 : Int32) * nI p + nI 2).toNatClampNeg v) lg (rn1 sg p) tw := by
        rw [ev, k7 2 (by decide)]
        exact hC.up _ _ _
      have R1 : clsS (xu2 iv 81 ((7 : Int32) * nI p + nI 2).toNatClampNeg v) lg iv lg := clsS.rfl.up (by decide)
      generalize xu2 iv 81 ((7 : Int32) * nI p + nI 2).toNatClampNeg v = iv1 at M1 R1 ⊢
      have M5 : MV (xu2 (xu2 (xu2 (xu2 iv1 81 ((7 : Int32) * nI p + nI 3).toNatClampNeg (iv1 81 ((7 : Int32) * nI p).toNatClampNeg)) 81 ((7 : Int32) * nI p + nI 4).toNatClampNeg 0) 81 ((7 : Int32) * nI p + nI 5).toNatClampNeg 0) 81 ((7 : Int32) * nI p + nI 6).toNatClampNeg 0) lg (rnw sg p) tw := by
        rw [k7 3 (by decide), k7 4 (by decide), k7 5 (by decide), k7 6 (by decide), k70, M1.2.1.2.1]
        exact (((M1.up _ _ _).up _ _ _).up _ _ _).up _ _ _
      exact m_renew_l hm8 r (p + 1) _ _ (rnw sg p) _ _ (by omega) (nI_1 p) (a5.trans hc) M5 (rnw_ok hG hp) (fun iv' c1 c2 => k iv' c1 (c2.trans ((((R1.up (by decide)).up (by decide)).up (by decide)).up (by decide))))
    have key : ∀ (lf : Int32) (o4 : Option Value), lf = (if sg 79 6 = 0 then 0 else if sg 79 6 = 2 then sg 81 (7 * p + 2) / 2 else sg 81 (7 * p + 2)) → Wp L xs m_Mo_month 116 [some (.ref 79), some (.int A), some (.int (nI p)), some (.int (sg 81 (7 * p + 2))), o4] [.int lf, .int (sg 83 kd)] SH RF iv lg Q := by
      intro lf o4 elf
      have ev : imn 99999 (sg 83 kd + lf) = rnV sg p := by
        rw [elf, Int32.add_comm]
        unfold rnV
        rw [ek, cl]
      refine wgo [78, 131] 100 ?_
      refine And.intro (fun z => ?_) (fun z => ?_)
      · refine key2 _ _ _ (Eq.trans ?_ ev)
        refine ie.mpr ?_
        rw [imn_toInt]
        rw [il] at z
        split <;> omega
      · refine key2 _ _ _ (Eq.trans ?_ ev)
        refine ie.mpr ?_
        rw [imn_toInt]
        rw [il] at z
        split <;> omega
    have elaw : iv 79 6 = sg 79 6 := hC.1.2.2.1
    have hlaw : sg 79 6 = 0 ∨ sg 79 6 = 1 ∨ sg 79 6 = 2 := by
      obtain ⟨l, hl, el⟩ := isN_of hG.2.2.2.1 (by decide)
      have el : sg 79 6 = nI l := el
      rw [el]
      match l, hl with
      | 0, _ => exact Or.inl rfl
      | 1, _ => exact Or.inr (Or.inl rfl)
      | 2, _ => exact Or.inr (Or.inr rfl)
    refine wgo [78, 116] 100 ?_
    refine And.intro (fun z => absurd (nI_lt (show p < m by omega) (by omega)) (by rw [hn] at z; exact lenl z)) (fun _ => ?_)
    refine And.intro (v7 2 (by decide)) ?_
    refine And.intro (v7 1 (by decide)) ?_
    refine And.intro (show vp_in (iv 81 ((7 : Int32) * nI p + nI 1).toNatClampNeg) 4 by rw [i1]; exact vp_N (by omega)) ?_
    rw [show iv 81 ((7 : Int32) * nI p + 1).toNatClampNeg = nI kd from i1, show iv 81 ((7 : Int32) * nI p + 2).toNatClampNeg = sg 81 (7 * p + 2) from i2, show iv 83 (nI kd).toNatClampNeg = sg 83 kd by rw [cl, hC.2.1.2.2.2.1]]
    refine And.intro (fun z => ?_) (fun z => ?_)
    · rw [elaw] at z
      refine And.intro (fun z2 => ?_) (fun z2 => ?_)
      · rw [elaw] at z2
        refine And.intro (by decide) ?_
        exact key _ _ (by rw [if_neg z, if_pos (by rcases hlaw with h | h | h; exact absurd h z; exact absurd h z2; exact h)])
      · rw [elaw] at z2
        exact key _ _ (by rw [if_neg z, if_neg (by rw [Decidable.not_not.mp z2]; decide)])
    · rw [elaw] at z
      exact key _ _ (by rw [if_pos (Decidable.not_not.mp z)])
def opMon (sg : xIv) : Int32 × xIv := ((stO (cnt (vL sg) 1) (cnt (vL sg) 1) 0 (sg, 0)).2, rnR (cnt (vL sg) 1) 0 (stO (cnt (vL sg) 1) (cnt (vL sg) 1) 0 (sg, 0)).1)
set_option maxRecDepth 100000 in
theorem c_month (ht : t ≤ 512) (hC : CX iv lg sg tw) (hG : GG t sg) (k : ∀ iv', CX iv' lg (opMon sg).2 tw → refS iv' lg iv lg → Q (some (.int (opMon sg).1)) SH RF iv' lg) : Sp L xs m_SR_month [.ref 0] SH RF iv lg Q := by
  refine sgo [] 100 ?_
  obtain ⟨g1, k1⟩ := stO_ok (m := cnt (vL sg) 1) ht (cnt (vL sg) 1) 0 (sg, 0) (by omega) rfl hG.1
  refine c_settle ht hC hG.1 (fun iv1 C1 R1 => ?_)
  refine sgo [2] 100 ?_
  exact c_renew_l hG.1.2.1.2 _ 0 _ _ _ _ _ (Nat.zero_add _) rfl C1.1.2.2.2.2.2.1 (k1.n 1) C1 g1 (fun iv2 c1 c2 => k iv2 c1 (c2.trans R1))
set_option maxRecDepth 100000 in
theorem m_month (ht : t ≤ 512) (hM : MV iv lg sg tw) (hG : GG t sg) (k : ∀ iv', MV iv' lg (opMon sg).2 tw → clsS iv' lg iv lg → Q (some (.int (opMon sg).1)) SH RF iv' lg) : Sp L xs m_Mo_month [.ref 79] SH RF iv lg Q := by
  refine sgo [4] 100 ?_
  obtain ⟨g1, k1⟩ := stO_ok (m := cnt (vL sg) 1) ht (cnt (vL sg) 1) 0 (sg, 0) (by omega) rfl hG.1
  refine m_set_out ht hG.1.2.1.2 _ 0 _ _ 0 iv sg _ _ (Nat.zero_add _) rfl rfl rfl hM hG.1 (fun iv1 o3 o4 M1 R1 => ?_)
  exact m_renew_l hG.1.2.1.2 _ 0 _ _ _ _ _ (Nat.zero_add _) rfl (k1.n 1) M1 g1 (fun iv2 c1 c2 => k iv2 c1 (c2.trans R1))
theorem e_month : EQ m_SR_month m_Mo_month [] := by
  refine EQ.of (fun sg tw => ((opMon sg).1, (opMon sg).2, tw)) (fun hC hG ht k => c_month (by omega) hC hG (fun iv' h1 h2 => k iv' _ h1 h2)) (fun hM hG ht k => m_month (by omega) hM hG (fun iv' h1 h2 => k iv' _ h1 h2)) (fun {t sg tw} hG ht => ?_)
  obtain ⟨g1, k1⟩ := stO_ok (m := cnt (vL sg) 1) (show t ≤ 512 by omega) (cnt (vL sg) 1) 0 (sg, 0) (by omega) rfl hG.1
  obtain ⟨g2, k2⟩ := rnR_ok (m := cnt (vL sg) 1) (cnt (vL sg) 1) 0 (stO (cnt (vL sg) 1) (cnt (vL sg) 1) 0 (sg, 0)).1 (by omega) (k1.n 1) g1
  have kk := k2.trans k1
  exact GG.kept (sg' := (opMon sg).2) hG (g2.mono (Nat.le_succ t)) (congrFun (kk 79 (by decide) (by decide)) 24) (kk 96 (by decide) (by decide)) (kk 97 (by decide) (by decide))
end MONTH
