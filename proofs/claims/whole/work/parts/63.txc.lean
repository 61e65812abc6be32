-- ===== texts: the class =====
def TC (iv : xIv) (T : Nat → Nat) (n : Nat) : Prop := iv 53 1 = nI n ∧ n ≤ 160 ∧ ∀ j, j < n → iv 54 j = nI (T j) ∧ T j ≤ 126
def R3 (iv' iv : xIv) : Prop := (∀ k, k ≠ 53 → iv' k = iv k) ∧ ∀ j, j ≠ 2 → iv' 53 j = iv 53 j
def R5 (iv' iv : xIv) : Prop := (∀ k, k ≠ 53 → (k < 55 ∨ 69 ≤ k) → iv' k = iv k) ∧ ∀ j, j ≠ 2 → iv' 53 j = iv 53 j
theorem R3.rfl {iv : xIv} : R3 iv iv := ⟨fun _ _ => Eq.refl _, fun _ _ => Eq.refl _⟩
theorem R3.trans {a b c : xIv} (h : R3 a b) (h2 : R3 b c) : R3 a c := ⟨fun k hk => (h.1 k hk).trans (h2.1 k hk), fun j hj => (h.2 j hj).trans (h2.2 j hj)⟩
theorem R3.up {iv iv' : xIv} (h : R3 iv' iv) {x : Int32} : R3 (xu2 iv' 53 2 x) iv := ⟨fun k hk => (xu2_ne hk).trans (h.1 k hk), fun j hj => (xu2_j hj).trans (h.2 j hj)⟩
theorem R3.R5 {iv iv' : xIv} (h : R3 iv' iv) : R5 iv' iv := ⟨fun k hk _ => h.1 k hk, h.2⟩
theorem R5.trans {a b c : xIv} (h : R5 a b) (h2 : R5 b c) : R5 a c := ⟨fun k hk hk2 => (h.1 k hk hk2).trans (h2.1 k hk hk2), fun j hj => (h.2 j hj).trans (h2.2 j hj)⟩
section TXC
variable {L : Nat} {xs : Nat → Int32} {iv : xIv} {lg : xLg} {Q : xQ} {T : Nat → Nat} {n : Nat}
theorem TC.cg {iv' : xIv} (h : TC iv T n) (hr : R5 iv' iv) : TC iv' T n := by
  unfold TC at h ⊢
  rw [hr.1 54 (by decide) (by decide), hr.2 1 (by decide)]
  exact h
set_option maxRecDepth 100000 in
theorem s_look_l : ∀ (r p : Nat) (iv : xIv), TC iv T n → iv 53 2 = nI p → p ≤ n → n < p + r → (∀ iv', iv' 53 2 = nI (skF T n r p) → R3 iv' iv → Q (some (.int (lkv T n (skF T n r p)))) SH RF iv' lg) → Wp L xs m_Tape_look 0 [some (.ref 53)] [] SH RF iv lg Q
  | 0, p, iv, hT, h2, hp, hr, k => by omega
  | r + 1, p, iv, hT, h2, hp, hr, k => by
    have h160 := hT.2.1
    by_cases c : p < n
    · have hlt : iv 53 2 < iv 53 1 := by rw [h2, hT.1]; exact nI_lt c (by omega)
      have vp : vp_in (iv 53 2) 160 := by rw [h2]; exact vp_N (by omega)
      obtain ⟨t1, t2⟩ := hT.2.2 p c
      have et : iv 54 (iv 53 2).toNatClampNeg = nI (T p) := by rw [h2, cl]; exact t1
      by_cases c2 : T p = 32
      · rw [show skF T n (r + 1) p = skF T n r (p + 1) from if_pos ⟨c, c2⟩] at k
        have nx : Wp L xs m_Tape_look 0 [some (.ref 53)] [] SH RF (xu2 iv 53 2 (iv 53 2 + 1)) lg Q := by
          rw [h2, nI_1]
          exact s_look_l r (p + 1) _ (hT.cg R3.rfl.up.R5) xu2_s (by omega) (by omega) (fun iv' d1 d2 => k iv' d1 (d2.trans R3.rfl.up))
        clear k
        refine wgo [0] 100 ?_
        refine And.intro (fun z => absurd hlt (lenl z)) (fun _ => ?_)
        refine And.intro vp ?_
        refine And.intro (fun z => absurd (by rw [et, c2]; rfl) z) (fun _ => ?_)
        exact nx
      · have e := skF_stop (T := T) (n := n) (p := p) (fun z => c2 z.2) (r + 1)
        rw [e] at k
        have kk := k iv h2 R3.rfl
        have el : lkv T n p = nI (T p) := if_pos c
        rw [el] at kk
        clear k
        refine wgo [0] 100 ?_
        refine And.intro (fun z => absurd hlt (lenl z)) (fun _ => ?_)
        refine And.intro vp ?_
        refine And.intro (fun _ => ?_) (fun z => absurd (fun w => c2 ((nI_eq (b := 32) (by omega) (by decide)).mp (et.symm.trans w))) z)
        refine And.intro (fun z => absurd hlt (lenl z)) (fun _ => ?_)
        refine And.intro vp ?_
        exact qv kk et
    · have e := skF_stop (T := T) (n := n) (p := p) (fun z => c z.1) (r + 1)
      rw [e] at k
      have kk := k iv h2 R3.rfl
      have el : lkv T n p = -1 := if_neg c
      rw [el] at kk
      have hge : iv 53 1 ≤ iv 53 2 := by rw [h2, hT.1]; exact nI_le (by omega) (by omega)
      clear k
      refine wgo [0] 100 ?_
      refine And.intro (fun _ => ?_) (fun z => absurd hge z)
      refine And.intro (fun _ => ?_) (fun z => absurd hge z)
      exact kk
set_option maxRecDepth 100000 in
theorem s_look {p : Nat} (hT : TC iv T n) (h2 : iv 53 2 = nI p) (hp : p ≤ n) (k : ∀ iv', iv' 53 2 = nI (sk T n p) → R3 iv' iv → Q (some (.int (lkv T n (sk T n p)))) SH RF iv' lg) : Sp L xs m_Tape_look [.ref 53] SH RF iv lg Q := by
  have h160 := hT.2.1
  have nx := s_look_l (L := L) (xs := xs) 161 p iv hT h2 hp (by omega) k
  clear k
  refine sin ?_
  exact nx
theorem lkv_eq (hT : TC iv T n) {q c : Nat} (hc : c < 200) : lkv T n q = nI c ↔ q < n ∧ T q = c := by
  unfold lkv
  by_cases h : q < n
  · rw [if_pos h]
    have := (hT.2.2 q h).2
    rw [nI_eq (by omega) (by omega)]
    exact ⟨fun z => ⟨h, z⟩, fun z => z.2⟩
  · rw [if_neg h]
    exact ⟨fun z => absurd z.symm (nI_m1 (by omega)), fun z => absurd z.1 h⟩
set_option maxRecDepth 100000 in
theorem s_take {c p : Nat} (hc : c < 200) (hT : TC iv T n) (h2 : iv 53 2 = nI p) (hp : p ≤ n) (kt : sk T n p < n ∧ T (sk T n p) = c → ∀ iv', iv' 53 2 = nI (sk T n p + 1) → R3 iv' iv → Q (some (.int 1)) SH RF iv' lg) (kf : ¬ (sk T n p < n ∧ T (sk T n p) = c) → ∀ iv', iv' 53 2 = nI (sk T n p) → R3 iv' iv → Q (some (.int 0)) SH RF iv' lg) : Sp L xs m_Tape_take [.ref 53, .int (nI c)] SH RF iv lg Q := by
  have hl := lkv_eq hT (q := sk T n p) hc
  refine sgo [] 100 ?_
  refine s_look hT h2 hp (fun iv' d1 d2 => ?_)
  refine And.intro (fun z => ?_) (fun z => ?_)
  · refine And.intro (Or.inr rfl) ?_
    refine kt (hl.mp z) _ ?_ d2.up
    rw [xu2_s, d1, nI_1]
  · exact And.intro (Or.inl rfl) (kf (fun w => z (hl.mpr w)) iv' d1 d2)
set_option maxRecDepth 100000 in
theorem s_readPlace {no p : Nat} {NO : Int32} (hno : ∀ x, x < 12 → (nI x = NO ↔ x = no)) (hT : TC iv T n) (h2 : iv 53 2 = nI p) (hp : p ≤ n) (kt : ∀ x q, rdP T n no p = (some x, q) → ∀ iv', iv' 53 2 = nI q → R3 iv' iv → Q (some (.int (nI x))) SH RF iv' lg) (kf : ∀ q, rdP T n no p = (none, q) → ∀ iv', iv' 53 2 = nI q → R3 iv' iv → Q (some (.int (-1))) SH RF iv' lg) : Sp L xs m_Tape_readPlace [.ref 53, .int NO] SH RF iv lg Q := by
  have kf' : ¬ (sk T n p < n ∧ (97 ≤ T (sk T n p) ∧ T (sk T n p) ≤ 108) ∧ T (sk T n p) - 97 ≠ no) → ∀ iv', iv' 53 2 = nI (sk T n p) → R3 iv' iv → Q (some (.int (-1))) SH RF iv' lg := fun h => kf _ (if_neg h)
  have kt' : sk T n p < n ∧ (97 ≤ T (sk T n p) ∧ T (sk T n p) ≤ 108) ∧ T (sk T n p) - 97 ≠ no → ∀ iv', iv' 53 2 = nI (sk T n p + 1) → R3 iv' iv → Q (some (.int (nI (T (sk T n p) - 97)))) SH RF iv' lg := fun h => kt _ _ (if_pos h)
  clear kf kt
  refine sgo [] 100 ?_
  refine s_look hT h2 hp (fun iv' d1 d2 => ?_)
  by_cases h : sk T n p < n
  · have el : lkv T n (sk T n p) = nI (T (sk T n p)) := if_pos h
    have ht := (hT.2.2 _ h).2
    rw [el]
    refine And.intro (fun z => ?_) (fun z => ?_)
    · exact kf' (fun w => by have := (nI_ltI (b := 97) (by omega) (by decide)).mp z; omega) iv' d1 d2
    · have z' : 97 ≤ T (sk T n p) := Nat.le_of_not_lt (fun w => z (nI_lt (b := 97) w (by decide)))
      refine And.intro (fun z2 => ?_) (fun z2 => ?_)
      · exact kf' (fun w => by have := (nI_ltI (a := 108) (by decide) (by omega)).mp z2; omega) iv' d1 d2
      · have z2' : T (sk T n p) ≤ 108 := Nat.le_of_not_lt (fun w => z2 (nI_lt (a := 108) w (by omega)))
        have es : nI (T (sk T n p)) - 97 = nI (T (sk T n p) - 97) := nI_subN (b := 97) z' (by omega)
        refine And.intro (fun z3 => ?_) (fun z3 => ?_)
        · rw [es] at z3
          refine qv (kt' ⟨h, ⟨z', z2'⟩, fun w => z3 ((hno _ (by omega)).mpr w)⟩ _ ?_ d2.up) es
          rw [xu2_s, d1, nI_1]
        · refine kf' (fun w => w.2.2 ?_) iv' d1 d2
          have := Decidable.not_not.mp z3
          rw [es] at this
          exact (hno _ (by omega)).mp this
  · have el : lkv T n (sk T n p) = -1 := if_neg h
    rw [el]
    refine And.intro (fun _ => ?_) (fun z => absurd (by decide) z)
    exact kf' (fun w => h w.1) iv' d1 d2
set_option maxRecDepth 100000 in
theorem s_readDigit {p : Nat} (hT : TC iv T n) (h2 : iv 53 2 = nI p) (hp : p ≤ n) (kt : ∀ x q, rdD T n p = (some x, q) → ∀ iv', iv' 53 2 = nI q → R3 iv' iv → Q (some (.int (nI x))) SH RF iv' lg) (kf : ∀ q, rdD T n p = (none, q) → ∀ iv', iv' 53 2 = nI q → R3 iv' iv → Q (some (.int (-1))) SH RF iv' lg) : Sp L xs m_Tape_readDigit [.ref 53] SH RF iv lg Q := by
  have kf' : ¬ (sk T n p < n ∧ 48 ≤ T (sk T n p) ∧ T (sk T n p) ≤ 57) → ∀ iv', iv' 53 2 = nI (sk T n p) → R3 iv' iv → Q (some (.int (-1))) SH RF iv' lg := fun h => kf _ (if_neg h)
  have kt' : sk T n p < n ∧ 48 ≤ T (sk T n p) ∧ T (sk T n p) ≤ 57 → ∀ iv', iv' 53 2 = nI (sk T n p + 1) → R3 iv' iv → Q (some (.int (nI (T (sk T n p) - 48)))) SH RF iv' lg := fun h => kt _ _ (if_pos h)
  clear kf kt
  refine sgo [] 100 ?_
  refine s_look hT h2 hp (fun iv' d1 d2 => ?_)
  by_cases h : sk T n p < n
  · have el : lkv T n (sk T n p) = nI (T (sk T n p)) := if_pos h
    have ht := (hT.2.2 _ h).2
    rw [el]
    refine And.intro (fun z => ?_) (fun z => ?_)
    · exact kf' (fun w => by have := (nI_ltI (b := 48) (by omega) (by decide)).mp z; omega) iv' d1 d2
    · have z' : 48 ≤ T (sk T n p) := Nat.le_of_not_lt (fun w => z (nI_lt (b := 48) w (by decide)))
      refine And.intro (fun z2 => ?_) (fun z2 => ?_)
      · have z2' : T (sk T n p) ≤ 57 := (nI_leI (b := 57) (by omega) (by decide)).mp z2
        have es : nI (T (sk T n p)) - 48 = nI (T (sk T n p) - 48) := nI_subN (b := 48) z' (by omega)
        refine qv (kt' ⟨h, z', z2'⟩ _ ?_ d2.up) es
        rw [xu2_s, d1, nI_1]
      · exact kf' (fun w => z2 (nI_le (b := 57) w.2.2 (by decide))) iv' d1 d2
  · have el : lkv T n (sk T n p) = -1 := if_neg h
    rw [el]
    refine And.intro (fun _ => ?_) (fun z => absurd (by decide) z)
    exact kf' (fun w => h w.1) iv' d1 d2
theorem mul10 (m : Nat) : nI m * (10 : Int32) = nI (10 * m) := by rw [Nat.mul_comm]; exact pk_mul m 10
set_option maxRecDepth 100000 in
theorem s_num_l {hi : Nat} {LO ST : Int32} (hhi : hi ≤ 99999) : ∀ (r p v : Nat) (V : Int32) (iv : xIv), TC iv T n → iv 53 2 = nI p → p ≤ n → n < p + r → V = nI (min (hi + 1) v) → (∀ iv', iv' 53 2 = nI (nmF T n r p v).1 → R3 iv' iv → Wp L xs m_Tape_readNumber 54 [some (.ref 53), some (.int LO), some (.int (nI hi)), some (.int (nI (min (hi + 1) (nmF T n r p v).2))), some (.int ST)] [] SH RF iv' lg Q) → Wp L xs m_Tape_readNumber 12 [some (.ref 53), some (.int LO), some (.int (nI hi)), some (.int V), some (.int ST)] [] SH RF iv lg Q
  | 0, p, v, V, iv, hT, h2, hp, hr, hV, k => by omega
  | r + 1, p, v, V, iv, hT, h2, hp, hr, hV, k => by
    subst hV
    have h160 := hT.2.1
    by_cases c : p < n
    · have hlt : iv 53 2 < iv 53 1 := by rw [h2, hT.1]; exact nI_lt c (by omega)
      have vp : vp_in (iv 53 2) 160 := by rw [h2]; exact vp_N (by omega)
      obtain ⟨t1, t2⟩ := hT.2.2 p c
      have et : iv 54 (iv 53 2).toNatClampNeg = nI (T p) := by rw [h2, cl]; exact t1
      by_cases c2 : 48 ≤ T p ∧ T p ≤ 57
      · rw [show nmF T n (r + 1) p v = nmF T n r (p + 1) (10 * v + (T p - 48)) from if_pos ⟨c, c2⟩] at k
        have ev : imn (nI hi + 1) (nI (min (hi + 1) v) * 10 + iv 54 (iv 53 2).toNatClampNeg - 48) = nI (min (hi + 1) (10 * v + (T p - 48))) := by
          rw [et, mul10, ni_a, show nI (10 * min (hi + 1) v + T p) - 48 = nI (10 * min (hi + 1) v + T p - 48) from nI_subN (b := 48) (by omega) (by omega), nI_1, imn_nI (by omega) (by omega)]
          congr 1
          omega
        have nx : ∀ V : Int32, V = nI (min (hi + 1) (10 * v + (T p - 48))) → Wp L xs m_Tape_readNumber 12 [some (.ref 53), some (.int LO), some (.int (nI hi)), some (.int V), some (.int ST)] [] SH RF (xu2 iv 53 2 (iv 53 2 + 1)) lg Q := fun V hV => by
          rw [h2, nI_1]
          exact s_num_l hhi r (p + 1) _ V _ (hT.cg R3.rfl.up.R5) xu2_s (by omega) (by omega) hV (fun iv' d1 d2 => k iv' d1 (d2.trans R3.rfl.up))
        have n2 := nx _ ev
        have g1 : ¬ iv 54 (iv 53 2).toNatClampNeg < 48 := by rw [et]; exact fun z => by have := (nI_ltI (b := 48) (by omega) (by decide)).mp z; omega
        have g2 : ¬ (57 : Int32) < iv 54 (iv 53 2).toNatClampNeg := by rw [et]; exact fun z => by have := (nI_ltI (a := 57) (by decide) (by omega)).mp z; omega
        clear k nx ev
        refine wgo [12, 54] 100 ?_
        refine And.intro (fun z => absurd hlt (lenl z)) (fun _ => ?_)
        refine And.intro vp ?_
        refine And.intro (fun z => absurd z g1) (fun _ => ?_)
        refine And.intro vp ?_
        refine And.intro (fun z => absurd z g2) (fun _ => ?_)
        refine And.intro vp ?_
        exact n2
      · rw [show nmF T n (r + 1) p v = (p, v) from if_neg (fun z => c2 z.2)] at k
        have kk := k iv h2 R3.rfl
        clear k
        refine wgo [12, 54] 100 ?_
        refine And.intro (fun z => absurd hlt (lenl z)) (fun _ => ?_)
        refine And.intro vp ?_
        refine And.intro (fun _ => kk) (fun z => ?_)
        refine And.intro vp ?_
        refine And.intro (fun _ => kk) (fun z2 => ?_)
        rw [et] at z z2
        refine absurd ⟨?_, ?_⟩ c2
        · exact Nat.le_of_not_lt (fun w => z (nI_lt (b := 48) w (by decide)))
        · exact Nat.le_of_not_lt (fun w => z2 (nI_lt (a := 57) w (by omega)))
    · rw [show nmF T n (r + 1) p v = (p, v) from if_neg (fun z => c z.1)] at k
      have kk := k iv h2 R3.rfl
      have hge : iv 53 1 ≤ iv 53 2 := by rw [h2, hT.1]; exact nI_le (by omega) (by omega)
      clear k
      refine wgo [12, 54] 100 ?_
      exact And.intro (fun _ => kk) (fun z => absurd hge z)
set_option maxRecDepth 100000 in
theorem s_readNumber {lo hi p : Nat} (hlo : lo ≤ hi) (h9 : 9 ≤ hi) (hhi : hi ≤ 99999) (hT : TC iv T n) (h2 : iv 53 2 = nI p) (hp : p ≤ n) (kt : ∀ x q, rdN T n lo hi p = (some x, q) → ∀ iv', iv' 53 2 = nI q → R3 iv' iv → Q (some (.int (nI x))) SH RF iv' lg) (kf : ∀ q, rdN T n lo hi p = (none, q) → ∀ iv', iv' 53 2 = nI q → R3 iv' iv → Q (some (.int (-1))) SH RF iv' lg) : Sp L xs m_Tape_readNumber [.ref 53, .int (nI lo), .int (nI hi)] SH RF iv lg Q := by
  have h160 := hT.2.1
  have hs := sk_le (T := T) h160 hp
  refine sgo [12] 100 ?_
  refine s_readDigit hT h2 hp (fun x q e iv1 d1 d2 => ?_) (fun q e iv1 d1 d2 => ?_)
  · have hx := (rdD_is (T := T) h160 hp).2 x q e
    have hcond : sk T n p < n ∧ 48 ≤ T (sk T n p) ∧ T (sk T n p) ≤ 57 := by
      by_cases c : sk T n p < n ∧ 48 ≤ T (sk T n p) ∧ T (sk T n p) ≤ 57
      · exact c
      · unfold rdD at e; rw [if_neg c] at e; cases e
    have eq : x = T (sk T n p) - 48 ∧ q = sk T n p + 1 := by
      unfold rdD at e
      rw [if_pos hcond] at e
      cases e
      exact ⟨rfl, rfl⟩
    obtain ⟨ex, eq⟩ := eq
    have hnn : ¬ nI x < 0 := lenl (nI_pos' (by omega))
    have en : nmF T n 161 (sk T n p) 0 = nmF T n 160 q x := by
      rw [show nmF T n 161 (sk T n p) 0 = nmF T n 160 (sk T n p + 1) (10 * 0 + (T (sk T n p) - 48)) from if_pos hcond, eq, ex]
      congr 1
      omega
    have eST : iv1 53 2 - 1 = nI (sk T n p) := by rw [d1, eq]; exact nI_subN (b := 1) (by omega) (by omega)
    have T1 := hT.cg d2.R5
    have at54 : ∀ iv' ST, ST = nI (sk T n p) → iv' 53 2 = nI (nmF T n 160 q x).1 → R3 iv' iv1 → Wp L xs m_Tape_readNumber 54 [some (.ref 53), some (.int (nI lo)), some (.int (nI hi)), some (.int (nI (min (hi + 1) (nmF T n 160 q x).2))), some (.int ST)] [] SH RF iv' lg Q := fun iv2 ST hST g1 g2 => by
      subst hST
      have bb : ((nI lo ≤ nI (min (hi + 1) (nmF T n 160 q x).2) ∧ nI (min (hi + 1) (nmF T n 160 q x).2) ≤ nI hi)) ↔ (lo ≤ (nmF T n 160 q x).2 ∧ (nmF T n 160 q x).2 ≤ hi) := by
        rw [nI_leI (by omega) (by omega), nI_leI (by omega) (by omega)]
        omega
      rw [← en] at g1 bb ⊢
      by_cases c2 : lo ≤ (nmF T n 161 (sk T n p) 0).2 ∧ (nmF T n 161 (sk T n p) 0).2 ≤ hi
      · have kk := kt _ _ ((if_pos hcond).trans (if_pos c2)) iv2 g1 (g2.trans d2)
        have em : min (hi + 1) (nmF T n 161 (sk T n p) 0).2 = (nmF T n 161 (sk T n p) 0).2 := by omega
        clear kt kf
        refine wgo [] 100 ?_
        refine s_within (fun h => ?_) (fun h => absurd (bb.mpr c2) h)
        refine c1 ?_
        exact qv kk (by rw [em])
      · have kk := kf _ ((if_pos hcond).trans (if_neg c2)) (xu2 iv2 53 2 (nI (sk T n p))) xu2_s ((g2.trans d2).up)
        clear kt kf
        refine wgo [] 100 ?_
        refine s_within (fun h => absurd (bb.mp h) c2) (fun h => ?_)
        refine c0 ?_
        exact kk
    have nx := fun ST hST => s_num_l (L := L) (xs := xs) (Q := Q) (lg := lg) (LO := nI lo) (ST := ST) hhi 160 q x (nI x) iv1 T1 d1 hx.1 (by omega) (by rw [Nat.min_eq_right (by omega)]) (fun iv' g1 g2 => at54 iv' ST hST g1 g2)
    have n2 := nx _ eST
    clear kt kf at54 nx
    refine And.intro (fun _ => ?_) (fun z => absurd (nlt hnn) z)
    exact n2
  · have hcond : ¬ (sk T n p < n ∧ 48 ≤ T (sk T n p) ∧ T (sk T n p) ≤ 57) := fun c => by
      unfold rdD at e; rw [if_pos c] at e; cases e
    have eq : q = sk T n p := by
      unfold rdD at e
      rw [if_neg hcond] at e
      cases e
      rfl
    have kk := kf _ (if_neg hcond) iv1 (by rw [d1, eq]) d2
    clear kt kf
    refine And.intro (fun z => absurd z (by decide)) (fun _ => ?_)
    exact kk
end TXC
