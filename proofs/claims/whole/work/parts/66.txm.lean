-- ===== texts: the reference =====
def TM (iv : xIv) (T : Nat → Nat) (n : Nat) : Prop := iv 79 12 = nI n ∧ n ≤ 160 ∧ ∀ j, j < n → iv 86 j = nI (T j) ∧ T j ≤ 126
def S3 (iv' iv : xIv) : Prop := (∀ k, k ≠ 79 → iv' k = iv k) ∧ ∀ j, j ≠ 13 → iv' 79 j = iv 79 j
def S5 (iv' iv : xIv) : Prop := (∀ k, k ≠ 79 → k ≠ 87 → iv' k = iv k) ∧ ∀ j, j ≠ 13 → j ≠ 14 → iv' 79 j = iv 79 j
theorem S3.rfl {iv : xIv} : S3 iv iv := ⟨fun _ _ => Eq.refl _, fun _ _ => Eq.refl _⟩
theorem S5.rfl {iv : xIv} : S5 iv iv := ⟨fun _ _ _ => Eq.refl _, fun _ _ _ => Eq.refl _⟩
theorem S3.trans {a b c : xIv} (h : S3 a b) (h2 : S3 b c) : S3 a c := ⟨fun k hk => (h.1 k hk).trans (h2.1 k hk), fun j hj => (h.2 j hj).trans (h2.2 j hj)⟩
theorem S3.up {iv iv' : xIv} (h : S3 iv' iv) {x : Int32} : S3 (xu2 iv' 79 13 x) iv := ⟨fun k hk => (xu2_ne hk).trans (h.1 k hk), fun j hj => (xu2_j hj).trans (h.2 j hj)⟩
theorem S3.S5 {iv iv' : xIv} (h : S3 iv' iv) : S5 iv' iv := ⟨fun k hk _ => h.1 k hk, fun j hj _ => h.2 j hj⟩
theorem S5.trans {a b c : xIv} (h : S5 a b) (h2 : S5 b c) : S5 a c := ⟨fun k hk hk2 => (h.1 k hk hk2).trans (h2.1 k hk hk2), fun j hj hj2 => (h.2 j hj hj2).trans (h2.2 j hj hj2)⟩
theorem S5.u87 {iv iv' : xIv} (h : S5 iv' iv) {j : Nat} {x : Int32} : S5 (xu2 iv' 87 j x) iv := ⟨fun k hk hk2 => (xu2_ne hk2).trans (h.1 k hk hk2), fun j hj hj2 => (congrFun (xu2_ne (by decide)) j).trans (h.2 j hj hj2)⟩
theorem S5.u13 {iv iv' : xIv} (h : S5 iv' iv) {x : Int32} : S5 (xu2 iv' 79 13 x) iv := ⟨fun k hk hk2 => (xu2_ne hk).trans (h.1 k hk hk2), fun j hj hj2 => (xu2_j hj).trans (h.2 j hj hj2)⟩
theorem S5.u14 {iv iv' : xIv} (h : S5 iv' iv) {x : Int32} : S5 (xu2 iv' 79 14 x) iv := ⟨fun k hk hk2 => (xu2_ne hk).trans (h.1 k hk hk2), fun j hj hj2 => (xu2_j hj2).trans (h.2 j hj hj2)⟩
section TXM
variable {L : Nat} {xs : Nat → Int32} {iv : xIv} {lg : xLg} {Q : xQ} {T : Nat → Nat} {n : Nat}
theorem TM.cg {iv' : xIv} (h : TM iv T n) (hr : S5 iv' iv) : TM iv' T n := by
  unfold TM at h ⊢
  rw [hr.1 86 (by decide) (by decide), hr.2 12 (by decide) (by decide)]
  exact h
set_option maxRecDepth 100000 in
theorem m_next_l : ∀ (r p : Nat) (iv : xIv), TM iv T n → iv 79 13 = nI p → p ≤ n → n < p + r → (∀ iv', iv' 79 13 = nI (skF T n r p) → S3 iv' iv → Q (some (.int (lkv T n (skF T n r p)))) SH RF iv' lg) → Wp L xs m_Mo_nextByte 0 [some (.ref 79)] [] SH RF iv lg Q
  | 0, p, iv, hT, h2, hp, hr, k => by omega
  | r + 1, p, iv, hT, h2, hp, hr, k => by
    have h160 := hT.2.1
    by_cases c : p < n
    · have hlt : iv 79 13 < iv 79 12 := by rw [h2, hT.1]; exact nI_lt c (by omega)
      have vp : vp_in (iv 79 13) 160 := by rw [h2]; exact vp_N (by omega)
      obtain ⟨t1, t2⟩ := hT.2.2 p c
      have et : iv 86 (iv 79 13).toNatClampNeg = nI (T p) := by rw [h2, cl]; exact t1
      by_cases c2 : T p = 32
      · rw [show skF T n (r + 1) p = skF T n r (p + 1) from if_pos ⟨c, c2⟩] at k
        have nx : Wp L xs m_Mo_nextByte 0 [some (.ref 79)] [] SH RF (xu2 iv 79 13 (iv 79 13 + 1)) lg Q := by
          rw [h2, nI_1]
          exact m_next_l r (p + 1) _ (hT.cg S3.rfl.up.S5) xu2_s (by omega) (by omega) (fun iv' d1 d2 => k iv' d1 (d2.trans S3.rfl.up))
        clear k
        refine wgo [0] 100 ?_
        refine And.intro (fun z => absurd hlt (lenl z)) (fun _ => ?_)
        refine And.intro vp ?_
        refine And.intro (fun z => absurd (by rw [et, c2]; rfl) z) (fun _ => ?_)
        exact nx
      · have e := skF_stop (T := T) (n := n) (p := p) (fun z => c2 z.2) (r + 1)
        rw [e] at k
        have kk := k iv h2 S3.rfl
        have el : lkv T n p = nI (T p) := if_pos c
        rw [el] at kk
        clear k
        refine wgo [0] 100 ?_
        refine And.intro (fun z => absurd hlt (lenl z)) (fun _ => ?_)
        refine And.intro vp ?_
        refine And.intro (fun _ => ?_) (fun z => absurd (fun w => c2 ((nI_eq (b := 32) (by omega) (by decide)).mp (et.symm.trans w))) z)
        refine And.intro (fun z => absurd hlt (lenl z)) (fun _ => ?_)
        refine And.intro vp ?_
        exact qv kk et
    · have e := skF_stop (T := T) (n := n) (p := p) (fun z => c z.1) (r + 1)
      rw [e] at k
      have kk := k iv h2 S3.rfl
      have el : lkv T n p = -1 := if_neg c
      rw [el] at kk
      have hge : iv 79 12 ≤ iv 79 13 := by rw [h2, hT.1]; exact nI_le (by omega) (by omega)
      clear k
      refine wgo [0] 100 ?_
      refine And.intro (fun _ => ?_) (fun z => absurd hge z)
      refine And.intro (fun _ => ?_) (fun z => absurd hge z)
      exact kk
set_option maxRecDepth 100000 in
theorem m_next {p : Nat} (hT : TM iv T n) (h2 : iv 79 13 = nI p) (hp : p ≤ n) (k : ∀ iv', iv' 79 13 = nI (sk T n p) → S3 iv' iv → Q (some (.int (lkv T n (sk T n p)))) SH RF iv' lg) : Sp L xs m_Mo_nextByte [.ref 79] SH RF iv lg Q := by
  have h160 := hT.2.1
  have nx := m_next_l (L := L) (xs := xs) 161 p iv hT h2 hp (by omega) k
  clear k
  refine sin ?_
  exact nx
theorem lkM_eq (hT : TM iv T n) {q c : Nat} (hc : c < 200) : lkv T n q = nI c ↔ q < n ∧ T q = c := by
  unfold lkv
  by_cases h : q < n
  · rw [if_pos h]
    have := (hT.2.2 q h).2
    rw [nI_eq (by omega) (by omega)]
    exact ⟨fun z => ⟨h, z⟩, fun z => z.2⟩
  · rw [if_neg h]
    exact ⟨fun z => absurd z.symm (nI_m1 (by omega)), fun z => absurd z.1 h⟩
theorem lkM_toInt (hT : TM iv T n) {q : Nat} : (lkv T n q).toInt = if q < n then (T q : Int) else -1 := by
  unfold lkv
  by_cases h : q < n
  · rw [if_pos h, if_pos h]
    have := (hT.2.2 q h).2
    exact nI_toInt (by omega)
  · rw [if_neg h, if_neg h]; decide
theorem lkM_sub (hT : TM iv T n) {q : Nat} {c : Nat} {C : Int32} (hC : C = nI c) (hc : c < 200) : (lkv T n q - C).toInt = (if q < n then (T q : Int) else -1) - c := by
  have e := lkM_toInt hT (q := q)
  have b : -1 ≤ (if q < n then (T q : Int) else -1) ∧ (if q < n then (T q : Int) else -1) ≤ 126 := by
    split
    · rename_i h; have := (hT.2.2 q h).2; omega
    · omega
  rw [hC]
  rw [subI] <;> rw [e, nI_toInt (by omega)] <;> omega
set_option maxRecDepth 100000 in
theorem m_readPlace {p : Nat} (hT : TM iv T n) (h2 : iv 79 13 = nI p) (hp : p ≤ n) (kt : ∀ x q, rdP T n 99 p = (some x, q) → ∀ iv', iv' 79 13 = nI q → S3 iv' iv → Q (some (.int (nI x))) SH RF iv' lg) (kf : ∀ q, rdP T n 99 p = (none, q) → ∀ iv', iv' 79 13 = nI q → S3 iv' iv → Q (some (.int (-1))) SH RF iv' lg) : Sp L xs m_Mo_readPlace [.ref 79] SH RF iv lg Q := by
  have kf' : ¬ (sk T n p < n ∧ (97 ≤ T (sk T n p) ∧ T (sk T n p) ≤ 108) ∧ T (sk T n p) - 97 ≠ 99) → ∀ iv', iv' 79 13 = nI (sk T n p) → S3 iv' iv → Q (some (.int (-1))) SH RF iv' lg := fun h => kf _ (if_neg h)
  have kt' : sk T n p < n ∧ (97 ≤ T (sk T n p) ∧ T (sk T n p) ≤ 108) ∧ T (sk T n p) - 97 ≠ 99 → ∀ iv', iv' 79 13 = nI (sk T n p + 1) → S3 iv' iv → Q (some (.int (nI (T (sk T n p) - 97)))) SH RF iv' lg := fun h => kt _ _ (if_pos h)
  have es := lkM_sub hT (q := sk T n p) (c := 97) (C := 97) rfl (by decide)
  clear kf kt
  refine sgo [] 100 ?_
  refine m_next hT h2 hp (fun iv' d1 d2 => ?_)
  refine s_moPlace (fun h => ?_) (fun h => ?_)
  · have h0 := h.1
    have h1 := h.2
    rw [il, es, tl0] at h0
    rw [it, es, nI_toInt (by decide)] at h1
    have hlt : sk T n p < n := by
      by_cases c : sk T n p < n
      · exact c
      · rw [if_neg c] at h0; omega
    rw [if_pos hlt] at h0 h1 es
    refine c1 ?_
    refine qv (kt' ⟨hlt, ⟨by omega, by omega⟩, by omega⟩ _ ?_ d2.up) (nI_of_toInt (by omega))
    rw [xu2_s, d1, nI_1]
  · refine c0 ?_
    refine kf' (fun w => h ⟨?_, ?_⟩) iv' d1 d2
    · rw [il, es, tl0, if_pos w.1]; omega
    · rw [it, es, nI_toInt (by decide), if_pos w.1]; omega
set_option maxRecDepth 100000 in
theorem m_num_l {LO HI FR : Int32} : ∀ (r p v u : Nat) (V : Int32) (iv : xIv), TM iv T n → iv 79 13 = nI p → p ≤ n → n < p + r → V = nI u → u ≤ 1000000 → ((u = v ∧ v ≤ 99999) ∨ (99999 < u ∧ 99999 < v)) → (∀ iv' u', iv' 79 13 = nI (nmF T n r p v).1 → S3 iv' iv → u' ≤ 1000000 → ((u' = (nmF T n r p v).2 ∧ (nmF T n r p v).2 ≤ 99999) ∨ (99999 < u' ∧ 99999 < (nmF T n r p v).2)) → Wp L xs m_Mo_readNumber 47 [some (.ref 79), some (.int LO), some (.int HI), some (.int FR), some (.int (nI u'))] [] SH RF iv' lg Q) → Wp L xs m_Mo_readNumber 8 [some (.ref 79), some (.int LO), some (.int HI), some (.int FR), some (.int V)] [] SH RF iv lg Q
  | 0, p, v, u, V, iv, hT, h2, hp, hr, hV, hu, huv, k => by omega
  | r + 1, p, v, u, V, iv, hT, h2, hp, hr, hV, hu, huv, k => by
    subst hV
    have h160 := hT.2.1
    by_cases c : p < n
    · have hlt : iv 79 13 < iv 79 12 := by rw [h2, hT.1]; exact nI_lt c (by omega)
      have vp : vp_in (iv 79 13) 160 := by rw [h2]; exact vp_N (by omega)
      obtain ⟨t1, t2⟩ := hT.2.2 p c
      have et : iv 86 (iv 79 13).toNatClampNeg = nI (T p) := by rw [h2, cl]; exact t1
      have e48 : (48 : Int32).toInt = 48 := by decide
      have e57 : (57 : Int32).toInt = 57 := by decide
      have ei : (iv 86 (iv 79 13).toNatClampNeg).toInt = T p := by rw [et]; exact nI_toInt (by omega)
      by_cases c2 : 48 ≤ T p ∧ T p ≤ 57
      · rw [show nmF T n (r + 1) p v = nmF T n r (p + 1) (10 * v + (T p - 48)) from if_pos ⟨c, c2⟩] at k
        have nx : ∀ (V : Int32) (u' : Nat), V = nI u' → u' ≤ 1000000 → ((u' = 10 * v + (T p - 48) ∧ 10 * v + (T p - 48) ≤ 99999) ∨ (99999 < u' ∧ 99999 < 10 * v + (T p - 48))) → Wp L xs m_Mo_readNumber 8 [some (.ref 79), some (.int LO), some (.int HI), some (.int FR), some (.int V)] [] SH RF (xu2 iv 79 13 (iv 79 13 + 1)) lg Q := fun V u' hV h1 h3 => by
          rw [h2, nI_1]
          exact m_num_l r (p + 1) _ u' V _ (hT.cg S3.rfl.up.S5) xu2_s (by omega) (by omega) hV h1 h3 (fun iv' u2 d1 d2 d3 d4 => k iv' u2 d1 (d2.trans S3.rfl.up) d3 d4)
        have ev : (10 : Int32) * nI u + iv 86 (iv 79 13).toNatClampNeg - 48 = nI (10 * u + T p - 48) := by
          rw [et, show (10 : Int32) * nI u = nI (10 * u) from pk_mul 10 u, ni_a]
          exact nI_subN (b := 48) (by omega) (by omega)
        clear k
        refine wgo [8, 47] 100 ?_
        refine And.intro (fun z => absurd hlt (lenl z)) (fun _ => ?_)
        refine And.intro vp ?_
        refine s_inI (a := 48) (b := 57) (kt := fun h => ?_) (kf := fun h => ?_)
        · refine b1 ?_
          refine And.intro (fun z => ?_) (fun z => ?_)
          · have z2 : u ≤ 99999 := (nI_leI (b := 99999) (by omega) (by decide)).mp z
            refine And.intro vp ?_
            refine nx _ _ ev (by omega) ?_
            have : u = v := by omega
            subst this
            by_cases q : 10 * u + (T p - 48) ≤ 99999
            · exact Or.inl ⟨by omega, q⟩
            · exact Or.inr ⟨by omega, by omega⟩
          · have z2 : ¬ u ≤ 99999 := fun w => z (nI_le (b := 99999) w (by decide))
            exact nx _ u rfl hu (Or.inr ⟨by omega, by omega⟩)
        · refine absurd ⟨?_, ?_⟩ h
          · rw [il, ei, e48]; omega
          · rw [il, ei, e57]; omega
      · rw [show nmF T n (r + 1) p v = (p, v) from if_neg (fun z => c2 z.2)] at k
        have kk := k iv u h2 S3.rfl hu huv
        clear k
        refine wgo [8, 47] 100 ?_
        refine And.intro (fun z => absurd hlt (lenl z)) (fun _ => ?_)
        refine And.intro vp ?_
        refine s_inI (a := 48) (b := 57) (kt := fun h => ?_) (kf := fun h => ?_)
        · refine absurd ⟨?_, ?_⟩ c2
          · have := h.1; rw [il, ei, e48] at this; omega
          · have := h.2; rw [il, ei, e57] at this; omega
        · refine b0 ?_
          exact kk
    · rw [show nmF T n (r + 1) p v = (p, v) from if_neg (fun z => c z.1)] at k
      have kk := k iv u h2 S3.rfl hu huv
      have hge : iv 79 12 ≤ iv 79 13 := by rw [h2, hT.1]; exact nI_le (by omega) (by omega)
      clear k
      refine wgo [8, 47] 100 ?_
      exact And.intro (fun _ => kk) (fun z => absurd hge z)
set_option maxRecDepth 100000 in
theorem m_readNumber {lo hi p : Nat} (hlo : lo ≤ hi) (hhi : hi ≤ 99999) (hT : TM iv T n) (h2 : iv 79 13 = nI p) (hp : p ≤ n) (kt : ∀ x q, rdN T n lo hi p = (some x, q) → ∀ iv', iv' 79 13 = nI q → S3 iv' iv → Q (some (.int (nI x))) SH RF iv' lg) (kf : ∀ q, rdN T n lo hi p = (none, q) → ∀ iv', iv' 79 13 = nI q → S3 iv' iv → Q (some (.int (-1))) SH RF iv' lg) : Sp L xs m_Mo_readNumber [.ref 79, .int (nI lo), .int (nI hi)] SH RF iv lg Q := by
  have h160 := hT.2.1
  have hs := sk_le (T := T) h160 hp
  refine sgo [8] 100 ?_
  refine m_next hT h2 hp (fun iv1 d1 d2 => ?_)
  have T1 := hT.cg d2.S5
  have nm := nmF_le (T := T) h160 161 (sk T n p) 0 hs
  have fin : ∀ FR, FR = nI (sk T n p) → Wp L xs m_Mo_readNumber 8 [some (.ref 79), some (.int (nI lo)), some (.int (nI hi)), some (.int FR), some (.int 0)] [] SH RF iv1 lg Q := fun FR hFR => by
    subst hFR
    refine m_num_l 161 (sk T n p) 0 0 _ iv1 T1 d1 hs (by omega) rfl (by decide) (Or.inl ⟨rfl, by decide⟩) (fun iv2 u g1 g2 g3 g4 => ?_)
    by_cases hcond : sk T n p < n ∧ 48 ≤ T (sk T n p) ∧ T (sk T n p) ≤ 57
    · have adv : sk T n p + 1 ≤ (nmF T n 161 (sk T n p) 0).1 := by
        rw [show nmF T n 161 (sk T n p) 0 = nmF T n 160 (sk T n p + 1) (10 * 0 + (T (sk T n p) - 48)) from if_pos hcond]
        exact (nmF_le (T := T) h160 160 (sk T n p + 1) _ (by omega)).2
      have hne : ¬ iv2 79 13 = nI (sk T n p) := by
        rw [g1, nI_eq (by omega) (by omega)]; omega
      have bb : (nI lo ≤ nI u ∧ nI u ≤ nI hi) ↔ (lo ≤ (nmF T n 161 (sk T n p) 0).2 ∧ (nmF T n 161 (sk T n p) 0).2 ≤ hi) := by
        rw [nI_leI (by omega) (by omega), nI_leI (by omega) (by omega)]
        omega
      by_cases c2 : lo ≤ (nmF T n 161 (sk T n p) 0).2 ∧ (nmF T n 161 (sk T n p) 0).2 ≤ hi
      · have kk := kt _ _ ((if_pos hcond).trans (if_pos c2)) iv2 g1 (g2.trans d2)
        have em : u = (nmF T n 161 (sk T n p) 0).2 := by omega
        clear kt kf
        refine wgo [] 100 ?_
        refine And.intro (fun _ => ?_) (fun z => absurd hne z)
        refine s_inI (a := nI lo) (b := nI hi) (ha := rfl) (hb := rfl) (kt := fun h => ?_) (kf := fun h => absurd (bb.mpr c2) h)
        refine c1 ?_
        exact qv kk (by rw [em])
      · have kk := kf _ ((if_pos hcond).trans (if_neg c2)) (xu2 iv2 79 13 (nI (sk T n p))) xu2_s ((g2.trans d2).up)
        clear kt kf
        refine wgo [] 100 ?_
        refine And.intro (fun _ => ?_) (fun z => absurd hne z)
        refine s_inI (a := nI lo) (b := nI hi) (ha := rfl) (hb := rfl) (kt := fun h => absurd (bb.mp h) c2) (kf := fun h => ?_)
        refine c0 ?_
        exact kk
    · have e1 : nmF T n 161 (sk T n p) 0 = (sk T n p, 0) := if_neg hcond
      rw [e1] at g1
      have kk := kf _ (if_neg hcond) iv2 g1 (g2.trans d2)
      clear kt kf
      refine wgo [] 100 ?_
      refine And.intro (fun z => absurd g1 z) (fun _ => ?_)
      exact kk
  clear kt kf
  exact fin _ d1
def RA (iv : xIv) (m : Nat) (a : Nat → wI) : Prop := ∀ i, i < m → ∀ f, f < 5 → iv 87 (5 * i + f) = wf (a i) f
def RP (iv : xIv) (m : Nat) (a : Nat → pI) : Prop := ∀ i, i < m → ∀ f, f < 3 → iv 87 (5 * i + f) = pf (a i) f
theorem RA.cg {iv' : xIv} {m : Nat} {a : Nat → wI} (h : RA iv m a) (hr : ∀ j, j < 5 * m → iv' 87 j = iv 87 j) : RA iv' m a := fun i hi f hf => by rw [hr _ (by omega)]; exact h i hi f hf
theorem RP.cg {iv' : xIv} {m : Nat} {a : Nat → pI} (h : RP iv m a) (hr : ∀ j, j < 5 * m → iv' 87 j = iv 87 j) : RP iv' m a := fun i hi f hf => by rw [hr _ (by omega)]; exact h i hi f hf
theorem RA.add {iv' : xIv} {m : Nat} {a : Nat → wI} {x : wI} (h : RA iv m a) (hr : ∀ j, j < 5 * m → iv' 87 j = iv 87 j) (h0 : iv' 87 (5 * m) = wf x 0) (h1 : iv' 87 (5 * m + 1) = wf x 1) (h2 : iv' 87 (5 * m + 2) = wf x 2) (h3 : iv' 87 (5 * m + 3) = wf x 3) (h4 : iv' 87 (5 * m + 4) = wf x 4) : RA iv' (m + 1) (upA a m x) := fun i hi f hf => by
  by_cases c : i = m
  · subst c
    rw [upA_s]
    have : f = 0 ∨ f = 1 ∨ f = 2 ∨ f = 3 ∨ f = 4 := by omega
    rcases this with rfl | rfl | rfl | rfl | rfl
    · exact h0
    · exact h1
    · exact h2
    · exact h3
    · exact h4
  · rw [upA_n c]
    exact (h.cg hr) i (by omega) f hf
theorem RP.add {iv' : xIv} {m : Nat} {a : Nat → pI} {x : pI} (h : RP iv m a) (hr : ∀ j, j < 5 * m → iv' 87 j = iv 87 j) (h0 : iv' 87 (5 * m) = pf x 0) (h1 : iv' 87 (5 * m + 1) = pf x 1) (h2 : iv' 87 (5 * m + 2) = pf x 2) : RP iv' (m + 1) (upA a m x) := fun i hi f hf => by
  by_cases c : i = m
  · subst c
    rw [upA_s]
    have : f = 0 ∨ f = 1 ∨ f = 2 := by omega
    rcases this with rfl | rfl | rfl
    · exact h0
    · exact h1
    · exact h2
  · rw [upA_n c]
    exact (h.cg hr) i (by omega) f hf
end TXM
