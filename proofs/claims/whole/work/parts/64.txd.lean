-- ===== texts: the class (2) =====
def CA (iv : xIv) (m : Nat) (a : Nat → wI) : Prop := iv 55 0 = nI m ∧ ∀ i, i < m → iv 56 i = nI (a i).1 ∧ iv 57 i = nI (a i).2.1 ∧ iv 58 i = nI (a i).2.2.1 ∧ iv 59 i = (a i).2.2.2.1 ∧ iv 60 i = nI (a i).2.2.2.2
def CP (iv : xIv) (m : Nat) (a : Nat → pI) : Prop := iv 61 0 = nI m ∧ ∀ i, i < m → iv 62 i = nI (a i).1 ∧ iv 63 i = nI (a i).2.1 ∧ iv 64 i = nI (a i).2.2 ∧ iv 65 i = nI (a i).1 ∧ iv 66 i = 0 ∧ iv 67 i = 0 ∧ iv 68 i = 0
theorem CA.cg {iv iv' : xIv} {m : Nat} {a : Nat → wI} (h : CA iv m a) (hr : R3 iv' iv) : CA iv' m a := by
  unfold CA at h ⊢
  rw [hr.1 55 (by decide), hr.1 56 (by decide), hr.1 57 (by decide), hr.1 58 (by decide), hr.1 59 (by decide), hr.1 60 (by decide)]
  exact h
theorem CP.cg {iv iv' : xIv} {m : Nat} {a : Nat → pI} (h : CP iv m a) (hr : R3 iv' iv) : CP iv' m a := by
  unfold CP at h ⊢
  rw [hr.1 61 (by decide), hr.1 62 (by decide), hr.1 63 (by decide), hr.1 64 (by decide), hr.1 65 (by decide), hr.1 66 (by decide), hr.1 67 (by decide), hr.1 68 (by decide)]
  exact h
theorem upA_s {α : Type} {a : Nat → α} {m : Nat} {x : α} : upA a m x m = x := if_pos rfl
theorem upA_n {α : Type} {a : Nat → α} {m i : Nat} {x : α} (h : i ≠ m) : upA a m x i = a i := if_neg h
theorem bb1 {A B : Prop} (h : B) : ((1 : Int32) = 0 → A) ∧ (¬ (1 : Int32) = 0 → B) := b1 h
section TXD
variable {L : Nat} {xs : Nat → Int32} {iv : xIv} {lg : xLg} {Q : xQ} {T : Nat → Nat} {n : Nat}
set_option maxRecDepth 100000 in
theorem s_add55 {m : Nat} {f t ln sl g : Int32} (hn : iv 55 0 = nI m) (h24 : m < 24) (k : Q (some (.int (nI m))) SH RF (xu2 (xu2 (xu2 (xu2 (xu2 (xu2 iv 56 m f) 57 m t) 58 m ln) 59 m sl) 60 m g) 55 0 (nI (m + 1))) lg) : Sp L xs m_Ways_add [.ref 55, .int f, .int t, .int ln, .int sl, .int g] SH RF iv lg Q := by
  have v : vp_in (iv 55 0) 24 := by rw [hn]; exact vp_N h24
  have key : Q (some (.int (iv 55 0))) SH RF (xu2 (xu2 (xu2 (xu2 (xu2 (xu2 iv 56 (iv 55 0).toNatClampNeg f) 57 (iv 55 0).toNatClampNeg t) 58 (iv 55 0).toNatClampNeg ln) 59 (iv 55 0).toNatClampNeg sl) 60 (iv 55 0).toNatClampNeg g) 55 0 (iv 55 0 + 1)) lg := by
    rw [hn, cl, nI_1]; exact k
  clear k
  refine sgo [] 100 ?_
  refine And.intro v ?_
  refine And.intro v ?_
  refine And.intro v ?_
  refine And.intro v ?_
  refine And.intro v ?_
  exact key
set_option maxRecDepth 100000 in
theorem s_add61 {m : Nat} {h kd r : Int32} (hn : iv 61 0 = nI m) (h8 : m < 8) (k : Q (some (.int (nI m))) SH RF (xu2 (xu2 (xu2 (xu2 (xu2 (xu2 (xu2 (xu2 iv 62 m h) 63 m kd) 64 m r) 65 m h) 66 m 0) 67 m 0) 68 m 0) 61 0 (nI (m + 1))) lg) : Sp L xs m_People_add [.ref 61, .int h, .int kd, .int r] SH RF iv lg Q := by
  have v : vp_in (iv 61 0) 8 := by rw [hn]; exact vp_N h8
  have key : Q (some (.int (iv 61 0))) SH RF (xu2 (xu2 (xu2 (xu2 (xu2 (xu2 (xu2 (xu2 iv 62 (iv 61 0).toNatClampNeg h) 63 (iv 61 0).toNatClampNeg kd) 64 (iv 61 0).toNatClampNeg r) 65 (iv 61 0).toNatClampNeg h) 66 (iv 61 0).toNatClampNeg 0) 67 (iv 61 0).toNatClampNeg 0) 68 (iv 61 0).toNatClampNeg 0) 61 0 (iv 61 0 + 1)) lg := by
    rw [hn, cl, nI_1]; exact k
  clear k
  refine sgo [] 100 ?_
  refine And.intro v ?_
  refine And.intro v ?_
  refine And.intro v ?_
  refine And.intro v ?_
  refine And.intro v ?_
  refine And.intro v ?_
  refine And.intro v ?_
  exact key
theorem no_m1 : ∀ x, x < 12 → (nI x = (-1 : Int32) ↔ x = 99) := fun x hx => ⟨fun z => absurd z (nI_m1 (by omega)), fun z => by omega⟩
theorem no_f {f : Nat} (hf : f < 12) : ∀ x, x < 12 → (nI x = nI f ↔ x = f) := fun x hx => nI_eq (by omega) (by omega)
set_option maxRecDepth 100000 in
theorem c_rw_33 {f m p p1 p3 : Nat} {a : Nat → wI} {S F sl : Int32} (e1 : rdP T n 99 p = (some f, p1)) (e2 : rdS T n p1 = (some sl, p3)) (hSF : S * F = sl) (hf : f < 12) (hm : m < 24) (hp3 : p3 ≤ n) (hT : TC iv T n) (hA : CA iv m a) (h2 : iv 53 2 = nI p3) (kt : ∀ x q, prW T n p = (some x, q) → ∀ iv', iv' 53 2 = nI q → CA iv' (m + 1) (upA a m x) → R5 iv' iv → Q (some (.int 1)) SH RF iv' lg) (kf : ∀ q, prW T n p = (none, q) → ∀ iv', iv' 53 2 = nI q → R5 iv' iv → Q (some (.int 0)) SH RF iv' lg) : Wp L xs m_Tape_readWay 33 [some (.ref 53), some (.int (nI f)), some (.int S), some (.int F), none, none] [] SH RF iv lg Q := by
  have h160 := hT.2.1
  refine wgo [] 100 ?_
  refine s_readPlace (no_f hf) hT h2 hp3 (fun t p4 e3 iv1 d1 d2 => ?_) (fun q e3 iv1 d1 d2 => ?_)
  · obtain ⟨hp4, ht, -⟩ := (rdP_is (T := T) h160 (no := f) hp3).2 t p4 e3
    have T1 := hT.cg d2.R5
    refine And.intro (fun _ => ?_) (fun z => absurd (nI_pos' (by omega)) z)
    refine s_readNumber (lo := 1) (hi := 99) (by decide) (by decide) (by decide) T1 d1 hp4 (fun len p5 e4 iv2 g1 g2 => ?_) (fun q e4 iv2 g1 g2 => ?_)
    · obtain ⟨hp5, hl1, hl2⟩ := (rdN_is (T := T) h160 (lo := 1) (hi := 99) hp4).2 len p5 e4
      have T2 := T1.cg g2.R5
      have A2 := (hA.cg d2).cg g2
      refine And.intro (fun _ => ?_) (fun z => absurd (nI_pos' (by omega)) z)
      have fin : ∀ (g : Nat) (iv3 : xIv) (q3 : Nat), prW T n p = (some (f, t, len, sl, g), q3) → iv3 53 2 = nI q3 → R3 iv3 iv2 → iv3 55 0 = nI m ∧ (Q (some (.int 1)) SH RF (xu2 (xu2 (xu2 (xu2 (xu2 (xu2 iv3 56 m (nI f)) 57 m (nI t)) 58 m (nI len)) 59 m (S * F)) 60 m (nI g)) 55 0 (nI (m + 1))) lg) := fun g iv3 q3 e5 b1 b2 => by
        have A3 := A2.cg b2
        have rr : R3 iv3 iv := b2.trans (g2.trans d2)
        refine ⟨A3.1, kt _ _ e5 _ ?_ ⟨xu2_s, fun i hi => ?_⟩ ⟨fun k hk hk2 => ?_, fun j hj => ?_⟩⟩
        · rw [xu2_k (by decide), xu2_k (by decide), xu2_k (by decide), xu2_k (by decide), xu2_k (by decide), xu2_k (by decide)]
          exact b1
        · by_cases c : i = m
          · subst c
            rw [upA_s]
            refine ⟨?_, ?_, ?_, ?_, ?_⟩
            · rw [xu2_k (by decide), xu2_k (by decide), xu2_k (by decide), xu2_k (by decide), xu2_k (by decide), xu2_s]
            · rw [xu2_k (by decide), xu2_k (by decide), xu2_k (by decide), xu2_k (by decide), xu2_s]
            · rw [xu2_k (by decide), xu2_k (by decide), xu2_k (by decide), xu2_s]
            · rw [xu2_k (by decide), xu2_k (by decide), xu2_s]; exact hSF
            · rw [xu2_k (by decide), xu2_s]
          · rw [upA_n c]
            obtain ⟨q1, q2, q3, q4, q5⟩ := A3.2 i (by omega)
            refine ⟨?_, ?_, ?_, ?_, ?_⟩
            · rw [xu2_k (by decide), xu2_k (by decide), xu2_k (by decide), xu2_k (by decide), xu2_k (by decide), xu2_j c]; exact q1
            · rw [xu2_k (by decide), xu2_k (by decide), xu2_k (by decide), xu2_k (by decide), xu2_j c, xu2_k (by decide)]; exact q2
            · rw [xu2_k (by decide), xu2_k (by decide), xu2_k (by decide), xu2_j c, xu2_k (by decide), xu2_k (by decide)]; exact q3
            · rw [xu2_k (by decide), xu2_k (by decide), xu2_j c, xu2_k (by decide), xu2_k (by decide), xu2_k (by decide)]; exact q4
            · rw [xu2_k (by decide), xu2_j c, xu2_k (by decide), xu2_k (by decide), xu2_k (by decide), xu2_k (by decide)]; exact q5
        · rw [xu2_ne (by omega), xu2_ne (by omega), xu2_ne (by omega), xu2_ne (by omega), xu2_ne (by omega), xu2_ne (by omega)]
          exact rr.1 k hk
        · rw [xu2_ne (by decide), xu2_ne (by decide), xu2_ne (by decide), xu2_ne (by decide), xu2_ne (by decide), xu2_ne (by decide)]
          exact rr.2 j hj
      have ew : prW T n p = if sk T n p5 < n ∧ T (sk T n p5) = 103 then (some (f, t, len, sl, 1), sk T n p5 + 1) else (some (f, t, len, sl, 0), sk T n p5) := by
        unfold prW
        rw [e1]; dsimp only
        rw [e2]; dsimp only
        rw [e3]; dsimp only
        rw [e4]
      clear kt kf
      refine s_take (c := 103) (by decide) T2 g1 hp5 (fun hc iv3 b1 b2 => ?_) (fun hc iv3 b1 b2 => ?_)
      · refine bb1 ?_
        obtain ⟨f1, f2⟩ := fin 1 iv3 _ (ew.trans (if_pos hc)) b1 b2
        refine s_add55 f1 hm ?_
        exact And.intro (Or.inr rfl) f2
      · refine b0 ?_
        obtain ⟨f1, f2⟩ := fin 0 iv3 _ (ew.trans (if_neg hc)) b1 b2
        refine s_add55 f1 hm ?_
        exact And.intro (Or.inr rfl) f2
    · have ew : prW T n p = (none, q) := by
        unfold prW
        rw [e1]; dsimp only
        rw [e2]; dsimp only
        rw [e3]; dsimp only
        rw [e4]
      refine And.intro (fun z => absurd z (by decide)) (fun _ => ?_)
      exact And.intro (Or.inl rfl) (kf q ew iv2 g1 (g2.trans d2).R5)
  · have ew : prW T n p = (none, q) := by
      unfold prW
      rw [e1]; dsimp only
      rw [e2]; dsimp only
      rw [e3]
    refine And.intro (fun z => absurd z (by decide)) (fun _ => ?_)
    exact And.intro (Or.inl rfl) (kf q ew iv1 d1 d2.R5)
theorem mul_1 (x : Int32) : (1 : Int32) * x = x := Int32.one_mul x
theorem mul_m1 {d : Nat} (hd : d < 10) : (-1 : Int32) * nI d = - nI d := by
  have e := nI_toInt (n := d) (by omega)
  have m1 : (-1 : Int32).toInt = -1 := by decide
  have e2 : ((-1 : Int32) * nI d).toInt = -1 * (d : Int) := by rw [mulI] <;> rw [m1, e] <;> omega
  have e3 : (- nI d).toInt = - (d : Int) := by rw [negI (by rw [e]; omega), e]
  exact ie.mpr (by rw [e2, e3]; omega)
set_option maxRecDepth 100000 in
theorem c_readWay {m p : Nat} {a : Nat → wI} (hm : m < 24) (hp : p ≤ n) (hT : TC iv T n) (hA : CA iv m a) (h2 : iv 53 2 = nI p) (kt : ∀ x q, prW T n p = (some x, q) → ∀ iv', iv' 53 2 = nI q → CA iv' (m + 1) (upA a m x) → R5 iv' iv → Q (some (.int 1)) SH RF iv' lg) (kf : ∀ q, prW T n p = (none, q) → ∀ iv', iv' 53 2 = nI q → R5 iv' iv → Q (some (.int 0)) SH RF iv' lg) : Sp L xs m_Tape_readWay [.ref 53] SH RF iv lg Q := by
  have h160 := hT.2.1
  refine sgo [21, 33] 100 ?_
  refine s_readPlace no_m1 hT h2 hp (fun f p1 e1 iv1 d1 d2 => ?_) (fun q e1 iv1 d1 d2 => ?_)
  · obtain ⟨hp1, hf, -⟩ := (rdP_is (T := T) h160 (no := 99) hp).2 f p1 e1
    have T1 := hT.cg d2.R5
    have A1 := hA.cg d2
    have hs := sk_le (T := T) h160 hp1
    have kt1 : ∀ iv2, R3 iv2 iv → ∀ x q, prW T n p = (some x, q) → ∀ iv', iv' 53 2 = nI q → CA iv' (m + 1) (upA a m x) → R5 iv' iv2 → Q (some (.int 1)) SH RF iv' lg := fun iv2 r2 x q e iv' b1 b2 b3 => kt x q e iv' b1 b2 (b3.trans r2.R5)
    have kf1 : ∀ iv2, R3 iv2 iv → ∀ q, prW T n p = (none, q) → ∀ iv', iv' 53 2 = nI q → R5 iv' iv2 → Q (some (.int 0)) SH RF iv' lg := fun iv2 r2 q e iv' b1 b3 => kf q e iv' b1 (b3.trans r2.R5)
    clear kt kf
    -- a sign was there
    have sgn : ∀ (S : Int32) (g : Nat → Int32) (iv2 : xIv), (∀ d, d < 10 → S * nI d = g d) → ¬ S = 0 → sk T n p1 < n → rdS T n p1 = (match rdD T n (sk T n p1 + 1) with | (some d, q) => (some (g d), q) | (none, q) => (none, q)) → iv2 53 2 = nI (sk T n p1 + 1) → R3 iv2 iv1 → Wp L xs m_Tape_readWay 21 [some (.ref 53), some (.int (nI f)), none, none, none, none] [.int S] SH RF iv2 lg Q := fun S g iv2 hg hS hlt es b1 b2 => by
      have T2 := T1.cg b2.R5
      refine wgo [33] 100 ?_
      refine And.intro (fun z => absurd z hS) (fun _ => ?_)
      refine s_readDigit T2 b1 (by omega) (fun d q e5 iv3 u1 u2 => ?_) (fun q e5 iv3 u1 u2 => ?_)
      · rw [e5] at es
        dsimp only at es
        obtain ⟨hq, hd⟩ := (rdD_is (T := T) h160 (show sk T n p1 + 1 ≤ n by omega)).2 d q e5
        refine And.intro (fun _ => ?_) (fun z => absurd (nI_pos' (by omega)) z)
        have rr : R3 iv3 iv := u2.trans (b2.trans d2)
        exact c_rw_33 e1 es (hg d hd) hf hm hq (hT.cg rr.R5) (hA.cg rr) u1 (kt1 iv3 rr) (kf1 iv3 rr)
      · rw [e5] at es
        dsimp only at es
        refine And.intro (fun z => absurd z (by decide)) (fun _ => ?_)
        have ew : prW T n p = (none, q) := by
          unfold prW
          rw [e1]; dsimp only
          rw [es]
        exact And.intro (Or.inl rfl) (kf1 iv3 (u2.trans (b2.trans d2)) q ew iv3 u1 R3.rfl.R5)
    refine And.intro (fun _ => ?_) (fun z => absurd (nI_pos' (by omega)) z)
    refine s_take (c := 43) (by decide) T1 d1 hp1 (fun hc iv2 b1 b2 => ?_) (fun hc iv2 b1 b2 => ?_)
    · refine bb1 ?_
      exact sgn 1 (fun d => nI d) iv2 (fun d _ => mul_1 _) (by decide) hc.1 (if_pos hc) b1 b2
    · refine b0 ?_
      have T2 := T1.cg b2.R5
      have ess := sk_sk (T := T) h160 hp1
      refine s_take (c := 45) (by decide) T2 b1 hs (fun hc2 iv3 u1 u2 => ?_) (fun hc2 iv3 u1 u2 => ?_)
      · rw [ess] at hc2 u1
        refine bb1 ?_
        exact sgn (-1) (fun d => - nI d) iv3 (fun d hd => mul_m1 hd) (by decide) hc2.1 ((if_neg hc).trans (if_pos hc2)) u1 (u2.trans b2)
      · rw [ess] at hc2 u1
        refine b0 ?_
        have rr : R3 iv3 iv := u2.trans (b2.trans d2)
        have n3 := c_rw_33 (L := L) (xs := xs) (Q := Q) (lg := lg) (S := 0) (F := 0) e1 ((if_neg hc).trans (if_neg hc2)) (by decide) hf hm hs (hT.cg rr.R5) (hA.cg rr) u1 (kt1 iv3 rr) (kf1 iv3 rr)
        clear kt1 kf1 sgn
        refine wgo [33] 100 ?_
        exact And.intro (fun _ => n3) (fun z => absurd rfl z)
  · have ew : prW T n p = (none, q) := by
      unfold prW
      rw [e1]
    refine And.intro (fun z => absurd z (by decide)) (fun _ => ?_)
    exact And.intro (Or.inl rfl) (kf q ew iv1 d1 d2.R5)
set_option maxRecDepth 100000 in
theorem s_readKind {p : Nat} (hT : TC iv T n) (h2 : iv 53 2 = nI p) (hp : p ≤ n) (kt : ∀ x q, rdK T n p = (some x, q) → ∀ iv', iv' 53 2 = nI q → R3 iv' iv → Q (some (.int (nI x))) SH RF iv' lg) (kf : ∀ q, rdK T n p = (none, q) → ∀ iv', iv' 53 2 = nI q → R3 iv' iv → Q (some (.int (-1))) SH RF iv' lg) : Sp L xs m_Tape_readKind [.ref 53] SH RF iv lg Q := by
  have h160 := hT.2.1
  have hs := sk_le (T := T) h160 hp
  have ess := sk_sk (T := T) h160 hp
  refine sgo [] 100 ?_
  refine s_take (c := 103) (by decide) hT h2 hp (fun c1 iv1 d1 d2 => ?_) (fun c1 iv1 d1 d2 => ?_)
  · refine bb1 ?_
    exact kt 0 _ (if_pos c1) iv1 d1 d2
  · refine b0 ?_
    refine s_take (c := 99) (by decide) (hT.cg d2.R5) d1 hs (fun c2 iv2 g1 g2 => ?_) (fun c2 iv2 g1 g2 => ?_)
    · rw [ess] at c2 g1
      refine bb1 ?_
      exact kt 1 _ ((if_neg c1).trans (if_pos c2)) iv2 g1 (g2.trans d2)
    · rw [ess] at c2 g1
      refine b0 ?_
      refine s_take (c := 111) (by decide) (hT.cg (g2.trans d2).R5) g1 hs (fun c3 iv3 u1 u2 => ?_) (fun c3 iv3 u1 u2 => ?_)
      · rw [ess] at c3 u1
        refine bb1 ?_
        exact kt 2 _ ((if_neg c1).trans ((if_neg c2).trans (if_pos c3))) iv3 u1 (u2.trans (g2.trans d2))
      · rw [ess] at c3 u1
        refine b0 ?_
        refine s_take (c := 112) (by decide) (hT.cg (u2.trans (g2.trans d2)).R5) u1 hs (fun c4 iv4 w1 w2 => ?_) (fun c4 iv4 w1 w2 => ?_)
        · rw [ess] at c4 w1
          refine bb1 ?_
          exact kt 3 _ ((if_neg c1).trans ((if_neg c2).trans ((if_neg c3).trans (if_pos c4)))) iv4 w1 (w2.trans (u2.trans (g2.trans d2)))
        · rw [ess] at c4 w1
          refine b0 ?_
          exact kf _ ((if_neg c1).trans ((if_neg c2).trans ((if_neg c3).trans (if_neg c4)))) iv4 w1 (w2.trans (u2.trans (g2.trans d2)))
set_option maxRecDepth 100000 in
theorem c_readPerson {m p : Nat} {a : Nat → pI} (hm : m < 8) (hp : p ≤ n) (hT : TC iv T n) (hA : CP iv m a) (h2 : iv 53 2 = nI p) (kt : ∀ x q, prP T n p = (some x, q) → ∀ iv', iv' 53 2 = nI q → CP iv' (m + 1) (upA a m x) → R5 iv' iv → Q (some (.int 1)) SH RF iv' lg) (kf : ∀ q, prP T n p = (none, q) → ∀ iv', iv' 53 2 = nI q → R5 iv' iv → Q (some (.int 0)) SH RF iv' lg) : Sp L xs m_Tape_readPerson [.ref 53] SH RF iv lg Q := by
  have h160 := hT.2.1
  refine sgo [] 100 ?_
  refine s_readPlace no_m1 hT h2 hp (fun f p1 e1 iv1 d1 d2 => ?_) (fun q e1 iv1 d1 d2 => ?_)
  · obtain ⟨hp1, hf, -⟩ := (rdP_is (T := T) h160 (no := 99) hp).2 f p1 e1
    refine And.intro (fun _ => ?_) (fun z => absurd (nI_pos' (by omega)) z)
    refine s_readKind (hT.cg d2.R5) d1 hp1 (fun kd p2 e2 iv2 g1 g2 => ?_) (fun q e2 iv2 g1 g2 => ?_)
    · obtain ⟨hp2, hkd⟩ := (rdK_is (T := T) h160 hp1).2 kd p2 e2
      refine And.intro (fun _ => ?_) (fun z => absurd (nI_pos' (by omega)) z)
      refine s_readNumber (lo := 0) (hi := 99999) (by decide) (by decide) (by decide) (hT.cg (g2.trans d2).R5) g1 hp2 (fun r p3 e3 iv3 u1 u2 => ?_) (fun q e3 iv3 u1 u2 => ?_)
      · obtain ⟨hp3, -, hr⟩ := (rdN_is (T := T) h160 (lo := 0) (hi := 99999) hp2).2 r p3 e3
        have ew : prP T n p = (some (f, kd, r), p3) := by
          unfold prP
          rw [e1]; dsimp only
          rw [e2]; dsimp only
          rw [e3]
        have rr : R3 iv3 iv := u2.trans (g2.trans d2)
        have A3 := hA.cg rr
        refine And.intro (fun _ => ?_) (fun z => absurd (nI_pos' (by omega)) z)
        refine s_add61 A3.1 hm ?_
        refine And.intro (Or.inr rfl) ?_
        refine kt _ _ ew _ ?_ ⟨xu2_s, fun i hi => ?_⟩ ⟨fun k hk hk2 => ?_, fun j hj => ?_⟩
        · rw [xu2_k (by decide), xu2_k (by decide), xu2_k (by decide), xu2_k (by decide), xu2_k (by decide), xu2_k (by decide), xu2_k (by decide), xu2_k (by decide)]
          exact u1
        · by_cases c : i = m
          · subst c
            rw [upA_s]
            refine ⟨?_, ?_, ?_, ?_, ?_, ?_, ?_⟩
            · rw [xu2_k (by decide), xu2_k (by decide), xu2_k (by decide), xu2_k (by decide), xu2_k (by decide), xu2_k (by decide), xu2_k (by decide), xu2_s]
            · rw [xu2_k (by decide), xu2_k (by decide), xu2_k (by decide), xu2_k (by decide), xu2_k (by decide), xu2_k (by decide), xu2_s]
            · rw [xu2_k (by decide), xu2_k (by decide), xu2_k (by decide), xu2_k (by decide), xu2_k (by decide), xu2_s]
            · rw [xu2_k (by decide), xu2_k (by decide), xu2_k (by decide), xu2_k (by decide), xu2_s]
            · rw [xu2_k (by decide), xu2_k (by decide), xu2_k (by decide), xu2_s]
            · rw [xu2_k (by decide), xu2_k (by decide), xu2_s]
            · rw [xu2_k (by decide), xu2_s]
          · rw [upA_n c]
            obtain ⟨q1, q2, q3, q4, q5, q6, q7⟩ := A3.2 i (by omega)
            refine ⟨?_, ?_, ?_, ?_, ?_, ?_, ?_⟩
            · rw [xu2_k (by decide), xu2_k (by decide), xu2_k (by decide), xu2_k (by decide), xu2_k (by decide), xu2_k (by decide), xu2_k (by decide), xu2_j c]; exact q1
            · rw [xu2_k (by decide), xu2_k (by decide), xu2_k (by decide), xu2_k (by decide), xu2_k (by decide), xu2_k (by decide), xu2_j c, xu2_k (by decide)]; exact q2
            · rw [xu2_k (by decide), xu2_k (by decide), xu2_k (by decide), xu2_k (by decide), xu2_k (by decide), xu2_j c, xu2_k (by decide), xu2_k (by decide)]; exact q3
            · rw [xu2_k (by decide), xu2_k (by decide), xu2_k (by decide), xu2_k (by decide), xu2_j c, xu2_k (by decide), xu2_k (by decide), xu2_k (by decide)]; exact q4
            · rw [xu2_k (by decide), xu2_k (by decide), xu2_k (by decide), xu2_j c, xu2_k (by decide), xu2_k (by decide), xu2_k (by decide), xu2_k (by decide)]; exact q5
            · rw [xu2_k (by decide), xu2_k (by decide), xu2_j c, xu2_k (by decide), xu2_k (by decide), xu2_k (by decide), xu2_k (by decide), xu2_k (by decide)]; exact q6
            · rw [xu2_k (by decide), xu2_j c, xu2_k (by decide), xu2_k (by decide), xu2_k (by decide), xu2_k (by decide), xu2_k (by decide), xu2_k (by decide)]; exact q7
        · rw [xu2_ne (by omega), xu2_ne (by omega), xu2_ne (by omega), xu2_ne (by omega), xu2_ne (by omega), xu2_ne (by omega), xu2_ne (by omega), xu2_ne (by omega)]
          exact rr.1 k hk
        · rw [xu2_ne (by decide), xu2_ne (by decide), xu2_ne (by decide), xu2_ne (by decide), xu2_ne (by decide), xu2_ne (by decide), xu2_ne (by decide), xu2_ne (by decide)]
          exact rr.2 j hj
      · have ew : prP T n p = (none, q) := by
          unfold prP
          rw [e1]; dsimp only
          rw [e2]; dsimp only
          rw [e3]
        refine And.intro (fun z => absurd z (by decide)) (fun _ => ?_)
        exact And.intro (Or.inl rfl) (kf q ew iv3 u1 (u2.trans (g2.trans d2)).R5)
    · have ew : prP T n p = (none, q) := by
        unfold prP
        rw [e1]; dsimp only
        rw [e2]
      refine And.intro (fun z => absurd z (by decide)) (fun _ => ?_)
      exact And.intro (Or.inl rfl) (kf q ew iv2 g1 (g2.trans d2).R5)
  · have ew : prP T n p = (none, q) := by
      unfold prP
      rw [e1]
    refine And.intro (fun z => absurd z (by decide)) (fun _ => ?_)
    exact And.intro (Or.inl rfl) (kf q ew iv1 d1 d2.R5)
set_option maxRecDepth 100000 in
theorem c_row_w : ∀ (r p m : Nat) (a : Nat → wI) (LE : Int32) (iv : xIv) (o4 : Option Int32), m + r = 24 → 0 < r → LE = nI r → p ≤ n → TC iv T n → CA iv m a → iv 53 2 = nI p → (∀ m' a' q, prR (prW T n) T n r p m a = (some (m', a'), q) → ∀ iv', CA iv' m' a' → R5 iv' iv → Q (some (.int 1)) SH RF iv' lg) → (∀ q, prR (prW T n) T n r p m a = (none, q) → ∀ iv', iv' 53 2 = nI q → R5 iv' iv → Q (some (.int 0)) SH RF iv' lg) → Wp L xs m_Tape_readRow 5 [some (.ref 53), some (.int 1), some (.int 24), some (.int LE), o4.map Value.int] [] SH RF iv lg Q
  | 0, p, m, a, LE, iv, o4, hm, h0, hLE, hp, hT, hA, h2, kt, kf => absurd h0 (Nat.lt_irrefl 0)
  | r + 1, p, m, a, LE, iv, o4, hm, h0, hLE, hp, hT, hA, h2, kt, kf => by
    subst hLE
    have h160 := hT.2.1
    have hpos : ¬ nI (r + 1) ≤ 0 := fun z => by have := (nI_leI (a := r + 1) (b := 0) (by omega) (by decide)).mp z; omega
    have fail : ∀ q iv1, prW T n p = (none, q) → iv1 53 2 = nI q → R5 iv1 iv → Q (some (.int 0)) SH RF iv1 lg := fun q iv1 e d1 d2 => kf q (by unfold prR; rw [e]) iv1 d1 d2
    have good : ∀ x q iv1 (V : Int32), prW T n p = (some x, q) → ¬ V = 0 → iv1 53 2 = nI q → CA iv1 (m + 1) (upA a m x) → R5 iv1 iv → Wp L xs m_Tape_readRow 14 [some (.ref 53), some (.int 1), some (.int 24), some (.int (nI (r + 1))), o4.map Value.int] [.int V] SH RF iv1 lg Q := fun x q iv1 V e hV d1 dA d2 => by
      obtain ⟨hq, -⟩ := (prW_is (T := T) h160 hp).2 x q e
      have hs := sk_le (T := T) h160 hq
      have er : prR (prW T n) T n (r + 1) p m a = if sk T n q < n then (if r = 0 ∨ T (sk T n q) ≠ 44 then (none, sk T n q) else prR (prW T n) T n r (sk T n q + 1) (m + 1) (upA a m x)) else (some (m + 1, upA a m x), sk T n q) := by
        rw [prR, e]
      refine wgo [5] 100 ?_
      refine And.intro (fun _ => ?_) (fun z => absurd hV z)
      refine s_look (hT.cg d2) d1 hq (fun iv2 g1 g2 => ?_)
      by_cases hlt : sk T n q < n
      · rw [if_pos hlt] at er
        have el : lkv T n (sk T n q) = nI (T (sk T n q)) := if_pos hlt
        have ht := ((hT.cg d2).2.2 _ hlt).2
        rw [el]
        refine And.intro (fun _ => ?_) (fun z => absurd (nI_m1 (by omega)) z)
        have T2 := (hT.cg d2).cg g2.R5
        refine And.intro (fun z => ?_) (fun z => ?_)
        · have hr0 : r = 0 := by have := (nI_eq (a := r + 1) (b := 1) (by omega) (by decide)).mp z; omega
          rw [if_pos (Or.inl hr0)] at er
          exact And.intro (Or.inl rfl) (kf _ er iv2 g1 (g2.R5.trans d2))
        · have hr0 : r ≠ 0 := fun w => z (by rw [w]; rfl)
          have ess := sk_sk (T := T) h160 hq
          refine s_take (c := 44) (by decide) T2 g1 hs (fun hc iv3 u1 u2 => ?_) (fun hc iv3 u1 u2 => ?_)
          · rw [ess] at hc u1
            rw [if_neg (fun w => by rcases w with w | w; exact hr0 w; exact w hc.2)] at er
            refine c1 ?_
            have rr : R5 iv3 iv := u2.R5.trans (g2.R5.trans d2)
            rw [er] at kt kf
            exact c_row_w r (sk T n q + 1) (m + 1) (upA a m x) _ iv3 (some V) (by omega) (by omega) (by rw [dm1]; exact nI_subN (b := 1) (by omega) (by omega)) (by omega) (T2.cg u2.R5) ((dA.cg g2).cg u2) u1 (fun m' a' q' e' iv' w1 w2 => kt m' a' q' e' iv' w1 (w2.trans rr)) (fun q' e' iv' w1 w2 => kf q' e' iv' w1 (w2.trans rr))
          · rw [ess] at hc u1
            rw [if_pos (Or.inr (fun w => hc ⟨hlt, w⟩))] at er
            refine c0 ?_
            exact And.intro (Or.inl rfl) (kf _ er iv3 u1 (u2.R5.trans (g2.R5.trans d2)))
      · rw [if_neg hlt] at er
        have el : lkv T n (sk T n q) = -1 := if_neg hlt
        rw [el]
        refine And.intro (fun z => absurd rfl z) (fun _ => ?_)
        exact And.intro (Or.inr rfl) (kt _ _ _ er iv2 (dA.cg g2) (g2.R5.trans d2))
    clear kt kf
    cases o4
    all_goals
      refine wgo [5, 14] 100 ?_
      refine And.intro (fun z => absurd z hpos) (fun _ => ?_)
      refine bb1 ?_
      refine c_readWay (show m < 24 by omega) hp hT hA h2 (fun x q e iv1 d1 dA d2 => ?_) (fun q e iv1 d1 d2 => ?_)
      · exact good x q iv1 1 e (by decide) d1 dA d2
      · refine wgo [] 100 ?_
        refine c0 ?_
        exact And.intro (Or.inl rfl) (fail q iv1 e d1 d2)
set_option maxRecDepth 100000 in
theorem c_row_p : ∀ (r p m : Nat) (a : Nat → pI) (LE : Int32) (iv : xIv) (o4 : Option Int32), m + r = 8 → 0 < r → LE = nI r → p ≤ n → TC iv T n → CP iv m a → iv 53 2 = nI p → (∀ m' a' q, prR (prP T n) T n r p m a = (some (m', a'), q) → ∀ iv', CP iv' m' a' → R5 iv' iv → Q (some (.int 1)) SH RF iv' lg) → (∀ q, prR (prP T n) T n r p m a = (none, q) → ∀ iv', iv' 53 2 = nI q → R5 iv' iv → Q (some (.int 0)) SH RF iv' lg) → Wp L xs m_Tape_readRow 5 [some (.ref 53), some (.int 0), some (.int 8), some (.int LE), o4.map Value.int] [] SH RF iv lg Q
  | 0, p, m, a, LE, iv, o4, hm, h0, hLE, hp, hT, hA, h2, kt, kf => absurd h0 (Nat.lt_irrefl 0)
  | r + 1, p, m, a, LE, iv, o4, hm, h0, hLE, hp, hT, hA, h2, kt, kf => by
    subst hLE
    have h160 := hT.2.1
    have hpos : ¬ nI (r + 1) ≤ 0 := fun z => by have := (nI_leI (a := r + 1) (b := 0) (by omega) (by decide)).mp z; omega
    have fail : ∀ q iv1, prP T n p = (none, q) → iv1 53 2 = nI q → R5 iv1 iv → Q (some (.int 0)) SH RF iv1 lg := fun q iv1 e d1 d2 => kf q (by unfold prR; rw [e]) iv1 d1 d2
    have good : ∀ x q iv1 (V : Int32), prP T n p = (some x, q) → ¬ V = 0 → iv1 53 2 = nI q → CP iv1 (m + 1) (upA a m x) → R5 iv1 iv → Wp L xs m_Tape_readRow 14 [some (.ref 53), some (.int 0), some (.int 8), some (.int (nI (r + 1))), o4.map Value.int] [.int V] SH RF iv1 lg Q := fun x q iv1 V e hV d1 dA d2 => by
      obtain ⟨hq, -⟩ := (prP_is (T := T) h160 hp).2 x q e
      have hs := sk_le (T := T) h160 hq
      have er : prR (prP T n) T n (r + 1) p m a = if sk T n q < n then (if r = 0 ∨ T (sk T n q) ≠ 44 then (none, sk T n q) else prR (prP T n) T n r (sk T n q + 1) (m + 1) (upA a m x)) else (some (m + 1, upA a m x), sk T n q) := by
        rw [prR, e]
      refine wgo [5] 100 ?_
      refine And.intro (fun _ => ?_) (fun z => absurd hV z)
      refine s_look (hT.cg d2) d1 hq (fun iv2 g1 g2 => ?_)
      by_cases hlt : sk T n q < n
      · rw [if_pos hlt] at er
        have el : lkv T n (sk T n q) = nI (T (sk T n q)) := if_pos hlt
        have ht := ((hT.cg d2).2.2 _ hlt).2
        rw [el]
        refine And.intro (fun _ => ?_) (fun z => absurd (nI_m1 (by omega)) z)
        have T2 := (hT.cg d2).cg g2.R5
        refine And.intro (fun z => ?_) (fun z => ?_)
        · have hr0 : r = 0 := by have := (nI_eq (a := r + 1) (b := 1) (by omega) (by decide)).mp z; omega
          rw [if_pos (Or.inl hr0)] at er
          exact And.intro (Or.inl rfl) (kf _ er iv2 g1 (g2.R5.trans d2))
        · have hr0 : r ≠ 0 := fun w => z (by rw [w]; rfl)
          have ess := sk_sk (T := T) h160 hq
          refine s_take (c := 44) (by decide) T2 g1 hs (fun hc iv3 u1 u2 => ?_) (fun hc iv3 u1 u2 => ?_)
          · rw [ess] at hc u1
            rw [if_neg (fun w => by rcases w with w | w; exact hr0 w; exact w hc.2)] at er
            refine c1 ?_
            have rr : R5 iv3 iv := u2.R5.trans (g2.R5.trans d2)
            rw [er] at kt kf
            exact c_row_p r (sk T n q + 1) (m + 1) (upA a m x) _ iv3 (some V) (by omega) (by omega) (by rw [dm1]; exact nI_subN (b := 1) (by omega) (by omega)) (by omega) (T2.cg u2.R5) ((dA.cg g2).cg u2) u1 (fun m' a' q' e' iv' w1 w2 => kt m' a' q' e' iv' w1 (w2.trans rr)) (fun q' e' iv' w1 w2 => kf q' e' iv' w1 (w2.trans rr))
          · rw [ess] at hc u1
            rw [if_pos (Or.inr (fun w => hc ⟨hlt, w⟩))] at er
            refine c0 ?_
            exact And.intro (Or.inl rfl) (kf _ er iv3 u1 (u2.R5.trans (g2.R5.trans d2)))
      · rw [if_neg hlt] at er
        have el : lkv T n (sk T n q) = -1 := if_neg hlt
        rw [el]
        refine And.intro (fun z => absurd rfl z) (fun _ => ?_)
        exact And.intro (Or.inr rfl) (kt _ _ _ er iv2 (dA.cg g2) (g2.R5.trans d2))
    clear kt kf
    cases o4
    all_goals
      refine wgo [5, 14] 100 ?_
      refine And.intro (fun z => absurd z hpos) (fun _ => ?_)
      refine b0 ?_
      refine c_readPerson (show m < 8 by omega) hp hT hA h2 (fun x q e iv1 d1 dA d2 => ?_) (fun q e iv1 d1 d2 => ?_)
      · exact good x q iv1 1 e (by decide) d1 dA d2
      · refine wgo [] 100 ?_
        refine c0 ?_
        exact And.intro (Or.inl rfl) (fail q iv1 e d1 d2)
end TXD
