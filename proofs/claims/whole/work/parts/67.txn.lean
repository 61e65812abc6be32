-- ===== texts: the reference (2) =====
section TXN
variable {L : Nat} {xs : Nat → Int32} {iv : xIv} {lg : xLg} {Q : xQ} {T : Nat → Nat} {n : Nat}
theorem rdP_no {f p3 : Nat} (h160 : n ≤ 160) (hp3 : p3 ≤ n) (hf : f < 12) : (sk T n p3 < n ∧ T (sk T n p3) = 97 + f → rdP T n f p3 = (none, sk T n p3)) ∧ (¬ (sk T n p3 < n ∧ T (sk T n p3) = 97 + f) → rdP T n f p3 = rdP T n 99 (sk T n p3)) := by
  have ess := sk_sk (T := T) h160 hp3
  refine ⟨fun h => if_neg (fun w => w.2.2 (by omega)), fun h => ?_⟩
  unfold rdP
  rw [ess]
  by_cases c : sk T n p3 < n ∧ (97 ≤ T (sk T n p3) ∧ T (sk T n p3) ≤ 108)
  · rw [if_pos ⟨c.1, c.2, by omega⟩, if_pos ⟨c.1, c.2, by omega⟩]
  · rw [if_neg (fun w => c ⟨w.1, w.2.1⟩), if_neg (fun w => c ⟨w.1, w.2.1⟩)]
set_option maxRecDepth 100000 in
theorem m_rw_67 {f m p p1 p3 : Nat} {sl : Int32} {o2 o3 : Option Int32} (e1 : rdP T n 99 p = (some f, p1)) (e2 : rdS T n p1 = (some sl, p3)) (hf : f < 12) (hm : m < 24) (hp3 : p3 ≤ n) (hT : TM iv T n) (h0 : iv 87 (5 * m) = nI f) (h3 : iv 87 (5 * m + 3) = sl) (h2 : iv 79 13 = nI p3) (kt : ∀ x q, prW T n p = (some x, q) → ∀ iv', iv' 79 13 = nI q → (∀ j, j < 5 * m → iv' 87 j = iv 87 j) → iv' 87 (5 * m) = wf x 0 → iv' 87 (5 * m + 1) = wf x 1 → iv' 87 (5 * m + 2) = wf x 2 → iv' 87 (5 * m + 3) = wf x 3 → iv' 87 (5 * m + 4) = wf x 4 → S5 iv' iv → Q (some (.int 1)) SH RF iv' lg) (kf : ∀ q, prW T n p = (none, q) → ∀ iv', iv' 79 13 = nI q → S5 iv' iv → Q (some (.int 0)) SH RF iv' lg) : Wp L xs m_Mo_readWay 67 [some (.ref 79), some (.int (nI (5 * m))), o2.map Value.int, o3.map Value.int] [] SH RF iv lg Q := by
  have h160 := hT.2.1
  have hs := sk_le (T := T) h160 hp3
  obtain ⟨n1, n2⟩ := rdP_no (T := T) h160 hp3 hf
  have v0 : vp_in (nI (5 * m)) 120 := vp_N (by omega)
  have i1 : nI (5 * m) + 1 = nI (5 * m + 1) := nI_1 _
  have i2 : nI (5 * m) + 2 = nI (5 * m + 2) := ni_a _ 2
  have i4 : nI (5 * m) + 4 = nI (5 * m + 4) := ni_a _ 4
  have v1 : vp_in (nI (5 * m) + 1) 120 := by rw [i1]; exact vp_N (by omega)
  have v2 : vp_in (nI (5 * m) + 2) 120 := by rw [i2]; exact vp_N (by omega)
  have v4 : vp_in (nI (5 * m) + 4) 120 := by rw [i4]; exact vp_N (by omega)
  have c0' : (nI (5 * m)).toNatClampNeg = 5 * m := cl
  have c1' : (nI (5 * m) + 1).toNatClampNeg = 5 * m + 1 := by rw [i1, cl]
  have c2' : (nI (5 * m) + 2).toNatClampNeg = 5 * m + 2 := by rw [i2, cl]
  have c4' : (nI (5 * m) + 4).toNatClampNeg = 5 * m + 4 := by rw [i4, cl]
  have wno : ∀ q, rdP T n f p3 = (none, q) → prW T n p = (none, q) := fun q e => by
    unfold prW
    rw [e1]; dsimp only
    rw [e2]; dsimp only
    rw [e]
  have wyes : ∀ t p4, rdP T n f p3 = (some t, p4) → prW T n p = (match rdN T n 1 99 p4 with | (none, q) => (none, q) | (some len, p5) => if sk T n p5 < n ∧ T (sk T n p5) = 103 then (some (f, t, len, sl, 1), sk T n p5 + 1) else (some (f, t, len, sl, 0), sk T n p5)) := fun t p4 e => by
    unfold prW
    rw [e1]; dsimp only
    rw [e2]; dsimp only
    rw [e]
    first | rfl | (dsimp only) | (dsimp only; rfl)
  -- the gate
  have at114 : ∀ (iv3 : xIv) (t p4 len p5 : Nat), rdP T n f p3 = (some t, p4) → rdN T n 1 99 p4 = (some len, p5) → p5 ≤ n → iv3 79 13 = nI p5 → (∀ j, j < 5 * m → iv3 87 j = iv 87 j) → iv3 87 (5 * m) = nI f → iv3 87 (5 * m + 1) = nI t → iv3 87 (5 * m + 2) = nI len → iv3 87 (5 * m + 3) = sl → S5 iv3 iv → ∀ o2 o3 : Option Int32, Wp L xs m_Mo_readWay 114 [some (.ref 79), some (.int (nI (5 * m))), o2.map Value.int, o3.map Value.int] [] SH RF iv3 lg Q := fun iv3 t p4 len p5 e3 e4 hp5 g1 g2 g3 g4 g5 g6 g7 o2 o3 => by
    have T3 := hT.cg g7
    have ew := wyes t p4 e3
    rw [e4] at ew
    dsimp only at ew
    have hs5 := sk_le (T := T) h160 hp5
    have fin : ∀ (iv4 : xIv) (g q : Nat), iv4 79 13 = nI (sk T n p5) → S3 iv4 iv3 → prW T n p = (some (f, t, len, sl, g), q) → sk T n p5 + g = q → Q (some (.int 1)) SH RF (xu2 (xu2 iv4 87 (nI (5 * m) + 4).toNatClampNeg (nI g)) 79 13 (xu2 iv4 87 (nI (5 * m) + 4).toNatClampNeg (nI g) 79 13 + xu2 iv4 87 (nI (5 * m) + 4).toNatClampNeg (nI g) 87 (nI (5 * m) + 4).toNatClampNeg)) lg := fun iv4 g q u1 u2 e5 eq => by
      rw [xu2_s, xu2_k (k := 87) (k' := 79) (by decide), u1, ni_a, eq, c4']
      have r87 : ∀ j, j ≠ 5 * m + 4 → xu2 (xu2 iv4 87 (5 * m + 4) (nI g)) 79 13 (nI q) 87 j = iv3 87 j := fun j hj => by rw [xu2_k (by decide), xu2_j hj, u2.1 87 (by decide)]
      refine kt _ _ e5 _ xu2_s (fun j hj => (r87 j (by omega)).trans (g2 j hj)) ((r87 _ (by omega)).trans g3) ((r87 _ (by omega)).trans g4) ((r87 _ (by omega)).trans g5) ((r87 _ (by omega)).trans g6) ?_ ((u2.S5.trans g7).u87.u13)
      rw [xu2_k (by decide), xu2_s]; rfl
    clear kt kf
    cases o2 <;> cases o3
    all_goals
      refine wgo [] 100 ?_
      refine m_next T3 g1 hp5 (fun iv4 u1 u2 => ?_)
      have hl := lkM_eq T3 (q := sk T n p5) (c := 103) (by decide)
      refine And.intro (fun z => ?_) (fun z => ?_)
      · refine And.intro v4 ?_
        refine And.intro v4 ?_
        refine And.intro (Or.inr rfl) ?_
        exact fin iv4 0 _ u1 u2 (ew.trans (if_neg (fun w => z (hl.mpr w)))) rfl
      · refine And.intro v4 ?_
        refine And.intro v4 ?_
        refine And.intro (Or.inr rfl) ?_
        exact fin iv4 1 _ u1 u2 (ew.trans (if_pos (hl.mp (Decidable.not_not.mp z)))) rfl
  -- the length
  have at95 : ∀ (iv2 : xIv) (t p4 : Nat), rdP T n f p3 = (some t, p4) → p4 ≤ n → iv2 79 13 = nI p4 → (∀ j, j < 5 * m → iv2 87 j = iv 87 j) → iv2 87 (5 * m) = nI f → iv2 87 (5 * m + 1) = nI t → iv2 87 (5 * m + 3) = sl → S5 iv2 iv → ∀ o2 o3 : Option Int32, Wp L xs m_Mo_readWay 95 [some (.ref 79), some (.int (nI (5 * m))), o2.map Value.int, o3.map Value.int] [] SH RF iv2 lg Q := fun iv2 t p4 e3 hp4 g1 g2 g3 g4 g6 g7 o2 o3 => by
    have T2 := hT.cg g7
    have ew := wyes t p4 e3
    have good : ∀ (iv3 : xIv) (len p5 : Nat) (o2 o3 : Option Int32), rdN T n 1 99 p4 = (some len, p5) → iv3 79 13 = nI p5 → S3 iv3 iv2 → Wp L xs m_Mo_readWay 114 [some (.ref 79), some (.int (nI (5 * m))), o2.map Value.int, o3.map Value.int] [] SH RF (xu2 iv3 87 (nI (5 * m) + 2).toNatClampNeg (nI len)) lg Q := fun iv3 len p5 o2 o3 e4 u1 u2 => by
      obtain ⟨hp5, -, -⟩ := (rdN_is (T := T) h160 (lo := 1) (hi := 99) hp4).2 len p5 e4
      rw [c2']
      have r87 : ∀ j, j ≠ 5 * m + 2 → xu2 iv3 87 (5 * m + 2) (nI len) 87 j = iv2 87 j := fun j hj => by rw [xu2_j hj, u2.1 87 (by decide)]
      exact at114 _ t p4 len p5 e3 e4 hp5 ((congrFun (xu2_ne (by decide)) 13).trans u1) (fun j hj => (r87 j (by omega)).trans (g2 j hj)) ((r87 _ (by omega)).trans g3) ((r87 _ (by omega)).trans g4) xu2_s ((r87 _ (by omega)).trans g6) (u2.S5.trans g7).u87 o2 o3
    have bad : ∀ (iv3 : xIv) (q : Nat), rdN T n 1 99 p4 = (none, q) → iv3 79 13 = nI q → S3 iv3 iv2 → Q (some (.int 0)) SH RF (xu2 iv3 87 (nI (5 * m) + 2).toNatClampNeg (-1)) lg := fun iv3 q e4 u1 u2 => by
      rw [e4] at ew
      exact kf q ew _ ((congrFun (xu2_ne (by decide)) 13).trans u1) (u2.S5.trans g7).u87
    have hN := rdN_is (T := T) h160 (lo := 1) (hi := 99) hp4
    clear kt kf at114
    cases o2 <;> cases o3
    all_goals
      refine wgo [114] 100 ?_
      refine m_readNumber (lo := 1) (hi := 99) (by decide) (by decide) T2 g1 hp4 (fun len p5 e4 iv3 u1 u2 => ?_) (fun q e4 iv3 u1 u2 => ?_)
      · refine And.intro v2 ?_
        refine And.intro v2 ?_
        refine And.intro (fun _ => ?_) (fun z => absurd (by rw [xu2_s]; exact nI_pos' (by have := (hN.2 len p5 e4).2.2; omega)) z)
        first
        | exact good iv3 len p5 none none e4 u1 u2
        | exact good iv3 len p5 (some _) none e4 u1 u2
        | exact good iv3 len p5 none (some _) e4 u1 u2
        | exact good iv3 len p5 (some _) (some _) e4 u1 u2
      · refine And.intro v2 ?_
        refine And.intro v2 ?_
        refine And.intro (fun z => absurd (by rw [xu2_s] at z; exact z) (by decide)) (fun _ => ?_)
        exact And.intro (Or.inl rfl) (bad iv3 q e4 u1 u2)
  -- the other place
  have at78 : ∀ (iv1 : xIv), ¬ (sk T n p3 < n ∧ T (sk T n p3) = 97 + f) → iv1 79 13 = nI (sk T n p3) → S3 iv1 iv → ∀ o2 o3 : Option Int32, Wp L xs m_Mo_readWay 78 [some (.ref 79), some (.int (nI (5 * m))), o2.map Value.int, o3.map Value.int] [] SH RF iv1 lg Q := fun iv1 hne d1 d2 o2 o3 => by
    have T1 := hT.cg d2.S5
    have er := n2 hne
    have hP := rdP_is (T := T) h160 (no := 99) hs
    have good : ∀ (iv2 : xIv) (t p4 : Nat) (o2 o3 : Option Int32), rdP T n 99 (sk T n p3) = (some t, p4) → iv2 79 13 = nI p4 → S3 iv2 iv1 → Wp L xs m_Mo_readWay 95 [some (.ref 79), some (.int (nI (5 * m))), o2.map Value.int, o3.map Value.int] [] SH RF (xu2 iv2 87 (nI (5 * m) + 1).toNatClampNeg (nI t)) lg Q := fun iv2 t p4 o2 o3 e3 u1 u2 => by
      have hp4 := (hP.2 t p4 e3).1
      rw [c1']
      have r87 : ∀ j, j ≠ 5 * m + 1 → xu2 iv2 87 (5 * m + 1) (nI t) 87 j = iv 87 j := fun j hj => by rw [xu2_j hj, u2.1 87 (by decide), d2.1 87 (by decide)]
      exact at95 _ t p4 (er.trans e3) hp4 ((congrFun (xu2_ne (by decide)) 13).trans u1) (fun j hj => r87 j (by omega)) ((r87 _ (by omega)).trans h0) xu2_s ((r87 _ (by omega)).trans h3) (u2.trans d2).S5.u87 o2 o3
    have bad : ∀ (iv2 : xIv) (q : Nat), rdP T n 99 (sk T n p3) = (none, q) → iv2 79 13 = nI q → S3 iv2 iv1 → Q (some (.int 0)) SH RF (xu2 iv2 87 (nI (5 * m) + 1).toNatClampNeg (-1)) lg := fun iv2 q e3 u1 u2 => kf q (wno q (er.trans e3)) _ ((congrFun (xu2_ne (by decide)) 13).trans u1) (u2.trans d2).S5.u87
    clear kt kf at114 at95
    cases o2 <;> cases o3
    all_goals
      refine wgo [95] 100 ?_
      refine m_readPlace T1 d1 hs (fun t p4 e3 iv2 u1 u2 => ?_) (fun q e3 iv2 u1 u2 => ?_)
      · refine And.intro v1 ?_
        refine And.intro v1 ?_
        refine And.intro (fun _ => ?_) (fun z => absurd (by rw [xu2_s]; exact nI_pos' (by have := (hP.2 t p4 e3).2.1; omega)) z)
        first
        | exact good iv2 t p4 none none e3 u1 u2
        | exact good iv2 t p4 (some _) none e3 u1 u2
        | exact good iv2 t p4 none (some _) e3 u1 u2
        | exact good iv2 t p4 (some _) (some _) e3 u1 u2
      · refine And.intro v1 ?_
        refine And.intro v1 ?_
        refine And.intro (fun z => absurd (by rw [xu2_s] at z; exact z) (by decide)) (fun _ => ?_)
        exact And.intro (Or.inl rfl) (bad iv2 q e3 u1 u2)
  have same : ∀ iv1, S3 iv1 iv → (lkv T n (sk T n p3) - 97 = iv1 87 (nI (5 * m)).toNatClampNeg ↔ (sk T n p3 < n ∧ T (sk T n p3) = 97 + f)) := fun iv1 d2 => by
    rw [c0', d2.1 87 (by decide), h0, ie, lkM_sub hT (q := sk T n p3) (c := 97) (C := 97) rfl (by decide), nI_toInt (by omega)]
    by_cases c : sk T n p3 < n
    · rw [if_pos c]
      exact ⟨fun z => ⟨c, by omega⟩, fun z => by omega⟩
    · rw [if_neg c]
      exact ⟨fun z => by omega, fun z => absurd z.1 c⟩
  have kf' : ∀ iv1, (sk T n p3 < n ∧ T (sk T n p3) = 97 + f) → iv1 79 13 = nI (sk T n p3) → S3 iv1 iv → Q (some (.int 0)) SH RF iv1 lg := fun iv1 h d1 d2 => kf _ (wno _ (n1 h)) iv1 d1 d2.S5
  clear kt kf at114 at95
  cases o2 <;> cases o3
  all_goals
    refine wgo [78] 100 ?_
    refine m_next hT h2 hp3 (fun iv1 d1 d2 => ?_)
    refine And.intro v0 ?_
    refine And.intro (fun z => ?_) (fun z => ?_)
    · first
      | exact at78 iv1 (fun w => z ((same iv1 d2).mpr w)) d1 d2 none none
      | exact at78 iv1 (fun w => z ((same iv1 d2).mpr w)) d1 d2 (some _) none
      | exact at78 iv1 (fun w => z ((same iv1 d2).mpr w)) d1 d2 none (some _)
      | exact at78 iv1 (fun w => z ((same iv1 d2).mpr w)) d1 d2 (some _) (some _)
    · exact And.intro (Or.inl rfl) (kf' iv1 ((same iv1 d2).mp (Decidable.not_not.mp z)) d1 d2)
set_option maxRecDepth 100000 in
theorem m_readWay {m p : Nat} {a : Nat → wI} (hm : m < 24) (hp : p ≤ n) (hT : TM iv T n) (hA : RA iv m a) (h2 : iv 79 13 = nI p) (kt : ∀ x q, prW T n p = (some x, q) → ∀ iv', iv' 79 13 = nI q → RA iv' (m + 1) (upA a m x) → S5 iv' iv → Q (some (.int 1)) SH RF iv' lg) (kf : ∀ q, prW T n p = (none, q) → ∀ iv', iv' 79 13 = nI q → S5 iv' iv → Q (some (.int 0)) SH RF iv' lg) : Sp L xs m_Mo_readWay [.ref 79, .int (nI (5 * m))] SH RF iv lg Q := by
  have h160 := hT.2.1
  have v0 : vp_in (nI (5 * m)) 120 := vp_N (by omega)
  have i3 : nI (5 * m) + 3 = nI (5 * m + 3) := ni_a _ 3
  have v3 : vp_in (nI (5 * m) + 3) 120 := by rw [i3]; exact vp_N (by omega)
  have c0' : (nI (5 * m)).toNatClampNeg = 5 * m := cl
  have c3' : (nI (5 * m) + 3).toNatClampNeg = 5 * m + 3 := by rw [i3, cl]
  have hP := rdP_is (T := T) h160 (no := 99) hp
  have kt1 : ∀ iv1, S5 iv1 iv → (∀ j, j < 5 * m → iv1 87 j = iv 87 j) → ∀ x q, prW T n p = (some x, q) → ∀ iv', iv' 79 13 = nI q → (∀ j, j < 5 * m → iv' 87 j = iv1 87 j) → iv' 87 (5 * m) = wf x 0 → iv' 87 (5 * m + 1) = wf x 1 → iv' 87 (5 * m + 2) = wf x 2 → iv' 87 (5 * m + 3) = wf x 3 → iv' 87 (5 * m + 4) = wf x 4 → S5 iv' iv1 → Q (some (.int 1)) SH RF iv' lg := fun iv1 s1 l1 x q e iv' u1 u2 u3 u4 u5 u6 u7 u8 => kt x q e iv' u1 (hA.add (fun j hj => (u2 j hj).trans (l1 j hj)) u3 u4 u5 u6 u7) (u8.trans s1)
  have kf1 : ∀ iv1, S5 iv1 iv → ∀ q, prW T n p = (none, q) → ∀ iv', iv' 79 13 = nI q → S5 iv' iv1 → Q (some (.int 0)) SH RF iv' lg := fun iv1 s1 q e iv' u1 u2 => kf q e iv' u1 (u2.trans s1)
  have wno : ∀ q, rdP T n 99 p = (none, q) → prW T n p = (none, q) := fun q e => by
    unfold prW
    rw [e]
  have wno2 : ∀ f p1 q, rdP T n 99 p = (some f, p1) → rdS T n p1 = (none, q) → prW T n p = (none, q) := fun f p1 q e1 e2 => by
    unfold prW
    rw [e1]; dsimp only
    rw [e2]
  -- a sign was there
  have at29 : ∀ (iv2 : xIv) (f p1 : Nat) (C : Int32) (g : Nat → Int32), rdP T n 99 p = (some f, p1) → f < 12 → p1 ≤ n → sk T n p1 < n → rdS T n p1 = (match rdD T n (sk T n p1 + 1) with | (some d, q) => (some (g d), q) | (none, q) => (none, q)) → (C = 43 ∧ (∀ d, g d = nI d) ∨ C = 45 ∧ ∀ d, g d = - nI d) → iv2 79 13 = nI (sk T n p1) → S5 iv2 iv → (∀ j, j < 5 * m → iv2 87 j = iv 87 j) → iv2 87 (5 * m) = nI f → Wp L xs m_Mo_readWay 29 [some (.ref 79), some (.int (nI (5 * m))), some (.int C), none] [] SH RF iv2 lg Q := fun iv2 f p1 C g e1 hf hp1 hlt es hC d1 s2 l2 h0 => by
    have T2 := hT.cg s2
    have tx : TM (xu2 iv2 79 13 (iv2 79 13 + 1)) T n := T2.cg S3.rfl.up.S5
    have px : xu2 iv2 79 13 (iv2 79 13 + 1) 79 13 = nI (sk T n p1 + 1) := by rw [xu2_s, d1, nI_1]
    have good : ∀ (iv3 : xIv) (d q : Nat) (V : Int32) (o3 : Option Int32), rdD T n (sk T n p1 + 1) = (some d, q) → iv3 79 13 = nI (sk T n (sk T n p1 + 1)) → S3 iv3 (xu2 iv2 79 13 (iv2 79 13 + 1)) → q = sk T n (sk T n p1 + 1) + 1 → V = g d → Wp L xs m_Mo_readWay 67 [some (.ref 79), some (.int (nI (5 * m))), (some C).map Value.int, o3.map Value.int] [] SH RF (xu2 (xu2 iv3 87 (nI (5 * m) + 3).toNatClampNeg V) 79 13 (xu2 iv3 87 (nI (5 * m) + 3).toNatClampNeg V 79 13 + 1)) lg Q := fun iv3 d q V o3 e3 u1 u2 eq eV => by
      obtain ⟨hq, hd⟩ := (rdD_is (T := T) h160 (show sk T n p1 + 1 ≤ n by omega)).2 d q e3
      rw [e3] at es
      dsimp only at es
      rw [c3', xu2_k (k := 87) (k' := 79) (by decide), u1, nI_1, ← eq, eV]
      have r87 : ∀ j, j ≠ 5 * m + 3 → xu2 (xu2 iv3 87 (5 * m + 3) (g d)) 79 13 (nI q) 87 j = iv2 87 j := fun j hj => by rw [xu2_k (by decide), xu2_j hj, u2.1 87 (by decide), xu2_ne (by decide)]
      have s3 : S5 (xu2 (xu2 iv3 87 (5 * m + 3) (g d)) 79 13 (nI q)) iv := ((u2.trans S3.rfl.up).S5.trans s2).u87.u13
      have l3 : ∀ j, j < 5 * m → xu2 (xu2 iv3 87 (5 * m + 3) (g d)) 79 13 (nI q) 87 j = iv 87 j := fun j hj => (r87 j (by omega)).trans (l2 j hj)
      exact m_rw_67 (o2 := some C) (o3 := o3) e1 es hf hm hq (hT.cg s3) ((r87 _ (by omega)).trans h0) (by rw [xu2_k (by decide), xu2_s]) xu2_s (kt1 _ s3 l3) (kf1 _ s3)
    have bad : ∀ (iv3 : xIv) (q : Nat), rdD T n (sk T n p1 + 1) = (none, q) → iv3 79 13 = nI q → S3 iv3 (xu2 iv2 79 13 (iv2 79 13 + 1)) → Q (some (.int 0)) SH RF iv3 lg := fun iv3 q e3 u1 u2 => by
      rw [e3] at es
      exact kf q (wno2 f p1 q e1 es) iv3 u1 ((u2.trans S3.rfl.up).S5.trans s2)
    have hsub := lkM_sub tx (q := sk T n (sk T n p1 + 1)) (c := 48) (C := 48) rfl (by decide)
    have e9 : (9 : Int32).toInt = 9 := by decide
    clear kt kf kt1 kf1
    refine wgo [67] 100 ?_
    refine m_next tx px (by omega) (fun iv3 u1 u2 => ?_)
    refine s_inI (a := 0) (b := 9) (kt := fun h => ?_) (kf := fun h => ?_)
    · have h0' := h.1
      have h1' := h.2
      rw [il, hsub, tl0] at h0'
      rw [il, hsub, e9] at h1'
      have hlt2 : sk T n (sk T n p1 + 1) < n := by
        by_cases c : sk T n (sk T n p1 + 1) < n
        · exact c
        · rw [if_neg c] at h0'; omega
      rw [if_pos hlt2] at h0' h1' hsub
      have eD : rdD T n (sk T n p1 + 1) = (some (T (sk T n (sk T n p1 + 1)) - 48), sk T n (sk T n p1 + 1) + 1) := if_pos ⟨hlt2, by omega, by omega⟩
      have eV : lkv T n (sk T n (sk T n p1 + 1)) - 48 = nI (T (sk T n (sk T n p1 + 1)) - 48) := nI_of_toInt (by omega)
      refine c1 ?_
      rcases hC with ⟨hC, hg⟩ | ⟨hC, hg⟩
      · subst hC
        refine And.intro (fun z => absurd rfl z) (fun _ => ?_)
        refine And.intro v3 ?_
        exact good iv3 _ _ _ (some _) eD u1 u2 rfl (by rw [eV, hg])
      · subst hC
        refine And.intro (fun _ => ?_) (fun z => absurd (by decide) z)
        refine And.intro v3 ?_
        exact good iv3 _ _ _ (some _) eD u1 u2 rfl (by rw [eV, hg])
    · refine c0 ?_
      have hcond : ¬ (sk T n (sk T n p1 + 1) < n ∧ 48 ≤ T (sk T n (sk T n p1 + 1)) ∧ T (sk T n (sk T n p1 + 1)) ≤ 57) := fun w => h ⟨by rw [il, hsub, tl0, if_pos w.1]; omega, by rw [il, hsub, e9, if_pos w.1]; omega⟩
      exact And.intro (Or.inl rfl) (bad iv3 _ (if_neg hcond) u1 u2)
  have at13 : ∀ (iv1 : xIv) (f p1 : Nat), rdP T n 99 p = (some f, p1) → iv1 79 13 = nI p1 → S5 iv1 iv → (∀ j, j < 5 * m → iv1 87 j = iv 87 j) → iv1 87 (5 * m) = nI f → Wp L xs m_Mo_readWay 13 [some (.ref 79), some (.int (nI (5 * m))), none, none] [] SH RF iv1 lg Q := fun iv1 f p1 e1 d1 s1 l1 h0 => by
    obtain ⟨hp1, hf, -⟩ := hP.2 f p1 e1
    have hs := sk_le (T := T) h160 hp1
    have r87 : ∀ iv2, S3 iv2 (xu2 iv1 87 (5 * m + 3) 0) → ∀ j, j ≠ 5 * m + 3 → iv2 87 j = iv1 87 j := fun iv2 u2 j hj => by rw [u2.1 87 (by decide), xu2_j hj]
    have T1 : TM (xu2 iv1 87 (nI (5 * m) + 3).toNatClampNeg 0) T n := (hT.cg s1).cg S5.rfl.u87
    have none67 : ∀ iv2 (C : Int32), iv2 79 13 = nI (sk T n p1) → S3 iv2 (xu2 iv1 87 (5 * m + 3) 0) → ¬ (sk T n p1 < n ∧ T (sk T n p1) = 43) → ¬ (sk T n p1 < n ∧ T (sk T n p1) = 45) → Wp L xs m_Mo_readWay 67 [some (.ref 79), some (.int (nI (5 * m))), (some C).map Value.int, (none : Option Int32).map Value.int] [] SH RF iv2 lg Q := fun iv2 C u1 u2 hc hc2 => by
      have s2 : S5 iv2 iv := u2.S5.trans s1.u87
      refine m_rw_67 (o2 := some C) (o3 := none) e1 ((if_neg hc).trans (if_neg hc2)) hf hm hs (hT.cg s2) ((r87 iv2 u2 _ (by omega)).trans h0) ?_ u1 (kt1 _ s2 (fun j hj => (r87 iv2 u2 j (by omega)).trans (l1 j hj))) (kf1 _ s2)
      rw [u2.1 87 (by decide), xu2_s]
    have sgn : ∀ iv2 (C : Int32) (g : Nat → Int32), iv2 79 13 = nI (sk T n p1) → S3 iv2 (xu2 iv1 87 (5 * m + 3) 0) → sk T n p1 < n → rdS T n p1 = (match rdD T n (sk T n p1 + 1) with | (some d, q) => (some (g d), q) | (none, q) => (none, q)) → (C = 43 ∧ (∀ d, g d = nI d) ∨ C = 45 ∧ ∀ d, g d = - nI d) → Wp L xs m_Mo_readWay 29 [some (.ref 79), some (.int (nI (5 * m))), some (.int C), none] [] SH RF iv2 lg Q := fun iv2 C g u1 u2 hlt es hC => at29 iv2 f p1 C g e1 hf hp1 hlt es hC u1 (u2.S5.trans s1.u87) (fun j hj => (r87 iv2 u2 j (by omega)).trans (l1 j hj)) ((r87 iv2 u2 _ (by omega)).trans h0)
    clear kt kf kt1 kf1 at29
    refine wgo [29, 67] 100 ?_
    refine And.intro v3 ?_
    refine m_next T1 ((congrFun (xu2_ne (by decide)) 13).trans d1) hp1 (fun iv2 u1 u2 => ?_)
    rw [c3'] at u2
    have l43 := lkM_eq T1 (q := sk T n p1) (c := 43) (by decide)
    have l45 := lkM_eq T1 (q := sk T n p1) (c := 45) (by decide)
    refine And.intro (fun z => ?_) (fun z => ?_)
    · have hc := l43.mp z
      exact sgn iv2 _ (fun d => nI d) u1 u2 hc.1 (if_pos hc) (Or.inl ⟨z, fun _ => rfl⟩)
    · have hc : ¬ (sk T n p1 < n ∧ T (sk T n p1) = 43) := fun w => z (l43.mpr w)
      refine And.intro (fun z2 => ?_) (fun z2 => ?_)
      · exact none67 iv2 _ u1 u2 hc (fun w => z2 (l45.mpr w))
      · have hc2 := l45.mp (Decidable.not_not.mp z2)
        exact sgn iv2 _ (fun d => - nI d) u1 u2 hc2.1 ((if_neg hc).trans (if_pos hc2)) (Or.inr ⟨Decidable.not_not.mp z2, fun _ => rfl⟩)
  clear kt kt1 kf1 at29
  refine sgo [13] 100 ?_
  refine m_readPlace hT h2 hp (fun f p1 e1 iv1 d1 d2 => ?_) (fun q e1 iv1 d1 d2 => ?_)
  · refine And.intro v0 ?_
    refine And.intro v0 ?_
    refine And.intro (fun _ => ?_) (fun z => absurd (by rw [xu2_s]; exact nI_pos' (by have := (hP.2 f p1 e1).2.1; omega)) z)
    refine at13 _ f p1 e1 ((congrFun (xu2_ne (by decide)) 13).trans d1) d2.S5.u87 (fun j hj => ?_) ?_
    · rw [c0', xu2_j (by omega), d2.1 87 (by decide)]
    · rw [c0', xu2_s]
  · refine And.intro v0 ?_
    refine And.intro v0 ?_
    refine And.intro (fun z => absurd (by rw [xu2_s] at z; exact z) (by decide)) (fun _ => ?_)
    exact And.intro (Or.inl rfl) (kf q (wno q e1) _ ((congrFun (xu2_ne (by decide)) 13).trans d1) d2.S5.u87)
set_option maxRecDepth 100000 in
theorem m_readOne {m p : Nat} {a : Nat → pI} (hm : m < 24) (hp : p ≤ n) (hT : TM iv T n) (hA : RP iv m a) (h2 : iv 79 13 = nI p) (kt : ∀ x q, prP T n p = (some x, q) → ∀ iv', iv' 79 13 = nI q → RP iv' (m + 1) (upA a m x) → S5 iv' iv → Q (some (.int 1)) SH RF iv' lg) (kf : ∀ q, prP T n p = (none, q) → ∀ iv', iv' 79 13 = nI q → S5 iv' iv → Q (some (.int 0)) SH RF iv' lg) : Sp L xs m_Mo_readOne [.ref 79, .int (nI (5 * m))] SH RF iv lg Q := by
  have h160 := hT.2.1
  have v0 : vp_in (nI (5 * m)) 120 := vp_N (by omega)
  have i1 : nI (5 * m) + 1 = nI (5 * m + 1) := nI_1 _
  have i2 : nI (5 * m) + 2 = nI (5 * m + 2) := ni_a _ 2
  have v1 : vp_in (nI (5 * m) + 1) 120 := by rw [i1]; exact vp_N (by omega)
  have v2 : vp_in (nI (5 * m) + 2) 120 := by rw [i2]; exact vp_N (by omega)
  have c0' : (nI (5 * m)).toNatClampNeg = 5 * m := cl
  have c1' : (nI (5 * m) + 1).toNatClampNeg = 5 * m + 1 := by rw [i1, cl]
  have c2' : (nI (5 * m) + 2).toNatClampNeg = 5 * m + 2 := by rw [i2, cl]
  have hP := rdP_is (T := T) h160 (no := 99) hp
  -- the ring
  have at52 : ∀ (iv2 : xIv) (f p1 kd : Nat) (C : Int32), rdP T n 99 p = (some f, p1) → rdK T n p1 = (some kd, sk T n p1 + 1) → sk T n p1 < n → iv2 79 13 = nI (sk T n p1) → S5 iv2 iv → (∀ j, j < 5 * m → iv2 87 j = iv 87 j) → iv2 87 (5 * m) = nI f → iv2 87 (5 * m + 1) = nI kd → Wp L xs m_Mo_readOne 52 [some (.ref 79), some (.int (nI (5 * m))), some (.int C)] [] SH RF iv2 lg Q := fun iv2 f p1 kd C e1 e2 hlt d1 s2 l2 h0 h1 => by
    have tx : TM (xu2 iv2 79 13 (iv2 79 13 + 1)) T n := (hT.cg s2).cg S3.rfl.up.S5
    have px : xu2 iv2 79 13 (iv2 79 13 + 1) 79 13 = nI (sk T n p1 + 1) := by rw [xu2_s, d1, nI_1]
    have hN := rdN_is (T := T) h160 (lo := 0) (hi := 99999) (show sk T n p1 + 1 ≤ n by omega)
    have good : ∀ (iv3 : xIv) (r p3 : Nat), rdN T n 0 99999 (sk T n p1 + 1) = (some r, p3) → iv3 79 13 = nI p3 → S3 iv3 (xu2 iv2 79 13 (iv2 79 13 + 1)) → Q (some (.int 1)) SH RF (xu2 iv3 87 (nI (5 * m) + 2).toNatClampNeg (nI r)) lg := fun iv3 r p3 e3 u1 u2 => by
      rw [c2']
      have r87 : ∀ j, j ≠ 5 * m + 2 → xu2 iv3 87 (5 * m + 2) (nI r) 87 j = iv2 87 j := fun j hj => by rw [xu2_j hj, u2.1 87 (by decide), xu2_ne (by decide)]
      have ew : prP T n p = (some (f, kd, r), p3) := by
        unfold prP
        rw [e1]; dsimp only
        rw [e2]; dsimp only
        rw [e3]
      exact kt _ _ ew _ ((congrFun (xu2_ne (by decide)) 13).trans u1) (hA.add (fun j hj => (r87 j (by omega)).trans (l2 j hj)) ((r87 _ (by omega)).trans h0) ((r87 _ (by omega)).trans h1) xu2_s) ((u2.trans S3.rfl.up).S5.trans s2).u87
    have bad : ∀ (iv3 : xIv) (q : Nat), rdN T n 0 99999 (sk T n p1 + 1) = (none, q) → iv3 79 13 = nI q → S3 iv3 (xu2 iv2 79 13 (iv2 79 13 + 1)) → Q (some (.int 0)) SH RF (xu2 iv3 87 (nI (5 * m) + 2).toNatClampNeg (-1)) lg := fun iv3 q e3 u1 u2 => by
      have ew : prP T n p = (none, q) := by
        unfold prP
        rw [e1]; dsimp only
        rw [e2]; dsimp only
        rw [e3]
      exact kf q ew _ ((congrFun (xu2_ne (by decide)) 13).trans u1) ((u2.trans S3.rfl.up).S5.trans s2).u87
    clear kt kf
    refine wgo [] 100 ?_
    refine m_readNumber (lo := 0) (hi := 99999) (by decide) (by decide) tx px (by omega) (fun r p3 e3 iv3 u1 u2 => ?_) (fun q e3 iv3 u1 u2 => ?_)
    · refine And.intro v2 ?_
      refine And.intro v2 ?_
      refine And.intro (fun z => absurd (by rw [xu2_s] at z; exact z) (lenl (nI_pos' (by have := (hN.2 r p3 e3).2.2; omega)))) (fun _ => ?_)
      exact And.intro (Or.inr rfl) (good iv3 r p3 e3 u1 u2)
    · refine And.intro v2 ?_
      refine And.intro v2 ?_
      refine And.intro (fun _ => ?_) (fun z => absurd (by rw [xu2_s]; decide) z)
      exact And.intro (Or.inl rfl) (bad iv3 q e3 u1 u2)
  -- the kind
  have at42 : ∀ (iv2 : xIv) (f p1 : Nat) (C V : Int32), rdP T n 99 p = (some f, p1) → ((∃ kd, kd < 4 ∧ V = nI kd ∧ rdK T n p1 = (some kd, sk T n p1 + 1) ∧ sk T n p1 < n) ∨ (V = -1 ∧ rdK T n p1 = (none, sk T n p1))) → iv2 79 13 = nI (sk T n p1) → S5 iv2 iv → (∀ j, j < 5 * m → iv2 87 j = iv 87 j) → iv2 87 (5 * m) = nI f → Wp L xs m_Mo_readOne 42 [some (.ref 79), some (.int (nI (5 * m))), some (.int C)] [.int V, .int (nI (5 * m) + 1), .ref 87] SH RF iv2 lg Q := fun iv2 f p1 C V e1 hV d1 s2 l2 h0 => by
    rcases hV with ⟨kd, hkd, eV, e2, hlt⟩ | ⟨eV, e2⟩
    · subst eV
      have nx : Wp L xs m_Mo_readOne 52 [some (.ref 79), some (.int (nI (5 * m))), some (.int C)] [] SH RF (xu2 iv2 87 (nI (5 * m) + 1).toNatClampNeg (nI kd)) lg Q := by
        rw [c1']
        exact at52 _ f p1 kd C e1 e2 hlt ((congrFun (xu2_ne (by decide)) 13).trans d1) s2.u87 (fun j hj => by rw [xu2_j (by omega)]; exact l2 j hj) (by rw [xu2_j (by omega)]; exact h0) xu2_s
      clear kt kf at52
      refine wgo [52] 100 ?_
      refine And.intro v1 ?_
      refine And.intro v1 ?_
      exact And.intro (fun _ => nx) (fun z => absurd (by rw [xu2_s]; exact nI_pos' (by omega)) z)
    · subst eV
      have ew : prP T n p = (none, sk T n p1) := by
        unfold prP
        rw [e1]; dsimp only
        rw [e2]
      have kk := kf _ ew (xu2 iv2 87 (nI (5 * m) + 1).toNatClampNeg (-1)) ((congrFun (xu2_ne (by decide)) 13).trans d1) s2.u87
      clear kt kf at52
      refine wgo [52] 100 ?_
      refine And.intro v1 ?_
      refine And.intro v1 ?_
      refine And.intro (fun z => absurd (by rw [xu2_s] at z; exact z) (by decide)) (fun _ => ?_)
      exact And.intro (Or.inl rfl) kk
  have at13 : ∀ (iv1 : xIv) (f p1 : Nat), rdP T n 99 p = (some f, p1) → iv1 79 13 = nI p1 → S5 iv1 iv → (∀ j, j < 5 * m → iv1 87 j = iv 87 j) → iv1 87 (5 * m) = nI f → Wp L xs m_Mo_readOne 13 [some (.ref 79), some (.int (nI (5 * m))), none] [] SH RF iv1 lg Q := fun iv1 f p1 e1 d1 s1 l1 h0 => by
    obtain ⟨hp1, hf, -⟩ := hP.2 f p1 e1
    have T1 := hT.cg s1
    have go : ∀ iv2 (C V : Int32), iv2 79 13 = nI (sk T n p1) → S3 iv2 iv1 → ((∃ kd, kd < 4 ∧ V = nI kd ∧ rdK T n p1 = (some kd, sk T n p1 + 1) ∧ sk T n p1 < n) ∨ (V = -1 ∧ rdK T n p1 = (none, sk T n p1))) → Wp L xs m_Mo_readOne 42 [some (.ref 79), some (.int (nI (5 * m))), some (.int C)] [.int V, .int (nI (5 * m) + 1), .ref 87] SH RF iv2 lg Q := fun iv2 C V u1 u2 hV => at42 iv2 f p1 C V e1 hV u1 (u2.S5.trans s1) (fun j hj => by rw [u2.1 87 (by decide)]; exact l1 j hj) (by rw [u2.1 87 (by decide)]; exact h0)
    have l1' := lkM_eq T1 (q := sk T n p1) (c := 103) (by decide)
    have l2' := lkM_eq T1 (q := sk T n p1) (c := 99) (by decide)
    have l3' := lkM_eq T1 (q := sk T n p1) (c := 111) (by decide)
    have l4' := lkM_eq T1 (q := sk T n p1) (c := 112) (by decide)
    clear kt kf at52 at42
    refine wgo [42] 100 ?_
    refine m_next T1 d1 hp1 (fun iv2 u1 u2 => ?_)
    refine And.intro (fun z1 => ?_) (fun z1 => ?_)
    · have h1 : ¬ _ := fun w => z1 (l1'.mpr w)
      refine And.intro (fun z2 => ?_) (fun z2 => ?_)
      · have h2 : ¬ _ := fun w => z2 (l2'.mpr w)
        refine And.intro (fun z3 => ?_) (fun z3 => ?_)
        · have h3 : ¬ _ := fun w => z3 (l3'.mpr w)
          refine And.intro (fun z4 => ?_) (fun z4 => ?_)
          · have h4 : ¬ _ := fun w => z4 (l4'.mpr w)
            exact go iv2 _ _ u1 u2 (Or.inr ⟨rfl, (if_neg h1).trans ((if_neg h2).trans ((if_neg h3).trans (if_neg h4)))⟩)
          · have h4 := l4'.mp (Decidable.not_not.mp z4)
            exact go iv2 _ _ u1 u2 (Or.inl ⟨3, by decide, rfl, (if_neg h1).trans ((if_neg h2).trans ((if_neg h3).trans (if_pos h4))), h4.1⟩)
        · have h3 := l3'.mp (Decidable.not_not.mp z3)
          exact go iv2 _ _ u1 u2 (Or.inl ⟨2, by decide, rfl, (if_neg h1).trans ((if_neg h2).trans (if_pos h3)), h3.1⟩)
      · have h2 := l2'.mp (Decidable.not_not.mp z2)
        exact go iv2 _ _ u1 u2 (Or.inl ⟨1, by decide, rfl, (if_neg h1).trans (if_pos h2), h2.1⟩)
    · have h1 := l1'.mp (Decidable.not_not.mp z1)
      exact go iv2 _ _ u1 u2 (Or.inl ⟨0, by decide, rfl, if_pos h1, h1.1⟩)
  have wno : ∀ q, rdP T n 99 p = (none, q) → prP T n p = (none, q) := fun q e => by
    unfold prP
    rw [e]
  clear kt at52 at42
  refine sgo [13] 100 ?_
  refine m_readPlace hT h2 hp (fun f p1 e1 iv1 d1 d2 => ?_) (fun q e1 iv1 d1 d2 => ?_)
  · refine And.intro v0 ?_
    refine And.intro v0 ?_
    refine And.intro (fun _ => ?_) (fun z => absurd (by rw [xu2_s]; exact nI_pos' (by have := (hP.2 f p1 e1).2.1; omega)) z)
    refine at13 _ f p1 e1 ((congrFun (xu2_ne (by decide)) 13).trans d1) d2.S5.u87 (fun j hj => ?_) ?_
    · rw [c0', xu2_j (by omega), d2.1 87 (by decide)]
    · rw [c0', xu2_s]
  · refine And.intro v0 ?_
    refine And.intro v0 ?_
    refine And.intro (fun z => absurd (by rw [xu2_s] at z; exact z) (by decide)) (fun _ => ?_)
    exact And.intro (Or.inl rfl) (kf q (wno q e1) _ ((congrFun (xu2_ne (by decide)) 13).trans d1) d2.S5.u87)
set_option maxRecDepth 100000 in
theorem m_all_w : ∀ (r p m : Nat) (a : Nat → wI) (KK : Int32) (iv : xIv) (o4 : Option Int32), m + r = 24 → 0 < r → KK = nI m → p ≤ n → TM iv T n → RA iv m a → iv 79 13 = nI p → (∀ m' a' q, prR (prW T n) T n r p m a = (some (m', a'), q) → ∀ iv', RA iv' m' a' → iv' 79 14 = nI m' → S5 iv' iv → Q (some (.int 1)) SH RF iv' lg) → (∀ q, prR (prW T n) T n r p m a = (none, q) → ∀ iv', iv' 79 13 = nI q → S5 iv' iv → Q (some (.int 0)) SH RF iv' lg) → Wp L xs m_Mo_readAll 11 [some (.ref 79), some (.int 1), some (.int 24), some (.int KK), o4.map Value.int] [] SH RF iv lg Q
  | 0, p, m, a, KK, iv, o4, hm, h0, hKK, hp, hT, hA, h2, kt, kf => absurd h0 (Nat.lt_irrefl 0)
  | r + 1, p, m, a, KK, iv, o4, hm, h0, hKK, hp, hT, hA, h2, kt, kf => by
    subst hKK
    have h160 := hT.2.1
    have hlt0 : nI m < (24 : Int32) := nI_lt (b := 24) (by omega) (by decide)
    have e5 : (5 : Int32) * nI m = nI (5 * m) := ni5 m
    have fail : ∀ q iv1, prW T n p = (none, q) → iv1 79 13 = nI q → S5 iv1 iv → Q (some (.int 0)) SH RF iv1 lg := fun q iv1 e d1 d2 => kf q (by unfold prR; rw [e]) iv1 d1 d2
    have good : ∀ x q iv1, prW T n p = (some x, q) → iv1 79 13 = nI q → RA iv1 (m + 1) (upA a m x) → S5 iv1 iv → ∀ o4 : Option Int32, Wp L xs m_Mo_readAll 31 [some (.ref 79), some (.int 1), some (.int 24), some (.int (nI m)), o4.map Value.int] [] SH RF iv1 lg Q := fun x q iv1 e d1 dA d2 o4 => by
      obtain ⟨hq, -⟩ := (prW_is (T := T) h160 hp).2 x q e
      have hs := sk_le (T := T) h160 hq
      have er : prR (prW T n) T n (r + 1) p m a = if sk T n q < n then (if r = 0 ∨ T (sk T n q) ≠ 44 then (none, sk T n q) else prR (prW T n) T n r (sk T n q + 1) (m + 1) (upA a m x)) else (some (m + 1, upA a m x), sk T n q) := by rw [prR, e]
      have T1 : TM (xu2 iv1 79 14 (nI m + 1)) T n := (hT.cg d2).cg S5.rfl.u14
      have p1 : xu2 iv1 79 14 (nI m + 1) 79 13 = nI q := by rw [xu2_j (by decide)]; exact d1
      have A1 : RA (xu2 iv1 79 14 (nI m + 1)) (m + 1) (upA a m x) := dA.cg (fun j _ => congrFun (xu2_ne (by decide)) j)
      have ev : nI m + 1 = nI (m + 1) := nI_1 m
      have fin : ∀ iv2, iv2 79 13 = nI (sk T n q) → S3 iv2 (xu2 iv1 79 14 (nI m + 1)) → (¬ sk T n q < n → Q (some (.int 1)) SH RF iv2 lg) ∧ (sk T n q < n → (r = 0 ∨ T (sk T n q) ≠ 44) → Q (some (.int 0)) SH RF iv2 lg) ∧ (sk T n q < n → ¬ (r = 0 ∨ T (sk T n q) ≠ 44) → ∀ o4 : Option Int32, Wp L xs m_Mo_readAll 11 [some (.ref 79), some (.int 1), some (.int 24), some (.int (nI m + 1)), o4.map Value.int] [] SH RF (xu2 iv2 79 13 (iv2 79 13 + 1)) lg Q) := fun iv2 g1 g2 => by
        have s2 : S5 iv2 iv := g2.S5.trans d2.u14
        have A2 : RA iv2 (m + 1) (upA a m x) := A1.cg (fun j _ => congrFun (g2.1 87 (by decide)) j)
        refine ⟨fun c => ?_, fun c c2 => ?_, fun c c2 o4 => ?_⟩
        · rw [if_neg c] at er
          exact kt _ _ _ er iv2 A2 (by rw [g2.2 14 (by decide), xu2_s, ev]) s2
        · rw [if_pos c, if_pos c2] at er
          exact kf _ er iv2 g1 s2
        · rw [if_pos c, if_neg c2] at er
          rw [er] at kt kf
          exact m_all_w r (sk T n q + 1) (m + 1) (upA a m x) _ _ o4 (by omega) (by omega) ev (by omega) ((hT.cg s2).cg S3.rfl.up.S5) (A2.cg (fun j _ => congrFun (xu2_ne (by decide)) j)) (by rw [xu2_s, g1, nI_1]) (fun m' a' q' e' iv' w1 w2 w3 => kt m' a' q' e' iv' w1 w2 (w3.trans s2.u13)) (fun q' e' iv' w1 w2 => kf q' e' iv' w1 (w2.trans s2.u13))
      have hl := lkM_eq T1 (q := sk T n q) (c := 44) (by decide)
      have ht := fun c : sk T n q < n => (T1.2.2 _ c).2
      clear kt kf
      cases o4
      all_goals
        refine wgo [11] 100 ?_
        refine m_next T1 p1 hq (fun iv2 g1 g2 => ?_)
        obtain ⟨f1, f2, f3⟩ := fin iv2 g1 g2
        by_cases c : sk T n q < n
        · have el : lkv T n (sk T n q) = nI (T (sk T n q)) := if_pos c
          have hpos : (0 : Int32) ≤ lkv T n (sk T n q) := by rw [el]; exact nI_pos' (by have := ht c; omega)
          refine And.intro (fun _ => ?_) (fun z => absurd hpos z)
          refine And.intro (fun z => ?_) (fun z => ?_)
          · exact And.intro (Or.inl rfl) (f2 c (Or.inr (fun w => z (hl.mpr ⟨c, w⟩))))
          · have h44 := (hl.mp (Decidable.not_not.mp z)).2
            refine And.intro (fun z2 => ?_) (fun z2 => ?_)
            · have hr0 : r ≠ 0 := fun w => z2 (by
                have : m = 24 - 1 := by omega
                rw [this]; decide)
              exact f3 c (fun w => by rcases w with w | w; exact hr0 w; exact w h44) (some _)
            · have hr0 : r = 0 := by
                have := Decidable.not_not.mp z2
                have e2 : m = 24 - 1 := (nI_eq (b := 24 - 1) (by omega) (by decide)).mp this
                omega
              exact And.intro (Or.inl rfl) (f2 c (Or.inl hr0))
        · have el : lkv T n (sk T n q) = -1 := if_neg c
          rw [el]
          refine And.intro (fun z => absurd z (by decide)) (fun _ => ?_)
          exact And.intro (Or.inr rfl) (f1 c)
    have rd := fun Q kt kf => m_readWay (L := L) (xs := xs) (iv := iv) (lg := lg) (Q := Q) (T := T) (n := n) (m := m) (p := p) (a := a) (show m < 24 by omega) hp hT hA h2 kt kf
    rw [← e5] at rd
    clear kt kf
    cases o4
    all_goals
      refine wgo [11, 31] 100 ?_
      refine And.intro (fun z => absurd hlt0 (lenl z)) (fun _ => ?_)
      refine b1 ?_
      refine rd _ (fun x q e iv1 d1 dA d2 => ?_) (fun q e iv1 d1 d2 => ?_)
      · refine b1 ?_
        first
        | exact good x q iv1 e d1 dA d2 none
        | exact good x q iv1 e d1 dA d2 (some _)
      · refine b0 ?_
        exact And.intro (Or.inl rfl) (fail q iv1 e d1 d2)
set_option maxRecDepth 100000 in
theorem m_all_p : ∀ (r p m : Nat) (a : Nat → pI) (KK : Int32) (iv : xIv) (o4 : Option Int32), m + r = 8 → 0 < r → KK = nI m → p ≤ n → TM iv T n → RP iv m a → iv 79 13 = nI p → (∀ m' a' q, prR (prP T n) T n r p m a = (some (m', a'), q) → ∀ iv', RP iv' m' a' → iv' 79 14 = nI m' → S5 iv' iv → Q (some (.int 1)) SH RF iv' lg) → (∀ q, prR (prP T n) T n r p m a = (none, q) → ∀ iv', iv' 79 13 = nI q → S5 iv' iv → Q (some (.int 0)) SH RF iv' lg) → Wp L xs m_Mo_readAll 11 [some (.ref 79), some (.int 0), some (.int 8), some (.int KK), o4.map Value.int] [] SH RF iv lg Q
  | 0, p, m, a, KK, iv, o4, hm, h0, hKK, hp, hT, hA, h2, kt, kf => absurd h0 (Nat.lt_irrefl 0)
  | r + 1, p, m, a, KK, iv, o4, hm, h0, hKK, hp, hT, hA, h2, kt, kf => by
    subst hKK
    have h160 := hT.2.1
    have hlt0 : nI m < (8 : Int32) := nI_lt (b := 8) (by omega) (by decide)
    have e5 : (5 : Int32) * nI m = nI (5 * m) := ni5 m
    have fail : ∀ q iv1, prP T n p = (none, q) → iv1 79 13 = nI q → S5 iv1 iv → Q (some (.int 0)) SH RF iv1 lg := fun q iv1 e d1 d2 => kf q (by unfold prR; rw [e]) iv1 d1 d2
    have good : ∀ x q iv1, prP T n p = (some x, q) → iv1 79 13 = nI q → RP iv1 (m + 1) (upA a m x) → S5 iv1 iv → ∀ o4 : Option Int32, Wp L xs m_Mo_readAll 31 [some (.ref 79), some (.int 0), some (.int 8), some (.int (nI m)), o4.map Value.int] [] SH RF iv1 lg Q := fun x q iv1 e d1 dA d2 o4 => by
      obtain ⟨hq, -⟩ := (prP_is (T := T) h160 hp).2 x q e
      have hs := sk_le (T := T) h160 hq
      have er : prR (prP T n) T n (r + 1) p m a = if sk T n q < n then (if r = 0 ∨ T (sk T n q) ≠ 44 then (none, sk T n q) else prR (prP T n) T n r (sk T n q + 1) (m + 1) (upA a m x)) else (some (m + 1, upA a m x), sk T n q) := by rw [prR, e]
      have T1 : TM (xu2 iv1 79 14 (nI m + 1)) T n := (hT.cg d2).cg S5.rfl.u14
      have p1 : xu2 iv1 79 14 (nI m + 1) 79 13 = nI q := by rw [xu2_j (by decide)]; exact d1
      have A1 : RP (xu2 iv1 79 14 (nI m + 1)) (m + 1) (upA a m x) := dA.cg (fun j _ => congrFun (xu2_ne (by decide)) j)
      have ev : nI m + 1 = nI (m + 1) := nI_1 m
      have fin : ∀ iv2, iv2 79 13 = nI (sk T n q) → S3 iv2 (xu2 iv1 79 14 (nI m + 1)) → (¬ sk T n q < n → Q (some (.int 1)) SH RF iv2 lg) ∧ (sk T n q < n → (r = 0 ∨ T (sk T n q) ≠ 44) → Q (some (.int 0)) SH RF iv2 lg) ∧ (sk T n q < n → ¬ (r = 0 ∨ T (sk T n q) ≠ 44) → ∀ o4 : Option Int32, Wp L xs m_Mo_readAll 11 [some (.ref 79), some (.int 0), some (.int 8), some (.int (nI m + 1)), o4.map Value.int] [] SH RF (xu2 iv2 79 13 (iv2 79 13 + 1)) lg Q) := fun iv2 g1 g2 => by
        have s2 : S5 iv2 iv := g2.S5.trans d2.u14
        have A2 : RP iv2 (m + 1) (upA a m x) := A1.cg (fun j _ => congrFun (g2.1 87 (by decide)) j)
        refine ⟨fun c => ?_, fun c c2 => ?_, fun c c2 o4 => ?_⟩
        · rw [if_neg c] at er
          exact kt _ _ _ er iv2 A2 (by rw [g2.2 14 (by decide), xu2_s, ev]) s2
        · rw [if_pos c, if_pos c2] at er
          exact kf _ er iv2 g1 s2
        · rw [if_pos c, if_neg c2] at er
          rw [er] at kt kf
          exact m_all_p r (sk T n q + 1) (m + 1) (upA a m x) _ _ o4 (by omega) (by omega) ev (by omega) ((hT.cg s2).cg S3.rfl.up.S5) (A2.cg (fun j _ => congrFun (xu2_ne (by decide)) j)) (by rw [xu2_s, g1, nI_1]) (fun m' a' q' e' iv' w1 w2 w3 => kt m' a' q' e' iv' w1 w2 (w3.trans s2.u13)) (fun q' e' iv' w1 w2 => kf q' e' iv' w1 (w2.trans s2.u13))
      have hl := lkM_eq T1 (q := sk T n q) (c := 44) (by decide)
      have ht := fun c : sk T n q < n => (T1.2.2 _ c).2
      clear kt kf
      cases o4
      all_goals
        refine wgo [11] 100 ?_
        refine m_next T1 p1 hq (fun iv2 g1 g2 => ?_)
        obtain ⟨f1, f2, f3⟩ := fin iv2 g1 g2
        by_cases c : sk T n q < n
        · have el : lkv T n (sk T n q) = nI (T (sk T n q)) := if_pos c
          have hpos : (0 : Int32) ≤ lkv T n (sk T n q) := by rw [el]; exact nI_pos' (by have := ht c; omega)
          refine And.intro (fun _ => ?_) (fun z => absurd hpos z)
          refine And.intro (fun z => ?_) (fun z => ?_)
          · exact And.intro (Or.inl rfl) (f2 c (Or.inr (fun w => z (hl.mpr ⟨c, w⟩))))
          · have h44 := (hl.mp (Decidable.not_not.mp z)).2
            refine And.intro (fun z2 => ?_) (fun z2 => ?_)
            · have hr0 : r ≠ 0 := fun w => z2 (by
                have : m = 8 - 1 := by omega
                rw [this]; decide)
              exact f3 c (fun w => by rcases w with w | w; exact hr0 w; exact w h44) (some _)
            · have hr0 : r = 0 := by
                have := Decidable.not_not.mp z2
                have e2 : m = 8 - 1 := (nI_eq (b := 8 - 1) (by omega) (by decide)).mp this
                omega
              exact And.intro (Or.inl rfl) (f2 c (Or.inl hr0))
        · have el : lkv T n (sk T n q) = -1 := if_neg c
          rw [el]
          refine And.intro (fun z => absurd z (by decide)) (fun _ => ?_)
          exact And.intro (Or.inr rfl) (f1 c)
    have rd := fun Q kt kf => m_readOne (L := L) (xs := xs) (iv := iv) (lg := lg) (Q := Q) (T := T) (n := n) (m := m) (p := p) (a := a) (show m < 24 by omega) hp hT hA h2 kt kf
    rw [← e5] at rd
    clear kt kf
    cases o4
    all_goals
      refine wgo [11, 31] 100 ?_
      refine And.intro (fun z => absurd hlt0 (lenl z)) (fun _ => ?_)
      refine b0 ?_
      refine rd _ (fun x q e iv1 d1 dA d2 => ?_) (fun q e iv1 d1 d2 => ?_)
      · refine c1 ?_
        first
        | exact good x q iv1 e d1 dA d2 none
        | exact good x q iv1 e d1 dA d2 (some _)
      · refine c0 ?_
        exact And.intro (Or.inl rfl) (fail q iv1 e d1 d2)
end TXN
