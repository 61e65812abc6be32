-- ===== town, people: the class =====
def tT (sg : xIv) (j : Nat) : Nat := (sg 86 j).toNatClampNeg
def TXs (sg : xIv) : Prop := tpN sg ≤ 160 ∧ sg 79 12 = nI (tpN sg) ∧ ∀ j, j < tpN sg → sg 86 j = nI (tT sg j) ∧ tT sg j ≤ 126
def wf (x : wI) (f : Nat) : Int32 := match f with
  | 0 => nI x.1
  | 1 => nI x.2.1
  | 2 => nI x.2.2.1
  | 3 => x.2.2.2.1
  | _ => nI x.2.2.2.2
def pf (x : pI) (f : Nat) : Int32 := match f with
  | 0 => nI x.1
  | 1 => nI x.2.1
  | 2 => nI x.2.2
  | 3 => nI x.1
  | _ => 0
def tE (sg : xIv) : xIv := xu2 sg 79 12 0
def twS (sg : xIv) (m : Nat) (a : Nat → wI) : xIv := fun k j => if k = 79 ∧ j = 1 then nI m else if k = 79 ∧ j = 12 then 0 else if k = 80 ∧ j < 5 * m then wf (a (j / 5)) (j % 5) else sg k j
def ppS (sg : xIv) (m : Nat) (a : Nat → pI) : xIv := fun k j => if k = 79 ∧ j = 3 then nI m else if k = 79 ∧ j = 12 then 0 else if k = 81 ∧ j < 7 * m then pf (a (j / 7)) (j % 7) else if k = 82 ∧ j < 64 then 0 else sg k j
theorem prR_ok {α : Type} {W : Nat → Option α × Nat} {T : Nat → Nat} {n : Nat} {ok : α → Prop} (hn : n ≤ 160) (hW : ∀ p, p ≤ n → (∀ q, W p = (none, q) → q ≤ n ∧ sk T n q = q) ∧ ∀ x q, W p = (some x, q) → q ≤ n ∧ ok x) : ∀ (r p m : Nat) (a : Nat → α), p ≤ n → 0 < r → (∀ i, i < m → ok (a i)) → (∀ q, prR W T n r p m a = (none, q) → q ≤ n ∧ sk T n q = q) ∧ ∀ m' a' q, prR W T n r p m a = (some (m', a'), q) → m' ≤ m + r ∧ ∀ i, i < m' → ok (a' i)
  | 0, p, m, a, hp, h0, ha => absurd h0 (Nat.lt_irrefl 0)
  | r + 1, p, m, a, hp, h0, ha => by
    obtain ⟨w1, w2⟩ := hW p hp
    cases e : W p with
    | mk o q =>
      cases o with
      | none =>
        have er : prR W T n (r + 1) p m a = (none, q) := by rw [prR, e]
        rw [er]
        exact ⟨fun q' h => by cases h; exact w1 q e, fun m' a' q' h => by cases h⟩
      | some x =>
        obtain ⟨hq, hx⟩ := w2 x q e
        have hs := sk_le (T := T) hn hq
        have er : prR W T n (r + 1) p m a = if sk T n q < n then (if r = 0 ∨ T (sk T n q) ≠ 44 then (none, sk T n q) else prR W T n r (sk T n q + 1) (m + 1) (upA a m x)) else (some (m + 1, upA a m x), sk T n q) := by rw [prR, e]
        have ha2 : ∀ i, i < m + 1 → ok (upA a m x i) := fun i hi => by
          by_cases c : i = m
          · rw [c, upA_s]; exact hx
          · rw [upA_n c]; exact ha i (by omega)
        rw [er]
        by_cases c : sk T n q < n
        · rw [if_pos c]
          by_cases c2 : r = 0 ∨ T (sk T n q) ≠ 44
          · rw [if_pos c2]
            exact ⟨fun q' h => by cases h; exact ⟨hs, sk_sk hn hq⟩, fun m' a' q' h => by cases h⟩
          · rw [if_neg c2]
            obtain ⟨g1, g2⟩ := prR_ok hn hW r (sk T n q + 1) (m + 1) (upA a m x) (by omega) (by omega) ha2
            exact ⟨g1, fun m' a' q' h => ⟨by have := (g2 m' a' q' h).1; omega, (g2 m' a' q' h).2⟩⟩
        · rw [if_neg c]
          exact ⟨fun q' h => (by cases h), fun m' a' q' h => by cases h; exact ⟨by omega, ha2⟩⟩
section TOWNC
variable {L : Nat} {xs : Nat → Int32} {iv : xIv} {lg : xLg} {Q : xQ} {sg : xIv} {tw : Nat → Int64} {t : Nat}
theorem CX.txs (hC : CX iv lg sg tw) : TXs sg ∧ TC iv (tT sg) (tpN sg) := by
  obtain ⟨n, h1, h2, h3, h4, h5⟩ := hC.2.2.2.1
  have en : tpN sg = n := by unfold tpN; rw [h3, cl]
  have key : ∀ j, j < n → sg 86 j = nI (tT sg j) ∧ tT sg j ≤ 126 := fun j hj => by
    obtain ⟨-, b1, b2⟩ := h4 j hj
    have e : sg 86 j = nI (sg 86 j).toInt.toNat := nI_of_toInt (by omega)
    have et : tT sg j = (sg 86 j).toInt.toNat := by unfold tT; rw [e, cl]; rw [← e]
    rw [et]
    exact ⟨e, by omega⟩
  unfold TXs TC
  rw [en]
  exact ⟨⟨h1, h3, key⟩, h2, h1, fun j hj => ⟨(h4 j hj).1.trans (key j hj).1, (key j hj).2⟩⟩
/-- rows for reading alone -/
theorem CX.r5 {iv' : xIv} (hC : CX iv lg sg tw) (hr : R5 iv' iv) : CX iv' lg sg tw := by
  obtain ⟨⟨hy, hpp, ho⟩, hkk, hrd, htp, hst⟩ := id hC
  have hr' : ∀ k, (k < 53 ∨ k = 54 ∨ 69 ≤ k) → iv' k = iv k := fun k hk => hr.1 k (by omega) (by omega)
  exact hC.of (hy.keep (fun i a b => hr' _ (by omega)) rfl (fun j _ => rfl)) (hpp.keep (fun i a b => hr' _ (by omega)) rfl (fun _ _ => rfl) (fun _ _ => rfl)) (ho.keep (hr' _ (by omega)) (hr' _ (by omega)) (hr' _ (by omega)) rfl rfl rfl (fun j _ => rfl) (fun j _ => rfl)) (hrd.keep (fun k a b => hr' k (by omega)) rfl (fun w f _ _ => rfl)) (fun k a b => hr' k (by omega)) (by rw [hr' 0 (by omega)]) (hr.2 1 (by decide)) (hr' 54 (by omega)) (hr' 69 (by omega)) (fun k a b => hr' k (by omega)) rfl rfl rfl rfl rfl rfl rfl
theorem CX.emp (hC : CX iv lg sg tw) : CX (xu2 iv 53 1 0) lg (tE sg) tw := by
  refine hC.tape (fun k h1 _ => xu2_ne h1) (fun j hj => xu2_j hj) (fun k h1 _ _ => xu2_ne h1) ⟨0, by decide, xu2_s, xu2_s, fun j hj => absurd hj (Nat.not_lt_zero j), fun j hj => ?_⟩
  obtain ⟨n, -, -, -, -, h5⟩ := hC.2.2.2.1
  rw [xu2_ne (by decide)]; exact h5 j hj
theorem twS_k {m : Nat} {a : Nat → wI} {k : Nat} (h1 : k ≠ 79) (h2 : k ≠ 80) : twS sg m a k = sg k := by
  funext j
  unfold twS
  rw [if_neg (fun z => h1 z.1), if_neg (fun z => h1 z.1), if_neg (fun z => h2 z.1)]
theorem twS_79 {m : Nat} {a : Nat → wI} {j : Nat} (h1 : j ≠ 1) (h2 : j ≠ 12) : twS sg m a 79 j = sg 79 j := by
  unfold twS
  rw [if_neg (fun z => h1 z.2), if_neg (fun z => h2 z.2), if_neg (fun z => absurd z.1 (by decide))]
theorem twS_n {m : Nat} {a : Nat → wI} : twS sg m a 79 1 = nI m ∧ twS sg m a 79 12 = 0 := ⟨if_pos ⟨rfl, rfl⟩, (if_neg (fun z => absurd z.2 (by decide))).trans (if_pos ⟨rfl, rfl⟩)⟩
theorem twS_f {m : Nat} {a : Nat → wI} {i f : Nat} (hi : i < m) (hf : f < 5) : twS sg m a 80 (5 * i + f) = wf (a i) f := by
  unfold twS
  rw [if_neg (fun z => absurd z.1 (by decide)), if_neg (fun z => absurd z.1 (by decide)), if_pos ⟨rfl, by omega⟩]
  congr 1
  · congr 1; omega
  · omega
theorem twS_o {m : Nat} {a : Nat → wI} {j : Nat} (h : ¬ j < 5 * m) : twS sg m a 80 j = sg 80 j := by
  unfold twS
  rw [if_neg (fun z => absurd z.1 (by decide)), if_neg (fun z => absurd z.1 (by decide)), if_neg (fun z => h z.2)]
theorem CX.twn {m : Nat} {a : Nat → wI} (hC : CX iv lg sg tw) (hm : m ≤ 24) (hA : CA iv m a) : CX (xu2 (wyC (xu2 iv 53 1 0) 2 55) 37 2 0) lg (twS sg m a) tw := by
  have hC1 := hC.emp
  obtain ⟨⟨hy, hpp, ho⟩, hkk, hrd, htp, hst⟩ := id hC1
  have r1 : ∀ k, (k < 2 ∨ 8 ≤ k) → k ≠ 37 → xu2 (wyC (xu2 iv 53 1 0) 2 55) 37 2 0 k = xu2 iv 53 1 0 k := fun k hk h37 => by rw [xu2_ne h37, wyC_ne (by omega)]
  have s79 : ∀ j, j ≠ 1 → twS sg m a 79 j = tE sg 79 j := fun j hj => by
    by_cases c : j = 12
    · rw [c, twS_n.2]; exact xu2_s.symm
    · rw [twS_79 hj c]; exact (xu2_j c).symm
  have sk' : ∀ k, k ≠ 79 → k ≠ 80 → twS sg m a k = tE sg k := fun k h1 h2 => by rw [twS_k h1 h2]; exact (xu2_ne h1).symm
  have v0 : ∀ j, j ≠ 0 → vL (twS sg m a) 0 j = vL (tE sg) 0 j := fun j hj => by
    match j with
    | 0 => exact absurd rfl hj
    | 1 => exact s79 3 (by decide)
    | 2 => exact s79 8 (by decide)
    | 3 => exact s79 6 (by decide)
    | j + 4 => exact s79 9 (by decide)
  refine hC1.of ?_ (hpp.keep (fun i a b => r1 _ (by omega) (by omega)) (v0 1 (by decide)) (fun j _ => congrFun (sk' 81 (by decide) (by decide)) j) (fun j _ => congrFun (sk' 82 (by decide) (by decide)) j)) (ho.keep (r1 _ (by omega) (by omega)) (r1 _ (by omega) (by omega)) (r1 _ (by omega) (by omega)) (v0 2 (by decide)) (v0 3 (by decide)) (v0 4 (by decide)) (fun j _ => congrFun (sk' 84 (by decide) (by decide)) j) (fun j _ => congrFun (sk' 83 (by decide) (by decide)) j)) (RD.zero xu2_s) (fun k a b => r1 k (by omega) (by omega)) (by rw [r1 0 (by omega) (by omega)]) (by rw [r1 53 (by omega) (by omega)]) (r1 54 (by omega) (by omega)) (r1 69 (by omega) (by omega)) (fun k a b => r1 k (by omega) (by omega)) (s79 24 (by decide)) (s79 12 (by decide)) (sk' 86 (by decide) (by decide)) (sk' 96 (by decide) (by decide)) (sk' 97 (by decide) (by decide)) (sk' 98 (by decide) (by decide)) (sk' 99 (by decide) (by decide))
  have hc : cnt (vL (twS sg m a)) 0 = m := by
    show (twS sg m a 79 1).toNatClampNeg = m
    rw [twS_n.1, cl]
  have e : ∀ k, xu2 iv 53 1 0 (55 + k) = iv (55 + k) := fun k => xu2_ne (by omega)
  refine ⟨?_, fun i hi => ?_⟩
  · show xu2 (wyC (xu2 iv 53 1 0) 2 55) 37 2 0 2 0 = twS sg m a 79 1
    rw [xu2_ne (by decide), wyC_0 (by decide), twS_n.1, show xu2 iv 53 1 0 55 = iv 55 from xu2_ne (by decide)]
    exact hA.1
  · rw [hc] at hi
    obtain ⟨w1, w2, w3, w4, w5⟩ := wyC_f (iv := xu2 iv 53 1 0) (d := 2) (c := 55) (by decide) (i := i) (by omega)
    obtain ⟨a1, a2, a3, a4, a5⟩ := hA.2 i hi
    have tf := fun f hf => twS_f (sg := sg) (a := a) (f := f) hi hf
    refine ⟨?_, ?_, ?_, ?_, ?_⟩
    · show xu2 (wyC (xu2 iv 53 1 0) 2 55) 37 2 0 3 i = twS sg m a 80 (5 * i + 0)
      rw [xu2_ne (by decide), tf 0 (by decide)]; exact w1.trans ((congrFun (e 1) i).trans a1)
    · show xu2 (wyC (xu2 iv 53 1 0) 2 55) 37 2 0 4 i = twS sg m a 80 (5 * i + 1)
      rw [xu2_ne (by decide), tf 1 (by decide)]; exact w2.trans ((congrFun (e 2) i).trans a2)
    · show xu2 (wyC (xu2 iv 53 1 0) 2 55) 37 2 0 5 i = twS sg m a 80 (5 * i + 2)
      rw [xu2_ne (by decide), tf 2 (by decide)]; exact w3.trans ((congrFun (e 3) i).trans a3)
    · show xu2 (wyC (xu2 iv 53 1 0) 2 55) 37 2 0 6 i = twS sg m a 80 (5 * i + 3)
      rw [xu2_ne (by decide), tf 3 (by decide)]; exact w4.trans ((congrFun (e 4) i).trans a4)
    · show xu2 (wyC (xu2 iv 53 1 0) 2 55) 37 2 0 7 i = twS sg m a 80 (5 * i + 4)
      rw [xu2_ne (by decide), tf 4 (by decide)]; exact w5.trans ((congrFun (e 5) i).trans a5)
def a0W : Nat → wI := fun _ => (0, 0, 0, 0, 0)
def a0P : Nat → pI := fun _ => (0, 0, 0)
def prT (sg : xIv) : Option (Nat × (Nat → wI)) × Nat := prR (prW (tT sg) (tpN sg)) (tT sg) (tpN sg) 24 0 0 a0W
def prQ (sg : xIv) : Option (Nat × (Nat → pI)) × Nat := prR (prP (tT sg) (tpN sg)) (tT sg) (tpN sg) 8 0 0 a0P
set_option maxRecDepth 100000 in
theorem c_readTown (hC : CX iv lg sg tw) (kt : ∀ m a q, prT sg = (some (m, a), q) → ∀ iv', CA iv' m a → R5 iv' iv → Q (some (.int 1)) SH RF iv' lg) (kf : ∀ q, prT sg = (none, q) → ∀ iv', iv' 53 2 = nI q → R5 iv' iv → Q (some (.int 0)) SH RF iv' lg) : Sp L xs m_Tape_readTown [.ref 53] SH RF iv lg Q := by
  obtain ⟨-, hT⟩ := hC.txs
  have r0 : R5 (xu2 (xu2 iv 55 0 0) 53 2 0) iv := ⟨fun k hk hk2 => by rw [xu2_ne hk, xu2_ne (by omega)], fun j hj => by rw [xu2_j hj, xu2_ne (by decide)]⟩
  refine sgo [] 100 ?_
  refine sgo [5] 100 ?_
  refine c_row_w 24 0 0 a0W _ _ none (by omega) (by decide) rfl (Nat.zero_le _) (hT.cg r0) ⟨by rw [xu2_ne (by decide), xu2_s]; rfl, fun i hi => absurd hi (Nat.not_lt_zero i)⟩ xu2_s (fun m a q e iv' d1 d2 => ?_) (fun q e iv' d1 d2 => ?_)
  · exact And.intro (Or.inr rfl) (kt m a q e iv' d1 (d2.trans r0))
  · exact And.intro (Or.inl rfl) (kf q e iv' d1 (d2.trans r0))
set_option maxRecDepth 100000 in
theorem c_readPeople (hC : CX iv lg sg tw) (kt : ∀ m a q, prQ sg = (some (m, a), q) → ∀ iv', CP iv' m a → R5 iv' iv → Q (some (.int 1)) SH RF iv' lg) (kf : ∀ q, prQ sg = (none, q) → ∀ iv', iv' 53 2 = nI q → R5 iv' iv → Q (some (.int 0)) SH RF iv' lg) : Sp L xs m_Tape_readPeople [.ref 53] SH RF iv lg Q := by
  obtain ⟨-, hT⟩ := hC.txs
  have r0 : R5 (xu2 (xu2 iv 61 0 0) 53 2 0) iv := ⟨fun k hk hk2 => by rw [xu2_ne hk, xu2_ne (by omega)], fun j hj => by rw [xu2_j hj, xu2_ne (by decide)]⟩
  refine sgo [] 100 ?_
  refine sgo [5] 100 ?_
  refine c_row_p 8 0 0 a0P _ _ none (by omega) (by decide) rfl (Nat.zero_le _) (hT.cg r0) ⟨by rw [xu2_ne (by decide), xu2_s]; rfl, fun i hi => absurd hi (Nat.not_lt_zero i)⟩ xu2_s (fun m a q e iv' d1 d2 => ?_) (fun q e iv' d1 d2 => ?_)
  · exact And.intro (Or.inr rfl) (kt m a q e iv' d1 (d2.trans r0))
  · exact And.intro (Or.inl rfl) (kf q e iv' d1 (d2.trans r0))
theorem s_empty (k : Q none SH RF (xu2 iv 53 1 0) lg) : Sp L xs m_Tape_empty [.ref 53] SH RF iv lg Q := by
  refine sgo [] 100 ?_
  exact k
theorem prT_ok (hT : TXs sg) : (∀ q, prT sg = (none, q) → q ≤ tpN sg ∧ sk (tT sg) (tpN sg) q = q) ∧ ∀ m a q, prT sg = (some (m, a), q) → m ≤ 24 ∧ ∀ i, i < m → okI (a i) := by
  obtain ⟨g1, g2⟩ := prR_ok (W := prW (tT sg) (tpN sg)) (T := tT sg) (ok := okI) hT.1 (fun p hp => prW_is hT.1 hp) 24 0 0 a0W (Nat.zero_le _) (by decide) (fun i hi => absurd hi (Nat.not_lt_zero i))
  exact ⟨g1, fun m a q e => ⟨by have := (g2 m a q e).1; omega, (g2 m a q e).2⟩⟩
theorem prQ_ok (hT : TXs sg) : (∀ q, prQ sg = (none, q) → q ≤ tpN sg ∧ sk (tT sg) (tpN sg) q = q) ∧ ∀ m a q, prQ sg = (some (m, a), q) → m ≤ 8 ∧ ∀ i, i < m → okJ (a i) := by
  obtain ⟨g1, g2⟩ := prR_ok (W := prP (tT sg) (tpN sg)) (T := tT sg) (ok := okJ) hT.1 (fun p hp => prP_is hT.1 hp) 8 0 0 a0P (Nat.zero_le _) (by decide) (fun i hi => absurd hi (Nat.not_lt_zero i))
  exact ⟨g1, fun m a q e => ⟨by have := (g2 m a q e).1; omega, (g2 m a q e).2⟩⟩
set_option maxRecDepth 100000 in
theorem c_town (hC : CX iv lg sg tw) (k1 : ∀ m a q, prT sg = (some (m, a), q) → ∀ iv', CX iv' lg (twS sg m a) tw → refS iv' lg iv lg → Q (some (.int (nI m))) SH RF iv' lg) (k0 : ∀ q, prT sg = (none, q) → ∀ iv', CX iv' lg (tE sg) tw → refS iv' lg iv lg → Q (some (.int (-20 - nI q))) SH RF iv' lg) : Sp L xs m_SR_town [.ref 0] SH RF iv lg Q := by
  obtain ⟨hX, hT⟩ := hC.txs
  refine sgo [] 100 ?_
  refine c_readTown hC (fun m a q e iv1 d1 d2 => ?_) (fun q e iv1 d1 d2 => ?_)
  · have hm := ((prT_ok hX).2 m a q e).1
    have C1 := (hC.r5 d2).twn hm d1
    refine s_empty ?_
    refine c1 ?_
    refine s_wyC (d := 2) (c := 55) (by decide) ?_
    refine s_forget ?_
    refine qv (k1 m a q e _ C1 ⟨fun k hk => ?_, fun _ _ => rfl⟩) ?_
    · rw [xu2_ne (by omega), wyC_ne (by omega), xu2_ne (by omega)]; exact d2.1 k (by omega) (by omega)
    · show xu2 (wyC (xu2 iv1 53 1 0) 2 55) 37 2 0 2 0 = nI m
      rw [xu2_ne (by decide), wyC_0 (by decide), show xu2 iv1 53 1 0 55 = iv1 55 from xu2_ne (by decide)]
      exact d1.1
  · refine s_empty ?_
    refine c0 ?_
    refine qv (k0 q e _ (hC.r5 d2).emp ⟨fun k hk => ?_, fun _ _ => rfl⟩) ?_
    · rw [xu2_ne (by omega)]; exact d2.1 k (by omega) (by omega)
    · rw [d1]
theorem ppS_k {m : Nat} {a : Nat → pI} {k : Nat} (h1 : k ≠ 79) (h2 : k ≠ 81) (h3 : k ≠ 82) : ppS sg m a k = sg k := by
  funext j
  unfold ppS
  rw [if_neg (fun z => h1 z.1), if_neg (fun z => h1 z.1), if_neg (fun z => h2 z.1), if_neg (fun z => h3 z.1)]
theorem ppS_79 {m : Nat} {a : Nat → pI} {j : Nat} (h1 : j ≠ 3) (h2 : j ≠ 12) : ppS sg m a 79 j = sg 79 j := by
  unfold ppS
  rw [if_neg (fun z => h1 z.2), if_neg (fun z => h2 z.2), if_neg (fun z => absurd z.1 (by decide)), if_neg (fun z => absurd z.1 (by decide))]
theorem ppS_n {m : Nat} {a : Nat → pI} : ppS sg m a 79 3 = nI m ∧ ppS sg m a 79 12 = 0 := ⟨if_pos ⟨rfl, rfl⟩, (if_neg (fun z => absurd z.2 (by decide))).trans (if_pos ⟨rfl, rfl⟩)⟩
theorem ppS_f {m : Nat} {a : Nat → pI} {i f : Nat} (hi : i < m) (hf : f < 7) : ppS sg m a 81 (7 * i + f) = pf (a i) f := by
  unfold ppS
  rw [if_neg (fun z => absurd z.1 (by decide)), if_neg (fun z => absurd z.1 (by decide)), if_pos ⟨rfl, by omega⟩]
  congr 1
  · congr 1; omega
  · omega
theorem ppS_o {m : Nat} {a : Nat → pI} {j : Nat} (h : ¬ j < 7 * m) : ppS sg m a 81 j = sg 81 j := by
  unfold ppS
  rw [if_neg (fun z => absurd z.1 (by decide)), if_neg (fun z => absurd z.1 (by decide)), if_neg (fun z => h z.2), if_neg (fun z => absurd z.1 (by decide))]
theorem ppS_82 {m : Nat} {a : Nat → pI} {j : Nat} : (j < 64 → ppS sg m a 82 j = 0) ∧ (¬ j < 64 → ppS sg m a 82 j = sg 82 j) := by
  unfold ppS
  rw [if_neg (fun z => absurd z.1 (by decide)), if_neg (fun z => absurd z.1 (by decide)), if_neg (fun z => absurd z.1 (by decide))]
  exact ⟨fun h => if_pos ⟨rfl, h⟩, fun h => if_neg (fun z => h z.2)⟩
theorem CX.ppl {m : Nat} {a : Nat → pI} (hC : CX iv lg sg tw) (hm : m ≤ 8) (hA : CP iv m a) : CX (ppC (xu2 iv 53 1 0) 8 61) lg (ppS sg m a) tw := by
  have hC1 := hC.emp
  obtain ⟨⟨hy, hpp, ho⟩, hkk, hrd, htp, hst⟩ := id hC1
  have r1 : ∀ k, (k < 8 ∨ 17 ≤ k) → ppC (xu2 iv 53 1 0) 8 61 k = xu2 iv 53 1 0 k := fun k hk => ppC_ne (by omega)
  have s79 : ∀ j, j ≠ 3 → ppS sg m a 79 j = tE sg 79 j := fun j hj => by
    by_cases c : j = 12
    · rw [c, ppS_n.2]; exact xu2_s.symm
    · rw [ppS_79 hj c]; exact (xu2_j c).symm
  have sk' : ∀ k, k ≠ 79 → k ≠ 81 → k ≠ 82 → ppS sg m a k = tE sg k := fun k h1 h2 h3 => by rw [ppS_k h1 h2 h3]; exact (xu2_ne h1).symm
  have v0 : ∀ j, j ≠ 1 → vL (ppS sg m a) 0 j = vL (tE sg) 0 j := fun j hj => by
    match j with
    | 0 => exact s79 1 (by decide)
    | 1 => exact absurd rfl hj
    | 2 => exact s79 8 (by decide)
    | 3 => exact s79 6 (by decide)
    | j + 4 => exact s79 9 (by decide)
  refine hC1.of (hy.keep (fun i a b => r1 _ (by omega)) (v0 0 (by decide)) (fun j _ => congrFun (sk' 80 (by decide) (by decide) (by decide)) j)) ?_ (ho.keep (r1 _ (by omega)) (r1 _ (by omega)) (r1 _ (by omega)) (v0 2 (by decide)) (v0 3 (by decide)) (v0 4 (by decide)) (fun j _ => congrFun (sk' 84 (by decide) (by decide) (by decide)) j) (fun j _ => congrFun (sk' 83 (by decide) (by decide) (by decide)) j)) (hrd.keep (fun k a b => r1 k (by omega)) (v0 0 (by decide)) (fun w f _ _ => congrFun (sk' 80 (by decide) (by decide) (by decide)) _)) (fun k a b => r1 k (by omega)) (by rw [r1 0 (by omega)]) (by rw [r1 53 (by omega)]) (r1 54 (by omega)) (r1 69 (by omega)) (fun k a b => r1 k (by omega)) (s79 24 (by decide)) (s79 12 (by decide)) (sk' 86 (by decide) (by decide) (by decide)) (sk' 96 (by decide) (by decide) (by decide)) (sk' 97 (by decide) (by decide) (by decide)) (sk' 98 (by decide) (by decide) (by decide)) (sk' 99 (by decide) (by decide) (by decide))
  have hc : cnt (vL (ppS sg m a)) 1 = m := by
    show (ppS sg m a 79 3).toNatClampNeg = m
    rw [ppS_n.1, cl]
  have e : ∀ k, xu2 iv 53 1 0 (61 + k) = iv (61 + k) := fun k => xu2_ne (by omega)
  refine ⟨?_, fun i hi => ?_, fun j hj => ?_⟩
  · show ppC (xu2 iv 53 1 0) 8 61 8 0 = ppS sg m a 79 3
    rw [ppC_0, ppS_n.1, show xu2 iv 53 1 0 61 = iv 61 from xu2_ne (by decide)]
    exact hA.1
  · rw [hc] at hi
    obtain ⟨w1, w2, w3, w4, w5, w6, w7⟩ := ppC_f (iv := xu2 iv 53 1 0) (d := 8) (c := 61) (by decide) (i := i) (by omega)
    obtain ⟨a1, a2, a3, a4, a5, a6, a7⟩ := hA.2 i hi
    have tf := fun f hf => ppS_f (sg := sg) (a := a) (f := f) hi hf
    refine ⟨?_, ?_, ?_, ?_, ?_, ?_, ?_⟩
    · show ppC (xu2 iv 53 1 0) 8 61 9 i = ppS sg m a 81 (7 * i + 0)
      rw [tf 0 (by decide)]; exact w1.trans ((congrFun (e 1) i).trans a1)
    · show ppC (xu2 iv 53 1 0) 8 61 10 i = ppS sg m a 81 (7 * i + 1)
      rw [tf 1 (by decide)]; exact w2.trans ((congrFun (e 2) i).trans a2)
    · show ppC (xu2 iv 53 1 0) 8 61 11 i = ppS sg m a 81 (7 * i + 2)
      rw [tf 2 (by decide)]; exact w3.trans ((congrFun (e 3) i).trans a3)
    · show ppC (xu2 iv 53 1 0) 8 61 12 i = ppS sg m a 81 (7 * i + 3)
      rw [tf 3 (by decide)]; exact w4.trans ((congrFun (e 4) i).trans a4)
    · show ppC (xu2 iv 53 1 0) 8 61 13 i = ppS sg m a 81 (7 * i + 4)
      rw [tf 4 (by decide)]; exact w5.trans ((congrFun (e 5) i).trans a5)
    · show ppC (xu2 iv 53 1 0) 8 61 14 i = ppS sg m a 81 (7 * i + 5)
      rw [tf 5 (by decide)]; exact w6.trans ((congrFun (e 6) i).trans a6)
    · show ppC (xu2 iv 53 1 0) 8 61 15 i = ppS sg m a 81 (7 * i + 6)
      rw [tf 6 (by decide)]; exact w7.trans ((congrFun (e 7) i).trans a7)
  · obtain ⟨n, -, -, -, -, h5⟩ := hC1.2.2.2.1
    show ppC (xu2 iv 53 1 0) 8 61 16 j = ppS sg m a 82 j
    rw [ppS_82.1 hj]
    exact (ppC_o (iv := xu2 iv 53 1 0) (d := 8) (c := 61) (by decide) hj).trans (h5 j hj)
set_option maxRecDepth 100000 in
theorem c_people (hC : CX iv lg sg tw) (k1 : ∀ m a q, prQ sg = (some (m, a), q) → ∀ iv', CX iv' lg (ppS sg m a) tw → refS iv' lg iv lg → Q (some (.int (nI m))) SH RF iv' lg) (k0 : ∀ q, prQ sg = (none, q) → ∀ iv', CX iv' lg (tE sg) tw → refS iv' lg iv lg → Q (some (.int (-20 - nI q))) SH RF iv' lg) : Sp L xs m_SR_people [.ref 0] SH RF iv lg Q := by
  obtain ⟨hX, hT⟩ := hC.txs
  refine sgo [] 100 ?_
  refine c_readPeople hC (fun m a q e iv1 d1 d2 => ?_) (fun q e iv1 d1 d2 => ?_)
  · have hm := ((prQ_ok hX).2 m a q e).1
    have C1 := (hC.r5 d2).ppl hm d1
    refine s_empty ?_
    refine c1 ?_
    refine s_ppC (d := 8) (c := 61) (by decide) ?_
    refine qv (k1 m a q e _ C1 ⟨fun k hk => ?_, fun _ _ => rfl⟩) ?_
    · rw [ppC_ne (by omega), xu2_ne (by omega)]; exact d2.1 k (by omega) (by omega)
    · show ppC (xu2 iv1 53 1 0) 8 61 8 0 = nI m
      rw [ppC_0, show xu2 iv1 53 1 0 61 = iv1 61 from xu2_ne (by decide)]
      exact d1.1
  · refine s_empty ?_
    refine c0 ?_
    refine qv (k0 q e _ (hC.r5 d2).emp ⟨fun k hk => ?_, fun _ _ => rfl⟩) ?_
    · rw [xu2_ne (by omega)]; exact d2.1 k (by omega) (by omega)
    · rw [d1]
end TOWNC
