-- ===== copies =====
theorem cpy0 {f g : Nat → Int32} {n i : Nat} (h : i < n) : va_cpy f g 0 0 n i = f i := by
  rw [pk_cpy_in (Nat.zero_le i) (by omega)]
  congr 1
  omega
theorem xur_s {α : Type} {f : Nat → Nat → α} {k : Nat} {x : Nat → α} : xur f k x k = x := by unfold xur; rw [if_pos rfl]
section COPY
variable {L : Nat} {xs : Nat → Int32} {iv : xIv} {lg : xLg} {Q : xQ} {sg : xIv} {tw : Nat → Int64} {t : Nat}
/-- one row over another -/
def cpR (iv : xIv) (d c n : Nat) : xIv := xur iv d (va_cpy (iv c) (iv d) 0 0 n)
theorem cpR_ne {d c n k : Nat} (h : k ≠ d) : cpR iv d c n k = iv k := xur_ne h
theorem cpR_in {d c n i : Nat} (h : i < n) : cpR iv d c n d i = iv c i := by unfold cpR; rw [xur_s, cpy0 h]
def wyC (iv : xIv) (d c : Nat) : xIv := cpR (cpR (cpR (cpR (cpR (xu2 iv d 0 (iv c 0)) (d + 1) (c + 1) 24) (d + 2) (c + 2) 24) (d + 3) (c + 3) 24) (d + 4) (c + 4) 24) (d + 5) (c + 5) 24
theorem wyC_ne {d c k : Nat} (h : k < d ∨ d + 6 ≤ k) : wyC iv d c k = iv k := by
  unfold wyC
  rw [cpR_ne (by omega), cpR_ne (by omega), cpR_ne (by omega), cpR_ne (by omega), cpR_ne (by omega), xu2_ne (by omega)]
theorem wyC_0 {d c : Nat} (h : c + 6 ≤ d ∨ d + 6 ≤ c) : wyC iv d c d 0 = iv c 0 := by
  unfold wyC
  rw [cpR_ne (by omega), cpR_ne (by omega), cpR_ne (by omega), cpR_ne (by omega), cpR_ne (by omega), xu2_s]
theorem wyC_f {d c : Nat} (h : c + 6 ≤ d ∨ d + 6 ≤ c) {i : Nat} (hi : i < 24) : wyC iv d c (d + 1) i = iv (c + 1) i ∧ wyC iv d c (d + 2) i = iv (c + 2) i ∧ wyC iv d c (d + 3) i = iv (c + 3) i ∧ wyC iv d c (d + 4) i = iv (c + 4) i ∧ wyC iv d c (d + 5) i = iv (c + 5) i := by
  unfold wyC
  refine ⟨?_, ?_, ?_, ?_, ?_⟩
  · rw [cpR_ne (by omega), cpR_ne (by omega), cpR_ne (by omega), cpR_ne (by omega), cpR_in hi, xu2_ne (by omega)]
  · rw [cpR_ne (by omega), cpR_ne (by omega), cpR_ne (by omega), cpR_in hi, cpR_ne (by omega), xu2_ne (by omega)]
  · rw [cpR_ne (by omega), cpR_ne (by omega), cpR_in hi, cpR_ne (by omega), cpR_ne (by omega), xu2_ne (by omega)]
  · rw [cpR_ne (by omega), cpR_in hi, cpR_ne (by omega), cpR_ne (by omega), cpR_ne (by omega), xu2_ne (by omega)]
  · rw [cpR_in hi, cpR_ne (by omega), cpR_ne (by omega), cpR_ne (by omega), cpR_ne (by omega), xu2_ne (by omega)]
set_option maxRecDepth 100000 in
theorem s_wyC {d c : Nat} (h : (d = 20 ∧ c = 2) ∨ (d = 2 ∧ c = 20) ∨ (d = 2 ∧ c = 55)) (k : Q none SH RF (wyC iv d c) lg) : Sp L xs m_Ways_copy [.ref d, .ref c] SH RF iv lg Q := by
  rcases h with ⟨rfl, rfl⟩ | ⟨rfl, rfl⟩ | ⟨rfl, rfl⟩
  all_goals
    refine sgo [] 100 ?_
    refine And.intro (by decide) ?_
    refine And.intro (by decide) ?_
    refine And.intro (by decide) ?_
    refine And.intro (by decide) ?_
    refine And.intro (by decide) ?_
    exact k
def ppC (iv : xIv) (d c : Nat) : xIv := cpR (cpR (cpR (cpR (cpR (cpR (cpR (cpR (xu2 iv d 0 (iv c 0)) (d + 1) (c + 1) 8) (d + 2) (c + 2) 8) (d + 3) (c + 3) 8) (d + 4) (c + 4) 8) (d + 5) (c + 5) 8) (d + 6) (c + 6) 8) (d + 7) (c + 7) 8) (d + 8) (c + 8) 64
theorem ppC_ne {d c k : Nat} (h : k < d ∨ d + 9 ≤ k) : ppC iv d c k = iv k := by
  unfold ppC
  rw [cpR_ne (by omega), cpR_ne (by omega), cpR_ne (by omega), cpR_ne (by omega), cpR_ne (by omega), cpR_ne (by omega), cpR_ne (by omega), cpR_ne (by omega), xu2_ne (by omega)]
theorem ppC_0 {d c : Nat} : ppC iv d c d 0 = iv c 0 := by
  unfold ppC
  rw [cpR_ne (by omega), cpR_ne (by omega), cpR_ne (by omega), cpR_ne (by omega), cpR_ne (by omega), cpR_ne (by omega), cpR_ne (by omega), cpR_ne (by omega), xu2_s]
theorem ppC_f {d c : Nat} (h : c + 9 ≤ d ∨ d + 9 ≤ c) {i : Nat} (hi : i < 8) : ppC iv d c (d + 1) i = iv (c + 1) i ∧ ppC iv d c (d + 2) i = iv (c + 2) i ∧ ppC iv d c (d + 3) i = iv (c + 3) i ∧ ppC iv d c (d + 4) i = iv (c + 4) i ∧ ppC iv d c (d + 5) i = iv (c + 5) i ∧ ppC iv d c (d + 6) i = iv (c + 6) i ∧ ppC iv d c (d + 7) i = iv (c + 7) i := by
  unfold ppC
  refine ⟨?_, ?_, ?_, ?_, ?_, ?_, ?_⟩
  · rw [cpR_ne (by omega), cpR_ne (by omega), cpR_ne (by omega), cpR_ne (by omega), cpR_ne (by omega), cpR_ne (by omega), cpR_ne (by omega), cpR_in hi, xu2_ne (by omega)]
  · rw [cpR_ne (by omega), cpR_ne (by omega), cpR_ne (by omega), cpR_ne (by omega), cpR_ne (by omega), cpR_ne (by omega), cpR_in hi, cpR_ne (by omega), xu2_ne (by omega)]
  · rw [cpR_ne (by omega), cpR_ne (by omega), cpR_ne (by omega), cpR_ne (by omega), cpR_ne (by omega), cpR_in hi, cpR_ne (by omega), cpR_ne (by omega), xu2_ne (by omega)]
  · rw [cpR_ne (by omega), cpR_ne (by omega), cpR_ne (by omega), cpR_ne (by omega), cpR_in hi, cpR_ne (by omega), cpR_ne (by omega), cpR_ne (by omega), xu2_ne (by omega)]
  · rw [cpR_ne (by omega), cpR_ne (by omega), cpR_ne (by omega), cpR_in hi, cpR_ne (by omega), cpR_ne (by omega), cpR_ne (by omega), cpR_ne (by omega), xu2_ne (by omega)]
  · rw [cpR_ne (by omega), cpR_ne (by omega), cpR_in hi, cpR_ne (by omega), cpR_ne (by omega), cpR_ne (by omega), cpR_ne (by omega), cpR_ne (by omega), xu2_ne (by omega)]
  · rw [cpR_ne (by omega), cpR_in hi, cpR_ne (by omega), cpR_ne (by omega), cpR_ne (by omega), cpR_ne (by omega), cpR_ne (by omega), cpR_ne (by omega), xu2_ne (by omega)]
theorem ppC_o {d c : Nat} (h : c + 9 ≤ d ∨ d + 9 ≤ c) {i : Nat} (hi : i < 64) : ppC iv d c (d + 8) i = iv (c + 8) i := by
  unfold ppC
  rw [cpR_in hi, cpR_ne (by omega), cpR_ne (by omega), cpR_ne (by omega), cpR_ne (by omega), cpR_ne (by omega), cpR_ne (by omega), cpR_ne (by omega), xu2_ne (by omega)]
set_option maxRecDepth 100000 in
theorem s_ppC {d c : Nat} (h : (d = 26 ∧ c = 8) ∨ (d = 8 ∧ c = 26) ∨ (d = 8 ∧ c = 61)) (k : Q none SH RF (ppC iv d c) lg) : Sp L xs m_People_copy [.ref d, .ref c] SH RF iv lg Q := by
  rcases h with ⟨rfl, rfl⟩ | ⟨rfl, rfl⟩ | ⟨rfl, rfl⟩
  all_goals
    refine sgo [] 100 ?_
    refine And.intro (by decide) ?_
    refine And.intro (by decide) ?_
    refine And.intro (by decide) ?_
    refine And.intro (by decide) ?_
    refine And.intro (by decide) ?_
    refine And.intro (by decide) ?_
    refine And.intro (by decide) ?_
    refine And.intro (by decide) ?_
    exact k
def woC1 (iv : xIv) (d c : Nat) : xIv := ppC (wyC iv (d + 1) (c + 1)) (d + 7) (c + 7)
def woC2 (iv : xIv) (d c : Nat) : xIv := xu2 iv d 2 (iv c 2)
def woC3 (iv : xIv) (d c : Nat) : xIv := cpR (cpR iv (d + 16) (c + 16) 6) (d + 17) (c + 17) 4
def woC4 (iv : xIv) (d c : Nat) : xIv := xu2 iv d 5 (iv c 5)
def woC5 (iv : xIv) (d c : Nat) : xIv := xu2 iv d 6 (iv c 6)
def woC (iv : xIv) (d c : Nat) : xIv := woC5 (woC4 (woC3 (woC2 (woC1 iv d c) d c) d c) d c) d c
set_option maxRecDepth 100000 in
theorem s_woC {d c : Nat} (h : (d = 19 ∧ c = 1) ∨ (d = 1 ∧ c = 19)) (k : Q none SH RF (woC iv d c) lg) : Sp L xs m_World_copy [.ref d, .ref c] SH RF iv lg Q := by
  rcases h with ⟨rfl, rfl⟩ | ⟨rfl, rfl⟩
  · refine sgo [] 100 ?_
    refine s_wyC (d := 20) (c := 2) (Or.inl ⟨rfl, rfl⟩) ?_
    refine s_ppC (d := 26) (c := 8) (Or.inl ⟨rfl, rfl⟩) ?_
    refine And.intro (by decide) ?_
    refine And.intro (by decide) ?_
    exact k
  · refine sgo [] 100 ?_
    refine s_wyC (d := 2) (c := 20) (Or.inr (Or.inl ⟨rfl, rfl⟩)) ?_
    refine s_ppC (d := 8) (c := 26) (Or.inr (Or.inl ⟨rfl, rfl⟩)) ?_
    refine And.intro (by decide) ?_
    refine And.intro (by decide) ?_
    exact k
theorem woC_ne {d c k : Nat} (h : k < d ∨ d + 18 ≤ k) : woC iv d c k = iv k := by
  unfold woC woC5 woC4 woC3 woC2 woC1
  rw [xu2_ne (by omega), xu2_ne (by omega), cpR_ne (by omega), cpR_ne (by omega), xu2_ne (by omega), ppC_ne (by omega), wyC_ne (by omega)]
theorem woC_in {d c k : Nat} (h1 : d + 1 ≤ k) (h2 : k < d + 16) : woC iv d c k = woC1 iv d c k := by
  unfold woC woC5 woC4 woC3 woC2
  rw [xu2_ne (by omega), xu2_ne (by omega), cpR_ne (by omega), cpR_ne (by omega), xu2_ne (by omega)]
theorem woC1_out {d c k : Nat} (h : k ≤ d ∨ d + 16 ≤ k) : woC1 iv d c k = iv k := by
  unfold woC1
  rw [ppC_ne (by omega), wyC_ne (by omega)]
/-- a copy holds what the other holds -/
theorem CW_copy {d c : Nat} {v : xIv} (hdc : c + 18 ≤ d ∨ d + 18 ≤ c) (h24 : cnt v 0 ≤ 24) (h8 : cnt v 1 ≤ 8) (h6 : cnt v 2 ≤ 6) (h : CW iv c v) : CW (woC iv d c) d v := by
  obtain ⟨⟨y0, y1⟩, ⟨p0, p1, p2⟩, ⟨o0, o1, o2, o3, o4⟩⟩ := h
  have w0 : wyC iv (d + 1) (c + 1) (d + 1) 0 = iv (c + 1) 0 := wyC_0 (by omega)
  refine ⟨⟨?_, fun i hi => ?_⟩, ⟨?_, fun i hi => ?_, fun i hi => ?_⟩, ⟨?_, fun i hi => ?_, fun i hi => ?_, ?_, ?_⟩⟩
  · rw [woC_in (by omega) (by omega)]
    unfold woC1
    rw [ppC_ne (by omega), w0]
    exact y0
  · obtain ⟨a1, a2, a3, a4, a5⟩ := wyC_f (iv := iv) (d := d + 1) (c := c + 1) (by omega) (show i < 24 by omega)
    rw [woC_in (by omega) (by omega), woC_in (by omega) (by omega), woC_in (by omega) (by omega), woC_in (by omega) (by omega), woC_in (by omega) (by omega)]
    unfold woC1
    rw [ppC_ne (by omega), ppC_ne (by omega), ppC_ne (by omega), ppC_ne (by omega), ppC_ne (by omega)]
    obtain ⟨b1, b2, b3, b4, b5⟩ := y1 i hi
    exact ⟨a1.trans b1, a2.trans b2, a3.trans b3, a4.trans b4, a5.trans b5⟩
  · rw [woC_in (by omega) (by omega)]
    unfold woC1
    rw [ppC_0, wyC_ne (by omega)]
    exact p0
  · obtain ⟨a1, a2, a3, a4, a5, a6, a7⟩ := ppC_f (iv := wyC iv (d + 1) (c + 1)) (d := d + 7) (c := c + 7) (by omega) (show i < 8 by omega)
    rw [woC_in (by omega) (by omega), woC_in (by omega) (by omega), woC_in (by omega) (by omega), woC_in (by omega) (by omega), woC_in (by omega) (by omega), woC_in (by omega) (by omega), woC_in (by omega) (by omega)]
    rw [wyC_ne (by omega)] at a1 a2 a3 a4 a5 a6 a7
    obtain ⟨b1, b2, b3, b4, b5, b6, b7⟩ := p1 i hi
    exact ⟨a1.trans b1, a2.trans b2, a3.trans b3, a4.trans b4, a5.trans b5, a6.trans b6, a7.trans b7⟩
  · rw [woC_in (by omega) (by omega)]
    have a := ppC_o (iv := wyC iv (d + 1) (c + 1)) (d := d + 7) (c := c + 7) (by omega) hi
    rw [wyC_ne (by omega)] at a
    exact a.trans (p2 i hi)
  · unfold woC woC5 woC4 woC3 woC2
    rw [xu2_j (by decide), xu2_j (by decide), cpR_ne (by omega), cpR_ne (by omega), xu2_s, woC1_out (by omega)]
    exact o0
  · unfold woC woC5 woC4 woC3 woC2
    rw [xu2_ne (by omega), xu2_ne (by omega), cpR_ne (by omega), cpR_in (by omega), xu2_ne (by omega), woC1_out (by omega)]
    exact o1 i hi
  · unfold woC woC5 woC4 woC3 woC2
    rw [xu2_ne (by omega), xu2_ne (by omega), cpR_in hi, cpR_ne (by omega), xu2_ne (by omega), woC1_out (by omega)]
    exact o2 i hi
  · unfold woC woC5 woC4 woC3 woC2
    rw [xu2_j (by decide), xu2_s, cpR_ne (by omega), cpR_ne (by omega), xu2_ne (by omega), woC1_out (by omega)]
    exact o3
  · unfold woC woC5 woC4 woC3 woC2
    rw [xu2_s, xu2_ne (by omega), cpR_ne (by omega), cpR_ne (by omega), xu2_ne (by omega), woC1_out (by omega)]
    exact o4
/-- two pictures alike where it counts -/
def vEq (v v' : xIv) : Prop := (∀ j, j < 5 → v' 0 j = v 0 j) ∧ (∀ j, j < 120 → v' 1 j = v 1 j) ∧ (∀ j, j < 56 → v' 2 j = v 2 j) ∧ (∀ j, j < 64 → v' 3 j = v 3 j) ∧ (∀ j, j < 4 → v' 4 j = v 4 j) ∧ (∀ j, j < 6 → v' 5 j = v 5 j)
theorem vEq.n {v v' : xIv} (h : vEq v v') (i : Nat) (hi : i < 3) : cnt v' i = cnt v i := by unfold cnt; rw [h.1 i (by omega)]
theorem CW_cg {w : Nat} {v v' : xIv} (h24 : cnt v 0 ≤ 24) (h8 : cnt v 1 ≤ 8) (h6 : cnt v 2 ≤ 6) (e : vEq v v') (h : CW iv w v) : CW iv w v' := by
  obtain ⟨e0, e1, e2, e3, e4, e5⟩ := e
  exact ⟨h.1.keep (fun _ _ _ => rfl) (e0 0 (by decide)) (fun j hj => e1 j (by omega)), h.2.1.keep (fun _ _ _ => rfl) (e0 1 (by decide)) (fun j hj => e2 j (by omega)) e3, h.2.2.keep rfl rfl rfl (e0 2 (by decide)) (e0 3 (by decide)) (e0 4 (by decide)) (fun j hj => e5 j (by omega)) e4⟩
theorem Gv_cg {v v' : xIv} (e : vEq v v') (h : Gv t v) : Gv t v' := by
  obtain ⟨g1, g2, g3, g4, g5, g6, g7, g8, g9, g10⟩ := h
  have n0 := e.n 0 (by decide)
  have n1 := e.n 1 (by decide)
  have n2 := e.n 2 (by decide)
  obtain ⟨e0, e1, e2, e3, e4, e5⟩ := e
  unfold Gv
  rw [n0, n1, n2, e0 0 (by decide), e0 1 (by decide), e0 2 (by decide), e0 3 (by decide), e0 4 (by decide)]
  refine ⟨g1, g2, g3, g4, g5, fun w hw => ?_, fun p hp => ?_, fun j hj => by rw [e3 j hj]; exact g8 j hj, fun j hj => by rw [e4 j hj]; exact g9 j hj, fun x hx => by rw [e5 x (by omega)]; exact g10 x hx⟩
  · have := g6 w hw
    unfold okW at this ⊢
    rw [e1 _ (by omega), e1 _ (by omega), e1 _ (by omega), e1 _ (by omega), e1 _ (by omega)]
    exact this
  · have := g7 p hp
    unfold okP at this ⊢
    rw [e2 _ (by omega), e2 _ (by omega), e2 _ (by omega), e2 _ (by omega)]
    exact this
-- where the k-th carried number lies
def cR (k : Nat) : Nat := if k < 120 then 80 else if k < 176 then 81 else if k < 240 then 82 else if k < 244 then 83 else 84
def cO (k : Nat) : Nat := if k < 120 then k else if k < 176 then k - 120 else if k < 240 then k - 176 else if k < 244 then k - 240 else k - 244
theorem cRO {k : Nat} (h : k < 250) : (k < 120 ∧ cR k = 80 ∧ cO k = k) ∨ (120 ≤ k ∧ k < 176 ∧ cR k = 81 ∧ cO k = k - 120) ∨ (176 ≤ k ∧ k < 240 ∧ cR k = 82 ∧ cO k = k - 176) ∨ (240 ≤ k ∧ k < 244 ∧ cR k = 83 ∧ cO k = k - 240) ∨ (244 ≤ k ∧ cR k = 84 ∧ cO k = k - 244) := by
  unfold cR cO
  by_cases h1 : k < 120
  · rw [if_pos h1, if_pos h1]; exact Or.inl ⟨h1, rfl, rfl⟩
  · rw [if_neg h1, if_neg h1]
    by_cases h2 : k < 176
    · rw [if_pos h2, if_pos h2]; exact Or.inr (Or.inl ⟨by omega, h2, rfl, rfl⟩)
    · rw [if_neg h2, if_neg h2]
      by_cases h3 : k < 240
      · rw [if_pos h3, if_pos h3]; exact Or.inr (Or.inr (Or.inl ⟨by omega, h3, rfl, rfl⟩))
      · rw [if_neg h3, if_neg h3]
        by_cases h4 : k < 244
        · rw [if_pos h4, if_pos h4]; exact Or.inr (Or.inr (Or.inr (Or.inl ⟨by omega, h4, rfl, rfl⟩)))
        · rw [if_neg h4, if_neg h4]; exact Or.inr (Or.inr (Or.inr (Or.inr ⟨by omega, rfl, rfl⟩)))
theorem nI_minus {k c : Nat} {x : Int32} (hx : x.toInt = -(c : Int)) (h : c ≤ k) (hk : k < 1000) : nI k + x = nI (k - c) := by
  refine nI_of_toInt ?_
  rw [addI, nI_toInt (by omega), hx]
  · omega
  · rw [nI_toInt (by omega)]; omega
  · rw [nI_toInt (by omega)]; omega
def crV (iv : xIv) (k : Nat) (v b : Int32) : Int32 := if b = 0 then iv (cR k) (cO k) else v
set_option maxRecDepth 100000 in
theorem m_carried {k : Nat} {v b : Int32} (hk : k < 250) (kk : Q (some (.int (crV iv k v b))) SH RF (xu2 iv (cR k) (cO k) (crV iv k v b)) lg) : Sp L xs m_Mo_carried [.ref 79, .int (nI k), .int v, .int b] SH RF iv lg Q := by
  unfold crV at kk
  have fin : ∀ {R o : Nat} {x y : Int32}, Q (some (.int y)) SH RF (xu2 iv R o y) lg → x = y → Q (some (.int (xu2 iv R o x R o))) SH RF (xu2 iv R o x) lg := fun h e => by rw [xu2_s, e]; exact h
  have lt : ∀ {a b : Nat}, a < b → b < 2 ^ 31 → ¬ nI b ≤ nI a := fun h h2 => lnle (nI_lt h h2)
  rcases cRO hk with ⟨h1, eR, eO⟩ | ⟨h1, h2, eR, eO⟩ | ⟨h1, h2, eR, eO⟩ | ⟨h1, h2, eR, eO⟩ | ⟨h1, eR, eO⟩
  · rw [eR, eO] at kk
    have hv : vp_in (nI k) 120 := vp_N (by omega)
    have ek : (nI k).toNatClampNeg = k := cl
    rw [← ek] at kk
    refine sgo [] 100 ?_
    refine And.intro (fun z => absurd z (lt (b := 120) h1 (by decide))) (fun _ => ?_)
    refine And.intro (fun z => ?_) (fun z => ?_)
    · rw [if_pos z] at kk
      refine And.intro hv ?_
      refine And.intro hv ?_
      refine And.intro hv ?_
      exact fin kk rfl
    · rw [if_neg z] at kk
      refine And.intro hv ?_
      refine And.intro hv ?_
      exact fin kk rfl
  · rw [eR, eO] at kk
    have e1 : nI k + (-120) = nI (k - 120) := nI_minus (by decide) h1 (by omega)
    have hv : vp_in (nI k + (-120)) 56 := by rw [e1]; exact vp_N (by omega)
    have ek : (nI k + (-120)).toNatClampNeg = k - 120 := by rw [e1, cl]
    rw [← ek] at kk
    refine sgo [] 100 ?_
    refine And.intro (fun _ => ?_) (fun z => absurd (nI_le (a := 120) h1 (by omega)) z)
    refine And.intro (fun z => absurd z (by rw [e1]; exact lt (b := 56) (by omega) (by decide))) (fun _ => ?_)
    refine And.intro (fun z => ?_) (fun z => ?_)
    · rw [if_pos z] at kk
      refine And.intro hv ?_
      refine And.intro hv ?_
      refine And.intro hv ?_
      exact fin kk rfl
    · rw [if_neg z] at kk
      refine And.intro hv ?_
      refine And.intro hv ?_
      exact fin kk rfl
  · rw [eR, eO] at kk
    have e1 : nI k + (-120) = nI (k - 120) := nI_minus (by decide) (by omega) (by omega)
    have e2 : nI k + (-120) + (-56) = nI (k - 176) := by rw [e1, nI_minus (c := 56) (by decide) (by omega) (by omega)]; congr 1
    have hv : vp_in (nI k + (-120) + (-56)) 64 := by rw [e2]; exact vp_N (by omega)
    have ek : (nI k + (-120) + (-56)).toNatClampNeg = k - 176 := by rw [e2, cl]
    rw [← ek] at kk
    refine sgo [] 100 ?_
    refine And.intro (fun _ => ?_) (fun z => absurd (nI_le (a := 120) (by omega) (by omega)) z)
    refine And.intro (fun _ => ?_) (fun z => absurd (by rw [e1]; exact nI_le (a := 56) (by omega) (by omega)) z)
    refine And.intro (fun z => absurd z (by rw [e2]; exact lt (b := 64) (by omega) (by decide))) (fun _ => ?_)
    refine And.intro (fun z => ?_) (fun z => ?_)
    · rw [if_pos z] at kk
      refine And.intro hv ?_
      refine And.intro hv ?_
      refine And.intro hv ?_
      exact fin kk rfl
    · rw [if_neg z] at kk
      refine And.intro hv ?_
      refine And.intro hv ?_
      exact fin kk rfl
  · rw [eR, eO] at kk
    have e1 : nI k + (-120) = nI (k - 120) := nI_minus (by decide) (by omega) (by omega)
    have e2 : nI k + (-120) + (-56) = nI (k - 176) := by rw [e1, nI_minus (c := 56) (by decide) (by omega) (by omega)]; congr 1
    have e3 : nI k + (-120) + (-56) + (-64) = nI (k - 240) := by rw [e2, nI_minus (c := 64) (by decide) (by omega) (by omega)]; congr 1
    have hv : vp_in (nI k + (-120) + (-56) + (-64)) 4 := by rw [e3]; exact vp_N (by omega)
    have ek : (nI k + (-120) + (-56) + (-64)).toNatClampNeg = k - 240 := by rw [e3, cl]
    rw [← ek] at kk
    refine sgo [] 100 ?_
    refine And.intro (fun _ => ?_) (fun z => absurd (nI_le (a := 120) (by omega) (by omega)) z)
    refine And.intro (fun _ => ?_) (fun z => absurd (by rw [e1]; exact nI_le (a := 56) (by omega) (by omega)) z)
    refine And.intro (fun _ => ?_) (fun z => absurd (by rw [e2]; exact nI_le (a := 64) (by omega) (by omega)) z)
    refine And.intro (fun z => absurd z (by rw [e3]; exact lt (b := 4) (by omega) (by decide))) (fun _ => ?_)
    refine And.intro (fun z => ?_) (fun z => ?_)
    · rw [if_pos z] at kk
      refine And.intro hv ?_
      refine And.intro hv ?_
      refine And.intro hv ?_
      exact fin kk rfl
    · rw [if_neg z] at kk
      refine And.intro hv ?_
      refine And.intro hv ?_
      exact fin kk rfl
  · rw [eR, eO] at kk
    have e1 : nI k + (-120) = nI (k - 120) := nI_minus (by decide) (by omega) (by omega)
    have e2 : nI k + (-120) + (-56) = nI (k - 176) := by rw [e1, nI_minus (c := 56) (by decide) (by omega) (by omega)]; congr 1
    have e3 : nI k + (-120) + (-56) + (-64) = nI (k - 240) := by rw [e2, nI_minus (c := 64) (by decide) (by omega) (by omega)]; congr 1
    have e4 : nI k + (-120) + (-56) + (-64) + (-4) = nI (k - 244) := by rw [e3, nI_minus (c := 4) (by decide) (by omega) (by omega)]; congr 1
    have hv : vp_in (nI k + (-120) + (-56) + (-64) + (-4)) 6 := by rw [e4]; exact vp_N (by omega)
    have ek : (nI k + (-120) + (-56) + (-64) + (-4)).toNatClampNeg = k - 244 := by rw [e4, cl]
    rw [← ek] at kk
    refine sgo [] 100 ?_
    refine And.intro (fun _ => ?_) (fun z => absurd (nI_le (a := 120) (by omega) (by omega)) z)
    refine And.intro (fun _ => ?_) (fun z => absurd (by rw [e1]; exact nI_le (a := 56) (by omega) (by omega)) z)
    refine And.intro (fun _ => ?_) (fun z => absurd (by rw [e2]; exact nI_le (a := 64) (by omega) (by omega)) z)
    refine And.intro (fun _ => ?_) (fun z => absurd (by rw [e3]; exact nI_le (a := 4) (by omega) (by omega)) z)
    refine And.intro (fun z => ?_) (fun z => ?_)
    · rw [if_pos z] at kk
      refine And.intro hv ?_
      refine And.intro hv ?_
      refine And.intro hv ?_
      exact fin kk rfl
    · rw [if_neg z] at kk
      refine And.intro hv ?_
      refine And.intro hv ?_
      exact fin kk rfl
end COPY
