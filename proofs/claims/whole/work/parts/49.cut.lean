-- ===== stops: the class =====
theorem mem_ends {v : xIv} {w d y x : Nat} (hok : okW v w) (hd : d < 2) (hy : v 1 (5 * w + d) = nI y) (hx : v 1 (5 * w + (1 - d)) = nI x) (hy12 : y < 12) (hx12 : x < 12) : x ≠ y := by
  intro e
  subst e
  have hd2 : d = 0 ∨ d = 1 := by omega
  rcases hd2 with rfl | rfl
  · exact hok.2.2.1 (hy.trans hx.symm)
  · exact hok.2.2.1 (hx.trans hy.symm)
theorem ends_of {v : xIv} {w d : Nat} (okw : okW v w) (hd : d < 2) : ∃ a b, a < 12 ∧ b < 12 ∧ v 1 (5 * w + d) = nI a ∧ v 1 (5 * w + (1 - d)) = nI b := by
  obtain ⟨a, ha, ea⟩ := isN_of okw.1 (by decide)
  obtain ⟨b, hb, eb⟩ := isN_of okw.2.1 (by decide)
  have h01 : d = 0 ∨ d = 1 := by omega
  rcases h01 with e | e <;> subst e
  · exact ⟨a, b, ha, hb, ea, eb⟩
  · exact ⟨b, a, hb, ha, eb, ea⟩
def CE (iv v : xIv) : Prop := iv 2 0 = nI (cnt v 0) ∧ ∀ w, w < cnt v 0 → iv 3 w = v 1 (5 * w) ∧ iv 4 w = v 1 (5 * w + 1)
theorem CE.cg {iv iv' v : xIv} (h : CE iv v) (h2 : ∀ k, k ≠ 51 → k ≠ 52 → iv' k = iv k) : CE iv' v := by
  unfold CE at h ⊢
  rw [h2 2 (by decide) (by decide), h2 3 (by decide) (by decide), h2 4 (by decide) (by decide)]
  exact h
def FV (iv : xIv) (R : Nat) (f : Nat → Int) : Prop := ∀ w, w < 24 → (iv R w).toInt = f w
def cmC (iv : xIv) (x w _d : Nat) : Prop := iv 52 x = nI w
def CB (iv : xIv) (a : Nat) (l : List Nat) : Prop := ∀ x, x < 12 → (x ∉ l ∨ x = a) → iv 52 x = -1
def CLe (v : xIv) (f : Nat → Int) (l : List Nat) (E : Nat) : Prop := ∀ w d y x, 2 * w + d < E → d < 2 → y < 12 → x < 12 → v 1 (5 * w + d) = nI y → v 1 (5 * w + (1 - d)) = nI x → y ∈ l → f w ≠ sgd d → x ∈ l
theorem CLe.step {v : xIv} {f : Nat → Int} {l : List Nat} {w d y x : Nat} (h : CLe v f l (2 * w + d)) (hd : d < 2) (hy12 : y < 12) (hx12 : x < 12) (hy : v 1 (5 * w + d) = nI y) (hx : v 1 (5 * w + (1 - d)) = nI x) (hs : y ∈ l → f w ≠ sgd d → x ∈ l) : CLe v f l (2 * w + d + 1) := by
  intro w' d' y' x' h1 h2 h3 h4 h5 h6 h7 h8
  by_cases e : 2 * w' + d' < 2 * w + d
  · exact h w' d' y' x' e h2 h3 h4 h5 h6 h7 h8
  · have ew : w' = w := by omega
    have ed : d' = d := by omega
    subst ew; subst ed
    have ey : y' = y := (nI_eq (by omega) (by omega)).mp (h5.symm.trans hy)
    have ex : x' = x := (nI_eq (by omega) (by omega)).mp (h6.symm.trans hx)
    subst ey; subst ex
    exact hs h7 h8
theorem CLe.CL {v : xIv} {f : Nat → Int} {l : List Nat} (hok : ∀ w, w < cnt v 0 → okW v w) (h : CLe v f l (2 * cnt v 0)) : CL v f (fun x => x ∈ l) := by
  intro w hw
  obtain ⟨a, b, ha, hb, ea, eb⟩ := ends_of (d := 0) (hok w hw) (by decide)
  have ea' : eA v w = a := by
    show (v 1 (5 * w + 0)).toNatClampNeg = a
    rw [ea, cl]
  have eb' : eB v w = b := by
    show (v 1 (5 * w + (1 - 0))).toNatClampNeg = b
    rw [eb, cl]
  unfold CLw
  rw [ea', eb']
  refine ⟨fun h1 h2 => ?_, fun h1 h2 => ?_⟩
  · by_cases e : f w = 1
    · exact e
    · exact absurd (h w 0 a b (by omega) (by decide) ha hb ea eb h1 e) h2
  · by_cases e : f w = -1
    · exact e
    · exact absurd (h w 1 b a (by omega) (by decide) hb ha eb ea h1 e) h2
def IN (v : xIv) (f : Nat → Int) (a : Nat) (iv : xIv) (l : List Nat) (m : Int32) : Prop := FV iv 51 f ∧ CB iv a l ∧ MK m l ∧ TR v f a (cmC iv) l
theorem IN.add {v : xIv} {f : Nat → Int} {a : Nat} {iv : xIv} {l : List Nat} {m : Int32} (h : IN v f a iv l m) {w d y x : Nat} (hw : w < cnt v 0) (hd : d < 2) (hx12 : x < 12) (hy : v 1 (5 * w + d) = nI y) (hx : v 1 (5 * w + (1 - d)) = nI x) (h1 : y ∈ l) (h2 : x ∉ l) (h3 : f w ≠ sgd d) : IN v f a (xu2 iv 52 x (nI w)) (x :: l) (m ||| (1 <<< (nI x &&& 31))) := by
  obtain ⟨g1, g2, g3, g4⟩ := h
  have ha := TR.mem g4
  refine ⟨fun w hw => ?_, fun x' hx' hc => ?_, g3.add hx12, Or.inr ⟨TR.cg g4 (fun x' w' d' hx' hc => ?_), h2, hx12, w, d, y, hw, hd, h1, hy, hx, h3, xu2_s⟩⟩
  · rw [xu2_k (by decide)]; exact g1 w hw
  · have hne : x' ≠ x := fun e => by
      subst e
      rcases hc with hc | hc
      · exact hc List.mem_cons_self
      · subst hc; exact h2 ha
    rw [xu2_j hne]
    refine g2 x' hx' ?_
    rcases hc with hc | hc
    · exact Or.inl (fun z => hc (List.mem_cons_of_mem _ z))
    · exact Or.inr hc
  · show xu2 iv 52 x (nI w) 52 x' = nI w'
    rw [xu2_j (fun e : x' = x => h2 (e ▸ hx'))]
    exact hc
section CUT
variable {L : Nat} {xs : Nat → Int32} {iv : xIv} {lg : xLg} {Q : xQ} {v : xIv} {f : Nat → Int} {a b : Nat}
set_option maxRecDepth 100000 in
theorem c_reach {w d y x : Nat} {m : Int32} {l : List Nat} (h24 : cnt v 0 ≤ 24) (hok : ∀ w, w < cnt v 0 → okW v w) (hE : CE iv v) (hI : IN v f a iv l m) (hw : w < cnt v 0) (hd : d < 2) (hy12 : y < 12) (hx12 : x < 12) (hy : v 1 (5 * w + d) = nI y) (hx : v 1 (5 * w + (1 - d)) = nI x) (k : ∀ iv' l' r, IN v f a iv' l' (m ||| r) → (∀ k, k ≠ 52 → iv' k = iv k) → ((l' = l ∧ (y ∈ l → f w ≠ sgd d → x ∈ l)) ∨ (l' = x :: l ∧ x ∉ l)) → Q (some (.int r)) SH RF iv' lg) : Sp L xs m_Cut_reach [.ref 50, .int (nI w), .int (nI y), .int (nI x), .int m] SH RF iv lg Q := by
  have hxy := mem_ends (hok w hw) hd hy hx hy12 hx12
  have vw : vp_in (nI w) 24 := vp_N (by omega)
  have vx : vp_in (nI x) 12 := vp_N hx12
  obtain ⟨g1, g2, g3, g4⟩ := id hI
  have bx := g3.bit hx12
  have bY := g3.bit hy12
  have fw : (iv 51 (nI w).toNatClampNeg).toInt = f w := by rw [cl]; exact g1 w (by omega)
  have k0 : (y ∈ l → f w ≠ sgd d → x ∈ l) → Q (some (.int 0)) SH RF iv lg := fun z => k iv l 0 (by rw [Int32.or_zero]; exact hI) (fun _ _ => rfl) (Or.inl ⟨rfl, z⟩)
  have k1 : y ∈ l → x ∉ l → f w ≠ sgd d → Q (some (.int (1 <<< (nI x &&& 31)))) SH RF (xu2 iv 52 (nI x).toNatClampNeg (nI w)) lg := fun z1 z2 z3 => by
    rw [cl]
    exact k _ (x :: l) _ (hI.add hw hd hx12 hy hx z1 z2 z3) (fun k hk => xu2_ne hk) (Or.inr ⟨rfl, z2⟩)
  have key : ∀ z5 : Int32, z5.toInt = sgd d → Wp L xs m_Cut_reach 11 [some (.ref 50), some (.int (nI w)), some (.int (nI y)), some (.int (nI x)), some (.int m), some (.int z5)] [] SH RF iv lg Q := fun z5 e5 => by
    refine wgo [] 100 ?_
    refine And.intro (fun z => ?_) (fun z => ?_)
    · exact k0 (fun w1 _ => absurd w1 (bY.mp z))
    · have hyl : y ∈ l := Decidable.not_not.mp (fun w => z (bY.mpr w))
      refine And.intro (fun z2 => ?_) (fun z2 => ?_)
      · exact k0 (fun _ _ => Decidable.not_not.mp (fun w => z2 (bx.mpr w)))
      · have hxl : x ∉ l := bx.mp (Decidable.not_not.mp z2)
        refine And.intro vw ?_
        refine And.intro (fun z3 => ?_) (fun z3 => ?_)
        · refine And.intro vx ?_
          exact k1 hyl hxl (fun e => z3 (ie.mpr (fw.trans (e.trans e5.symm))))
        · exact k0 (fun _ hne => absurd (fw.symm.trans ((ie.mp (Decidable.not_not.mp z3)).trans e5)) hne)
  have i3 : (d = 0 ∧ iv 3 (nI w).toNatClampNeg = nI y) ∨ (d = 1 ∧ ¬ iv 3 (nI w).toNatClampNeg = nI y) := by
    rw [cl]
    have e := (hE.2 w hw).1
    have hd2 : d = 0 ∨ d = 1 := by omega
    rcases hd2 with rfl | rfl
    · exact Or.inl ⟨rfl, e.trans hy⟩
    · refine Or.inr ⟨rfl, fun z => ?_⟩
      have := (nI_eq (by omega) (by omega)).mp ((hx.symm.trans e.symm).trans z)
      exact hxy this
  clear k k0 k1
  refine sgo [11] 100 ?_
  refine And.intro vw ?_
  refine And.intro (fun z => ?_) (fun z => ?_)
  · refine key (-1) ?_
    rcases i3 with ⟨e1, e2⟩ | ⟨e1, e2⟩
    · exact absurd e2 z
    · subst e1; decide
  · refine key 1 ?_
    rcases i3 with ⟨e1, e2⟩ | ⟨e1, e2⟩
    · subst e1; decide
    · exact absurd e2 z
def PG (v : xIv) (f : Nat → Int) (l0 l : List Nat) (E : Nat) : Prop := (l = l0 ∧ CLe v f l E) ∨ (l0.length < l.length ∧ ∃ x, x < 12 ∧ x ∈ l ∧ x ∉ l0)
theorem PG.step {l0 l l' : List Nat} {w d y x : Nat} (h : PG v f l0 l (2 * w + d)) (hd : d < 2) (hy12 : y < 12) (hx12 : x < 12) (hy : v 1 (5 * w + d) = nI y) (hx : v 1 (5 * w + (1 - d)) = nI x) (hs : (l' = l ∧ (y ∈ l → f w ≠ sgd d → x ∈ l)) ∨ (l' = x :: l ∧ x ∉ l)) : PG v f l0 l' (2 * w + d + 1) := by
  rcases hs with ⟨rfl, hs⟩ | ⟨rfl, hs⟩
  · rcases h with ⟨h1, h2⟩ | h
    · exact Or.inl ⟨h1, h2.step hd hy12 hx12 hy hx hs⟩
    · exact Or.inr h
  · refine Or.inr ?_
    rcases h with ⟨h1, h2⟩ | ⟨h1, z, z1, z2, z3⟩
    · subst h1
      exact ⟨by simp, x, hx12, List.mem_cons_self, hs⟩
    · exact ⟨by simp only [List.length_cons]; omega, z, z1, List.mem_cons_of_mem _ z2, z3⟩
set_option maxRecDepth 100000 in
theorem c_find_in {l0 : List Nat} {B G : Int32} (h24 : cnt v 0 ≤ 24) (hok : ∀ w, w < cnt v 0 → okW v w) : ∀ (r j : Nat) (X m : Int32) (iv : xIv) (l : List Nat), j + r = cnt v 0 → X = nI j → CE iv v → IN v f a iv l m → PG v f l0 l (2 * j) → (∀ iv' l' m' o6, IN v f a iv' l' m' → PG v f l0 l' (2 * cnt v 0) → (∀ k, k ≠ 52 → iv' k = iv k) → Wp L xs m_Cut_findRow 63 [some (.ref 50), some (.int (nI a)), some (.int (nI b)), some (.int m'), some (.int B), some (.int G), o6] [] SH RF iv' lg Q) → Wp L xs m_Cut_findRow 22 [some (.ref 50), some (.int (nI a)), some (.int (nI b)), some (.int m), some (.int B), some (.int G), some (.int X)] [] SH RF iv lg Q
  | 0, j, X, m, iv, l, h, hX, hE, hI, hP, k => by
    obtain rfl : j = cnt v 0 := by omega
    subst hX
    refine wgo [22, 63] 100 ?_
    exact And.intro (fun _ => k iv l m _ hI hP (fun _ _ => rfl)) (fun z => absurd (by rw [hE.1]; exact il.mpr (Int.le_refl _)) z)
  | r + 1, j, X, m, iv, l, h, hX, hE, hI, hP, k => by
    subst hX
    have hw : j < cnt v 0 := by omega
    have vj : vp_in (nI j) 24 := vp_N (by omega)
    obtain ⟨y, x, hy12, hx12, hy, hx⟩ := ends_of (d := 0) (hok j hw) (by decide)
    have e3 : iv 3 (nI j).toNatClampNeg = nI y := by rw [cl]; exact (hE.2 j hw).1.trans hy
    have e4 : iv 4 (nI j).toNatClampNeg = nI x := by rw [cl]; exact (hE.2 j hw).2.trans hx
    have r1 := fun Q => c_reach (L := L) (xs := xs) (Q := Q) (lg := lg) (w := j) (d := 0) h24 hok hE hI hw (by decide) hy12 hx12 hy hx
    rw [← e3, ← e4] at r1
    refine wgo [22, 63] 100 ?_
    refine And.intro (fun z => absurd (nI_lt hw (by omega)) (by rw [hE.1] at z; exact lenl z)) (fun _ => ?_)
    refine And.intro vj ?_
    refine And.intro vj ?_
    refine r1 _ (fun iv1 l1 q1 I1 c1 s1 => ?_)
    have hE1 : CE iv1 v := hE.cg (fun k _ h2 => c1 k h2)
    have P1 : PG v f l0 l1 (2 * j + 0 + 1) := hP.step (d := 0) (by decide) hy12 hx12 hy hx s1
    have e3' : iv1 3 (nI j).toNatClampNeg = nI y := by rw [c1 3 (by decide)]; exact e3
    have e4' : iv1 4 (nI j).toNatClampNeg = nI x := by rw [c1 4 (by decide)]; exact e4
    have r2 := fun Q => c_reach (L := L) (xs := xs) (Q := Q) (lg := lg) (w := j) (d := 1) h24 hok hE1 I1 hw (by decide) hx12 hy12 hx hy
    rw [← e3', ← e4'] at r2
    refine And.intro vj ?_
    refine And.intro vj ?_
    refine r2 _ (fun iv2 l2 q2 I2 c2 s2 => ?_)
    have P2 : PG v f l0 l2 (2 * (j + 1)) := P1.step (d := 1) (by decide) hx12 hy12 hx hy s2
    exact c_find_in h24 hok r (j + 1) _ _ iv2 l2 (by omega) (nI_1 j) (hE1.cg (fun k _ h2 => c2 k h2)) I2 P2 (fun iv' l' m' o6 d1 d2 d3 => k iv' l' m' o6 d1 d2 (fun k hk => by rw [d3 k hk, c2 k hk, c1 k hk]))
set_option maxRecDepth 100000 in
theorem c_find_x {m : Int32} {l : List Nat} {o4 o5 o6 : Option Value} (h24 : cnt v 0 ≤ 24) (hb : b < 12) (hab : a ≠ b) (hI : IN v f a iv l m) (k1 : b ∈ l → Q (some (.int 1)) SH RF iv lg) (k0 : b ∉ l → Q (some (.int 0)) SH RF iv lg) : Wp L xs m_Cut_findRow 65 [some (.ref 50), some (.int (nI a)), some (.int (nI b)), some (.int m), o4, o5, o6] [] SH RF iv lg Q := by
  have vb : vp_in (nI b) 12 := vp_N hb
  have hc : iv 52 (nI b).toNatClampNeg < 0 ↔ b ∉ l := by
    rw [cl]
    by_cases e : b ∈ l
    · obtain ⟨w, d, hw, hd, hc⟩ := TR.by' hI.2.2.2 b e (fun z => hab z.symm)
      replace hc : iv 52 b = nI w := hc
      rw [hc]
      exact ⟨fun z => absurd z (lenl (nI_pos' (by omega))), fun z => absurd e z⟩
    · rw [hI.2.1 b hb (Or.inl e)]
      exact ⟨fun _ => e, fun _ => by decide⟩
  refine wgo [] 100 ?_
  refine And.intro vb ?_
  refine And.intro (fun z => ?_) (fun z => ?_)
  · exact And.intro (Or.inl rfl) (k0 (hc.mp z))
  · exact And.intro (Or.inr rfl) (k1 (Decidable.not_not.mp (fun w => z (hc.mpr w))))
set_option maxRecDepth 100000 in
theorem c_find_out (h24 : cnt v 0 ≤ 24) (hok : ∀ w, w < cnt v 0 → okW v w) (ha : a < 12) (hb : b < 12) (hab : a ≠ b) : ∀ (r g : Nat) (G m B : Int32) (iv : xIv) (l : List Nat) (o6 : Option Value), g + r = 12 → G = nI g → CE iv v → IN v f a iv l m → ((m = B ∧ CLe v f l (2 * cnt v 0)) ∨ (¬ m = B ∧ g + 1 ≤ l.length)) → (∀ iv' l' m', IN v f a iv' l' m' → b ∈ l' → (∀ k, k ≠ 52 → iv' k = iv k) → Q (some (.int 1)) SH RF iv' lg) → (∀ iv' l', CLe v f l' (2 * cnt v 0) → a ∈ l' → b ∉ l' → (∀ k, k ≠ 52 → iv' k = iv k) → Q (some (.int 0)) SH RF iv' lg) → Wp L xs m_Cut_findRow 12 [some (.ref 50), some (.int (nI a)), some (.int (nI b)), some (.int m), some (.int B), some (.int G), o6] [] SH RF iv lg Q
  | 0, g, G, m, B, iv, l, o6, h, hG, hE, hI, hc, k1, k0 => by
    obtain rfl : g = 12 := by omega
    subst hG
    have hl := TR.len ha hI.2.2.2
    rcases hc with ⟨-, hcl⟩ | ⟨-, hc⟩
    · refine wgo [12, 65] 100 ?_
      refine And.intro (fun _ => ?_) (fun z => absurd (by decide) z)
      exact c_find_x h24 hb hab hI (fun z => k1 iv l m hI z (fun _ _ => rfl)) (fun z => k0 iv l hcl (TR.mem hI.2.2.2) z (fun _ _ => rfl))
    · omega
  | r + 1, g, G, m, B, iv, l, o6, h, hG, hE, hI, hc, k1, k0 => by
    subst hG
    refine wgo [12, 22, 65] 100 ?_
    refine And.intro (fun z => absurd (lt12 (show g < 12 by omega)) (lenl z)) (fun _ => ?_)
    rcases hc with ⟨hm, hcl⟩ | ⟨hm, hc⟩
    · refine And.intro (fun _ => ?_) (fun z => absurd hm z)
      exact c_find_x h24 hb hab hI (fun z => k1 iv l m hI z (fun _ _ => rfl)) (fun z => k0 iv l hcl (TR.mem hI.2.2.2) z (fun _ _ => rfl))
    · refine And.intro (fun z => absurd z hm) (fun _ => ?_)
      refine c_find_in (l0 := l) h24 hok _ 0 _ m iv l (Nat.zero_add _) rfl hE hI (Or.inl ⟨rfl, fun w d y x z => absurd z (Nat.not_lt_zero _)⟩) (fun iv1 l1 m1 o6' I1 P1 c1 => ?_)
      refine wgo [12] 100 ?_
      refine c_find_out h24 hok ha hb hab r (g + 1) _ m1 m iv1 l1 o6' (by omega) (nI_1 g) (hE.cg (fun k _ h2 => c1 k h2)) I1 ?_ (fun iv' l' m' d1 d2 d3 => k1 iv' l' m' d1 d2 (fun k hk => (d3 k hk).trans (c1 k hk))) (fun iv' l' d1 d2 d3 d4 => k0 iv' l' d1 d2 d3 (fun k hk => (d4 k hk).trans (c1 k hk)))
      rcases P1 with ⟨e1, e2⟩ | ⟨e1, x, e2, e3, e4⟩
      · subst e1
        exact Or.inl ⟨MK.eq I1.2.2.1 hI.2.2.1, e2⟩
      · exact Or.inr ⟨fun z => MK.ne hI.2.2.1 I1.2.2.1 e2 e3 e4 z.symm, by omega⟩
set_option maxRecDepth 100000 in
theorem c_findRow (h24 : cnt v 0 ≤ 24) (hok : ∀ w, w < cnt v 0 → okW v w) (ha : a < 12) (hb : b < 12) (hab : a ≠ b) (hE : CE iv v) (hF : FV iv 51 f) (k1 : ∀ iv' l' m', IN v f a iv' l' m' → b ∈ l' → (∀ k, k ≠ 52 → iv' k = iv k) → Q (some (.int 1)) SH RF iv' lg) (k0 : ∀ iv' l', CLe v f l' (2 * cnt v 0) → a ∈ l' → b ∉ l' → (∀ k, k ≠ 52 → iv' k = iv k) → Q (some (.int 0)) SH RF iv' lg) : Sp L xs m_Cut_findRow [.ref 50, .int (nI a), .int (nI b)] SH RF iv lg Q := by
  refine sgo [12] 100 ?_
  refine s_fillI (K := 52) (n := 12) (by unfold fiOK; omega) (fun iv1 c1 c2 => ?_)
  have hm : MK (1 <<< (nI a &&& 31)) [a] := MK.one ha
  refine c_find_out h24 hok ha hb hab 12 0 _ (1 <<< (nI a &&& 31)) 0 iv1 [a] _ (by omega) rfl (hE.cg (fun k _ h2 => c1 k h2)) ⟨fun w hw => ?_, fun x hx _ => c2 x hx, hm, Or.inl ⟨rfl, rfl⟩⟩ (Or.inr ⟨fun z => ?_, by simp⟩) (fun iv' l' m' d1 d2 d3 => k1 iv' l' m' d1 d2 (fun k hk => (d3 k hk).trans (c1 k hk))) (fun iv' l' d1 d2 d3 d4 => k0 iv' l' d1 d2 d3 (fun k hk => (d4 k hk).trans (c1 k hk)))
  · rw [c1 51 (by decide)]; exact hF w hw
  · have h0 : MK 0 [] := ⟨0, by decide, rfl, fun x _ => by simp⟩
    exact MK.ne h0 hm ha (List.mem_singleton.mpr rfl) (by simp) z.symm
set_option maxRecDepth 100000 in
theorem c_take_l {f0 : Nat → Int} {N : Int} {row : Nat → Int32} (h24 : cnt v 0 ≤ 24) (hok : ∀ w, w < cnt v 0 → okW v w) (ha : a < 12) (hb : b < 12) (hra : row a = -1) : ∀ (n g x : Nat) (X G : Int32) (iv : xIv) (f : Nat → Int) (l : List Nat) (o4 : Option Value), l.length ≤ n → l.length + g ≤ 12 → X = nI x → G = nI g → CE iv v → iv 52 = row → FV iv 51 f → WKI v f0 a b (fun x w _ => row x = nI w) N l x f → (∀ iv' f', FV iv' 51 f' → FL v a b f' (N + 1) → (∀ k, k ≠ 51 → iv' k = iv k) → Q none SH RF iv' lg) → Wp L xs m_Cut_takeRow 4 [some (.ref 50), some (.int (nI b)), some (.int X), some (.int G), o4] [] SH RF iv lg Q
  | 0, g, x, X, G, iv, f, l, o4, hn, hg, hX, hG, hE, hr, hF, hW, k => by
    have : l = [] := List.length_eq_zero_iff.mp (by omega)
    subst this
    exact absurd hW.1 (by simp)
  | n + 1, g, x, X, G, iv, f, l, o4, hn, hg, hX, hG, hE, hr, hF, hW, k => by
    subst hX; subst hG
    have hpos : 1 ≤ l.length := List.length_pos_of_mem hW.1
    have hx12 : x < 12 := (TR.nd ha hW.2.1).2 x hW.1
    have vx : vp_in (nI x) 12 := vp_N hx12
    have hgo : nI g < (12 : Int32) := lt12 (by omega)
    rcases wk_step ha l x f hW with e | ⟨hne, -, w, d, y, l', hw, hd, hy12, hy, hx, hcm, hbd, hlen, hW'⟩
    · subst e
      refine wgo [4] 100 ?_
      refine And.intro (fun z => absurd hgo (lenl z)) (fun _ => ?_)
      refine And.intro vx ?_
      refine And.intro (fun _ => k iv f hF hW.done (fun _ _ => rfl)) (fun z => absurd (show iv 52 (nI x).toNatClampNeg < 0 by rw [cl, hr, hra]; decide) z)
    · have eW : iv 52 (nI x).toNatClampNeg = nI w := by rw [cl, hr]; exact hcm
      have vW : vp_in (iv 52 (nI x).toNatClampNeg) 24 := by rw [eW]; exact vp_N (by omega)
      have hxy := mem_ends (hok w hw) hd hy hx hy12 hx12
      have nneg : ¬ iv 52 (nI x).toNatClampNeg < 0 := by rw [eW]; exact lenl (nI_pos' (by omega))
      have ends : (d = 0 ∧ iv 3 (iv 52 (nI x).toNatClampNeg).toNatClampNeg = nI y ∧ iv 4 (iv 52 (nI x).toNatClampNeg).toNatClampNeg = nI x) ∨ (d = 1 ∧ iv 3 (iv 52 (nI x).toNatClampNeg).toNatClampNeg = nI x ∧ iv 4 (iv 52 (nI x).toNatClampNeg).toNatClampNeg = nI y) := by
        rw [eW, cl, (hE.2 w hw).1, (hE.2 w hw).2]
        have hd2 : d = 0 ∨ d = 1 := by omega
        rcases hd2 with rfl | rfl
        · exact Or.inl ⟨rfl, hy, hx⟩
        · exact Or.inr ⟨rfl, hx, hy⟩
      have fin : ∀ (Y s : Int32) (o4 : Option Value), Y = nI y → s.toInt = sgd d → Wp L xs m_Cut_takeRow 4 [some (.ref 50), some (.int (nI b)), some (.int Y), some (.int (nI g + 1)), o4] [] SH RF (xu2 iv 51 (iv 52 (nI x).toNatClampNeg).toNatClampNeg (iv 51 (iv 52 (nI x).toNatClampNeg).toNatClampNeg + s)) lg Q := fun Y s o4 eY es => by
        rw [eW, cl]
        have fw := hF w (by omega)
        refine c_take_l h24 hok ha hb hra n (g + 1) y _ _ _ (upI f w (f w + sgd d)) l' o4 (by omega) (by omega) eY (nI_1 g) (hE.cg (fun k h1 _ => xu2_ne h1)) ((xu2_ne (by decide)).trans hr) (fun w' hw' => ?_) hW' (fun iv' f' d1 d2 d3 => k iv' f' d1 d2 (fun k hk => (d3 k hk).trans (xu2_ne hk)))
        unfold upI
        by_cases e : w' = w
        · rw [if_pos e, e, xu2_s, addI] <;> rw [fw, es] <;> omega
        · rw [if_neg e, xu2_j e]; exact hF w' hw'
      clear k
      refine wgo [4] 100 ?_
      refine And.intro (fun z => absurd hgo (lenl z)) (fun _ => ?_)
      refine And.intro vx ?_
      refine And.intro (fun z => absurd z nneg) (fun _ => ?_)
      refine And.intro vx ?_
      refine And.intro vW ?_
      refine And.intro vW ?_
      refine And.intro (fun z => ?_) (fun z => ?_)
      · have e4 : d = 1 ∧ iv 3 (iv 52 (nI x).toNatClampNeg).toNatClampNeg = nI x ∧ iv 4 (iv 52 (nI x).toNatClampNeg).toNatClampNeg = nI y := by
          rcases ends with ⟨e1, e2, e3⟩ | e
          · exact absurd e3 z
          · exact e
        refine And.intro vW ?_
        refine And.intro vW ?_
        refine And.intro (fun z2 => ?_) (fun z2 => absurd z z2)
        refine And.intro vW ?_
        exact fin _ (-1) _ e4.2.2 (by rw [e4.1]; decide)
      · have e4 : d = 0 ∧ iv 3 (iv 52 (nI x).toNatClampNeg).toNatClampNeg = nI y ∧ iv 4 (iv 52 (nI x).toNatClampNeg).toNatClampNeg = nI x := by
          rcases ends with e | ⟨e1, e2, e3⟩
          · exact e
          · exact absurd (fun e => hxy ((nI_eq (by omega) (by omega)).mp (e.symm.trans e3))) z
        refine And.intro vW ?_
        refine And.intro vW ?_
        refine And.intro (fun z2 => absurd z2 z) (fun _ => ?_)
        refine And.intro vW ?_
        exact fin _ 1 _ e4.2.1 (by rw [e4.1]; decide)
set_option maxRecDepth 100000 in
theorem c_take {N : Int} {l : List Nat} {m : Int32} (h24 : cnt v 0 ≤ 24) (hok : ∀ w, w < cnt v 0 → okW v w) (ha : a < 12) (hb : b < 12) (hE : CE iv v) (hI : IN v f a iv l m) (hbl : b ∈ l) (hL : FL v a b f N) (k : ∀ iv' f', FV iv' 51 f' → FL v a b f' (N + 1) → (∀ k, k ≠ 51 → iv' k = iv k) → Q none SH RF iv' lg) : Sp L xs m_Cut_takeRow [.ref 50, .int (nI b)] SH RF iv lg Q := by
  refine sgo [4] 100 ?_
  exact c_take_l (row := iv 52) h24 hok ha hb (hI.2.1 a ha (Or.inr rfl)) l.length 0 b _ _ iv f l _ (Nat.le_refl _) (TR.len ha hI.2.2.2) rfl rfl hE rfl hI.1 (WKI.start hL hI.2.2.2 hbl) k
set_option maxRecDepth 100000 in
theorem c_few_l (h24 : cnt v 0 ≤ 24) (hok : ∀ w, w < cnt v 0 → okW v w) (ha : a < 12) (hb : b < 12) (hab : a ≠ b) : ∀ (r N : Nat) (X : Int32) (iv : xIv) (f : Nat → Int), N + r = 24 → X = nI N → CE iv v → FV iv 51 f → FL v a b f N → (∀ iv' N, N ≤ 24 → STP v a b N → (∀ k, k ≠ 51 → k ≠ 52 → iv' k = iv k) → Q (some (.int (nI N))) SH RF iv' lg) → Wp L xs m_Cut_fewest 6 [some (.ref 50), some (.int (nI a)), some (.int (nI b)), some (.int X)] [] SH RF iv lg Q
  | 0, N, X, iv, f, h, hX, hE, hF, hL, k => by
    obtain rfl : N = 24 := by omega
    subst hX
    refine wgo [6] 100 ?_
    refine And.intro (fun _ => ?_) (fun z => absurd (by decide) z)
    exact k iv 24 (Nat.le_refl _) ⟨f, hL, Or.inl (Nat.le_refl _)⟩ (fun _ _ _ => rfl)
  | r + 1, N, X, iv, f, h, hX, hE, hF, hL, k => by
    subst hX
    refine wgo [6] 100 ?_
    refine And.intro (fun z => absurd (nI_lt (b := 24) (show N < 24 by omega) (by decide)) (lenl z)) (fun _ => ?_)
    refine c_findRow h24 hok ha hb hab hE hF (fun iv1 l m I1 hbl c1 => ?_) (fun iv1 l hcl hal hbl c1 => ?_)
    · refine b1 ?_
      refine c_take (N := (N : Int)) h24 hok ha hb (hE.cg (fun k _ h2 => c1 k h2)) I1 hbl hL (fun iv2 f2 F2 L2 c2 => ?_)
      exact c_few_l h24 hok ha hb hab r (N + 1) _ iv2 f2 (by omega) (nI_1 N) ((hE.cg (fun k _ h2 => c1 k h2)).cg (fun k h1 _ => c2 k h1)) F2 (by
        have : ((N + 1 : Nat) : Int) = (N : Int) + 1 := by omega
        rw [this]; exact L2) (fun iv' N' d1 d2 d3 => k iv' N' d1 d2 (fun k h1 h2 => (d3 k h1 h2).trans ((c2 k h1).trans (c1 k h2))))
    · refine b0 ?_
      exact k iv1 N (by omega) ⟨f, hL, Or.inr ⟨fun x => x ∈ l, hcl.CL hok, hal, hbl⟩⟩ (fun k h1 h2 => c1 k h2)
theorem sI_0 {F : Nat → Int} : ∀ n, (∀ w, w < n → F w = 0) → sI F n = 0
  | 0, _ => rfl
  | n + 1, h => by
    have h1 := sI_0 n (fun w hw => h w (by omega))
    have h2 := h n (by omega)
    show sI F n + F n = 0
    omega
theorem FL_0 : FL v a b (fun _ => 0) ((0 : Nat) : Int) := ⟨fun _ _ => ⟨(by decide : (-1 : Int) ≤ 0), (by decide : (0 : Int) ≤ 1)⟩, fun g => by
  unfold fsum
  rw [sI_0 _ (fun w _ => Int.zero_mul _)]
  simp⟩
set_option maxRecDepth 100000 in
theorem c_fewest (h24 : cnt v 0 ≤ 24) (hok : ∀ w, w < cnt v 0 → okW v w) (ha : a < 12) (hb : b < 12) (hab : a ≠ b) (hE : CE iv v) (k : ∀ iv' N, N ≤ 24 → STP v a b N → (∀ k, k ≠ 51 → k ≠ 52 → iv' k = iv k) → Q (some (.int (nI N))) SH RF iv' lg) : Sp L xs m_Cut_fewest [.ref 50, .int (nI a), .int (nI b)] SH RF iv lg Q := by
  refine sgo [6] 100 ?_
  refine s_fillI (K := 51) (n := 24) (by unfold fiOK; omega) (fun iv1 c1 c2 => ?_)
  exact c_few_l h24 hok ha hb hab 24 0 _ iv1 (fun _ => 0) (by omega) rfl (hE.cg (fun k h1 _ => c1 k h1)) (fun w hw => by rw [c2 w hw]; exact tl0) FL_0 (fun iv' N d1 d2 d3 => k iv' N d1 d2 (fun k h1 h2 => (d3 k h1 h2).trans (c1 k h1)))
end CUT
section STOPC
variable {L : Nat} {xs : Nat → Int32} {iv : xIv} {lg : xLg} {Q : xQ} {sg : xIv} {tw : Nat → Int64} {t : Nat}
/-- rows of the class's that hold nothing between calls -/
theorem CX.w2 {iv' : xIv} {K1 K2 : Nat} (hC : CX iv lg sg tw) (h1 : 43 ≤ K1 ∧ K1 < 53) (h2 : 43 ≤ K2 ∧ K2 < 53) (hr : ∀ k, k ≠ K1 → k ≠ K2 → iv' k = iv k) : CX iv' lg sg tw := by
  have e : iv' = xur (xur iv K1 (iv' K1)) K2 (iv' K2) := by
    funext k
    unfold xur
    by_cases e2 : k = K2
    · rw [if_pos e2, e2]
    · rw [if_neg e2]
      by_cases e1 : k = K1
      · rw [if_pos e1, e1]
      · rw [if_neg e1]; exact hr k e1 e2
  rw [e]
  exact (hC.wr (Or.inl h1)).wr (Or.inl h2)
abbrev okSt (a b : Int32) : Prop := isN a 12 ∧ isN b 12 ∧ ¬ a = b
set_option maxRecDepth 100000 in
theorem c_stops {a b : Int32} (hC : CX iv lg sg tw) (hG : GG t sg) (k1 : ∀ x y N, x < 12 → y < 12 → x ≠ y → a = nI x → b = nI y → N ≤ 24 → STP (vL sg) x y N → ∀ iv', CX iv' lg sg tw → refS iv' lg iv lg → Q (some (.int (nI N))) SH RF iv' lg) (k2 : ¬ okSt a b → Q (some (.int (-1))) SH RF iv lg) : Sp L xs m_SR_stops [.ref 0, .int a, .int b] SH RF iv lg Q := by
  refine sgo [] 100 ?_
  refine s_isPlace (fun h1 => ?_) (fun h1 => ?_)
  · refine b1 ?_
    refine s_isPlace (fun h2 => ?_) (fun h2 => ?_)
    · refine b1 ?_
      refine And.intro (fun h3 => ?_) (fun h3 => ?_)
      · obtain ⟨x, hx, rfl⟩ := isN_of h1 (by decide)
        obtain ⟨y, hy, rfl⟩ := isN_of h2 (by decide)
        have hxy : x ≠ y := fun e => h3 (by rw [e])
        refine c_fewest hG.1.1.2 hG.1.2.2.2.2.2.1 hx hy hxy ⟨nW_c hC hG, fun w hw => ⟨(hC.1.1.2 w hw).1, (hC.1.1.2 w hw).2.1⟩⟩ (fun iv' N d1 d2 d3 => ?_)
        exact k1 x y N hx hy hxy rfl rfl d1 d2 iv' (hC.w2 (K1 := 51) (K2 := 52) (by decide) (by decide) d3) ⟨fun k hk => d3 k (by omega) (by omega), fun _ _ => rfl⟩
      · exact k2 (fun z => h3 z.2.2)
    · refine b0 ?_
      exact k2 (fun z => h2 z.2.1)
  · refine b0 ?_
    exact k2 (fun z => h1 z.1)
end STOPC
