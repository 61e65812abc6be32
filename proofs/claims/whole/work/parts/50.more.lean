-- ===== stops: the reference =====
def ME (iv v : xIv) : Prop := iv 79 1 = nI (cnt v 0) ∧ iv 80 = v 1
theorem ME.cg {iv iv' v : xIv} (h : ME iv v) (h2 : ∀ k, k ≠ 93 → k ≠ 94 → k ≠ 95 → iv' k = iv k) : ME iv' v := by
  unfold ME at h ⊢
  rw [h2 79 (by decide) (by decide) (by decide), h2 80 (by decide) (by decide) (by decide)]
  exact h
def cmM (iv : xIv) (x w d : Nat) : Prop := iv 94 x = nI (2 * w + d)
/-- the queue, the newest first -/
def QU (row : Nat → Int32) : List Nat → Prop
  | [] => True
  | x :: l => row l.length = nI x ∧ QU row l
theorem QU.cg {row row' : Nat → Int32} : ∀ {l : List Nat}, QU row l → (∀ i, i < l.length → row' i = row i) → QU row' l
  | [], _, _ => trivial
  | x :: l, h, e => ⟨(e l.length (by simp)).trans h.1, QU.cg h.2 (fun i hi => e i (by simp only [List.length_cons]; omega))⟩
theorem QU.at {row : Nat → Int32} : ∀ {l : List Nat}, QU row l → ∀ i, i < l.length → ∃ y, y ∈ l ∧ row i = nI y
  | [], _, i, hi => absurd hi (by simp)
  | x :: l, h, i, hi => by
    by_cases e : i = l.length
    · subst e; exact ⟨x, List.mem_cons_self, h.1⟩
    · obtain ⟨y, h1, h2⟩ := QU.at h.2 i (by simp only [List.length_cons] at hi; omega)
      exact ⟨y, List.mem_cons_of_mem _ h1, h2⟩
theorem QU.of {row : Nat → Int32} : ∀ {l : List Nat}, QU row l → ∀ y, y ∈ l → ∃ i, i < l.length ∧ row i = nI y
  | [], _, y, hy => absurd hy (by simp)
  | x :: l, h, y, hy => by
    rcases List.mem_cons.mp hy with e | e
    · subst e; exact ⟨l.length, by simp, h.1⟩
    · obtain ⟨i, h1, h2⟩ := QU.of h.2 y e
      exact ⟨i, by simp only [List.length_cons]; omega, h2⟩
def CLs (v : xIv) (f : Nat → Int) (l : List Nat) (y E : Nat) : Prop := ∀ w d x, 2 * w + d < E → d < 2 → x < 12 → v 1 (5 * w + d) = nI y → v 1 (5 * w + (1 - d)) = nI x → f w ≠ sgd d → x ∈ l
theorem CLs.mono {v : xIv} {f : Nat → Int} {l l' : List Nat} {y E : Nat} (h : CLs v f l y E) (hl : ∀ x, x ∈ l → x ∈ l') : CLs v f l' y E := fun w d x h1 h2 h3 h4 h5 h6 => hl x (h w d x h1 h2 h3 h4 h5 h6)
def BI (v : xIv) (f : Nat → Int) (a : Nat) (iv : xIv) (l : List Nat) : Prop := FV iv 93 f ∧ (∀ x, x < 12 → x ∉ l → iv 94 x = -1) ∧ (∀ x, x < 12 → x ∈ l → 0 ≤ iv 94 x) ∧ QU (iv 95) l ∧ TR v f a (cmM iv) l
theorem BI.add {v : xIv} {f : Nat → Int} {a : Nat} {iv : xIv} {l : List Nat} (h : BI v f a iv l) {j w d y x : Nat} (hj : j = 2 * w + d) (h48 : j < 48) (hw : w < cnt v 0) (hd : d < 2) (hx12 : x < 12) (hy : v 1 (5 * w + d) = nI y) (hx : v 1 (5 * w + (1 - d)) = nI x) (h1 : y ∈ l) (h2 : x ∉ l) (h3 : f w ≠ sgd d) : BI v f a (xu2 (xu2 iv 94 x (nI j)) 95 l.length (nI x)) (x :: l) := by
  obtain ⟨g1, g2, g3, g4, g5⟩ := h
  refine ⟨fun w hw => ?_, fun x' hx' hc => ?_, fun x' hx' hc => ?_, ⟨xu2_s, g4.cg (fun i hi => ?_)⟩, Or.inr ⟨TR.cg g5 (fun x' w' d' hx' hc => ?_), h2, hx12, w, d, y, hw, hd, h1, hy, hx, h3, ?_⟩⟩
  · rw [xu2_k (by decide), xu2_k (by decide)]; exact g1 w hw
  · have hne : x' ≠ x := fun e => by
      subst e
      exact hc List.mem_cons_self
    rw [xu2_k (by decide), xu2_j hne]
    exact g2 x' hx' (fun z => hc (List.mem_cons_of_mem _ z))
  · rw [xu2_k (by decide)]
    by_cases e : x' = x
    · rw [e, xu2_s]; exact nI_pos' (by omega)
    · rw [xu2_j e]
      rcases List.mem_cons.mp hc with z | z
      · exact absurd z e
      · exact g3 x' hx' z
  · rw [xu2_j (by omega), xu2_k (by decide)]
  · show xu2 (xu2 iv 94 x (nI j)) 95 l.length (nI x) 94 x' = nI (2 * w' + d')
    rw [xu2_k (by decide), xu2_j (fun e : x' = x => h2 (e ▸ hx'))]
    exact hc
  · show xu2 (xu2 iv 94 x (nI j)) 95 l.length (nI x) 94 x = nI (2 * w + d)
    rw [xu2_k (by decide), xu2_s, hj]
section MORE
variable {L : Nat} {xs : Nat → Int32} {iv : xIv} {lg : xLg} {Q : xQ} {v : xIv} {f : Nat → Int} {a b : Nat}
set_option maxRecDepth 100000 in
theorem m_bfs_in {k s : Nat} (h24 : cnt v 0 ≤ 24) (hok : ∀ w, w < cnt v 0 → okW v w) (hbd : ∀ w, w < cnt v 0 → -1 ≤ f w ∧ f w ≤ 1) (ha : a < 12) (hs12 : s < 12) : ∀ (r j : Nat) (J q : Int32) (iv : xIv) (l : List Nat) (o6 o7 o8 : Option Value), j + r = 2 * cnt v 0 → J = nI j → q = nI l.length → k < l.length → iv 95 k = nI s → ME iv v → BI v f a iv l → CLs v f l s j → (∀ iv' l' o5' o6' o7' o8', BI v f a iv' l' → CLs v f l' s (2 * cnt v 0) → (∀ x, x ∈ l → x ∈ l') → (∀ i, i < l.length → iv' 95 i = iv 95 i) → l.length ≤ l'.length → (∀ k, k ≠ 94 → k ≠ 95 → iv' k = iv k) → Wp L xs m_Mo_oneMore 116 [some (.ref 79), some (.int (nI a)), some (.int (nI b)), some (.int (nI l'.length)), some (.int (nI k)), o5', o6', o7', o8'] [] SH RF iv' lg Q) → Wp L xs m_Mo_oneMore 36 [some (.ref 79), some (.int (nI a)), some (.int (nI b)), some (.int q), some (.int (nI k)), some (.int J), o6, o7, o8] [] SH RF iv lg Q
  | 0, j, J, q, iv, l, o6, o7, o8, h, hJ, hq, hk, hs, hE, hI, hc, kk => by
    obtain rfl : j = 2 * cnt v 0 := by omega
    subst hJ; subst hq
    have hn : (2 : Int32) * iv 79 1 = nI (2 * cnt v 0) := by rw [hE.1]; exact pk_mul 2 _
    refine wgo [36, 116] 100 ?_
    exact And.intro (fun _ => kk iv l _ _ _ _ hI hc (fun _ h => h) (fun _ _ => rfl) (Nat.le_refl _) (fun _ _ _ => rfl)) (fun z => absurd (by rw [hn]; exact il.mpr (Int.le_refl _)) z)
  | r + 1, j, J, q, iv, l, o6, o7, o8, h, hJ, hq, hk, hs, hE, hI, hc, kk => by
    subst hJ; subst hq
    have hn : (2 : Int32) * iv 79 1 = nI (2 * cnt v 0) := by rw [hE.1]; exact pk_mul 2 _
    have hw : j / 2 < cnt v 0 := by omega
    have hd : j % 2 < 2 := by omega
    have ej : j = 2 * (j / 2) + j % 2 := by omega
    obtain ⟨y, x, hy12, hx12, hy, hx⟩ := ends_of (d := j % 2) (hok (j / 2) hw) hd
    have hlen := TR.len ha hI.2.2.2.2
    have eh : nI j / 2 = nI (j / 2) := nI_half (by omega)
    have er : nI j - nI j / 2 * 2 = nI (j % 2) := nI_rem (by omega)
    have i1 : (5 : Int32) * (nI j / 2) + (nI j - nI j / 2 * 2) = nI (5 * (j / 2) + j % 2) := by rw [er, eh, ni5, ni_a]
    have i2 : (5 : Int32) * (nI j / 2) + 1 - (nI j - nI j / 2 * 2) = nI (5 * (j / 2) + (1 - j % 2)) := by
      rw [er, eh, ni5, nI_1, nI_subN (by omega) (by omega)]
      congr 1
      omega
    have v1 : vp_in ((5 : Int32) * (nI j / 2) + (nI j - nI j / 2 * 2)) 120 := by rw [i1]; exact vp_N (by omega)
    have v2 : vp_in ((5 : Int32) * (nI j / 2) + 1 - (nI j - nI j / 2 * 2)) 120 := by rw [i2]; exact vp_N (by omega)
    have v3 : vp_in (nI j / 2) 24 := by rw [eh]; exact vp_N (by omega)
    have ra : iv 80 ((5 : Int32) * (nI j / 2) + (nI j - nI j / 2 * 2)).toNatClampNeg = nI y := by rw [i1, cl, hE.2]; exact hy
    have rb : iv 80 ((5 : Int32) * (nI j / 2) + 1 - (nI j - nI j / 2 * 2)).toNatClampNeg = nI x := by rw [i2, cl, hE.2]; exact hx
    have fw : (iv 93 (nI j / 2).toNatClampNeg).toInt = f (j / 2) := by rw [eh, cl]; exact hI.1 _ (by omega)
    have vk : vp_in (nI k) 12 := vp_N (by omega)
    have vx : vp_in (nI x) 12 := vp_N hx12
    have same : (y = s → f (j / 2) ≠ sgd (j % 2) → x ∈ l) → ∀ o6 o7 o8, Wp L xs m_Mo_oneMore 36 [some (.ref 79), some (.int (nI a)), some (.int (nI b)), some (.int (nI l.length)), some (.int (nI k)), some (.int (nI j + 1)), o6, o7, o8] [] SH RF iv lg Q := fun hz o6 o7 o8 => by
      refine m_bfs_in h24 hok hbd ha hs12 r (j + 1) _ _ iv l o6 o7 o8 (by omega) (nI_1 j) rfl hk hs hE hI (fun w' d' x' g1 g2 g3 g4 g5 g6 => ?_) kk
      by_cases e : 2 * w' + d' < j
      · exact hc w' d' x' e g2 g3 g4 g5 g6
      · have ew : w' = j / 2 := by omega
        have ed : d' = j % 2 := by omega
        subst ew; subst ed
        have ey : s = y := (nI_eq (by omega) (by omega)).mp (g4.symm.trans hy)
        have ex : x' = x := (nI_eq (by omega) (by omega)).mp (g5.symm.trans hx)
        rw [ex]
        exact hz ey.symm g6
    have more : y = s → x ∉ l → f (j / 2) ≠ sgd (j % 2) → ∀ o6 o7 o8, vp_in (nI l.length) 12 ∧ Wp L xs m_Mo_oneMore 36 [some (.ref 79), some (.int (nI a)), some (.int (nI b)), some (.int (nI l.length + 1)), some (.int (nI k)), some (.int (nI j + 1)), o6, o7, o8] [] SH RF (xu2 (xu2 iv 94 (nI x).toNatClampNeg (nI j)) 95 (nI l.length).toNatClampNeg (nI x)) lg Q := fun hys hxl hf o6 o7 o8 => by
      obtain ⟨s', hs', es'⟩ := hI.2.2.2.1.at k hk
      have hs12' := (TR.nd ha hI.2.2.2.2).2 s' hs'
      have ess : s = s' := (nI_eq (by omega) (by omega)).mp (hs.symm.trans es')
      have hyl : y ∈ l := by rw [hys, ess]; exact hs'
      have hI2 := hI.add ej (by omega) hw hd hx12 hy hx hyl hxl hf
      have hlen2 := TR.len ha hI2.2.2.2.2
      simp only [List.length_cons] at hlen2
      rw [cl, cl]
      refine ⟨vp_N (by omega), ?_⟩
      refine m_bfs_in h24 hok hbd ha hs12 r (j + 1) _ _ _ (x :: l) o6 o7 o8 (by omega) (nI_1 j) ?_ ?_ ?_ (hE.cg (fun k _ h2 h3 => by rw [xu2_ne h3, xu2_ne h2])) hI2 (fun w' d' x' g1 g2 g3 g4 g5 g6 => ?_) (fun iv' l' o5' o6' o7' o8' d1 d2 d3 d4 d5 d6 => kk iv' l' o5' o6' o7' o8' d1 d2 (fun z hz => d3 z (List.mem_cons_of_mem _ hz)) (fun i hi => ?_) ?_ (fun k h2 h3 => by rw [d6 k h2 h3, xu2_ne h3, xu2_ne h2]))
      · rw [nI_1]; simp
      · simp only [List.length_cons]; omega
      · rw [xu2_j (by omega), xu2_k (by decide)]; exact hs
      · by_cases e : 2 * w' + d' < j
        · exact List.mem_cons_of_mem _ (hc w' d' x' e g2 g3 g4 g5 g6)
        · have ew : w' = j / 2 := by omega
          have ed : d' = j % 2 := by omega
          subst ew; subst ed
          have ex : x' = x := (nI_eq (by omega) (by omega)).mp (g5.symm.trans hx)
          rw [ex]
          exact List.mem_cons_self
      · rw [d4 i (by simp only [List.length_cons]; omega), xu2_j (by omega), xu2_k (by decide)]
      · simp only [List.length_cons] at d5; omega
    have key : ∀ A B u : Int32, A = nI y → B = nI x → (u < 1 ↔ f (j / 2) ≠ sgd (j % 2)) → Wp L xs m_Mo_oneMore 89 [some (.ref 79), some (.int (nI a)), some (.int (nI b)), some (.int (nI l.length)), some (.int (nI k)), some (.int (nI j)), some (.int A), some (.int B), some (.int u)] [] SH RF iv lg Q := fun A B u eA eB hu => by
      subst eA; subst eB
      clear kk
      refine wgo [36] 100 ?_
      refine And.intro vk ?_
      have ek : iv 95 (nI k).toNatClampNeg = nI s := by rw [cl]; exact hs
      refine And.intro (fun z => ?_) (fun z => ?_)
      · exact same (fun e => absurd (by rw [ek, e]) z) _ _ _
      · have hys : y = s := (nI_eq (by omega) (by omega)).mp ((Decidable.not_not.mp z).trans ek)
        refine And.intro vx ?_
        refine And.intro (fun z2 => ?_) (fun z2 => ?_)
        · refine same (fun _ _ => ?_) _ _ _
          by_cases e : x ∈ l
          · exact e
          · rw [cl, hI.2.1 x hx12 e] at z2
            exact absurd z2 (by decide)
        · have hxl : x ∉ l := fun e => z2 (by rw [cl]; exact hI.2.2.1 x hx12 e)
          refine And.intro (fun z3 => ?_) (fun z3 => ?_)
          · exact same (fun _ hf => absurd (hu.mpr hf) (lenl z3)) _ _ _
          · have hm := more hys hxl (hu.mp (nle z3)) (some (.int (nI y))) (some (.int (nI x))) (some (.int u))
            refine And.intro vx ?_
            refine And.intro hm.1 ?_
            exact hm.2
    clear same more
    refine wgo [36, 89, 116] 100 ?_
    refine And.intro (fun z => absurd (nI_lt (show j < 2 * cnt v 0 by omega) (by omega)) (by rw [hn] at z; exact lenl z)) (fun _ => ?_)
    refine And.intro (by decide) ?_
    refine And.intro (by decide) ?_
    refine And.intro v1 ?_
    refine And.intro (by decide) ?_
    refine And.intro (by decide) ?_
    refine And.intro v2 ?_
    refine And.intro (by decide) ?_
    refine And.intro (fun z => ?_) (fun z => ?_)
    · have e1 : j % 2 = 1 := by
        rw [er] at z
        by_cases e : j % 2 = 0
        · exact absurd (by rw [e]; rfl) z
        · omega
      refine And.intro (by decide) ?_
      refine And.intro v3 ?_
      refine key _ _ _ ra rb ?_
      have b := hbd (j / 2) hw
      have es : sgd 1 = -1 := rfl
      rw [it, negI (by rw [fw]; omega), fw, tl1, e1, es]
      omega
    · have e0 : j % 2 = 0 := by
        have := Decidable.not_not.mp z
        rw [er] at this
        exact (nI_eq (b := 0) (by omega) (by decide)).mp this
      refine And.intro (by decide) ?_
      refine And.intro v3 ?_
      refine key _ _ _ ra rb ?_
      have b := hbd (j / 2) hw
      have es : sgd 0 = 1 := rfl
      rw [it, fw, tl1, e0, es]
      omega
def CLk (v : xIv) (f : Nat → Int) (iv : xIv) (l : List Nat) (k : Nat) : Prop := ∀ i y, i < k → y < 12 → iv 95 i = nI y → CLs v f l y (2 * cnt v 0)
set_option maxRecDepth 100000 in
theorem m_bfs_out (h24 : cnt v 0 ≤ 24) (hok : ∀ w, w < cnt v 0 → okW v w) (hbd : ∀ w, w < cnt v 0 → -1 ≤ f w ∧ f w ≤ 1) (ha : a < 12) (hb : b < 12) : ∀ (r k : Nat) (K : Int32) (iv : xIv) (l : List Nat) (o5 o6 o7 o8 : Option Value), k + r = 12 → K = nI k → k ≤ l.length → ME iv v → BI v f a iv l → CLk v f iv l k → (∀ iv' l' o4' o5' o6' o7' o8', BI v f a iv' l' → (b ∈ l' ∨ CLe v f l' (2 * cnt v 0)) → (∀ k, k ≠ 94 → k ≠ 95 → iv' k = iv k) → Wp L xs m_Mo_oneMore 118 [some (.ref 79), some (.int (nI a)), some (.int (nI b)), some (.int (nI l'.length)), o4', o5', o6', o7', o8'] [] SH RF iv' lg Q) → Wp L xs m_Mo_oneMore 26 [some (.ref 79), some (.int (nI a)), some (.int (nI b)), some (.int (nI l.length)), some (.int K), o5, o6, o7, o8] [] SH RF iv lg Q := by
  have fin : ∀ (iv : xIv) (l : List Nat), BI v f a iv l → CLk v f iv l l.length → CLe v f l (2 * cnt v 0) := fun iv l hI hc w d y x g1 g2 g3 g4 g5 g6 g7 g8 => by
    obtain ⟨i, i1, i2⟩ := hI.2.2.2.1.of y g7
    exact hc i y i1 g3 i2 w d x g1 g2 g4 g5 g6 g8
  intro r
  induction r with
  | zero =>
    intro k K iv l o5 o6 o7 o8 h hK hk hE hI hc kk
    have hlen := TR.len ha hI.2.2.2.2
    obtain rfl : k = l.length := by omega
    subst hK
    refine wgo [26, 118] 100 ?_
    exact And.intro (fun _ => kk iv l _ _ _ _ _ hI (Or.inr (fin iv l hI hc)) (fun _ _ _ => rfl)) (fun z => absurd (il.mpr (Int.le_refl _)) z)
  | succ r ih =>
    intro k K iv l o5 o6 o7 o8 h hK hk hE hI hc kk
    subst hK
    have hlen := TR.len ha hI.2.2.2.2
    have vb : vp_in (nI b) 12 := vp_N hb
    refine wgo [26, 36, 118] 100 ?_
    refine And.intro (fun z => ?_) (fun z => ?_)
    · have : l.length ≤ k := (nI_leI (by omega) (by omega)).mp z
      obtain rfl : k = l.length := by omega
      exact kk iv l _ _ _ _ _ hI (Or.inr (fin iv l hI hc)) (fun _ _ _ => rfl)
    · have hkl : k < l.length := Nat.lt_of_not_le (fun w => z ((nI_leI (by omega) (by omega)).mpr w))
      refine And.intro vb ?_
      refine And.intro (fun z2 => ?_) (fun z2 => ?_)
      · refine kk iv l _ _ _ _ _ hI (Or.inl ?_) (fun _ _ _ => rfl)
        by_cases e : b ∈ l
        · exact e
        · rw [cl, hI.2.1 b hb e] at z2
          exact absurd z2 (by decide)
      · obtain ⟨s, hs, es⟩ := hI.2.2.2.1.at k hkl
        have hs12 := (TR.nd ha hI.2.2.2.2).2 s hs
        refine m_bfs_in h24 hok hbd ha hs12 _ 0 _ _ iv l _ _ _ (Nat.zero_add _) rfl rfl hkl es hE hI (fun w d x z => absurd z (Nat.not_lt_zero _)) (fun iv1 l1 o5' o6' o7' o8' I1 S1 m1 q1 n1 c1 => ?_)
        refine wgo [26] 100 ?_
        refine ih (k + 1) _ iv1 l1 _ _ _ _ (by omega) (nI_1 k) (by omega) (hE.cg (fun k _ h2 h3 => c1 k h2 h3)) I1 (fun i y hi hy12 hiy => ?_) (fun iv' l' o4' o5' o6' o7' o8' d1 d2 d3 => kk iv' l' o4' o5' o6' o7' o8' d1 d2 (fun k h2 h3 => (d3 k h2 h3).trans (c1 k h2 h3)))
        rw [q1 i (by omega)] at hiy
        by_cases e : i = k
        · subst e
          have : s = y := (nI_eq (by omega) (by omega)).mp (es.symm.trans hiy)
          rw [← this]
          exact S1
        · exact (hc i y (by omega) hy12 hiy).mono m1
set_option maxRecDepth 100000 in
theorem m_back {f0 : Nat → Int} {N : Int} {row : Nat → Int32} {q : Int32} (h24 : cnt v 0 ≤ 24) (hok : ∀ w, w < cnt v 0 → okW v w) (ha : a < 12) (hb : b < 12) : ∀ (n x : Nat) (X : Int32) (iv : xIv) (f : Nat → Int) (l : List Nat) (o5 o6 o7 o8 : Option Value), l.length ≤ n → X = nI x → ME iv v → iv 94 = row → FV iv 93 f → WKI v f0 a b (fun x w d => row x = nI (2 * w + d)) N l x f → (∀ iv' f', FV iv' 93 f' → FL v a b f' (N + 1) → (∀ k, k ≠ 93 → iv' k = iv k) → Q (some (.int 1)) SH RF iv' lg) → Wp L xs m_Mo_oneMore 127 [some (.ref 79), some (.int (nI a)), some (.int (nI b)), some (.int q), some (.int X), o5, o6, o7, o8] [] SH RF iv lg Q
  | 0, x, X, iv, f, l, o5, o6, o7, o8, hn, hX, hE, hr, hF, hW, k => by
    have : l = [] := List.length_eq_zero_iff.mp (by omega)
    subst this
    exact absurd hW.1 (by simp)
  | n + 1, x, X, iv, f, l, o5, o6, o7, o8, hn, hX, hE, hr, hF, hW, k => by
    subst hX
    have hx12 : x < 12 := (TR.nd ha hW.2.1).2 x hW.1
    have vx : vp_in (nI x) 12 := vp_N hx12
    rcases wk_step ha l x f hW with e | ⟨hne, -, w, d, y, l', hw, hd, hy12, hy, hx, hcm, hbd, hlen, hW'⟩
    · subst e
      refine wgo [127] 100 ?_
      refine And.intro (fun _ => ?_) (fun z => absurd rfl z)
      exact And.intro (Or.inr rfl) (k iv f hF hW.done (fun _ _ => rfl))
    · have eC : iv 94 (nI x).toNatClampNeg = nI (2 * w + d) := by rw [cl, hr]; exact hcm
      have eh : iv 94 (nI x).toNatClampNeg / 2 = nI w := by
        rw [eC, nI_half (by omega)]
        congr 1
        omega
      have er : iv 94 (nI x).toNatClampNeg - iv 94 (nI x).toNatClampNeg / 2 * 2 = nI d := by
        rw [eC, nI_rem (by omega)]
        congr 1
        omega
      have v3 : vp_in (iv 94 (nI x).toNatClampNeg / 2) 24 := by rw [eh]; exact vp_N (by omega)
      have i1 : (5 : Int32) * (iv 94 (nI x).toNatClampNeg / 2) + (iv 94 (nI x).toNatClampNeg - iv 94 (nI x).toNatClampNeg / 2 * 2) = nI (5 * w + d) := by rw [er, eh, ni5, ni_a]
      have v1 : vp_in ((5 : Int32) * (iv 94 (nI x).toNatClampNeg / 2) + (iv 94 (nI x).toNatClampNeg - iv 94 (nI x).toNatClampNeg / 2 * 2)) 120 := by rw [i1]; exact vp_N (by omega)
      have fin : ∀ (s : Int32) (o5 o6 o7 o8 : Option Value), s.toInt = sgd d → Wp L xs m_Mo_oneMore 127 [some (.ref 79), some (.int (nI a)), some (.int (nI b)), some (.int q), some (.int (xu2 iv 93 (iv 94 (nI x).toNatClampNeg / 2).toNatClampNeg (iv 93 (iv 94 (nI x).toNatClampNeg / 2).toNatClampNeg + s) 80 ((5 : Int32) * (iv 94 (nI x).toNatClampNeg / 2) + (iv 94 (nI x).toNatClampNeg - iv 94 (nI x).toNatClampNeg / 2 * 2)).toNatClampNeg)), o5, o6, o7, o8] [] SH RF (xu2 iv 93 (iv 94 (nI x).toNatClampNeg / 2).toNatClampNeg (iv 93 (iv 94 (nI x).toNatClampNeg / 2).toNatClampNeg + s)) lg Q := fun s o5 o6 o7 o8 es => by
        rw [i1, eh, cl, cl]
        have fw := hF w (by omega)
        refine m_back h24 hok ha hb n y _ _ (upI f w (f w + sgd d)) l' o5 o6 o7 o8 (by omega) ?_ (hE.cg (fun k h1 _ _ => xu2_ne h1)) ((xu2_ne (by decide)).trans hr) (fun w' hw' => ?_) hW' (fun iv' f' d1 d2 d3 => k iv' f' d1 d2 (fun k hk => (d3 k hk).trans (xu2_ne hk)))
        · rw [xu2_k (by decide), hE.2]; exact hy
        · unfold upI
          by_cases e : w' = w
          · rw [if_pos e, e, xu2_s, addI] <;> rw [fw, es] <;> omega
          · rw [if_neg e, xu2_j e]; exact hF w' hw'
      clear k
      refine wgo [127] 100 ?_
      refine And.intro (fun z => absurd ((nI_eq (by omega) (by omega)).mp z) hne) (fun _ => ?_)
      refine And.intro vx ?_
      refine And.intro (by decide) ?_
      refine And.intro v3 ?_
      refine And.intro (by decide) ?_
      refine And.intro (fun z => ?_) (fun z => ?_)
      · have e1 : d = 1 := by
          rw [er] at z
          by_cases e : d = 0
          · exact absurd (by rw [e]; rfl) z
          · omega
        refine And.intro v3 ?_
        refine And.intro (by decide) ?_
        refine And.intro (by decide) ?_
        refine And.intro v1 ?_
        exact fin (-1) _ _ _ _ (by rw [e1]; decide)
      · have e0 : d = 0 := by
          have := Decidable.not_not.mp z
          rw [er] at this
          exact (nI_eq (b := 0) (by omega) (by decide)).mp this
        refine And.intro v3 ?_
        refine And.intro (by decide) ?_
        refine And.intro (by decide) ?_
        refine And.intro v1 ?_
        exact fin 1 _ _ _ _ (by rw [e0]; decide)
set_option maxRecDepth 100000 in
theorem m_one_0 : ∀ (r p : Nat) (x : Int32) (iv : xIv), p + r = 12 → x = nI p → (∀ j, j < p → iv 94 j = -1) → (∀ iv', (∀ j, j < 12 → iv' 94 j = -1) → (∀ k, k ≠ 94 → iv' k = iv k) → ∀ o3, Wp L xs m_Mo_oneMore 12 [some (.ref 79), some (.int (nI a)), some (.int (nI b)), some (.int o3), none, none, none, none, none] [] SH RF iv' lg Q) → Wp L xs m_Mo_oneMore 2 [some (.ref 79), some (.int (nI a)), some (.int (nI b)), some (.int x), none, none, none, none, none] [] SH RF iv lg Q
  | 0, p, x, iv, h, hx, h1, k => by
    obtain rfl : p = 12 := by omega
    subst hx
    refine wgo [2, 12] 100 ?_
    exact And.intro (fun _ => k iv h1 (fun _ _ => rfl) _) (fun z => absurd (by decide) z)
  | r + 1, p, x, iv, h, hx, h1, k => by
    subst hx
    have hv : vp_in (nI p) 12 := vp_N (by omega)
    have key : Wp L xs m_Mo_oneMore 2 [some (.ref 79), some (.int (nI a)), some (.int (nI b)), some (.int (nI p + 1)), none, none, none, none, none] [] SH RF (xu2 iv 94 (nI p).toNatClampNeg (-1)) lg Q := by
      rw [cl]
      refine m_one_0 r (p + 1) _ _ (by omega) (nI_1 p) (fun j hj => ?_) (fun iv' c1 c2 o3 => k iv' c1 (fun k hk => by rw [c2 k hk, xu2_ne hk]) o3)
      by_cases e : j = p
      · rw [e, xu2_s]
      · rw [xu2_j e]; exact h1 j (by omega)
    clear k
    refine wgo [2, 12] 100 ?_
    refine And.intro (fun z => absurd (lt12 (show p < 12 by omega)) (lenl z)) (fun _ => ?_)
    refine And.intro hv ?_
    exact key
set_option maxRecDepth 100000 in
theorem m_oneMore {N : Int} (h24 : cnt v 0 ≤ 24) (hok : ∀ w, w < cnt v 0 → okW v w) (ha : a < 12) (hb : b < 12) (hab : a ≠ b) (hE : ME iv v) (hF : FV iv 93 f) (hL : FL v a b f N) (k1 : ∀ iv' f', FV iv' 93 f' → FL v a b f' (N + 1) → (∀ k, k ≠ 93 → k ≠ 94 → k ≠ 95 → iv' k = iv k) → Q (some (.int 1)) SH RF iv' lg) (k0 : ∀ iv' l', CLe v f l' (2 * cnt v 0) → a ∈ l' → b ∉ l' → (∀ k, k ≠ 93 → k ≠ 94 → k ≠ 95 → iv' k = iv k) → Q (some (.int 0)) SH RF iv' lg) : Sp L xs m_Mo_oneMore [.ref 79, .int (nI a), .int (nI b)] SH RF iv lg Q := by
  have va : vp_in (nI a) 12 := vp_N ha
  have vb : vp_in (nI b) 12 := vp_N hb
  refine sgo [2] 100 ?_
  refine m_one_0 12 0 _ iv (by omega) rfl (fun j hj => absurd hj (Nat.not_lt_zero j)) (fun iv1 c1 c2 o3 => ?_)
  have R2 : ∀ k, k ≠ 94 → k ≠ 95 → xu2 (xu2 iv1 94 a 48) 95 0 (nI a) k = iv k := fun k h1 h2 => by rw [xu2_ne h2, xu2_ne h1, c2 k h1]
  have B2 : BI v f a (xu2 (xu2 iv1 94 a 48) 95 0 (nI a)) [a] := by
    refine ⟨fun w hw => ?_, fun x hx hc => ?_, fun x hx hc => ?_, ⟨xu2_s, trivial⟩, Or.inl ⟨rfl, rfl⟩⟩
    · rw [R2 93 (by decide) (by decide)]; exact hF w hw
    · rw [xu2_k (by decide), xu2_j (fun e => hc (by rw [e]; exact List.mem_singleton.mpr rfl))]
      exact c1 x hx
    · rw [List.mem_singleton.mp hc, xu2_k (by decide), xu2_s]
      decide
  have out : Wp L xs m_Mo_oneMore 26 [some (.ref 79), some (.int (nI a)), some (.int (nI b)), some (.int 1), some (.int 0), none, none, none, none] [] SH RF (xu2 (xu2 iv1 94 (nI a).toNatClampNeg 48) 95 (0 : Int32).toNatClampNeg (nI a)) lg Q := by
    rw [cl, show (0 : Int32).toNatClampNeg = 0 from rfl]
    refine m_bfs_out h24 hok hL.1 ha hb 12 0 _ _ [a] _ _ _ _ (by omega) rfl (Nat.zero_le _) (hE.cg (fun k _ h2 h3 => R2 k h2 h3)) B2 (fun i y hi => absurd hi (Nat.not_lt_zero i)) (fun iv3 l3 o4 o5 o6 o7 o8 I3 e3 r3 => ?_)
    have R3 : ∀ k, k ≠ 94 → k ≠ 95 → iv3 k = iv k := fun k h1 h2 => (r3 k h1 h2).trans (R2 k h1 h2)
    refine wgo [127] 100 ?_
    refine And.intro vb ?_
    refine And.intro (fun z => ?_) (fun z => ?_)
    · have hbl : b ∈ l3 := by
        by_cases e : b ∈ l3
        · exact e
        · rw [cl, I3.2.1 b hb e] at z
          exact absurd z (by decide)
      refine m_back (row := iv3 94) h24 hok ha hb l3.length b _ iv3 f l3 _ _ _ _ (Nat.le_refl _) rfl (hE.cg (fun k _ h2 h3 => R3 k h2 h3)) rfl I3.1 (WKI.start hL I3.2.2.2.2 hbl) (fun iv' f' d1 d2 d3 => ?_)
      exact k1 iv' f' d1 d2 (fun k h1 h2 h3 => (d3 k h1).trans (R3 k h2 h3))
    · have hbl : b ∉ l3 := fun e => z (by rw [cl]; exact I3.2.2.1 b hb e)
      have hc : CLe v f l3 (2 * cnt v 0) := by
        rcases e3 with e | e
        · exact absurd e hbl
        · exact e
      exact And.intro (Or.inl rfl) (k0 iv3 l3 hc (TR.mem I3.2.2.2.2) hbl (fun k _ h2 h3 => R3 k h2 h3))
  clear k1 k0
  refine wgo [26] 100 ?_
  refine And.intro va ?_
  refine And.intro (vp_N (p := 0) (n := 12) (by decide)) ?_
  exact out
set_option maxRecDepth 100000 in
theorem m_st_0 : ∀ (r p : Nat) (x : Int32) (iv : xIv), p + r = 24 → x = nI p → (∀ j, j < p → iv 93 j = 0) → (∀ iv', (∀ j, j < 24 → iv' 93 j = 0) → (∀ k, k ≠ 93 → iv' k = iv k) → Wp L xs m_Mo_stops 25 [some (.ref 79), some (.int (nI a)), some (.int (nI b)), some (.int 0)] [] SH RF iv' lg Q) → Wp L xs m_Mo_stops 13 [some (.ref 79), some (.int (nI a)), some (.int (nI b)), some (.int x)] [] SH RF iv lg Q
  | 0, p, x, iv, h, hx, h1, k => by
    obtain rfl : p = 24 := by omega
    subst hx
    refine wgo [13, 25] 100 ?_
    exact And.intro (fun _ => k iv h1 (fun _ _ => rfl)) (fun z => absurd (by decide) z)
  | r + 1, p, x, iv, h, hx, h1, k => by
    subst hx
    have hv : vp_in (nI p) 24 := vp_N (by omega)
    have key : Wp L xs m_Mo_stops 13 [some (.ref 79), some (.int (nI a)), some (.int (nI b)), some (.int (nI p + 1))] [] SH RF (xu2 iv 93 (nI p).toNatClampNeg 0) lg Q := by
      rw [cl]
      refine m_st_0 r (p + 1) _ _ (by omega) (nI_1 p) (fun j hj => ?_) (fun iv' c1 c2 => k iv' c1 (fun k hk => by rw [c2 k hk, xu2_ne hk]))
      by_cases e : j = p
      · rw [e, xu2_s]
      · rw [xu2_j e]; exact h1 j (by omega)
    clear k
    refine wgo [13, 25] 100 ?_
    refine And.intro (fun z => absurd (nI_lt (b := 24) (show p < 24 by omega) (by decide)) (lenl z)) (fun _ => ?_)
    refine And.intro hv ?_
    exact key
set_option maxRecDepth 100000 in
theorem m_st_l (h24 : cnt v 0 ≤ 24) (hok : ∀ w, w < cnt v 0 → okW v w) (ha : a < 12) (hb : b < 12) (hab : a ≠ b) : ∀ (r N : Nat) (X : Int32) (iv : xIv) (f : Nat → Int), N + r = 25 → X = nI N → ME iv v → FV iv 93 f → FL v a b f N → (∀ iv' N, STP v a b N → (∀ k, k ≠ 93 → k ≠ 94 → k ≠ 95 → iv' k = iv k) → Q (some (.int (nI N))) SH RF iv' lg) → Wp L xs m_Mo_stops 25 [some (.ref 79), some (.int (nI a)), some (.int (nI b)), some (.int X)] [] SH RF iv lg Q
  | 0, N, X, iv, f, h, hX, hE, hF, hL, k => by
    have := flow_bd hab hL
    omega
  | r + 1, N, X, iv, f, h, hX, hE, hF, hL, k => by
    subst hX
    refine wgo [25] 100 ?_
    refine m_oneMore h24 hok ha hb hab hE hF hL (fun iv1 f1 F1 L1 c1 => ?_) (fun iv1 l hcl hal hbl c1 => ?_)
    · refine b1 ?_
      exact m_st_l h24 hok ha hb hab r (N + 1) _ iv1 f1 (by omega) (nI_1 N) (hE.cg c1) F1 (by
        have : ((N + 1 : Nat) : Int) = (N : Int) + 1 := by omega
        rw [this]; exact L1) (fun iv' N' d2 d3 => k iv' N' d2 (fun k h1 h2 h3 => (d3 k h1 h2 h3).trans (c1 k h1 h2 h3)))
    · refine b0 ?_
      exact k iv1 N ⟨f, hL, Or.inr ⟨fun x => x ∈ l, hcl.CL hok, hal, hbl⟩⟩ c1
end MORE
section STOPM
variable {L : Nat} {xs : Nat → Int32} {iv : xIv} {lg : xLg} {Q : xQ} {sg : xIv} {tw : Nat → Int64} {t : Nat}
set_option maxRecDepth 100000 in
theorem m_stops {a b : Int32} (hM : MV iv lg sg tw) (hG : GG t sg) (k1 : ∀ x y N, x < 12 → y < 12 → x ≠ y → a = nI x → b = nI y → STP (vL sg) x y N → ∀ iv', MV iv' lg sg tw → clsS iv' lg iv lg → Q (some (.int (nI N))) SH RF iv' lg) (k2 : ¬ okSt a b → Q (some (.int (-1))) SH RF iv lg) : Sp L xs m_Mo_stops [.ref 79, .int a, .int b] SH RF iv lg Q := by
  refine sgo [13] 100 ?_
  refine s_moPlace (fun h1 => ?_) (fun h1 => ?_)
  · refine b1 ?_
    refine s_moPlace (fun h2 => ?_) (fun h2 => ?_)
    · refine b1 ?_
      refine And.intro (fun h3 => ?_) (fun h3 => ?_)
      · obtain ⟨x, hx, rfl⟩ := isN_of h1 (by decide)
        obtain ⟨y, hy, rfl⟩ := isN_of h2 (by decide)
        have hxy : x ≠ y := fun e => h3 (by rw [e])
        have hE : ME iv (vL sg) := ⟨nW_m hM hG, hM.2.1.1⟩
        refine m_st_0 24 0 _ iv (by omega) rfl (fun j hj => absurd hj (Nat.not_lt_zero j)) (fun iv1 c1 c2 => ?_)
        refine m_st_l hG.1.1.2 hG.1.2.2.2.2.2.1 hx hy hxy 25 0 _ iv1 (fun _ => 0) (by omega) rfl (hE.cg (fun k h1 _ _ => c2 k h1)) (fun w hw => by rw [c1 w hw]; exact tl0) FL_0 (fun iv' N d2 d3 => ?_)
        have R : ∀ k, k ≠ 93 → k ≠ 94 → k ≠ 95 → iv' k = iv k := fun k h1 h2 h3 => (d3 k h1 h2 h3).trans (c2 k h1)
        exact k1 x y N hx hy hxy rfl rfl d2 iv' (hM.wk (fun j _ _ => by rw [R 79 (by decide) (by decide) (by decide)]) (fun k hk => R k (by omega) (by omega) (by omega))) ⟨fun k hk => R k (by omega) (by omega) (by omega), fun _ _ => rfl⟩
      · exact k2 (fun z => h3 z.2.2)
    · refine b0 ?_
      exact k2 (fun z => h2 z.2.1)
  · refine b0 ?_
    exact k2 (fun z => h1 z.1)
theorem e_stops (a b : Int32) : EQ m_SR_stops m_Mo_stops [.int a, .int b] := by
  intro L xs t iv lg Q hI ht k
  obtain ⟨sg, tw, hC, hM, hG⟩ := id hI
  refine c_stops hC hG (fun x y N hx hy hxy ha hb hN hS iv1 C1 R1 => k _ iv1 lg (fun Q2 k2 => m_stops (MV_congr R1 hM) hG (fun x' y' N' hx' hy' hxy' ha' hb' hS' iv2 M2 R2 => ?_) (fun h => absurd ⟨ha ▸ isN_nI hx (by decide), hb ▸ isN_nI hy (by decide), fun z => hxy ((nI_eq (by omega) (by omega)).mp (ha.symm.trans (z.trans hb)))⟩ h))) (fun h => k _ iv lg (fun Q2 k2 => m_stops hM hG (fun x y N hx hy hxy ha hb hS => absurd ⟨ha ▸ isN_nI hx (by decide), hb ▸ isN_nI hy (by decide), fun z => hxy ((nI_eq (by omega) (by omega)).mp (ha.symm.trans (z.trans hb)))⟩ h) (fun _ => k2 _ _ (hI.wk (Nat.le_succ t)))))
  have e1 : x = x' := (nI_eq (by omega) (by omega)).mp (ha.symm.trans ha')
  have e2 : y = y' := (nI_eq (by omega) (by omega)).mp (hb.symm.trans hb')
  subst e1; subst e2
  have e3 := STP_uniq hxy hG.1.1.2 hS hS'
  rw [← e3]
  exact k2 _ _ ⟨sg, tw, CX_congr R2 C1, M2, hG.mono (Nat.le_succ t)⟩
end STOPM
