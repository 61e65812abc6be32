-- ===== wells: the class (2) =====
def lcost (inf : Nat) (o : Option (wE × Nat)) : Nat := match o with
  | none => inf
  | some (_, c) => c
def BO (iv : xIv) (o : Option (wE × Nat)) (k : Nat) : Prop := ∀ x c, o = some (x, c) → ∀ i, i < k → iv 49 i = nI (x.1.getD i 0)
noncomputable def wCo (sg : xIv) (w s : Nat) : Option Nat := coR (nrM (HH sg) s) w (cnt (vL sg) 1) 0 0
def wlA (o : Option (wE × Nat)) (i : Int32) : Int32 := match o with
  | none => -4
  | some (x, c) => if i < 0 then nI c else nI (x.1.getD i.toNatClampNeg 0)
section DIG
variable {L : Nat} {xs : Nat → Int32} {iv : xIv} {lg : xLg} {Q : xQ} {sg : xIv} {tw : Nat → Int64} {t : Nat} {k w : Nat}
theorem wCo_bd (hG : GG t sg) (s : Nat) : oLe (wCo sg w s) 22176 := fun c hc => by
  have h8 := hG.1.2.1.2
  have := coR_le (cnt (vL sg) 1) 0 0 (fun i _ h2 => mnE_le 12 (fun e _ c hc => by
    by_cases h : s.testBit e = true
    · rw [if_pos h] at hc; exact HH_bd hG (by omega) e c hc
    · rw [if_neg h] at hc; cases hc)) c hc
  omega
theorem wCo_row (hG : GG t sg) (hk : 1 ≤ k ∧ k ≤ 3) {x : wE} (hx : x ∈ wlK k) : coR (nrR (HH sg) x.1 k) w (cnt (vL sg) 1) 0 0 = wCo sg w x.2.1 :=
  coR_cg _ _ _ (fun i _ h2 => nr_eq hk hx (fun q => HH_bd hG (by omega) q))
theorem wl_g (hk : 1 ≤ k ∧ k ≤ 3) {x : wE} (hx : x ∈ wlK k) : ∀ i, i < k → x.1.getD i 0 < 12 := fun i hi => by
  obtain ⟨e1, e2, -⟩ := wl_e hk hx
  refine e2 _ ?_
  rw [List.getD_eq_getElem?_getD, List.getElem?_eq_getElem (by omega)]
  exact List.getElem_mem _
theorem lc_bd (hG : GG t sg) {B : wE → Prop} {o : Option (wE × Nat)} {inf : Nat} (hi : 22176 ≤ inf) (h : bst k (wCo sg w) B o) : lcost inf o ≤ inf := by
  match o, h with
  | none, _ => exact Nat.le_refl _
  | some (x, c), h => have := wCo_bd hG x.2.1 c h.2.2.1; show c ≤ inf; omega
set_option maxRecDepth 100000 in
theorem c_dig_l (hG : GG t sg) (hk : 1 ≤ k ∧ k ≤ 3) (hw : w ≤ 99999) : ∀ (l : List wE) (x : wE) (pre : List wE) (n : Nat) (N LE : Int32) (iv : xIv) (o : Option (wE × Nat)) (o6 : Option Int32), pre ++ x :: l = wlK k → wnx (x :: l) = true → (∀ y, y ∈ pre → ∀ z, z ∈ x :: l → z.2.2 < y.2.2) → n + l.length < 1000 → N = nI n → LE = nI (lcost 1000000 o) → CX iv lg sg tw → RW iv x.1 k → bst k (wCo sg w) (fun z => z ∈ pre) o → BO iv o k → (∀ iv' o', CX iv' lg sg tw → refS iv' lg iv lg → bst k (wCo sg w) (fun z => z ∈ wlK k) o' → BO iv' o' k → Q (some (.int (nI (lcost 1000000 o')))) SH RF iv' lg) → Wp L xs m_Wells_dig 18 [some (.ref 47), some (.int (nI k)), some (.int (nI w)), some (.int LE), some (.int 1), some (.int N), o6.map Value.int] [] SH RF iv lg Q := by
  intro l
  induction l with
  | nil =>
    intro x pre n N LE iv o o6 hpre hnx hrv hn hN hLE hC h48 hB hO kk
    subst hN; subst hLE
    have hx : x ∈ wlK k := by rw [← hpre]; simp
    obtain ⟨q1, q2, -⟩ := wl_e hk hx
    have hg := wl_g hk hx
    have en := wnx_one hnx
    have hlc := lc_bd hG (inf := 1000000) (by decide) hB
    have ec := wCo_row (w := w) hG hk hx
    have at41 : ∀ iv1 o' V, CX iv1 lg sg tw → refS iv1 lg iv lg → RW iv1 x.1 k → bst k (wCo sg w) (fun z => z ∈ pre ∨ z = x) o' → BO iv1 o' k → Wp L xs m_Wells_dig 41 [some (.ref 47), some (.int (nI k)), some (.int (nI w)), some (.int (nI (lcost 1000000 o'))), some (.int 1), some (.int (nI n)), some (.int V)] [] SH RF iv1 lg Q := fun iv1 o' V C1 R1 r48 B1 O1 => by
      have k2 := kk iv1 o' C1 R1 (bst_cg (fun z _ => by rw [← hpre]; simp) B1) O1
      clear kk
      refine wgo [18] 100 ?_
      refine c_next hk q1 hg r48 (fun ro' iv' h1 => by rw [en] at h1; cases h1) (fun _ => ?_)
      refine wgo [] 100 ?_
      refine And.intro (fun _ => ?_) (fun _ => ?_)
      · exact k2
      · refine b0 ?_
        exact k2
    have hlt : nI n < (1728 : Int32) := nI_lt (b := 1728) (by omega) (by decide)
    have bC := wCo_bd (w := w) hG x.2.1
    have upd : ∀ iv1, CX iv1 lg sg tw → refS iv1 lg iv lg → (∀ k, (k < 37 ∨ 43 ≤ k) → iv1 k = iv k) → ∀ V : Int32, V = nI ((wCo sg w x.2.1).getD 1000000) → (nI (lcost 1000000 o) ≤ V → Wp L xs m_Wells_dig 41 [some (.ref 47), some (.int (nI k)), some (.int (nI w)), some (.int (nI (lcost 1000000 o))), some (.int 1), some (.int (nI n)), some (.int V)] [] SH RF iv1 lg Q) ∧ (¬ nI (lcost 1000000 o) ≤ V → Wp L xs m_Wells_dig 41 [some (.ref 47), some (.int (nI k)), some (.int (nI w)), some (.int V), some (.int 1), some (.int (nI n)), some (.int V)] [] SH RF (xur iv1 49 (va_cpy (iv1 48) (iv1 49) (0 : Int32).toNatClampNeg (0 : Int32).toNatClampNeg (nI k).toNatClampNeg)) lg Q) := fun iv1 C1 R1 d1 V hV => by
      have R48 : RW iv1 x.1 k := fun i hi => by rw [d1 48 (by omega)]; exact h48 i hi
      have O1 : BO iv1 o k := fun y c e i hi => by rw [d1 49 (by omega)]; exact hO y c e i hi
      refine ⟨fun z => ?_, fun z => ?_⟩
      · refine at41 iv1 o V C1 R1 R48 (bst_skip hB ?_) O1
        cases eC : wCo sg w x.2.1 with
        | none => exact Or.inl rfl
        | some d =>
          refine Or.inr ?_
          rw [hV, eC] at z
          have bd := bC d eC
          have z2 : lcost 1000000 o ≤ d := (nI_leI (by omega) (by omega)).mp z
          match o, hB, z2 with
          | none, _, z2 => replace z2 : 1000000 ≤ d := z2; omega
          | some (y, c), hB, z2 => exact ⟨y, c, d, rfl, rfl, z2, fun _ => Nat.le_of_lt (hrv y hB.2.1 x List.mem_cons_self)⟩
      · have z1 : ¬ lcost 1000000 o ≤ (wCo sg w x.2.1).getD 1000000 := fun q => z (by rw [hV]; exact (nI_leI (by omega) (by have := getD_le (inf := 1000000) (fun c hc => Nat.le_trans (bC c hc) (by decide)); omega)).mpr q)
        cases eC : wCo sg w x.2.1 with
        | none => rw [eC] at z1; exact absurd hlc z1
        | some d =>
          rw [eC] at z1 hV
          replace hV : V = nI d := hV
          replace z1 : ¬ lcost 1000000 o ≤ d := z1
          subst hV
          rw [show (0 : Int32).toNatClampNeg = 0 from rfl, cl]
          refine at41 _ (some (x, d)) _ (C1.wr (Or.inl (by decide))) ⟨fun k hk => (xur_ne (by omega)).trans (R1.1 k hk), R1.2⟩ (fun i hi => by rw [xur_ne (by decide)]; exact R48 i hi) (bst_take hx eC hB (fun y c e => Or.inl ?_)) (fun y c e i hi => ?_)
          · rw [e] at z1
            replace z1 : ¬ c ≤ d := z1
            omega
          · cases e
            rw [xur_s, cpy0 hi]
            exact R48 i hi
    clear kk at41
    have cpc : (¬ (0 : Int32) < 0 ∧ ¬ (0 : Int32) < 0 ∧ ¬ nI k < 0) ∧ (0 : Int32).toNatClampNeg + (nI k).toNatClampNeg ≤ 3 ∧ (0 : Int32).toNatClampNeg + (nI k).toNatClampNeg ≤ 3 := by
      rw [cl, show (0 : Int32).toNatClampNeg = 0 from rfl]
      exact ⟨⟨by decide, by decide, lenl (nI_pos' (by omega))⟩, by omega, by omega⟩
    cases o6
    all_goals
      refine wgo [41] 100 ?_
      refine And.intro (fun z => absurd hlt (lenl z)) (fun _ => ?_)
      refine b1 ?_
      refine c_costRow (ro := x.1) hG hk.2 hw hg hC h48 (fun iv1 C1 R1 d1 => ?_)
      rw [ec]
      obtain ⟨u1, u2⟩ := upd iv1 C1 R1 d1 _ rfl
      refine And.intro (fun z => ?_) (fun z => ?_)
      · exact u1 z
      · refine And.intro cpc ?_
        exact u2 z
  | cons x2 l ih =>
    intro x pre n N LE iv o o6 hpre hnx hrv hn hN hLE hC h48 hB hO kk
    subst hN; subst hLE
    have hx : x ∈ wlK k := by rw [← hpre]; simp
    obtain ⟨q1, q2, -⟩ := wl_e hk hx
    have hg := wl_g hk hx
    obtain ⟨en, hnx2⟩ := wnx_tl hnx
    have hlt2 := wnx_lt (x2 :: l) x hnx
    simp only [List.length_cons] at hn
    have hlc := lc_bd hG (inf := 1000000) (by decide) hB
    have ec := wCo_row (w := w) hG hk hx
    have at41 : ∀ iv1 o' V, CX iv1 lg sg tw → refS iv1 lg iv lg → RW iv1 x.1 k → bst k (wCo sg w) (fun z => z ∈ pre ∨ z = x) o' → BO iv1 o' k → Wp L xs m_Wells_dig 41 [some (.ref 47), some (.int (nI k)), some (.int (nI w)), some (.int (nI (lcost 1000000 o'))), some (.int 1), some (.int (nI n)), some (.int V)] [] SH RF iv1 lg Q := fun iv1 o' V C1 R1 r48 B1 O1 => by
      refine wgo [18] 100 ?_
      refine c_next hk q1 hg r48 (fun ro' iv' h1 h2 h3 => ?_) (fun h1 => by rw [en] at h1; cases h1)
      rw [en] at h1
      cases h1
      refine ih x2 (pre ++ [x]) (n + 1) _ _ iv' o' (some V) (by rw [← hpre]; simp) hnx2 (fun y hy z hz => ?_) (by omega) (nI_1 n) rfl (C1.wN (fun k hk => h3 k (by omega))) h2 (bst_cg (fun z _ => by simp) B1) (fun y c e i hi => by rw [h3 49 (by decide)]; exact O1 y c e i hi) (fun iv2 o2 g1 g2 g3 g4 => kk iv2 o2 g1 ⟨fun k hk => (g2.1 k hk).trans ((h3 k (by omega)).trans (R1.1 k hk)), fun k hk => (g2.2 k hk).trans (R1.2 k hk)⟩ g3 g4)
      rcases List.mem_append.mp hy with c | c
      · exact hrv y c z (List.mem_cons_of_mem _ hz)
      · rw [List.mem_singleton.mp c]; exact hlt2 z hz
    have hlt : nI n < (1728 : Int32) := nI_lt (b := 1728) (by omega) (by decide)
    have bC := wCo_bd (w := w) hG x.2.1
    have upd : ∀ iv1, CX iv1 lg sg tw → refS iv1 lg iv lg → (∀ k, (k < 37 ∨ 43 ≤ k) → iv1 k = iv k) → ∀ V : Int32, V = nI ((wCo sg w x.2.1).getD 1000000) → (nI (lcost 1000000 o) ≤ V → Wp L xs m_Wells_dig 41 [some (.ref 47), some (.int (nI k)), some (.int (nI w)), some (.int (nI (lcost 1000000 o))), some (.int 1), some (.int (nI n)), some (.int V)] [] SH RF iv1 lg Q) ∧ (¬ nI (lcost 1000000 o) ≤ V → Wp L xs m_Wells_dig 41 [some (.ref 47), some (.int (nI k)), some (.int (nI w)), some (.int V), some (.int 1), some (.int (nI n)), some (.int V)] [] SH RF (xur iv1 49 (va_cpy (iv1 48) (iv1 49) (0 : Int32).toNatClampNeg (0 : Int32).toNatClampNeg (nI k).toNatClampNeg)) lg Q) := fun iv1 C1 R1 d1 V hV => by
      have R48 : RW iv1 x.1 k := fun i hi => by rw [d1 48 (by omega)]; exact h48 i hi
      have O1 : BO iv1 o k := fun y c e i hi => by rw [d1 49 (by omega)]; exact hO y c e i hi
      refine ⟨fun z => ?_, fun z => ?_⟩
      · refine at41 iv1 o V C1 R1 R48 (bst_skip hB ?_) O1
        cases eC : wCo sg w x.2.1 with
        | none => exact Or.inl rfl
        | some d =>
          refine Or.inr ?_
          rw [hV, eC] at z
          have bd := bC d eC
          have z2 : lcost 1000000 o ≤ d := (nI_leI (by omega) (by omega)).mp z
          match o, hB, z2 with
          | none, _, z2 => replace z2 : 1000000 ≤ d := z2; omega
          | some (y, c), hB, z2 => exact ⟨y, c, d, rfl, rfl, z2, fun _ => Nat.le_of_lt (hrv y hB.2.1 x List.mem_cons_self)⟩
      · have z1 : ¬ lcost 1000000 o ≤ (wCo sg w x.2.1).getD 1000000 := fun q => z (by rw [hV]; exact (nI_leI (by omega) (by have := getD_le (inf := 1000000) (fun c hc => Nat.le_trans (bC c hc) (by decide)); omega)).mpr q)
        cases eC : wCo sg w x.2.1 with
        | none => rw [eC] at z1; exact absurd hlc z1
        | some d =>
          rw [eC] at z1 hV
          replace hV : V = nI d := hV
          replace z1 : ¬ lcost 1000000 o ≤ d := z1
          subst hV
          rw [show (0 : Int32).toNatClampNeg = 0 from rfl, cl]
          refine at41 _ (some (x, d)) _ (C1.wr (Or.inl (by decide))) ⟨fun k hk => (xur_ne (by omega)).trans (R1.1 k hk), R1.2⟩ (fun i hi => by rw [xur_ne (by decide)]; exact R48 i hi) (bst_take hx eC hB (fun y c e => Or.inl ?_)) (fun y c e i hi => ?_)
          · rw [e] at z1
            replace z1 : ¬ c ≤ d := z1
            omega
          · cases e
            rw [xur_s, cpy0 hi]
            exact R48 i hi
    clear kk at41 ih
    have cpc : (¬ (0 : Int32) < 0 ∧ ¬ (0 : Int32) < 0 ∧ ¬ nI k < 0) ∧ (0 : Int32).toNatClampNeg + (nI k).toNatClampNeg ≤ 3 ∧ (0 : Int32).toNatClampNeg + (nI k).toNatClampNeg ≤ 3 := by
      rw [cl, show (0 : Int32).toNatClampNeg = 0 from rfl]
      exact ⟨⟨by decide, by decide, lenl (nI_pos' (by omega))⟩, by omega, by omega⟩
    cases o6
    all_goals
      refine wgo [41] 100 ?_
      refine And.intro (fun z => absurd hlt (lenl z)) (fun _ => ?_)
      refine b1 ?_
      refine c_costRow (ro := x.1) hG hk.2 hw hg hC h48 (fun iv1 C1 R1 d1 => ?_)
      rw [ec]
      obtain ⟨u1, u2⟩ := upd iv1 C1 R1 d1 _ rfl
      refine And.intro (fun z => ?_) (fun z => ?_)
      · exact u1 z
      · refine And.intro cpc ?_
        exact u2 z
theorem wl_hd (hk : 1 ≤ k ∧ k ≤ 3) : ∃ x l, wlK k = x :: l ∧ (∀ i, i < k → x.1.getD i 0 = i) ∧ l.length < 1000 := by
  have h : k = 1 ∨ k = 2 ∨ k = 3 := by omega
  rcases h with rfl | rfl | rfl
  · exact ⟨_, _, rfl, by decide, by decide⟩
  · exact ⟨_, _, rfl, by decide, by decide⟩
  · exact ⟨_, _, rfl, by decide, by decide +kernel⟩
set_option maxRecDepth 100000 in
theorem c_dig_0 (hk : k ≤ 3) : ∀ (r j : Nat) (J : Int32) (iv : xIv), j + r = k → J = nI j → (∀ i, i < j → iv 48 i = nI i) → (∀ iv', (∀ i, i < k → iv' 48 i = nI i) → (∀ k, k ≠ 48 → iv' k = iv k) → Wp L xs m_Wells_dig 18 [some (.ref 47), some (.int (nI k)), some (.int (nI w)), some (.int 1000000), some (.int 1), some (.int 0), none] [] SH RF iv' lg Q) → Wp L xs m_Wells_dig 4 [some (.ref 47), some (.int (nI k)), some (.int (nI w)), some (.int 1000000), some (.int J), none, none] [] SH RF iv lg Q
  | 0, j, J, iv, hj, hJ, h48, kk => by
    obtain rfl : j = k := by omega
    subst hJ
    have k2 := kk iv h48 (fun _ _ => rfl)
    clear kk
    refine wgo [4, 18] 100 ?_
    exact And.intro (fun _ => k2) (fun z => absurd (il.mpr (Int.le_refl _)) z)
  | r + 1, j, J, iv, hj, hJ, h48, kk => by
    subst hJ
    have vj : vp_in (nI j) 3 := vp_N (by omega)
    have nx : Wp L xs m_Wells_dig 4 [some (.ref 47), some (.int (nI k)), some (.int (nI w)), some (.int 1000000), some (.int (nI j + 1)), none, none] [] SH RF (xu2 iv 48 (nI j).toNatClampNeg (nI j)) lg Q := by
      rw [cl]
      refine c_dig_0 hk r (j + 1) _ _ (by omega) (nI_1 j) (fun i hi => ?_) (fun iv' c1 c2 => kk iv' c1 (fun k hk => (c2 k hk).trans (xu2_ne hk)))
      by_cases c : i = j
      · rw [c, xu2_s]
      · rw [xu2_j c]; exact h48 i (by omega)
    clear kk
    refine wgo [4, 18] 100 ?_
    refine And.intro (fun z => absurd (nI_lt (show j < k by omega) (by omega)) (lenl z)) (fun _ => ?_)
    refine And.intro vj ?_
    exact nx
set_option maxRecDepth 100000 in
theorem c_dig (hG : GG t sg) (hk : 1 ≤ k ∧ k ≤ 3) (hw : w ≤ 99999) (hC : CX iv lg sg tw) (kk : ∀ iv' o', CX iv' lg sg tw → refS iv' lg iv lg → bst k (wCo sg w) (fun z => z ∈ wlK k) o' → BO iv' o' k → Q (some (.int (nI (lcost 1000000 o')))) SH RF iv' lg) : Sp L xs m_Wells_dig [.ref 47, .int (nI k), .int (nI w)] SH RF iv lg Q := by
  obtain ⟨x, l, hl, hx, hlen⟩ := wl_hd hk
  have hnx := (wl_all hk).2.1
  rw [hl] at hnx
  have nx : Wp L xs m_Wells_dig 4 [some (.ref 47), some (.int (nI k)), some (.int (nI w)), some (.int 1000000), some (.int 0), none, none] [] SH RF iv lg Q := by
    refine c_dig_0 hk.2 k 0 _ iv (Nat.zero_add k) rfl (fun i hi => absurd hi (Nat.not_lt_zero i)) (fun iv1 c1 c2 => ?_)
    exact c_dig_l hG hk hw l x [] 0 _ _ iv1 none none (by rw [hl]; rfl) hnx (fun y hy => absurd hy (by simp)) (by omega) rfl rfl (hC.wN (fun k hk => c2 k (by omega))) (fun i hi => by rw [c1 i hi, hx i hi]) (fun z _ hz => absurd hz (by simp)) (fun y c e => by cases e) (fun iv' o' g1 g2 g3 g4 => kk iv' o' g1 ⟨fun k hk => (g2.1 k hk).trans (c2 k (by omega)), g2.2⟩ g3 g4)
  clear kk
  refine sgo [4] 100 ?_
  exact nx
abbrev okWl (a b c : Int32) : Prop := (1 ≤ a ∧ a ≤ 3) ∧ (0 ≤ b ∧ b ≤ 99999) ∧ (-1 ≤ c ∧ c ≤ a - 1)
theorem m1k {c : Int32} (hk : 1 ≤ k ∧ k ≤ 3) (h : -1 ≤ c ∧ c ≤ nI k - 1) : c = -1 ∨ ∃ i, i < k ∧ c = nI i := by
  obtain ⟨h1, h2⟩ := h
  rw [il] at h1 h2
  rw [show (-1 : Int32).toInt = -1 from by decide] at h1
  rw [nI_m1_toInt (by omega)] at h2
  by_cases q : c.toInt = -1
  · exact Or.inl (ie.mpr (by rw [q]; decide))
  · exact Or.inr ⟨c.toInt.toNat, by omega, nI_of_toInt (by omega)⟩
theorem n13 {a : Int32} (h : 1 ≤ a ∧ a ≤ 3) : ∃ k, (1 ≤ k ∧ k ≤ 3) ∧ a = nI k := by
  obtain ⟨h1, h2⟩ := h
  rw [il] at h1 h2
  rw [tl1] at h1
  rw [tl3] at h2
  exact ⟨a.toInt.toNat, by omega, nI_of_toInt (by omega)⟩
theorem n09 {a : Int32} (h : 0 ≤ a ∧ a ≤ 99999) : ∃ k, k ≤ 99999 ∧ a = nI k := by
  obtain ⟨h1, h2⟩ := h
  rw [il] at h1 h2
  rw [tl0] at h1
  rw [tl9] at h2
  exact ⟨a.toInt.toNat, by omega, nI_of_toInt (by omega)⟩
set_option maxRecDepth 100000 in
theorem c_wells {a b c : Int32} (hC : CX iv lg sg tw) (hG : GG t sg) (k1 : ∀ k w o, (1 ≤ k ∧ k ≤ 3) → w ≤ 99999 → a = nI k → b = nI w → okWl a b c → ¬ cnt (vL sg) 1 = 0 → bst k (wCo sg w) (fun z => z ∈ wlK k) o → ∀ iv', CX iv' lg sg tw → refS iv' lg iv lg → Q (some (.int (wlA o c))) SH RF iv' lg) (k3 : okWl a b c → cnt (vL sg) 1 = 0 → Q (some (.int (-4))) SH RF iv lg) (k2 : ¬ okWl a b c → Q (some (.int (-1))) SH RF iv lg) : Sp L xs m_SR_wells [.ref 0, .int a, .int b, .int c] SH RF iv lg Q := by
  have h8 := hG.1.2.1.2
  have hn := nP_c hC hG
  refine sgo [] 100 ?_
  refine s_within (fun h1 => ?_) (fun h1 => ?_)
  · refine b1 ?_
    refine s_within (fun h2 => ?_) (fun h2 => ?_)
    · refine b1 ?_
      refine s_within (fun h3 => ?_) (fun h3 => ?_)
      · refine c1 ?_
        refine And.intro (fun z => ?_) (fun z => ?_)
        · have hne : ¬ cnt (vL sg) 1 = 0 := fun e => z (by rw [hn, e]; rfl)
          obtain ⟨k, hk, rfl⟩ := n13 h1
          obtain ⟨w, hw, rfl⟩ := n09 h2
          have kk := fun o => k1 k w o hk hw rfl rfl ⟨h1, h2, h3⟩ hne
          clear k1 k2 k3
          refine c_dig hG hk hw hC (fun iv1 o C1 R1 B1 O1 => ?_)
          have k2 := kk o B1 iv1 C1 R1
          have hlc := lc_bd hG (inf := 1000000) (by decide) B1
          match o, B1, O1, k2, hlc with
          | none, _, _, k2, _ =>
            refine And.intro (fun z => absurd z (by decide)) (fun _ => ?_)
            exact k2
          | some (x, d), B1, O1, k2, _ =>
            have bd := wCo_bd hG x.2.1 d B1.2.2.1
            refine And.intro (fun _ => ?_) (fun z => absurd (nI_lt (a := d) (b := 1000000) (by omega) (by decide)) z)
            rcases m1k hk h3 with rfl | ⟨i, hi, rfl⟩
            · refine And.intro (fun z => absurd z (by decide)) (fun _ => ?_)
              exact k2
            · have hnn : ¬ nI i < 0 := lenl (nI_pos' (by omega))
              refine And.intro (fun _ => ?_) (fun z => absurd (nlt hnn) z)
              refine And.intro (vp_N (by omega)) ?_
              refine qv k2 ?_
              show _ = if nI i < 0 then _ else _
              rw [if_neg hnn, cl]
              exact O1 x d rfl i hi
        · refine k3 ⟨h1, h2, h3⟩ ?_
          have := Decidable.not_not.mp z
          rw [hn] at this
          exact (nI_eq (b := 0) (by omega) (by decide)).mp this
      · refine c0 ?_
        exact k2 (fun z => h3 z.2.2)
    · refine b0 ?_
      exact k2 (fun z => h2 z.2.1)
  · refine b0 ?_
    exact k2 (fun z => h1 z.1)
end DIG
