-- ===== tours: the class =====
theorem ni6' (n : Nat) : nI n * (6 : Int32) = nI (6 * n) := by rw [Nat.mul_comm]; exact pk_mul n 6
abbrev isR (R : Nat) : Prop := R = 39 ∨ R = 40 ∨ R = 41 ∨ R = 42
/-- what the class's tours stand on -/
def CT (iv : xIv) (R : Nat) (D : Nat → Nat → Option Nat) (P : Nat → Nat) (n : Nat) : Prop := iv 1 2 = nI n ∧ (∀ e, e < n → iv 17 e = nI (P e)) ∧ ∀ a b, a < 12 → b < 12 → iv R (12 * a + b) = nI ((D a b).getD 1000000)
theorem CT.cg {iv iv' : xIv} {R : Nat} {D : Nat → Nat → Option Nat} {P : Nat → Nat} {n : Nat} (h : CT iv R D P n) (hR : isR R) (hr : ∀ k, k < 43 → iv' k = iv k) : CT iv' R D P n := by
  unfold CT at h ⊢
  rw [hr 1 (by decide), hr 17 (by decide), hr R (by omega)]
  exact h
section WEIGH
variable {L : Nat} {xs : Nat → Int32} {iv : xIv} {lg : xLg} {Q : xQ} {D : Nat → Nat → Option Nat} {P : Nat → Nat} {h n R : Nat}
set_option maxRecDepth 100000 in
theorem c_by {e S x p r1 r2 : Nat} (hR : isR R) (hS : S < 64) (he : e < 6) (hb : S.testBit e = true) (hx : x < 12) (hp : p < 12) (h17 : iv 17 e = nI p) (h1 : iv R (12 * x + p) = nI r1) (h2 : iv 44 (6 * (S - 2 ^ e) + e) = nI r2) (k : Q (some (.int (nI (r1 + r2)))) SH RF iv lg) : Sp L xs m_Tours_by [.ref 43, .int (nI e), .int (nI S), .ref R, .int (nI x)] SH RF iv lg Q := by
  have ve : vp_in (nI e) 6 := vp_N he
  have eo := tb_op S hS e he hb
  have hsub : S - 2 ^ e < 64 := Nat.lt_of_le_of_lt (Nat.sub_le _ _) hS
  have i1 : nI x * (12 : Int32) + iv 17 (nI e).toNatClampNeg = nI (12 * x + p) := by rw [cl, h17, ni12', ni_a]
  have v1 : vp_in (nI x * (12 : Int32) + iv 17 (nI e).toNatClampNeg) 144 := by rw [i1]; exact vp_N (by omega)
  have i2 : (nI S &&& (((1 : Int32) <<< (nI e &&& 31)) ^^^ (-1))) * 6 + nI e = nI (6 * (S - 2 ^ e) + e) := by rw [eo, ni6', ni_a]
  have v2 : vp_in ((nI S &&& (((1 : Int32) <<< (nI e &&& 31)) ^^^ (-1))) * 6 + nI e) 384 := by rw [i2]; exact vp_N (by omega)
  have es : iv R (nI x * (12 : Int32) + iv 17 (nI e).toNatClampNeg).toNatClampNeg + iv 44 ((nI S &&& (((1 : Int32) <<< (nI e &&& 31)) ^^^ (-1))) * 6 + nI e).toNatClampNeg = nI (r1 + r2) := by rw [i1, i2, cl, cl, h1, h2, ni_a]
  clear i1 i2 h1 h2 h17
  rcases hR with rfl | rfl | rfl | rfl
  all_goals
    refine sgo [] 100 ?_
    refine And.intro ve ?_
    refine And.intro v1 ?_
    refine And.intro v2 ?_
    exact qv k es
/-- what firstOf needs of the numbers by errands -/
def WB (iv : xIv) (R S x n : Nat) (W : Nat → Nat) : Prop := ∀ e, e < n → S.testBit e = true → ∃ p r1 r2, p < 12 ∧ iv 17 e = nI p ∧ iv R (12 * x + p) = nI r1 ∧ iv 44 (6 * (S - 2 ^ e) + e) = nI r2 ∧ W e = r1 + r2 ∧ W e < 2 ^ 31
def FI (S j : Nat) (W : Nat → Nat) (f B : Int32) : Prop := (B = -1 ∧ f = 0 ∧ ∀ e, e < j → S.testBit e = false) ∨ ∃ e, e < j ∧ S.testBit e = true ∧ B = nI (W e) ∧ f = nI e ∧ (∀ e', e' < j → S.testBit e' = true → W e ≤ W e') ∧ ∀ e', e' < e → S.testBit e' = true → W e < W e'
set_option maxRecDepth 100000 in
theorem c_first_l {S x : Nat} {W : Nat → Nat} (hR : isR R) (hn : n ≤ 6) (hS : S < 64) (hx : x < 12) (h12 : iv 1 2 = nI n) (hW : WB iv R S x n W) : ∀ (r j : Nat) (J f B : Int32) (o7 : Option Int32), j + r = n → J = nI j → FI S j W f B → (∀ f B, FI S n W f B → Q (some (.int f)) SH RF iv lg) → Wp L xs m_Tours_firstOf 6 [some (.ref 43), some (.int (nI S)), some (.ref R), some (.int (nI x)), some (.int f), some (.int B), some (.int J), o7.map Value.int] [] SH RF iv lg Q
  | 0, j, J, f, B, o7, hj, hJ, hF, k => by
    obtain rfl : j = n := by omega
    subst hJ
    have kk := k f B hF
    clear k
    refine wgo [6] 100 ?_
    exact And.intro (fun _ => kk) (fun z => absurd (by rw [h12]; exact il.mpr (Int.le_refl _)) z)
  | r + 1, j, J, f, B, o7, hj, hJ, hF, k => by
    subst hJ
    have hlt : nI j < iv 1 2 := by rw [h12]; exact nI_lt (by omega) (by omega)
    have hbit := nx_bit (k := S) (x := j) (by omega) (by omega)
    have skip : S.testBit j = false → ∀ o7 : Option Int32, Wp L xs m_Tours_firstOf 6 [some (.ref 43), some (.int (nI S)), some (.ref R), some (.int (nI x)), some (.int f), some (.int B), some (.int (nI j + 1)), o7.map Value.int] [] SH RF iv lg Q := fun hb o7 => by
      refine c_first_l hR hn hS hx h12 hW r (j + 1) _ f B o7 (by omega) (nI_1 j) ?_ k
      rcases hF with ⟨a1, a2, a3⟩ | ⟨e, a1, a2, a3, a4, a5, a6⟩
      · refine Or.inl ⟨a1, a2, fun e he => ?_⟩
        by_cases c : e = j
        · rw [c]; exact hb
        · exact a3 e (by omega)
      · refine Or.inr ⟨e, by omega, a2, a3, a4, fun e' he' hb' => ?_, a6⟩
        by_cases c : e' = j
        · subst c; rw [hb] at hb'; cases hb'
        · exact a5 e' (by omega) hb'
    by_cases hb : S.testBit j = true
    · obtain ⟨p, r1, r2, g1, g2, g3, g4, g5, g6⟩ := hW j (by omega) hb
      have by' := fun Q => c_by (L := L) (xs := xs) (iv := iv) (lg := lg) (Q := Q) hR hS (show j < 6 by omega) hb hx g1 g2 g3 g4
      rw [← g5] at by'
      have take : (∀ e', e' < j → S.testBit e' = true → W j < W e') → ∀ o7 : Option Int32, Wp L xs m_Tours_firstOf 6 [some (.ref 43), some (.int (nI S)), some (.ref R), some (.int (nI x)), some (.int (nI j)), some (.int (nI (W j))), some (.int (nI j + 1)), o7.map Value.int] [] SH RF iv lg Q := fun hlt o7 => by
        refine c_first_l hR hn hS hx h12 hW r (j + 1) _ _ _ o7 (by omega) (nI_1 j) (Or.inr ⟨j, by omega, hb, rfl, rfl, fun e' he' hb' => ?_, hlt⟩) k
        by_cases c : e' = j
        · rw [c]; exact Nat.le_refl _
        · exact Nat.le_of_lt (hlt e' (by omega) hb')
      have leave : (∃ e, e < j ∧ S.testBit e = true ∧ B = nI (W e) ∧ f = nI e ∧ (∀ e', e' < j → S.testBit e' = true → W e ≤ W e') ∧ (∀ e', e' < e → S.testBit e' = true → W e < W e') ∧ W e ≤ W j) → ∀ o7 : Option Int32, Wp L xs m_Tours_firstOf 6 [some (.ref 43), some (.int (nI S)), some (.ref R), some (.int (nI x)), some (.int f), some (.int B), some (.int (nI j + 1)), o7.map Value.int] [] SH RF iv lg Q := fun ⟨e, a1, a2, a3, a4, a5, a6, a7⟩ o7 => by
        refine c_first_l hR hn hS hx h12 hW r (j + 1) _ f B o7 (by omega) (nI_1 j) (Or.inr ⟨e, by omega, a2, a3, a4, fun e' he' hb' => ?_, a6⟩) k
        by_cases c : e' = j
        · rw [c]; exact a7
        · exact a5 e' (by omega) hb'
      clear k
      have hnb : ¬ (nI S >>> (nI j &&& 31)) &&& 1 = 0 := fun z => by rw [hbit.mp z] at hb; cases hb
      have cases2 : (B < 0 ∧ ∀ e', e' < j → S.testBit e' = true → W j < W e') ∨ (¬ B < 0 ∧ ¬ B ≤ nI (W j) ∧ ∀ e', e' < j → S.testBit e' = true → W j < W e') ∨ (¬ B < 0 ∧ B ≤ nI (W j) ∧ ∃ e, e < j ∧ S.testBit e = true ∧ B = nI (W e) ∧ f = nI e ∧ (∀ e', e' < j → S.testBit e' = true → W e ≤ W e') ∧ (∀ e', e' < e → S.testBit e' = true → W e < W e') ∧ W e ≤ W j) := by
        rcases hF with ⟨a1, a2, a3⟩ | ⟨e, a1, a2, a3, a4, a5, a6⟩
        · refine Or.inl ⟨by rw [a1]; decide, fun e' he' hb' => ?_⟩
          rw [a3 e' he'] at hb'; cases hb'
        · obtain ⟨p', q1, q2, z1, z2, z3, z4, z5, z6⟩ := hW e (by omega) a2
          have hp : ¬ B < 0 := by rw [a3]; exact lenl (nI_pos' z6)
          by_cases c : W e ≤ W j
          · exact Or.inr (Or.inr ⟨hp, by rw [a3]; exact (nI_leI z6 g6).mpr c, e, a1, a2, a3, a4, a5, a6, c⟩)
          · exact Or.inr (Or.inl ⟨hp, by rw [a3]; exact fun z => c ((nI_leI z6 g6).mp z), fun e' he' hb' => Nat.lt_of_lt_of_le (by omega) (a5 e' he' hb')⟩)
      rcases hR with rfl | rfl | rfl | rfl <;> cases o7
      all_goals
        refine wgo [6] 100 ?_
        refine And.intro (fun z => absurd hlt (lenl z)) (fun _ => ?_)
        refine And.intro (fun _ => ?_) (fun z => absurd hnb z)
        refine by' _ ?_
        refine And.intro (fun z => ?_) (fun z => ?_)
        · rcases cases2 with ⟨c1, c2⟩ | ⟨c1, c2⟩ | ⟨c1, c2⟩
          · exact take c2 (some _)
          · exact absurd z c1
          · exact absurd z c1
        · refine And.intro (fun z2 => ?_) (fun z2 => ?_)
          · rcases cases2 with ⟨c1, c2⟩ | ⟨c1, c2, c3⟩ | ⟨c1, c2, c3⟩
            · exact absurd c1 z
            · exact absurd z2 c2
            · exact leave c3 (some _)
          · rcases cases2 with ⟨c1, c2⟩ | ⟨c1, c2, c3⟩ | ⟨c1, c2, c3⟩
            · exact absurd c1 z
            · exact take c3 (some _)
            · exact absurd c2 z2
    · have hb' : S.testBit j = false := by
        cases c : S.testBit j with
        | true => exact absurd c hb
        | false => rfl
      have sk := skip hb'
      clear k skip
      rcases hR with rfl | rfl | rfl | rfl
      all_goals
        refine wgo [6] 100 ?_
        refine And.intro (fun z => absurd hlt (lenl z)) (fun _ => ?_)
        refine And.intro (fun z => absurd (hbit.mpr hb') z) (fun _ => ?_)
        exact sk o7
set_option maxRecDepth 100000 in
theorem c_first {S x : Nat} {W : Nat → Nat} (hR : isR R) (hn : n ≤ 6) (hS : S < 2 ^ n) (h0 : S ≠ 0) (hx : x < 12) (h12 : iv 1 2 = nI n) (hW : WB iv R S x n W) (k : ∀ e, e < n → S.testBit e = true → (∀ e', e' < n → S.testBit e' = true → W e ≤ W e') → (∀ e', e' < e → S.testBit e' = true → W e < W e') → Q (some (.int (nI e))) SH RF iv lg) : Sp L xs m_Tours_firstOf [.ref 43, .int (nI S), .ref R, .int (nI x)] SH RF iv lg Q := by
  have h64 := (pw6 n (by omega)).2
  have key : Wp L xs m_Tours_firstOf 6 [some (.ref 43), some (.int (nI S)), some (.ref R), some (.int (nI x)), some (.int 0), some (.int (-1)), some (.int 0), none] [] SH RF iv lg Q := by
    refine c_first_l hR hn (by omega) hx h12 hW n 0 _ _ _ none (Nat.zero_add n) rfl (Or.inl ⟨rfl, rfl, fun e he => absurd he (Nat.not_lt_zero e)⟩) (fun f B hF => ?_)
    rcases hF with ⟨a1, a2, a3⟩ | ⟨e, a1, a2, a3, a4, a5, a6⟩
    · obtain ⟨e, he, hb⟩ := tb_ex n (by omega) S hS h0
      rw [a3 e he] at hb; cases hb
    · rw [a4]; exact k e a1 a2 a5 a6
  clear k
  rcases hR with rfl | rfl | rfl | rfl
  all_goals
    refine sgo [6] 100 ?_
    exact key
/-- the rest rows that through needs -/
def RS (iv : xIv) (D : Nat → Nat → Option Nat) (P : Nat → Nat) (h n S : Nat) : Prop := ∀ S' e, S' < S → e < n → S'.testBit e = false → iv 44 (6 * S' + e) = nI ((TO D P h n S' (P e)).getD 1000000)
theorem RS_WB (hn : n ≤ 6) (hD : DB D P n) (hC : CT iv R D P n) {S x : Nat} (h64 : S < 64) (hx : x < 12) (hr : RS iv D P h n S) : WB iv R S x n (rwN D P h n 1000000 S x) := by
  intro e he hb
  have g := tb_ge S h64 e (by omega) hb
  have b1 := getD_le (inf := 1000000) (fun c hc => Nat.le_trans (hD.1 x (P e) hx c hc) (by decide))
  have b2 := getD_le (inf := 1000000) (fun c hc => Nat.le_trans (TO_bd (h := h) (S := S - 2 ^ e) (x := P e) hn hD (by omega) (hD.2 e he) c hc) (by decide))
  exact ⟨P e, _, _, hD.2 e he, hC.2.1 e he, hC.2.2 x (P e) hx (hD.2 e he), hr (S - 2 ^ e) e (by omega) he g.2.2, rfl, by unfold rwN; omega⟩
set_option maxRecDepth 100000 in
theorem c_through {S x : Nat} (hR : isR R) (hn : n ≤ 6) (hD : DB D P n) (hC : CT iv R D P n) (hh : h < 12) (hS : S < 2 ^ n) (hx : x < 12) (hr : RS iv D P h n S) (k : Q (some (.int (nI ((TO D P h n S x).getD 1000000)))) SH RF iv lg) : Sp L xs m_Tours_through [.ref 43, .int (nI S), .ref R, .int (nI x), .int (nI h)] SH RF iv lg Q := by
  have h64 := (pw6 n (by omega)).2
  by_cases h0 : S = 0
  · subst h0
    have e12 : nI x * (12 : Int32) + nI h = nI (12 * x + h) := by rw [ni12', ni_a]
    have v12 : vp_in (nI x * (12 : Int32) + nI h) 144 := by rw [e12]; exact vp_N (by omega)
    have ev : iv R (nI x * (12 : Int32) + nI h).toNatClampNeg = nI ((TO D P h n 0 x).getD 1000000) := by rw [e12, cl]; exact hC.2.2 x h hx hh
    clear e12 hC hr
    rcases hR with rfl | rfl | rfl | rfl
    all_goals
      refine sgo [] 100 ?_
      refine And.intro (fun z => absurd rfl z) (fun _ => ?_)
      refine And.intro v12 ?_
      exact qv k ev
  · have hne : ¬ nI S = 0 := fun z => h0 ((nI_eq (b := 0) (by omega) (by decide)).mp z)
    have hW := RS_WB hn hD hC (S := S) (by omega) hx hr
    have fs := fun Q => c_first (L := L) (xs := xs) (lg := lg) (Q := Q) hR hn hS h0 hx hC.1 hW
    have fin : ∀ e, e < n → S.testBit e = true → (∀ e', e' < n → S.testBit e' = true → rwN D P h n 1000000 S x e ≤ rwN D P h n 1000000 S x e') → ∀ Q2 : xQ, Q2 (some (.int (nI (rwN D P h n 1000000 S x e)))) SH RF iv lg → Sp L xs m_Tours_by [.ref 43, .int (nI e), .int (nI S), .ref R, .int (nI x)] SH RF iv lg Q2 := fun e he hb hm Q2 k2 => by
      obtain ⟨p, r1, r2, g1, g2, g3, g4, g5, g6⟩ := hW e he hb
      exact c_by hR (by omega) (by omega) hb hx g1 g2 g3 g4 (by rw [← g5]; exact k2)
    have val : ∀ e, e < n → S.testBit e = true → (∀ e', e' < n → S.testBit e' = true → rwN D P h n 1000000 S x e ≤ rwN D P h n 1000000 S x e') → imn 1000000 (nI (rwN D P h n 1000000 S x e)) = nI ((TO D P h n S x).getD 1000000) := fun e he hb hm => by
      obtain ⟨p, r1, r2, g1, g2, g3, g4, g5, g6⟩ := hW e he hb
      rw [← TO_min (inf := 1000000) (by decide) hn hD (show S < 64 by omega) h0 hx hm (Or.inr ⟨e, he, hb, rfl⟩)]
      exact imn_nI (a := 1000000) (by decide) g6
    clear hW hC hr
    rcases hR with rfl | rfl | rfl | rfl
    all_goals
      refine sgo [] 100 ?_
      refine And.intro (fun _ => ?_) (fun z => absurd hne z)
      refine fs _ (fun e he hb hm _ => ?_)
      refine fin e he hb hm _ ?_
      exact qv k (val e he hb hm)
/-- while a set's rests are reckoned -/
def RSj (iv : xIv) (D : Nat → Nat → Option Nat) (P : Nat → Nat) (h n S j : Nat) : Prop := RS iv D P h n S ∧ ∀ e, e < j → S.testBit e = false → iv 44 (6 * S + e) = nI ((TO D P h n S (P e)).getD 1000000)
set_option maxRecDepth 100000 in
theorem c_weigh_in {S : Nat} {p st : Int32} (hR : isR R) (hn : n ≤ 6) (hD : DB D P n) (hh : h < 12) (hS : S < 2 ^ n) : ∀ (r j : Nat) (J : Int32) (iv : xIv), j + r = n → J = nI j → CT iv R D P n → RSj iv D P h n S j → (∀ iv' J', RSj iv' D P h n S n → (∀ k, k ≠ 44 → iv' k = iv k) → Wp L xs m_Tours_weigh 61 [some (.ref 43), some (.int p), some (.ref R), some (.int (nI h)), some (.int st), some (.int (nI S)), some (.int J')] [] SH RF iv' lg Q) → Wp L xs m_Tours_weigh 30 [some (.ref 43), some (.int p), some (.ref R), some (.int (nI h)), some (.int st), some (.int (nI S)), some (.int J)] [] SH RF iv lg Q
  | 0, j, J, iv, hj, hJ, hC, hF, k => by
    obtain rfl : j = n := by omega
    subst hJ
    have kk := k iv (nI j) hF (fun _ _ => rfl)
    have h12 := hC.1
    clear k hC
    refine wgo [30, 61] 100 ?_
    exact And.intro (fun _ => kk) (fun z => absurd (by rw [h12]; exact il.mpr (Int.le_refl _)) z)
  | r + 1, j, J, iv, hj, hJ, hC, hF, k => by
    subst hJ
    have h64 := (pw6 n (by omega)).2
    have hlt : nI j < iv 1 2 := by rw [hC.1]; exact nI_lt (by omega) (by omega)
    have hbit := nx_bit (k := S) (x := j) (by omega) (by omega)
    have vj : vp_in (nI j) 6 := vp_N (by omega)
    have e6 : nI S * (6 : Int32) + nI j = nI (6 * S + j) := by rw [ni6', ni_a]
    have v6 : vp_in (nI S * (6 : Int32) + nI j) 384 := by rw [e6]; exact vp_N (by omega)
    have skip : S.testBit j = true → Wp L xs m_Tours_weigh 30 [some (.ref 43), some (.int p), some (.ref R), some (.int (nI h)), some (.int st), some (.int (nI S)), some (.int (nI j + 1))] [] SH RF iv lg Q := fun hb => by
      refine c_weigh_in hR hn hD hh hS r (j + 1) _ iv (by omega) (nI_1 j) hC ⟨hF.1, fun e he hb' => ?_⟩ k
      by_cases c : e = j
      · subst c; rw [hb] at hb'; cases hb'
      · exact hF.2 e (by omega) hb'
    have take : S.testBit j = false → Wp L xs m_Tours_weigh 30 [some (.ref 43), some (.int p), some (.ref R), some (.int (nI h)), some (.int st), some (.int (nI S)), some (.int (nI j + 1))] [] SH RF (xu2 iv 44 (nI S * (6 : Int32) + nI j).toNatClampNeg (nI ((TO D P h n S (P j)).getD 1000000))) lg Q := fun hb => by
      rw [e6, cl]
      refine c_weigh_in hR hn hD hh hS r (j + 1) _ _ (by omega) (nI_1 j) (hC.cg hR (fun k hk => xu2_ne (by omega))) ⟨fun S' e h1 h2 h3 => ?_, fun e he hb' => ?_⟩ (fun iv' J' d1 d2 => k iv' J' d1 (fun k hk => (d2 k hk).trans (xu2_ne hk)))
      · rw [xu2_j (by omega)]; exact hF.1 S' e h1 h2 h3
      · by_cases c : e = j
        · rw [c, xu2_s]
        · rw [xu2_j (by omega)]; exact hF.2 e (by omega) hb'
    have e17 : iv 17 (nI j).toNatClampNeg = nI (P j) := by rw [cl]; exact hC.2.1 j (by omega)
    have th := fun Q k => c_through (L := L) (xs := xs) (lg := lg) (Q := Q) (S := S) (x := P j) hR hn hD hC hh hS (hD.2 j (by omega)) hF.1 k
    rw [← e17] at th
    clear k
    have hb2 : S.testBit j = true ∨ S.testBit j = false := by cases S.testBit j <;> simp
    rcases hb2 with hb | hb
    · have hnb : ¬ (nI S >>> (nI j &&& 31)) &&& 1 = 0 := fun z => by rw [hbit.mp z] at hb; cases hb
      have sk := skip hb
      clear skip take th
      rcases hR with rfl | rfl | rfl | rfl
      all_goals
        refine wgo [30, 61] 100 ?_
        refine And.intro (fun z => absurd hlt (lenl z)) (fun _ => ?_)
        exact And.intro (fun _ => sk) (fun z => absurd hnb z)
    · have sk := take hb
      have hnb := hbit.mpr hb
      clear skip take
      rcases hR with rfl | rfl | rfl | rfl
      all_goals
        refine wgo [30, 61] 100 ?_
        refine And.intro (fun z => absurd hlt (lenl z)) (fun _ => ?_)
        refine And.intro (fun z => absurd hnb z) (fun _ => ?_)
        refine And.intro vj ?_
        refine th _ ?_
        refine And.intro v6 ?_
        exact sk
def WHL (iv : xIv) (D : Nat → Nat → Option Nat) (P : Nat → Nat) (h n x S : Nat) : Prop := ∀ S', S' < S → iv 45 S' = nI ((TO D P h n S' x).getD 1000000)
set_option maxRecDepth 100000 in
theorem c_weigh_out {p x : Nat} (hR : isR R) (hn : n ≤ 6) (hD : DB D P n) (hh : h < 12) (hp : p < 8) (hx : x < 12) : ∀ (r S : Nat) (V : Int32) (iv : xIv) (o6 : Option Value), S + r = 2 ^ n → V = nI S → CT iv R D P n → iv 12 p = nI x → RS iv D P h n S → WHL iv D P h n x S → (∀ iv', RS iv' D P h n (2 ^ n) → WHL iv' D P h n x (2 ^ n) → (∀ k, k ≠ 44 → k ≠ 45 → iv' k = iv k) → Q (some (.int (nI ((TO D P h n (2 ^ n - 1) x).getD 1000000)))) SH RF iv' lg) → Wp L xs m_Tours_weigh 25 [some (.ref 43), some (.int (nI p)), some (.ref R), some (.int (nI h)), some (.int (nI (2 ^ n))), some (.int V), o6] [] SH RF iv lg Q
  | 0, S, V, iv, o6, hj, hV, hC, h12, hF, hW, k => by
    obtain rfl : S = 2 ^ n := by omega
    subst hV
    have h64 := pw6 n (by omega)
    have kk := k iv hF hW (fun _ _ _ => rfl)
    have e1 : nI (2 ^ n) - 1 = nI (2 ^ n - 1) := nI_subN (b := 1) (by omega) (by omega)
    have vv : vp_in (nI (2 ^ n) - 1) 64 := by rw [e1]; exact vp_N (by omega)
    have ev : iv 45 (nI (2 ^ n) - 1).toNatClampNeg = nI ((TO D P h n (2 ^ n - 1) x).getD 1000000) := by rw [e1, cl]; exact hW _ (by omega)
    clear k hC hF hW
    rcases hR with rfl | rfl | rfl | rfl
    all_goals
      refine wgo [25, 30] 100 ?_
      refine And.intro (fun _ => ?_) (fun z => absurd (il.mpr (Int.le_refl _)) z)
      refine And.intro vv ?_
      exact qv kk ev
  | r + 1, S, V, iv, o6, hj, hV, hC, h12, hF, hW, k => by
    subst hV
    have h64 := pw6 n (by omega)
    have hlt : nI S < nI (2 ^ n) := nI_lt (by omega) (by omega)
    have vp8 : vp_in (nI p) 8 := vp_N hp
    have vS : vp_in (nI S) 64 := vp_N (by omega)
    have key : ∀ iv1 J', RSj iv1 D P h n S n → (∀ k, k ≠ 44 → iv1 k = iv k) → Wp L xs m_Tours_weigh 61 [some (.ref 43), some (.int (nI p)), some (.ref R), some (.int (nI h)), some (.int (nI (2 ^ n))), some (.int (nI S)), some (.int J')] [] SH RF iv1 lg Q := fun iv1 J' d1 d2 => by
      have C1 : CT iv1 R D P n := hC.cg hR (fun k hk => d2 k (by omega))
      have e12 : iv1 12 (nI p).toNatClampNeg = nI x := by rw [cl, d2 12 (by decide)]; exact h12
      have th := fun Q k => c_through (L := L) (xs := xs) (lg := lg) (Q := Q) (S := S) (x := x) hR hn hD C1 hh (by omega) hx d1.1 k
      rw [← e12] at th
      have nxt : Wp L xs m_Tours_weigh 25 [some (.ref 43), some (.int (nI p)), some (.ref R), some (.int (nI h)), some (.int (nI (2 ^ n))), some (.int (nI S + 1)), some (.int J')] [] SH RF (xu2 iv1 45 (nI S).toNatClampNeg (nI ((TO D P h n S (iv1 12 (nI p).toNatClampNeg).toNatClampNeg).getD 1000000))) lg Q := by
        rw [e12, cl, cl]
        refine c_weigh_out hR hn hD hh hp hx r (S + 1) _ _ _ (by omega) (nI_1 S) (C1.cg hR (fun k hk => xu2_ne (by omega))) ?_ (fun S' e h1 h2 h3 => ?_) (fun S' hS' => ?_) (fun iv' g1 g2 g3 => k iv' g1 g2 (fun k h1 h2 => by rw [g3 k h1 h2, xu2_ne h2, d2 k h1]))
        · rw [xu2_ne (by decide), d2 12 (by decide)]; exact h12
        · rw [xu2_ne (by decide)]
          by_cases c : S' = S
          · subst c; exact d1.2 e h2 h3
          · exact d1.1 S' e (by omega) h2 h3
        · by_cases c : S' = S
          · rw [c, xu2_s]
          · rw [xu2_j c, d2 45 (by decide)]; exact hW S' (by omega)
      have ex : (iv1 12 (nI p).toNatClampNeg).toNatClampNeg = x := by rw [e12, cl]
      rw [ex] at nxt
      clear k
      rcases hR with rfl | rfl | rfl | rfl
      all_goals
        refine wgo [25] 100 ?_
        refine And.intro vp8 ?_
        refine th _ ?_
        refine And.intro vS ?_
        exact nxt
    have st := fun J hJ => c_weigh_in (L := L) (xs := xs) (lg := lg) (Q := Q) (p := nI p) (st := nI (2 ^ n)) hR hn hD hh (show S < 2 ^ n by omega) n 0 J iv (Nat.zero_add n) hJ hC ⟨hF, fun e he => absurd he (Nat.not_lt_zero e)⟩ key
    have st0 := st 0 rfl
    clear k key st
    rcases hR with rfl | rfl | rfl | rfl
    all_goals
      refine wgo [25, 30] 100 ?_
      refine And.intro (fun z => absurd hlt (lenl z)) (fun _ => ?_)
      exact st0
end WEIGH
