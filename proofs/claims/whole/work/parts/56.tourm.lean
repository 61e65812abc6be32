-- ===== tour, parted: the reference (2) =====
section TOURN
variable {L : Nat} {xs : Nat → Int32} {iv : xIv} {lg : xLg} {Q : xQ} {sg : xIv} {tw : Nat → Int64} {t : Nat} {D : Nat → Nat → Option Nat} {P : Nat → Nat} {h n : Nat}
theorem MI_0 {S y : Nat} (hS : S ≠ 0) : MI D P h n S y 0 100000000 := ⟨Nat.le_refl _, Or.inr ⟨hS, fun k hk => absurd hk (Nat.not_lt_zero k), Or.inl rfl⟩⟩
theorem MI_n {S y b : Nat} (hn : n ≤ 6) (hD : DB D P n) (h64 : S < 64) (hy : y < 12) (hI : MI D P h n S y n b) : b = (TO D P h n S y).getD 100000000 := by
  obtain ⟨h1, h2⟩ := hI
  rcases h2 with ⟨e, q⟩ | ⟨h0, q1, q2⟩
  · subst e; exact q
  · have := TO_min (inf := 100000000) (by decide) hn hD h64 h0 hy q1 q2
    omega
/-- while a set's lefts are reckoned -/
def LFj (iv : xIv) (D : Nat → Nat → Option Nat) (P : Nat → Nat) (h n x S j : Nat) : Prop := LF iv D P h n x S ∧ ∀ e, e < j → (e < n ∨ e = 6) → iv 89 (7 * S + e) = nI ((TO D P h n S (plE P x e)).getD 100000000)
set_option maxRecDepth 100000 in
theorem m_to_mid {p x S : Nat} (hn : n ≤ 6) (hD : DB D P n) (hS : S < 2 ^ n) (hp : p < 8) (hx : x < 12) (hh : h < 12) : ∀ (r j : Nat) (J : Int32) (iv : xIv) (oo : Option (Int32 × Int32 × Int32)) (o8 : Option Int32), j + r = 7 → J = nI j → MT iv D P n p x → LFj iv D P h n x S j → (∀ iv' J' (oo' : Option (Int32 × Int32 × Int32)) (o8' : Option Int32), LFj iv' D P h n x S 7 → (∀ k, k ≠ 89 → iv' k = iv k) → Wp L xs m_Mo_findTours 115 [some (.ref 79), some (.int (nI p)), some (.int (nI h)), some (.int (nI S)), some (.int J'), oo'.map (fun q => Value.int q.1), oo'.map (fun q => Value.int q.2.1), oo'.map (fun q => Value.int q.2.2), o8'.map Value.int] [] SH RF iv' lg Q) → Wp L xs m_Mo_findTours 20 [some (.ref 79), some (.int (nI p)), some (.int (nI h)), some (.int (nI S)), some (.int J), oo.map (fun q => Value.int q.1), oo.map (fun q => Value.int q.2.1), oo.map (fun q => Value.int q.2.2), o8.map Value.int] [] SH RF iv lg Q
  | 0, j, J, iv, oo, o8, hj, hJ, hT, hL, k => by
    obtain rfl : j = 7 := by omega
    subst hJ
    have kk := k iv (nI 7) oo o8 hL (fun _ _ => rfl)
    clear k
    refine wgo [20, 115] 100 ?_
    exact And.intro (fun _ => kk) (fun z => absurd (by decide) z)
  | r + 1, j, J, iv, oo, o8, hj, hJ, hT, hL, k => by
    subst hJ
    have h64 := (pw6 n (by omega)).2
    have hj6 : ¬ (6 : Int32) < nI j := fun z => by have := (nI_ltI (a := 6) (b := j) (by decide) (by omega)).mp z; omega
    by_cases hc : j < n ∨ j = 6
    · have hpl : plE P x j < 12 := by
        unfold plE
        split
        · exact hx
        · exact hD.2 j (by omega)
      have e7 : (7 : Int32) * nI S + nI j = nI (7 * S + j) := by rw [ni7, ni_a]
      have v7 : vp_in ((7 : Int32) * nI S + nI j) 448 := by rw [e7]; exact vp_N (by omega)
      have e12 : (12 : Int32) * nI (plE P x j) + nI h = nI (12 * plE P x j + h) := by rw [ni12, ni_a]
      have v12 : vp_in ((12 : Int32) * nI (plE P x j) + nI h) 144 := by rw [e12]; exact vp_N (by omega)
      have nxt : ∀ b J' (o8' : Option Int32), MI D P h n S (plE P x j) n b → Wp L xs m_Mo_findTours 99 [some (.ref 79), some (.int (nI p)), some (.int (nI h)), some (.int (nI S)), some (.int (nI j)), some (.int (nI (plE P x j))), some (.int (nI b)), some (.int J'), o8'.map Value.int] [] SH RF iv lg Q := fun b J' o8' hI => by
        have eb := MI_n hn hD (show S < 64 by omega) hpl hI
        have hle := hI.1
        have n1 : Wp L xs m_Mo_findTours 20 [some (.ref 79), some (.int (nI p)), some (.int (nI h)), some (.int (nI S)), some (.int (nI j + 1)), (some (nI (plE P x j), nI b, J')).map (fun q : Int32 × Int32 × Int32 => Value.int q.1), (some (nI (plE P x j), nI b, J')).map (fun q : Int32 × Int32 × Int32 => Value.int q.2.1), (some (nI (plE P x j), nI b, J')).map (fun q : Int32 × Int32 × Int32 => Value.int q.2.2), o8'.map Value.int] [] SH RF (xu2 iv 89 ((7 : Int32) * nI S + nI j).toNatClampNeg (nI b)) lg Q := by
          rw [e7, cl]
          refine m_to_mid hn hD hS hp hx hh r (j + 1) _ _ (some (nI (plE P x j), nI b, J')) o8' (by omega) (nI_1 j) (hT.cg (fun k h1 _ _ => xu2_ne h1)) ⟨fun S' e h1 h2 => ?_, fun e h1 h2 => ?_⟩ (fun iv' J' oo' o8' c1 c2 => k iv' J' oo' o8' c1 (fun k hk => (c2 k hk).trans (xu2_ne hk)))
          · rw [xu2_j (by omega)]; exact hL.1 S' e h1 h2
          · by_cases c : e = j
            · rw [c, xu2_s, eb]
            · rw [xu2_j (by omega)]; exact hL.2 e (by omega) h2
        clear k
        refine wgo [20] 100 ?_
        refine And.intro (fun _ => ?_) (fun z => absurd (nI_le (b := 100000000) hle (by decide)) z)
        refine And.intro v7 ?_
        exact n1
      have inn : ∀ (b : Nat) (B : Int32) (o8 : Option Int32), B = nI b → MI D P h n S (plE P x j) 0 b → Wp L xs m_Mo_findTours 50 [some (.ref 79), some (.int (nI p)), some (.int (nI h)), some (.int (nI S)), some (.int (nI j)), some (.int (nI (plE P x j))), some (.int B), some (.int 0), o8.map Value.int] [] SH RF iv lg Q := fun b B o8 hB hI => m_to_in hn hD hS hpl hT hL.1 n 0 b _ B o8 (Nat.zero_add n) rfl hB hI nxt
      have pl := fun Q k => m_placeOf (L := L) (xs := xs) (lg := lg) (Q := Q) hT hn hp hc k
      have i0 : S = 0 → ∀ (B : Int32) (o8 : Option Int32), B = nI ((D (plE P x j) h).getD 100000000) → Wp L xs m_Mo_findTours 50 [some (.ref 79), some (.int (nI p)), some (.int (nI h)), some (.int (nI S)), some (.int (nI j)), some (.int (nI (plE P x j))), some (.int B), some (.int 0), o8.map Value.int] [] SH RF iv lg Q := fun z B o8 hB => inn _ B o8 hB ⟨getD_le (fun c hc => Nat.le_trans (hD.1 _ h hpl c hc) (by decide)), Or.inl ⟨z, rfl⟩⟩
      have i1 : S ≠ 0 → ∀ (o8 : Option Int32), Wp L xs m_Mo_findTours 50 [some (.ref 79), some (.int (nI p)), some (.int (nI h)), some (.int (nI S)), some (.int (nI j)), some (.int (nI (plE P x j))), some (.int 100000000), some (.int 0), o8.map Value.int] [] SH RF iv lg Q := fun z o8 => inn 100000000 _ o8 rfl (MI_0 z)
      have h8 := hT.1
      have e88 : iv 88 ((12 : Int32) * nI (plE P x j) + nI h).toNatClampNeg = nI ((D (plE P x j) h).getD 100000000) := by rw [e12, cl]; exact hT.2.2.1 _ h hpl hh
      have at30 : Wp L xs m_Mo_findTours 30 [some (.ref 79), some (.int (nI p)), some (.int (nI h)), some (.int (nI S)), some (.int (nI j)), oo.map (fun q => Value.int q.1), oo.map (fun q => Value.int q.2.1), oo.map (fun q => Value.int q.2.2), o8.map Value.int] [] SH RF iv lg Q := by
        clear k nxt inn
        cases oo <;> cases o8
        all_goals
          refine wgo [50] 100 ?_
          refine pl _ ?_
          refine And.intro (fun z => ?_) (fun z => ?_)
          · first
            | exact i1 (fun w => z (by rw [w]; rfl)) none
            | exact i1 (fun w => z (by rw [w]; rfl)) (some _)
          · have z0 : S = 0 := (nI_eq (b := 0) (by omega) (by decide)).mp (Decidable.not_not.mp z)
            refine And.intro v12 ?_
            first
            | exact i0 z0 _ none e88
            | exact i0 z0 _ (some _) e88
      clear k nxt inn i0 i1 pl
      refine wgo [20, 30, 115] 100 ?_
      refine And.intro (fun z => absurd z hj6) (fun _ => ?_)
      refine And.intro (fun _ => at30) (fun z => ?_)
      refine And.intro (fun z2 => ?_) (fun _ => at30)
      rcases hc with hc | hc
      · exact absurd (by rw [h8]; exact nI_lt hc (by omega)) z
      · exact absurd (by rw [hc]; rfl) z2
    · have n1 : Wp L xs m_Mo_findTours 20 [some (.ref 79), some (.int (nI p)), some (.int (nI h)), some (.int (nI S)), some (.int (nI j + 1)), oo.map (fun q => Value.int q.1), oo.map (fun q => Value.int q.2.1), oo.map (fun q => Value.int q.2.2), o8.map Value.int] [] SH RF iv lg Q := by
        refine m_to_mid hn hD hS hp hx hh r (j + 1) _ iv oo o8 (by omega) (nI_1 j) hT ⟨hL.1, fun e h1 h2 => ?_⟩ k
        by_cases c : e = j
        · exact absurd (c ▸ h2) hc
        · exact hL.2 e (by omega) h2
      have h8 := hT.1
      clear k
      refine wgo [20, 115] 100 ?_
      refine And.intro (fun z => absurd z hj6) (fun _ => ?_)
      refine And.intro (fun z => ?_) (fun z => ?_)
      · rw [h8] at z
        exact absurd (Or.inl ((nI_ltI (by omega) (by omega)).mp z)) hc
      · refine And.intro (fun _ => n1) (fun z2 => ?_)
        exact absurd (Or.inr ((nI_eq (b := 6) (by omega) (by decide)).mp (Decidable.not_not.mp z2))) hc
set_option maxRecDepth 100000 in
theorem m_to_out {p x : Nat} (hn : n ≤ 6) (hD : DB D P n) (hp : p < 8) (hx : x < 12) (hh : h < 12) : ∀ (r S : Nat) (V : Int32) (iv : xIv) (o4 : Option Value) (oo : Option (Int32 × Int32 × Int32)) (o8 : Option Int32), S + r = 2 ^ n → V = nI S → MT iv D P n p x → LF iv D P h n x S → (∀ iv', LF iv' D P h n x (2 ^ n) → (∀ k, k ≠ 89 → iv' k = iv k) → Q none SH RF iv' lg) → Wp L xs m_Mo_findTours 12 [some (.ref 79), some (.int (nI p)), some (.int (nI h)), some (.int V), o4, oo.map (fun q => Value.int q.1), oo.map (fun q => Value.int q.2.1), oo.map (fun q => Value.int q.2.2), o8.map Value.int] [] SH RF iv lg Q
  | 0, S, V, iv, o4, oo, o8, hj, hV, hT, hL, k => by
    obtain rfl : S = 2 ^ n := by omega
    subst hV
    have kk := k iv hL (fun _ _ => rfl)
    have e1 : (1 : Int32) <<< (iv 79 8 &&& 31) = nI (2 ^ n) := by rw [hT.1]; exact sh_n n (by omega)
    clear k
    refine wgo [12, 20] 100 ?_
    exact And.intro (fun _ => kk) (fun z => absurd (by rw [e1]; exact il.mpr (Int.le_refl _)) z)
  | r + 1, S, V, iv, o4, oo, o8, hj, hV, hT, hL, k => by
    subst hV
    have h64 := (pw6 n (by omega)).2
    have e1 : (1 : Int32) <<< (iv 79 8 &&& 31) = nI (2 ^ n) := by rw [hT.1]; exact sh_n n (by omega)
    have hlt : nI S < (1 : Int32) <<< (iv 79 8 &&& 31) := by rw [e1]; exact nI_lt (by omega) (by omega)
    have n1 : Wp L xs m_Mo_findTours 20 [some (.ref 79), some (.int (nI p)), some (.int (nI h)), some (.int (nI S)), some (.int 0), oo.map (fun q => Value.int q.1), oo.map (fun q => Value.int q.2.1), oo.map (fun q => Value.int q.2.2), o8.map Value.int] [] SH RF iv lg Q := by
      refine m_to_mid hn hD (show S < 2 ^ n by omega) hp hx hh 7 0 _ iv oo o8 (by omega) rfl hT ⟨hL, fun e he => absurd he (Nat.not_lt_zero e)⟩ (fun iv' J' oo' o8' c1 c2 => ?_)
      refine wgo [12] 100 ?_
      refine m_to_out hn hD hp hx hh r (S + 1) _ iv' _ oo' o8' (by omega) (nI_1 S) (hT.cg (fun k h1 _ _ => c2 k h1)) (fun S' e h1 h2 => ?_) (fun iv2 d1 d2 => k iv2 d1 (fun k hk => (d2 k hk).trans (c2 k hk)))
      by_cases c : S' = S
      · subst c; exact c1.2 e (by omega) h2
      · exact c1.1 S' e (by omega) h2
    clear k
    refine wgo [12, 20] 100 ?_
    refine And.intro (fun z => absurd hlt (lenl z)) (fun _ => ?_)
    exact n1
set_option maxRecDepth 100000 in
theorem m_tours {p kd hm x : Nat} (hG : GG t sg) (hM : MV iv lg sg tw) (hp : p < cnt (vL sg) 1) (hkd : kd < 4) (ek : sg 81 (7 * p + 1) = nI kd) (hh : hm < 12) (eh : sg 81 (7 * p) = nI hm) (hx : x < 12) (ex : sg 81 (7 * p + 3) = nI x) (k : ∀ iv', MT iv' (dst (vL sg) kd) (ePl sg) (cnt (vL sg) 2) p x → LF iv' (dst (vL sg) kd) (ePl sg) hm (cnt (vL sg) 2) x (2 ^ cnt (vL sg) 2) → (∀ k, k ≠ 85 → k ≠ 88 → k ≠ 89 → iv' k = iv k) → Q none SH RF iv' lg) : Sp L xs m_Mo_findTours [.ref 79, .int (nI p)] SH RF iv lg Q := by
  have h8 := hG.1.2.1.2
  have h6 := hG.1.2.2.1.2
  have e7 : (7 : Int32) * nI p = nI (7 * p) := ni7 p
  have v7 : vp_in ((7 : Int32) * nI p) 56 := by rw [e7]; exact vp_N (by omega)
  have nx : ∀ iv1 (H : Int32), H = nI hm → MT iv1 (dst (vL sg) kd) (ePl sg) (cnt (vL sg) 2) p x → (∀ k, k ≠ 85 → k ≠ 88 → iv1 k = iv k) → Wp L xs m_Mo_findTours 12 [some (.ref 79), some (.int (nI p)), some (.int H), some (.int 0), none, none, none, none, none] [] SH RF iv1 lg Q := fun iv1 H hH T1 c1 => by
    subst hH
    exact m_to_out h6 (DB_of hG kd) (by omega) hx hh _ 0 _ iv1 none none none (Nat.zero_add _) rfl T1 (fun S' e z => absurd z (Nat.not_lt_zero _)) (fun iv' d1 d2 => k iv' (T1.cg (fun k h1 _ _ => d2 k h1)) d1 (fun k h1 h2 h3 => (d2 k h3).trans (c1 k h1 h2)))
  refine sgo [12] 100 ?_
  refine m_table hG hM hp hkd ek (fun iv1 c1 c2 => ?_)
  have M1 : MV iv1 lg sg tw := hM.wk (fun j _ _ => by rw [c2 79 (by decide) (by decide)]) (fun k hk => c2 k (by omega) (by omega))
  refine And.intro v7 ?_
  refine nx iv1 _ ?_ ⟨nE_m M1 hG, fun e he => by rw [M1.2.1.2.2.2.2.1]; exact (ePl_is hG he).1, c1, by rw [M1.2.1.2.1]; exact ex⟩ c2
  rw [e7, cl, M1.2.1.2.1]; exact eh
/-- the search for the next errand -/
theorem rw_iff {S y e c : Nat} (hn : n ≤ 6) (hD : DB D P n) (h64 : S < 64) (hy : y < 12) (he : e < n) (hb : S.testBit e = true) (hc : TO D P h n S y = some c) : rwN D P h n 100000000 S y e = c ↔ TOb D P h n S y e = TO D P h n S y := by
  have e1 := rwN_n (inf := 100000000) (h := h) (by decide) hn hD h64 hy he hb
  have bc := TO_bd (h := h) hn hD h64 hy c hc
  constructor
  · intro z
    rw [z] at e1
    refine getD_inj (inf := 100000000) (fun c hc => by have := TOb_bd hn hD h64 hy he c hc; omega) (fun c hc => by have := TO_bd (h := h) hn hD h64 hy c hc; omega) (by decide) ?_
    rw [← e1, hc]
    show min 100000000 c = c
    omega
  · intro z
    rw [z, hc] at e1
    replace e1 : min 100000000 (rwN D P h n 100000000 S y e) = c := e1
    omega
set_option maxRecDepth 100000 in
theorem m_nx_l {p x S E y e c : Nat} {i K : Int32} (hn : n ≤ 6) (hD : DB D P n) (hS : S < 2 ^ n) (hp : p < 8) (hy : y < 12) (ey : plE P x E = y) (hE : E < n ∨ E = 6) (hT : MT iv D P n p x) (hL : LF iv D P h n x (2 ^ n)) (hc : TO D P h n S y = some c) (hF : isF D P h n S y e) (k : Wp L xs m_Mo_tour 104 [some (.ref 79), some (.int (nI p)), some (.int i), some (.int (nI S)), some (.int (nI E)), some (.int K), some (.int (nI e))] [] SH RF iv lg Q) : ∀ (r j : Nat) (J : Int32), j + r = e → J = nI j → Wp L xs m_Mo_tour 58 [some (.ref 79), some (.int (nI p)), some (.int i), some (.int (nI S)), some (.int (nI E)), some (.int K), some (.int J)] [] SH RF iv lg Q := by
  have h64 := (pw6 n (by omega)).2
  have e7 : (7 : Int32) * nI S + nI E = nI (7 * S + E) := by rw [ni7, ni_a]
  have v7 : vp_in ((7 : Int32) * nI S + nI E) 448 := by rw [e7]; exact vp_N (by omega)
  have el : iv 89 ((7 : Int32) * nI S + nI E).toNatClampNeg = nI c := by
    rw [e7, cl, hL S E hS hE, ey, hc]
    rfl
  have bc := TO_bd (h := h) hn hD (show S < 64 by omega) hy c hc
  have pl := fun Q k => m_placeOf (L := L) (xs := xs) (lg := lg) (Q := Q) (e := E) hT hn hp hE k
  rw [ey] at pl
  have stp : ∀ j, j < n → S.testBit j = true → vp_in (nI j) 6 ∧ vp_in ((12 : Int32) * nI y + iv 84 (nI j).toNatClampNeg) 144 ∧ vp_in ((7 : Int32) * (nI S &&& (((1 : Int32) <<< (nI j &&& 31)) ^^^ (-1))) + nI j) 448 ∧ (iv 88 ((12 : Int32) * nI y + iv 84 (nI j).toNatClampNeg).toNatClampNeg + iv 89 ((7 : Int32) * (nI S &&& (((1 : Int32) <<< (nI j &&& 31)) ^^^ (-1))) + nI j).toNatClampNeg = iv 89 ((7 : Int32) * nI S + nI E).toNatClampNeg ↔ TOb D P h n S y j = TO D P h n S y) := fun j hj hb => by
    have hsub : S - 2 ^ j < 64 := Nat.lt_of_le_of_lt (Nat.sub_le _ _) (by omega)
    have g := tb_ge S (by omega) j (by omega) hb
    have hP := hD.2 j hj
    have i1 : (12 : Int32) * nI y + iv 84 (nI j).toNatClampNeg = nI (12 * y + P j) := by rw [cl, hT.2.1 j hj, ni12, ni_a]
    have i2 : (7 : Int32) * (nI S &&& (((1 : Int32) <<< (nI j &&& 31)) ^^^ (-1))) + nI j = nI (7 * (S - 2 ^ j) + j) := by rw [tb_op S (by omega) j (by omega) hb, ni7, ni_a]
    have b1 := getD_le (inf := 100000000) (fun c hc => Nat.le_trans (hD.1 y (P j) hy c hc) (by decide))
    have b2 := getD_le (inf := 100000000) (fun c hc => Nat.le_trans (TO_bd (h := h) (S := S - 2 ^ j) (x := P j) hn hD hsub hP c hc) (by decide))
    refine ⟨vp_N (by omega), by rw [i1]; exact vp_N (by omega), by rw [i2]; exact vp_N (by omega), ?_⟩
    rw [el, i1, i2, cl, cl, hT.2.2.1 y (P j) hy hP, hL (S - 2 ^ j) j (by omega) (Or.inl hj), ni_a, show plE P x j = P j from if_neg (by omega), nI_eq (by omega) (by omega)]
    exact rw_iff hn hD (by omega) hy hj hb hc
  clear el e7
  have hbits : ∀ j, j < 6 → ((nI S >>> (nI j &&& 31)) &&& 1 = 0 ↔ S.testBit j = false) := fun j hj => nx_bit (k := S) (x := j) (by omega) (by omega)
  intro r
  induction r with
  | zero =>
    intro j J hj hJ
    obtain rfl : j = e := by omega
    subst hJ
    have hb := hF.2.1
    have hjn := hF.1
    obtain ⟨s1, s2, s3, s4⟩ := stp j hF.1 hb
    have eq := s4.mpr hF.2.2.1
    have hnb : ¬ (nI S >>> (nI j &&& 31)) &&& 1 = 0 := fun z => by rw [(hbits j (by omega)).mp z] at hb; cases hb
    refine wgo [58, 104] 100 ?_
    refine And.intro (fun z => absurd z hnb) (fun _ => ?_)
    refine pl _ ?_
    refine And.intro s1 ?_
    refine And.intro s2 ?_
    refine And.intro s3 ?_
    refine And.intro v7 ?_
    exact And.intro (fun _ => k) (fun z => absurd eq z)
  | succ r ih =>
    intro j J hj hJ
    subst hJ
    have hjn := hF.1
    have nx := ih (j + 1) (nI j + 1) (by omega) (nI_1 j)
    have hb2 : S.testBit j = true ∨ S.testBit j = false := by cases S.testBit j <;> simp
    rcases hb2 with hb | hb
    · obtain ⟨s1, s2, s3, s4⟩ := stp j (by omega) hb
      have hnb : ¬ (nI S >>> (nI j &&& 31)) &&& 1 = 0 := fun z => by rw [(hbits j (by omega)).mp z] at hb; cases hb
      have ne := fun z => hF.2.2.2 j (by omega) hb (s4.mp z)
      refine wgo [58, 104] 100 ?_
      refine And.intro (fun z => absurd z hnb) (fun _ => ?_)
      refine pl _ ?_
      refine And.intro s1 ?_
      refine And.intro s2 ?_
      refine And.intro s3 ?_
      refine And.intro v7 ?_
      exact And.intro (fun z => absurd z ne) (fun _ => nx)
    · have hnb := (hbits j (by omega)).mpr hb
      refine wgo [58, 104] 100 ?_
      exact And.intro (fun _ => nx) (fun z => absurd hnb z)
set_option maxRecDepth 100000 in
theorem m_tr_l {p x i : Nat} (hn : n ≤ 6) (hi : i < n) (hD : DB D P n) (hp : p < 8) (hT : MT iv D P n p x) (hL : LF iv D P h n x (2 ^ n)) : ∀ (r j S E y : Nat) (J EE : Int32) (o6 : Option Value), j + r = i + 1 → J = nI j → EE = nI E → (E < n ∨ E = 6) → plE P x E = y → S < 2 ^ n → y < 12 → (∃ c, TO D P h n S y = some c) → pcN S + j = n → (∀ res, trR D P h n r S y E res → Q (some (.int (nI res))) SH RF iv lg) → Wp L xs m_Mo_tour 53 [some (.ref 79), some (.int (nI p)), some (.int (nI i)), some (.int (nI S)), some (.int EE), some (.int J), o6] [] SH RF iv lg Q
  | 0, j, S, E, y, J, EE, o6, hj, hJ, hEE, hE, ey, hS, hy, hc, hpc, k => by
    obtain rfl : j = i + 1 := by omega
    subst hJ; subst hEE
    have kk := k E rfl
    clear k
    refine wgo [53, 58] 100 ?_
    exact And.intro (fun _ => kk) (fun z => absurd (nI_lt (by omega) (by omega)) z)
  | r + 1, j, S, E, y, J, EE, o6, hj, hJ, hEE, hE, ey, hS, hy, hc, hpc, k => by
    subst hJ; subst hEE
    have h64 := (pw6 n (by omega)).2
    have h0 : S ≠ 0 := fun z => by rw [z, pc_0] at hpc; omega
    have hle : ¬ nI i < nI j := fun z => by have := (nI_ltI (by omega) (by omega)).mp z; omega
    obtain ⟨c, hc⟩ := hc
    obtain ⟨e, hF⟩ := isF_ex hn hD (show S < 64 by omega) h0 hy hc
    have hen := hF.1
    have g := tb_ge S (by omega) e (by omega) hF.2.1
    have gp := pc_sub S (by omega) e (by omega) hF.2.1
    have n1 : Wp L xs m_Mo_tour 104 [some (.ref 79), some (.int (nI p)), some (.int (nI i)), some (.int (nI S)), some (.int (nI E)), some (.int (nI j)), some (.int (nI e))] [] SH RF iv lg Q := by
      have n2 : ∀ o6, Wp L xs m_Mo_tour 53 [some (.ref 79), some (.int (nI p)), some (.int (nI i)), some (.int (nI S &&& (((1 : Int32) <<< (nI e &&& 31)) ^^^ (-1)))), some (.int (nI e)), some (.int (nI j + 1)), o6] [] SH RF iv lg Q := fun o6 => by
        rw [tb_op S (by omega) e (by omega) hF.2.1]
        refine m_tr_l hn hi hD hp hT hL r (j + 1) (S - 2 ^ e) e (P e) _ _ o6 (by omega) (nI_1 j) rfl (Or.inl hen) (if_neg (by omega)) (by omega) (hD.2 e hen) (isF_next hc hF) (by omega) (fun res hres => k res ⟨e, hF, hres⟩)
      clear k
      refine wgo [53] 100 ?_
      exact n2 _
    have n3 := m_nx_l (L := L) (xs := xs) (Q := Q) (lg := lg) (i := nI i) (K := nI j) hn hD hS hp hy ey hE hT hL hc hF n1 e 0 0 (Nat.zero_add e) rfl
    clear k n1
    refine wgo [53, 58] 100 ?_
    refine And.intro (fun z => absurd z hle) (fun _ => ?_)
    exact n3
set_option maxRecDepth 100000 in
theorem m_tour {a b : Int32} (hM : MV iv lg sg tw) (hG : GG t sg) (k1 : ∀ p kd hm x ans, p < cnt (vL sg) 1 → kd < 4 → hm < 12 → x < 12 → a = nI p → sg 81 (7 * p + 1) = nI kd → sg 81 (7 * p) = nI hm → sg 81 (7 * p + 3) = nI x → (-1 ≤ b ∧ b ≤ 5) → tourA (dst (vL sg) kd) (ePl sg) hm (cnt (vL sg) 2) x b ans → ∀ iv', MV iv' lg sg tw → clsS iv' lg iv lg → Q (some (.int ans)) SH RF iv' lg) (k2 : ¬ okTo sg a b → Q (some (.int (-1))) SH RF iv lg) : Sp L xs m_Mo_tour [.ref 79, .int a, .int b] SH RF iv lg Q := by
  have h8 := hG.1.2.1.2
  have h6 := hG.1.2.2.1.2
  have h64 := pw6 (cnt (vL sg) 2) (by omega)
  refine sgo [53] 100 ?_
  refine s_isOne (nP_m hM hG) (by omega) (fun h1 => ?_) (fun h1 => ?_)
  · refine b1 ?_
    refine s_inI (a := -1) (b := 5) (kt := fun h2 => ?_) (kf := fun h2 => ?_)
    · refine c1 ?_
      obtain ⟨p, hp, rfl⟩ := isN_of h1 (by omega)
      obtain ⟨kd, hkd, ek⟩ := kindOf hG hp
      obtain ⟨hm, hhm, eh⟩ := homeOf hG hp
      obtain ⟨x, hx, ex⟩ := placeOf' hG hp
      have kk := fun ans => k1 p kd hm x ans hp hkd hhm hx rfl ek eh ex h2
      clear k1 k2
      refine m_tours hG hM hp hkd ek hhm eh hx ex (fun iv1 T1 L1 r1 => ?_)
      have M1 : MV iv1 lg sg tw := hM.wk (fun j _ _ => by rw [r1 79 (by decide) (by decide) (by decide)]) (fun k hk => r1 k (by omega) (by omega) (by omega))
      have R1 : clsS iv1 lg iv lg := ⟨fun k hk => r1 k (by omega) (by omega) (by omega), fun _ _ => rfl⟩
      have eS : (1 : Int32) <<< (iv1 79 8 &&& 31) - 1 = nI (2 ^ cnt (vL sg) 2 - 1) := by rw [T1.1, sh_n _ (by omega)]; exact nI_subN (b := 1) (by omega) (by omega)
      have bd := TO_bd (h := hm) (S := 2 ^ cnt (vL sg) 2 - 1) (x := x) h6 (DB_of hG kd) (by omega) hx
      have e7 : (7 : Int32) * ((1 : Int32) <<< (iv1 79 8 &&& 31) - 1) + 6 = nI (7 * (2 ^ cnt (vL sg) 2 - 1) + 6) := by rw [eS, ni7]; exact ni_a _ 6
      have v7 : vp_in ((7 : Int32) * ((1 : Int32) <<< (iv1 79 8 &&& 31) - 1) + 6) 448 := by rw [e7]; exact vp_N (by omega)
      have el : iv1 89 ((7 : Int32) * ((1 : Int32) <<< (iv1 79 8 &&& 31) - 1) + 6).toNatClampNeg = nI ((TO (dst (vL sg) kd) (ePl sg) hm (cnt (vL sg) 2) (2 ^ cnt (vL sg) 2 - 1) x).getD 100000000) := by
        rw [e7, cl]
        exact L1 _ 6 (by omega) (Or.inr rfl)
      have h12 := T1.1
      refine And.intro v7 ?_
      cases eT : TO (dst (vL sg) kd) (ePl sg) hm (cnt (vL sg) 2) (2 ^ cnt (vL sg) 2 - 1) x with
      | none =>
        rw [eT] at el
        refine And.intro (fun _ => ?_) (fun z => absurd (by rw [el]; decide) z)
        exact kk (-4) (Or.inl ⟨eT, rfl⟩) iv1 M1 R1
      | some c =>
        have bc := bd c eT
        rw [eT] at el
        replace el : iv1 89 ((7 : Int32) * ((1 : Int32) <<< (iv1 79 8 &&& 31) - 1) + 6).toNatClampNeg = nI c := el
        refine And.intro (fun z => absurd ((nI_leI (a := 100000000) (b := c) (by decide) (by omega)).mp (by rw [el] at z; exact z)) (by omega)) (fun _ => ?_)
        rcases m15 h2 with rfl | ⟨i, hi, rfl⟩
        · refine And.intro (fun _ => ?_) (fun z => absurd (by rw [h12]; exact it.mpr (by rw [nI_toInt (by omega), show (-1 : Int32).toInt = -1 from by decide]; omega)) z)
          refine And.intro (fun z => absurd z (by decide)) (fun _ => ?_)
          refine And.intro v7 ?_
          exact qv (kk _ (Or.inr ⟨c, eT, Or.inl ⟨rfl, rfl⟩⟩) iv1 M1 R1) el
        · refine And.intro (fun z => ?_) (fun z => ?_)
          · have hin : i < cnt (vL sg) 2 := by rw [h12] at z; exact (nI_ltI (by omega) (by omega)).mp z
            refine And.intro (fun _ => ?_) (fun z => absurd (nI_pos' (by omega)) z)
            have fin : ∀ SS : Int32, SS = nI (2 ^ cnt (vL sg) 2 - 1) → Wp L xs m_Mo_tour 53 [some (.ref 79), some (.int (nI p)), some (.int (nI i)), some (.int SS), some (.int 6), some (.int 0), none] [] SH RF iv1 lg Q := fun SS hSS => by
              subst hSS
              refine m_tr_l (x := x) h6 hin (DB_of hG kd) (by omega) T1 L1 (i + 1) 0 _ 6 x _ _ _ (by omega) rfl rfl (Or.inr rfl) (if_pos rfl) (by omega) hx ⟨c, eT⟩ (by rw [pc_all _ (by omega)]; rfl) (fun res hres => ?_)
              exact kk _ (Or.inr ⟨c, eT, Or.inr ⟨i, hi, rfl, Or.inr ⟨hin, res, hres, rfl⟩⟩⟩) iv1 M1 R1
            exact fin _ eS
          · have hin : cnt (vL sg) 2 ≤ i := Nat.le_of_not_lt (fun w => z (by rw [h12]; exact nI_lt w (by omega)))
            exact kk _ (Or.inr ⟨c, eT, Or.inr ⟨i, hi, rfl, Or.inl ⟨hin, rfl⟩⟩⟩) iv1 M1 R1
    · refine c0 ?_
      exact k2 (fun z => h2 z.2)
  · refine b0 ?_
    exact k2 (fun z => h1 z.1)
theorem e_tour (a b : Int32) : EQ m_SR_tour m_Mo_tour [.int a, .int b] := by
  intro L xs t iv lg Q hI ht k
  obtain ⟨sg, tw, hC, hM, hG⟩ := id hI
  have h8 := hG.1.2.1.2
  refine c_tour hC hG (fun p kd hm x ans hp hkd hh hx ha ek eh ex hb hA iv1 C1 R1 => k _ iv1 lg (fun Q2 k2 => m_tour (MV_congr R1 hM) hG (fun p' kd' hm' x' ans' hp' hkd' hh' hx' ha' ek' eh' ex' hb' hA' iv2 M2 R2 => ?_) (fun h => absurd ⟨ha ▸ isN_nI hp (by omega), hb⟩ h))) (fun h => k _ iv lg (fun Q2 k2 => m_tour hM hG (fun p kd hm x ans hp hkd hh hx ha ek eh ex hb hA => absurd ⟨ha ▸ isN_nI hp (by omega), hb⟩ h) (fun _ => k2 _ _ (hI.wk (Nat.le_succ t)))))
  have e1 : p = p' := (nI_eq (by omega) (by omega)).mp (ha.symm.trans ha')
  subst e1
  have e2 : kd = kd' := (nI_eq (by omega) (by omega)).mp (ek.symm.trans ek')
  have e3 : hm = hm' := (nI_eq (by omega) (by omega)).mp (eh.symm.trans eh')
  have e4 : x = x' := (nI_eq (by omega) (by omega)).mp (ex.symm.trans ex')
  subst e2; subst e3; subst e4
  rw [← tourA_uniq hA hA']
  exact k2 _ _ ⟨sg, tw, CX_congr R2 C1, M2, hG.mono (Nat.le_succ t)⟩
end TOURN
