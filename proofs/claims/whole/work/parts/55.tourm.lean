-- ===== tour, parted: the reference =====
def plE (P : Nat → Nat) (x e : Nat) : Nat := if e = 6 then x else P e
theorem isF_ex {D : Nat → Nat → Option Nat} {P : Nat → Nat} {h n S x c : Nat} (hn : n ≤ 6) (hD : DB D P n) (h64 : S < 64) (h0 : S ≠ 0) (hx : x < 12) (hc : TO D P h n S x = some c) : ∃ e, isF D P h n S x e := by
  have bd : ∀ e, e < n → oLe (TOb D P h n S x e) 1000000 := fun e he c hc => Nat.le_trans (TOb_bd hn hD h64 hx he c hc) (by decide)
  obtain ⟨g1, g2, g3⟩ := mnE_n (inf := 1000000) n bd
  rw [← TO_S hn h64 h0] at g3
  have hb := TO_bd (h := h) hn hD h64 hx c hc
  have ex : ∃ e, e < n ∧ S.testBit e = true ∧ TOb D P h n S x e = TO D P h n S x := by
    rcases g3 with g | ⟨e, he, g⟩
    · rw [hc] at g
      replace g : c = 1000000 := g
      omega
    · have e1 : TOb D P h n S x e = TO D P h n S x := getD_inj (inf := 1000000) (fun c hc => by have := TOb_bd hn hD h64 hx he c hc; omega) (fun c hc => by have := TO_bd (h := h) hn hD h64 hx c hc; omega) (by decide) g.symm
      refine ⟨e, he, ?_, e1⟩
      by_cases hb : S.testBit e = true
      · exact hb
      · unfold TOb at e1
        rw [if_neg hb, hc] at e1
        cases e1
  obtain ⟨e, ⟨e1, e2, e3⟩, e4⟩ := pk_least (fun e => e < n ∧ S.testBit e = true ∧ TOb D P h n S x e = TO D P h n S x) ex
  exact ⟨e, e1, e2, e3, fun e' he' hb' hq => e4 e' he' ⟨by omega, hb', hq⟩⟩
section TOURM
variable {L : Nat} {xs : Nat → Int32} {iv : xIv} {lg : xLg} {Q : xQ} {sg : xIv} {tw : Nat → Int64} {t : Nat} {D : Nat → Nat → Option Nat} {P : Nat → Nat} {h n : Nat}
def TBM (iv : xIv) (D : Nat → Nat → Option Nat) (T : Nat) : Prop := ∀ a b, a < 12 → b < T → iv 88 (12 * a + b) = nI ((D a b).getD 100000000)
set_option maxRecDepth 100000 in
theorem m_tab_in {p T : Nat} (hT : T < 12) : ∀ (r j : Nat) (J : Int32) (iv : xIv), j + r = 12 → J = nI j → (∀ a, a < 12 → iv 85 a = nI ((D a T).getD 100000000)) → TBM iv D T → (∀ a, a < j → iv 88 (12 * a + T) = nI ((D a T).getD 100000000)) → (∀ iv' J', TBM iv' D (T + 1) → (∀ k, k ≠ 88 → iv' k = iv k) → Wp L xs m_Mo_findTable 35 [some (.ref 79), some (.int (nI p)), some (.int (nI T)), some (.int J')] [] SH RF iv' lg Q) → Wp L xs m_Mo_findTable 18 [some (.ref 79), some (.int (nI p)), some (.int (nI T)), some (.int J)] [] SH RF iv lg Q
  | 0, j, J, iv, hj, hJ, h85, hB, hA, k => by
    obtain rfl : j = 12 := by omega
    subst hJ
    refine wgo [18, 35] 100 ?_
    refine And.intro (fun _ => k iv _ (fun a b ha hb => ?_) (fun _ _ => rfl)) (fun z => absurd (by decide) z)
    by_cases c : b = T
    · rw [c]; exact hA a ha
    · exact hB a b ha (by omega)
  | r + 1, j, J, iv, hj, hJ, h85, hB, hA, k => by
    subst hJ
    have e1 : (12 : Int32) * nI j + nI T = nI (12 * j + T) := by rw [ni12, ni_a]
    have v1 : vp_in ((12 : Int32) * nI j + nI T) 144 := by rw [e1]; exact vp_N (by omega)
    have vj : vp_in (nI j) 12 := vp_N (by omega)
    have nx : Wp L xs m_Mo_findTable 18 [some (.ref 79), some (.int (nI p)), some (.int (nI T)), some (.int (nI j + 1))] [] SH RF (xu2 iv 88 ((12 : Int32) * nI j + nI T).toNatClampNeg (iv 85 (nI j).toNatClampNeg)) lg Q := by
      rw [e1, cl, cl, h85 j (by omega)]
      refine m_tab_in hT r (j + 1) _ _ (by omega) (nI_1 j) (fun a ha => by rw [xu2_ne (by decide)]; exact h85 a ha) (fun a b ha hb => ?_) (fun a ha => ?_) (fun iv' J' c1 c2 => k iv' J' c1 (fun k hk => (c2 k hk).trans (xu2_ne hk)))
      · rw [xu2_j (by omega)]; exact hB a b ha hb
      · by_cases c : a = j
        · rw [c, xu2_s]
        · rw [xu2_j (by omega)]; exact hA a (by omega)
    clear k
    refine wgo [18, 35] 100 ?_
    refine And.intro (fun z => absurd (lt12 (show j < 12 by omega)) (lenl z)) (fun _ => ?_)
    refine And.intro vj ?_
    refine And.intro v1 ?_
    exact nx
set_option maxRecDepth 100000 in
theorem m_tab_out {p kd : Nat} (hG : GG t sg) (hp : p < cnt (vL sg) 1) (hkd : kd < 4) (ek : sg 81 (7 * p + 1) = nI kd) : ∀ (r T : Nat) (V : Int32) (iv : xIv) (o3 : Option Int32), T + r = 12 → V = nI T → MV iv lg sg tw → TBM iv (dst (vL sg) kd) T → (∀ iv', TBM iv' (dst (vL sg) kd) 12 → (∀ k, k ≠ 85 → k ≠ 88 → iv' k = iv k) → Q none SH RF iv' lg) → Wp L xs m_Mo_findTable 2 [some (.ref 79), some (.int (nI p)), some (.int V), o3.map Value.int] [] SH RF iv lg Q
  | 0, T, V, iv, o3, hj, hV, hM, hB, k => by
    obtain rfl : T = 12 := by omega
    subst hV
    have kk := k iv hB (fun _ _ _ => rfl)
    clear k
    refine wgo [2] 100 ?_
    exact And.intro (fun _ => kk) (fun z => absurd (by decide) z)
  | r + 1, T, V, iv, o3, hj, hV, hM, hB, k => by
    subst hV
    have h8 := hG.1.2.1.2
    have e : (7 : Int32) * nI p + 1 = nI (7 * p + 1) := by rw [ni7]; exact ni_a _ 1
    have ei : iv 81 ((7 : Int32) * nI p + 1).toNatClampNeg = nI kd := by rw [e, cl, hM.2.1.2.1, ek]
    have ve : vp_in ((7 : Int32) * nI p + 1) 56 := by rw [e]; exact vp_N (by omega)
    have ff := fun Q2 => m_findFar (L := L) (xs := xs) (Q := Q2) hkd (show T < 12 by omega) hG hM
    rw [← ei] at ff
    have nx : ∀ iv1, (∀ a, a < 12 → iv1 85 a = enc 100000000 (dst (vL sg) kd a T)) → (∀ k, k ≠ 85 → iv1 k = iv k) → Wp L xs m_Mo_findTable 18 [some (.ref 79), some (.int (nI p)), some (.int (nI T)), some (.int 0)] [] SH RF iv1 lg Q := fun iv1 c1 c2 => by
      refine m_tab_in (D := dst (vL sg) kd) (show T < 12 by omega) 12 0 _ iv1 (by omega) rfl c1 (fun a b ha hb => by rw [c2 88 (by decide)]; exact hB a b ha hb) (fun a ha => absurd ha (Nat.not_lt_zero a)) (fun iv2 J' d1 d2 => ?_)
      have M2 : MV iv2 lg sg tw := (hM.w85 c2).wk (fun j _ _ => by rw [d2 79 (by decide)]) (fun k hk => d2 k (by omega))
      refine wgo [2] 100 ?_
      exact m_tab_out hG hp hkd ek r (T + 1) _ iv2 (some J') (by omega) (nI_1 T) M2 d1 (fun iv' g1 g2 => k iv' g1 (fun k h1 h2 => by rw [g2 k h1 h2, d2 k h2, c2 k h1]))
    clear k
    cases o3
    all_goals
      refine wgo [2, 18] 100 ?_
      refine And.intro (fun z => absurd (lt12 (show T < 12 by omega)) (lenl z)) (fun _ => ?_)
      refine And.intro ve ?_
      refine ff _ (fun iv1 c1 c2 => ?_)
      exact nx iv1 c1 c2
set_option maxRecDepth 100000 in
theorem m_table {p kd : Nat} (hG : GG t sg) (hM : MV iv lg sg tw) (hp : p < cnt (vL sg) 1) (hkd : kd < 4) (ek : sg 81 (7 * p + 1) = nI kd) (k : ∀ iv', TBM iv' (dst (vL sg) kd) 12 → (∀ k, k ≠ 85 → k ≠ 88 → iv' k = iv k) → Q none SH RF iv' lg) : Sp L xs m_Mo_findTable [.ref 79, .int (nI p)] SH RF iv lg Q := by
  refine sgo [2] 100 ?_
  exact m_tab_out hG hp hkd ek 12 0 _ iv none (by omega) rfl hM (fun a b _ hb => absurd hb (Nat.not_lt_zero b)) k
/-- what the reference's tours stand on -/
def MT (iv : xIv) (D : Nat → Nat → Option Nat) (P : Nat → Nat) (n p x : Nat) : Prop := iv 79 8 = nI n ∧ (∀ e, e < n → iv 84 e = nI (P e)) ∧ TBM iv D 12 ∧ iv 81 (7 * p + 3) = nI x
theorem MT.cg {iv' : xIv} {p x : Nat} (hT : MT iv D P n p x) (hr : ∀ k, k ≠ 89 → k ≠ 90 → k ≠ 91 → iv' k = iv k) : MT iv' D P n p x := by
  unfold MT TBM at hT ⊢
  rw [hr 79 (by decide) (by decide) (by decide), hr 84 (by decide) (by decide) (by decide), hr 88 (by decide) (by decide) (by decide), hr 81 (by decide) (by decide) (by decide)]
  exact hT
set_option maxRecDepth 100000 in
theorem m_placeOf {p x e : Nat} (hT : MT iv D P n p x) (hn : n ≤ 6) (hp : p < 8) (he : e < n ∨ e = 6) (k : Q (some (.int (nI (plE P x e)))) SH RF iv lg) : Sp L xs m_Mo_placeOf [.ref 79, .int (nI p), .int (nI e)] SH RF iv lg Q := by
  have e7 : (7 : Int32) * nI p + 3 = nI (7 * p + 3) := by rw [ni7]; exact ni_a _ 3
  refine sgo [] 100 ?_
  refine And.intro (fun z => ?_) (fun z => ?_)
  · have hlt : e < n := by
      rcases he with he | he
      · exact he
      · exact absurd (by rw [he]; rfl) z
    refine And.intro (vp_N (by omega)) ?_
    refine qv k ?_
    rw [cl, hT.2.1 e hlt]
    unfold plE
    rw [if_neg (by omega)]
  · have h6 : e = 6 := (nI_eq (b := 6) (by omega) (by decide)).mp (Decidable.not_not.mp z)
    refine And.intro (by rw [e7]; exact vp_N (by omega)) ?_
    refine qv k ?_
    rw [e7, cl, hT.2.2.2]
    unfold plE
    rw [if_pos h6]
def LF (iv : xIv) (D : Nat → Nat → Option Nat) (P : Nat → Nat) (h n x S : Nat) : Prop := ∀ S' e, S' < S → (e < n ∨ e = 6) → iv 89 (7 * S' + e) = nI ((TO D P h n S' (plE P x e)).getD 100000000)
def MI (D : Nat → Nat → Option Nat) (P : Nat → Nat) (h n S y j b : Nat) : Prop := b ≤ 100000000 ∧ ((S = 0 ∧ b = (D y h).getD 100000000) ∨ (S ≠ 0 ∧ (∀ k, k < j → S.testBit k = true → b ≤ rwN D P h n 100000000 S y k) ∧ (b = 100000000 ∨ ∃ k, k < j ∧ S.testBit k = true ∧ b = rwN D P h n 100000000 S y k)))
set_option maxRecDepth 100000 in
theorem m_to_in {p x S e y : Nat} (hn : n ≤ 6) (hD : DB D P n) (hS : S < 2 ^ n) (hy : y < 12) (hT : MT iv D P n p x) (hL : LF iv D P h n x S) : ∀ (r j b : Nat) (J B : Int32) (o8 : Option Int32), j + r = n → J = nI j → B = nI b → MI D P h n S y j b → (∀ b J' (o8' : Option Int32), MI D P h n S y n b → Wp L xs m_Mo_findTours 99 [some (.ref 79), some (.int (nI p)), some (.int (nI h)), some (.int (nI S)), some (.int (nI e)), some (.int (nI y)), some (.int (nI b)), some (.int J'), o8'.map Value.int] [] SH RF iv lg Q) → Wp L xs m_Mo_findTours 50 [some (.ref 79), some (.int (nI p)), some (.int (nI h)), some (.int (nI S)), some (.int (nI e)), some (.int (nI y)), some (.int B), some (.int J), o8.map Value.int] [] SH RF iv lg Q
  | 0, j, b, J, B, o8, hj, hJ, hB, hI, k => by
    obtain rfl : j = n := by omega
    subst hJ; subst hB
    have kk := k b (nI j) o8 hI
    have h12 := hT.1
    clear k
    refine wgo [50, 99] 100 ?_
    exact And.intro (fun _ => kk) (fun z => absurd (by rw [h12]; exact il.mpr (Int.le_refl _)) z)
  | r + 1, j, b, J, B, o8, hj, hJ, hB, hI, k => by
    subst hJ; subst hB
    have h64 := (pw6 n (by omega)).2
    have hlt : nI j < iv 79 8 := by rw [hT.1]; exact nI_lt (by omega) (by omega)
    have hbit := nx_bi1 (k := S) (x := j) (by omega) (by omega)
    have vj : vp_in (nI j) 6 := vp_N (by omega)
    have hb0 := hI.1
    have key : ∀ (vv : Nat) (V : Int32) (o8 : Option Int32), V = nI vv → vv ≤ 200000000 → (vv < b → MI D P h n S y (j + 1) vv) → (b ≤ vv → MI D P h n S y (j + 1) b) → Wp L xs m_Mo_findTours 89 [some (.ref 79), some (.int (nI p)), some (.int (nI h)), some (.int (nI S)), some (.int (nI e)), some (.int (nI y)), some (.int (nI b)), some (.int (nI j)), o8.map Value.int] [.int V] SH RF iv lg Q := fun vv V o8 hV hvv h1 h2 => by
      subst hV
      have n1 : vv < b → Wp L xs m_Mo_findTours 50 [some (.ref 79), some (.int (nI p)), some (.int (nI h)), some (.int (nI S)), some (.int (nI e)), some (.int (nI y)), some (.int (nI vv)), some (.int (nI j + 1)), (some (nI vv)).map Value.int] [] SH RF iv lg Q := fun z => m_to_in hn hD hS hy hT hL r (j + 1) vv _ _ (some (nI vv)) (by omega) (nI_1 j) rfl (h1 z) k
      have n2 : b ≤ vv → Wp L xs m_Mo_findTours 50 [some (.ref 79), some (.int (nI p)), some (.int (nI h)), some (.int (nI S)), some (.int (nI e)), some (.int (nI y)), some (.int (nI b)), some (.int (nI j + 1)), (some (nI vv)).map Value.int] [] SH RF iv lg Q := fun z => m_to_in hn hD hS hy hT hL r (j + 1) b _ _ (some (nI vv)) (by omega) (nI_1 j) rfl (h2 z) k
      clear k
      refine wgo [50] 100 ?_
      refine And.intro (fun z => ?_) (fun z => ?_)
      · exact n2 ((nI_leI (by omega) (by omega)).mp z)
      · exact n1 (Nat.lt_of_not_le (fun w => z ((nI_leI (by omega) (by omega)).mpr w)))
    have hb2 : S.testBit j = true ∨ S.testBit j = false := by cases S.testBit j <;> simp
    rcases hb2 with hb | hb
    · have hsub : S - 2 ^ j < 64 := Nat.lt_of_le_of_lt (Nat.sub_le _ _) (by omega)
      have g := tb_ge S (by omega) j (by omega) hb
      have h0 : S ≠ 0 := fun z => by rw [z] at hb; simp at hb
      have i1 : (12 : Int32) * nI y + iv 84 (nI j).toNatClampNeg = nI (12 * y + P j) := by rw [cl, hT.2.1 j (by omega), ni12, ni_a]
      have hP := hD.2 j (by omega)
      have v1 : vp_in ((12 : Int32) * nI y + iv 84 (nI j).toNatClampNeg) 144 := by rw [i1]; exact vp_N (by omega)
      have i2 : (7 : Int32) * (nI S &&& (((1 : Int32) <<< (nI j &&& 31)) ^^^ (-1))) + nI j = nI (7 * (S - 2 ^ j) + j) := by rw [tb_op S (by omega) j (by omega) hb, ni7, ni_a]
      have v2 : vp_in ((7 : Int32) * (nI S &&& (((1 : Int32) <<< (nI j &&& 31)) ^^^ (-1))) + nI j) 448 := by rw [i2]; exact vp_N (by omega)
      have b1 := getD_le (inf := 100000000) (fun c hc => Nat.le_trans (hD.1 y (P j) hy c hc) (by decide))
      have b2 := getD_le (inf := 100000000) (fun c hc => Nat.le_trans (TO_bd (h := h) (S := S - 2 ^ j) (x := P j) hn hD hsub hP c hc) (by decide))
      have es : iv 88 ((12 : Int32) * nI y + iv 84 (nI j).toNatClampNeg).toNatClampNeg + iv 89 ((7 : Int32) * (nI S &&& (((1 : Int32) <<< (nI j &&& 31)) ^^^ (-1))) + nI j).toNatClampNeg = nI (rwN D P h n 100000000 S y j) := by
        rw [i1, i2, cl, cl, hT.2.2.1 y (P j) hy hP, hL (S - 2 ^ j) j (by omega) (Or.inl (by omega)), ni_a]
        unfold rwN plE
        rw [if_neg (by omega)]
      have hrw : rwN D P h n 100000000 S y j ≤ 200000000 := by unfold rwN; omega
      obtain ⟨hI1, hI2⟩ := hI
      have hI3 : (∀ k, k < j → S.testBit k = true → b ≤ rwN D P h n 100000000 S y k) ∧ (b = 100000000 ∨ ∃ k, k < j ∧ S.testBit k = true ∧ b = rwN D P h n 100000000 S y k) := by
        rcases hI2 with ⟨z, _⟩ | ⟨_, z⟩
        · exact absurd z h0
        · exact z
      have kk := fun V o8 hV => key (rwN D P h n 100000000 S y j) V o8 hV hrw (fun z => ⟨by omega, Or.inr ⟨h0, fun k hk hb' => by
          by_cases c : k = j
          · rw [c]; exact Nat.le_refl _
          · exact Nat.le_trans (Nat.le_of_lt z) (hI3.1 k (by omega) hb'), Or.inr ⟨j, by omega, hb, rfl⟩⟩⟩) (fun z => ⟨hI1, Or.inr ⟨h0, fun k hk hb' => by
          by_cases c : k = j
          · rw [c]; exact z
          · exact hI3.1 k (by omega) hb', by
          rcases hI3.2 with q | ⟨k, k1, k2, k3⟩
          · exact Or.inl q
          · exact Or.inr ⟨k, by omega, k2, k3⟩⟩⟩)
      have kk2 := fun o8 => kk _ o8 es
      clear k key kk i1 i2 es
      refine wgo [50, 89, 99] 100 ?_
      refine And.intro (fun z => absurd hlt (lenl z)) (fun _ => ?_)
      refine And.intro (fun z => absurd (hbit.mpr hb) z) (fun _ => ?_)
      refine And.intro vj ?_
      refine And.intro v1 ?_
      refine And.intro v2 ?_
      exact kk2 o8
    · have hnb : ¬ (nI S >>> (nI j &&& 31)) &&& 1 = 1 := fun z => by rw [hbit.mp z] at hb; cases hb
      have kk := fun o8 => key 100000000 100000000 o8 rfl (by decide) (fun z => by omega) (fun _ => by
        refine ⟨hI.1, ?_⟩
        rcases hI.2 with q | ⟨q1, q2, q3⟩
        · exact Or.inl q
        · refine Or.inr ⟨q1, fun k hk hb' => ?_, ?_⟩
          · by_cases c : k = j
            · subst c; rw [hb] at hb'; cases hb'
            · exact q2 k (by omega) hb'
          · rcases q3 with q | ⟨k, k1, k2, k3⟩
            · exact Or.inl q
            · exact Or.inr ⟨k, by omega, k2, k3⟩)
      clear k key
      refine wgo [50, 89, 99] 100 ?_
      refine And.intro (fun z => absurd hlt (lenl z)) (fun _ => ?_)
      refine And.intro (fun _ => ?_) (fun z => absurd hnb z)
      exact kk o8
end TOURM
