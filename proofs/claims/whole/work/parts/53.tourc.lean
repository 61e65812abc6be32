-- ===== tour, parted: the class =====
def pcN (S : Nat) : Nat := ((List.range 6).filter (fun e => S.testBit e)).length
theorem pc_sub : ∀ S, S < 64 → ∀ e, e < 6 → S.testBit e = true → pcN (S - 2 ^ e) + 1 = pcN S := by decide +kernel
theorem pc_all : ∀ n, n < 7 → pcN (2 ^ n - 1) = n := by decide +kernel
theorem pc_0 : pcN 0 = 0 := by decide
/-- which errand is the r-th from here -/
def trR (D : Nat → Nat → Option Nat) (P : Nat → Nat) (h n : Nat) : Nat → Nat → Nat → Nat → Nat → Prop
  | 0, _, _, e, res => res = e
  | r + 1, S, x, _, res => ∃ e', isF D P h n S x e' ∧ trR D P h n r (S - 2 ^ e') (P e') e' res
theorem trR_uniq {D : Nat → Nat → Option Nat} {P : Nat → Nat} {h n : Nat} : ∀ (r S x e a b : Nat), trR D P h n r S x e a → trR D P h n r S x e b → a = b
  | 0, _, _, _, _, _, h1, h2 => h1.trans h2.symm
  | r + 1, S, x, e, a, b, ⟨e1, f1, g1⟩, ⟨e2, f2, g2⟩ => by
    have := isF_uniq f1 f2
    subst this
    exact trR_uniq r _ _ _ a b g1 g2
theorem trR_lt {D : Nat → Nat → Option Nat} {P : Nat → Nat} {h n : Nat} : ∀ (r S x e a : Nat), trR D P h n r S x e a → e < 6 → n ≤ 6 → a < 6
  | 0, _, _, _, _, h1, he, _ => by rw [h1]; exact he
  | r + 1, S, x, e, a, ⟨e1, f1, g1⟩, he, hn => trR_lt r _ _ _ a g1 (Nat.lt_of_lt_of_le f1.1 hn) hn
def tourA (D : Nat → Nat → Option Nat) (P : Nat → Nat) (h n x : Nat) (b ans : Int32) : Prop := (TO D P h n (2 ^ n - 1) x = none ∧ ans = -4) ∨ ∃ c, TO D P h n (2 ^ n - 1) x = some c ∧ ((b = -1 ∧ ans = nI c) ∨ ∃ i, i < 6 ∧ b = nI i ∧ ((n ≤ i ∧ ans = -4) ∨ (i < n ∧ ∃ res, trR D P h n (i + 1) (2 ^ n - 1) x 0 res ∧ ans = nI res)))
theorem nI_m1 {i : Nat} (h : i < 2 ^ 31) : ¬ nI i = -1 := fun z => by
  have := nI_pos' h
  rw [z] at this
  exact absurd this (by decide)
theorem tourA_uniq {D : Nat → Nat → Option Nat} {P : Nat → Nat} {h n x : Nat} {b a1 a2 : Int32} (h1 : tourA D P h n x b a1) (h2 : tourA D P h n x b a2) : a1 = a2 := by
  rcases h1 with ⟨h1, e1⟩ | ⟨c, h1, q1⟩ <;> rcases h2 with ⟨h2, e2⟩ | ⟨c', h2, q2⟩
  · rw [e1, e2]
  · rw [h1] at h2; cases h2
  · rw [h1] at h2; cases h2
  · rw [h1] at h2
    cases h2
    rcases q1 with ⟨b1, e1⟩ | ⟨i, i1, i2, q1⟩ <;> rcases q2 with ⟨b2, e2⟩ | ⟨j, j1, j2, q2⟩
    · rw [e1, e2]
    · exact absurd (j2.symm.trans b1) (nI_m1 (by omega))
    · exact absurd (i2.symm.trans b2) (nI_m1 (by omega))
    · have : i = j := (nI_eq (by omega) (by omega)).mp (i2.symm.trans j2)
      subst this
      rcases q1 with ⟨g1, e1⟩ | ⟨g1, r1, t1, e1⟩ <;> rcases q2 with ⟨g2, e2⟩ | ⟨g2, r2, t2, e2⟩
      · rw [e1, e2]
      · omega
      · omega
      · rw [e1, e2, trR_uniq _ _ _ _ _ _ t1 t2]
def ePl (sg : xIv) (e : Nat) : Nat := (sg 84 e).toNatClampNeg
section TOURC
variable {L : Nat} {xs : Nat → Int32} {iv : xIv} {lg : xLg} {Q : xQ} {sg : xIv} {tw : Nat → Int64} {t : Nat} {D : Nat → Nat → Option Nat} {P : Nat → Nat} {h n R : Nat}
theorem ePl_is (hG : GG t sg) {e : Nat} (he : e < cnt (vL sg) 2) : sg 84 e = nI (ePl sg e) ∧ ePl sg e < 12 := by
  obtain ⟨p, hp, e1⟩ := isN_of (hG.1.2.2.2.2.2.2.2.2.2 e he) (by decide)
  replace e1 : sg 84 e = nI p := e1
  unfold ePl
  rw [e1, cl]
  exact ⟨rfl, hp⟩
theorem DB_of (hG : GG t sg) (kd : Nat) : DB (dst (vL sg) kd) (ePl sg) (cnt (vL sg) 2) := ⟨fun a b ha c hc => dst_bd hG.1.2.2.2.2.2.1 ha hc, fun e he => (ePl_is hG he).2⟩
theorem CX.wN {iv' : xIv} (hC : CX iv lg sg tw) (hr : ∀ k, (k < 43 ∨ 53 ≤ k) → iv' k = iv k) : CX iv' lg sg tw := by
  obtain ⟨⟨hy, hpp, ho⟩, hkk, hrd, htp, hst⟩ := id hC
  exact hC.of (hy.keep (fun i a b => hr _ (by omega)) rfl (fun j _ => rfl)) (hpp.keep (fun i a b => hr _ (by omega)) rfl (fun _ _ => rfl) (fun _ _ => rfl)) (ho.keep (hr _ (by omega)) (hr _ (by omega)) (hr _ (by omega)) rfl rfl rfl (fun j _ => rfl) (fun j _ => rfl)) (hrd.keep (fun k a b => hr k (by omega)) rfl (fun w f _ _ => rfl)) (fun k a b => hr k (by omega)) (by rw [hr 0 (by omega)]) (by rw [hr 53 (by omega)]) (hr 54 (by omega)) (hr 69 (by omega)) (fun k a b => hr k (by omega)) rfl rfl rfl rfl rfl rfl rfl
theorem CT_of (hC : CX iv lg sg tw) (hG : GG t sg) {kd : Nat} (hT : TD iv (vL sg) kd) : CT iv (39 + kd) (dst (vL sg) kd) (ePl sg) (cnt (vL sg) 2) :=
  ⟨nE_c hC hG, fun e he => (hC.1.2.2.2.1 e he).trans (ePl_is hG he).1, fun a b ha hb => hT a b ha hb⟩
set_option maxRecDepth 100000 in
theorem c_weigh {p kd hm x : Nat} (hC : CX iv lg sg tw) (hG : GG t sg) (hp : p < cnt (vL sg) 1) (hkd : kd < 4) (ek : sg 81 (7 * p + 1) = nI kd) (hh : hm < 12) (eh : sg 81 (7 * p) = nI hm) (hx : x < 12) (ex : sg 81 (7 * p + 3) = nI x) (k : ∀ iv', CX iv' lg sg tw → refS iv' lg iv lg → TD iv' (vL sg) kd → RS iv' (dst (vL sg) kd) (ePl sg) hm (cnt (vL sg) 2) (2 ^ cnt (vL sg) 2) → WHL iv' (dst (vL sg) kd) (ePl sg) hm (cnt (vL sg) 2) x (2 ^ cnt (vL sg) 2) → iv' 46 = iv 46 → Q (some (.int (nI ((TO (dst (vL sg) kd) (ePl sg) hm (cnt (vL sg) 2) (2 ^ cnt (vL sg) 2 - 1) x).getD 1000000)))) SH RF iv' lg) : Sp L xs m_Tours_weigh [.ref 43, .int (nI p)] SH RF iv lg Q := by
  have h8 := hG.1.2.1.2
  have h6 := hG.1.2.2.1.2
  have hv : vp_in (nI p) 8 := vp_N (by omega)
  have ei : iv 10 (nI p).toNatClampNeg = nI kd := by rw [cl, (hC.rd hp).2.1, ek]
  have cc := fun Q => c_costsOf (L := L) (xs := xs) (Q := Q) hkd hC hG
  rw [← ei] at cc
  have fin : ∀ iv', CX iv' lg sg tw → refS iv' lg iv lg → TD iv' (vL sg) kd → iv' 46 = iv 46 → Wp L xs m_Tours_weigh 25 [some (.ref 43), some (.int (nI p)), some (.ref (39 + kd)), some (.int (iv' 9 (nI p).toNatClampNeg)), some (.int ((1 : Int32) <<< (iv' 1 2 &&& 31))), some (.int 0), none] [] SH RF iv' lg Q := fun iv1 C1 R1 T1 r46 => by
    rw [cl, (C1.rd hp).1, eh, nE_c C1 hG, sh_n _ (by omega)]
    refine c_weigh_out (R := 39 + kd) (show isR (39 + kd) by unfold isR; omega) h6 (DB_of hG kd) hh (by omega) hx _ 0 _ iv1 _ (Nat.zero_add _) rfl (CT_of C1 hG T1) ((C1.rd hp).2.2.2.1.trans ex) (fun S' e z => absurd z (Nat.not_lt_zero _)) (fun S' z => absurd z (Nat.not_lt_zero _)) (fun iv' d1 d2 d3 => ?_)
    exact k iv' (C1.wN (fun k hk => d3 k (by omega) (by omega))) ⟨fun k hk => (d3 k (by omega) (by omega)).trans (R1.1 k hk), R1.2⟩ (fun a b ha hb => by rw [d3 _ (by omega) (by omega)]; exact T1 a b ha hb) d1 d2 ((d3 46 (by decide) (by decide)).trans r46)
  clear k ei
  have h4 : kd = 0 ∨ kd = 1 ∨ kd = 2 ∨ kd = 3 := by omega
  rcases h4 with rfl | rfl | rfl | rfl
  all_goals
    refine sgo [25] 100 ?_
    refine And.intro hv ?_
    refine cc _ (fun iv' d1 d2 d3 d4 => ?_)
    refine And.intro hv ?_
    exact fin iv' d1 d2 d3 (d4 46 (by decide))
set_option maxRecDepth 100000 in
theorem c_at_l {i p : Nat} (hR : isR R) (hn : n ≤ 6) (hi : i < n) (hD : DB D P n) (hC : CT iv R D P n) (hr : RS iv D P h n (2 ^ n)) : ∀ (r j S x e : Nat) (J E : Int32), j + r = i + 1 → J = nI j → (r = 0 → E = nI e) → S < 2 ^ n → x < 12 → (∃ c, TO D P h n S x = some c) → pcN S + j = n → (∀ res, trR D P h n r S x e res → Q (some (.int (nI res))) SH RF iv lg) → Wp L xs m_Tours_errandAt 29 [some (.ref 43), some (.int (nI p)), some (.int (nI i)), some (.ref R), some (.int (nI x)), some (.int (nI S)), some (.int E), some (.int J)] [] SH RF iv lg Q
  | 0, j, S, x, e, J, E, hj, hJ, hE, hS, hx, hc, hp, k => by
    obtain rfl : j = i + 1 := by omega
    subst hJ
    have eE := hE rfl
    subst eE
    have kk := k e rfl
    clear k
    refine wgo [29] 100 ?_
    refine And.intro (fun _ => kk) (fun z => absurd (nI_lt (by omega) (by omega)) z)
  | r + 1, j, S, x, e, J, E, hj, hJ, hE, hS, hx, hc, hp, k => by
    subst hJ
    have h64 := (pw6 n (by omega)).2
    have h0 : S ≠ 0 := fun z => by rw [z, pc_0] at hp; omega
    have hne : ¬ nI S = 0 := fun z => h0 ((nI_eq (b := 0) (by omega) (by decide)).mp z)
    have hle : ¬ nI i < nI j := fun z => by have := (nI_ltI (by omega) (by omega)).mp z; omega
    have hW := RS_WB (h := h) hn hD hC (S := S) (by omega) hx (fun S' e h1 h2 h3 => hr S' e (by omega) h2 h3)
    have fs := fun Q => c_first (L := L) (xs := xs) (lg := lg) (Q := Q) hR hn hS h0 hx hC.1 hW
    have fin : ∀ e', e' < n → S.testBit e' = true → (∀ e'', e'' < n → S.testBit e'' = true → rwN D P h n 1000000 S x e' ≤ rwN D P h n 1000000 S x e'') → (∀ e'', e'' < e' → S.testBit e'' = true → rwN D P h n 1000000 S x e' < rwN D P h n 1000000 S x e'') → vp_in (nI e') 6 ∧ Wp L xs m_Tours_errandAt 29 [some (.ref 43), some (.int (nI p)), some (.int (nI i)), some (.ref R), some (.int (iv 17 (nI e').toNatClampNeg)), some (.int (nI S &&& (((1 : Int32) <<< (nI e' &&& 31)) ^^^ (-1)))), some (.int (nI e')), some (.int (nI j + 1))] [] SH RF iv lg Q := fun e' he hb h1 h2 => by
      obtain ⟨c, hc⟩ := hc
      have hF := isF_of (inf := 1000000) (by decide) hn hD (show S < 64 by omega) h0 hx hc he hb h1 h2
      have g := tb_ge S (by omega) e' (by omega) hb
      have gp := pc_sub S (by omega) e' (by omega) hb
      refine ⟨vp_N (by omega), ?_⟩
      rw [cl, hC.2.1 e' he, tb_op S (by omega) e' (by omega) hb]
      exact c_at_l hR hn hi hD hC hr r (j + 1) (S - 2 ^ e') (P e') e' _ _ (by omega) (nI_1 j) (fun _ => rfl) (by omega) (hD.2 e' he) (isF_next hc hF) (by omega) (fun res hres => k res ⟨e', hF, hres⟩)
    clear k hW hC hr
    rcases hR with rfl | rfl | rfl | rfl
    all_goals
      refine wgo [29] 100 ?_
      refine And.intro (fun z => absurd z hle) (fun _ => ?_)
      refine And.intro (fun z => absurd z hne) (fun _ => ?_)
      refine fs _ (fun e' he hb h1 h2 => ?_)
      obtain ⟨f1, f2⟩ := fin e' he hb h1 h2
      refine And.intro f1 ?_
      exact f2
abbrev okTo (sg : xIv) (a b : Int32) : Prop := isN a (cnt (vL sg) 1) ∧ (-1 ≤ b ∧ b ≤ 5)
theorem m15 {b : Int32} (h : -1 ≤ b ∧ b ≤ 5) : b = -1 ∨ ∃ i, i < 6 ∧ b = nI i := by
  obtain ⟨h1, h2⟩ := h
  rw [il] at h1 h2
  rw [show (-1 : Int32).toInt = -1 from by decide] at h1
  rw [show (5 : Int32).toInt = 5 from by decide] at h2
  by_cases c : b.toInt = -1
  · exact Or.inl (ie.mpr (by rw [c]; decide))
  · exact Or.inr ⟨b.toInt.toNat, by omega, nI_of_toInt (by omega)⟩
set_option maxRecDepth 100000 in
theorem c_errandAt {p kd hm x i : Nat} (hC : CX iv lg sg tw) (hG : GG t sg) (hp : p < cnt (vL sg) 1) (hkd : kd < 4) (ek : sg 81 (7 * p + 1) = nI kd) (hx : x < 12) (ex : sg 81 (7 * p + 3) = nI x) (hi : i < cnt (vL sg) 2) (hr : RS iv (dst (vL sg) kd) (ePl sg) hm (cnt (vL sg) 2) (2 ^ cnt (vL sg) 2)) (hc : ∃ c, TO (dst (vL sg) kd) (ePl sg) hm (cnt (vL sg) 2) (2 ^ cnt (vL sg) 2 - 1) x = some c) (k : ∀ iv' res, CX iv' lg sg tw → refS iv' lg iv lg → trR (dst (vL sg) kd) (ePl sg) hm (cnt (vL sg) 2) (i + 1) (2 ^ cnt (vL sg) 2 - 1) x 0 res → Q (some (.int (nI res))) SH RF iv' lg) : Sp L xs m_Tours_errandAt [.ref 43, .int (nI p), .int (nI i)] SH RF iv lg Q := by
  have h8 := hG.1.2.1.2
  have h6 := hG.1.2.2.1.2
  have hv : vp_in (nI p) 8 := vp_N (by omega)
  have ei : iv 10 (nI p).toNatClampNeg = nI kd := by rw [cl, (hC.rd hp).2.1, ek]
  have cc := fun Q => c_costsOf (L := L) (xs := xs) (Q := Q) hkd hC hG
  rw [← ei] at cc
  have fin : ∀ iv', CX iv' lg sg tw → refS iv' lg iv lg → TD iv' (vL sg) kd → iv' 44 = iv 44 → Wp L xs m_Tours_errandAt 29 [some (.ref 43), some (.int (nI p)), some (.int (nI i)), some (.ref (39 + kd)), some (.int (iv' 12 (nI p).toNatClampNeg)), some (.int ((1 : Int32) <<< (iv' 1 2 &&& 31) - 1)), some (.int (-4)), some (.int 0)] [] SH RF iv' lg Q := fun iv1 C1 R1 T1 r44 => by
    have h64 := pw6 (cnt (vL sg) 2) (by omega)
    rw [cl, (C1.rd hp).2.2.2.1, ex, nE_c C1 hG, sh_n _ (by omega), show nI (2 ^ cnt (vL sg) 2) - 1 = nI (2 ^ cnt (vL sg) 2 - 1) from nI_subN (b := 1) (by omega) (by omega)]
    refine c_at_l (R := 39 + kd) (h := hm) (show isR (39 + kd) by unfold isR; omega) h6 hi (DB_of hG kd) (CT_of C1 hG T1) (fun S' e h1 h2 h3 => by rw [r44]; exact hr S' e h1 h2 h3) (i + 1) 0 _ x 0 _ _ (by omega) rfl (fun z => by omega) (by omega) hx hc (by rw [pc_all _ (by omega)]; rfl) (fun res hres => k iv1 res C1 R1 hres)
  clear k ei
  have h4 : kd = 0 ∨ kd = 1 ∨ kd = 2 ∨ kd = 3 := by omega
  rcases h4 with rfl | rfl | rfl | rfl
  all_goals
    refine sgo [29] 100 ?_
    refine And.intro hv ?_
    refine cc _ (fun iv' d1 d2 d3 d4 => ?_)
    refine And.intro hv ?_
    exact fin iv' d1 d2 d3 (d4 44 (by decide))
set_option maxRecDepth 100000 in
theorem c_tour {a b : Int32} (hC : CX iv lg sg tw) (hG : GG t sg) (k1 : ∀ p kd hm x ans, p < cnt (vL sg) 1 → kd < 4 → hm < 12 → x < 12 → a = nI p → sg 81 (7 * p + 1) = nI kd → sg 81 (7 * p) = nI hm → sg 81 (7 * p + 3) = nI x → (-1 ≤ b ∧ b ≤ 5) → tourA (dst (vL sg) kd) (ePl sg) hm (cnt (vL sg) 2) x b ans → ∀ iv', CX iv' lg sg tw → refS iv' lg iv lg → Q (some (.int ans)) SH RF iv' lg) (k2 : ¬ okTo sg a b → Q (some (.int (-1))) SH RF iv lg) : Sp L xs m_SR_tour [.ref 0, .int a, .int b] SH RF iv lg Q := by
  have h8 := hG.1.2.1.2
  have h6 := hG.1.2.2.1.2
  refine sgo [] 100 ?_
  refine s_isPerson (nP_c hC hG) (by omega) (fun h1 => ?_) (fun h1 => ?_)
  · refine b1 ?_
    refine s_within (fun h2 => ?_) (fun h2 => ?_)
    · refine c1 ?_
      obtain ⟨p, hp, rfl⟩ := isN_of h1 (by omega)
      obtain ⟨kd, hkd, ek⟩ := kindOf hG hp
      obtain ⟨hm, hhm, eh⟩ := homeOf hG hp
      obtain ⟨x, hx, ex⟩ := placeOf' hG hp
      have kk := fun ans => k1 p kd hm x ans hp hkd hhm hx rfl ek eh ex h2
      clear k1 k2
      refine c_weigh hC hG hp hkd ek hhm eh hx ex (fun iv1 C1 R1 T1 S1 W1 r46 => ?_)
      have bd := TO_bd (h := hm) (S := 2 ^ cnt (vL sg) 2 - 1) (x := x) h6 (DB_of hG kd) (by have := pw6 (cnt (vL sg) 2) (by omega); omega) hx
      have h12 := nE_c C1 hG
      cases eT : TO (dst (vL sg) kd) (ePl sg) hm (cnt (vL sg) 2) (2 ^ cnt (vL sg) 2 - 1) x with
      | none =>
        refine And.intro (fun _ => ?_) (fun z => absurd (by decide) z)
        exact kk (-4) (Or.inl ⟨eT, rfl⟩) iv1 C1 R1
      | some c =>
        have bc := bd c eT
        refine And.intro (fun z => absurd ((nI_leI (a := 1000000) (b := c) (by decide) (by omega)).mp z) (by omega)) (fun _ => ?_)
        rcases m15 h2 with rfl | ⟨i, hi, rfl⟩
        · refine And.intro (fun _ => ?_) (fun z => absurd (by rw [h12]; exact it.mpr (by rw [nI_toInt (by omega), show (-1 : Int32).toInt = -1 from by decide]; omega)) z)
          refine And.intro (fun z => absurd z (by decide)) (fun _ => ?_)
          exact kk _ (Or.inr ⟨c, eT, Or.inl ⟨rfl, rfl⟩⟩) iv1 C1 R1
        · refine And.intro (fun z => ?_) (fun z => ?_)
          · have hin : i < cnt (vL sg) 2 := by rw [h12] at z; exact (nI_ltI (by omega) (by omega)).mp z
            refine And.intro (fun _ => ?_) (fun z => absurd (nI_pos' (by omega)) z)
            refine c_errandAt C1 hG hp hkd ek hx ex hin S1 ⟨c, eT⟩ (fun iv2 res C2 R2 hres => ?_)
            exact kk _ (Or.inr ⟨c, eT, Or.inr ⟨i, hi, rfl, Or.inr ⟨hin, res, hres, rfl⟩⟩⟩) iv2 C2 (R2.trans R1)
          · have hin : cnt (vL sg) 2 ≤ i := Nat.le_of_not_lt (fun w => z (by rw [h12]; exact nI_lt w (by omega)))
            exact kk _ (Or.inr ⟨c, eT, Or.inr ⟨i, hi, rfl, Or.inl ⟨hin, rfl⟩⟩⟩) iv1 C1 R1
    · refine c0 ?_
      exact k2 (fun z => h2 z.2)
  · refine b0 ?_
    exact k2 (fun z => h1 z.1)
end TOURC
