-- ===== the class's tables of costs =====
theorem ni12' (n : Nat) : nI n * (12 : Int32) = nI (12 * n) := by rw [Nat.mul_comm]; exact pk_mul n 12
theorem ni12 (n : Nat) : (12 : Int32) * nI n = nI (12 * n) := pk_mul 12 n
theorem imn_nI {a b : Nat} (ha : a < 2 ^ 31) (hb : b < 2 ^ 31) : imn (nI a) (nI b) = nI (min a b) := by
  unfold imn
  by_cases h : b < a
  · rw [if_pos (nI_lt h ha), Nat.min_eq_right (by omega)]
  · rw [if_neg (fun z => h ((nI_ltI hb ha).mp z)), Nat.min_eq_left (by omega)]
def TB (iv : xIv) (R : Nat) (T : Nat → Nat → Nat) : Prop := ∀ a b, a < 12 → b < 12 → iv R (12 * a + b) = nI (T a b)
theorem TB.cg {iv : xIv} {R : Nat} {T T' : Nat → Nat → Nat} (h : TB iv R T) (e : ∀ a b, a < 12 → b < 12 → T' a b = T a b) : TB iv R T' := fun a b ha hb => by rw [e a b ha hb]; exact h a b ha hb
theorem TB.up {iv : xIv} {R : Nat} {T : Nat → Nat → Nat} (h : TB iv R T) {a b x : Nat} (hb : b < 12) : TB (xu2 iv R (12 * a + b) (nI x)) R (upT2 T a b x) := fun p q hp hq => by
  unfold upT2
  by_cases e : p = a ∧ q = b
  · rw [if_pos e, e.1, e.2, xu2_s]
  · rw [if_neg e, xu2_j (by omega)]
    exact h p q hp hq
section JOIN
variable {L : Nat} {xs : Nat → Int32} {iv : xIv} {lg : xLg} {Q : xQ} {sg : xIv} {tw : Nat → Int64} {t : Nat}
abbrev fiOK (K n : Nat) : Prop := (K = 39 ∧ n = 144) ∨ (K = 40 ∧ n = 144) ∨ (K = 41 ∧ n = 144) ∨ (K = 42 ∧ n = 144) ∨ (K = 46 ∧ n = 64) ∨ (K = 51 ∧ n = 24) ∨ (K = 52 ∧ n = 12)
set_option maxRecDepth 100000 in
theorem s_fillI_l {K n : Nat} {v : Int32} (hK : fiOK K n) (k : ∀ iv', (∀ k, k ≠ K → iv' k = iv k) → (∀ j, j < n → iv' K j = v) → Q none SH RF iv' lg) : ∀ (r i : Nat) (x : Int32) (iv' : xIv), i + r = n → x = nI i → (∀ k, k ≠ K → iv' k = iv k) → (∀ j, j < i → iv' K j = v) → Wp L xs m_Ar_fillI 5 [some (.ref K), some (.int v), some (.int x), some (.int (nI n))] [] SH RF iv' lg Q
  | 0, i, x, iv', h, hx, h1, h2 => by
    obtain rfl : i = n := by omega
    subst hx
    refine wgo [5] 100 ?_
    exact And.intro (fun _ => k iv' h1 h2) (fun z => absurd (il.mpr (Int.le_refl _)) z)
  | r + 1, i, x, iv', h, hx, h1, h2 => by
    subst hx
    have hn : n ≤ 144 := by rcases hK with h | h | h | h | h | h | h <;> omega
    have hv : vp_in (nI i) n := vp_N (by omega) (by omega)
    have hlt : nI i < nI n := nI_lt (by omega) (by omega)
    have key : Wp L xs m_Ar_fillI 5 [some (.ref K), some (.int v), some (.int (nI i + 1)), some (.int (nI n))] [] SH RF (xu2 iv' K (nI i).toNatClampNeg v) lg Q := by
      refine s_fillI_l hK k r (i + 1) _ _ (by omega) (nI_1 i) (fun k hk => by rw [xu2_ne hk]; exact h1 k hk) (fun j hj => ?_)
      rw [cl]
      by_cases e : j = i
      · rw [e, xu2_s]
      · rw [xu2_j e]; exact h2 j (by omega)
    clear h1 h2 k
    rcases hK with ⟨rfl, rfl⟩ | ⟨rfl, rfl⟩ | ⟨rfl, rfl⟩ | ⟨rfl, rfl⟩ | ⟨rfl, rfl⟩ | ⟨rfl, rfl⟩ | ⟨rfl, rfl⟩
    all_goals
      refine wgo [5] 100 ?_
      refine And.intro (fun z => absurd hlt (lenl z)) (fun _ => ?_)
      refine And.intro hv ?_
      exact key
set_option maxRecDepth 100000 in
theorem s_fillI {K n : Nat} {v : Int32} (hK : fiOK K n) (k : ∀ iv', (∀ k, k ≠ K → iv' k = iv k) → (∀ j, j < n → iv' K j = v) → Q none SH RF iv' lg) : Sp L xs m_Ar_fillI [.ref K, .int v] SH RF iv lg Q := by
  have key := s_fillI_l (L := L) (xs := xs) hK k n 0 0 iv (by omega) rfl (fun _ _ => rfl) (fun j hj => absurd hj (Nat.not_lt_zero j))
  clear k
  rcases hK with ⟨rfl, rfl⟩ | ⟨rfl, rfl⟩ | ⟨rfl, rfl⟩ | ⟨rfl, rfl⟩ | ⟨rfl, rfl⟩ | ⟨rfl, rfl⟩ | ⟨rfl, rfl⟩
  all_goals
    refine sgo [5] 100 ?_
    exact key
def mid (m f t : Nat) (T : Nat → Nat → Nat) (a b : Nat) : Nat := if a < f ∨ (a = f ∧ b < t) then stF m T a b else T a b
theorem mid_ne {m f t a b : Nat} {T : Nat → Nat → Nat} (h : ¬ (a = f ∧ b = t)) : mid m f (t + 1) T a b = mid m f t T a b := by
  unfold mid
  by_cases c : a < f ∨ (a = f ∧ b < t)
  · rw [if_pos c, if_pos (by omega)]
  · rw [if_neg c, if_neg (by omega)]
theorem mid_at {m f t : Nat} {T : Nat → Nat → Nat} : mid m f (t + 1) T f t = stF m T f t ∧ mid m f t T f t = T f t := by
  unfold mid
  rw [if_pos (by omega), if_neg (by omega)]
  exact ⟨rfl, rfl⟩
theorem mid_m {m f t b : Nat} {T : Nat → Nat → Nat} (h : T m m = 0) : mid m f t T m b = T m b := by
  unfold mid stF
  rw [h, Nat.zero_add, Nat.min_self, ite_self]
theorem ni2 (c : Nat) : nI c < (12 : Int32) ↔ c < 12 ∨ ¬ c < 2 ^ 31 ∧ nI c < (12 : Int32) := by
  by_cases h : c < 2 ^ 31
  · rw [show (12 : Int32) = nI 12 from rfl, nI_ltI h (by decide)]; omega
  · exact ⟨fun z => Or.inr ⟨h, z⟩, fun z => by rcases z with z | z; omega; exact z.2⟩
theorem lt12 {c : Nat} (h : c < 12) : nI c < (12 : Int32) := nI_lt (b := 12) h (by decide)
set_option maxRecDepth 100000 in
theorem c_join_in {R m f : Nat} {T : Nat → Nat → Nat} (hR : R = 39 ∨ R = 40 ∨ R = 41 ∨ R = 42) (hm : m < 12) (hf : f < 12) (hT : ∀ a b, T a b ≤ 1000000) (hz : T m m = 0) : ∀ (r s : Nat) (x : Int32) (iv : xIv) (o6 : Option Value), s + r = 12 → x = nI s → TB iv R (mid m f s T) → (∀ iv' o5' o6', TB iv' R (mid m f 12 T) → (∀ k, k ≠ R → iv' k = iv k) → Wp L xs m_Roads_joinWays 56 [some (.ref 37), some (.ref R), some (.int (nI m)), some (.int (nI f)), some (.int (nI (T f m))), o5', o6'] [] SH RF iv' lg Q) → Wp L xs m_Roads_joinWays 24 [some (.ref 37), some (.ref R), some (.int (nI m)), some (.int (nI f)), some (.int (nI (T f m))), some (.int x), o6] [] SH RF iv lg Q
  | 0, s, x, iv, o6, h, hx, hTB, k => by
    obtain rfl : s = 12 := by omega
    subst hx
    refine wgo [24, 56] 100 ?_
    exact And.intro (fun _ => k iv _ _ hTB (fun _ _ => rfl)) (fun z => absurd (by decide) z)
  | r + 1, s, x, iv, o6, h, hx, hTB, k => by
    subst hx
    have hs : s < 12 := by omega
    have em : nI m * (12 : Int32) + nI s = nI (12 * m + s) := by rw [ni12', ni_a]
    have ef : nI f * (12 : Int32) + nI s = nI (12 * f + s) := by rw [ni12', ni_a]
    have vm : vp_in (nI m * (12 : Int32) + nI s) 144 := by rw [em]; exact vp_N (by omega)
    have vf : vp_in (nI f * (12 : Int32) + nI s) 144 := by rw [ef]; exact vp_N (by omega)
    have rm : iv R (nI m * (12 : Int32) + nI s).toNatClampNeg = nI (T m s) := by rw [em, cl, hTB m s hm hs, mid_m hz]
    have rf : iv R (nI f * (12 : Int32) + nI s).toNatClampNeg = nI (T f s) := by rw [ef, cl, hTB f s hf hs, mid_at.2]
    have b1 := hT f m
    have b2 := hT m s
    have b3 := hT f s
    have esum : nI (T f m) + iv R (nI m * (12 : Int32) + nI s).toNatClampNeg = nI (T f m + T m s) := by rw [rm, ni_a]
    have key1 : T f s ≤ T f m + T m s → ∀ o6, Wp L xs m_Roads_joinWays 24 [some (.ref 37), some (.ref R), some (.int (nI m)), some (.int (nI f)), some (.int (nI (T f m))), some (.int (nI s + 1)), o6] [] SH RF iv lg Q := fun hle o6 => by
      refine c_join_in hR hm hf hT hz r (s + 1) _ iv o6 (by omega) (nI_1 s) (hTB.cg (fun a b ha hb => ?_)) k
      by_cases e : a = f ∧ b = s
      · obtain ⟨rfl, rfl⟩ := e
        rw [mid_at.1, mid_at.2]
        unfold stF
        exact Nat.min_eq_left hle
      · exact mid_ne e
    have key2 : ¬ T f s ≤ T f m + T m s → ∀ o6, Wp L xs m_Roads_joinWays 24 [some (.ref 37), some (.ref R), some (.int (nI m)), some (.int (nI f)), some (.int (nI (T f m))), some (.int (nI s + 1)), o6] [] SH RF (xu2 iv R (nI f * (12 : Int32) + nI s).toNatClampNeg (nI (T f m) + iv R (nI m * (12 : Int32) + nI s).toNatClampNeg)) lg Q := fun hle o6 => by
      rw [esum, ef, cl]
      refine c_join_in hR hm hf hT hz r (s + 1) _ _ o6 (by omega) (nI_1 s) ((hTB.up hs).cg (fun a b ha hb => ?_)) (fun iv' o5' o6' c1 c2 => k iv' o5' o6' c1 (fun k hk => by rw [c2 k hk, xu2_ne hk]))
      unfold upT2
      by_cases e : a = f ∧ b = s
      · rw [if_pos e, e.1, e.2, mid_at.1]
        unfold stF
        exact Nat.min_eq_right (by omega)
      · rw [if_neg e]; exact mid_ne e
    have cnd : (iv R (nI f * (12 : Int32) + nI s).toNatClampNeg ≤ nI (T f m) + iv R (nI m * (12 : Int32) + nI s).toNatClampNeg) ↔ T f s ≤ T f m + T m s := by rw [esum, rf]; exact nI_leI (by omega) (by omega)
    clear k
    rcases hR with rfl | rfl | rfl | rfl
    all_goals
      refine wgo [24, 56] 100 ?_
      refine And.intro (fun z => absurd (lt12 hs) (lenl z)) (fun _ => ?_)
      refine And.intro vm ?_
      refine And.intro vf ?_
      refine And.intro (fun z => ?_) (fun z => ?_)
      · exact key1 (cnd.mp z) _
      · refine And.intro vf ?_
        exact key2 (fun w => z (cnd.mpr w)) _
set_option maxRecDepth 100000 in
theorem c_join_mid {R m : Nat} {T : Nat → Nat → Nat} (hR : R = 39 ∨ R = 40 ∨ R = 41 ∨ R = 42) (hm : m < 12) (hT : ∀ a b, T a b ≤ 1000000) (hz : T m m = 0) : ∀ (r f : Nat) (x : Int32) (iv : xIv) (o4 o5 o6 : Option Value), f + r = 12 → x = nI f → TB iv R (mid m f 0 T) → (∀ iv' o3' o4' o5' o6', TB iv' R (stF m T) → (∀ k, k ≠ R → iv' k = iv k) → Wp L xs m_Roads_joinWays 58 [some (.ref 37), some (.ref R), some (.int (nI m)), o3', o4', o5', o6'] [] SH RF iv' lg Q) → Wp L xs m_Roads_joinWays 7 [some (.ref 37), some (.ref R), some (.int (nI m)), some (.int x), o4, o5, o6] [] SH RF iv lg Q
  | 0, f, x, iv, o4, o5, o6, h, hx, hTB, k => by
    obtain rfl : f = 12 := by omega
    subst hx
    refine wgo [7, 58] 100 ?_
    exact And.intro (fun _ => k iv _ _ _ _ (hTB.cg (fun a b ha hb => by unfold mid; rw [if_pos (by omega)])) (fun _ _ => rfl)) (fun z => absurd (by decide) z)
  | r + 1, f, x, iv, o4, o5, o6, h, hx, hTB, k => by
    subst hx
    have hf : f < 12 := by omega
    have ef : nI f * (12 : Int32) + nI m = nI (12 * f + m) := by rw [ni12', ni_a]
    have vf : vp_in (nI f * (12 : Int32) + nI m) 144 := by rw [ef]; exact vp_N (by omega)
    have rf : iv R (nI f * (12 : Int32) + nI m).toNatClampNeg = nI (T f m) := by
      rw [ef, cl, hTB f m hf hm]
      unfold mid
      rw [if_neg (by omega)]
    have b1 := hT f m
    have key : ∀ (iv' : xIv) (o4' o5' o6' : Option Value), TB iv' R (mid m (f + 1) 0 T) → (∀ k, k ≠ R → iv' k = iv k) → Wp L xs m_Roads_joinWays 7 [some (.ref 37), some (.ref R), some (.int (nI m)), some (.int (nI f + 1)), o4', o5', o6'] [] SH RF iv' lg Q := fun iv' o4' o5' o6' c1 c2 => by
      exact c_join_mid hR hm hT hz r (f + 1) _ iv' o4' o5' o6' (by omega) (nI_1 f) c1 (fun iv2 o3' o4' o5' o6' d1 d2 => k iv2 o3' o4' o5' o6' d1 (fun k hk => (d2 k hk).trans (c2 k hk)))
    have key1 : ¬ T f m < 1000000 → ∀ o4' o5' o6', Wp L xs m_Roads_joinWays 7 [some (.ref 37), some (.ref R), some (.int (nI m)), some (.int (nI f + 1)), o4', o5', o6'] [] SH RF iv lg Q := fun hge o4' o5' o6' => by
      refine key iv o4' o5' o6' (hTB.cg (fun a b ha hb => ?_)) (fun _ _ => rfl)
      unfold mid
      by_cases e : a = f
      · subst e
        rw [if_pos (by omega), if_neg (by omega)]
        unfold stF
        have := hT a b
        omega
      · by_cases c : a < f
        · rw [if_pos (by omega), if_pos (by omega)]
        · rw [if_neg (by omega), if_neg (by omega)]
    have key2 : ∀ (x : Int32) (o6 : Option Value), x = nI (T f m) → Wp L xs m_Roads_joinWays 24 [some (.ref 37), some (.ref R), some (.int (nI m)), some (.int (nI f)), some (.int x), some (.int 0), o6] [] SH RF iv lg Q := fun x o6 ex => by
      subst ex
      refine c_join_in hR hm hf hT hz 12 0 _ iv o6 (by omega) rfl hTB (fun iv' o5' o6' c1 c2 => ?_)
      refine wgo [7] 100 ?_
      refine key iv' _ _ _ (c1.cg (fun a b ha hb => ?_)) c2
      unfold mid
      by_cases c : a < f ∨ (a = f ∧ b < 12)
      · rw [if_pos c, if_pos (by omega)]
      · rw [if_neg c, if_neg (by omega)]
    have cnd : (iv R (nI f * (12 : Int32) + nI m).toNatClampNeg < (1000000 : Int32)) ↔ T f m < 1000000 := by rw [rf]; exact nI_ltI (b := 1000000) (by omega) (by decide)
    clear k key
    rcases hR with rfl | rfl | rfl | rfl
    all_goals
      refine wgo [7, 24, 58] 100 ?_
      refine And.intro (fun z => absurd (lt12 hf) (lenl z)) (fun _ => ?_)
      refine And.intro vf ?_
      refine And.intro (fun z => ?_) (fun z => ?_)
      · exact key2 _ _ rf
      · exact key1 (fun w => z (cnd.mpr w)) _ _ _
set_option maxRecDepth 100000 in
theorem c_join_out {v : xIv} {kd c R : Nat} (hR : R = 39 ∨ R = 40 ∨ R = 41 ∨ R = 42) : ∀ (r m : Nat) (x : Int32) (iv : xIv) (T : Nat → Nat → Nat) (o3 o4 o5 o6 : Option Value), m + r = 12 → x = nI m → TB iv R T → SD v kd T → LY v kd c T → Tri m T → (∀ iv' T', TB iv' R T' → SD v kd T' → LY v kd c T' → Tri 12 T' → (∀ k, k ≠ R → iv' k = iv k) → Q none SH RF iv' lg) → Wp L xs m_Roads_joinWays 2 [some (.ref 37), some (.ref R), some (.int x), o3, o4, o5, o6] [] SH RF iv lg Q
  | 0, m, x, iv, T, o3, o4, o5, o6, h, hx, hTB, hS, hL, hT, k => by
    obtain rfl : m = 12 := by omega
    subst hx
    refine wgo [2, 7] 100 ?_
    exact And.intro (fun _ => k iv T hTB hS hL hT (fun _ _ => rfl)) (fun z => absurd (by decide) z)
  | r + 1, m, x, iv, T, o3, o4, o5, o6, h, hx, hTB, hS, hL, hT, k => by
    subst hx
    have hm : m < 12 := by omega
    refine wgo [2, 7] 100 ?_
    refine And.intro (fun z => absurd (lt12 hm) (lenl z)) (fun _ => ?_)
    refine c_join_mid hR hm hS.1 (hS.2.1 m hm) 12 0 _ iv _ _ _ (by omega) rfl (hTB.cg (fun a b ha hb => by unfold mid; rw [if_neg (by omega)])) (fun iv' o3' o4' o5' o6' c1 c2 => ?_)
    refine wgo [2] 100 ?_
    exact c_join_out hR r (m + 1) _ iv' (stF m T) _ _ _ _ (by omega) (nI_1 m) c1 (hS.st hm) (hL.mono stF_le) (hT.st hm hS.2.1) (fun iv2 T' d1 d2 d3 d4 d5 => k iv2 T' d1 d2 d3 d4 (fun k hk => (d5 k hk).trans (c2 k hk)))
theorem c_join {v : xIv} {kd c R : Nat} {T : Nat → Nat → Nat} (hR : R = 39 ∨ R = 40 ∨ R = 41 ∨ R = 42) (hTB : TB iv R T) (hS : SD v kd T) (hL : LY v kd c T) (k : ∀ iv' T', TB iv' R T' → SD v kd T' → LY v kd c T' → Tri 12 T' → (∀ k, k ≠ R → iv' k = iv k) → Q none SH RF iv' lg) : Sp L xs m_Roads_joinWays [.ref 37, .ref R] SH RF iv lg Q := by
  refine sgo [2] 100 ?_
  exact c_join_out hR 12 0 _ iv T _ _ _ _ (by omega) rfl hTB hS hL (fun o a b ho => absurd ho (Nat.not_lt_zero o)) k
end JOIN
