-- ===== count =====
/-- the sum of f over the first n -/
def sumN (f : Nat → Int32) : Nat → Int32
  | 0 => 0
  | n + 1 => sumN f n + f n
theorem sumN_congr {f g : Nat → Int32} : ∀ n, (∀ i, i < n → f i = g i) → sumN f n = sumN g n
  | 0, _ => rfl
  | n + 1, h => by
    show sumN f n + f n = sumN g n + g n
    rw [sumN_congr n (fun i hi => h i (by omega)), h n (by omega)]
section COUNT
variable {L : Nat} {xs : Nat → Int32} {iv : xIv} {lg : xLg} {Q : xQ} {sg : xIv} {tw : Nat → Int64} {t : Nat}
set_option maxRecDepth 100000 in
theorem s_rings_l {n : Nat} (hn : iv 8 0 = nI n) (h8 : n ≤ 8) (k : Q (some (.int (sumN (iv 11) n))) SH RF iv lg) : ∀ (r i : Nat) (x s : Int32), i + r = n → x = nI i → s = sumN (iv 11) i → Wp L xs m_People_allRings 4 [some (.ref 8), some (.int s), some (.int x)] [] SH RF iv lg Q
  | 0, i, x, s, h, hx, hs => by
    obtain rfl : i = n := by omega
    subst hx; subst hs
    refine wgo [4] 100 ?_
    exact And.intro (fun _ => k) (fun z => absurd (by rw [hn]; exact il.mpr (Int.le_refl _)) z)
  | r + 1, i, x, s, h, hx, hs => by
    subst hx; subst hs
    refine wgo [4] 100 ?_
    refine And.intro (fun z => absurd (nI_lt (show i < n by omega) (by omega)) (by rw [hn] at z; exact lenl z)) (fun _ => ?_)
    refine And.intro (vp_N (by omega)) ?_
    exact s_rings_l hn h8 k r (i + 1) _ _ (by omega) (nI_1 i) (by rw [cl]; rfl)
theorem s_rings {n : Nat} (hn : iv 8 0 = nI n) (h8 : n ≤ 8) (k : Q (some (.int (sumN (iv 11) n))) SH RF iv lg) : Sp L xs m_People_allRings [.ref 8] SH RF iv lg Q := by
  refine sgo [4] 100 ?_
  exact s_rings_l hn h8 k n 0 _ _ (by omega) rfl rfl
theorem ni64 {i : Nat} (h : i < 64) : nI i < 64 := nI_lt (b := 64) h (by decide)
set_option maxRecDepth 100000 in
theorem s_owed_l (k : Q (some (.int (sumN (iv 16) 64))) SH RF iv lg) : ∀ (r i : Nat) (x s : Int32), i + r = 64 → x = nI i → s = sumN (iv 16) i → Wp L xs m_People_allOwed 4 [some (.ref 8), some (.int s), some (.int x)] [] SH RF iv lg Q
  | 0, i, x, s, h, hx, hs => by
    obtain rfl : i = 64 := by omega
    subst hx; subst hs
    refine wgo [4] 100 ?_
    exact And.intro (fun _ => k) (fun z => absurd (by decide) z)
  | r + 1, i, x, s, h, hx, hs => by
    subst hx; subst hs
    refine wgo [4] 100 ?_
    refine And.intro (fun z => absurd (ni64 (show i < 64 by omega)) (lenl z)) (fun _ => ?_)
    refine And.intro (vp_N (by omega)) ?_
    exact s_owed_l k r (i + 1) _ _ (by omega) (nI_1 i) (by rw [cl]; rfl)
theorem s_owed (k : Q (some (.int (sumN (iv 16) 64))) SH RF iv lg) : Sp L xs m_People_allOwed [.ref 8] SH RF iv lg Q := by
  refine sgo [4] 100 ?_
  exact s_owed_l k 64 0 _ _ (by omega) rfl rfl
def opCnt (sg : xIv) (a : Int32) : Int32 := if a = 0 then sg 79 1 else if a = 1 then sg 79 3 else if a = 2 then sg 79 8 else if a = 3 then sumN (fun p => sg 81 (7 * p + 2)) (cnt (vL sg) 1) else if a = 4 then sumN (sg 82) 64 else if a = 5 then sg 79 9 else -1
set_option maxRecDepth 100000 in
theorem c_count {a : Int32} (hC : CX iv lg sg tw) (hG : GG t sg) (k : Q (some (.int (opCnt sg a))) SH RF iv lg) : Sp L xs m_SR_count [.ref 0, .int a] SH RF iv lg Q := by
  have h8 := hG.1.2.1.2
  unfold opCnt at k
  refine sgo [] 100 ?_
  refine And.intro (fun h => ?_) (fun h0 => ?_)
  · rw [if_pos h] at k
    exact qv k hC.1.1.1
  rw [if_neg h0] at k
  refine And.intro (fun h => ?_) (fun h1 => ?_)
  · rw [if_pos h] at k
    exact qv k hC.1.2.1.1
  rw [if_neg h1] at k
  refine And.intro (fun h => ?_) (fun h2 => ?_)
  · rw [if_pos h] at k
    exact qv k hC.1.2.2.1
  rw [if_neg h2] at k
  refine And.intro (fun h => ?_) (fun h3 => ?_)
  · rw [if_pos h] at k
    refine s_rings (nP_c hC hG) h8 ?_
    exact qv k (sumN_congr _ (fun i hi => (hC.rd hi).2.2.1))
  rw [if_neg h3] at k
  refine And.intro (fun h => ?_) (fun h4 => ?_)
  · rw [if_pos h] at k
    refine s_owed ?_
    exact qv k (sumN_congr _ (fun i hi => hC.1.2.1.2.2 i hi))
  rw [if_neg h4] at k
  refine And.intro (fun h => ?_) (fun h5 => ?_)
  · rw [if_pos h] at k
    exact qv k hC.1.2.2.2.2.2.2
  rw [if_neg h5] at k
  exact k
set_option maxRecDepth 100000 in
theorem m_count_2 {a R : Int32} {lv1 : Option Value} (hM : MV iv lg sg tw) (k : (a = 3 → R = sumN (fun p => sg 81 (7 * p + 2)) (cnt (vL sg) 1)) → Q (some (.int (opCnt sg a))) SH RF iv lg) (hR : R = sumN (fun p => sg 81 (7 * p + 2)) (cnt (vL sg) 1)) : ∀ (r i : Nat) (x s : Int32), i + r = 64 → x = nI i → s = sumN (iv 82) i → Wp L xs m_Mo_count 25 [some (.ref 79), some (.int a), some (.int R), some (.int s), some (.int x)] [] SH RF iv lg Q
  | 0, i, x, s, h, hx, hs => by
    obtain rfl : i = 64 := by omega
    subst hx; subst hs
    replace k := k (fun _ => hR)
    refine wgo [25] 100 ?_
    refine And.intro (fun _ => ?_) (fun z => absurd (by decide) z)
    unfold opCnt at k
    refine And.intro (fun h => ?_) (fun h0 => ?_)
    · rw [if_pos h] at k
      exact qv k hM.1.1
    rw [if_neg h0] at k
    refine And.intro (fun h => ?_) (fun h1 => ?_)
    · rw [if_pos h] at k
      exact qv k hM.1.2.1
    rw [if_neg h1] at k
    refine And.intro (fun h => ?_) (fun h2 => ?_)
    · rw [if_pos h] at k
      exact qv k hM.1.2.2.2.1
    rw [if_neg h2] at k
    refine And.intro (fun h => ?_) (fun h3 => ?_)
    · rw [if_pos h] at k
      exact qv k hR
    rw [if_neg h3] at k
    refine And.intro (fun h => ?_) (fun h4 => ?_)
    · rw [if_pos h] at k
      exact qv k (sumN_congr _ (fun i hi => congrFun hM.2.1.2.2.1 i))
    rw [if_neg h4] at k
    refine And.intro (fun h => ?_) (fun h5 => ?_)
    · rw [if_pos h] at k
      exact qv k hM.1.2.2.2.2.1
    rw [if_neg h5] at k
    exact k
  | r + 1, i, x, s, h, hx, hs => by
    subst hx; subst hs
    refine wgo [25] 100 ?_
    refine And.intro (fun z => absurd (ni64 (show i < 64 by omega)) (lenl z)) (fun _ => ?_)
    refine And.intro (vp_N (by omega)) ?_
    exact m_count_2 (lv1 := lv1) hM k hR r (i + 1) _ _ (by omega) (nI_1 i) (by rw [cl]; rfl)
set_option maxRecDepth 100000 in
theorem m_count_1 {a : Int32} {n : Nat} (hM : MV iv lg sg tw) (hn : iv 79 3 = nI n) (h8 : n ≤ 8) (k : Wp L xs m_Mo_count 25 [some (.ref 79), some (.int a), some (.int (sumN (fun p => iv 81 (7 * p + 2)) n)), some (.int 0), some (.int 0)] [] SH RF iv lg Q) : ∀ (r i : Nat) (x s : Int32), i + r = n → x = nI i → s = sumN (fun p => iv 81 (7 * p + 2)) i → Wp L xs m_Mo_count 6 [some (.ref 79), some (.int a), some (.int s), some (.int 0), some (.int x)] [] SH RF iv lg Q
  | 0, i, x, s, h, hx, hs => by
    obtain rfl : i = n := by omega
    subst hx; subst hs
    refine wgo [6, 25] 100 ?_
    exact And.intro (fun _ => k) (fun z => absurd (by rw [hn]; exact il.mpr (Int.le_refl _)) z)
  | r + 1, i, x, s, h, hx, hs => by
    subst hx; subst hs
    have e : (7 : Int32) * nI i + 2 = nI (7 * i + 2) := by rw [ni7]; exact ni_a _ 2
    refine wgo [6, 25] 100 ?_
    refine And.intro (fun z => absurd (nI_lt (show i < n by omega) (by omega)) (by rw [hn] at z; exact lenl z)) (fun _ => ?_)
    refine And.intro (by rw [e]; exact vp_N (by omega)) ?_
    exact m_count_1 hM hn h8 k r (i + 1) _ _ (by omega) (nI_1 i) (by rw [e, cl]; rfl)
set_option maxRecDepth 100000 in
theorem m_count {a : Int32} (hM : MV iv lg sg tw) (hG : GG t sg) (k : Q (some (.int (opCnt sg a))) SH RF iv lg) : Sp L xs m_Mo_count [.ref 79, .int a] SH RF iv lg Q := by
  have h8 := hG.1.2.1.2
  refine sgo [6, 25] 100 ?_
  refine m_count_1 hM (nP_m hM hG) h8 ?_ _ 0 _ _ (Nat.zero_add _) rfl rfl
  exact m_count_2 (lv1 := none) hM (fun _ => k) (sumN_congr _ (fun i hi => congrFun hM.2.1.2.1 _)) 64 0 _ _ rfl rfl rfl
theorem e_count (a : Int32) : EQ m_SR_count m_Mo_count [.int a] := by
  refine EQ.of (fun sg tw => (opCnt sg a, sg, tw)) (fun hC hG ht k => c_count hC hG (k _ _ hC refS.rfl)) (fun hM hG ht k => m_count hM hG (k _ _ hM clsS.rfl)) (fun hG ht => hG.mono (Nat.le_succ _))
end COUNT
