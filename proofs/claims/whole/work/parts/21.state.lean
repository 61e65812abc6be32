-- ===== what a state is: the reference's numbers sg, tw (by the reference's own cells), and how the class holds them =====
/-- the numbers that an image keeps: 0 counts (ways, people, errands), law, spent; 1 ways; 2 people; 3 owed; 4 given; 5 errands -/
def vL (sg : xIv) (r j : Nat) : Int32 := match r with
  | 0 => (match j with
    | 0 => sg 79 1
    | 1 => sg 79 3
    | 2 => sg 79 8
    | 3 => sg 79 6
    | _ => sg 79 9)
  | 1 => sg 80 j
  | 2 => sg 81 j
  | 3 => sg 82 j
  | 4 => sg 83 j
  | _ => sg 84 j
def vK (sg : xIv) (r j : Nat) : Int32 := match r with
  | 0 => sg 97 j
  | 1 => sg 96 j
  | 2 => sg 96 (120 + j)
  | 3 => sg 96 (176 + j)
  | 4 => sg 96 (240 + j)
  | _ => sg 96 (244 + j)
def cnt (v : xIv) (i : Nat) : Nat := (v 0 i).toNatClampNeg
/-- what a way is -/
def okW (v : xIv) (w : Nat) : Prop := isN (v 1 (5 * w)) 12 ∧ isN (v 1 (5 * w + 1)) 12 ∧ ¬ v 1 (5 * w) = v 1 (5 * w + 1) ∧ (1 ≤ v 1 (5 * w + 2) ∧ v 1 (5 * w + 2) ≤ 99) ∧ (-9 ≤ v 1 (5 * w + 3) ∧ v 1 (5 * w + 3) ≤ 9) ∧ (v 1 (5 * w + 4) = 0 ∨ v 1 (5 * w + 4) = 1)
/-- what one of people is -/
def okP (v : xIv) (p : Nat) : Prop := isN (v 2 (7 * p)) 12 ∧ isN (v 2 (7 * p + 1)) 4 ∧ (0 ≤ v 2 (7 * p + 2) ∧ v 2 (7 * p + 2) ≤ 99999) ∧ isN (v 2 (7 * p + 3)) 12
def Gv (t : Nat) (v : xIv) : Prop :=
  (v 0 0 = nI (cnt v 0) ∧ cnt v 0 ≤ 24) ∧ (v 0 1 = nI (cnt v 1) ∧ cnt v 1 ≤ 8) ∧ (v 0 2 = nI (cnt v 2) ∧ cnt v 2 ≤ 6) ∧ isN (v 0 3) 3 ∧ (0 ≤ v 0 4 ∧ v 0 4 ≤ 1000000000) ∧
  (∀ w, w < cnt v 0 → okW v w) ∧ (∀ p, p < cnt v 1 → okP v p) ∧ (∀ j, j < 64 → 0 ≤ (v 3 j).toInt ∧ (v 3 j).toInt ≤ 99999 * t) ∧ (∀ j, j < 4 → 0 ≤ v 4 j ∧ v 4 j ≤ 9999) ∧ (∀ x, x < cnt v 2 → isN (v 5 x) 12)
/-- a world of the class, from the cell w on, holds v -/
def CWy (iv : xIv) (w : Nat) (v : xIv) : Prop := iv (w + 1) 0 = v 0 0 ∧ ∀ i, i < cnt v 0 → iv (w + 2) i = v 1 (5 * i) ∧ iv (w + 3) i = v 1 (5 * i + 1) ∧ iv (w + 4) i = v 1 (5 * i + 2) ∧ iv (w + 5) i = v 1 (5 * i + 3) ∧ iv (w + 6) i = v 1 (5 * i + 4)
def CWp (iv : xIv) (w : Nat) (v : xIv) : Prop := iv (w + 7) 0 = v 0 1 ∧ (∀ p, p < cnt v 1 → iv (w + 8) p = v 2 (7 * p) ∧ iv (w + 9) p = v 2 (7 * p + 1) ∧ iv (w + 10) p = v 2 (7 * p + 2) ∧ iv (w + 11) p = v 2 (7 * p + 3) ∧ iv (w + 12) p = v 2 (7 * p + 4) ∧ iv (w + 13) p = v 2 (7 * p + 5) ∧ iv (w + 14) p = v 2 (7 * p + 6)) ∧ ∀ j, j < 64 → iv (w + 15) j = v 3 j
def CWo (iv : xIv) (w : Nat) (v : xIv) : Prop := iv w 2 = v 0 2 ∧ (∀ x, x < cnt v 2 → iv (w + 16) x = v 5 x) ∧ (∀ j, j < 4 → iv (w + 17) j = v 4 j) ∧ iv w 5 = v 0 3 ∧ iv w 6 = v 0 4
def CW (iv : xIv) (w : Nat) (v : xIv) : Prop := CWy iv w v ∧ CWp iv w v ∧ CWo iv w v
-- costs and distances
def wcost (v : xIv) (k w d : Nat) : Nat :=
  let len := (v 1 (5 * w + 2)).toInt
  let up := if d = 0 then (v 1 (5 * w + 3)).toInt else - (v 1 (5 * w + 3)).toInt
  let grown := if up > 0 then len + 3 * up else len
  let old := if up > 0 then grown + len / 2 else grown
  (match k with
  | 0 => grown
  | 1 => 2 * grown
  | 2 => old
  | _ => if old < 4 then 1 else old / 2).toNat
/-- a walk of n ways from a to b for c steps -/
def Wk (v : xIv) (k : Nat) : Nat → Nat → Nat → Nat → Prop
  | 0, a, b, c => a = b ∧ c = 0
  | n + 1, a, b, c => ∃ w d a' c', w < cnt v 0 ∧ d < 2 ∧ v 1 (5 * w + d) = nI a ∧ v 1 (5 * w + (1 - d)) = nI a' ∧ a' < 12 ∧ Wk v k n a' b c' ∧ c = wcost v k w d + c'
def isD (v : xIv) (k a b : Nat) (o : Option Nat) : Prop := match o with
  | some c => (∃ n, Wk v k n a b c) ∧ ∀ n c', Wk v k n a b c' → c ≤ c'
  | none => ∀ n c', ¬ Wk v k n a b c'
theorem isD_ex (v : xIv) (k a b : Nat) : ∃ o, isD v k a b o := by
  by_cases h : ∃ c n, Wk v k n a b c
  · obtain ⟨c, ⟨n, hn⟩, hc⟩ := pk_least (fun c => ∃ n, Wk v k n a b c) h
    refine ⟨some c, ⟨n, hn⟩, fun n' c' h' => ?_⟩
    by_cases hlt : c' < c
    · exact absurd ⟨n', h'⟩ (hc c' hlt)
    · omega
  · exact ⟨none, fun n c' h' => h ⟨c', n, h'⟩⟩
theorem isD_uniq {v : xIv} {k a b : Nat} {o o' : Option Nat} (h : isD v k a b o) (h' : isD v k a b o') : o = o' := by
  match o, o', h, h' with
  | none, none, _, _ => rfl
  | some c, none, h, h' => exact absurd h.1.choose_spec (h' _ _)
  | none, some c, h, h' => exact absurd h'.1.choose_spec (h _ _)
  | some c, some c', h, h' =>
    obtain ⟨⟨n, hn⟩, h2⟩ := h
    obtain ⟨⟨n', hn'⟩, h2'⟩ := h'
    have := h2 n' c' hn'
    have := h2' n c hn
    congr 1
    omega
noncomputable def dst (v : xIv) (k a b : Nat) : Option Nat := Classical.choose (isD_ex v k a b)
theorem dst_is (v : xIv) (k a b : Nat) : isD v k a b (dst v k a b) := Classical.choose_spec (isD_ex v k a b)
theorem dst_eq {v : xIv} {k a b : Nat} {o : Option Nat} (h : isD v k a b o) : dst v k a b = o := isD_uniq (dst_is v k a b) h
/-- a distance as a number: inf where there is none -/
def enc (inf : Nat) (o : Option Nat) : Int32 := nI (o.getD inf)
/-- only the ways count -/
theorem Wk_congr {v v' : xIv} {k : Nat} (h0 : v' 0 0 = v 0 0) (h1 : ∀ w f, w < cnt v 0 → f < 4 → v' 1 (5 * w + f) = v 1 (5 * w + f)) : ∀ n a b c, Wk v k n a b c → Wk v' k n a b c
  | 0, _, _, _, h => h
  | n + 1, a, b, c, ⟨w, d, a', c', h2, h3, h4, h5, h6, h7, h8⟩ => by
    have e0 : cnt v' 0 = cnt v 0 := by unfold cnt; rw [h0]
    have e1 : wcost v' k w d = wcost v k w d := by
      unfold wcost
      rw [h1 w 2 h2 (by decide), h1 w 3 h2 (by decide)]
    exact ⟨w, d, a', c', by rw [e0]; exact h2, h3, by rw [h1 w d h2 (by omega)]; exact h4, by rw [h1 w (1 - d) h2 (by omega)]; exact h5, h6, Wk_congr h0 h1 n a' b c' h7, by rw [e1]; exact h8⟩
theorem dst_congr {v v' : xIv} {k a b : Nat} (h0 : v' 0 0 = v 0 0) (h1 : ∀ w f, w < cnt v 0 → f < 4 → v' 1 (5 * w + f) = v 1 (5 * w + f)) : dst v' k a b = dst v k a b := by
  have e0 : cnt v' 0 = cnt v 0 := by unfold cnt; rw [h0]
  have g1 : ∀ n c, Wk v k n a b c → Wk v' k n a b c := fun n c => Wk_congr h0 h1 n a b c
  have g2 : ∀ n c, Wk v' k n a b c → Wk v k n a b c := fun n c => Wk_congr h0.symm (fun w f hw hf => (h1 w f (by rw [e0] at hw; exact hw) hf).symm) n a b c
  refine dst_eq ?_
  have h := dst_is v k a b
  cases hd : dst v k a b with
  | none => rw [hd] at h; exact fun n c' h' => h n c' (g2 n c' h')
  | some c =>
    rw [hd] at h
    obtain ⟨⟨n, hn⟩, h2⟩ := h
    exact ⟨⟨n, g1 n c hn⟩, fun n c' h' => h2 n c' (g2 n c' h')⟩
/-- a table of the class -/
def DT (v : xIv) (k : Nat) (row : Nat → Int32) : Prop := ∀ a b, a < 12 → b < 12 → row (12 * a + b) = enc 1000000 (dst v k a b)
def RD (iv : xIv) (v : xIv) : Prop := ∃ kn, kn < 16 ∧ iv 37 2 = nI kn ∧ ∀ k, k < 4 → kn.testBit k = true → DT v k (iv (39 + k))
def TP (iv : xIv) (sg : xIv) : Prop := ∃ n, n ≤ 160 ∧ iv 53 1 = nI n ∧ sg 79 12 = nI n ∧ (∀ j, j < n → iv 54 j = sg 86 j ∧ 32 ≤ (sg 86 j).toInt ∧ (sg 86 j).toInt ≤ 126) ∧ ∀ j, j < 64 → iv 69 j = 0
/-- a sheet: cells 71 + 2 s, 72 + 2 s -/
def ST (iv : xIv) (lg : xLg) (sg : xIv) (tw : Nat → Int64) : Prop := ∀ s, s < 4 → ((sg 98 s = -1 ∧ iv (71 + 2 * s) 0 = 0) ∨ (isN (sg 98 s) 3 ∧ iv (71 + 2 * s) 0 = 1 ∧ iv (71 + 2 * s) 1 = sg 98 s)) ∧ iv (71 + 2 * s) 2 = sg 99 s ∧ (∃ n, n ≤ 24 ∧ sg 99 s = nI n) ∧ ∀ i, i < 24 → lg (72 + 2 * s) i = tw (24 * s + i)
def CX (iv : xIv) (lg : xLg) (sg : xIv) (tw : Nat → Int64) : Prop := CW iv 1 (vL sg) ∧ (iv 0 2 = sg 79 24 ∧ (sg 79 24 = 0 ∨ sg 79 24 = 1) ∧ (sg 79 24 = 1 → CW iv 19 (vK sg))) ∧ RD iv (vL sg) ∧ TP iv sg ∧ ST iv lg sg tw
def MV (iv : xIv) (lg : xLg) (sg : xIv) (tw : Nat → Int64) : Prop := (iv 79 1 = sg 79 1 ∧ iv 79 3 = sg 79 3 ∧ iv 79 6 = sg 79 6 ∧ iv 79 8 = sg 79 8 ∧ iv 79 9 = sg 79 9 ∧ iv 79 12 = sg 79 12 ∧ iv 79 24 = sg 79 24) ∧ (iv 80 = sg 80 ∧ iv 81 = sg 81 ∧ iv 82 = sg 82 ∧ iv 83 = sg 83 ∧ iv 84 = sg 84 ∧ iv 86 = sg 86 ∧ iv 96 = sg 96 ∧ iv 97 = sg 97 ∧ iv 98 = sg 98 ∧ iv 99 = sg 99) ∧ lg 100 = tw
def GG (t : Nat) (sg : xIv) : Prop := Gv t (vL sg) ∧ (sg 79 24 = 1 → Gv t (vK sg))
def refS (iv' : xIv) (lg' : xLg) (iv : xIv) (lg : xLg) : Prop := (∀ k, 79 ≤ k → iv' k = iv k) ∧ ∀ k, 79 ≤ k → lg' k = lg k
def clsS (iv' : xIv) (lg' : xLg) (iv : xIv) (lg : xLg) : Prop := (∀ k, k < 79 → iv' k = iv k) ∧ ∀ k, k < 79 → lg' k = lg k
/-- what holds between the law's turns -/
def INV (t : Nat) (iv : xIv) (lg : xLg) : Prop := ∃ sg tw, CX iv lg sg tw ∧ MV iv lg sg tw ∧ GG t sg
theorem refS.rfl {iv : xIv} {lg : xLg} : refS iv lg iv lg := ⟨fun _ _ => Eq.refl _, fun _ _ => Eq.refl _⟩
theorem clsS.rfl {iv : xIv} {lg : xLg} : clsS iv lg iv lg := ⟨fun _ _ => Eq.refl _, fun _ _ => Eq.refl _⟩
theorem CW_congr {iv iv' : xIv} {w : Nat} {v : xIv} (h : ∀ i, i < 18 → iv' (w + i) = iv (w + i)) (hC : CW iv w v) : CW iv' w v := by
  have h0 : iv' w = iv w := h 0 (by decide)
  unfold CW CWy CWp CWo at hC ⊢
  rw [h0, h 1 (by decide), h 2 (by decide), h 3 (by decide), h 4 (by decide), h 5 (by decide), h 6 (by decide), h 7 (by decide), h 8 (by decide), h 9 (by decide), h 10 (by decide), h 11 (by decide), h 12 (by decide), h 13 (by decide), h 14 (by decide), h 15 (by decide), h 16 (by decide), h 17 (by decide)]
  exact hC
theorem RD_congr {iv iv' : xIv} {v : xIv} (h : ∀ k, 37 ≤ k → k < 43 → iv' k = iv k) (hC : RD iv v) : RD iv' v := by
  obtain ⟨kn, h1, h2, h3⟩ := hC
  exact ⟨kn, h1, by rw [h 37 (by decide) (by decide)]; exact h2, fun k hk hb => by rw [h (39 + k) (by omega) (by omega)]; exact h3 k hk hb⟩
theorem ST_congr {iv iv' : xIv} {lg lg' : xLg} {sg : xIv} {tw : Nat → Int64} (h : ∀ k, 71 ≤ k → k < 79 → iv' k = iv k) (h2 : ∀ k, 71 ≤ k → k < 79 → lg' k = lg k) (hC : ST iv lg sg tw) : ST iv' lg' sg tw := by
  intro s hs
  rw [h (71 + 2 * s) (by omega) (by omega), h2 (72 + 2 * s) (by omega) (by omega)]
  exact hC s hs
theorem CX_congr {iv iv' : xIv} {lg lg' : xLg} {sg : xIv} {tw : Nat → Int64} (h : clsS iv' lg' iv lg) (hC : CX iv lg sg tw) : CX iv' lg' sg tw := by
  obtain ⟨h1, ⟨h2, h3, h4⟩, h5, h6, h7⟩ := hC
  obtain ⟨g1, g2⟩ := h
  refine ⟨CW_congr (fun i hi => g1 _ (by omega)) h1, ⟨by rw [g1 0 (by decide)]; exact h2, h3, fun z => CW_congr (fun i hi => g1 _ (by omega)) (h4 z)⟩, RD_congr (fun k _ hk => g1 k (by omega)) h5, ?_, ST_congr (fun k _ hk => g1 k hk) (fun k _ hk => g2 k hk) h7⟩
  unfold TP at h6 ⊢
  rw [g1 53 (by decide), g1 54 (by decide), g1 69 (by decide)]
  exact h6
theorem MV_congr {iv iv' : xIv} {lg lg' : xLg} {sg : xIv} {tw : Nat → Int64} (h : refS iv' lg' iv lg) (hC : MV iv lg sg tw) : MV iv' lg' sg tw := by
  obtain ⟨g1, g2⟩ := h
  unfold MV at hC ⊢
  rw [g1 79 (by decide), g1 80 (by decide), g1 81 (by decide), g1 82 (by decide), g1 83 (by decide), g1 84 (by decide), g1 86 (by decide), g1 96 (by decide), g1 97 (by decide), g1 98 (by decide), g1 99 (by decide), g2 100 (by decide)]
  exact hC
