-- ===== walks =====
section WALKS
variable {v : xIv} {k : Nat}
theorem Wk_app : ∀ (n m a o b c1 c2 : Nat), Wk v k n a o c1 → Wk v k m o b c2 → Wk v k (n + m) a b (c1 + c2)
  | 0, m, a, o, b, c1, c2, h1, h2 => by
    obtain ⟨rfl, rfl⟩ := h1
    rw [Nat.zero_add, Nat.zero_add]
    exact h2
  | n + 1, m, a, o, b, c1, c2, ⟨w, d, a', c', g1, g2, g3, g4, g5, g6, g7⟩, h2 => by
    rw [show n + 1 + m = (n + m) + 1 by omega]
    exact ⟨w, d, a', c' + c2, g1, g2, g3, g4, g5, Wk_app n m a' o b c' c2 g6 h2, by omega⟩
theorem Wk_one {w d a b : Nat} (hw : w < cnt v 0) (hd : d < 2) (ha : v 1 (5 * w + d) = nI a) (hb : v 1 (5 * w + (1 - d)) = nI b) (h12 : b < 12) : Wk v k 1 a b (wcost v k w d) := ⟨w, d, b, 0, hw, hd, ha, hb, h12, ⟨rfl, rfl⟩, rfl⟩
/-- a walk by the places on it -/
def PW (v : xIv) (k : Nat) : List Nat → Nat → Nat → Prop
  | [], _, _ => False
  | [x], b, c => x = b ∧ c = 0
  | x :: y :: l, b, c => ∃ w d c', w < cnt v 0 ∧ d < 2 ∧ v 1 (5 * w + d) = nI x ∧ v 1 (5 * w + (1 - d)) = nI y ∧ PW v k (y :: l) b c' ∧ c = wcost v k w d + c'
theorem PW_suf : ∀ (l : List Nat) (b c x : Nat), PW v k l b c → x ∈ l → ∃ s c', PW v k (x :: s) b c' ∧ c' ≤ c ∧ List.Sublist (x :: s) l
  | [], b, c, x, h, _ => h.elim
  | [y], b, c, x, h, hx => by
    have e : x = y := by simpa using hx
    subst e
    exact ⟨[], c, h, Nat.le_refl c, List.Sublist.refl _⟩
  | y :: z :: l, b, c, x, h, hx => by
    by_cases e : x = y
    · subst e
      exact ⟨z :: l, c, h, Nat.le_refl c, List.Sublist.refl _⟩
    · obtain ⟨w, d, c', g1, g2, g3, g4, g5, g6⟩ := h
      have hx2 : x ∈ z :: l := by
        rcases List.mem_cons.mp hx with h | h
        · exact absurd h e
        · exact h
      obtain ⟨s, c2, s1, s2, s3⟩ := PW_suf (z :: l) b c' x g5 hx2
      exact ⟨s, c2, s1, by omega, s3.trans (List.sublist_cons_self _ _)⟩
theorem Wk_PW : ∀ (n a b c : Nat), a < 12 → Wk v k n a b c → ∃ s c', PW v k (a :: s) b c' ∧ c' ≤ c ∧ (a :: s).Nodup ∧ ∀ x, x ∈ a :: s → x < 12
  | 0, a, b, c, ha, h => ⟨[], c, h, Nat.le_refl c, by simp, fun x hx => by simp at hx; omega⟩
  | n + 1, a, b, c, ha, ⟨w, d, a', c', g1, g2, g3, g4, g5, g6, g7⟩ => by
    obtain ⟨s, c2, s1, s2, s3, s4⟩ := Wk_PW n a' b c' g5 g6
    by_cases e : a ∈ a' :: s
    · obtain ⟨s', c3, t1, t2, t3⟩ := PW_suf (a' :: s) b c2 a s1 e
      exact ⟨s', c3, t1, by omega, s3.sublist t3, fun x hx => s4 x (t3.subset hx)⟩
    · refine ⟨a' :: s, wcost v k w d + c2, ⟨w, d, c2, g1, g2, g3, g4, s1, rfl⟩, by omega, List.nodup_cons.mpr ⟨e, s3⟩, fun x hx => ?_⟩
      rcases List.mem_cons.mp hx with h | h
      · rw [h]; exact ha
      · exact s4 x h
theorem PW_len (hw : ∀ w, w < cnt v 0 → okW v w) : ∀ (s : List Nat) (a b c : Nat), PW v k (a :: s) b c → c ≤ 252 * s.length
  | [], a, b, c, h => by rw [h.2]; exact Nat.zero_le _
  | y :: l, a, b, c, ⟨w, d, c', g1, g2, g3, g4, g5, g6⟩ => by
    have h1 := PW_len hw l y b c' g5
    have h2 := (wcost_bd (k := k) (d := d) (hw w g1)).2
    simp only [List.length_cons]
    omega
theorem PW_Wk : ∀ (s : List Nat) (a b c : Nat), (∀ x, x ∈ a :: s → x < 12) → PW v k (a :: s) b c → Wk v k s.length a b c
  | [], a, b, c, _, h => h
  | y :: l, a, b, c, hx, ⟨w, d, c', g1, g2, g3, g4, g5, g6⟩ =>
    ⟨w, d, y, c', g1, g2, g3, g4, hx y (by simp), PW_Wk l y b c' (fun x h => hx x (List.mem_cons_of_mem _ h)) g5, g6⟩
/-- the least of walks is short -/
theorem Wk_short (hw : ∀ w, w < cnt v 0 → okW v w) {n a b c : Nat} (ha : a < 12) (h : Wk v k n a b c) : ∃ n' c', Wk v k n' a b c' ∧ c' ≤ c ∧ c' ≤ 2772 ∧ n' ≤ 11 := by
  obtain ⟨s, c', h1, h2, h3, h4⟩ := Wk_PW n a b c ha h
  have hl : (a :: s).length ≤ (List.range 12).length := List.Nodup.length_le_of_subset h3 (fun x hx => List.mem_range.mpr (h4 x hx))
  rw [List.length_range, List.length_cons] at hl
  have := PW_len hw s a b c' h1
  exact ⟨s.length, c', PW_Wk s a b c' h4 h1, h2, by omega, by omega⟩
theorem dst_bd (hw : ∀ w, w < cnt v 0 → okW v w) {a b c : Nat} (ha : a < 12) (h : dst v k a b = some c) : c ≤ 2772 := by
  have hd := dst_is v k a b
  rw [h] at hd
  obtain ⟨⟨n, hn⟩, h2⟩ := hd
  obtain ⟨n', c', g1, g2, g3, -⟩ := Wk_short hw ha hn
  have := h2 n' c' g1
  omega
/-- a number that is a distance -/
theorem dst_of (hw : ∀ w, w < cnt v 0 → okW v w) {a b inf T : Nat} (ha : a < 12) (hi : 2772 < inf) (hT : T ≤ inf) (h1 : T < inf → ∃ n, Wk v k n a b T) (h2 : ∀ n c, Wk v k n a b c → T ≤ c) : (dst v k a b).getD inf = T := by
  have hd := dst_is v k a b
  cases e : dst v k a b with
  | none =>
    rw [e] at hd
    show inf = T
    by_cases h : T < inf
    · obtain ⟨n, hn⟩ := h1 h
      exact absurd hn (hd n T)
    · omega
  | some c =>
    have hc := dst_bd hw ha e
    rw [e] at hd
    obtain ⟨⟨n, hn⟩, h3⟩ := hd
    have h4 := h2 n c hn
    obtain ⟨m, hm⟩ := h1 (by omega)
    have := h3 m T hm
    show c = T
    omega
theorem dst_tri {a b : Nat} {w d a' c' : Nat} (hw : w < cnt v 0) (hd : d < 2) (ha : v 1 (5 * w + d) = nI a) (hb : v 1 (5 * w + (1 - d)) = nI a') (h12 : a' < 12) (h : dst v k a' b = some c') : ∃ c, dst v k a b = some c ∧ c ≤ wcost v k w d + c' := by
  have h1 := dst_is v k a' b
  rw [h] at h1
  obtain ⟨⟨n, hn⟩, -⟩ := h1
  have h2 : Wk v k (n + 1) a b (wcost v k w d + c') := ⟨w, d, a', c', hw, hd, ha, hb, h12, hn, rfl⟩
  have h3 := dst_is v k a b
  cases e : dst v k a b with
  | none => rw [e] at h3; exact absurd h2 (h3 _ _)
  | some c => rw [e] at h3; exact ⟨c, rfl, h3.2 _ _ h2⟩
/-- from elsewhere a first way leads on -/
theorem dst_step {a b c : Nat} (hab : a ≠ b) (h : dst v k a b = some c) : ∃ w d a' c', w < cnt v 0 ∧ d < 2 ∧ v 1 (5 * w + d) = nI a ∧ v 1 (5 * w + (1 - d)) = nI a' ∧ a' < 12 ∧ dst v k a' b = some c' ∧ c = wcost v k w d + c' := by
  have h1 := dst_is v k a b
  rw [h] at h1
  obtain ⟨⟨n, hn⟩, h2⟩ := h1
  match n, hn with
  | 0, hn => exact absurd hn.1 hab
  | n + 1, ⟨w, d, a', c', g1, g2, g3, g4, g5, g6, g7⟩ =>
    have h3 := dst_is v k a' b
    cases e : dst v k a' b with
    | none => rw [e] at h3; exact absurd g6 (h3 _ _)
    | some c2 =>
      obtain ⟨c3, e3, h4⟩ := dst_tri (k := k) (b := b) g1 g2 g3 g4 g5 e
      rw [h] at e3
      cases e3
      rw [e] at h3
      have := h3.2 n c' g6
      exact ⟨w, d, a', c2, g1, g2, g3, g4, g5, e, by omega⟩
theorem dst_self {a : Nat} : dst v k a a = some 0 := by
  refine dst_eq ⟨⟨0, rfl, rfl⟩, fun n c' _ => Nat.zero_le _⟩
end WALKS
-- ===== tables =====
section TABLE
variable {v : xIv} {k : Nat}
/-- a table no entry of which is too small -/
def SD (v : xIv) (k : Nat) (T : Nat → Nat → Nat) : Prop := (∀ a b, T a b ≤ 1000000) ∧ (∀ a, a < 12 → T a a = 0) ∧ (∀ a b, a < 12 → b < 12 → T a b < 1000000 → ∃ n, Wk v k n a b (T a b))
def LY (v : xIv) (k m : Nat) (T : Nat → Nat → Nat) : Prop := ∀ w d a b, w < m → d < 2 → a < 12 → b < 12 → v 1 (5 * w + d) = nI a → v 1 (5 * w + (1 - d)) = nI b → T a b ≤ wcost v k w d
def upT2 (T : Nat → Nat → Nat) (a b x : Nat) : Nat → Nat → Nat := fun p q => if p = a ∧ q = b then x else T p q
theorem upT2_le {T : Nat → Nat → Nat} {a b x : Nat} (h : x ≤ T a b) : ∀ p q, upT2 T a b x p q ≤ T p q := fun p q => by
  unfold upT2
  split
  · rename_i e; rw [e.1, e.2]; exact h
  · exact Nat.le_refl _
theorem SD.up {T : Nat → Nat → Nat} (h : SD v k T) {a b c : Nat} (hab : a ≠ b) (hc : ∃ n, Wk v k n a b c) : SD v k (upT2 T a b (min (T a b) c)) := by
  obtain ⟨h1, h2, h3⟩ := h
  refine ⟨fun p q => Nat.le_trans (upT2_le (Nat.min_le_left _ _) p q) (h1 p q), fun p hp => ?_, fun p q hp hq hlt => ?_⟩
  · unfold upT2
    rw [if_neg (fun z => hab (z.1.symm.trans z.2))]
    exact h2 p hp
  · unfold upT2 at hlt ⊢
    by_cases e : p = a ∧ q = b
    · rw [if_pos e] at hlt ⊢
      obtain ⟨rfl, rfl⟩ := e
      by_cases h5 : T p q ≤ c
      · rw [Nat.min_eq_left h5] at hlt ⊢
        exact h3 p q hp hq hlt
      · rw [Nat.min_eq_right (by omega)]
        exact hc
    · rw [if_neg e] at hlt ⊢
      exact h3 p q hp hq hlt
theorem LY.mono {T T' : Nat → Nat → Nat} {m : Nat} (h : LY v k m T) (hT : ∀ p q, T' p q ≤ T p q) : LY v k m T' := fun w d a b h1 h2 h3 h4 h5 h6 => Nat.le_trans (hT a b) (h w d a b h1 h2 h3 h4 h5 h6)
/-- one stage of the join -/
def stF (m : Nat) (T : Nat → Nat → Nat) (a b : Nat) : Nat := min (T a b) (T a m + T m b)
def Tri (m : Nat) (T : Nat → Nat → Nat) : Prop := ∀ o a b, o < m → a < 12 → b < 12 → T a b ≤ T a o + T o b
theorem SD.st {T : Nat → Nat → Nat} {m : Nat} (h : SD v k T) (hm : m < 12) : SD v k (stF m T) := by
  obtain ⟨h1, h2, h3⟩ := h
  refine ⟨fun p q => Nat.le_trans (Nat.min_le_left _ _) (h1 p q), fun p hp => ?_, fun p q hp hq hlt => ?_⟩
  · unfold stF
    rw [h2 p hp]
    exact Nat.zero_min _
  · unfold stF at hlt ⊢
    by_cases h5 : T p q ≤ T p m + T m q
    · rw [Nat.min_eq_left h5] at hlt ⊢
      exact h3 p q hp hq hlt
    · rw [Nat.min_eq_right (by omega)] at hlt ⊢
      obtain ⟨n1, g1⟩ := h3 p m hp hm (by omega)
      obtain ⟨n2, g2⟩ := h3 m q hm hq (by omega)
      exact ⟨_, Wk_app n1 n2 p m q _ _ g1 g2⟩
theorem Tri.st {T : Nat → Nat → Nat} {m : Nat} (hm : m < 12) (h0 : ∀ a, a < 12 → T a a = 0) (h : Tri m T) : Tri (m + 1) (stF m T) := by
  intro o a b ho ha hb
  have le : ∀ p q, stF m T p q = T p q ∨ stF m T p q = T p m + T m q := fun p q => by unfold stF; omega
  have l1 : stF m T a b ≤ T a b := Nat.min_le_left _ _
  have l2 : stF m T a b ≤ T a m + T m b := Nat.min_le_right _ _
  have hz := h0 m hm
  by_cases e : o = m
  · subst e
    rcases le a o with e1 | e1 <;> rcases le o b with e2 | e2 <;> rw [e1, e2] <;> omega
  · have t1 := h o a b (by omega) ha hb
    have t2 := h o m b (by omega) hm hb
    have t3 := h o a m (by omega) ha hm
    rcases le a o with e1 | e1 <;> rcases le o b with e2 | e2 <;> rw [e1, e2] <;> omega
theorem stF_le {T : Nat → Nat → Nat} {m : Nat} : ∀ p q, stF m T p q ≤ T p q := fun p q => Nat.min_le_left _ _
/-- a joined table holds the distances -/
theorem joined {T : Nat → Nat → Nat} (hw : ∀ w, w < cnt v 0 → okW v w) (h : SD v k T) (hL : LY v k (cnt v 0) T) (hT : Tri 12 T) {a b : Nat} (ha : a < 12) (hb : b < 12) : nI (T a b) = enc 1000000 (dst v k a b) := by
  have low : ∀ n a c, a < 12 → Wk v k n a b c → T a b ≤ c := by
    intro n
    induction n with
    | zero => intro a c ha hW; obtain ⟨rfl, rfl⟩ := hW; rw [h.2.1 a ha]; exact Nat.le_refl 0
    | succ n ih =>
      intro a c ha ⟨w, d, a', c', g1, g2, g3, g4, g5, g6, g7⟩
      have e1 := hL w d a a' g1 g2 ha g5 g3 g4
      have e2 := ih a' c' g5 g6
      have e3 := hT a' a b g5 ha hb
      omega
  unfold enc
  rw [dst_of hw ha (by decide) (h.1 a b) (h.2.2 a b ha hb) (fun n c => low n a c ha)]
end TABLE
