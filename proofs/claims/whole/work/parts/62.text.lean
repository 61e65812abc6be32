-- ===== texts: the account =====
def skF (T : Nat → Nat) (n : Nat) : Nat → Nat → Nat
  | 0, p => p
  | r + 1, p => if p < n ∧ T p = 32 then skF T n r (p + 1) else p
def sk (T : Nat → Nat) (n p : Nat) : Nat := skF T n 161 p
def lkv (T : Nat → Nat) (n q : Nat) : Int32 := if q < n then nI (T q) else -1
theorem skF_stop {T : Nat → Nat} {n p : Nat} (h : ¬ (p < n ∧ T p = 32)) : ∀ r, skF T n r p = p
  | 0 => rfl
  | r + 1 => if_neg h
theorem skF_is {T : Nat → Nat} {n : Nat} : ∀ (r p : Nat), p ≤ n → n < p + r → skF T n r p ≤ n ∧ ¬ (skF T n r p < n ∧ T (skF T n r p) = 32)
  | 0, p, h1, h2 => by omega
  | r + 1, p, h1, h2 => by
    by_cases c : p < n ∧ T p = 32
    · rw [show skF T n (r + 1) p = skF T n r (p + 1) from if_pos c]
      exact skF_is r (p + 1) (by omega) (by omega)
    · rw [show skF T n (r + 1) p = p from if_neg c]
      exact ⟨h1, c⟩
theorem sk_le {T : Nat → Nat} {n p : Nat} (hn : n ≤ 160) (hp : p ≤ n) : sk T n p ≤ n := (skF_is 161 p hp (by omega)).1
theorem sk_sk {T : Nat → Nat} {n p : Nat} (hn : n ≤ 160) (hp : p ≤ n) : sk T n (sk T n p) = sk T n p := skF_stop (skF_is 161 p hp (by omega)).2 161
/-- a place that is not the one told -/
def rdP (T : Nat → Nat) (n no p : Nat) : Option Nat × Nat := if sk T n p < n ∧ (97 ≤ T (sk T n p) ∧ T (sk T n p) ≤ 108) ∧ T (sk T n p) - 97 ≠ no then (some (T (sk T n p) - 97), sk T n p + 1) else (none, sk T n p)
def rdD (T : Nat → Nat) (n p : Nat) : Option Nat × Nat := if sk T n p < n ∧ 48 ≤ T (sk T n p) ∧ T (sk T n p) ≤ 57 then (some (T (sk T n p) - 48), sk T n p + 1) else (none, sk T n p)
def nmF (T : Nat → Nat) (n : Nat) : Nat → Nat → Nat → Nat × Nat
  | 0, p, v => (p, v)
  | r + 1, p, v => if p < n ∧ 48 ≤ T p ∧ T p ≤ 57 then nmF T n r (p + 1) (10 * v + (T p - 48)) else (p, v)
def rdN (T : Nat → Nat) (n lo hi p : Nat) : Option Nat × Nat :=
  if sk T n p < n ∧ 48 ≤ T (sk T n p) ∧ T (sk T n p) ≤ 57 then (if lo ≤ (nmF T n 161 (sk T n p) 0).2 ∧ (nmF T n 161 (sk T n p) 0).2 ≤ hi then (some (nmF T n 161 (sk T n p) 0).2, (nmF T n 161 (sk T n p) 0).1) else (none, sk T n p)) else (none, sk T n p)
def rdS (T : Nat → Nat) (n p : Nat) : Option Int32 × Nat :=
  if sk T n p < n ∧ T (sk T n p) = 43 then (match rdD T n (sk T n p + 1) with
    | (some d, q) => (some (nI d), q)
    | (none, q) => (none, q))
  else if sk T n p < n ∧ T (sk T n p) = 45 then (match rdD T n (sk T n p + 1) with
    | (some d, q) => (some (- nI d), q)
    | (none, q) => (none, q))
  else (some 0, sk T n p)
abbrev wI : Type := Nat × Nat × Nat × Int32 × Nat
def prW (T : Nat → Nat) (n p : Nat) : Option wI × Nat := match rdP T n 99 p with
  | (none, q) => (none, q)
  | (some f, p1) => match rdS T n p1 with
    | (none, q) => (none, q)
    | (some sl, p3) => match rdP T n f p3 with
      | (none, q) => (none, q)
      | (some t, p4) => match rdN T n 1 99 p4 with
        | (none, q) => (none, q)
        | (some len, p5) => if sk T n p5 < n ∧ T (sk T n p5) = 103 then (some (f, t, len, sl, 1), sk T n p5 + 1) else (some (f, t, len, sl, 0), sk T n p5)
def rdK (T : Nat → Nat) (n p : Nat) : Option Nat × Nat :=
  if sk T n p < n ∧ T (sk T n p) = 103 then (some 0, sk T n p + 1)
  else if sk T n p < n ∧ T (sk T n p) = 99 then (some 1, sk T n p + 1)
  else if sk T n p < n ∧ T (sk T n p) = 111 then (some 2, sk T n p + 1)
  else if sk T n p < n ∧ T (sk T n p) = 112 then (some 3, sk T n p + 1)
  else (none, sk T n p)
abbrev pI : Type := Nat × Nat × Nat
def prP (T : Nat → Nat) (n p : Nat) : Option pI × Nat := match rdP T n 99 p with
  | (none, q) => (none, q)
  | (some f, p1) => match rdK T n p1 with
    | (none, q) => (none, q)
    | (some kd, p2) => match rdN T n 0 99999 p2 with
      | (none, q) => (none, q)
      | (some r, p3) => (some (f, kd, r), p3)
def upA {α : Type} (a : Nat → α) (m : Nat) (x : α) : Nat → α := fun i => if i = m then x else a i
/-- rows of items, apart by commas -/
def prR {α : Type} (W : Nat → Option α × Nat) (T : Nat → Nat) (n : Nat) : Nat → Nat → Nat → (Nat → α) → Option (Nat × (Nat → α)) × Nat
  | 0, p, _, _ => (none, p)
  | r + 1, p, m, a => match W p with
    | (none, q) => (none, q)
    | (some x, q) => if sk T n q < n then (if r = 0 ∨ T (sk T n q) ≠ 44 then (none, sk T n q) else prR W T n r (sk T n q + 1) (m + 1) (upA a m x)) else (some (m + 1, upA a m x), sk T n q)
section TXT
variable {T : Nat → Nat} {n : Nat}
theorem nmF_le (hn : n ≤ 160) : ∀ (r p v : Nat), p ≤ n → (nmF T n r p v).1 ≤ n ∧ p ≤ (nmF T n r p v).1
  | 0, p, v, hp => ⟨hp, Nat.le_refl _⟩
  | r + 1, p, v, hp => by
    by_cases c : p < n ∧ 48 ≤ T p ∧ T p ≤ 57
    · rw [show nmF T n (r + 1) p v = nmF T n r (p + 1) (10 * v + (T p - 48)) from if_pos c]
      have := nmF_le hn r (p + 1) (10 * v + (T p - 48)) (by omega)
      exact ⟨this.1, by omega⟩
    · rw [show nmF T n (r + 1) p v = (p, v) from if_neg c]
      exact ⟨hp, Nat.le_refl _⟩
theorem rdP_is (hn : n ≤ 160) {no p : Nat} (hp : p ≤ n) : (∀ q, rdP T n no p = (none, q) → q ≤ n ∧ sk T n q = q) ∧ ∀ x q, rdP T n no p = (some x, q) → q ≤ n ∧ x < 12 ∧ x ≠ no := by
  have h1 := sk_le (T := T) hn hp
  have h2 := sk_sk (T := T) hn hp
  unfold rdP
  by_cases c : sk T n p < n ∧ (97 ≤ T (sk T n p) ∧ T (sk T n p) ≤ 108) ∧ T (sk T n p) - 97 ≠ no
  · rw [if_pos c]
    exact ⟨fun q h => (by cases h), fun x q h => by cases h; exact ⟨by omega, by omega, c.2.2⟩⟩
  · rw [if_neg c]
    exact ⟨fun q h => by cases h; exact ⟨h1, h2⟩, fun x q h => by cases h⟩
theorem rdD_is (hn : n ≤ 160) {p : Nat} (hp : p ≤ n) : (∀ q, rdD T n p = (none, q) → q ≤ n ∧ sk T n q = q) ∧ ∀ x q, rdD T n p = (some x, q) → q ≤ n ∧ x < 10 := by
  have h1 := sk_le (T := T) hn hp
  have h2 := sk_sk (T := T) hn hp
  unfold rdD
  by_cases c : sk T n p < n ∧ 48 ≤ T (sk T n p) ∧ T (sk T n p) ≤ 57
  · rw [if_pos c]
    exact ⟨fun q h => (by cases h), fun x q h => by cases h; exact ⟨by omega, by omega⟩⟩
  · rw [if_neg c]
    exact ⟨fun q h => by cases h; exact ⟨h1, h2⟩, fun x q h => by cases h⟩
theorem rdN_is (hn : n ≤ 160) {lo hi p : Nat} (hp : p ≤ n) : (∀ q, rdN T n lo hi p = (none, q) → q ≤ n ∧ sk T n q = q) ∧ ∀ x q, rdN T n lo hi p = (some x, q) → q ≤ n ∧ lo ≤ x ∧ x ≤ hi := by
  have h1 := sk_le (T := T) hn hp
  have h2 := sk_sk (T := T) hn hp
  unfold rdN
  by_cases c : sk T n p < n ∧ 48 ≤ T (sk T n p) ∧ T (sk T n p) ≤ 57
  · rw [if_pos c]
    by_cases c2 : lo ≤ (nmF T n 161 (sk T n p) 0).2 ∧ (nmF T n 161 (sk T n p) 0).2 ≤ hi
    · rw [if_pos c2]
      exact ⟨fun q h => (by cases h), fun x q h => by cases h; exact ⟨(nmF_le hn 161 _ 0 h1).1, c2.1, c2.2⟩⟩
    · rw [if_neg c2]
      exact ⟨fun q h => by cases h; exact ⟨h1, h2⟩, fun x q h => by cases h⟩
  · rw [if_neg c]
    exact ⟨fun q h => by cases h; exact ⟨h1, h2⟩, fun x q h => by cases h⟩
theorem sl_d {d : Nat} (hd : d < 10) : (-9 ≤ nI d ∧ nI d ≤ (9 : Int32)) ∧ (-9 ≤ - nI d ∧ - nI d ≤ (9 : Int32)) := by
  have e := nI_toInt (n := d) (by omega)
  have e2 : (- nI d).toInt = - (d : Int) := by rw [negI (by rw [e]; omega), e]
  have m9 : (-9 : Int32).toInt = -9 := by decide
  have p9 : (9 : Int32).toInt = 9 := by decide
  refine ⟨⟨il.mpr ?_, il.mpr ?_⟩, ⟨il.mpr ?_, il.mpr ?_⟩⟩ <;> simp only [e, e2, m9, p9] <;> omega
theorem rdS_is (hn : n ≤ 160) {p : Nat} (hp : p ≤ n) : (∀ q, rdS T n p = (none, q) → q ≤ n ∧ sk T n q = q) ∧ ∀ x q, rdS T n p = (some x, q) → q ≤ n ∧ (-9 ≤ x ∧ x ≤ (9 : Int32)) := by
  have h1 := sk_le (T := T) hn hp
  have key : ∀ g : Nat → Int32, (∀ d, d < 10 → -9 ≤ g d ∧ g d ≤ (9 : Int32)) → sk T n p < n → (∀ q, (match rdD T n (sk T n p + 1) with | (some d, q) => (some (g d), q) | (none, q) => (none, q)) = ((none : Option Int32), q) → q ≤ n ∧ sk T n q = q) ∧ ∀ x q, (match rdD T n (sk T n p + 1) with | (some d, q) => (some (g d), q) | (none, q) => (none, q)) = (some x, q) → q ≤ n ∧ (-9 ≤ x ∧ x ≤ (9 : Int32)) := fun g hg hlt => by
    obtain ⟨d1, d2⟩ := rdD_is (T := T) hn (p := sk T n p + 1) (by omega)
    match e : rdD T n (sk T n p + 1), d1, d2 with
    | (none, q), d1, d2 => exact ⟨fun q' h => by cases h; exact d1 q rfl, fun x q' h => by cases h⟩
    | (some d, q), d1, d2 => exact ⟨fun q' h => (by cases h), fun x q' h => by cases h; exact ⟨(d2 d q rfl).1, hg d (d2 d q rfl).2⟩⟩
  unfold rdS
  by_cases c : sk T n p < n ∧ T (sk T n p) = 43
  · rw [if_pos c]
    exact key (fun d => nI d) (fun d hd => (sl_d hd).1) c.1
  · rw [if_neg c]
    by_cases c2 : sk T n p < n ∧ T (sk T n p) = 45
    · rw [if_pos c2]
      exact key (fun d => - nI d) (fun d hd => (sl_d hd).2) c2.1
    · rw [if_neg c2]
      exact ⟨fun q h => (by cases h), fun x q h => by cases h; exact ⟨h1, by decide⟩⟩
theorem rdK_is (hn : n ≤ 160) {p : Nat} (hp : p ≤ n) : (∀ q, rdK T n p = (none, q) → q ≤ n ∧ sk T n q = q) ∧ ∀ x q, rdK T n p = (some x, q) → q ≤ n ∧ x < 4 := by
  have h1 := sk_le (T := T) hn hp
  have h2 := sk_sk (T := T) hn hp
  unfold rdK
  split
  · exact ⟨fun q h => (by cases h), fun x q h => by cases h; exact ⟨by omega, by decide⟩⟩
  · split
    · exact ⟨fun q h => (by cases h), fun x q h => by cases h; exact ⟨by omega, by decide⟩⟩
    · split
      · exact ⟨fun q h => (by cases h), fun x q h => by cases h; exact ⟨by omega, by decide⟩⟩
      · split
        · exact ⟨fun q h => (by cases h), fun x q h => by cases h; exact ⟨by omega, by decide⟩⟩
        · exact ⟨fun q h => by cases h; exact ⟨h1, h2⟩, fun x q h => by cases h⟩
def okI (x : wI) : Prop := x.1 < 12 ∧ x.2.1 < 12 ∧ x.1 ≠ x.2.1 ∧ (1 ≤ x.2.2.1 ∧ x.2.2.1 ≤ 99) ∧ (-9 ≤ x.2.2.2.1 ∧ x.2.2.2.1 ≤ 9) ∧ (x.2.2.2.2 = 0 ∨ x.2.2.2.2 = 1)
def okJ (x : pI) : Prop := x.1 < 12 ∧ x.2.1 < 4 ∧ x.2.2 ≤ 99999
theorem prW_is (hn : n ≤ 160) {p : Nat} (hp : p ≤ n) : (∀ q, prW T n p = (none, q) → q ≤ n ∧ sk T n q = q) ∧ ∀ x q, prW T n p = (some x, q) → q ≤ n ∧ okI x := by
  unfold prW
  obtain ⟨a1, a2⟩ := rdP_is (T := T) hn (no := 99) hp
  match e1 : rdP T n 99 p, a1, a2 with
  | (none, q), a1, a2 => exact ⟨fun q' h => by cases h; exact a1 q rfl, fun x q' h => by cases h⟩
  | (some f, p1), a1, a2 =>
    obtain ⟨hp1, hf, -⟩ := a2 f p1 rfl
    dsimp only
    obtain ⟨b1, b2⟩ := rdS_is (T := T) hn hp1
    match e2 : rdS T n p1, b1, b2 with
    | (none, q), b1, b2 => exact ⟨fun q' h => by cases h; exact b1 q rfl, fun x q' h => by cases h⟩
    | (some sl, p3), b1, b2 =>
      obtain ⟨hp3, hsl⟩ := b2 sl p3 rfl
      dsimp only
      obtain ⟨c1, c2⟩ := rdP_is (T := T) hn (no := f) hp3
      match e3 : rdP T n f p3, c1, c2 with
      | (none, q), c1, c2 => exact ⟨fun q' h => by cases h; exact c1 q rfl, fun x q' h => by cases h⟩
      | (some t, p4), c1, c2 =>
        obtain ⟨hp4, ht, hne⟩ := c2 t p4 rfl
        dsimp only
        obtain ⟨d1, d2⟩ := rdN_is (T := T) hn (lo := 1) (hi := 99) hp4
        match e4 : rdN T n 1 99 p4, d1, d2 with
        | (none, q), d1, d2 => exact ⟨fun q' h => by cases h; exact d1 q rfl, fun x q' h => by cases h⟩
        | (some len, p5), d1, d2 =>
          obtain ⟨hp5, hl1, hl2⟩ := d2 len p5 rfl
          dsimp only
          have hs := sk_le (T := T) hn hp5
          split
          · exact ⟨fun q h => (by cases h), fun x q h => by cases h; exact ⟨by omega, hf, ht, fun z => hne z.symm, ⟨hl1, hl2⟩, hsl, Or.inr rfl⟩⟩
          · exact ⟨fun q h => (by cases h), fun x q h => by cases h; exact ⟨hs, hf, ht, fun z => hne z.symm, ⟨hl1, hl2⟩, hsl, Or.inl rfl⟩⟩
theorem prP_is (hn : n ≤ 160) {p : Nat} (hp : p ≤ n) : (∀ q, prP T n p = (none, q) → q ≤ n ∧ sk T n q = q) ∧ ∀ x q, prP T n p = (some x, q) → q ≤ n ∧ okJ x := by
  unfold prP
  obtain ⟨a1, a2⟩ := rdP_is (T := T) hn (no := 99) hp
  match e1 : rdP T n 99 p, a1, a2 with
  | (none, q), a1, a2 => exact ⟨fun q' h => by cases h; exact a1 q rfl, fun x q' h => by cases h⟩
  | (some f, p1), a1, a2 =>
    obtain ⟨hp1, hf, -⟩ := a2 f p1 rfl
    dsimp only
    obtain ⟨b1, b2⟩ := rdK_is (T := T) hn hp1
    match e2 : rdK T n p1, b1, b2 with
    | (none, q), b1, b2 => exact ⟨fun q' h => by cases h; exact b1 q rfl, fun x q' h => by cases h⟩
    | (some kd, p2), b1, b2 =>
      obtain ⟨hp2, hkd⟩ := b2 kd p2 rfl
      dsimp only
      obtain ⟨d1, d2⟩ := rdN_is (T := T) hn (lo := 0) (hi := 99999) hp2
      match e4 : rdN T n 0 99999 p2, d1, d2 with
      | (none, q), d1, d2 => exact ⟨fun q' h => by cases h; exact d1 q rfl, fun x q' h => by cases h⟩
      | (some r, p3), d1, d2 =>
        obtain ⟨hp3, -, hr⟩ := d2 r p3 rfl
        exact ⟨fun q h => (by cases h), fun x q h => by cases h; exact ⟨hp3, hf, hkd, hr⟩⟩
end TXT
