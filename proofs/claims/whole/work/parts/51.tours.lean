-- ===== tours: the account =====
def oadd : Option Nat → Option Nat → Option Nat
  | some a, some b => some (a + b)
  | _, _ => none
def omin : Option Nat → Option Nat → Option Nat
  | none, b => b
  | some a, none => some a
  | some a, some b => some (min a b)
def mnE (F : Nat → Option Nat) : Nat → Option Nat
  | 0 => none
  | n + 1 => omin (mnE F n) (F n)
abbrev oLe (o : Option Nat) (b : Nat) : Prop := ∀ c, o = some c → c ≤ b
theorem oadd_le {o1 o2 : Option Nat} {a b : Nat} (h1 : oLe o1 a) (h2 : oLe o2 b) : oLe (oadd o1 o2) (a + b) := by
  intro c h
  match o1, o2, h1, h2, h with
  | some x, some y, h1, h2, h =>
    have e1 := h1 x rfl
    have e2 := h2 y rfl
    cases h
    omega
theorem omin_le {o1 o2 : Option Nat} {a : Nat} (h1 : oLe o1 a) (h2 : oLe o2 a) : oLe (omin o1 o2) a := by
  intro c h
  match o1, o2, h1, h2, h with
  | none, o2, _, h2, h => exact h2 c h
  | some x, none, h1, _, h => exact h1 c h
  | some x, some y, h1, h2, h =>
    have e1 := h1 x rfl
    have e2 := h2 y rfl
    cases h
    omega
theorem mnE_le {F : Nat → Option Nat} {a : Nat} : ∀ n, (∀ e, e < n → oLe (F e) a) → oLe (mnE F n) a
  | 0, _ => fun c h => by cases h
  | n + 1, h => omin_le (mnE_le n (fun e he => h e (by omega))) (h n (by omega))
theorem mnE_cg {F G : Nat → Option Nat} : ∀ n, (∀ e, e < n → F e = G e) → mnE F n = mnE G n
  | 0, _ => rfl
  | n + 1, h => by
    show omin (mnE F n) (F n) = omin (mnE G n) (G n)
    rw [mnE_cg n (fun e he => h e (by omega)), h n (by omega)]
/-- as numbers -/
theorem oadd_n {o1 o2 : Option Nat} {inf a b : Nat} (h1 : oLe o1 a) (h2 : oLe o2 b) (hi : a + b ≤ inf) : min inf (o1.getD inf + o2.getD inf) = (oadd o1 o2).getD inf := by
  match o1, o2, h1, h2 with
  | none, o2, _, _ => show min inf (inf + o2.getD inf) = inf; omega
  | some x, none, _, _ => show min inf (x + inf) = inf; omega
  | some x, some y, h1, h2 =>
    have e1 := h1 x rfl
    have e2 := h2 y rfl
    show min inf (x + y) = x + y
    omega
theorem omin_n {o1 o2 : Option Nat} {inf : Nat} (h1 : oLe o1 inf) (h2 : oLe o2 inf) : (omin o1 o2).getD inf = min (o1.getD inf) (o2.getD inf) := by
  match o1, o2, h1, h2 with
  | none, none, _, _ => show inf = min inf inf; omega
  | none, some y, _, h2 => have := h2 y rfl; show y = min inf y; omega
  | some x, none, h1, _ => have := h1 x rfl; show x = min x inf; omega
  | some x, some y, _, _ => rfl
theorem getD_le {o : Option Nat} {inf : Nat} (h : oLe o inf) : o.getD inf ≤ inf := by
  cases o with
  | none => exact Nat.le_refl _
  | some c => exact h c rfl
/-- by distances D, errands' places P, home h, n errands: from x through the set S and home -/
def TOf (D : Nat → Nat → Option Nat) (P : Nat → Nat) (h n : Nat) : Nat → Nat → Nat → Option Nat
  | 0, _, x => D x h
  | m + 1, S, x => if S = 0 then D x h else mnE (fun e => if S.testBit e then oadd (D x (P e)) (TOf D P h n m (S - 2 ^ e) (P e)) else none) n
def TO (D : Nat → Nat → Option Nat) (P : Nat → Nat) (h n S x : Nat) : Option Nat := TOf D P h n S S x
theorem tb_ge : ∀ S, S < 64 → ∀ e, e < 6 → S.testBit e = true → 2 ^ e ≤ S ∧ 0 < 2 ^ e ∧ (S - 2 ^ e).testBit e = false := by decide +kernel
theorem tb_op : ∀ S, S < 64 → ∀ e, e < 6 → S.testBit e = true → nI S &&& (((1 : Int32) <<< (nI e &&& 31)) ^^^ (-1)) = nI (S - 2 ^ e) := by decide +kernel
theorem tb_ex : ∀ n, n < 7 → ∀ S, S < 2 ^ n → S ≠ 0 → ∃ e, e < n ∧ S.testBit e = true := by decide +kernel
theorem tb_lt : ∀ n, n < 7 → ∀ S, S < 2 ^ n → ∀ e, e < 6 → S.testBit e = true → e < n := by decide +kernel
theorem sh_n : ∀ n, n < 9 → ((1 : Int32) <<< (nI n &&& 31)) = nI (2 ^ n) := by decide +kernel
theorem pw6 : ∀ n, n < 7 → 1 ≤ 2 ^ n ∧ 2 ^ n ≤ 64 := by decide
section TOURS
variable {D : Nat → Nat → Option Nat} {P : Nat → Nat} {h n : Nat}
theorem TOf_fuel (hn : n ≤ 6) : ∀ (m m' S x : Nat), S < 64 → S ≤ m → S ≤ m' → TOf D P h n m S x = TOf D P h n m' S x
  | 0, 0, S, x, _, _, _ => rfl
  | 0, m' + 1, S, x, _, h1, _ => by
    obtain rfl : S = 0 := by omega
    show D x h = if 0 = 0 then D x h else _
    rw [if_pos rfl]
  | m + 1, 0, S, x, _, _, h2 => by
    obtain rfl : S = 0 := by omega
    show (if 0 = 0 then D x h else _) = D x h
    rw [if_pos rfl]
  | m + 1, m' + 1, S, x, h64, h1, h2 => by
    show (if S = 0 then D x h else mnE _ n) = if S = 0 then D x h else mnE _ n
    by_cases e0 : S = 0
    · rw [if_pos e0, if_pos e0]
    · rw [if_neg e0, if_neg e0]
      refine mnE_cg n (fun e he => ?_)
      by_cases hb : S.testBit e = true
      · rw [if_pos hb, if_pos hb]
        have := tb_ge S h64 e (by omega) hb
        rw [TOf_fuel hn m m' (S - 2 ^ e) (P e) (by omega) (by omega) (by omega)]
      · rw [if_neg hb, if_neg hb]
theorem TO_0 {x : Nat} : TO D P h n 0 x = D x h := rfl
def TOb (D : Nat → Nat → Option Nat) (P : Nat → Nat) (h n S x e : Nat) : Option Nat := if S.testBit e then oadd (D x (P e)) (TO D P h n (S - 2 ^ e) (P e)) else none
theorem TO_S {S x : Nat} (hn : n ≤ 6) (h64 : S < 64) (h0 : S ≠ 0) : TO D P h n S x = mnE (TOb D P h n S x) n := by
  obtain ⟨m, rfl⟩ : ∃ m, S = m + 1 := ⟨S - 1, by omega⟩
  show (if m + 1 = 0 then D x h else mnE _ n) = _
  rw [if_neg h0]
  refine mnE_cg n (fun e he => ?_)
  unfold TOb
  by_cases hb : (m + 1).testBit e = true
  · rw [if_pos hb, if_pos hb]
    have := tb_ge (m + 1) h64 e (by omega) hb
    unfold TO
    rw [TOf_fuel hn m (m + 1 - 2 ^ e) (m + 1 - 2 ^ e) (P e) (by omega) (by omega) (by omega)]
  · rw [if_neg hb, if_neg hb]
abbrev DB (D : Nat → Nat → Option Nat) (P : Nat → Nat) (n : Nat) : Prop := (∀ a b, a < 12 → oLe (D a b) 2772) ∧ ∀ e, e < n → P e < 12
theorem TO_le (hn : n ≤ 6) (hD : DB D P n) : ∀ (m S x : Nat), S ≤ m → S < 64 → x < 12 → oLe (TO D P h n S x) (2772 * (S + 1))
  | 0, S, x, hm, _, hx => by
    obtain rfl : S = 0 := by omega
    exact hD.1 x h hx
  | m + 1, S, x, hm, h64, hx => by
    by_cases h0 : S = 0
    · subst h0; exact hD.1 x h hx
    · rw [TO_S hn h64 h0]
      refine mnE_le n (fun e he => ?_)
      unfold TOb
      by_cases hb : S.testBit e = true
      · rw [if_pos hb]
        have := tb_ge S h64 e (by omega) hb
        intro c hc
        have h1 := oadd_le (hD.1 x (P e) hx) (TO_le hn hD m (S - 2 ^ e) (P e) (by omega) (by omega) (hD.2 e he)) c hc
        have h2 : 2772 * (S - 2 ^ e + 1) ≤ 2772 * S := Nat.mul_le_mul_left 2772 (by omega)
        rw [show 2772 * (S + 1) = 2772 * S + 2772 from Nat.mul_succ _ _, Nat.add_comm]
        exact Nat.le_trans h1 (Nat.add_le_add_left h2 2772)
      · rw [if_neg hb]
        intro c hc; cases hc
theorem TO_bd (hn : n ≤ 6) (hD : DB D P n) {S x : Nat} (h64 : S < 64) (hx : x < 12) : oLe (TO D P h n S x) 177408 := fun c hc => by
  have := TO_le hn hD S S x (Nat.le_refl _) h64 hx c hc
  omega
theorem TOb_bd (hn : n ≤ 6) (hD : DB D P n) {S x e : Nat} (h64 : S < 64) (hx : x < 12) (he : e < n) : oLe (TOb D P h n S x e) 180180 := by
  unfold TOb
  by_cases hb : S.testBit e = true
  · rw [if_pos hb]
    exact oadd_le (a := 2772) (b := 177408) (hD.1 x (P e) hx) (TO_bd hn hD (Nat.lt_of_le_of_lt (Nat.sub_le _ _) h64) (hD.2 e he))
  · rw [if_neg hb]
    intro c hc; cases hc
/-- raw numbers -/
def rwN (D : Nat → Nat → Option Nat) (P : Nat → Nat) (h n inf S x e : Nat) : Nat := (D x (P e)).getD inf + (TO D P h n (S - 2 ^ e) (P e)).getD inf
theorem rwN_n {inf : Nat} (hi : 180180 ≤ inf) (hn : n ≤ 6) (hD : DB D P n) {S x e : Nat} (h64 : S < 64) (hx : x < 12) (he : e < n) (hb : S.testBit e = true) : min inf (rwN D P h n inf S x e) = (TOb D P h n S x e).getD inf := by
  unfold TOb rwN
  rw [if_pos hb]
  exact oadd_n (a := 2772) (b := 177408) (hD.1 x (P e) hx) (TO_bd hn hD (Nat.lt_of_le_of_lt (Nat.sub_le _ _) h64) (hD.2 e he)) (by omega)
theorem mnE_n {F : Nat → Option Nat} {inf : Nat} : ∀ n, (∀ e, e < n → oLe (F e) inf) → (mnE F n).getD inf ≤ inf ∧ (∀ e, e < n → (mnE F n).getD inf ≤ (F e).getD inf) ∧ ((mnE F n).getD inf = inf ∨ ∃ e, e < n ∧ (mnE F n).getD inf = (F e).getD inf)
  | 0, _ => ⟨Nat.le_refl _, fun e he => absurd he (Nat.not_lt_zero e), Or.inl rfl⟩
  | n + 1, hF => by
    obtain ⟨h1, h2, h3⟩ := mnE_n n (fun e he => hF e (by omega))
    have e1 : (mnE F (n + 1)).getD inf = min ((mnE F n).getD inf) ((F n).getD inf) := omin_n (mnE_le n (fun e he => hF e (by omega))) (hF n (by omega))
    have h4 := getD_le (hF n (by omega))
    rw [e1]
    refine ⟨by omega, fun e he => ?_, ?_⟩
    · by_cases c : e = n
      · rw [c]; omega
      · have := h2 e (by omega); omega
    · by_cases c : (mnE F n).getD inf ≤ (F n).getD inf
      · rcases h3 with h | ⟨e, he, h⟩
        · exact Or.inr ⟨n, by omega, by omega⟩
        · exact Or.inr ⟨e, by omega, by omega⟩
      · exact Or.inr ⟨n, by omega, by omega⟩
/-- the least raw number is the tour's -/
theorem TO_min {inf : Nat} (hi : 180180 ≤ inf) (hn : n ≤ 6) (hD : DB D P n) {S x m : Nat} (h64 : S < 64) (h0 : S ≠ 0) (hx : x < 12) (h1 : ∀ e, e < n → S.testBit e = true → m ≤ rwN D P h n inf S x e) (h2 : m = inf ∨ ∃ e, e < n ∧ S.testBit e = true ∧ m = rwN D P h n inf S x e) : min inf m = (TO D P h n S x).getD inf := by
  rw [TO_S hn h64 h0]
  have bd : ∀ e, e < n → oLe (TOb D P h n S x e) inf := fun e he c hc => Nat.le_trans (TOb_bd hn hD h64 hx he c hc) hi
  obtain ⟨g1, g2, g3⟩ := mnE_n (inf := inf) n bd
  have lo : min inf m ≤ (mnE (TOb D P h n S x) n).getD inf := by
    rcases g3 with g | ⟨e, he, g⟩
    · omega
    · rw [g]
      by_cases hb : S.testBit e = true
      · rw [← rwN_n hi hn hD h64 hx he hb]
        have := h1 e he hb
        omega
      · unfold TOb
        rw [if_neg hb]
        show min inf m ≤ inf
        omega
  have up : (mnE (TOb D P h n S x) n).getD inf ≤ min inf m := by
    rcases h2 with h | ⟨e, he, hb, h⟩
    · omega
    · have := g2 e he
      rw [← rwN_n hi hn hD h64 hx he hb] at this
      omega
  omega
/-- the first errand by which the tour costs least -/
def isF (D : Nat → Nat → Option Nat) (P : Nat → Nat) (h n S x e : Nat) : Prop := e < n ∧ S.testBit e = true ∧ TOb D P h n S x e = TO D P h n S x ∧ ∀ e', e' < e → S.testBit e' = true → TOb D P h n S x e' ≠ TO D P h n S x
theorem isF_uniq {S x e e' : Nat} (h1 : isF D P h n S x e) (h2 : isF D P h n S x e') : e = e' := by
  rcases Nat.lt_trichotomy e e' with c | c | c
  · exact absurd h1.2.2.1 (h2.2.2.2 e c h1.2.1)
  · exact c
  · exact absurd h2.2.2.1 (h1.2.2.2 e' c h2.2.1)
theorem getD_inj {o o' : Option Nat} {inf : Nat} (h1 : oLe o (inf - 1)) (h2 : oLe o' (inf - 1)) (hi : 0 < inf) (h : o.getD inf = o'.getD inf) : o = o' := by
  match o, o', h1, h2, h with
  | none, none, _, _, _ => rfl
  | none, some y, _, h2, h => have := h2 y rfl; replace h : inf = y := h; omega
  | some x, none, h1, _, h => have := h1 x rfl; replace h : x = inf := h; omega
  | some x, some y, _, _, h => replace h : x = y := h; rw [h]
/-- out of the raw numbers, where there is a tour at all -/
theorem isF_of {inf : Nat} (hi : 180181 ≤ inf) (hn : n ≤ 6) (hD : DB D P n) {S x e c : Nat} (h64 : S < 64) (h0 : S ≠ 0) (hx : x < 12) (hc : TO D P h n S x = some c) (he : e < n) (hb : S.testBit e = true) (h1 : ∀ e', e' < n → S.testBit e' = true → rwN D P h n inf S x e ≤ rwN D P h n inf S x e') (h2 : ∀ e', e' < e → S.testBit e' = true → rwN D P h n inf S x e < rwN D P h n inf S x e') : isF D P h n S x e := by
  have hm := TO_min (inf := inf) (by omega) hn hD h64 h0 hx h1 (Or.inr ⟨e, he, hb, rfl⟩)
  have bdT : oLe (TO D P h n S x) (inf - 1) := fun c hc => by have := TO_bd hn hD h64 hx c hc; omega
  have bdB : ∀ e', e' < n → oLe (TOb D P h n S x e') (inf - 1) := fun e' he' c hc => by have := TOb_bd hn hD h64 hx he' c hc; omega
  have hlt : min inf (rwN D P h n inf S x e) < inf := by
    rw [hm, hc]
    have := bdT c hc
    show c < inf
    omega
  refine ⟨he, hb, ?_, fun e' he' hb' hq => ?_⟩
  · refine getD_inj (bdB e he) bdT (by omega) ?_
    rw [← rwN_n (by omega) hn hD h64 hx he hb]
    exact hm
  · have := h2 e' he' hb'
    have e1 := rwN_n (inf := inf) (h := h) (by omega) hn hD h64 hx (show e' < n by omega) hb'
    rw [hq, ← hm] at e1
    omega
/-- after it there is a tour, too -/
theorem isF_next {S x e c : Nat} (hc : TO D P h n S x = some c) (hF : isF D P h n S x e) : ∃ c', TO D P h n (S - 2 ^ e) (P e) = some c' := by
  have h3 := hF.2.2.1
  unfold TOb at h3
  rw [if_pos hF.2.1, hc] at h3
  cases e1 : TO D P h n (S - 2 ^ e) (P e) with
  | none =>
    have e2 : oadd (D x (P e)) none = none := by cases D x (P e) <;> rfl
    rw [e1, e2] at h3
    cases h3
  | some c' => exact ⟨c', rfl⟩
end TOURS
