-- ===== sets as bits =====
theorem nx_or (a b : Nat) : nI a ||| nI b = nI (a ||| b) := by
  apply Int32.toBitVec_inj.1
  show BitVec.ofNat 32 a ||| BitVec.ofNat 32 b = BitVec.ofNat 32 (a ||| b)
  apply BitVec.eq_of_getLsbD_eq
  intro i hi
  simp [hi]
theorem nx_and (a b : Nat) : nI a &&& nI b = nI (a &&& b) := by
  apply Int32.toBitVec_inj.1
  show BitVec.ofNat 32 a &&& BitVec.ofNat 32 b = BitVec.ofNat 32 (a &&& b)
  apply BitVec.eq_of_getLsbD_eq
  intro i hi
  simp [hi]
theorem nx_sh : ∀ n, n < 31 → ((1 : Int32) <<< (nI n &&& 31)) = nI (2 ^ n) := by decide +kernel
theorem nx_sl : ∀ n, n < 32 → ((nI n &&& 31).toBitVec.smod 32).toNat = n := by decide +kernel
theorem nx_shr {k x : Nat} (hk : k < 2 ^ 31) (hx : x < 32) : nI k >>> (nI x &&& 31) = nI (k / 2 ^ x) := pk_shrN hk _ x (nx_sl x hx)
theorem nx_b1 {k x : Nat} (hk : k < 2 ^ 31) (hx : x < 32) : (nI k >>> (nI x &&& 31)) &&& 1 = nI (k / 2 ^ x % 2) := by
  rw [nx_shr hk hx]
  have h : k / 2 ^ x ≤ k := Nat.div_le_self _ _
  have := pk_andN (n := k / 2 ^ x) (by omega) (m := 1) 1 (by decide)
  rw [this]
theorem nx_bit {k x : Nat} (hk : k < 2 ^ 31) (hx : x < 32) : (nI k >>> (nI x &&& 31)) &&& 1 = 0 ↔ k.testBit x = false := by
  rw [nx_b1 hk hx, show (0 : Int32) = nI 0 from rfl, nI_eq (by omega) (by decide), Nat.testBit_eq_decide_div_mod_eq, decide_eq_false_iff_not]
  omega
theorem nx_bi1 {k x : Nat} (hk : k < 2 ^ 31) (hx : x < 32) : (nI k >>> (nI x &&& 31)) &&& 1 = 1 ↔ k.testBit x = true := by
  rw [nx_b1 hk hx, show (1 : Int32) = nI 1 from rfl, nI_eq (by omega) (by decide), Nat.testBit_eq_decide_div_mod_eq, decide_eq_true_iff]
/-- a set of places as a number -/
def MK (m : Int32) (l : List Nat) : Prop := ∃ k, k < 4096 ∧ m = nI k ∧ ∀ x, x < 12 → (k.testBit x = true ↔ x ∈ l)
theorem or_lt : ∀ x, x < 12 → 2 ^ x < 4096 := by decide
theorem MK.add {m : Int32} {l : List Nat} {x : Nat} (h : MK m l) (hx : x < 12) : MK (m ||| (1 <<< (nI x &&& 31))) (x :: l) := by
  obtain ⟨k, h1, rfl, h3⟩ := h
  refine ⟨k ||| 2 ^ x, Nat.or_lt_two_pow (n := 12) h1 (or_lt x hx), by rw [nx_sh x (by omega), nx_or], fun y hy => ?_⟩
  rw [Nat.testBit_or, Nat.testBit_two_pow, List.mem_cons, Bool.or_eq_true, h3 y hy, decide_eq_true_iff]
  constructor
  · rintro (h | h)
    · exact Or.inr h
    · exact Or.inl h.symm
  · rintro (h | h)
    · exact Or.inr h.symm
    · exact Or.inl h
theorem MK.one {x : Nat} (hx : x < 12) : MK (1 <<< (nI x &&& 31)) [x] := by
  refine ⟨2 ^ x, or_lt x hx, nx_sh x (by omega), fun y hy => ?_⟩
  rw [Nat.testBit_two_pow, decide_eq_true_iff, List.mem_singleton]
  exact eq_comm
theorem MK.bit {m : Int32} {l : List Nat} {x : Nat} (h : MK m l) (hx : x < 12) : (m >>> (nI x &&& 31)) &&& 1 = 0 ↔ x ∉ l := by
  obtain ⟨k, h1, rfl, h3⟩ := h
  rw [nx_bit (by omega) (by omega), ← h3 x hx, Bool.not_eq_true]
theorem MK.ne {m m' : Int32} {l l' : List Nat} (h : MK m l) (h' : MK m' l') {x : Nat} (hx : x < 12) (h1 : x ∈ l') (h2 : x ∉ l) : m ≠ m' := by
  intro e
  obtain ⟨k, g1, g2, g3⟩ := h
  obtain ⟨k', g1', g2', g3'⟩ := h'
  have ek : k = k' := (nI_eq (by omega) (by omega)).mp (g2.symm.trans (e.trans g2'))
  subst ek
  exact h2 ((g3 x hx).mp ((g3' x hx).mpr h1))
theorem MK.eq {m m' : Int32} {l : List Nat} (h : MK m l) (h' : MK m' l) : m = m' := by
  obtain ⟨k, g1, g2, g3⟩ := h
  obtain ⟨k', g1', g2', g3'⟩ := h'
  have e : k = k' := by
    refine Nat.eq_of_testBit_eq (fun i => ?_)
    by_cases hi : i < 12
    · have := (g3 i hi).trans (g3' i hi).symm
      rw [Bool.eq_iff_iff]
      exact this
    · have z : ∀ q, q < 4096 → q.testBit i = false := fun q hq => Nat.testBit_lt_two_pow (Nat.lt_of_lt_of_le hq (show 4096 ≤ 2 ^ i from (Nat.pow_le_pow_right (by decide) (show 12 ≤ i by omega) : 2 ^ 12 ≤ 2 ^ i)))
      rw [z k g1, z k' g1']
  rw [g2, g2', e]
-- ===== flows =====
def sI (F : Nat → Int) : Nat → Int
  | 0 => 0
  | n + 1 => sI F n + F n
theorem sI_le {F G : Nat → Int} : ∀ n, (∀ w, w < n → F w ≤ G w) → sI F n ≤ sI G n
  | 0, _ => Int.le_refl 0
  | n + 1, h => by
    have h1 := sI_le n (fun w hw => h w (by omega))
    have h2 := h n (by omega)
    show sI F n + F n ≤ sI G n + G n
    omega
theorem sI_cg {F G : Nat → Int} : ∀ n, (∀ w, w < n → F w = G w) → sI F n = sI G n
  | 0, _ => rfl
  | n + 1, h => by
    have h1 := sI_cg n (fun w hw => h w (by omega))
    have h2 := h n (by omega)
    show sI F n + F n = sI G n + G n
    omega
theorem sI_1 : ∀ n, sI (fun _ => 1) n = (n : Int)
  | 0 => rfl
  | n + 1 => by
    have := sI_1 n
    show sI (fun _ => 1) n + 1 = ((n + 1 : Nat) : Int)
    omega
def upI (f : Nat → Int) (w : Nat) (x : Int) : Nat → Int := fun q => if q = w then x else f q
theorem sI_up {f D : Nat → Int} {w : Nat} {s : Int} : ∀ n, (n ≤ w → sI (fun q => upI f w (f w + s) q * D q) n = sI (fun q => f q * D q) n) ∧ (w < n → sI (fun q => upI f w (f w + s) q * D q) n = sI (fun q => f q * D q) n + s * D w)
  | 0 => ⟨fun _ => rfl, fun h => absurd h (Nat.not_lt_zero w)⟩
  | n + 1 => by
    obtain ⟨h1, h2⟩ := sI_up (f := f) (D := D) (w := w) (s := s) n
    have e : sI (fun q => upI f w (f w + s) q * D q) (n + 1) = sI (fun q => upI f w (f w + s) q * D q) n + upI f w (f w + s) n * D n := rfl
    have e2 : sI (fun q => f q * D q) (n + 1) = sI (fun q => f q * D q) n + f n * D n := rfl
    refine ⟨fun z => ?_, fun z => ?_⟩
    · rw [e, e2, h1 (by omega)]
      unfold upI
      rw [if_neg (by omega)]
    · rw [e, e2]
      by_cases c : n = w
      · subst c
        rw [h1 (Nat.le_refl n)]
        unfold upI
        rw [if_pos rfl, Int.add_mul]
        omega
      · rw [h2 (by omega)]
        unfold upI
        rw [if_neg c]
        omega
def eA (v : xIv) (w : Nat) : Nat := (v 1 (5 * w)).toNatClampNeg
def eB (v : xIv) (w : Nat) : Nat := (v 1 (5 * w + 1)).toNatClampNeg
def fsum (v : xIv) (f g : Nat → Int) : Int := sI (fun w => f w * (g (eA v w) - g (eB v w))) (cnt v 0)
def FL (v : xIv) (a b : Nat) (f : Nat → Int) (N : Int) : Prop := (∀ w, w < cnt v 0 → -1 ≤ f w ∧ f w ≤ 1) ∧ ∀ g : Nat → Int, fsum v f g = N * (g a - g b)
def CLw (v : xIv) (f : Nat → Int) (S : Nat → Prop) (w : Nat) : Prop := (S (eA v w) → ¬ S (eB v w) → f w = 1) ∧ (S (eB v w) → ¬ S (eA v w) → f w = -1)
def CL (v : xIv) (f : Nat → Int) (S : Nat → Prop) : Prop := ∀ w, w < cnt v 0 → CLw v f S w
noncomputable def ind (S : Nat → Prop) (x : Nat) : Int := @ite Int (S x) (Classical.propDecidable _) 1 0
theorem ind_t {S : Nat → Prop} {x : Nat} (h : S x) : ind S x = 1 := by unfold ind; rw [if_pos h]
theorem ind_f {S : Nat → Prop} {x : Nat} (h : ¬ S x) : ind S x = 0 := by unfold ind; rw [if_neg h]
theorem flow_le {v : xIv} {a b : Nat} {f f' : Nat → Int} {N N' : Int} {S : Nat → Prop} (h : FL v a b f N) (h' : FL v a b f' N') (hc : CL v f S) (ha : S a) (hb : ¬ S b) : N' ≤ N := by
  have e1 := h.2 (ind S)
  have e2 := h'.2 (ind S)
  rw [ind_t ha, ind_f hb, Int.sub_zero, Int.mul_one] at e1 e2
  rw [← e1, ← e2]
  refine sI_le _ (fun w hw => ?_)
  obtain ⟨c1, c2⟩ := hc w hw
  have b1 := h'.1 w hw
  by_cases hA : S (eA v w) <;> by_cases hB : S (eB v w)
  · rw [ind_t hA, ind_t hB]; simp
  · rw [ind_t hA, ind_f hB, c1 hA hB]; simp; omega
  · rw [ind_f hA, ind_t hB, c2 hB hA]; simp; omega
  · rw [ind_f hA, ind_f hB]; simp
theorem flow_bd {v : xIv} {a b : Nat} {f : Nat → Int} {N : Int} (hab : a ≠ b) (h : FL v a b f N) : N ≤ cnt v 0 := by
  have e1 := h.2 (ind (fun x => x = a))
  rw [ind_t (S := fun x => x = a) rfl, ind_f (S := fun x => x = a) (fun z => hab z.symm), Int.sub_zero, Int.mul_one] at e1
  rw [← e1, ← sI_1]
  refine sI_le _ (fun w hw => ?_)
  have b1 := h.1 w hw
  by_cases hA : eA v w = a <;> by_cases hB : eB v w = a
  · rw [ind_t (S := fun x => x = a) hA, ind_t (S := fun x => x = a) hB]; simp
  · rw [ind_t (S := fun x => x = a) hA, ind_f (S := fun x => x = a) hB]; simp; omega
  · rw [ind_f (S := fun x => x = a) hA, ind_t (S := fun x => x = a) hB]; simp; omega
  · rw [ind_f (S := fun x => x = a) hA, ind_f (S := fun x => x = a) hB]; simp
/-- the answer -/
def STP (v : xIv) (a b N : Nat) : Prop := ∃ f, FL v a b f N ∧ (24 ≤ N ∨ ∃ S, CL v f S ∧ S a ∧ ¬ S b)
theorem STP_uniq {v : xIv} {a b N N' : Nat} (hab : a ≠ b) (h24 : cnt v 0 ≤ 24) (h : STP v a b N) (h' : STP v a b N') : N = N' := by
  obtain ⟨f, h1, h2⟩ := h
  obtain ⟨f', h1', h2'⟩ := h'
  have b1 := flow_bd hab h1
  have b2 := flow_bd hab h1'
  have l1 : N' ≤ N := by
    rcases h2 with h | ⟨S, c1, c2, c3⟩
    · omega
    · have := flow_le h1 h1' c1 c2 c3
      omega
  have l2 : N ≤ N' := by
    rcases h2' with h | ⟨S, c1, c2, c3⟩
    · omega
    · have := flow_le h1' h1 c1 c2 c3
      omega
  omega
def sgd (d : Nat) : Int := if d = 0 then 1 else -1
/-- places as they are reached, the newest first, each by a way that has room -/
def TR (v : xIv) (f : Nat → Int) (a : Nat) (cm : Nat → Nat → Nat → Prop) : List Nat → Prop
  | [] => False
  | x :: l => (l = [] ∧ x = a) ∨ (TR v f a cm l ∧ x ∉ l ∧ x < 12 ∧ ∃ w d y, w < cnt v 0 ∧ d < 2 ∧ y ∈ l ∧ v 1 (5 * w + d) = nI y ∧ v 1 (5 * w + (1 - d)) = nI x ∧ f w ≠ sgd d ∧ cm x w d)
section TREE
variable {v : xIv} {f : Nat → Int} {a : Nat} {cm cm' : Nat → Nat → Nat → Prop}
theorem TR.cg : ∀ {l : List Nat}, TR v f a cm l → (∀ x w d, x ∈ l → cm x w d → cm' x w d) → TR v f a cm' l
  | [], h, _ => h
  | x :: l, h, hc => by
    rcases h with h | ⟨h1, h2, h3, w, d, y, g1, g2, g3, g4, g5, g6, g7⟩
    · exact Or.inl h
    · exact Or.inr ⟨TR.cg h1 (fun x w d hx => hc x w d (List.mem_cons_of_mem _ hx)), h2, h3, w, d, y, g1, g2, g3, g4, g5, g6, hc x w d (List.mem_cons_self) g7⟩
theorem TR.mem : ∀ {l : List Nat}, TR v f a cm l → a ∈ l
  | [], h => h.elim
  | x :: l, h => by
    rcases h with ⟨h1, h2⟩ | ⟨h1, -⟩
    · rw [h2]; exact List.mem_cons_self
    · exact List.mem_cons_of_mem _ (TR.mem h1)
theorem TR.nd (ha : a < 12) : ∀ {l : List Nat}, TR v f a cm l → l.Nodup ∧ ∀ x, x ∈ l → x < 12
  | [], h => h.elim
  | x :: l, h => by
    rcases h with ⟨h1, h2⟩ | ⟨h1, h2, h3, -⟩
    · subst h1; subst h2
      refine ⟨by simp, fun y hy => ?_⟩
      rw [List.mem_singleton.mp hy]; exact ha
    · obtain ⟨g1, g2⟩ := TR.nd ha h1
      refine ⟨List.nodup_cons.mpr ⟨h2, g1⟩, fun y hy => ?_⟩
      rcases List.mem_cons.mp hy with h | h
      · rw [h]; exact h3
      · exact g2 y h
theorem TR.len (ha : a < 12) {l : List Nat} (h : TR v f a cm l) : l.length ≤ 12 := by
  obtain ⟨h1, h2⟩ := h.nd ha
  have hl : l.length ≤ (List.range 12).length := List.Nodup.length_le_of_subset h1 (fun x hx => List.mem_range.mpr (h2 x hx))
  rw [List.length_range] at hl
  exact hl
theorem TR.by' : ∀ {l : List Nat}, TR v f a cm l → ∀ x, x ∈ l → x ≠ a → ∃ w d, w < cnt v 0 ∧ d < 2 ∧ cm x w d
  | [], h, _, _, _ => h.elim
  | y :: l, h, x, hx, hne => by
    rcases h with ⟨h1, h2⟩ | ⟨h1, h2, h3, w, d, z, g1, g2, g3, g4, g5, g6, g7⟩
    · subst h1; subst h2
      exact absurd (List.mem_singleton.mp hx) hne
    · rcases List.mem_cons.mp hx with h | h
      · subst h; exact ⟨w, d, g1, g2, g7⟩
      · exact TR.by' h1 x h hne
/-- on the way back -/
def WKI (v : xIv) (f0 : Nat → Int) (a b : Nat) (cm : Nat → Nat → Nat → Prop) (N : Int) (l : List Nat) (x : Nat) (f : Nat → Int) : Prop := x ∈ l ∧ TR v f0 a cm l ∧ (∀ w, w < cnt v 0 → -1 ≤ f w ∧ f w ≤ 1) ∧ (∀ g : Nat → Int, fsum v f g = N * (g a - g b) + (g x - g b)) ∧ ∀ w, w < cnt v 0 → eA v w ∈ l → eB v w ∈ l → f w = f0 w
theorem WKI.start {b : Nat} {N : Int} {l : List Nat} (h : FL v a b f N) (hT : TR v f a cm l) (hb : b ∈ l) : WKI v f a b cm N l b f := ⟨hb, hT, h.1, fun g => by rw [h.2 g]; omega, fun _ _ _ _ => rfl⟩
theorem WKI.done {f0 : Nat → Int} {b : Nat} {N : Int} {l : List Nat} (h : WKI v f0 a b cm N l a f) : FL v a b f (N + 1) := ⟨h.2.2.1, fun g => by rw [h.2.2.2.1 g, Int.add_mul, Int.one_mul]⟩
theorem wk_step {f0 : Nat → Int} {b : Nat} {N : Int} (ha : a < 12) : ∀ (l : List Nat) (x : Nat) (f : Nat → Int), WKI v f0 a b cm N l x f → x = a ∨ (x ≠ a ∧ x < 12 ∧ ∃ w d y l', w < cnt v 0 ∧ d < 2 ∧ y < 12 ∧ v 1 (5 * w + d) = nI y ∧ v 1 (5 * w + (1 - d)) = nI x ∧ cm x w d ∧ (-1 ≤ f w + sgd d ∧ f w + sgd d ≤ 1) ∧ l'.length < l.length ∧ WKI v f0 a b cm N l' y (upI f w (f w + sgd d)))
  | [], x, f, h => h.2.1.elim
  | z :: l, x, f, ⟨h1, h2, h3, h4, h5⟩ => by
    have nd := (TR.nd ha h2).2
    rcases h2 with ⟨g1, g2⟩ | ⟨g1, g2, g3, w, d, y, q1, q2, q3, q4, q5, q6, q7⟩
    · subst g1; subst g2
      exact Or.inl (List.mem_singleton.mp h1)
    · by_cases e : x = z
      · subst e
        have hy : y < 12 := nd y (List.mem_cons_of_mem _ q3)
        have hd : d = 0 ∨ d = 1 := by omega
        have ab : (d = 0 ∧ eA v w = y ∧ eB v w = x) ∨ (d = 1 ∧ eA v w = x ∧ eB v w = y) := by
          rcases hd with rfl | rfl
          · refine Or.inl ⟨rfl, ?_, ?_⟩
            · show (v 1 (5 * w + 0)).toNatClampNeg = y
              rw [q4, cl]
            · show (v 1 (5 * w + (1 - 0))).toNatClampNeg = x
              rw [q5, cl]
          · refine Or.inr ⟨rfl, ?_, ?_⟩
            · show (v 1 (5 * w + (1 - 1))).toNatClampNeg = x
              rw [q5, cl]
            · show (v 1 (5 * w + 1)).toNatClampNeg = y
              rw [q4, cl]
        have yl : y ∈ x :: l := List.mem_cons_of_mem _ q3
        have xl : x ∈ x :: l := List.mem_cons_self
        have ef : f w = f0 w := by
          rcases ab with ⟨_, e1, e2⟩ | ⟨_, e1, e2⟩
          · exact h5 w q1 (by rw [e1]; exact yl) (by rw [e2]; exact xl)
          · exact h5 w q1 (by rw [e1]; exact xl) (by rw [e2]; exact yl)
        have bd : -1 ≤ f w + sgd d ∧ f w + sgd d ≤ 1 := by
          have := h3 w q1
          rw [← ef] at q6
          unfold sgd at q6 ⊢
          rcases ab with ⟨e0, _⟩ | ⟨e0, _⟩ <;> subst e0
          · rw [if_pos rfl] at q6 ⊢; omega
          · rw [if_neg (by decide)] at q6 ⊢; omega
        refine Or.inr ⟨fun z => g2 (by rw [z]; exact TR.mem g1), g3, w, d, y, l, q1, q2, hy, q4, q5, q7, bd, by simp, q3, g1, fun w' hw' => ?_, fun g => ?_, fun w' hw' i1 i2 => ?_⟩
        · unfold upI
          by_cases c : w' = w
          · rw [if_pos c]; exact bd
          · rw [if_neg c]; exact h3 w' hw'
        · have s := (sI_up (f := f) (D := fun q => g (eA v q) - g (eB v q)) (w := w) (s := sgd d) (cnt v 0)).2 q1
          have s2 : fsum v (upI f w (f w + sgd d)) g = fsum v f g + sgd d * (g (eA v w) - g (eB v w)) := s
          rw [s2, h4 g]
          unfold sgd
          rcases ab with ⟨e0, e1, e2⟩ | ⟨e0, e1, e2⟩ <;> rw [e1, e2] <;> subst e0
          · rw [if_pos rfl]; omega
          · rw [if_neg (by decide)]; omega
        · have c : w' ≠ w := fun c => by
            subst c
            rcases ab with ⟨_, e1, e2⟩ | ⟨_, e1, e2⟩
            · rw [e2] at i2; exact g2 i2
            · rw [e1] at i1; exact g2 i1
          unfold upI
          rw [if_neg c]
          exact h5 w' hw' (List.mem_cons_of_mem _ i1) (List.mem_cons_of_mem _ i2)
      · have hx : x ∈ l := by
          rcases List.mem_cons.mp h1 with h | h
          · exact absurd h e
          · exact h
        rcases wk_step ha l x f ⟨hx, g1, h3, h4, fun w' hw' i1 i2 => h5 w' hw' (List.mem_cons_of_mem _ i1) (List.mem_cons_of_mem _ i2)⟩ with r | ⟨r1, r2, w, d, y, l', r3, r4, r5, r6, r7, r8, r9, r10, r11⟩
        · exact Or.inl r
        · exact Or.inr ⟨r1, r2, w, d, y, l', r3, r4, r5, r6, r7, r8, r9, by simp only [List.length_cons]; omega, r11⟩
end TREE
