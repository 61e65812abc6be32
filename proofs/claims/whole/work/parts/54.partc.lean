-- ===== parted: the account, and the class =====
def sdf (s o : Nat) : Nat := s - (s &&& o)
theorem sd_op : ∀ s, s < 64 → ∀ o, o < 64 → nI s &&& (nI o ^^^ (-1)) = nI (sdf s o) := by decide +kernel
theorem sd_lt : ∀ s, s < 64 → ∀ o, o < 64 → o &&& s = o → sdf s o + o = s := by decide +kernel
theorem sd_and : ∀ s, s < 64 → ∀ o, o < 64 → (o &&& s) &&& s = o &&& s ∧ o &&& s ≤ o := by decide +kernel
theorem sd_nx {s o : Nat} (ho : 0 < o) (h64 : o < 64) : (nI o - 1) &&& nI s = nI ((o - 1) &&& s) := by
  rw [show nI o - 1 = nI (o - 1) from nI_subN (b := 1) (by omega) (by omega), nx_and]
def shI (A W : Nat → Option Nat) (s : Nat) : Nat → Nat → Option Nat → Option Nat
  | 0, _, b => b
  | r + 1, o, b => if o = 0 then b else shI A W s r ((o - 1) &&& s) (omin b (oadd (A (sdf s o)) (W o)))
def shN (A W : Nat → Option Nat) (s : Nat) : Option Nat := shI A W s 64 s (A s)
theorem shI_0 {A W : Nat → Option Nat} {s : Nat} {b : Option Nat} : ∀ r, shI A W s r 0 b = b
  | 0 => rfl
  | r + 1 => if_pos rfl
theorem shI_S {A W : Nat → Option Nat} {s r o : Nat} {b : Option Nat} (h : o ≠ 0) : shI A W s (r + 1) o b = shI A W s r ((o - 1) &&& s) (omin b (oadd (A (sdf s o)) (W o))) := if_neg h
abbrev AB (A : Nat → Option Nat) (q : Nat) : Prop := ∀ S, S < 64 → oLe (A S) (2772 * (S + q))
theorem shI_le {A W : Nat → Option Nat} {q s : Nat} (hs : s < 64) (hA : AB A q) (hW : AB W 1) : ∀ (r o : Nat) (b : Option Nat), o < 64 → o &&& s = o → oLe b (2772 * (s + (q + 1))) → oLe (shI A W s r o b) (2772 * (s + (q + 1)))
  | 0, _, _, _, _, hb => hb
  | r + 1, o, b, ho, hos, hb => by
    by_cases h0 : o = 0
    · subst h0; rw [shI_0]; exact hb
    · rw [shI_S h0]
      have e := sd_lt s hs o ho hos
      have g := sd_and s hs (o - 1) (by omega)
      refine shI_le hs hA hW r _ _ (by omega) g.1 (omin_le hb (fun c hc => ?_))
      have h1 := oadd_le (hA (sdf s o) (by omega)) (hW o ho) c hc
      have e2 : 2772 * (sdf s o + q) + 2772 * (o + 1) = 2772 * (s + (q + 1)) := by
        rw [← Nat.mul_add]
        congr 1
        omega
      rw [← e2]; exact h1
theorem shN_le {A W : Nat → Option Nat} {q : Nat} (hA : AB A q) (hW : AB W 1) : AB (shN A W) (q + 1) := fun s hs => by
  refine shI_le hs hA hW 64 s (A s) hs (Nat.and_self s) (fun c hc => ?_)
  have := hA s hs c hc
  exact Nat.le_trans this (Nat.mul_le_mul_left 2772 (by omega))
theorem AB_bd {A : Nat → Option Nat} {q S inf : Nat} (hA : AB A q) (hq : q ≤ 9) (hS : S < 64) (hi : 300000 ≤ inf) : oLe (A S) inf := fun c hc => by
  have := hA S hS c hc
  omega
/-- one step, as numbers -/
theorem sh_step {A W : Nat → Option Nat} {q s o inf : Nat} {b : Option Nat} (hA : AB A q) (hW : AB W 1) (hq : q ≤ 8) (hs : sdf s o < 64) (ho : o < 64) (hi : 1000000 ≤ inf) (hb : oLe b inf) : min (b.getD inf) ((A (sdf s o)).getD inf + (W o).getD inf) = (omin b (oadd (A (sdf s o)) (W o))).getD inf := by
  have b1 : oLe (A (sdf s o)) 300000 := AB_bd hA (by omega) hs (by decide)
  have b2 : oLe (W o) 300000 := AB_bd hW (by omega) ho (by decide)
  have e := oadd_n (inf := inf) b1 b2 (by omega)
  have b3 : oLe (oadd (A (sdf s o)) (W o)) inf := fun c hc => by have := oadd_le b1 b2 c hc; omega
  rw [omin_n hb b3, ← e]
  have := getD_le hb
  omega
noncomputable def wfP (sg : xIv) (p S : Nat) : Option Nat := TO (dst (vL sg) (sg 81 (7 * p + 1)).toNatClampNeg) (ePl sg) (sg 81 (7 * p)).toNatClampNeg (cnt (vL sg) 2) S (sg 81 (7 * p + 3)).toNatClampNeg
def paR (Wf : Nat → Nat → Option Nat) (m : Nat) : Nat → Nat → (Nat → Option Nat) → (Nat → Option Nat)
  | 0, _, A => A
  | r + 1, p, A => paR Wf m r (p + 1) (if m.testBit p then shN A (Wf p) else A)
def pa0 (S : Nat) : Option Nat := if S = 0 then some 0 else none
theorem pa0_AB : AB pa0 0 := fun S _ c hc => by
  unfold pa0 at hc
  by_cases h : S = 0
  · rw [if_pos h] at hc; cases hc; exact Nat.zero_le _
  · rw [if_neg h] at hc; cases hc
section PARTC
variable {L : Nat} {xs : Nat → Int32} {iv : xIv} {lg : xLg} {Q : xQ} {sg : xIv} {tw : Nat → Int64} {t : Nat} {A W : Nat → Option Nat} {n q : Nat}
theorem wfP_AB (hG : GG t sg) {p : Nat} (hp : p < cnt (vL sg) 1) : AB (wfP sg p) 1 := fun S hS => by
  obtain ⟨x, hx, ex⟩ := placeOf' hG hp
  unfold wfP
  rw [ex, cl]
  exact TO_le hG.1.2.2.1.2 (DB_of hG _) S S x (Nat.le_refl _) hS hx
def shO (iv : xIv) (K inf : Nat) (A : Nat → Option Nat) (m : Nat) : Prop := ∀ S, S < m → iv K S = nI ((A S).getD inf)
set_option maxRecDepth 100000 in
theorem c_sh_in {s : Nat} {st : Int32} (hq : q ≤ 8) (hs : s < 64) (hA : AB A q) (hW : AB W 1) (h46 : shO iv 46 1000000 A s) (h45 : shO iv 45 1000000 W (s + 1)) : ∀ (r o : Nat) (b : Option Nat) (O B : Int32), o < r → o &&& s = o → O = nI o → B = nI (b.getD 1000000) → oLe b 1000000 → (∀ O', Wp L xs m_Tours_shareWith 38 [some (.ref 43), some (.int st), some (.int (nI s)), some (.int (nI ((shI A W s r o b).getD 1000000))), some (.int O')] [] SH RF iv lg Q) → Wp L xs m_Tours_shareWith 13 [some (.ref 43), some (.int st), some (.int (nI s)), some (.int B), some (.int O)] [] SH RF iv lg Q
  | 0, o, b, O, B, h, _, _, _, _, _ => absurd h (Nat.not_lt_zero _)
  | r + 1, o, b, O, B, h, hos, hO, hB, hb, k => by
    subst hO; subst hB
    have hle : o ≤ s := by rw [← hos]; exact Nat.and_le_right
    by_cases h0 : o = 0
    · subst h0
      rw [shI_0] at k
      refine wgo [13, 38] 100 ?_
      exact And.intro (fun _ => k _) (fun z => absurd (by decide) z)
    · rw [shI_S h0] at k
      have e := sd_lt s hs o (by omega) hos
      have g := sd_and s hs (o - 1) (by omega)
      have eo := sd_op s hs o (by omega)
      have en := sd_nx (s := s) (o := o) (by omega) (by omega)
      have vo : vp_in (nI o) 64 := vp_N (by omega)
      have vs : vp_in (nI s &&& (nI o ^^^ (-1))) 64 := by rw [eo]; exact vp_N (by omega)
      have hpos : ¬ nI o ≤ 0 := fun z => by have := (nI_leI (a := o) (b := 0) (by omega) (by decide)).mp z; omega
      have bA := getD_le (AB_bd (inf := 1000000) hA (by omega) (show sdf s o < 64 by omega) (by decide))
      have bW := getD_le (AB_bd (inf := 1000000) hW (by omega) (show o < 64 by omega) (by decide))
      have bB := getD_le hb
      have ev : imn (nI (b.getD 1000000)) (iv 46 (nI s &&& (nI o ^^^ (-1))).toNatClampNeg + iv 45 (nI o).toNatClampNeg) = nI ((omin b (oadd (A (sdf s o)) (W o))).getD 1000000) := by
        rw [eo, cl, cl, h46 (sdf s o) (by omega), h45 o (by omega), ni_a, imn_nI (by omega) (by omega), sh_step hA hW hq (by omega) (by omega) (by decide) hb]
      have b3 : oLe (omin b (oadd (A (sdf s o)) (W o))) 1000000 := omin_le hb (fun c hc => by
        have := oadd_le (AB_bd (inf := 300000) hA (by omega) (show sdf s o < 64 by omega) (by decide)) (AB_bd (inf := 300000) hW (by omega) (show o < 64 by omega) (by decide)) c hc
        omega)
      have nx : ∀ O B : Int32, O = nI ((o - 1) &&& s) → B = nI ((omin b (oadd (A (sdf s o)) (W o))).getD 1000000) → Wp L xs m_Tours_shareWith 13 [some (.ref 43), some (.int st), some (.int (nI s)), some (.int B), some (.int O)] [] SH RF iv lg Q := fun O B hO hB => c_sh_in hq hs hA hW h46 h45 r ((o - 1) &&& s) _ O B (by omega) g.1 hO hB b3 k
      clear k
      refine wgo [13, 38] 100 ?_
      refine And.intro (fun z => absurd z hpos) (fun _ => ?_)
      refine And.intro vs ?_
      refine And.intro vo ?_
      exact nx _ _ en ev
set_option maxRecDepth 100000 in
theorem c_sh_out {st : Int32} (hq : q ≤ 8) (hA : AB A q) (hW : AB W 1) : ∀ (s : Nat) (V : Int32) (iv : xIv) (o3 o4 : Option Value), s < 64 → V = nI s → shO iv 46 1000000 A (s + 1) → shO iv 45 1000000 W (s + 1) → (∀ iv', (∀ S, S < s + 1 → iv' 46 S = nI ((shN A W S).getD 1000000)) → (∀ S, s + 1 ≤ S → iv' 46 S = iv 46 S) → (∀ k, k ≠ 46 → iv' k = iv k) → Q none SH RF iv' lg) → Wp L xs m_Tours_shareWith 4 [some (.ref 43), some (.int st), some (.int V), o3, o4] [] SH RF iv lg Q
  | 0, V, iv, o3, o4, hs, hV, h46, h45, k => by
    subst hV
    have kk := k iv (fun S hS => by
      obtain rfl : S = 0 := by omega
      rw [h46 0 (by omega)]
      unfold shN
      rw [shI_0]) (fun _ _ => rfl) (fun _ _ => rfl)
    clear k
    refine wgo [4] 100 ?_
    exact And.intro (fun _ => kk) (fun z => absurd (by decide) z)
  | s + 1, V, iv, o3, o4, hs, hV, h46, h45, k => by
    subst hV
    have hpos : ¬ nI (s + 1) ≤ 0 := fun z => by have := (nI_leI (a := s + 1) (b := 0) (by omega) (by decide)).mp z; omega
    have vs : vp_in (nI (s + 1)) 64 := vp_N (by omega)
    have bd : oLe (A (s + 1)) 1000000 := AB_bd hA (by omega) (by omega) (by decide)
    have nxt : Wp L xs m_Tours_shareWith 4 [some (.ref 43), some (.int st), some (.int (nI (s + 1) + (-1))), some (.int (nI ((shN A W (s + 1)).getD 1000000))), some (.int 0)] [] SH RF (xu2 iv 46 (s + 1) (nI ((shN A W (s + 1)).getD 1000000))) lg Q := by
      refine c_sh_out hq hA hW s _ _ _ _ (by omega) ?_ (fun S hS => ?_) (fun S hS => ?_) (fun iv' c1 c2 c3 => k iv' (fun S hS => ?_) (fun S hS => ?_) (fun k hk => (c3 k hk).trans (xu2_ne hk)))
      · rw [dm1]; exact nI_subN (b := 1) (by omega) (by omega)
      · rw [xu2_j (by omega)]; exact h46 S (by omega)
      · rw [xu2_k (by decide)]; exact h45 S (by omega)
      · by_cases c : S = s + 1
        · rw [c, c2 _ (Nat.le_refl _), xu2_s]
        · exact c1 S (by omega)
      · rw [c2 S (by omega), xu2_j (by omega)]
    have all : ∀ O', Wp L xs m_Tours_shareWith 38 [some (.ref 43), some (.int st), some (.int (nI (s + 1))), some (.int (nI ((shN A W (s + 1)).getD 1000000))), some (.int O')] [] SH RF iv lg Q := fun O' => by
      have nx2 : ∀ o4 : Option Value, Wp L xs m_Tours_shareWith 4 [some (.ref 43), some (.int st), some (.int (nI (s + 1) + (-1))), some (.int (nI ((shN A W (s + 1)).getD 1000000))), o4] [] SH RF (xu2 iv 46 (nI (s + 1)).toNatClampNeg (nI ((shN A W (s + 1)).getD 1000000))) lg Q := fun o4 => by
        rw [cl]
        refine c_sh_out hq hA hW s _ _ _ _ (by omega) ?_ (fun S hS => ?_) (fun S hS => ?_) (fun iv' c1 c2 c3 => k iv' (fun S hS => ?_) (fun S hS => ?_) (fun k hk => (c3 k hk).trans (xu2_ne hk)))
        · rw [dm1]; exact nI_subN (b := 1) (by omega) (by omega)
        · rw [xu2_j (by omega)]; exact h46 S (by omega)
        · rw [xu2_k (by decide)]; exact h45 S (by omega)
        · by_cases c : S = s + 1
          · rw [c, c2 _ (Nat.le_refl _), xu2_s]
          · exact c1 S (by omega)
        · rw [c2 S (by omega), xu2_j (by omega)]
      clear k nxt
      refine wgo [4] 100 ?_
      refine And.intro vs ?_
      exact nx2 _
    have inn : ∀ B : Int32, B = nI ((A (s + 1)).getD 1000000) → Wp L xs m_Tours_shareWith 13 [some (.ref 43), some (.int st), some (.int (nI (s + 1))), some (.int B), some (.int (nI (s + 1)))] [] SH RF iv lg Q := fun B hB => c_sh_in hq hs hA hW (fun S hS => h46 S (by omega)) h45 64 (s + 1) (A (s + 1)) _ B (by omega) (Nat.and_self _) rfl hB bd all
    clear k nxt all
    refine wgo [4, 13] 100 ?_
    refine And.intro (fun z => absurd z hpos) (fun _ => ?_)
    refine And.intro vs ?_
    exact inn _ (by rw [cl]; exact h46 (s + 1) (by omega))
set_option maxRecDepth 100000 in
theorem c_share (hn : n ≤ 6) (hq : q ≤ 8) (hA : AB A q) (hW : AB W 1) (h46 : shO iv 46 1000000 A (2 ^ n)) (h45 : shO iv 45 1000000 W (2 ^ n)) (k : ∀ iv', shO iv' 46 1000000 (shN A W) (2 ^ n) → (∀ k, k ≠ 46 → iv' k = iv k) → Q none SH RF iv' lg) : Sp L xs m_Tours_shareWith [.ref 43, .int (nI (2 ^ n))] SH RF iv lg Q := by
  have h64 := pw6 n (by omega)
  have e1 : nI (2 ^ n) - 1 = nI (2 ^ n - 1) := nI_subN (b := 1) (by omega) (by omega)
  have key : Wp L xs m_Tours_shareWith 4 [some (.ref 43), some (.int (nI (2 ^ n))), some (.int (nI (2 ^ n) - 1)), none, none] [] SH RF iv lg Q :=
    c_sh_out hq hA hW (2 ^ n - 1) _ iv _ _ (by omega) e1 (fun S hS => h46 S (by omega)) (fun S hS => h45 S (by omega)) (fun iv' c1 c2 c3 => k iv' (fun S hS => c1 S (by omega)) c3)
  clear k
  refine sgo [4] 100 ?_
  exact key
set_option maxRecDepth 100000 in
theorem c_least_l {m : Nat} (hG : GG t sg) (hm : m < 256) : ∀ (r p q : Nat) (X : Int32) (iv : xIv) (A : Nat → Option Nat), p + r = cnt (vL sg) 1 → q ≤ p → X = nI p → CX iv lg sg tw → AB A q → shO iv 46 1000000 A (2 ^ cnt (vL sg) 2) → (∀ iv', CX iv' lg sg tw → refS iv' lg iv lg → Q (some (.int (nI ((paR (wfP sg) m r p A (2 ^ cnt (vL sg) 2 - 1)).getD 1000000)))) SH RF iv' lg) → Wp L xs m_Tours_leastParted 17 [some (.ref 43), some (.int (nI m)), some (.int (nI (2 ^ cnt (vL sg) 2))), some (.int X)] [] SH RF iv lg Q
  | 0, p, q, X, iv, A, h, hq, hX, hC, hA, h46, k => by
    obtain rfl : p = cnt (vL sg) 1 := by omega
    subst hX
    have h6 := hG.1.2.2.1.2
    have h64 := pw6 (cnt (vL sg) 2) (by omega)
    have kk := k iv hC refS.rfl
    have hn := nP_c hC hG
    have e1 : nI (2 ^ cnt (vL sg) 2) - 1 = nI (2 ^ cnt (vL sg) 2 - 1) := nI_subN (b := 1) (by omega) (by omega)
    have v1 : vp_in (nI (2 ^ cnt (vL sg) 2) - 1) 64 := by rw [e1]; exact vp_N (by omega)
    clear k
    refine wgo [17] 100 ?_
    refine And.intro (fun _ => ?_) (fun z => absurd (by rw [hn]; exact il.mpr (Int.le_refl _)) z)
    refine And.intro v1 ?_
    exact qv kk (by rw [e1, cl]; exact h46 _ (by omega))
  | r + 1, p, q, X, iv, A, h, hq, hX, hC, hA, h46, k => by
    subst hX
    have h8 := hG.1.2.1.2
    have h6 := hG.1.2.2.1.2
    have h64 := pw6 (cnt (vL sg) 2) (by omega)
    have hn := nP_c hC hG
    have hp : p < cnt (vL sg) 1 := by omega
    have hlt : nI p < iv 8 0 := by rw [hn]; exact nI_lt hp (by omega)
    have hbit := nx_bit (k := m) (x := p) (by omega) (by omega)
    have hb2 : m.testBit p = true ∨ m.testBit p = false := by cases m.testBit p <;> simp
    rcases hb2 with hb | hb
    · have hnb : ¬ (nI m >>> (nI p &&& 31)) &&& 1 = 0 := fun z => by rw [hbit.mp z] at hb; cases hb
      have e : paR (wfP sg) m (r + 1) p A = paR (wfP sg) m r (p + 1) (shN A (wfP sg p)) := by
        show paR (wfP sg) m r (p + 1) (if m.testBit p then shN A (wfP sg p) else A) = _
        rw [if_pos hb]
      rw [e] at k
      obtain ⟨kd, hkd, ek⟩ := kindOf hG hp
      obtain ⟨hm', hhm, eh⟩ := homeOf hG hp
      obtain ⟨x, hx, ex⟩ := placeOf' hG hp
      refine wgo [17] 100 ?_
      refine And.intro (fun z => absurd hlt (lenl z)) (fun _ => ?_)
      refine And.intro (fun z => absurd z hnb) (fun _ => ?_)
      refine c_weigh hC hG hp hkd ek hhm eh hx ex (fun iv1 C1 R1 T1 S1 W1 r46 => ?_)
      refine c_share h6 (q := q) (A := A) (W := wfP sg p) (by omega) hA (wfP_AB hG hp) (fun S hS => by rw [r46]; exact h46 S hS) (fun S hS => ?_) (fun iv2 d1 d2 => ?_)
      · unfold wfP
        rw [ek, eh, ex, cl, cl, cl]
        exact W1 S hS
      · exact c_least_l hG hm r (p + 1) (q + 1) _ iv2 (shN A (wfP sg p)) (by omega) (by omega) (nI_1 p) (C1.wN (fun k hk => d2 k (by omega))) (shN_le hA (wfP_AB hG hp)) d1 (fun iv' c1 c2 => k iv' c1 (c2.trans ⟨fun k hk => (d2 k (by omega)).trans (R1.1 k hk), R1.2⟩))
    · have e : paR (wfP sg) m (r + 1) p A = paR (wfP sg) m r (p + 1) A := by
        show paR (wfP sg) m r (p + 1) (if m.testBit p then shN A (wfP sg p) else A) = _
        rw [if_neg (by rw [hb]; decide)]
      rw [e] at k
      refine wgo [17] 100 ?_
      refine And.intro (fun z => absurd hlt (lenl z)) (fun _ => ?_)
      refine And.intro (fun _ => ?_) (fun z => absurd (hbit.mpr hb) z)
      exact c_least_l hG hm r (p + 1) q _ iv A (by omega) (by omega) (nI_1 p) hC hA h46 k
/-- the answer -/
noncomputable def opPa (sg : xIv) (m : Nat) : Option Nat := paR (wfP sg) m (cnt (vL sg) 1) 0 pa0 (2 ^ cnt (vL sg) 2 - 1)
theorem paR_AB (hG : GG t sg) {m : Nat} : ∀ (r p q : Nat) (A : Nat → Option Nat), p + r = cnt (vL sg) 1 → q ≤ p → AB A q → ∃ q', q' ≤ 8 ∧ AB (paR (wfP sg) m r p A) q'
  | 0, p, q, A, h, hq, hA => ⟨q, by have := hG.1.2.1.2; omega, hA⟩
  | r + 1, p, q, A, h, hq, hA => by
    show ∃ q', q' ≤ 8 ∧ AB (paR (wfP sg) m r (p + 1) (if m.testBit p then shN A (wfP sg p) else A)) q'
    by_cases hb : m.testBit p = true
    · rw [if_pos hb]
      exact paR_AB hG r (p + 1) (q + 1) _ (by omega) (by omega) (shN_le hA (wfP_AB hG (by omega)))
    · rw [if_neg hb]
      exact paR_AB hG r (p + 1) q A (by omega) (by omega) hA
theorem opPa_bd (hG : GG t sg) {m : Nat} : oLe (opPa sg m) 300000 := by
  have h6 := hG.1.2.2.1.2
  have h64 := pw6 (cnt (vL sg) 2) (by omega)
  obtain ⟨q', h1, h2⟩ := paR_AB hG (m := m) (cnt (vL sg) 1) 0 0 pa0 (Nat.zero_add _) (Nat.le_refl _) pa0_AB
  show oLe (paR (wfP sg) m (cnt (vL sg) 1) 0 pa0 (2 ^ cnt (vL sg) 2 - 1)) 300000
  exact AB_bd h2 (by omega) (by omega) (by decide)
set_option maxRecDepth 100000 in
theorem c_least {m : Nat} (hG : GG t sg) (hm : m < 256) (hC : CX iv lg sg tw) (k : ∀ iv', CX iv' lg sg tw → refS iv' lg iv lg → Q (some (.int (nI ((opPa sg m).getD 1000000)))) SH RF iv' lg) : Sp L xs m_Tours_leastParted [.ref 43, .int (nI m)] SH RF iv lg Q := by
  have h6 := hG.1.2.2.1.2
  have h64 := pw6 (cnt (vL sg) 2) (by omega)
  have e12 : (1 : Int32) <<< (iv 1 2 &&& 31) = nI (2 ^ cnt (vL sg) 2) := by rw [nE_c hC hG]; exact sh_n _ (by omega)
  have key : ∀ iv', (∀ k, k ≠ 46 → iv' k = iv k) → (∀ j, j < 64 → iv' 46 j = 1000000) → Wp L xs m_Tours_leastParted 17 [some (.ref 43), some (.int (nI m)), some (.int ((1 : Int32) <<< (iv 1 2 &&& 31))), some (.int 0)] [] SH RF (xu2 iv' 46 (0 : Int32).toNatClampNeg 0) lg Q := fun iv1 g1 g2 => by
    rw [e12, show (0 : Int32).toNatClampNeg = 0 from rfl]
    refine c_least_l hG hm _ 0 0 _ _ pa0 (Nat.zero_add _) (Nat.le_refl _) rfl (hC.wN (fun k hk => by rw [xu2_ne (by omega), g1 k (by omega)])) pa0_AB (fun S hS => ?_) (fun iv' c1 c2 => k iv' c1 (c2.trans ⟨fun k hk => by rw [xu2_ne (by omega), g1 k (by omega)], fun _ _ => rfl⟩))
    unfold pa0
    by_cases c : S = 0
    · rw [c, xu2_s, if_pos rfl]; rfl
    · rw [xu2_j c, g2 S (by omega), if_neg c]; rfl
  clear k
  refine sgo [17] 100 ?_
  refine s_fillI (K := 46) (n := 64) (by unfold fiOK; omega) (fun iv1 c1 c2 => ?_)
  refine And.intro (vp_N (p := 0) (n := 64) (by decide)) ?_
  exact key iv1 c1 c2
abbrev okPa (sg : xIv) (a : Int32) : Prop := 1 ≤ a ∧ a ≤ nI (2 ^ cnt (vL sg) 1 - 1)
theorem pw8 : ∀ n, n < 9 → 1 ≤ 2 ^ n ∧ 2 ^ n ≤ 256 := by decide
theorem okPa_of (hG : GG t sg) {a : Int32} (h : okPa sg a) : ∃ m, m < 256 ∧ a = nI m := by
  have h8 := hG.1.2.1.2
  have h64 := pw8 (cnt (vL sg) 1) (by omega)
  obtain ⟨h1, h2⟩ := h
  rw [il, nI_toInt (by omega)] at h2
  rw [il, tl1] at h1
  exact ⟨a.toInt.toNat, by omega, nI_of_toInt (by omega)⟩
set_option maxRecDepth 100000 in
theorem c_parted {a : Int32} (hC : CX iv lg sg tw) (hG : GG t sg) (k1 : ∀ m, m < 256 → a = nI m → okPa sg a → ∀ iv', CX iv' lg sg tw → refS iv' lg iv lg → Q (some (.int (orN (opPa sg m)))) SH RF iv' lg) (k2 : ¬ okPa sg a → Q (some (.int (-1))) SH RF iv lg) : Sp L xs m_SR_parted [.ref 0, .int a] SH RF iv lg Q := by
  have h8 := hG.1.2.1.2
  have h64 := pw8 (cnt (vL sg) 1) (by omega)
  have e1 : (1 : Int32) <<< (iv 8 0 &&& 31) - 1 = nI (2 ^ cnt (vL sg) 1 - 1) := by rw [nP_c hC hG, sh_n _ (by omega)]; exact nI_subN (b := 1) (by omega) (by omega)
  refine sgo [] 100 ?_
  refine s_within (fun h1 => ?_) (fun h1 => ?_)
  · rw [e1] at h1
    refine c1 ?_
    obtain ⟨m, hm, rfl⟩ := okPa_of hG h1
    have bd := opPa_bd hG (m := m)
    have kk := k1 m hm rfl h1
    clear k1 k2
    refine c_least hG hm hC (fun iv1 C1 R1 => ?_)
    have k3 := kk iv1 C1 R1
    cases eo : opPa sg m with
    | none =>
      rw [eo] at k3
      refine s_orNone (fun _ => ?_) (fun z => absurd (by decide) z)
      exact k3
    | some c =>
      rw [eo] at k3
      have bc := bd c eo
      refine s_orNone (fun z => absurd ((nI_leI (a := 1000000) (b := c) (by decide) (by omega)).mp z) (by omega)) (fun _ => ?_)
      exact k3
  · rw [e1] at h1
    refine c0 ?_
    exact k2 h1
end PARTC
