-- ===== the reference's distances =====
theorem nI_half {j : Nat} (h : j < 2 ^ 31) : nI j / 2 = nI (j / 2) := by
  refine nI_of_toInt ?_
  rw [halfI (by rw [nI_toInt h]; omega), nI_toInt h]
  omega
theorem nI_rem {j : Nat} (h : j < 2 ^ 30) : nI j - nI j / 2 * 2 = nI (j % 2) := by
  rw [nI_half (by omega)]
  refine nI_of_toInt ?_
  have e : (nI (j / 2) * 2).toInt = (j / 2 : Nat) * 2 := by
    rw [mulI] <;> rw [nI_toInt (by omega), tl2] <;> omega
  rw [subI] <;> rw [e, nI_toInt (by omega)] <;> omega
theorem nI_subN {a b : Nat} (h : b ≤ a) (ha : a < 2 ^ 31) : nI a - nI b = nI (a - b) := by
  refine nI_of_toInt ?_
  rw [subI] <;> rw [nI_toInt (by omega), nI_toInt (by omega)] <;> omega
/-- the sum of the first n -/
def smN (F : Nat → Nat) : Nat → Nat
  | 0 => 0
  | n + 1 => smN F n + F n
def upF (F : Nat → Nat) (a x : Nat) : Nat → Nat := fun p => if p = a then x else F p
theorem smN_up {F : Nat → Nat} {a x : Nat} (h : x < F a) : ∀ n, (n ≤ a → smN (upF F a x) n = smN F n) ∧ (a < n → smN (upF F a x) n < smN F n)
  | 0 => ⟨fun _ => rfl, fun z => absurd z (Nat.not_lt_zero a)⟩
  | n + 1 => by
    obtain ⟨h1, h2⟩ := smN_up h n
    have e : smN (upF F a x) (n + 1) = smN (upF F a x) n + upF F a x n := rfl
    have e2 : smN F (n + 1) = smN F n + F n := rfl
    refine ⟨fun z => ?_, fun z => ?_⟩
    · rw [e, e2, h1 (by omega)]
      unfold upF
      rw [if_neg (by omega)]
    · rw [e, e2]
      unfold upF at *
      by_cases c : n = a
      · subst c
        rw [if_pos rfl, h1 (Nat.le_refl n)]
        omega
      · rw [if_neg c]
        have := h2 (by omega)
        omega
section FF
variable {L : Nat} {xs : Nat → Int32} {iv : xIv} {lg : xLg} {Q : xQ} {sg : xIv} {tw : Nat → Int64} {t : Nat}
def FB (iv : xIv) (F : Nat → Nat) : Prop := ∀ a, a < 12 → iv 85 a = nI (F a)
def FS (v : xIv) (kd to : Nat) (F : Nat → Nat) : Prop := (∀ a, F a ≤ 100000000) ∧ F to = 0 ∧ ∀ a, a < 12 → F a < 100000000 → ∃ n, Wk v kd n a to (F a)
def RX (v : xIv) (kd : Nat) (F : Nat → Nat) (e : Nat) : Prop := ∀ a b, a < 12 → b < 12 → v 1 (5 * (e / 2) + e % 2) = nI a → v 1 (5 * (e / 2) + (1 - e % 2)) = nI b → F a ≤ F b + wcost v kd (e / 2) (e % 2)
theorem FF_done {v : xIv} {kd to : Nat} {F : Nat → Nat} (hw : ∀ w, w < cnt v 0 → okW v w) (hS : FS v kd to F) (hR : ∀ e, e < 2 * cnt v 0 → RX v kd F e) {a : Nat} (ha : a < 12) : nI (F a) = enc 100000000 (dst v kd a to) := by
  have low : ∀ n a c, a < 12 → Wk v kd n a to c → F a ≤ c := by
    intro n
    induction n with
    | zero => intro a c ha hW; obtain ⟨rfl, rfl⟩ := hW; rw [hS.2.1]; exact Nat.le_refl 0
    | succ n ih =>
      intro a c ha ⟨w, d, a', c', g1, g2, g3, g4, g5, g6, g7⟩
      have e1 := hR (2 * w + d) (by omega) a a' ha g5
      have ed : (2 * w + d) / 2 = w := by omega
      have em : (2 * w + d) % 2 = d := by omega
      rw [ed, em] at e1
      have e2 := ih a' c' g5 g6
      have e3 := e1 g3 g4
      omega
  unfold enc
  rw [dst_of hw ha (by decide) (hS.1 a) (hS.2.2 a ha) (fun n c => low n a c ha)]
/-- a working row of the reference's -/
theorem MV.w85 {iv' : xIv} (hM : MV iv lg sg tw) (h : ∀ k, k ≠ 85 → iv' k = iv k) : MV iv' lg sg tw := hM.wk (fun j _ _ => by rw [h 79 (by decide)]) (fun k hk => h k (by omega))
set_option maxRecDepth 100000 in
theorem m_ff_0 {kd to : Nat} (hto : to < 12) : ∀ (r p : Nat) (x : Int32) (iv : xIv), p + r = 12 → x = nI p → (∀ a, a < p → iv 85 a = nI (if a = to then 0 else 100000000)) → (∀ iv', (∀ a, a < 12 → iv' 85 a = nI (if a = to then 0 else 100000000)) → (∀ k, k ≠ 85 → iv' k = iv k) → Wp L xs m_Mo_findFar 19 [some (.ref 79), some (.int (nI kd)), some (.int (nI to)), some (.int 1), none, none, none, none] [] SH RF iv' lg Q) → Wp L xs m_Mo_findFar 2 [some (.ref 79), some (.int (nI kd)), some (.int (nI to)), some (.int x), none, none, none, none] [] SH RF iv lg Q
  | 0, p, x, iv, h, hx, h1, k => by
    obtain rfl : p = 12 := by omega
    subst hx
    refine wgo [2, 19] 100 ?_
    exact And.intro (fun _ => k iv h1 (fun _ _ => rfl)) (fun z => absurd (by decide) z)
  | r + 1, p, x, iv, h, hx, h1, k => by
    subst hx
    have hv : vp_in (nI p) 12 := vp_N (by omega)
    have key : ∀ v : Int32, v = nI (if p = to then 0 else 100000000) → Wp L xs m_Mo_findFar 2 [some (.ref 79), some (.int (nI kd)), some (.int (nI to)), some (.int (nI p + 1)), none, none, none, none] [] SH RF (xu2 iv 85 (nI p).toNatClampNeg v) lg Q := fun v ev => by
      rw [cl, ev]
      refine m_ff_0 hto r (p + 1) _ _ (by omega) (nI_1 p) (fun a ha => ?_) (fun iv' c1 c2 => k iv' c1 (fun k hk => by rw [c2 k hk, xu2_ne hk]))
      by_cases e : a = p
      · rw [e, xu2_s]
      · rw [xu2_j e]; exact h1 a (by omega)
    refine wgo [2, 19] 100 ?_
    refine And.intro (fun z => absurd (lt12 (show p < 12 by omega)) (lenl z)) (fun _ => ?_)
    refine And.intro (fun z => ?_) (fun z => ?_)
    · refine And.intro hv ?_
      exact key _ (by rw [if_neg (fun w => z (by rw [w]))]; rfl)
    · refine And.intro hv ?_
      exact key _ (by rw [if_pos ((nI_eq (by omega) (by omega)).mp (Decidable.not_not.mp z))]; rfl)
set_option maxRecDepth 100000 in
theorem m_ff_in {kd to : Nat} {S : Nat} (hkd : kd < 4) (hto : to < 12) (hG : GG t sg) : ∀ (r j : Nat) (x mo : Int32) (iv : xIv) (F : Nat → Nat) (o5 o6 : Option Value) (o7 : Option Int32), j + r = 2 * cnt (vL sg) 0 → x = nI j → MV iv lg sg tw → FB iv F → FS (vL sg) kd to F → ((mo = 0 ∧ smN F 12 = S ∧ ∀ e, e < j → RX (vL sg) kd F e) ∨ (mo = 1 ∧ smN F 12 < S)) → (∀ iv' F' mo' o4' o5' o6' (o7' : Option Int32), FB iv' F' → FS (vL sg) kd to F' → ((mo' = 0 ∧ ∀ e, e < 2 * cnt (vL sg) 0 → RX (vL sg) kd F' e) ∨ (mo' = 1 ∧ smN F' 12 < S)) → (∀ k, k ≠ 85 → iv' k = iv k) → Wp L xs m_Mo_findFar 19 [some (.ref 79), some (.int (nI kd)), some (.int (nI to)), some (.int mo'), o4', o5', o6', o7'.map Value.int] [] SH RF iv' lg Q) → Wp L xs m_Mo_findFar 25 [some (.ref 79), some (.int (nI kd)), some (.int (nI to)), some (.int mo), some (.int x), o5, o6, o7.map Value.int] [] SH RF iv lg Q
  | 0, j, x, mo, iv, F, o5, o6, o7, h, hx, hM, hB, hS, hm, k => by
    obtain rfl : j = 2 * cnt (vL sg) 0 := by omega
    subst hx
    have hn : (2 : Int32) * iv 79 1 = nI (2 * cnt (vL sg) 0) := by rw [nW_m hM hG]; exact pk_mul 2 _
    refine wgo [19, 25] 100 ?_
    refine And.intro (fun _ => ?_) (fun z => absurd (by rw [hn]; exact il.mpr (Int.le_refl _)) z)
    refine k iv F _ _ _ _ o7 hB hS ?_ (fun _ _ => rfl)
    rcases hm with ⟨a1, a2, a3⟩ | ⟨a1, a2⟩
    · exact Or.inl ⟨a1, a3⟩
    · exact Or.inr ⟨a1, a2⟩
  | r + 1, j, x, mo, iv, F, o5, o6, o7, h, hx, hM, hB, hS, hm, k => by
    subst hx
    have h24 := hG.1.1.2
    have hn : (2 : Int32) * iv 79 1 = nI (2 * cnt (vL sg) 0) := by rw [nW_m hM hG]; exact pk_mul 2 _
    have hw : j / 2 < cnt (vL sg) 0 := by omega
    have okw := hG.1.2.2.2.2.2.1 (j / 2) hw
    have hd : j % 2 < 2 := by omega
    have ends : ∃ a b, a < 12 ∧ b < 12 ∧ vL sg 1 (5 * (j / 2) + j % 2) = nI a ∧ vL sg 1 (5 * (j / 2) + (1 - j % 2)) = nI b := by
      obtain ⟨a, ha, ea⟩ := isN_of okw.1 (by decide)
      obtain ⟨b, hb, eb⟩ := isN_of okw.2.1 (by decide)
      have h01 : j % 2 = 0 ∨ j % 2 = 1 := by omega
      rcases h01 with e | e <;> rw [e]
      · exact ⟨a, b, ha, hb, ea, eb⟩
      · exact ⟨b, a, hb, ha, eb, ea⟩
    obtain ⟨a, b, ha, hb, ea, eb⟩ := ends
    have eh : nI j / 2 = nI (j / 2) := nI_half (by omega)
    have er : nI j - nI j / 2 * 2 = nI (j % 2) := nI_rem (by omega)
    have i1 : (5 : Int32) * (nI j / 2) + (nI j - nI j / 2 * 2) = nI (5 * (j / 2) + j % 2) := by rw [er, eh, ni5, ni_a]
    have i2 : (5 : Int32) * (nI j / 2) + 1 - (nI j - nI j / 2 * 2) = nI (5 * (j / 2) + (1 - j % 2)) := by
      rw [er, eh, ni5, nI_1, nI_subN (by omega) (by omega)]
      congr 1
      omega
    have v1 : vp_in ((5 : Int32) * (nI j / 2) + (nI j - nI j / 2 * 2)) 120 := by rw [i1]; exact vp_N (by omega)
    have v2 : vp_in ((5 : Int32) * (nI j / 2) + 1 - (nI j - nI j / 2 * 2)) 120 := by rw [i2]; exact vp_N (by omega)
    have ra : iv 80 ((5 : Int32) * (nI j / 2) + (nI j - nI j / 2 * 2)).toNatClampNeg = nI a := by rw [i1, cl, hM.2.1.1]; exact ea
    have rb : iv 80 ((5 : Int32) * (nI j / 2) + 1 - (nI j - nI j / 2 * 2)).toNatClampNeg = nI b := by rw [i2, cl, hM.2.1.1]; exact eb
    have va : vp_in (iv 80 ((5 : Int32) * (nI j / 2) + (nI j - nI j / 2 * 2)).toNatClampNeg) 12 := by rw [ra]; exact vp_N ha
    have vb : vp_in (iv 80 ((5 : Int32) * (nI j / 2) + 1 - (nI j - nI j / 2 * 2)).toNatClampNeg) 12 := by rw [rb]; exact vp_N hb
    have fa : iv 85 (iv 80 ((5 : Int32) * (nI j / 2) + (nI j - nI j / 2 * 2)).toNatClampNeg).toNatClampNeg = nI (F a) := by rw [ra, cl]; exact hB a ha
    have fb : iv 85 (iv 80 ((5 : Int32) * (nI j / 2) + 1 - (nI j - nI j / 2 * 2)).toNatClampNeg).toNatClampNeg = nI (F b) := by rw [rb, cl]; exact hB b hb
    have cb := (wcost_bd (k := kd) (d := j % 2) okw).2
    have bA := hS.1 a
    have bB := hS.1 b
    have esum : iv 85 (iv 80 ((5 : Int32) * (nI j / 2) + 1 - (nI j - nI j / 2 * 2)).toNatClampNeg).toNatClampNeg + nI (wcost (vL sg) kd (j / 2) (j % 2)) = nI (F b + wcost (vL sg) kd (j / 2) (j % 2)) := by rw [fb, ni_a]
    have cst := fun Q2 => m_costOf (L := L) (xs := xs) (Q := Q2) (w := j / 2) (k := kd) (d := j % 2) hM hG hw hkd hd
    rw [← eh, ← er] at cst
    cases o7
    all_goals
      refine wgo [19, 25] 100 ?_
      refine And.intro (fun z => absurd (nI_lt (show j < 2 * cnt (vL sg) 0 by omega) (by omega)) (by rw [hn] at z; exact lenl z)) (fun _ => ?_)
      refine And.intro (by decide) ?_
      refine And.intro (by decide) ?_
      refine And.intro v1 ?_
      refine And.intro (by decide) ?_
      refine And.intro (by decide) ?_
      refine And.intro v2 ?_
      refine And.intro vb ?_
      refine And.intro (by decide) ?_
      refine And.intro (by decide) ?_
      refine cst _ ?_
      refine And.intro va ?_
      refine And.intro (fun z => ?_) (fun z => ?_)
      · rw [fa, esum] at z
        have z2 : F a ≤ F b + wcost (vL sg) kd (j / 2) (j % 2) := (nI_leI (by omega) (by omega)).mp z
        refine m_ff_in hkd hto hG r (j + 1) _ mo iv F _ _ (some _) (by omega) (nI_1 j) hM hB hS ?_ k
        rcases hm with ⟨a1, a2, a3⟩ | ⟨a1, a2⟩
        · refine Or.inl ⟨a1, a2, fun e he => ?_⟩
          by_cases c : e = j
          · subst c
            intro p q hp hq ep eq'
            have e1 : p = a := (nI_eq (by omega) (by omega)).mp (ep.symm.trans ea)
            have e2 : q = b := (nI_eq (by omega) (by omega)).mp (eq'.symm.trans eb)
            subst e1; subst e2
            exact z2
          · exact a3 e (by omega)
        · exact Or.inr ⟨a1, a2⟩
      · rw [fa, esum] at z
        have z2 : F b + wcost (vL sg) kd (j / 2) (j % 2) < F a := Nat.lt_of_not_le (fun w => z ((nI_leI (by omega) (by omega)).mpr w))
        refine And.intro va ?_
        have hB2 : FB (xu2 iv 85 (iv 80 ((5 : Int32) * (nI j / 2) + (nI j - nI j / 2 * 2)).toNatClampNeg).toNatClampNeg (iv 85 (iv 80 ((5 : Int32) * (nI j / 2) + 1 - (nI j - nI j / 2 * 2)).toNatClampNeg).toNatClampNeg + nI (wcost (vL sg) kd (j / 2) (j % 2)))) (upF F a (F b + wcost (vL sg) kd (j / 2) (j % 2))) := by
          rw [esum, ra, cl]
          intro p hp
          unfold upF
          by_cases c : p = a
          · rw [c, xu2_s, if_pos rfl]
          · rw [xu2_j c, if_neg c]
            exact hB p hp
        have hS2 : FS (vL sg) kd to (upF F a (F b + wcost (vL sg) kd (j / 2) (j % 2))) := by
          obtain ⟨s1, s2, s3⟩ := hS
          refine ⟨fun p => ?_, ?_, fun p hp hlt => ?_⟩
          · unfold upF
            split
            · omega
            · exact s1 p
          · unfold upF
            rw [if_neg (fun c => by rw [← c, s2] at z2; omega)]
            exact s2
          · unfold upF at hlt ⊢
            by_cases c : p = a
            · rw [if_pos c]
              obtain ⟨n, hn⟩ := s3 b hb (by omega)
              subst c
              exact ⟨n + 1, j / 2, j % 2, b, F b, hw, hd, ea, eb, hb, hn, by omega⟩
            · rw [if_neg c] at hlt ⊢
              exact s3 p hp hlt
        have hlt : smN (upF F a (F b + wcost (vL sg) kd (j / 2) (j % 2))) 12 < S := by
          have := (smN_up z2 12).2 ha
          rcases hm with ⟨a1, a2, a3⟩ | ⟨a1, a2⟩ <;> omega
        have M2 := hM.w85 (iv' := xu2 iv 85 (iv 80 ((5 : Int32) * (nI j / 2) + (nI j - nI j / 2 * 2)).toNatClampNeg).toNatClampNeg (iv 85 (iv 80 ((5 : Int32) * (nI j / 2) + 1 - (nI j - nI j / 2 * 2)).toNatClampNeg).toNatClampNeg + nI (wcost (vL sg) kd (j / 2) (j % 2)))) (fun k hk => xu2_ne hk)
        exact m_ff_in hkd hto hG r (j + 1) _ 1 _ (upF F a (F b + wcost (vL sg) kd (j / 2) (j % 2))) _ _ (some _) (by omega) (nI_1 j) M2 hB2 hS2 (Or.inr ⟨rfl, hlt⟩) (fun iv' F' mo' o4' o5' o6' o7' c1 c2 c3 c4 => k iv' F' mo' o4' o5' o6' o7' c1 c2 c3 (fun k hk => by rw [c4 k hk, xu2_ne hk]))
set_option maxRecDepth 100000 in
theorem m_ff_out {kd to : Nat} (hkd : kd < 4) (hto : to < 12) (hG : GG t sg) : ∀ (N : Nat) (mo : Int32) (iv : xIv) (F : Nat → Nat) (o4 o5 o6 : Option Value) (o7 : Option Int32), smN F 12 < N → MV iv lg sg tw → FB iv F → FS (vL sg) kd to F → (mo = 1 ∨ (mo = 0 ∧ ∀ e, e < 2 * cnt (vL sg) 0 → RX (vL sg) kd F e)) → (∀ iv', (∀ a, a < 12 → iv' 85 a = enc 100000000 (dst (vL sg) kd a to)) → (∀ k, k ≠ 85 → iv' k = iv k) → Q none SH RF iv' lg) → Wp L xs m_Mo_findFar 19 [some (.ref 79), some (.int (nI kd)), some (.int (nI to)), some (.int mo), o4, o5, o6, o7.map Value.int] [] SH RF iv lg Q
  | 0, mo, iv, F, o4, o5, o6, o7, hN, hM, hB, hS, hm, k => absurd hN (Nat.not_lt_zero _)
  | N + 1, mo, iv, F, o4, o5, o6, o7, hN, hM, hB, hS, hm, k => by
    refine wgo [19, 25] 100 ?_
    refine And.intro (fun z => ?_) (fun z => ?_)
    · rcases hm with e | ⟨e, hR⟩
      · rw [e] at z; exact absurd z (by decide)
      · refine k iv (fun a ha => ?_) (fun _ _ => rfl)
        rw [hB a ha]
        exact FF_done hG.1.2.2.2.2.2.1 hS hR ha
    · refine m_ff_in (S := smN F 12) hkd hto hG _ 0 _ 0 iv F _ _ o7 (Nat.zero_add _) rfl hM hB hS (Or.inl ⟨rfl, rfl, fun e he => absurd he (Nat.not_lt_zero e)⟩) (fun iv' F' mo' o4' o5' o6' o7' c1 c2 c3 c4 => ?_)
      rcases c3 with ⟨e, hR⟩ | ⟨e, hlt⟩
      · subst e
        refine wgo [19] 100 ?_
        refine And.intro (fun _ => ?_) (fun z => absurd rfl z)
        refine k iv' (fun a ha => ?_) c4
        rw [c1 a ha]
        exact FF_done hG.1.2.2.2.2.2.1 c2 hR ha
      · exact m_ff_out hkd hto hG N mo' iv' F' _ _ _ o7' (by omega) (hM.w85 c4) c1 c2 (Or.inl e) (fun iv2 d1 d2 => k iv2 d1 (fun k hk => (d2 k hk).trans (c4 k hk)))
set_option maxRecDepth 100000 in
theorem m_findFar {kd to : Nat} (hkd : kd < 4) (hto : to < 12) (hG : GG t sg) (hM : MV iv lg sg tw) (k : ∀ iv', (∀ a, a < 12 → iv' 85 a = enc 100000000 (dst (vL sg) kd a to)) → (∀ k, k ≠ 85 → iv' k = iv k) → Q none SH RF iv' lg) : Sp L xs m_Mo_findFar [.ref 79, .int (nI kd), .int (nI to)] SH RF iv lg Q := by
  refine sgo [2] 100 ?_
  refine m_ff_0 hto 12 0 _ iv (by omega) rfl (fun a ha => absurd ha (Nat.not_lt_zero a)) (fun iv1 c1 c2 => ?_)
  refine m_ff_out hkd hto hG _ 1 iv1 (fun a => if a = to then 0 else 100000000) _ _ _ none (Nat.lt_succ_self _) (hM.w85 c2) c1 ⟨fun a => ?_, if_pos rfl, fun a ha hlt => ?_⟩ (Or.inl rfl) (fun iv' d1 d2 => k iv' d1 (fun k hk => (d2 k hk).trans (c2 k hk)))
  · show (if a = to then 0 else 100000000) ≤ 100000000
    split <;> omega
  · dsimp only at hlt ⊢
    by_cases e : a = to
    · rw [if_pos e]; exact ⟨0, e, rfl⟩
    · rw [if_neg e] at hlt; omega
set_option maxRecDepth 100000 in
theorem m_farOf {p x y : Nat} {kd : Nat} (hG : GG t sg) (hM : MV iv lg sg tw) (hp : p < cnt (vL sg) 1) (hx : x < 12) (hy : y < 12) (hkd : kd < 4) (ek : sg 81 (7 * p + 1) = nI kd) (k : ∀ iv', (∀ a, a < 12 → iv' 85 a = enc 100000000 (dst (vL sg) kd a y)) → (∀ k, k ≠ 85 → iv' k = iv k) → Q (some (.int (enc 100000000 (dst (vL sg) kd x y)))) SH RF iv' lg) : Sp L xs m_Mo_farOf [.ref 79, .int (nI p), .int (nI x), .int (nI y)] SH RF iv lg Q := by
  have h8 := hG.1.2.1.2
  have e : (7 : Int32) * nI p + 1 = nI (7 * p + 1) := by rw [ni7]; exact ni_a _ 1
  have ei : iv 81 ((7 : Int32) * nI p + 1).toNatClampNeg = nI kd := by rw [e, cl, hM.2.1.2.1, ek]
  have ff := fun Q2 => m_findFar (L := L) (xs := xs) (Q := Q2) hkd hy hG hM
  rw [← ei] at ff
  refine sgo [] 100 ?_
  refine And.intro (by rw [e]; exact vp_N (by omega)) ?_
  refine ff _ (fun iv' d1 d2 => ?_)
  refine And.intro (vp_N hx) ?_
  exact qv (k iv' d1 d2) (by rw [cl]; exact d1 x hx)
theorem enc8_ge {o : Option Nat} (h : ∀ c, o = some c → c ≤ 2772) : (enc 100000000 o < (100000000 : Int32) → ∃ c, o = some c ∧ enc 100000000 o = nI c) ∧ (¬ enc 100000000 o < (100000000 : Int32) → o = none) := by
  cases o with
  | none => exact ⟨fun z => absurd z (by decide), fun _ => rfl⟩
  | some c =>
    have hc := h c rfl
    exact ⟨fun _ => ⟨c, rfl, rfl⟩, fun z => absurd (nI_lt (a := c) (b := 100000000) (by omega) (by decide)) z⟩
theorem clsS.w85 {iv' : xIv} (h : ∀ k, k ≠ 85 → iv' k = iv k) : clsS iv' lg iv lg := ⟨fun k hk => h k (by omega), fun _ _ => Eq.refl _⟩
set_option maxRecDepth 100000 in
theorem m_far {a b c : Int32} (hM : MV iv lg sg tw) (hG : GG t sg) (k1 : ∀ p x y kd, p < cnt (vL sg) 1 → x < 12 → y < 12 → kd < 4 → a = nI p → b = nI x → c = nI y → sg 81 (7 * p + 1) = nI kd → ∀ iv', MV iv' lg sg tw → clsS iv' lg iv lg → Q (some (.int (orN (dst (vL sg) kd x y)))) SH RF iv' lg) (k2 : ¬ okF sg a b c → Q (some (.int (-1))) SH RF iv lg) : Sp L xs m_Mo_far [.ref 79, .int a, .int b, .int c] SH RF iv lg Q := by
  have h8 := hG.1.2.1.2
  refine sgo [] 100 ?_
  refine s_isOne (nP_m hM hG) (by omega) (fun h1 => ?_) (fun h1 => ?_)
  · refine b1 ?_
    refine s_moPlace (fun h2 => ?_) (fun h2 => ?_)
    · refine b1 ?_
      refine s_moPlace (fun h3 => ?_) (fun h3 => ?_)
      · refine c1 ?_
        obtain ⟨p, hp, rfl⟩ := isN_of h1 (by omega)
        obtain ⟨x, hx, rfl⟩ := isN_of h2 (by decide)
        obtain ⟨y, hy, rfl⟩ := isN_of h3 (by decide)
        obtain ⟨kd, hkd, ek⟩ := kindOf hG hp
        refine m_farOf hG hM hp hx hy hkd ek (fun iv' d1 d2 => ?_)
        have kk := k1 p x y kd hp hx hy hkd rfl rfl rfl ek iv' (hM.w85 d2) (clsS.w85 d2)
        obtain ⟨g1, g2⟩ := enc8_ge (o := dst (vL sg) kd x y) (fun c hc => dst_bd hG.1.2.2.2.2.2.1 hx hc)
        refine And.intro (fun z => ?_) (fun z => ?_)
        · obtain ⟨c, e1, e2⟩ := g1 z
          rw [e1] at kk
          exact qv kk e2
        · rw [g2 z] at kk
          exact kk
      · refine c0 ?_
        exact k2 (fun z => h3 z.2.2)
    · refine b0 ?_
      exact k2 (fun z => h2 z.2.1)
  · refine b0 ?_
    exact k2 (fun z => h1 z.1)
theorem e_far (a b c : Int32) : EQ m_SR_far m_Mo_far [.int a, .int b, .int c] := by
  intro L xs t iv lg Q hI ht k
  obtain ⟨sg, tw, hC, hM, hG⟩ := id hI
  have h8 := hG.1.2.1.2
  refine c_far hC hG (fun p x y kd hp hx hy hkd ha hb hc ek iv1 C1 R1 => k _ iv1 lg (fun Q2 k2 => m_far (MV_congr R1 hM) hG (fun p' x' y' kd' hp' hx' hy' hkd' ha' hb' hc' ek' iv2 M2 R2 => ?_) (fun h => absurd ⟨ha ▸ isN_nI hp (by omega), hb ▸ isN_nI hx (by decide), hc ▸ isN_nI hy (by decide)⟩ h))) (fun h => k _ iv lg (fun Q2 k2 => m_far hM hG (fun p w d kd hp hw hd hkd ha hb hc ek => absurd ⟨ha ▸ isN_nI hp (by omega), hb ▸ isN_nI hw (by decide), hc ▸ isN_nI hd (by decide)⟩ h) (fun _ => k2 _ _ (hI.wk (Nat.le_succ t)))))
  have e1 : p = p' := (nI_eq (by omega) (by omega)).mp (ha.symm.trans ha')
  have e2 : x = x' := (nI_eq (by omega) (by omega)).mp (hb.symm.trans hb')
  have e3 : y = y' := (nI_eq (by omega) (by omega)).mp (hc.symm.trans hc')
  subst e1; subst e2; subst e3
  have e4 : kd = kd' := (nI_eq (by omega) (by omega)).mp (ek.symm.trans ek')
  subst e4
  exact k2 _ _ ⟨sg, tw, CX_congr R2 C1, M2, hG.mono (Nat.le_succ t)⟩
end FF
