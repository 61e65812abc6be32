-- ===== numbers, and the small tests that both sides make =====
abbrev isN (v : Int32) (n : Nat) : Prop := 0 ≤ v ∧ v < nI n
theorem il {a b : Int32} : a ≤ b ↔ a.toInt ≤ b.toInt := Int32.le_iff_toInt_le
theorem it {a b : Int32} : a < b ↔ a.toInt < b.toInt := Int32.lt_iff_toInt_lt
theorem ie {a b : Int32} : a = b ↔ a.toInt = b.toInt := Int32.toInt_inj.symm
theorem nlt {a b : Int32} (h : ¬ a < b) : b ≤ a := by rw [it] at h; rw [il]; omega
theorem nle {a b : Int32} (h : ¬ a ≤ b) : b < a := by rw [il] at h; rw [it]; omega
theorem lnle {a b : Int32} (h : a < b) : ¬ b ≤ a := by rw [it] at h; rw [il]; omega
theorem lenl {a b : Int32} (h : a ≤ b) : ¬ b < a := by rw [il] at h; rw [it]; omega
theorem isN_of {v : Int32} {n : Nat} (h : isN v n) (hn : n < 2 ^ 31) : ∃ p, p < n ∧ v = nI p := by
  obtain ⟨p, hp, rfl⟩ := nI_of (lenl h.1)
  exact ⟨p, (nI_ltI hp hn).mp h.2, rfl⟩
theorem isN_nI {p n : Nat} (h : p < n) (hn : n < 2 ^ 31) : isN (nI p) n := ⟨nI_pos' (by omega), nI_lt h hn⟩
theorem nI_m1_toInt {n : Nat} (hn : n < 2 ^ 30) : (nI n - 1).toInt = (n : Int) - 1 := pk_sub_toInt (b := 1) hn (by decide)
theorem isN_m1 {v : Int32} {n : Nat} (hn : n < 2 ^ 30) : (0 ≤ v ∧ v ≤ nI n - 1) ↔ isN v n := by
  unfold isN
  rw [il, il, it, nI_m1_toInt hn, nI_toInt (by omega)]
  omega
theorem vp_N {p n : Nat} (h : p < n) (hn : n < 2 ^ 31 := by decide) : vp_in (nI p) n := vp_in_nI h hn
theorem wide_le (a b : Int32) : a.toInt64 ≤ b.toInt64 ↔ a ≤ b := by
  rw [Int64.le_iff_toInt_le, il, Int32.toInt_toInt64, Int32.toInt_toInt64]
theorem lcmp_lt {x y : Int64} : lg_cmp x y < 0 ↔ x < y := by
  unfold lg_cmp
  simp only [gt_iff_lt]
  split
  · rename_i h
    exact ⟨fun z => absurd z (by decide), fun z => absurd z (by rw [Int64.lt_iff_toInt_lt] at h ⊢; omega)⟩
  · split
    · rename_i h1 h2
      subst h2
      exact ⟨fun z => absurd z (by decide), fun z => absurd z h1⟩
    · rename_i h1 h2
      refine ⟨fun _ => ?_, fun _ => by decide⟩
      have h3 : ¬ x.toInt = y.toInt := fun z => h2 (Int64.toInt_inj.mp z)
      rw [Int64.lt_iff_toInt_lt] at h1 ⊢
      omega
theorem lcmp_gt {x y : Int64} : 0 < lg_cmp x y ↔ y < x := by
  unfold lg_cmp
  simp only [gt_iff_lt]
  split
  · rename_i h
    exact ⟨fun _ => h, fun _ => by decide⟩
  · split
    · rename_i h1 h2
      exact ⟨fun z => absurd z (by decide), fun z => absurd z h1⟩
    · rename_i h1 h2
      exact ⟨fun z => absurd z (by decide), fun z => absurd z h1⟩
section B
variable {L : Nat} {xs : Nat → Int32} {sh : xSh} {rf : xRf} {iv : xIv} {lg : xLg} {Q : xQ}
theorem s_within {v a b : Int32} (kt : a ≤ v ∧ v ≤ b → Q (some (.int 1)) sh rf iv lg) (kf : ¬ (a ≤ v ∧ v ≤ b) → Q (some (.int 0)) sh rf iv lg) : Sp L xs m_SR_isWithin [.int v, .int a, .int b] sh rf iv lg Q := by
  refine sgo [] 100 ?_
  refine And.intro (fun h1 => ?_) (fun h1 => ?_)
  · exact And.intro (Or.inl rfl) (kf (fun z => lnle h1 z.1))
  · refine And.intro (fun h2 => ?_) (fun h2 => ?_)
    · exact And.intro (Or.inl rfl) (kf (fun z => lnle h2 z.2))
    · exact And.intro (Or.inr rfl) (kt ⟨nlt h1, nlt h2⟩)
theorem s_in {v a b : Int64} (kt : a ≤ v ∧ v ≤ b → Q (some (.int 1)) sh rf iv lg) (kf : ¬ (a ≤ v ∧ v ≤ b) → Q (some (.int 0)) sh rf iv lg) : Sp L xs m_Mo_in [.long v, .long a, .long b] sh rf iv lg Q := by
  have hl : ∀ {x y : Int64}, ¬ x < y → y ≤ x := fun h => by rw [Int64.lt_iff_toInt_lt] at h; rw [Int64.le_iff_toInt_le]; omega
  have hr : ∀ {x y : Int64}, x < y → ¬ y ≤ x := fun h => by rw [Int64.lt_iff_toInt_lt] at h; rw [Int64.le_iff_toInt_le]; omega
  refine sgo [] 100 ?_
  refine And.intro (fun h1 => ?_) (fun h1 => ?_)
  · exact And.intro (Or.inl rfl) (kf (fun z => hr (lcmp_lt.mp h1) z.1))
  · refine And.intro (fun h2 => ?_) (fun h2 => ?_)
    · exact And.intro (Or.inl rfl) (kf (fun z => hr (lcmp_gt.mp h2) z.2))
    · exact And.intro (Or.inr rfl) (kt ⟨hl (fun z => h1 (lcmp_lt.mpr z)), hl (fun z => h2 (lcmp_gt.mpr z))⟩)
theorem s_inI {v a b : Int32} {a' b' : Int64} (ha : a' = a.toInt64 := by decide) (hb : b' = b.toInt64 := by decide) (kt : a ≤ v ∧ v ≤ b → Q (some (.int 1)) sh rf iv lg) (kf : ¬ (a ≤ v ∧ v ≤ b) → Q (some (.int 0)) sh rf iv lg) : Sp L xs m_Mo_in [.long v.toInt64, .long a', .long b'] sh rf iv lg Q := by
  subst ha; subst hb
  exact s_in (fun h => kt ⟨(wide_le _ _).mp h.1, (wide_le _ _).mp h.2⟩) (fun h => kf (fun z => h ⟨(wide_le _ _).mpr z.1, (wide_le _ _).mpr z.2⟩))
theorem r11 {v : Int32} : (0 ≤ v ∧ v ≤ 11) ↔ isN v 12 := isN_m1 (n := 12) (by decide)
theorem r3 {v : Int32} : (0 ≤ v ∧ v ≤ 3) ↔ isN v 4 := isN_m1 (n := 4) (by decide)
theorem r2 {v : Int32} : (0 ≤ v ∧ v ≤ 2) ↔ isN v 3 := isN_m1 (n := 3) (by decide)
theorem s_isPlace {v : Int32} (kt : isN v 12 → Q (some (.int 1)) sh rf iv lg) (kf : ¬ isN v 12 → Q (some (.int 0)) sh rf iv lg) : Sp L xs m_SR_isPlace [.int v] sh rf iv lg Q := by
  refine sgo [] 100 ?_
  refine s_within (fun h => ?_) (fun h => ?_)
  · exact And.intro (Or.inr rfl) (kt (r11.mp h))
  · exact And.intro (Or.inl rfl) (kf (fun z => h (r11.mpr z)))
theorem s_isKind {v : Int32} (kt : isN v 4 → Q (some (.int 1)) sh rf iv lg) (kf : ¬ isN v 4 → Q (some (.int 0)) sh rf iv lg) : Sp L xs m_SR_isKind [.int v] sh rf iv lg Q := by
  refine sgo [] 100 ?_
  refine s_within (fun h => ?_) (fun h => ?_)
  · exact And.intro (Or.inr rfl) (kt (r3.mp h))
  · exact And.intro (Or.inl rfl) (kf (fun z => h (r3.mpr z)))
theorem s_isSheet {v : Int32} (kt : isN v 4 → Q (some (.int 1)) sh rf iv lg) (kf : ¬ isN v 4 → Q (some (.int 0)) sh rf iv lg) : Sp L xs m_SR_isSheet [.int v] sh rf iv lg Q := by
  refine sgo [] 100 ?_
  refine s_within (fun h => ?_) (fun h => ?_)
  · exact And.intro (Or.inr rfl) (kt (r3.mp h))
  · exact And.intro (Or.inl rfl) (kf (fun z => h (r3.mpr z)))
theorem s_isLane {v : Int32} (kt : isN v 3 → Q (some (.int 1)) sh rf iv lg) (kf : ¬ isN v 3 → Q (some (.int 0)) sh rf iv lg) : Sp L xs m_SR_isLane [.int v] sh rf iv lg Q := by
  refine sgo [] 100 ?_
  refine s_within (fun h => ?_) (fun h => ?_)
  · exact And.intro (Or.inr rfl) (kt (r2.mp h))
  · exact And.intro (Or.inl rfl) (kf (fun z => h (r2.mpr z)))
theorem s_orNone {v : Int32} (k1 : (1000000 : Int32) ≤ v → Q (some (.int (-4))) sh rf iv lg) (k2 : ¬ (1000000 : Int32) ≤ v → Q (some (.int v)) sh rf iv lg) : Sp L xs m_SR_orNone [.int v] sh rf iv lg Q := by
  refine sgo [] 100 ?_
  exact And.intro (fun h => k2 (lnle h)) (fun h => k1 (nlt h))
theorem s_moPlace {v : Int32} (kt : isN v 12 → Q (some (.int 1)) sh rf iv lg) (kf : ¬ isN v 12 → Q (some (.int 0)) sh rf iv lg) : Sp L xs m_Mo_isPlace [.int v] sh rf iv lg Q := by
  refine sgo [] 100 ?_
  refine s_inI (a := 0) (b := 11) (kt := fun h => ?_) (kf := fun h => ?_)
  · exact And.intro (Or.inr rfl) (kt (r11.mp h))
  · exact And.intro (Or.inl rfl) (kf (fun z => h (r11.mpr z)))
end B
section B2
variable {L : Nat} {xs : Nat → Int32} {iv : xIv} {lg : xLg} {Q : xQ}
theorem s_isPerson {v : Int32} {n : Nat} (hn : iv 8 0 = nI n) (h8 : n ≤ 8) (kt : isN v n → Q (some (.int 1)) SH RF iv lg) (kf : ¬ isN v n → Q (some (.int 0)) SH RF iv lg) : Sp L xs m_SR_isPerson [.ref 0, .int v] SH RF iv lg Q := by
  refine sgo [] 100 ?_
  refine s_within (fun h => ?_) (fun h => ?_) <;> rw [hn] at h
  · exact And.intro (Or.inr rfl) (kt ((isN_m1 (by omega)).mp h))
  · exact And.intro (Or.inl rfl) (kf (fun z => h ((isN_m1 (by omega)).mpr z)))
theorem s_has {v : Int32} {n : Nat} (hn : iv 2 0 = nI n) (h8 : n ≤ 24) (kt : isN v n → Q (some (.int 1)) SH RF iv lg) (kf : ¬ isN v n → Q (some (.int 0)) SH RF iv lg) : Sp L xs m_Ways_has [.ref 2, .int v] SH RF iv lg Q := by
  refine sgo [] 100 ?_
  refine s_within (fun h => ?_) (fun h => ?_) <;> rw [hn] at h
  · exact And.intro (Or.inr rfl) (kt ((isN_m1 (by omega)).mp h))
  · exact And.intro (Or.inl rfl) (kf (fun z => h ((isN_m1 (by omega)).mpr z)))
set_option maxRecDepth 100000 in
theorem s_isOne {v : Int32} {n : Nat} (hn : iv 79 3 = nI n) (h8 : n ≤ 8) (kt : isN v n → Q (some (.int 1)) SH RF iv lg) (kf : ¬ isN v n → Q (some (.int 0)) SH RF iv lg) : Sp L xs m_Mo_isOne [.ref 79, .int v] SH RF iv lg Q := by
  refine sgo [] 100 ?_
  refine s_inI (a := 0) (hb := rfl) (kt := fun h => ?_) (kf := fun h => ?_) <;> rw [hn] at h
  · exact And.intro (Or.inr rfl) (kt ((isN_m1 (by omega)).mp h))
  · exact And.intro (Or.inl rfl) (kf (fun z => h ((isN_m1 (by omega)).mpr z)))
set_option maxRecDepth 100000 in
theorem s_areTwo {v w : Int32} {n : Nat} (hn : iv 8 0 = nI n) (h8 : n ≤ 8) (kt : isN v n ∧ isN w n ∧ ¬ v = w → Q (some (.int 1)) SH RF iv lg) (kf : ¬ (isN v n ∧ isN w n ∧ ¬ v = w) → Q (some (.int 0)) SH RF iv lg) : Sp L xs m_SR_areTwo [.ref 0, .int v, .int w] SH RF iv lg Q := by
  refine sgo [] 100 ?_
  refine s_isPerson hn h8 (fun h1 => ?_) (fun h1 => ?_)
  · refine And.intro (fun z => absurd z (by decide)) (fun _ => ?_)
    refine s_isPerson hn h8 (fun h2 => ?_) (fun h2 => ?_)
    · refine And.intro (fun z => absurd z (by decide)) (fun _ => ?_)
      refine And.intro (fun h3 => ?_) (fun h3 => ?_)
      · exact And.intro (Or.inl rfl) (kf (fun z => z.2.2 h3))
      · exact And.intro (Or.inr rfl) (kt ⟨h1, h2, h3⟩)
    · refine And.intro (fun _ => ?_) (fun z => absurd rfl z)
      exact And.intro (Or.inl rfl) (kf (fun z => h2 z.2.1))
  · refine And.intro (fun _ => ?_) (fun z => absurd rfl z)
    exact And.intro (Or.inl rfl) (kf (fun z => h1 z.1))
set_option maxRecDepth 100000 in
theorem s_moTwo {v w : Int32} {n : Nat} (hn : iv 79 3 = nI n) (h8 : n ≤ 8) (kt : isN v n ∧ isN w n ∧ ¬ v = w → Q (some (.int 1)) SH RF iv lg) (kf : ¬ (isN v n ∧ isN w n ∧ ¬ v = w) → Q (some (.int 0)) SH RF iv lg) : Sp L xs m_Mo_areTwo [.ref 79, .int v, .int w] SH RF iv lg Q := by
  refine sgo [] 100 ?_
  refine s_isOne hn h8 (fun h1 => ?_) (fun h1 => ?_)
  · refine And.intro (fun z => absurd z (by decide)) (fun _ => ?_)
    refine s_isOne hn h8 (fun h2 => ?_) (fun h2 => ?_)
    · refine And.intro (fun z => absurd z (by decide)) (fun _ => ?_)
      refine And.intro (fun h3 => ?_) (fun h3 => ?_)
      · exact And.intro (Or.inl rfl) (kf (fun z => z.2.2 h3))
      · exact And.intro (Or.inr rfl) (kt ⟨h1, h2, h3⟩)
    · refine And.intro (fun _ => ?_) (fun z => absurd rfl z)
      exact And.intro (Or.inl rfl) (kf (fun z => h2 z.2.1))
  · refine And.intro (fun _ => ?_) (fun z => absurd rfl z)
    exact And.intro (Or.inl rfl) (kf (fun z => h1 z.1))
end B2
