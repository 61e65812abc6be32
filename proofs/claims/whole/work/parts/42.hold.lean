-- ===== hold, meet =====
section HOLD
variable {L : Nat} {xs : Nat → Int32} {iv : xIv} {lg : xLg} {Q : xQ} {sg : xIv} {tw : Nat → Int64} {t : Nat}
theorem enc_toInt {o : Option Nat} {inf : Nat} (h : ∀ c, o = some c → c ≤ 2772) (hi : inf ≤ 100000000) : (enc inf o).toInt = (o.getD inf : Nat) ∧ (o.getD inf) ≤ 100000000 := by
  have : o.getD inf ≤ 100000000 := by
    cases o with
    | none => exact hi
    | some c => have := h c rfl; show c ≤ _; omega
  exact ⟨nI_toInt (by omega), this⟩
theorem enc_near {o : Option Nat} {s : Int32} (h : ∀ c, o = some c → c ≤ 2772) (hs : s ≤ 99999) : (s < enc 100000000 o) ↔ (s < enc 1000000 o) := by
  rw [it, it, (enc_toInt h (by decide)).1, (enc_toInt h (by decide)).1]
  rw [il, tl9] at hs
  cases o with
  | none => show s.toInt < ((100000000 : Nat) : Int) ↔ s.toInt < ((1000000 : Nat) : Int); omega
  | some c => exact Iff.rfl
noncomputable def hdR (v : xIv) (kd x : Nat) (s : Int32) : Nat → Nat → Int32 → Int32
  | 0, _, z => z
  | r + 1, p, z => hdR v kd x s r (p + 1) (if s < enc 1000000 (dst v kd x p) then z else z ||| (1 <<< (nI p &&& 31)))
abbrev okH (sg : xIv) (a b c : Int32) : Prop := isN a (cnt (vL sg) 1) ∧ isN b 12 ∧ (0 ≤ c ∧ c ≤ 99999)
set_option maxRecDepth 100000 in
theorem c_hold_l {R kd x : Nat} {a s : Int32} (hR : R = 39 ∨ R = 40 ∨ R = 41 ∨ R = 42) (hx : x < 12) (v : xIv) (hT : ∀ p, p < 12 → iv R (12 * x + p) = enc 1000000 (dst v kd x p)) : ∀ (r p : Nat) (y z : Int32), p + r = 12 → y = nI p → Q (some (.int (hdR v kd x s r p z))) SH RF iv lg → Wp L xs m_SR_hold 28 [some (.ref 0), some (.int a), some (.int (nI x)), some (.int s), some (.ref R), some (.int z), some (.int y)] [] SH RF iv lg Q
  | 0, p, y, z, h, hy, k => by
    obtain rfl : p = 12 := by omega
    subst hy
    refine wgo [28] 100 ?_
    exact And.intro (fun _ => k) (fun z => absurd (by decide) z)
  | r + 1, p, y, z, h, hy, k => by
    subst hy
    have e : nI x * (12 : Int32) + nI p = nI (12 * x + p) := by rw [ni12', ni_a]
    have hv : vp_in (nI x * (12 : Int32) + nI p) 144 := by rw [e]; exact vp_N (by omega)
    have er : iv R (nI x * (12 : Int32) + nI p).toNatClampNeg = enc 1000000 (dst v kd x p) := by rw [e, cl]; exact hT p (by omega)
    have key1 : s < enc 1000000 (dst v kd x p) → Wp L xs m_SR_hold 28 [some (.ref 0), some (.int a), some (.int (nI x)), some (.int s), some (.ref R), some (.int z), some (.int (nI p + 1))] [] SH RF iv lg Q := fun w => by
      refine c_hold_l hR hx v hT r (p + 1) _ _ (by omega) (nI_1 p) ?_
      have e : hdR v kd x s (r + 1) p z = hdR v kd x s r (p + 1) z := by show hdR v kd x s r (p + 1) (if s < enc 1000000 (dst v kd x p) then z else z ||| (1 <<< (nI p &&& 31))) = _; rw [if_pos w]
      rw [e] at k
      exact k
    have key2 : ¬ s < enc 1000000 (dst v kd x p) → Wp L xs m_SR_hold 28 [some (.ref 0), some (.int a), some (.int (nI x)), some (.int s), some (.ref R), some (.int (z ||| (1 <<< (nI p &&& 31)))), some (.int (nI p + 1))] [] SH RF iv lg Q := fun w => by
      refine c_hold_l hR hx v hT r (p + 1) _ _ (by omega) (nI_1 p) ?_
      have e : hdR v kd x s (r + 1) p z = hdR v kd x s r (p + 1) (z ||| (1 <<< (nI p &&& 31))) := by show hdR v kd x s r (p + 1) (if s < enc 1000000 (dst v kd x p) then z else z ||| (1 <<< (nI p &&& 31))) = _; rw [if_neg w]
      rw [e] at k
      exact k
    rw [← er] at key1 key2
    clear k er hT
    rcases hR with rfl | rfl | rfl | rfl
    all_goals
      refine wgo [28] 100 ?_
      refine And.intro (fun w => absurd (lt12 (show p < 12 by omega)) (lenl w)) (fun _ => ?_)
      refine And.intro hv ?_
      refine And.intro (fun w => ?_) (fun w => ?_)
      · exact key1 w
      · exact key2 w
set_option maxRecDepth 100000 in
theorem c_hold {a b c : Int32} (hC : CX iv lg sg tw) (hG : GG t sg) (k1 : ∀ p x kd, p < cnt (vL sg) 1 → x < 12 → kd < 4 → a = nI p → b = nI x → (0 ≤ c ∧ c ≤ 99999) → sg 81 (7 * p + 1) = nI kd → ∀ iv', CX iv' lg sg tw → refS iv' lg iv lg → Q (some (.int (hdR (vL sg) kd x c 12 0 0))) SH RF iv' lg) (k2 : ¬ okH sg a b c → Q (some (.int (-1))) SH RF iv lg) : Sp L xs m_SR_hold [.ref 0, .int a, .int b, .int c] SH RF iv lg Q := by
  have h8 := hG.1.2.1.2
  refine sgo [28] 100 ?_
  refine s_isPerson (nP_c hC hG) (by omega) (fun h1 => ?_) (fun h1 => ?_)
  · refine b1 ?_
    refine s_isPlace (fun h2 => ?_) (fun h2 => ?_)
    · refine b1 ?_
      refine s_within (fun h3 => ?_) (fun h3 => ?_)
      · refine c1 ?_
        obtain ⟨p, hp, rfl⟩ := isN_of h1 (by omega)
        obtain ⟨x, hx, rfl⟩ := isN_of h2 (by decide)
        obtain ⟨kd, hkd, ek⟩ := kindOf hG hp
        refine And.intro (vp_N (by omega)) ?_
        have ei : iv 10 (nI p).toNatClampNeg = nI kd := by rw [cl, (hC.rd hp).2.1, ek]
        have kk := k1 p x kd hp hx hkd rfl rfl h3 ek
        have fin : ∀ iv', CX iv' lg sg tw → refS iv' lg iv lg → TD iv' (vL sg) kd → Wp L xs m_SR_hold 28 [some (.ref 0), some (.int (nI p)), some (.int (nI x)), some (.int c), some (.ref (39 + kd)), some (.int 0), some (.int 0)] [] SH RF iv' lg Q := fun iv' d1 d2 d3 =>
          c_hold_l (R := 39 + kd) (by omega) hx (vL sg) (fun p hp => d3 x p hx hp) 12 0 _ _ (by omega) rfl (kk iv' d1 d2)
        have cc := fun Q => c_costsOf (L := L) (xs := xs) (Q := Q) hkd hC hG
        rw [← ei] at cc
        have h4 : kd = 0 ∨ kd = 1 ∨ kd = 2 ∨ kd = 3 := by omega
        clear k1 k2 ei kk
        rcases h4 with rfl | rfl | rfl | rfl
        all_goals
          refine cc _ (fun iv' d1 d2 d3 d4 => ?_)
          exact fin iv' d1 d2 d3
      · refine c0 ?_
        exact k2 (fun z => h3 z.2.2)
    · refine b0 ?_
      exact k2 (fun z => h2 z.2.1)
  · refine b0 ?_
    exact k2 (fun z => h1 z.1)
set_option maxRecDepth 100000 in
theorem m_hold_l {q kd x : Nat} {s : Int32} (hG : GG t sg) (hq : q < cnt (vL sg) 1) (hkd : kd < 4) (ek : sg 81 (7 * q + 1) = nI kd) (hx : x < 12) (hs : s ≤ 99999) : ∀ (r p : Nat) (y z : Int32) (iv : xIv), p + r = 12 → y = nI p → MV iv lg sg tw → (∀ iv', MV iv' lg sg tw → clsS iv' lg iv lg → Q (some (.int (hdR (vL sg) kd x s r p z))) SH RF iv' lg) → Wp L xs m_Mo_hold 19 [some (.ref 79), some (.int (nI q)), some (.int (nI x)), some (.int s), some (.int z), some (.int y)] [] SH RF iv lg Q
  | 0, p, y, z, iv, h, hy, hM, k => by
    obtain rfl : p = 12 := by omega
    subst hy
    refine wgo [19] 100 ?_
    exact And.intro (fun _ => k iv hM clsS.rfl) (fun z => absurd (by decide) z)
  | r + 1, p, y, z, iv, h, hy, hM, k => by
    subst hy
    refine wgo [19] 100 ?_
    refine And.intro (fun w => absurd (lt12 (show p < 12 by omega)) (lenl w)) (fun _ => ?_)
    refine m_farOf hG hM hq hx (show p < 12 by omega) hkd ek (fun iv1 d1 d2 => ?_)
    have M1 := hM.w85 d2
    have R1 : clsS iv1 lg iv lg := clsS.w85 d2
    have en := enc_near (o := dst (vL sg) kd x p) (s := s) (fun c hc => dst_bd hG.1.2.2.2.2.2.1 hx hc) hs
    refine And.intro (fun w => ?_) (fun w => ?_)
    · have e : hdR (vL sg) kd x s (r + 1) p z = hdR (vL sg) kd x s r (p + 1) z := by show hdR (vL sg) kd x s r (p + 1) (if s < enc 1000000 (dst (vL sg) kd x p) then z else z ||| (1 <<< (nI p &&& 31))) = _; rw [if_pos (en.mp w)]
      rw [e] at k
      have ez : z ||| 0 = z := Int32.or_zero
      rw [← ez] at k
      exact m_hold_l hG hq hkd ek hx hs r (p + 1) _ (z ||| 0) iv1 (by omega) (nI_1 p) M1 (fun iv' c1 c2 => k iv' c1 (c2.trans R1))
    · have e : hdR (vL sg) kd x s (r + 1) p z = hdR (vL sg) kd x s r (p + 1) (z ||| (1 <<< (nI p &&& 31))) := by show hdR (vL sg) kd x s r (p + 1) (if s < enc 1000000 (dst (vL sg) kd x p) then z else z ||| (1 <<< (nI p &&& 31))) = _; rw [if_neg (fun q => w (en.mpr q))]
      rw [e] at k
      exact m_hold_l hG hq hkd ek hx hs r (p + 1) _ (z ||| (1 <<< (nI p &&& 31))) iv1 (by omega) (nI_1 p) M1 (fun iv' c1 c2 => k iv' c1 (c2.trans R1))
set_option maxRecDepth 100000 in
theorem m_hold {a b c : Int32} (hM : MV iv lg sg tw) (hG : GG t sg) (k1 : ∀ p x kd, p < cnt (vL sg) 1 → x < 12 → kd < 4 → a = nI p → b = nI x → (0 ≤ c ∧ c ≤ 99999) → sg 81 (7 * p + 1) = nI kd → ∀ iv', MV iv' lg sg tw → clsS iv' lg iv lg → Q (some (.int (hdR (vL sg) kd x c 12 0 0))) SH RF iv' lg) (k2 : ¬ okH sg a b c → Q (some (.int (-1))) SH RF iv lg) : Sp L xs m_Mo_hold [.ref 79, .int a, .int b, .int c] SH RF iv lg Q := by
  have h8 := hG.1.2.1.2
  refine sgo [19] 100 ?_
  refine s_isOne (nP_m hM hG) (by omega) (fun h1 => ?_) (fun h1 => ?_)
  · refine b1 ?_
    refine s_moPlace (fun h2 => ?_) (fun h2 => ?_)
    · refine b1 ?_
      refine s_inI (a := 0) (b := 99999) (kt := fun h3 => ?_) (kf := fun h3 => ?_)
      · refine c1 ?_
        obtain ⟨p, hp, rfl⟩ := isN_of h1 (by omega)
        obtain ⟨x, hx, rfl⟩ := isN_of h2 (by decide)
        obtain ⟨kd, hkd, ek⟩ := kindOf hG hp
        exact m_hold_l hG hp hkd ek hx h3.2 12 0 _ _ iv (by omega) rfl hM (k1 p x kd hp hx hkd rfl rfl h3 ek)
      · refine c0 ?_
        exact k2 (fun z => h3 z.2.2)
    · refine b0 ?_
      exact k2 (fun z => h2 z.2.1)
  · refine b0 ?_
    exact k2 (fun z => h1 z.1)
theorem e_hold (a b c : Int32) : EQ m_SR_hold m_Mo_hold [.int a, .int b, .int c] := by
  intro L xs t iv lg Q hI ht k
  obtain ⟨sg, tw, hC, hM, hG⟩ := id hI
  have h8 := hG.1.2.1.2
  refine c_hold hC hG (fun p x kd hp hx hkd ha hb hc ek iv1 C1 R1 => k _ iv1 lg (fun Q2 k2 => m_hold (MV_congr R1 hM) hG (fun p' x' kd' hp' hx' hkd' ha' hb' hc' ek' iv2 M2 R2 => ?_) (fun h => absurd ⟨ha ▸ isN_nI hp (by omega), hb ▸ isN_nI hx (by decide), hc⟩ h))) (fun h => k _ iv lg (fun Q2 k2 => m_hold hM hG (fun p w kd hp hw hkd ha hb hc ek => absurd ⟨ha ▸ isN_nI hp (by omega), hb ▸ isN_nI hw (by decide), hc⟩ h) (fun _ => k2 _ _ (hI.wk (Nat.le_succ t)))))
  have e1 : p = p' := (nI_eq (by omega) (by omega)).mp (ha.symm.trans ha')
  have e2 : x = x' := (nI_eq (by omega) (by omega)).mp (hb.symm.trans hb')
  subst e1; subst e2
  have e4 : kd = kd' := (nI_eq (by omega) (by omega)).mp (ek.symm.trans ek')
  subst e4
  exact k2 _ _ ⟨sg, tw, CX_congr R2 C1, M2, hG.mono (Nat.le_succ t)⟩
-- how far one is now
set_option maxRecDepth 100000 in
theorem c_now {p x y kd : Nat} (hC : CX iv lg sg tw) (hG : GG t sg) (hp : p < cnt (vL sg) 1) (hx : x < 12) (hy : y < 12) (hkd : kd < 4) (ek : sg 81 (7 * p + 1) = nI kd) (ex : sg 81 (7 * p + 3) = nI x) (k : ∀ iv', CX iv' lg sg tw → refS iv' lg iv lg → Q (some (.int (enc 1000000 (dst (vL sg) kd x y)))) SH RF iv' lg) : Sp L xs m_SR_farFromNow [.ref 0, .int (nI p), .int (nI y)] SH RF iv lg Q := by
  have h8 := hG.1.2.1.2
  have hv : vp_in (nI p) 8 := vp_N (by omega)
  have ei : iv 10 (nI p).toNatClampNeg = nI kd := by rw [cl, (hC.rd hp).2.1, ek]
  have cc := fun Q => c_costsOf (L := L) (xs := xs) (Q := Q) hkd hC hG
  rw [← ei] at cc
  have fin : ∀ iv', CX iv' lg sg tw → TD iv' (vL sg) kd → vp_in (iv' 12 (nI p).toNatClampNeg * 12 + nI y) 144 ∧ iv' (39 + kd) (iv' 12 (nI p).toNatClampNeg * 12 + nI y).toNatClampNeg = enc 1000000 (dst (vL sg) kd x y) := fun iv' d1 d3 => by
    have e12 : iv' 12 (nI p).toNatClampNeg * 12 + nI y = nI (12 * x + y) := by rw [cl, (d1.rd hp).2.2.2.1, ex, ni12', ni_a]
    rw [e12, cl]
    exact ⟨vp_N (by omega), d3 x y hx hy⟩
  have h4 : kd = 0 ∨ kd = 1 ∨ kd = 2 ∨ kd = 3 := by omega
  clear ei
  rcases h4 with rfl | rfl | rfl | rfl
  all_goals
    refine sgo [] 100 ?_
    refine And.intro hv ?_
    refine cc _ (fun iv' d1 d2 d3 d4 => ?_)
    refine And.intro hv ?_
    refine And.intro (fin iv' d1 d3).1 ?_
    exact qv (k iv' d1 d2) (fin iv' d1 d3).2
-- where two meet
noncomputable def mtS (v : xIv) (ka xa kb xb p : Nat) (s : Option (Nat × Nat)) : Option (Nat × Nat) := match dst v ka xa p, dst v kb xb p with
  | some c1, some c2 => (match s with
    | none => some (p, c1 + c2)
    | some (q, c) => if c1 + c2 < c then some (p, c1 + c2) else some (q, c))
  | _, _ => s
noncomputable def mtR (v : xIv) (ka xa kb xb : Nat) : Nat → Nat → Option (Nat × Nat) → Option (Nat × Nat)
  | 0, _, s => s
  | r + 1, p, s => mtR v ka xa kb xb r (p + 1) (mtS v ka xa kb xb p s)
def mtW (s : Option (Nat × Nat)) : Int32 := match s with
  | none => -4
  | some (q, _) => nI q
def mtB (inf : Nat) (s : Option (Nat × Nat)) : Int32 := match s with
  | none => nI inf
  | some (_, c) => nI c
def mtOk (s : Option (Nat × Nat)) : Prop := ∀ q c, s = some (q, c) → q < 12 ∧ c ≤ 5544
theorem mt_step {v : xIv} {ka xa kb xb p inf : Nat} {s : Option (Nat × Nat)} (hi : 5544 < inf) (hi2 : inf ≤ 100000000) (h1 : ∀ c, dst v ka xa p = some c → c ≤ 2772) (h2 : ∀ c, dst v kb xb p = some c → c ≤ 2772) (hs : mtOk s) (hp : p < 12) : mtOk (mtS v ka xa kb xb p s) ∧ (mtB inf s ≤ enc inf (dst v ka xa p) + enc inf (dst v kb xb p) → mtS v ka xa kb xb p s = s) ∧ (¬ mtB inf s ≤ enc inf (dst v ka xa p) + enc inf (dst v kb xb p) → mtW (mtS v ka xa kb xb p s) = nI p ∧ mtB inf (mtS v ka xa kb xb p s) = enc inf (dst v ka xa p) + enc inf (dst v kb xb p)) := by
  have esum : enc inf (dst v ka xa p) + enc inf (dst v kb xb p) = nI ((dst v ka xa p).getD inf + (dst v kb xb p).getD inf) := ni_a _ _
  have b1 := (enc_toInt (inf := inf) h1 hi2).2
  have b2 := (enc_toInt (inf := inf) h2 hi2).2
  rw [esum]
  have bs : ∀ n, n ≤ 200000000 → (mtB inf s ≤ nI n ↔ (match s with | none => inf | some (_, c) => c) ≤ n) := fun n hn => by
    match s, hs with
    | none, _ => exact nI_leI (by omega) (by omega)
    | some (q, c), hs => exact nI_leI (by have := (hs q c rfl).2; omega) (by omega)
  rw [bs _ (by omega)]
  unfold mtS
  cases e1 : dst v ka xa p with
  | none =>
    dsimp only [Option.getD_none]
    refine ⟨hs, fun _ => rfl, fun z => absurd ?_ z⟩
    match s, hs with
    | none, _ => exact Nat.le_add_right _ _
    | some (q, c), hs => have := (hs q c rfl).2; show c ≤ _; omega
  | some c1 =>
    have g1 := h1 c1 e1
    cases e2 : dst v kb xb p with
    | none =>
      dsimp only [Option.getD_none]
      refine ⟨hs, fun _ => rfl, fun z => absurd ?_ z⟩
      match s, hs with
      | none, _ => exact Nat.le_add_left _ _
      | some (q, c), hs => have := (hs q c rfl).2; show c ≤ _; omega
    | some c2 =>
      have g2 := h2 c2 e2
      dsimp only [Option.getD_some]
      match s, hs with
      | none, _ =>
        refine ⟨fun q c e => ?_, fun z => ?_, fun _ => ⟨rfl, rfl⟩⟩
        · cases e; omega
        · replace z : inf ≤ c1 + c2 := z
          omega
      | some (q, c), hs =>
        dsimp only
        by_cases h : c1 + c2 < c
        · rw [if_pos h]
          refine ⟨fun q' c' e => ?_, fun z => ?_, fun _ => ⟨rfl, rfl⟩⟩
          · cases e; omega
          · replace z : c ≤ c1 + c2 := z
            omega
        · rw [if_neg h]
          exact ⟨hs, fun _ => rfl, fun z => absurd (show c ≤ c1 + c2 by omega) z⟩
end HOLD
