/-- the words that a callee may take as they are, and the others, which are carried -/
def xTg : List Cond := xTs.filter goodWord
def xNs (U : State) : Prop := ∀ w ∈ xTs, goodWord w = false → w.before #[] U = true
theorem xAOA_moved {u U : State} (hvm : u.vm.Alike U.vm) (h : (Cond.arrayOver (.array .int)).before #[] u = true) : (Cond.arrayOver (.array .int)).before #[] U = true := by
  obtain ⟨comp, c, k, h1, h2, h3, h4, h5⟩ := arrayOverA_spec h
  obtain ⟨k', hk', he⟩ := hvm.2.2 _ _ h3
  have hi : (U.vm.classes.findIdx? fun (x : Class) => match x.kind with | .array component _ => component == comp | _ => false) = some c := by
    have e1 := va_idx_bare U.vm comp
    have e2 := va_idx_bare u.vm comp
    have e3 : U.vm.bare = u.vm.bare := by first | exact hvm.bare_eq | exact hvm.bare_eq.symm
    rw [e3] at e1
    exact e1.symm.trans (e2.trans h2)
  have hkind : k'.kind = .array comp (.array .int) := by rw [he]; exact h4
  have f1 : U.vm.findClass (FieldType.array .int).toString = some comp := by rw [hvm.findClass]; exact h1
  have f2 : U.vm.findClass ("[" ++ (FieldType.array .int).toString) = some c := by rw [hvm.findClass]; exact h5
  unfold Cond.before Cond.holds
  simp only [Cond.value]
  rw [f1, Option.bind_some]
  refine (congrArg (fun o : Option Nat => (o.bind (fun c => (U.vm.classes[c]?).map fun (k : Class) => match k.kind with | .array _ ty => decide (ty = FieldType.array .int) && decide (U.vm.findClass ("[" ++ (FieldType.array .int).toString) = some c) | _ => false) == some true)) hi).trans ?_
  simp [hk', hkind, f2]
theorem xTs_kinds (hok : xOK) {w : Cond} (hw : w ∈ xTs) (hg : goodWord w = false) : (∃ a i y h, w = .methodLinkNest a i y h) ∨ (∃ C, w = .arrayOver (.object C)) ∨ w = .arrayOver (.array .int) := by
  obtain ⟨h1, h2⟩ := List.mem_filter.mp hw
  exact (hok.2.2.1 w h1 h2).resolve_left (fun z => by rw [hg] at z; cases z)
theorem xNs_same (hok : xOK) {u U : State} (h : u.vm = U.vm) (hN : xNs u) : xNs U := by
  intro w hw hg
  have h1 := hN w hw hg
  rcases xTs_kinds hok hw hg with ⟨a, i, y, h, rfl⟩ | ⟨C, rfl⟩ | rfl
  · exact va_Nw.same rfl ‹u.vm = U.vm› h1
  · exact va_AO.moved (by rw [h]; exact Vm.Alike.refl _) h1
  · exact xAOA_moved (by rw [h]; exact Vm.Alike.refl _) h1
theorem xNs_warm (hok : xOK) {s U : State} {args : Array Value} (hW : s.WarmedH U.vm) (hts : ∀ w ∈ xTs, w.before args s = true) : xNs U := by
  intro w hw hg
  have h1 := hts w hw
  rcases xTs_kinds hok hw hg with ⟨a, i, y, h, rfl⟩ | ⟨C, rfl⟩ | rfl
  · exact va_Nw.warmM hW (va_Nw.of rfl h1)
  · exact va_AO.moved hW.alike (va_AO.of h1)
  · exact xAOA_moved hW.alike h1
theorem xNs_use (hok : xOK) {s : State} {args : Array Value} (hN : xNs s) (hg : ∀ w ∈ xTg, w.before args s = true) : ∀ w ∈ xTs, w.before args s = true := by
  intro w hw
  cases hgw : goodWord w with
  | true => exact hg w (List.mem_filter.mpr ⟨hw, hgw⟩)
  | false =>
    have h1 := hN w hw hgw
    rcases xTs_kinds hok hw hgw with ⟨a, i, y, h, rfl⟩ | ⟨C, rfl⟩ | rfl
    · exact va_Nw.use rfl h1
    · exact va_AO.use h1
    · exact h1
theorem lg_sl_cat : ∀ l : List Value, (lg_sl l).length = (l.map fun v => v.category).sum
  | [] => rfl
  | v :: l => by
    have ih := lg_sl_cat l
    unfold lg_sl at ih ⊢
    rw [List.flatMap_cons, List.length_append, ih, List.map_cons, List.sum_cons]
    rcases lv_cat v with h | h
    · rw [if_neg (by omega), h]; rfl
    · rw [if_pos h, h]; rfl
theorem xokC_spec {m : Nat} (h : xokC m = true) : xbp m 0 = 0 ∧ m < xNM ∧ xlw (xcwf m) = some (.code (xYf m) (xccf m) (xml m) (xretf m)) ∧ xlw (xiwf m) = some (.initialized (xYf m).cls) ∧ ((xYf m).cls ≠ "java/lang/invoke/MethodHandle" ∧ (xYf m).cls ≠ "java/lang/invoke/VarHandle") ∧ plainName (xYf m).cls = true ∧ (parseMethodDescriptor (xYf m).desc).map (fun d => d.parameters.length) = some (xnpf m) := by
  unfold xokC at h
  simp only [Bool.and_eq_true, decide_eq_true_eq] at h
  exact ⟨Nat.eq_of_beq_eq_true h.1.1, Nat.le_of_ble_eq_true h.1.2, h.2.1, h.2.2.1, h.2.2.2.1, h.2.2.2.2.1, h.2.2.2.2.2⟩
def xPc (D : va_G) (dA : Nat → ClassId) (a : Nat → Nat) (sz : Nat) (as : List Value) (sh : xSh) (rf : xRf) (iv : xIv) (lg : xLg) : Array Value → State → Prop := va_Pc (as.map (xtv a)) (fun U => U.heap.size = sz ∧ va_P D xCl (xws dA a sh rf iv lg) U.heap ∧ va_K D xCl (xtys dA) U ∧ va_D (fun _ => True) (xws dA a sh rf iv lg) ∧ xNs U)
def xQc (D : va_G) (dA : Nat → ClassId) (a : Nat → Nat) (sz : Nat) (sh : xSh) (rf : xRf) (iv : xIv) (lg : xLg) (r1 : Option Value) (sh1 : xSh) (rf1 : xRf) (iv1 : xIv) (lg1 : xLg) : Array Value → State → Outcome → State → Prop := fun _ st oc t =>
  (∃ a' : Nat → Nat, oc = .returned (r1.map (xtv a')) ∧ (∀ k, k < sh.length ∨ k = 1000 → a' k = a k) ∧ rf1.length = sh1.length ∧ va_P D xCl (xws dA a' sh1 rf1 iv1 lg1) t.heap ∧ va_D (va_A (xws dA a sh rf iv lg) sz) (xws dA a' sh1 rf1 iv1 lg1)) ∧ va_F (va_A (xws dA a sh rf iv lg) sz) st t
section XC
variable {L : Nat} {xs : Nat → Int32} {p : Program} {l : Launch} {e : Env} {R : Room} {s : State} {m : MethodId} {args : Array Value} {below : List Frame} {meth : Method} {c : Code} {Q : State → Prop} {D : va_G} {dA : Nat → ClassId} {A : Nat → Prop} {a0 : Nat → Nat} {b c0 s0 M : Nat} {r : Option Value} {sh' : xSh} {rf' : xRf} {iv' : xIv} {lg' : xLg} {a : Nat → Nat} {H : Heap} {locs : List Loc} {ls : Array Slot} {lv : xLv} {st : List Value} {sh : xSh} {rf : xRf} {iv : xIv} {lg : xLg} {n bp nx : Nat} {os : List Nat} {cv : Value}
set_option maxHeartbeats 1000000 in
/-- a method's contract, out of the small machine's run -/
theorem xMet (hok : xOK) (ih : xG L xs l n) {m1 : Nat} (hm0 : 0 < m1) (hC : xokC m1 = true) {as : List Value} {r1 : Option Value} {sh1 : xSh} {rf1 : xRf} {iv1 : xIv} {lg1 : xLg} (h : xexec L xs n m1 0 (xent (xml m1) as) [] (sh, rf, iv, lg) = some (r1, sh1, rf1, iv1, lg1)) (hrl : rf.length = sh.length) (hcat : xcat as ≤ xml m1) (D : va_G) (dA : Nat → ClassId) (a : Nat → Nat) (sz : Nat) :
    Met l (xYf m1) (Cond.code (xYf m1) (xccf m1) (xml m1) (xretf m1) :: xTg) ({ frames := xfrf m1, cells := sh1.length - sh.length, slots := xsz sh1 - xsz sh, locals := xlof m1 }) (xPc D dA a sz as sh rf iv lg) (xQc D dA a sz sh rf iv lg r1 sh1 rf1 iv1 lg1) (sh1.length - sh.length) (xsz sh1 - xsz sh) (va_A (xws dA a sh rf iv lg) sz) := by
  obtain ⟨hbp0, -, -, -, -, hpl, -⟩ := xokC_spec hC
  refine Met.ofW (cc := xccf m1) (maxL := xml m1) (ret := xretf m1) hpl rfl ?_
  intro p e s m args below meth c s₁ B hml hv
  obtain ⟨rfl, hsz, hP, hK, hD0, hNs⟩ := hv
  have hts0 := atoms_spec (ws := Cond.code (xYf m1) (xccf m1) (xml m1) (xretf m1) :: xTg) B.pre
  have hts := xNs_use hok hNs (fun w hw => hts0 w (List.mem_cons_of_mem _ hw))
  have hlocks := B.notSynchronized
  subst hsz
  have hD := hD0.self (sz := s.heap.size)
  have hl := lv_entry (as.map (xtv a)) (n := xml m1) (by rw [lg_sl_cat, xcat_sum]; exact hcat)
  rw [lg_entry_eq]
  generalize (lg_sl (as.map (xtv a)) ++ List.replicate (xml m1 - (lg_sl (as.map (xtv a))).length) Slot.unset).toArray = ls at hl ⊢
  have hl2 : lv_has ls (xml m1) (xal a 0 (xent (xml m1) as)) := ⟨hl.1, hl.2.1, fun q hq => hl.2.2 q (xent_args _ _ _ hq)⟩
  have k1 := @ih p e ({ frames := xfrf m1, cells := sh1.length - sh.length, slots := xsz sh1 - xsz sh, locals := xlof m1 } : Room) s m _ below meth c (MQ below (xQc D dA a s.heap.size sh rf iv lg r1 sh1 rf1 iv1 lg1) (as.map (xtv a)).toArray s (sh1.length - sh.length) (xsz sh1 - xsz sh) (va_A (xws dA a sh rf iv lg) s.heap.size)) D dA (va_A (xws dA a sh rf iv lg) s.heap.size) a (a 1000) sh.length (xsz sh) m1 0 r1 sh1 rf1 iv1 lg1 a s.heap [] ls (xent (xml m1) as) [] sh rf iv lg h
    ⟨⟨⟨B.exec, B.bytes, hml, findClass_of_methodNamed B.named, fun _ => (name_of_methodNamed B.named B.method).1⟩, hts, ⟨Nat.le_refl _, Nat.le_refl _⟩, hK, fun q hq => Or.inr hq, fun z => absurd z (by omega)⟩, ⟨⟨Nat.le_refl _, Nat.le_refl _⟩, Nat.le_refl _, Nat.le_refl _⟩, ⟨fun _ _ => rfl, rfl⟩, ⟨hrl, hP, hD, va_S.rf⟩, hl2, ?_⟩
  · rw [hbp0, Nat.sub_self, Nat.sub_self] at k1
    exact k1
  · intro a' H locs ls' bp hag hWd hRt
    obtain ⟨w1, w2, w3, w4⟩ := hWd
    have hq : ∀ t : State, t.heap = H → (∀ v, v = r1.map (xtv a') → xQc D dA a s.heap.size sh rf iv lg r1 sh1 rf1 iv1 lg1 (as.map (xtv a)).toArray s (.returned v) t) := fun t ht v hv => ⟨⟨a', by rw [hv], hag, w1, by rw [ht]; exact w2, w3⟩, w4.F ht⟩
    rcases hRt with ⟨v, rfl, hd, hret⟩ | ⟨v, rfl, hd, hret⟩ | ⟨v, t, rfl, hd, hret⟩ | ⟨rfl, hd, hret⟩
    · rcases hret with hret | ⟨hret, hv⟩
      · exact W.iret B.exec B.bytes (B.returns.trans hret) (fun t ht hW => hq t ht _ rfl) w4.2.2 hd
      · exact W.zret B.exec B.bytes (B.returns.trans hret) (by rcases hv with z | z <;> subst z <;> decide) (fun t ht hW => hq t ht _ rfl) w4.2.2 hd
    · exact W.lret B.exec B.bytes (B.returns.trans hret) (fun t ht hW => hq t ht _ rfl) w4.2.2 hd
    · exact W.aret B.exec B.bytes (B.returns.trans hret) (Or.inr ⟨t, rfl⟩) (Or.inr ⟨_, rfl⟩) (fun t ht hW => hq t ht _ rfl) w4.2.2 hd
    · exact W.vret B.exec B.bytes (B.returns.trans hret) (fun t ht hW => hq t ht _ rfl) w4.2.2 hd
theorem xPc_blind (hok : xOK) {as : List Value} {sz : Nat} : FrameBlind (xPc D dA a sz as sh rf iv lg) := fun x U g mk q => by
  obtain ⟨q0, q1, qP, qK, qD, qN⟩ := q
  exact ⟨q0, q1, qP, va_K.moved (u := U) (U := U.calling g mk x) (Vm.Alike.refl U.vm) qK, qD, xNs_same hok (u := U) rfl qN⟩
set_option maxHeartbeats 1000000 in
/-- behind a call -/
theorem xi_back (ih : xG L xs l n) (hS : xS L xs p l e R s m args below meth c Q D dA A a0 b c0 s0 M r sh' rf' iv' lg' a H locs ls lv sh rf iv lg) (hn : xbp M nx = bp + 3) {r1 : Option Value} {sh1 : xSh} {rf1 : xRf} {iv1 : xIv} {lg1 : xLg} (hle : xle sh sh1) {st0 : List Value} {as : Array Value} (hL : xroL sh.length lv = true) (hSt : xroS sh.length st = true)
    (hr : va_Run p l e R s m args below meth c H locs (sh.length - c0) (xsz sh - s0) (sh1.length - sh.length) (xsz sh1 - xsz sh) (F0 m bp ls st0) (st.map (xtv a)) (xQc D dA a H.size sh rf iv lg r1 sh1 rf1 iv1 lg1 as) (va_A (xws dA a sh rf iv lg) H.size))
    (h : xexec L xs n M nx lv (xpush r1 st) (sh1, rf1, iv1, lg1) = some (r, sh', rf', iv', lg')) : W p l e R s m args below meth c H locs (sh.length - c0) (xsz sh - s0) Q (F0 m bp ls st0) := by
  intro T hT X
  obtain ⟨v, st₀, t, T', L0, h0, X', hL0, e1, e2, ⟨⟨a', hv, hag, hl1, hP1, hD1⟩, hz, hk⟩, stp⟩ := hr T hT X
  rw [h0] at hz hk
  have hP := hS.2.2.2.1.2.1
  have hD := hS.2.2.2.1.2.2.1
  have hs := hS.2.2.2.1.2.2.2
  have hF : ∀ q, va_A (xws dA a sh rf iv lg) H.size q → A q := fun q hq => by
    rcases hq with ⟨k, x, hk⟩ | hq
    · exact hD.2 k (q, x) hk
    · exact hS.1.2.2.2.2.1 q (Nat.le_trans hs.1 hq)
  have hs1 : va_S A s.heap T'.heap (locs ++ L0) := ⟨Nat.le_trans hs.1 (by rw [e1]; exact hz), fun q h1 h2 => by rw [e1, hk q (Nat.lt_of_lt_of_le h1 hs.1) (fun z => h2 (hF q z))]; exact hs.2.1 q h1 h2, fun q hq => by
      rcases List.mem_append.mp hq with h | h
      · exact hs.2.2 q h
      · exact hF _ (hL0 q h)⟩
  have k1 := ih h (hS.alloc (a2 := a') (rf2 := rf1) (iv2 := iv1) (lg2 := lg1) (H2 := T'.heap) (locs2 := locs ++ L0) hL hag hle hl1 (by rw [e1]; exact hP1) (hD1.weaken (fun _ q _ z => hF q.1 z)) hs1)
  have c1 : sh.length - c0 + (sh1.length - sh.length) = sh1.length - c0 := by
    have := hS.2.1.2.1
    have := hle.1
    omega
  have c2 : xsz sh - s0 + (xsz sh1 - xsz sh) = xsz sh1 - s0 := by
    have := hS.2.1.2.2
    have := hle.2
    omega
  rw [c1, c2] at X'
  obtain ⟨t2, a1, b1⟩ := k1 T' rfl X'
  refine ⟨t2, stp t2 ?_, b1⟩
  have hv2 : v = r1.map (xtv a') := by cases hv; rfl
  have e3 : v.toList ++ st.map (xtv a) = (xpush r1 st).map (xtv a') := by
    rw [hv2]
    cases r1 with
    | none => exact (xroS_spec hag hSt).symm
    | some w =>
      show xtv a' w :: st.map (xtv a) = xtv a' w :: st.map (xtv a')
      rw [xroS_spec hag hSt]
  rw [hn] at a1
  show Steps p.tables e below (T'.setTop (F0 m (bp + 3) ls (v.toList ++ st.map (xtv a)))) t2
  rw [e3]
  exact a1
theorem xGood (hok : xOK) {m1 : Nat} (hC : xokC m1 = true) : GoodIn xTs (Cond.code (xYf m1) (xccf m1) (xml m1) (xretf m1) :: xTg) := by
  obtain ⟨-, -, hcw, -⟩ := xokC_spec hC
  intro w hw
  rcases List.mem_cons.mp hw with rfl | hw
  · exact ⟨xTs_of hcw rfl, Or.inl rfl⟩
  · obtain ⟨h1, h2⟩ := List.mem_filter.mp hw
    exact ⟨h1, good_of_word h2⟩
theorem xrun_call {g : Nat → Nat → xLv → List Value → xMem → Option (Option Value × xMem)} {M : Nat} {y : Option Value × xMem} {m1 nx : Nat} {as : List Value} {lv : xLv} {st : List Value} {sh : xSh} {rf : xRf} {iv : xIv} {lg : xLg} (h : xrun g M (xCall m1 as nx lv st sh rf iv lg) = some y) : ∃ r1 sh1 rf1 iv1 lg1, g m1 0 (xent (xml m1) as) [] (sh, rf, iv, lg) = some (r1, sh1, rf1, iv1, lg1) ∧ g M nx lv (xpush r1 st) (sh1, rf1, iv1, lg1) = some y := by
  unfold xCall xrun at h
  dsimp only at h
  cases hm : g m1 0 (xent (xml m1) as) [] (sh, rf, iv, lg) with
  | none => rw [hm] at h; cases h
  | some q =>
    rw [hm] at h
    obtain ⟨r1, sh1, rf1, iv1, lg1⟩ := q
    exact ⟨r1, sh1, rf1, iv1, lg1, rfl, h⟩
theorem xokR_spec {M m1 : Nat} (h : xokR M m1 = true) : xfrf m1 + 1 ≤ xfrf M ∧ 19 + (xml m1 + xlof m1) ≤ xlof M := by
  unfold xokR at h
  simp only [Bool.and_eq_true] at h
  exact ⟨Nat.le_of_ble_eq_true h.1.2, Nat.le_of_ble_eq_true h.2⟩
set_option maxHeartbeats 2000000 in
theorem xi_stat (hok : xOK) (ih : xG L xs l n) (hS : xS L xs p l e R s m args below meth c Q D dA A a0 b c0 s0 M r sh' rf' iv' lg' a H locs ls lv sh rf iv lg) {m1 idx q k2 np nest : Nat} (hn : xbp M nx = bp + 3) (hd : decode (xccf M) bp = .ok (.invokestatic idx, 3)) (hm0 : 0 < m1) (hC : xokC m1 = true) (hlk : xokL (xYf M).cls idx m1 q nest = true) (hst : xlw k2 = some (.static (xYf m1))) (hnp : np = xnpf m1) (hR : xokR M m1 = true)
    (h : xrun (xexec L xs n) M (xcall m1 np nx lv st sh rf iv lg) = some (r, sh', rf', iv', lg')) : W p l e R s m args below meth c H locs (sh.length - c0) (xsz sh - s0) Q (F0 m bp ls (st.map (xtv a))) := by
  unfold xcall at h
  obtain ⟨as, st', rfl, hlen, h9⟩ := xrun_take h
  clear h; have h := h9; clear h9
  obtain ⟨hg, h9⟩ := xrun_guard h
  clear h; have h := h9; clear h9
  simp only [Bool.and_eq_true] at hg
  obtain ⟨⟨hcs, hca, hra⟩, hrl, hrs⟩ := hg
  obtain ⟨r1, sh1, rf1, iv1, lg1, h1, h2⟩ := xrun_call h
  obtain ⟨-, -, hcw, hiw, hnn, -, hpar⟩ := xokC_spec hC
  obtain ⟨hR1, hR2⟩ := xokR_spec hR
  have hts := hS.1.2.1
  have hle : xle sh sh1 := xexec_gr _ _ _ _ _ _ _ h1
  have hgr : xle sh1 sh' := xexec_gr _ _ _ _ _ _ _ h2
  have hM := xMet hok ih hm0 hC h1 hS.2.2.2.1.1 (Nat.le_of_ble_eq_true hca) D dA a H.size
  have hf : sh.length - c0 + (sh1.length - sh.length) ≤ R.cells ∧ xsz sh - s0 + (xsz sh1 - xsz sh) ≤ R.slots := by
    have h1 := hS.2.1
    have h2 := hle.1
    have h3 := hle.2
    have h4 := hgr.1
    have h5 := hgr.2
    omega
  have hpre : PreS s H (xPc D dA a H.size as sh rf iv lg) (as.map (xtv a)) := ⟨xPc_blind hok, fun U hU hW => ⟨rfl, by rw [hU], by rw [hU]; exact hS.2.2.2.1.2.1, va_K.moved hW.alike hS.1.2.2.2.1, hS.2.2.2.1.2.2.1.weaken (fun _ _ _ _ => trivial), xNs_warm hok hW hts⟩⟩
  have hstk : (F0 m bp ls (List.map (xtv a) (as.reverse ++ st'))).stack = (as.map (xtv a)).reverse ++ st'.map (xtv a) := by
    show List.map (xtv a) (as.reverse ++ st') = _
    rw [List.map_append, List.map_reverse]
  have hroom : xfrf m1 + 1 ≤ R.frames ∧ 8 + (xml m1 + 11) + xlof m1 ≤ R.locals := by
    have := hS.1.2.2.1
    omega
  have hd3 : (xYf m1).cls ≠ "java/lang/invoke/MethodHandle" ∧ (xYf m1).cls ≠ "java/lang/invoke/VarHandle" ∧ (parseMethodDescriptor (xYf m1).desc).map (fun d => d.parameters.length) = some (xnpf m1) := ⟨hnn.1, hnn.2, hpar⟩
  refine xi_back (as := (as.map (xtv a)).toArray) ih hS hn hle hrl hrs ?_ h2
  unfold xokL at hlk
  split at hlk
  · have hlk := of_decide_eq_true hlk
    exact va_runS (As := as.map (xtv a)) ⟨hS.1.1.1, hS.1.1.2.1, hS.1.1.2.2.1, hS.1.1.2.2.2.1, hts⟩ hM ⟨callB_of (xnpf m1) hts (xGood hok hC) rfl rfl rfl (hts _ (xTs_of hiw rfl)) (hts _ (xTs_of hlk rfl)) hd3 hroom, hts _ (xTs_of hst rfl)⟩ hpre rfl (by rw [List.length_map, hlen, hnp]) hS.2.2.2.2.1.1 hstk (lv_room (by rw [xcat_sum]; exact Nat.le_of_ble_eq_true hcs)) hd hf
  · have hlk := of_decide_eq_true hlk
    exact va_runSN (As := as.map (xtv a)) ⟨hS.1.1.1, hS.1.1.2.1, hS.1.1.2.2.1, hS.1.1.2.2.2.1, hts⟩ hM ⟨va_cnB (xnpf m1) hts (xGood hok hC) rfl rfl rfl (va_Nw.of rfl (hts _ (xTs_of hlk rfl))) (hts _ (xTs_of hiw rfl)) hd3 hroom, hts _ (xTs_of hst rfl), trivial⟩ hpre rfl (by rw [List.length_map, hlen, hnp]) hS.2.2.2.2.1.1 hstk (lv_room (by rw [xcat_sum]; exact Nat.le_of_ble_eq_true hcs)) hd hf
end XC
