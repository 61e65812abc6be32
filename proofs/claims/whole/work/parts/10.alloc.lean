theorem xokA_spec {lv : xLv} {st : List Value} {sh : xSh} {rf : xRf} (h : xokA lv st sh rf = true) : sh.length < 900 ∧ xroL sh.length lv = true ∧ xroS sh.length st = true ∧ xroR sh.length rf = true := by
  unfold xokA at h
  simp only [Bool.and_eq_true] at h
  exact ⟨Nat.le_of_ble_eq_true h.1, h.2.1, h.2.2.1, h.2.2.2⟩
theorem xouter (c : ClassId) (N h0 : Nat) : ∀ i : Nat, Jvm.Free.Multi.outerC c N h0 i = arrV c N (fun j => va_rf (if j < i then some (h0 + 1 + j) else none))
  | 0 => by
    show ({ cls := c, slots := Array.replicate N .null, vm := .none } : Cell) = _
    rw [arrV_new]
    refine congrArg (arrV c N) (funext fun j => ?_)
    simp [va_rf]
  | i + 1 => by
    show (Jvm.Free.Multi.outerC c N h0 i).setSlot i (.ref (h0 + 1 + i)) = _
    rw [xouter c N h0 i, arrV_store]
    refine congrArg (arrV c N) (funext fun j => ?_)
    by_cases e : j = i
    · subst e
      simp [updV, va_rf]
    · by_cases h : j < i
      · simp [updV, e, h, Nat.lt_succ_of_lt h]
      · simp [updV, e, h, show ¬ j < i + 1 by omega]
section XA
variable {L : Nat} {xs : Nat → Int32} {p : Program} {l : Launch} {e : Env} {R : Room} {s : State} {m : MethodId} {args : Array Value} {below : List Frame} {meth : Method} {c : Code} {Q : State → Prop} {D : va_G} {dA : Nat → ClassId} {A : Nat → Prop} {a0 : Nat → Nat} {b c0 s0 M : Nat} {r : Option Value} {sh' : xSh} {rf' : xRf} {iv' : xIv} {lg' : xLg} {a : Nat → Nat} {H : Heap} {locs : List Loc} {ls : Array Slot} {lv : xLv} {st : List Value} {sh : xSh} {rf : xRf} {iv : xIv} {lg : xLg} {n bp nx : Nat} {os : List Nat} {cv : Value}
theorem xS.alloc {a2 : Nat → Nat} {sh2 : xSh} {rf2 : xRf} {iv2 : xIv} {lg2 : xLg} {H2 : Heap} {locs2 : List Loc} (hS : xS L xs p l e R s m args below meth c Q D dA A a0 b c0 s0 M r sh' rf' iv' lg' a H locs ls lv sh rf iv lg) (hL : xroL sh.length lv = true) (ha : ∀ k, k < sh.length ∨ k = 1000 → a2 k = a k) (hle : xle sh sh2) (h1 : rf2.length = sh2.length) (hP : va_P D xCl (xws dA a2 sh2 rf2 iv2 lg2) H2) (hD : va_D A (xws dA a2 sh2 rf2 iv2 lg2)) (hs : va_S A s.heap H2 locs2) :
    xS L xs p l e R s m args below meth c Q D dA A a0 b c0 s0 M r sh' rf' iv' lg' a2 H2 locs2 ls lv sh2 rf2 iv2 lg2 :=
  ⟨hS.1, ⟨hS.2.1.1, Nat.le_trans hS.2.1.2.1 hle.1, Nat.le_trans hS.2.1.2.2 hle.2⟩, ⟨fun k hk => (ha k (hk.imp (fun z => Nat.lt_of_lt_of_le z hS.2.1.2.1) id)).trans (hS.2.2.1.1 k hk), hS.2.2.1.2⟩, ⟨h1, hP, hD, hs⟩, xal_move hS.2.2.2.2.1 (xroL_spec ha hL), hS.2.2.2.2.2⟩
/-- one more cell -/
theorem xi_one (ih : xG L xs l n) (hS : xS L xs p l e R s m args below meth c Q D dA A a0 b c0 s0 M r sh' rf' iv' lg' a H locs ls lv sh rf iv lg) {q : Nat × Nat} {row : List (Option Nat)} {k : Nat} (hn : xbp M nx = k) (hA : sh.length < 900 ∧ xroL sh.length lv = true ∧ xroS sh.length st = true ∧ xroR sh.length rf = true)
    (h : xexec L xs n M nx lv (.ref sh.length :: st) (sh ++ [q], rf ++ [row], xzr iv sh.length 0, xzr lg sh.length 0) = some (r, sh', rf', iv', lg'))
    {q0 : Nat} {H1 : Heap} {x : va_E} (hx : ∀ a2 : Nat → Nat, a2 sh.length = q0 → xcell dA a2 (rf ++ [row]) (xzr iv sh.length 0) (xzr lg sh.length 0) sh.length q = x)
    (hP : va_P D xCl (xws dA a sh rf iv lg ++ [(q0, x)]) H1) (hD : va_D A (xws dA a sh rf iv lg ++ [(q0, x)])) (hs : va_S A s.heap H1 locs) :
    W p l e R s m args below meth c H1 locs (sh.length - c0 + 1) (xsz sh - s0 + q.2) Q (F0 m k ls (.ref q0 :: st.map (xtv a))) := by
  obtain ⟨h900, hL, hSt, hR⟩ := hA
  have ha : ∀ k, k < sh.length ∨ k = 1000 → va_up a sh.length q0 k = a k := fun k hk => by
    unfold va_up
    rw [if_neg]
    omega
  have e1 : xws dA (va_up a sh.length q0) (sh ++ [q]) (rf ++ [row]) (xzr iv sh.length 0) (xzr lg sh.length 0) = xws dA a sh rf iv lg ++ [(q0, x)] := by
    rw [xws_app hS.2.2.2.1.1 hR (fun k hk => ha k (Or.inl hk)) (fun k hk => ⟨xzr_lt hk, xzr_lt hk⟩)]
    have e2 : va_up a sh.length q0 sh.length = q0 := by unfold va_up; rw [if_pos rfl]
    congr 1
    show [(va_up a sh.length q0 (sh.length + 0), xcell dA (va_up a sh.length q0) (rf ++ [row]) (xzr iv sh.length 0) (xzr lg sh.length 0) (sh.length + 0) q)] = _
    rw [Nat.add_zero, e2, hx _ e2]
  have k1 := ih h (hS.alloc (a2 := va_up a sh.length q0) hL ha (xle_app sh [q]) (by rw [List.length_append, List.length_append, hS.2.2.2.1.1]; rfl) (by rw [e1]; exact hP) (by rw [e1]; exact hD) hs)
  have c1 : (sh ++ [q]).length - c0 = sh.length - c0 + 1 := by
    have := hS.2.1.2.1
    rw [List.length_append, List.length_singleton]
    omega
  have c2 : xsz (sh ++ [q]) - s0 = xsz sh - s0 + q.2 := by
    have := hS.2.1.2.2
    rw [xsz_app]
    show xsz sh + (q.2 + 0) - s0 = _
    omega
  rw [c1, c2, hn, List.map_cons, xroS_spec ha hSt] at k1
  have e3 : xtv (va_up a sh.length q0) (.ref sh.length) = .ref q0 := by
    show Value.ref (va_up a sh.length q0 sh.length) = _
    unfold va_up
    rw [if_pos rfl]
  rw [e3] at k1
  exact k1
theorem xroom1 (hS : xS L xs p l e R s m args below meth c Q D dA A a0 b c0 s0 M r sh' rf' iv' lg' a H locs ls lv sh rf iv lg) {q : Nat × Nat} {pc : Nat} {lv2 : xLv} {st2 : List Value} {rf2 : xRf} {iv2 : xIv} {lg2 : xLg} (h : xexec L xs n M pc lv2 st2 (sh ++ [q], rf2, iv2, lg2) = some (r, sh', rf', iv', lg')) : sh.length - c0 + 1 ≤ R.cells ∧ xsz sh - s0 + q.2 ≤ R.slots := by
  have hg := xexec_gr _ _ _ _ _ _ _ h
  have h1 : (sh ++ [q]).length ≤ sh'.length := hg.1
  have h2 : xsz (sh ++ [q]) ≤ xsz sh' := hg.2
  rw [List.length_append, List.length_singleton] at h1
  rw [xsz_app] at h2
  have h3 : xsz [q] = q.2 := by show q.2 + 0 = _; omega
  have := hS.2.1
  omega
set_option maxHeartbeats 1000000 in
theorem xi_new (hok : xOK) (ih : xG L xs l n) (hS : xS L xs p l e R s m args below meth c Q D dA A a0 b c0 s0 M r sh' rf' iv' lg' a H locs ls lv sh rf iv lg) {idx q ci nn q2 : Nat} (hn : xbp M nx = bp + 3) (hd : decode (xccf M) bp = .ok (.new idx, 3))
    (hF : xsome xCl[ci]? (fun C => Nat.beq nn C.2.2 && (decide (xlw q = some (.classLink (xYf M).cls idx C.1)) && (decide (xlw q2 = some (.instantiable C.1 C.2.2)) && decide (Cond.initialized C.1 ∈ lw_tbl)))) = true)
    (h : xrun (xexec L xs n) M (xnew nx [q, ci, nn, q2] lv st sh rf iv lg) = some (r, sh', rf', iv', lg')) : W p l e R s m args below meth c H locs (sh.length - c0) (xsz sh - s0) Q (F0 m bp ls (st.map (xtv a))) := by
  obtain ⟨⟨Cn, T, N⟩, hC, hF⟩ := xsome_inv hF
  simp only [Bool.and_eq_true, decide_eq_true_eq] at hF
  obtain ⟨hN, f1, f2, f3⟩ := hF
  have hN : nn = N := Nat.eq_of_beq_eq_true hN
  subst hN
  obtain ⟨ty, hty, hcls⟩ := hok.2.1 ci _ hC
  unfold xnew at h
  dsimp only at h
  obtain ⟨hA, h9⟩ := xrun_guard h
  clear h; have h := h9; clear h9
  rw [xsnoc_eq, xsnoc_eq] at h
  have h : xexec L xs n M nx lv (.ref sh.length :: st) (sh ++ [(10 + ci, nn)], rf ++ [List.replicate nn none], xzr iv sh.length 0, xzr lg sh.length 0) = some (r, sh', rf', iv', lg') := h
  have hrm := xroom1 hS h
  have hts := hS.1.2.1
  refine va_new (ci := ci) (fs := (List.range nn).map (fun j => if xkd ci j = true then Value.null else .int 0)) hS.1.1.1 hS.1.1.2.1 hts hcls.1 ty hcls.2.1 hS.1.1.2.2.2.1 (hts _ (xTs_of f1 rfl)) (hts _ (xTs_of f2 rfl)) (hts _ (List.mem_filter.mpr ⟨f3, rfl⟩)) hS.1.2.2.2.1 hS.2.2.2.1.2.1 hS.2.2.2.1.2.2.1 hS.2.2.2.1.2.2.2 hS.1.2.2.2.2.1 hC (fun j hj => ?_) hrm.1 hrm.2 hd (fun q0 H1 hP hD hs => ?_)
  · rw [(hcls.2.2.2 j hj).2]
    unfold vp_V
    rw [List.getD_eq_getElem?_getD, List.getElem?_map, List.getElem?_range hj]
    rfl
  · refine xi_one ih hS hn (xokA_spec hA) h (fun a2 _ => ?_) hP hD hs
    rw [xcell_obj]
    congr 2
    unfold xfs
    apply List.map_congr_left
    intro j hj
    have e1 : xrfo (rf ++ [List.replicate nn none]) sh.length j = none := by
      unfold xrfo
      rw [← hS.2.2.2.1.1, List.getElem?_append_right (Nat.le_refl _), Nat.sub_self]
      simp only [List.getElem?_cons_zero]
      rw [List.getElem?_replicate]
      split <;> rename_i heq <;> split at heq <;> simp_all
    rw [e1, xzr_ge (Nat.le_refl _)]
    rfl
/-- a new row of numbers -/
theorem xi_newa (hok : xOK) (ih : xG L xs l n) (hS : xS L xs p l e R s m args below meth c Q D dA A a0 b c0 s0 M r sh' rf' iv' lg' a H locs ls lv sh rf iv lg) {tag : Nat} {aty : ArrayType} {ty : FieldType} {z : Nat → vp_A} (hn : xbp M nx = bp + 2) (hd : decode (xccf M) bp = .ok (.newarray aty, 2))
    (hty : newarray.typeOf aty = ty) (harr : Cond.arrayClass ty ∈ xTs) (ht : (xtys dA)[tag]? = some (dA tag, ty)) (hRA : ∀ cA, va_RA s cA ty → s.vm.findClass ("[" ++ ty.toString) = some cA) (hz : ∀ N cA, vp_cell cA (z N) = arrV cA N (fun _ => defaultValue ty)) (hcb : componentBytes ty ≤ 8)
    (hx : ∀ (a2 : Nat → Nat) (rf2 : xRf) (iv2 : xIv) (lg2 : xLg) (k N : Nat), iv2 k = (fun _ => 0) → lg2 k = (fun _ => 0) → xcell dA a2 rf2 iv2 lg2 k (tag, N) = .inl (dA tag, z N))
    (h : xrun (xexec L xs n) M (xnewa tag nx lv st sh rf iv lg) = some (r, sh', rf', iv', lg')) : W p l e R s m args below meth c H locs (sh.length - c0) (xsz sh - s0) Q (F0 m bp ls (st.map (xtv a))) := by
  unfold xnewa at h
  split at h
  · rename_i N st
    obtain ⟨hA, h9⟩ := xrun_guard h
    clear h; have h := h9; clear h9
    rw [xsnoc_eq, xsnoc_eq] at h
    obtain ⟨hc, h9⟩ := xrun_C h
    clear h; have h := h9; clear h9
    have hrm := xroom1 hS h
    refine va_newa (a0 := z N.toNatClampNeg) hS.1.1.1 hS.1.1.2.1 (by rw [hty]; exact hS.1.2.1 _ harr) hty hS.1.2.2.2.1 hS.2.2.2.1.2.1 hS.2.2.2.1.2.2.1 hS.2.2.2.1.2.2.2 hS.1.2.2.2.2.1 (fun cA => hz _ cA) hc.1 rfl (Nat.le_trans (Nat.mul_le_mul hc.2 hcb) (by decide)) hrm.1 hrm.2 hd (fun q0 cA H1 hK1 hP hD hs => ?_)
    have e1 : cA = dA tag := by
      have f1 := hRA _ (hK1.2 5 (cA, ty) rfl).2
      have f2 := hRA _ (hS.1.2.2.2.1.2 tag _ ht).2
      exact Option.some.inj (f1.symm.trans f2)
    subst e1
    exact xi_one ih hS hn (xokA_spec hA) h (fun a2 _ => hx a2 _ _ _ _ _ (xzr_ge (Nat.le_refl _)) (xzr_ge (Nat.le_refl _))) hP hD hs
  · cases h
theorem xi_newq (hok : xOK) (ih : xG L xs l n) (hS : xS L xs p l e R s m args below meth c Q D dA A a0 b c0 s0 M r sh' rf' iv' lg' a H locs ls lv sh rf iv lg) {idx q : Nat} (hn : xbp M nx = bp + 3) (hd : decode (xccf M) bp = .ok (.anewarray idx, 3)) (hq : xlw q = some (.classLink (xYf M).cls idx "StepRings$Sheet"))
    (h : xrun (xexec L xs n) M (xnewq nx lv st sh rf iv lg) = some (r, sh', rf', iv', lg')) : W p l e R s m args below meth c H locs (sh.length - c0) (xsz sh - s0) Q (F0 m bp ls (st.map (xtv a))) := by
  unfold xnewq at h
  split at h
  · rename_i N st
    obtain ⟨hA, h9⟩ := xrun_guard h
    clear h; have h := h9; clear h9
    rw [xsnoc_eq, xsnoc_eq] at h
    obtain ⟨hc, h9⟩ := xrun_C h
    clear h; have h := h9; clear h9
    have hrm := xroom1 hS h
    have hts := hS.1.2.1
    refine va_newq (C := "StepRings$Sheet") hS.1.1.1 hS.1.1.2.1 hS.1.1.2.2.2.1 (hts _ (xTs_of hq rfl)) (va_AO.of (hts _ hok.2.2.2.2.2.2.2.2.2.1)) hS.1.2.2.2.1 hS.2.2.2.1.2.1 hS.2.2.2.1.2.2.1 hS.2.2.2.1.2.2.2 hS.1.2.2.2.2.1 hc.1 rfl (Nat.le_trans (Nat.mul_le_mul_right 4 hc.2) (by decide)) hrm.1 hrm.2 hd (fun q0 cA H1 hK1 hP hD hs => ?_)
    have e1 : cA = dA 4 := by
      obtain ⟨_, _, _, _, _, f1⟩ := (hK1.2 5 (cA, .object "StepRings$Sheet") rfl).2
      obtain ⟨_, _, _, _, _, f2⟩ := (hS.1.2.2.2.1.2 4 (dA 4, .object "StepRings$Sheet") rfl).2
      exact Option.some.inj (f1.symm.trans f2)
    subst e1
    refine xi_one ih hS hn (xokA_spec hA) h (fun a2 _ => ?_) hP hD hs
    show (Sum.inl (dA 4, N.toNatClampNeg, .inr (.inr (.inr (.inr (fun j => (xrfo (rf ++ [List.replicate N.toNatClampNeg none]) sh.length j).map a2))))) : va_E) = _
    have e2 : (fun j => (xrfo (rf ++ [List.replicate N.toNatClampNeg none]) sh.length j).map a2) = fun _ => none := by
      funext j
      have e1 : xrfo (rf ++ [List.replicate N.toNatClampNeg none]) sh.length j = none := by
        unfold xrfo
        rw [← hS.2.2.2.1.1, List.getElem?_append_right (Nat.le_refl _), Nat.sub_self]
        simp only [List.getElem?_cons_zero]
        rw [List.getElem?_replicate]
        split <;> rename_i heq <;> split at heq <;> simp_all
      rw [e1]
      rfl
    rw [e2]
  · cases h
end XA
