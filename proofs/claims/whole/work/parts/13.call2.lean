section XC
variable {L : Nat} {xs : Nat → Int32} {p : Program} {l : Launch} {e : Env} {R : Room} {s : State} {m : MethodId} {args : Array Value} {below : List Frame} {meth : Method} {c : Code} {Q : State → Prop} {D : va_G} {dA : Nat → ClassId} {A : Nat → Prop} {a0 : Nat → Nat} {b c0 s0 M : Nat} {r : Option Value} {sh' : xSh} {rf' : xRf} {iv' : xIv} {lg' : xLg} {a : Nat → Nat} {H : Heap} {locs : List Loc} {ls : Array Slot} {lv : xLv} {st : List Value} {sh : xSh} {rf : xRf} {iv : xIv} {lg : xLg} {n bp nx : Nat} {os : List Nat} {cv : Value}
set_option maxHeartbeats 2000000 in
theorem xi_spec (hok : xOK) (ih : xG L xs l n) (hS : xS L xs p l e R s m args below meth c Q D dA A a0 b c0 s0 M r sh' rf' iv' lg' a H locs ls lv sh rf iv lg) {m1 idx q k2 np nest : Nat} (hn : xbp M nx = bp + 3) (hd : decode (xccf M) bp = .ok (.invokespecial idx, 3)) (hm0 : 0 < m1) (hC : xokC m1 = true) (hlk : xokL (xYf M).cls idx m1 q nest = true) (hst : xlw k2 = some (.instanceMethod (xYf m1))) (hnp : np = xnpf m1 + 1) (hnm : (xYf m1).name = "<init>") (hrt : xretf m1 = none) (hR : xokR M m1 = true)
    (h : xrun (xexec L xs n) M (xcallI m1 np nx lv st sh rf iv lg) = some (r, sh', rf', iv', lg')) : W p l e R s m args below meth c H locs (sh.length - c0) (xsz sh - s0) Q (F0 m bp ls (st.map (xtv a))) := by
  unfold xcallI at h
  obtain ⟨as, st', rfl, hlen, h9⟩ := xrun_take h
  clear h; have h := h9; clear h9
  split at h
  · rename_i k as
    obtain ⟨hg, h9⟩ := xrun_guard h
    clear h; have h := h9; clear h9
    simp only [Bool.and_eq_true] at hg
    obtain ⟨⟨hcs, hca, hra⟩, hrl, hrs⟩ := hg
    obtain ⟨r1, sh1, rf1, iv1, lg1, h1, h2⟩ := xrun_call h
    obtain ⟨-, -, hcw, hiw, hnn, -, hpar⟩ := xokC_spec hC
    obtain ⟨hR1, hR2⟩ := xokR_spec hR
    have hts := hS.1.2.1
    have hle : xle sh sh1 := xexec_gr _ _ _ _ _ _ _ h1
    have hgr : xle sh1 sh' := xexec_gr _ _ _ _ _ _ _ h2
    have hM := xMet hok ih hm0 hC h1 hS.2.2.2.1.1 (Nat.le_of_ble_eq_true hca) D dA a H.size
    have hf : sh.length - c0 + (sh1.length - sh.length) ≤ R.cells ∧ xsz sh - s0 + (xsz sh1 - xsz sh) ≤ R.slots := by
      have h1 := hS.2.1
      have h2 := hle.1
      have h3 := hle.2
      have h4 := hgr.1
      have h5 := hgr.2
      omega
    have hpre : PreS s H (xPc D dA a H.size (.ref k :: as) sh rf iv lg) (.ref (a k) :: as.map (xtv a)) := ⟨xPc_blind hok, fun U hU hW => ⟨rfl, by rw [hU], by rw [hU]; exact hS.2.2.2.1.2.1, va_K.moved hW.alike hS.1.2.2.2.1, hS.2.2.2.1.2.2.1.weaken (fun _ _ _ _ => trivial), xNs_warm hok hW hts⟩⟩
    have hroom : xfrf m1 + 1 ≤ R.frames ∧ 8 + (xml m1 + 11) + xlof m1 ≤ R.locals := by
      have := hS.1.2.2.1
      omega
    have hd3 : (xYf m1).cls ≠ "java/lang/invoke/MethodHandle" ∧ (xYf m1).cls ≠ "java/lang/invoke/VarHandle" ∧ (parseMethodDescriptor (xYf m1).desc).map (fun d => d.parameters.length) = some (xnpf m1) := ⟨hnn.1, hnn.2, hpar⟩
    have hGd := xGood hok hC
    rw [hrt] at hM hGd
    have hstk : (F0 m bp ls (List.map (xtv a) ((.ref k :: as).reverse ++ st'))).stack = (as.map (xtv a)).reverse ++ .ref (a k) :: st'.map (xtv a) := by
      show List.map (xtv a) ((.ref k :: as).reverse ++ st') = _
      rw [List.reverse_cons, List.append_assoc, List.map_append, List.map_reverse]
      rfl
    refine xi_back (as := ((Value.ref k :: as).map (xtv a)).toArray) ih hS hn hle hrl hrs ?_ h2
    have hl2 : (as.map (xtv a)).length = xnpf m1 := by
      rw [List.length_map]
      rw [hnp, List.length_cons] at hlen
      omega
    unfold xokL at hlk
    split at hlk
    · have hlk := of_decide_eq_true hlk
      exact va_runI (b := a k) (As := as.map (xtv a)) ⟨hS.1.1.1, hS.1.1.2.1, hS.1.1.2.2.1, hS.1.1.2.2.2.1, hts⟩ hM ⟨callB_of (xnpf m1) hts hGd rfl rfl rfl (hts _ (xTs_of hiw rfl)) (hts _ (xTs_of hlk rfl)) hd3 hroom, hnm, hts _ (xTs_of hst rfl)⟩ hpre rfl hl2 hS.2.2.2.2.1.1 hstk (lv_room (by rw [xcat_sum]; exact Nat.le_of_ble_eq_true hcs)) hd hf
    · have hlk := of_decide_eq_true hlk
      exact va_runIN (b := a k) (As := as.map (xtv a)) ⟨hS.1.1.1, hS.1.1.2.1, hS.1.1.2.2.1, hS.1.1.2.2.2.1, hts⟩ hM ⟨va_cnB (xnpf m1) hts hGd rfl rfl rfl (va_Nw.of rfl (hts _ (xTs_of hlk rfl))) (hts _ (xTs_of hiw rfl)) hd3 hroom, hnm, hts _ (xTs_of hst rfl)⟩ hpre rfl hl2 hS.2.2.2.2.1.1 hstk (lv_room (by rw [xcat_sum]; exact Nat.le_of_ble_eq_true hcs)) hd hf
  · cases h
set_option maxHeartbeats 2000000 in
theorem xi_virt (hok : xOK) (ih : xG L xs l n) (hS : xS L xs p l e R s m args below meth c Q D dA A a0 b c0 s0 M r sh' rf' iv' lg' a H locs ls lv sh rf iv lg) {m1 idx q k2 k3 np nest ci : Nat} (hn : xbp M nx = bp + 3) (hd : decode (xccf M) bp = .ok (.invokevirtual idx, 3)) (hm0 : 0 < m1) (hC : xokC m1 = true) (hlk : xokL (xYf M).cls idx m1 q nest = true) (hst : xlw k2 = some (.instanceMethod (xYf m1))) (hsel : xlw k3 = some (.selects (xYf m1).cls (xYf m1) (xYf m1))) (hnp : np = xnpf m1 + 1) (hci : xsome xCl[ci]? (fun C => decide (C.1 = (xYf m1).cls)) = true) (hR : xokR M m1 = true)
    (h : xrun (xexec L xs n) M (xcallV m1 np ci nx lv st sh rf iv lg) = some (r, sh', rf', iv', lg')) : W p l e R s m args below meth c H locs (sh.length - c0) (xsz sh - s0) Q (F0 m bp ls (st.map (xtv a))) := by
  unfold xcallV at h
  obtain ⟨as, st', rfl, hlen, h9⟩ := xrun_take h
  clear h; have h := h9; clear h9
  split at h
  · rename_i k as
    obtain ⟨⟨tg, nn⟩, hq2, h9⟩ := xrun_nth h
    clear h; have h := h9; clear h9
    obtain ⟨htag, h9⟩ := xrun_guard h
    clear h; have h := h9; clear h9
    have htag : tg = 10 + ci := Nat.eq_of_beq_eq_true htag
    subst htag
    have hw := xws_get (dA := dA) (a := a) (rf := rf) (iv := iv) (lg := lg) hq2
    rw [xcell_obj] at hw
    obtain ⟨Cc, hCc, hcc⟩ := xsome_inv hci
    have hcc := of_decide_eq_true hcc
    obtain ⟨hg, h9⟩ := xrun_guard h
    clear h; have h := h9; clear h9
    simp only [Bool.and_eq_true] at hg
    obtain ⟨⟨hcs, hca, hra⟩, hrl, hrs⟩ := hg
    obtain ⟨r1, sh1, rf1, iv1, lg1, h1, h2⟩ := xrun_call h
    obtain ⟨-, -, hcw, hiw, hnn, -, hpar⟩ := xokC_spec hC
    obtain ⟨hR1, hR2⟩ := xokR_spec hR
    have hts := hS.1.2.1
    have hle : xle sh sh1 := xexec_gr _ _ _ _ _ _ _ h1
    have hgr : xle sh1 sh' := xexec_gr _ _ _ _ _ _ _ h2
    have hM := xMet hok ih hm0 hC h1 hS.2.2.2.1.1 (Nat.le_of_ble_eq_true hca) D dA a H.size
    have hf : sh.length - c0 + (sh1.length - sh.length) ≤ R.cells ∧ xsz sh - s0 + (xsz sh1 - xsz sh) ≤ R.slots := by
      have h1 := hS.2.1
      have h2 := hle.1
      have h3 := hle.2
      have h4 := hgr.1
      have h5 := hgr.2
      omega
    have hpre : PreV s H (xYf m1).cls (a k) (xPc D dA a H.size (.ref k :: as) sh rf iv lg) (as.map (xtv a)) := ⟨xPc_blind hok, by rw [← hcc]; exact va_recv hS.1.2.2.2.1 hS.2.2.2.1.2.1 hCc hw, fun U hU hW => ⟨rfl, by rw [hU], by rw [hU]; exact hS.2.2.2.1.2.1, va_K.moved hW.alike hS.1.2.2.2.1, hS.2.2.2.1.2.2.1.weaken (fun _ _ _ _ => trivial), xNs_warm hok hW hts⟩⟩
    have hroom : xfrf m1 + 1 ≤ R.frames ∧ 8 + (xml m1 + 11) + xlof m1 ≤ R.locals := by
      have := hS.1.2.2.1
      omega
    have hd3 : (xYf m1).cls ≠ "java/lang/invoke/MethodHandle" ∧ (xYf m1).cls ≠ "java/lang/invoke/VarHandle" ∧ (parseMethodDescriptor (xYf m1).desc).map (fun d => d.parameters.length) = some (xnpf m1) := ⟨hnn.1, hnn.2, hpar⟩
    have hGd := xGood hok hC
    have hstk : (F0 m bp ls (List.map (xtv a) ((.ref k :: as).reverse ++ st'))).stack = (as.map (xtv a)).reverse ++ .ref (a k) :: st'.map (xtv a) := by
      show List.map (xtv a) ((.ref k :: as).reverse ++ st') = _
      rw [List.reverse_cons, List.append_assoc, List.map_append, List.map_reverse]
      rfl
    refine xi_back (as := ((Value.ref k :: as).map (xtv a)).toArray) ih hS hn hle hrl hrs ?_ h2
    have hl2 : (as.map (xtv a)).length = xnpf m1 := by
      rw [List.length_map]
      rw [hnp, List.length_cons] at hlen
      omega
    unfold xokL at hlk
    split at hlk
    · have hlk := of_decide_eq_true hlk
      exact va_runV (C := (xYf m1).cls) (b := a k) (As := as.map (xtv a)) ⟨hS.1.1.1, hS.1.1.2.1, hS.1.1.2.2.1, hS.1.1.2.2.2.1, hts⟩ hM ⟨callB_of (xnpf m1) hts hGd rfl rfl rfl (hts _ (xTs_of hiw rfl)) (hts _ (xTs_of hlk rfl)) hd3 hroom, hts _ (xTs_of hst rfl), hts _ (xTs_of hsel rfl)⟩ hpre rfl hl2 hS.2.2.2.2.1.1 hstk (lv_room (by rw [xcat_sum]; exact Nat.le_of_ble_eq_true hcs)) hd hf
    · have hlk := of_decide_eq_true hlk
      exact va_runVN (C := (xYf m1).cls) (b := a k) (As := as.map (xtv a)) ⟨hS.1.1.1, hS.1.1.2.1, hS.1.1.2.2.1, hS.1.1.2.2.2.1, hts⟩ hM ⟨va_cnB (xnpf m1) hts hGd rfl rfl rfl (va_Nw.of rfl (hts _ (xTs_of hlk rfl))) (hts _ (xTs_of hiw rfl)) hd3 hroom, hts _ (xTs_of hst rfl), hts _ (xTs_of hsel rfl)⟩ hpre rfl hl2 hS.2.2.2.2.1.1 hstk (lv_room (by rw [xcat_sum]; exact Nat.le_of_ble_eq_true hcs)) hd hf
  · cases h
theorem xn2_ret {M : Nat} {f : Option FieldType → xR} : xn2 xret M none f = none ∨ xn2 xret M none f = f (xretf M) := by
  unfold xretf xn2
  rw [xnth_eq, xnth_eq]
  cases h : xret[M / 16]? with
  | none => exact Or.inl rfl
  | some c =>
    dsimp only
    rw [xnth_eq, xnth_eq]
    cases h2 : c[M % 16]? with
    | none => exact Or.inl rfl
    | some x => exact Or.inr rfl
theorem xrun_ret {g : Nat → Nat → xLv → List Value → xMem → Option (Option Value × xMem)} {M : Nat} {y : Option Value × xMem} {f : Option FieldType → xR} (h : xrun g M (xn2 xret M none f) = some y) : xrun g M (f (xretf M)) = some y := by
  rcases xn2_ret (M := M) (f := f) with z | z
  · rw [z] at h; cases h
  · rw [z] at h; exact h
theorem xi_retI (hS : xS L xs p l e R s m args below meth c Q D dA A a0 b c0 s0 M r sh' rf' iv' lg' a H locs ls lv sh rf iv lg) (hd : decode (xccf M) bp = .ok (.ireturn, 1))
    (h : xrun (xexec L xs n) M (xn2 xret M none (fun rt => xretI rt st sh rf iv lg)) = some (r, sh', rf', iv', lg')) : W p l e R s m args below meth c H locs (sh.length - c0) (xsz sh - s0) Q (F0 m bp ls (st.map (xtv a))) := by
  replace h := xrun_ret h
  unfold xretI at h
  split at h
  · rename_i v
    split at h
    · rename_i hrt
      cases h
      exact hS.2.2.2.2.2 a H locs ls bp hS.2.2.1.1 hS.2.2.2.1 (Or.inl ⟨v, rfl, hd, Or.inl hrt⟩)
    · rename_i hrt
      have h : xite (v = 0 ∨ v = 1) (some (some (Value.int v), sh, rf, iv, lg)) none = some (r, sh', rf', iv', lg') := h
      by_cases hv : v = 0 ∨ v = 1
      · rw [xite_t hv] at h
        cases h
        exact hS.2.2.2.2.2 a H locs ls bp hS.2.2.1.1 hS.2.2.2.1 (Or.inl ⟨v, rfl, hd, Or.inr ⟨hrt, hv⟩⟩)
      · rw [xite_f hv] at h; cases h
    · cases h
  · cases h
theorem xi_retL (hS : xS L xs p l e R s m args below meth c Q D dA A a0 b c0 s0 M r sh' rf' iv' lg' a H locs ls lv sh rf iv lg) (hd : decode (xccf M) bp = .ok (.lreturn, 1))
    (h : xrun (xexec L xs n) M (xn2 xret M none (fun rt => xretL rt st sh rf iv lg)) = some (r, sh', rf', iv', lg')) : W p l e R s m args below meth c H locs (sh.length - c0) (xsz sh - s0) Q (F0 m bp ls (st.map (xtv a))) := by
  replace h := xrun_ret h
  unfold xretL at h
  split at h
  · rename_i v
    split at h
    · rename_i hrt
      cases h
      exact hS.2.2.2.2.2 a H locs ls bp hS.2.2.1.1 hS.2.2.2.1 (Or.inr (Or.inl ⟨v, rfl, hd, hrt⟩))
    · cases h
  · cases h
theorem xi_retA (hS : xS L xs p l e R s m args below meth c Q D dA A a0 b c0 s0 M r sh' rf' iv' lg' a H locs ls lv sh rf iv lg) (hd : decode (xccf M) bp = .ok (.areturn, 1))
    (h : xrun (xexec L xs n) M (xn2 xret M none (fun rt => xretA rt st sh rf iv lg)) = some (r, sh', rf', iv', lg')) : W p l e R s m args below meth c H locs (sh.length - c0) (xsz sh - s0) Q (F0 m bp ls (st.map (xtv a))) := by
  replace h := xrun_ret h
  unfold xretA at h
  split at h
  · rename_i v
    split at h
    · rename_i t hrt
      cases h
      exact hS.2.2.2.2.2 a H locs ls bp hS.2.2.1.1 hS.2.2.2.1 (Or.inr (Or.inr (Or.inl ⟨v, t, rfl, hd, hrt⟩)))
    · cases h
  · cases h
theorem xi_retV (hS : xS L xs p l e R s m args below meth c Q D dA A a0 b c0 s0 M r sh' rf' iv' lg' a H locs ls lv sh rf iv lg) (hd : decode (xccf M) bp = .ok (.return_, 1))
    (h : xrun (xexec L xs n) M (xn2 xret M none (fun rt => xretV rt st sh rf iv lg)) = some (r, sh', rf', iv', lg')) : W p l e R s m args below meth c H locs (sh.length - c0) (xsz sh - s0) Q (F0 m bp ls (st.map (xtv a))) := by
  replace h := xrun_ret h
  unfold xretV at h
  split at h
  · split at h
    · rename_i hrt
      cases h
      exact hS.2.2.2.2.2 a H locs ls bp hS.2.2.1.1 hS.2.2.2.1 (Or.inr (Or.inr (Or.inr ⟨rfl, hd, hrt⟩)))
    · cases h
  · cases h
end XC
