theorem xTs_of {q : Nat} {w : Cond} (h : xlw q = some w) (hn : xneed w = true) : w ∈ xTs := List.mem_filter.mpr ⟨List.mem_of_getElem? h, hn⟩
theorem xsome_inv {α : Type} {o : Option α} {f : α → Bool} (h : xsome o f = true) : ∃ x, o = some x ∧ f x = true := by
  cases o with
  | none => cases h
  | some x => exact ⟨x, rfl, h⟩
theorem xkty_0 {t : FieldType} (h : xkty t = 0) : t = .int := by cases t <;> first | rfl | cases h
theorem xkty_2 {t : FieldType} (h : xkty t = 2) : t = .boolean := by cases t <;> first | rfl | cases h
theorem xkty_1 {t : FieldType} (h : xkty t = 1) : (∃ n, t = .object n) ∨ ∃ u, t = .array u := by cases t <;> first | exact Or.inl ⟨_, rfl⟩ | exact Or.inr ⟨_, rfl⟩ | cases h
theorem xokF_spec {own : String} {idx q ci j kd : Nat} (h : xokF own idx q ci j kd = true) : ∃ (Cn : String) (T : u_T) (N : Nat) (ty : Nat → FieldType), xCl[ci]? = some (Cn, T, N) ∧ j < N ∧ (T j).1 = Cn ∧ xlw q = some (.fieldLink own idx Cn (T j).2.1 (T j).2.2.1) ∧ xTys[ci]? = some ty ∧ xkty (ty j) = kd := by
  unfold xokF at h
  obtain ⟨⟨Cn, T, N⟩, hC, h⟩ := xsome_inv h
  simp only [Bool.and_eq_true, decide_eq_true_eq] at h
  obtain ⟨h1, h2, h3, h4⟩ := h
  obtain ⟨ty, h5, h6⟩ := xsome_inv h4
  exact ⟨Cn, T, N, ty, hC, Nat.le_of_ble_eq_true h1, h2, h3, h5, Nat.eq_of_beq_eq_true h6⟩
section XH
variable {L : Nat} {xs : Nat → Int32} {p : Program} {l : Launch} {e : Env} {R : Room} {s : State} {m : MethodId} {args : Array Value} {below : List Frame} {meth : Method} {c : Code} {Q : State → Prop} {D : va_G} {dA : Nat → ClassId} {A : Nat → Prop} {a0 : Nat → Nat} {b c0 s0 M : Nat} {r : Option Value} {sh' : xSh} {rf' : xRf} {iv' : xIv} {lg' : xLg} {a : Nat → Nat} {H : Heap} {locs : List Loc} {ls : Array Slot} {lv : xLv} {st : List Value} {sh : xSh} {rf : xRf} {iv : xIv} {lg : xLg} {n bp nx : Nat} {os : List Nat} {cv : Value}
set_option maxHeartbeats 1000000 in
theorem xi_get (hok : xOK) (ih : xG L xs l n) (hS : xS L xs p l e R s m args below meth c Q D dA A a0 b c0 s0 M r sh' rf' iv' lg' a H locs ls lv sh rf iv lg) {idx q ci j kd : Nat} (hn : xbp M nx = bp + 3) (hF : xokF (xYf M).cls idx q ci j kd = true) (hd : decode (xccf M) bp = .ok (.getfield idx, 3))
    (h : xrun (xexec L xs n) M (xget nx [q, ci, j, kd] lv st sh rf iv lg) = some (r, sh', rf', iv', lg')) : W p l e R s m args below meth c H locs (sh.length - c0) (xsz sh - s0) Q (F0 m bp ls (st.map (xtv a))) := by
  obtain ⟨Cn, T, N, ty, hC, hj, hdecl, hlink, hty, hkd⟩ := xokF_spec hF
  obtain ⟨ty', hty', hcls⟩ := hok.2.1 ci _ hC
  cases hty.symm.trans hty'
  have hl1 := hS.1.2.1 _ (xTs_of hlink rfl)
  have hsame : ∀ x, s.fieldFound? (T j).1 (T j).2.1 (T j).2.2.1 = some x → s.fieldFound? Cn (T j).2.1 (T j).2.2.1 = some x := fun x hx => by rw [← hdecl]; exact hx
  unfold xget at h
  dsimp only at h
  split at h
  · rename_i k st
    obtain ⟨⟨tg, nn⟩, hq2, h9⟩ := xrun_nth h
    clear h; have h := h9; clear h9
    obtain ⟨hg, h9⟩ := xrun_guard h
    clear h; have h := h9; clear h9
    rw [Bool.and_eq_true] at hg
    have htag : tg = 10 + ci := Nat.eq_of_beq_eq_true hg.1
    have hjn : j < nn := Nat.le_of_ble_eq_true hg.2
    subst htag
    have hw := xws_get (dA := dA) (a := a) (rf := rf) (iv := iv) (lg := lg) hq2
    rw [xcell_obj] at hw
    have hkk := (hcls.2.2.2 j hj).1
    rw [hkd] at hkk
    split at h
    · obtain ⟨row, hrow, h9⟩ := xrun_nth h
      clear h; have h := h9; clear h9
      obtain ⟨o, ho, h9⟩ := xrun_nth h
      clear h; have h := h9; clear h9
      split at h
      · rename_i z
        have hz : xrfo rf k j = some z := by simp [xrfo, hrow, ho]
        have k1 := ih h hS
        rw [hn] at k1
        refine va_get (v := .ref (a z)) hS.1.1.1 hS.1.1.2.1 hS.1.2.1 hcls.1 hS.1.1.2.2.2.1 hS.1.2.2.2.1 hS.2.2.2.1.2.1 k hw hC j hj hl1 hsame ?_ hd k1
        rw [xfs_get hjn, hz]
        have : xkd ci j = true := hkk
        simp [this, va_rf]
      · cases h
    · rename_i hne
      have k1 := ih h hS
      rw [hn] at k1
      refine va_get (v := .int (iv k j)) hS.1.1.1 hS.1.1.2.1 hS.1.2.1 hcls.1 hS.1.1.2.2.2.1 hS.1.2.2.2.1 hS.2.2.2.1.2.1 k hw hC j hj hl1 hsame ?_ hd k1
      rw [xfs_get hjn]
      have : xkd ci j = false := by
        rw [hkk]
        cases hb : Nat.beq kd 1 with
        | false => rfl
        | true => exact absurd (Nat.eq_of_beq_eq_true hb) hne
      simp [this]
  · cases h
set_option maxHeartbeats 1000000 in
theorem xi_put (hok : xOK) (ih : xG L xs l n) (hS : xS L xs p l e R s m args below meth c Q D dA A a0 b c0 s0 M r sh' rf' iv' lg' a H locs ls lv sh rf iv lg) {idx q ci j kd : Nat} (hn : xbp M nx = bp + 3) (hF : xokF (xYf M).cls idx q ci j kd = true) (hPf : xokP M (xYf M).cls ci j = true) (hd : decode (xccf M) bp = .ok (.putfield idx, 3))
    (h : xrun (xexec L xs n) M (xput nx [q, ci, j, kd] lv st sh rf iv lg) = some (r, sh', rf', iv', lg')) : W p l e R s m args below meth c H locs (sh.length - c0) (xsz sh - s0) Q (F0 m bp ls (st.map (xtv a))) := by
  obtain ⟨Cn, T, N, ty, hC, hj, hdecl, hlink, hty, hkd⟩ := xokF_spec hF
  obtain ⟨ty', hty', hcls⟩ := hok.2.1 ci _ hC
  cases hty.symm.trans hty'
  have hl1 := hS.1.2.1 _ (xTs_of hlink rfl)
  have hsame : ∀ x, s.fieldFound? (T j).1 (T j).2.1 (T j).2.2.1 = some x → s.fieldFound? Cn (T j).2.1 (T j).2.2.1 = some x := fun x hx => by rw [← hdecl]; exact hx
  have hkk := (hcls.2.2.2 j hj).1
  rw [hkd] at hkk
  unfold xokP at hPf
  obtain ⟨C2, hC2, hPf⟩ := xsome_inv hPf
  cases hC.symm.trans hC2
  dsimp only at hPf
  -- the row of the machine, whatever the field holds
  have row : ∀ (k nn : Nat) (v : Value) (rest : List Value), sh[k]? = some (10 + ci, nn) → j < nn → narrow (ty j) v = v → fits (ty j) v = true →
      (∀ (H1 : Heap) (locs1 : List Loc), va_P D xCl ((xws dA a sh rf iv lg).set k (a k, .inr (ci, (xfs a rf iv k ci nn).set j v))) H1 → va_D A ((xws dA a sh rf iv lg).set k (a k, .inr (ci, (xfs a rf iv k ci nn).set j v))) → va_S A s.heap H1 locs1 → W p l e R s m args below meth c H1 locs1 (sh.length - c0) (xsz sh - s0) Q (F0 m (bp + 3) ls rest)) →
      W p l e R s m args below meth c H locs (sh.length - c0) (xsz sh - s0) Q (F0 m bp ls (v :: .ref (a k) :: rest)) := by
    intro k nn v rest hq2 hjn hnar hfit kk
    have hw := xws_get (dA := dA) (a := a) (rf := rf) (iv := iv) (lg := lg) hq2
    rw [xcell_obj] at hw
    cases hfin : (T j).2.2.2 with
    | false => exact va_put hS.1.1.1 hS.1.1.2.1 hS.1.2.1 hcls.1 ty hcls.2.1 hcls.2.2.1 hS.1.1.2.2.2.1 hS.1.2.2.2.1 hS.2.2.2.1.2.1 hS.2.2.2.1.2.2.1 hS.2.2.2.1.2.2.2 k hw hC j hj hl1 hsame hfin (hcls.2.1 j hj) hnar hfit (by rw [xfs_len]; exact hjn) hd kk
    | true =>
      rw [hfin] at hPf
      simp only [Bool.or_eq_true, Bool.and_eq_true, decide_eq_true_eq] at hPf
      obtain ⟨f1, f2⟩ := hPf.resolve_left (fun z => by cases z)
      exact va_putF hS.1.1.1 hS.1.1.2.1 hS.1.2.1 hcls.1 ty hcls.2.1 hcls.2.2.1 hS.1.1.2.2.2.1 hS.1.2.2.2.1 hS.2.2.2.1.2.1 hS.2.2.2.1.2.2.1 hS.2.2.2.1.2.2.2 k hw hC j hj hl1 hsame hfin ((hS.1.1.2.2.2.2 (Nat.pos_of_ne_zero (fun z => by rw [z] at f2; exact absurd f2 (by decide)))).trans f2) f1 (hcls.2.1 j hj) hnar hfit (by rw [xfs_len]; exact hjn) hd kk
  unfold xput at h
  dsimp only at h
  split at h
  · rename_i x k st
    obtain ⟨⟨tg, nn⟩, hq2, h9⟩ := xrun_nth h
    clear h; have h := h9; clear h9
    obtain ⟨hg, h9⟩ := xrun_guard h
    clear h; have h := h9; clear h9
    rw [Bool.and_eq_true] at hg
    have htag : tg = 10 + ci := Nat.eq_of_beq_eq_true hg.1
    have hjn : j < nn := Nat.le_of_ble_eq_true hg.2
    subst htag
    have hkf : kd ≠ 1 → xkd ci j = false := fun hne => by
      rw [hkk]
      cases hb : Nat.beq kd 1 with
      | false => rfl
      | true => exact absurd (Nat.eq_of_beq_eq_true hb) hne
    have e1 : kd ≠ 1 → (xws dA a sh rf iv lg).set k (a k, .inr (ci, (xfs a rf iv k ci nn).set j (.int x))) = xws dA a sh rf (xu2 iv k j x) lg := fun hne =>
      xws_set hq2 (by rw [xcell_obj, xfs_setI (hkf hne)]) (fun k' hk' => ⟨xu2_ne hk', rfl, fun _ => rfl⟩)
    split at h
    · refine row k nn (.int x) _ hq2 hjn ?_ ?_ (fun H1 locs1 hP hD hs => ?_)
      · rw [xkty_0 hkd]; rfl
      · rw [xkty_0 hkd]; rfl
      · rw [e1 (by decide)] at hP hD
        have k1 := ih h (hS.mem hS.2.2.2.1.1 hP hD hs)
        rw [hn] at k1
        exact k1
    · obtain ⟨hx01, h9⟩ := xrun_C h
      clear h; have h := h9; clear h9
      refine row k nn (.int x) _ hq2 hjn ?_ ?_ (fun H1 locs1 hP hD hs => ?_)
      · rw [xkty_2 hkd]; rcases hx01 with z | z <;> subst z <;> decide
      · rw [xkty_2 hkd]; rcases hx01 with z | z <;> subst z <;> decide
      · rw [e1 (by decide)] at hP hD
        have k1 := ih h (hS.mem hS.2.2.2.1.1 hP hD hs)
        rw [hn] at k1
        exact k1
    · cases h
  · rename_i z k st
    obtain ⟨⟨tg, nn⟩, hq2, h9⟩ := xrun_nth h
    clear h; have h := h9; clear h9
    obtain ⟨hg, h9⟩ := xrun_guard h
    clear h; have h := h9; clear h9
    rw [Bool.and_eq_true] at hg
    have htag : tg = 10 + ci := Nat.eq_of_beq_eq_true hg.1
    have hjn : j < nn := Nat.le_of_ble_eq_true hg.2
    subst htag
    split at h
    · obtain ⟨rf2, h9, hlen, hrf⟩ := xrun_setrr h
      clear h; have h := h9; clear h9
      have hkt : xkd ci j = true := hkk
      refine row k nn (.ref (a z)) _ hq2 hjn ?_ ?_ (fun H1 locs1 hP hD hs => ?_)
      · rcases xkty_1 hkd with ⟨_, e⟩ | ⟨_, e⟩ <;> rw [e] <;> rfl
      · rcases xkty_1 hkd with ⟨_, e⟩ | ⟨_, e⟩ <;> rw [e] <;> rfl
      · have e2 : (xws dA a sh rf iv lg).set k (a k, .inr (ci, (xfs a rf iv k ci nn).set j (.ref (a z)))) = xws dA a sh rf2 iv lg :=
          xws_set hq2 (by rw [xcell_obj, xfs_setR hkt (fun j' => by rw [hrf k j']; simp)]) (fun k' hk' => ⟨rfl, rfl, fun j' => by rw [hrf k' j', if_neg (fun w => hk' w.1)]⟩)
        rw [e2] at hP hD
        have k1 := ih h (hS.mem (hlen.trans hS.2.2.2.1.1) hP hD hs)
        rw [hn] at k1
        exact k1
    · cases h
  · cases h
theorem xi_ald (ih : xG L xs l n) (hS : xS L xs p l e R s m args below meth c Q D dA A a0 b c0 s0 M r sh' rf' iv' lg' a H locs ls lv sh rf iv lg) (hn : xbp M nx = bp + 1) (hd : decode (xccf M) bp = .ok (.iaload, 1))
    (h : xrun (xexec L xs n) M (xald L xs M nx lv st sh rf iv lg) = some (r, sh', rf', iv', lg')) : W p l e R s m args below meth c H locs (sh.length - c0) (xsz sh - s0) Q (F0 m bp ls (st.map (xtv a))) := by
  unfold xald at h
  split at h
  · rename_i i k st
    split at h
    · rename_i hk
      have hk : k = 1000 := Nat.eq_of_beq_eq_true hk
      subst hk
      split at h
      · obtain ⟨hin, h9⟩ := xrun_C h
        clear h; have h := h9; clear h9
        have k1 := ih h hS
        rw [hn] at k1
        obtain ⟨hX, hbl, hbA⟩ := hS.1.2.2.2.2.2 rfl
        have hab : a 1000 = b := (hS.2.2.1.1 1000 (Or.inr rfl)).trans hS.2.2.1.2
        show W p l e R s m args below meth c H locs (sh.length - c0) (xsz sh - s0) Q (F0 m bp ls (.int i :: .ref (a 1000) :: st.map (xtv a)))
        rw [hab]
        exact va_sld hS.1.1.1 hS.1.1.2.1 hX hbl hbA hS.2.2.2.1.2.2.2 hin hd k1
      · cases h
    · obtain ⟨⟨tg, nn⟩, hq2, h9⟩ := xrun_nth h
      clear h; have h := h9; clear h9
      dsimp only at h
      split at h
      · obtain ⟨hin, h9⟩ := xrun_C h
        clear h; have h := h9; clear h9
        have k1 := ih h hS
        rw [hn] at k1
        exact va_iald hS.1.1.1 hS.1.1.2.1 hS.1.2.2.2.1 hS.2.2.2.1.2.1 k 0 (xws_get hq2) rfl hin hd k1
      · cases h
  · cases h
theorem xi_cald (ih : xG L xs l n) (hS : xS L xs p l e R s m args below meth c Q D dA A a0 b c0 s0 M r sh' rf' iv' lg' a H locs ls lv sh rf iv lg) (hn : xbp M nx = bp + 1) (hd : decode (xccf M) bp = .ok (.caload, 1))
    (h : xrun (xexec L xs n) M (xcald nx lv st sh rf iv lg) = some (r, sh', rf', iv', lg')) : W p l e R s m args below meth c H locs (sh.length - c0) (xsz sh - s0) Q (F0 m bp ls (st.map (xtv a))) := by
  unfold xcald at h
  split at h
  · rename_i i k st
    obtain ⟨⟨tg, nn⟩, hq2, h9⟩ := xrun_nth h
    clear h; have h := h9; clear h9
    dsimp only at h
    split at h
    · obtain ⟨hin, h9⟩ := xrun_C h
      clear h; have h := h9; clear h9
      have k1 := ih h hS
      rw [hn] at k1
      exact va_cald hS.1.1.1 hS.1.1.2.1 hS.1.2.2.2.1 hS.2.2.2.1.2.1 k 2 (xws_get hq2) rfl hin hd k1
    · cases h
  · cases h
theorem xi_lald (ih : xG L xs l n) (hS : xS L xs p l e R s m args below meth c Q D dA A a0 b c0 s0 M r sh' rf' iv' lg' a H locs ls lv sh rf iv lg) (hn : xbp M nx = bp + 1) (hd : decode (xccf M) bp = .ok (.laload, 1))
    (h : xrun (xexec L xs n) M (xlald nx lv st sh rf iv lg) = some (r, sh', rf', iv', lg')) : W p l e R s m args below meth c H locs (sh.length - c0) (xsz sh - s0) Q (F0 m bp ls (st.map (xtv a))) := by
  unfold xlald at h
  split at h
  · rename_i i k st
    obtain ⟨⟨tg, nn⟩, hq2, h9⟩ := xrun_nth h
    clear h; have h := h9; clear h9
    dsimp only at h
    split at h
    · obtain ⟨hin, h9⟩ := xrun_C h
      clear h; have h := h9; clear h9
      have k1 := ih h hS
      rw [hn] at k1
      exact va_lald hS.1.1.1 hS.1.1.2.1 hS.1.2.2.2.1 hS.2.2.2.1.2.1 k 1 (xws_get hq2) rfl hin hd k1
    · cases h
  · cases h
theorem xi_ast (ih : xG L xs l n) (hS : xS L xs p l e R s m args below meth c Q D dA A a0 b c0 s0 M r sh' rf' iv' lg' a H locs ls lv sh rf iv lg) (hn : xbp M nx = bp + 1) (hd : decode (xccf M) bp = .ok (.iastore, 1))
    (h : xrun (xexec L xs n) M (xast nx lv st sh rf iv lg) = some (r, sh', rf', iv', lg')) : W p l e R s m args below meth c H locs (sh.length - c0) (xsz sh - s0) Q (F0 m bp ls (st.map (xtv a))) := by
  unfold xast at h
  split at h
  · rename_i x i k st
    obtain ⟨⟨tg, nn⟩, hq2, h9⟩ := xrun_nth h
    clear h; have h := h9; clear h9
    dsimp only at h
    split at h
    · obtain ⟨hin, h9⟩ := xrun_C h
      clear h; have h := h9; clear h9
      refine va_iast hS.1.1.1 hS.1.1.2.1 hS.1.2.2.2.1 hS.2.2.2.1.2.1 hS.2.2.2.1.2.2.1 hS.2.2.2.1.2.2.2 k 0 (xws_get hq2) rfl hin hd (fun H1 locs1 hP hD hs => ?_)
      have e1 : (xws dA a sh rf iv lg).set k (a k, .inl (dA 0, nn, .inl (upd (iv k) i.toNatClampNeg x))) = xws dA a sh rf (xu2 iv k i.toNatClampNeg x) lg :=
        xws_set hq2 (by show (Sum.inl (dA 0, nn, .inl (xu2 iv k i.toNatClampNeg x k)) : va_E) = _; rw [xu2_row]) (fun k' hk' => ⟨xu2_ne hk', rfl, fun _ => rfl⟩)
      have hP : va_P D xCl ((xws dA a sh rf iv lg).set k (a k, .inl (dA 0, nn, .inl (upd (iv k) i.toNatClampNeg x)))) H1 := hP
      have hD : va_D A ((xws dA a sh rf iv lg).set k (a k, .inl (dA 0, nn, .inl (upd (iv k) i.toNatClampNeg x)))) := hD
      rw [e1] at hP hD
      have k1 := ih h (hS.mem hS.2.2.2.1.1 hP hD hs)
      rw [hn] at k1
      exact k1
    · cases h
  · cases h
theorem xi_cast (ih : xG L xs l n) (hS : xS L xs p l e R s m args below meth c Q D dA A a0 b c0 s0 M r sh' rf' iv' lg' a H locs ls lv sh rf iv lg) (hn : xbp M nx = bp + 1) (hd : decode (xccf M) bp = .ok (.castore, 1))
    (h : xrun (xexec L xs n) M (xcast nx lv st sh rf iv lg) = some (r, sh', rf', iv', lg')) : W p l e R s m args below meth c H locs (sh.length - c0) (xsz sh - s0) Q (F0 m bp ls (st.map (xtv a))) := by
  unfold xcast at h
  split at h
  · rename_i x i k st
    obtain ⟨⟨tg, nn⟩, hq2, h9⟩ := xrun_nth h
    clear h; have h := h9; clear h9
    dsimp only at h
    split at h
    · obtain ⟨hin, h9⟩ := xrun_C h
      clear h; have h := h9; clear h9
      refine va_cast hS.1.1.1 hS.1.1.2.1 hS.1.2.2.2.1 hS.2.2.2.1.2.1 hS.2.2.2.1.2.2.1 hS.2.2.2.1.2.2.2 k 2 (xws_get hq2) rfl hin hd (fun H1 locs1 hP hD hs => ?_)
      have e1 : (xws dA a sh rf iv lg).set k (a k, .inl (dA 2, nn, .inl (upd (iv k) i.toNatClampNeg (vp_nar .char x)))) = xws dA a sh rf (xu2 iv k i.toNatClampNeg (vp_nar .char x)) lg :=
        xws_set hq2 (by show (Sum.inl (dA 2, nn, .inl (xu2 iv k i.toNatClampNeg (vp_nar .char x) k)) : va_E) = _; rw [xu2_row]) (fun k' hk' => ⟨xu2_ne hk', rfl, fun _ => rfl⟩)
      have hP : va_P D xCl ((xws dA a sh rf iv lg).set k (a k, .inl (dA 2, nn, .inl (upd (iv k) i.toNatClampNeg (vp_nar .char x))))) H1 := hP
      have hD : va_D A ((xws dA a sh rf iv lg).set k (a k, .inl (dA 2, nn, .inl (upd (iv k) i.toNatClampNeg (vp_nar .char x))))) := hD
      rw [e1] at hP hD
      have k1 := ih h (hS.mem hS.2.2.2.1.1 hP hD hs)
      rw [hn] at k1
      exact k1
    · cases h
  · cases h
theorem xi_last (ih : xG L xs l n) (hS : xS L xs p l e R s m args below meth c Q D dA A a0 b c0 s0 M r sh' rf' iv' lg' a H locs ls lv sh rf iv lg) (hn : xbp M nx = bp + 1) (hd : decode (xccf M) bp = .ok (.lastore, 1))
    (h : xrun (xexec L xs n) M (xlast nx lv st sh rf iv lg) = some (r, sh', rf', iv', lg')) : W p l e R s m args below meth c H locs (sh.length - c0) (xsz sh - s0) Q (F0 m bp ls (st.map (xtv a))) := by
  unfold xlast at h
  split at h
  · rename_i x i k st
    obtain ⟨⟨tg, nn⟩, hq2, h9⟩ := xrun_nth h
    clear h; have h := h9; clear h9
    dsimp only at h
    split at h
    · obtain ⟨hin, h9⟩ := xrun_C h
      clear h; have h := h9; clear h9
      refine va_last hS.1.1.1 hS.1.1.2.1 hS.1.2.2.2.1 hS.2.2.2.1.2.1 hS.2.2.2.1.2.2.1 hS.2.2.2.1.2.2.2 k 1 (xws_get hq2) rfl hin hd (fun H1 locs1 hP hD hs => ?_)
      have e1 : (xws dA a sh rf iv lg).set k (a k, .inl (dA 1, nn, .inr (.inl (vp_updL (lg k) i.toNatClampNeg x)))) = xws dA a sh rf iv (xu2 lg k i.toNatClampNeg x) :=
        xws_set hq2 (by show (Sum.inl (dA 1, nn, .inr (.inl (xu2 lg k i.toNatClampNeg x k))) : va_E) = _; rw [xu2_rowL]) (fun k' hk' => ⟨rfl, xu2_ne hk', fun _ => rfl⟩)
      have hP : va_P D xCl ((xws dA a sh rf iv lg).set k (a k, .inl (dA 1, nn, .inr (.inl (vp_updL (lg k) i.toNatClampNeg x))))) H1 := hP
      have hD : va_D A ((xws dA a sh rf iv lg).set k (a k, .inl (dA 1, nn, .inr (.inl (vp_updL (lg k) i.toNatClampNeg x))))) := hD
      rw [e1] at hP hD
      have k1 := ih h (hS.mem hS.2.2.2.1.1 hP hD hs)
      rw [hn] at k1
      exact k1
    · cases h
  · cases h
theorem xi_aald (ih : xG L xs l n) (hS : xS L xs p l e R s m args below meth c Q D dA A a0 b c0 s0 M r sh' rf' iv' lg' a H locs ls lv sh rf iv lg) (hn : xbp M nx = bp + 1) (hd : decode (xccf M) bp = .ok (.aaload, 1))
    (h : xrun (xexec L xs n) M (xaald nx lv st sh rf iv lg) = some (r, sh', rf', iv', lg')) : W p l e R s m args below meth c H locs (sh.length - c0) (xsz sh - s0) Q (F0 m bp ls (st.map (xtv a))) := by
  unfold xaald at h
  split at h
  · rename_i i k st
    obtain ⟨⟨tg, nn⟩, hq2, h9⟩ := xrun_nth h
    clear h; have h := h9; clear h9
    obtain ⟨hg, h9⟩ := xrun_guard h
    clear h; have h := h9; clear h9
    rw [Bool.or_eq_true] at hg
    obtain ⟨row, hrow, h9⟩ := xrun_nth h
    clear h; have h := h9; clear h9
    obtain ⟨o, ho, h9⟩ := xrun_nth h
    clear h; have h := h9; clear h9
    split at h
    · rename_i z
      obtain ⟨hin, h9⟩ := xrun_C h
      clear h; have h := h9; clear h9
      have k1 := ih h hS
      rw [hn] at k1
      have hz : xrfo rf k i.toNatClampNeg = some z := by simp [xrfo, hrow, ho]
      have hlt : i.toNatClampNeg < nn := Nat.not_le.mp fun w => hin (Or.inr w)
      have key : ∀ (t0 : Nat) (ty : FieldType), (xtys dA)[t0]? = some (dA t0, ty) → ty.isReference = true → (xws dA a sh rf iv lg)[k]? = some (a k, .inl (dA t0, nn, .inr (.inr (.inr (.inr (fun j => (xrfo rf k j).map a)))))) → W p l e R s m args below meth c H locs (sh.length - c0) (xsz sh - s0) Q (F0 m bp ls (.int i :: .ref (a k) :: st.map (xtv a))) := by
        intro t0 ty ht hr ha
        refine W.aald (v := .ref (a z)) (ty := ty) hS.1.1.1 hS.1.1.2.1 (hS.2.2.2.1.2.1 k _ ha) ((hS.1.2.2.2.1.2 t0 _ ht).1 nn (fun j => va_rf ((xrfo rf k j).map a))) hr (fun w => by cases w) (by show ¬ (i < 0 ∨ (arrV _ _ _).slots.size ≤ _); rw [arrV_size]; exact hin) (by show (arrV _ _ _).slots[_]? = _; rw [arrV_read _ _ hlt]; show some (va_rf ((xrfo rf k i.toNatClampNeg).map a)) = _; rw [hz]; rfl) rfl rfl hd k1
      rcases hg with hg | hg
      · have e : tg = 3 := Nat.eq_of_beq_eq_true hg
        subst e
        exact key 3 (.array .int) rfl rfl (xws_get hq2)
      · have e : tg = 4 := Nat.eq_of_beq_eq_true hg
        subst e
        exact key 4 (.object "StepRings$Sheet") rfl rfl (xws_get hq2)
    · cases h
  · cases h
theorem xi_aast (ih : xG L xs l n) (hS : xS L xs p l e R s m args below meth c Q D dA A a0 b c0 s0 M r sh' rf' iv' lg' a H locs ls lv sh rf iv lg) (hn : xbp M nx = bp + 1) (hd : decode (xccf M) bp = .ok (.aastore, 1))
    (h : xrun (xexec L xs n) M (xaast nx lv st sh rf iv lg) = some (r, sh', rf', iv', lg')) : W p l e R s m args below meth c H locs (sh.length - c0) (xsz sh - s0) Q (F0 m bp ls (st.map (xtv a))) := by
  unfold xaast at h
  split at h
  · rename_i z i k st
    obtain ⟨⟨tg, nn⟩, hq2, h9⟩ := xrun_nth h
    clear h; have h := h9; clear h9
    obtain ⟨hg, h9⟩ := xrun_guard h
    clear h; have h := h9; clear h9
    obtain ⟨⟨tz, nz⟩, hqz, h9⟩ := xrun_nth h
    clear h; have h := h9; clear h9
    obtain ⟨hgz, h9⟩ := xrun_guard h
    clear h; have h := h9; clear h9
    obtain ⟨rf2, h9, hlen, hrf⟩ := xrun_setrr h
    clear h; have h := h9; clear h9
    obtain ⟨hin, h9⟩ := xrun_C h
    clear h; have h := h9; clear h9
    have e : tg = 4 := Nat.eq_of_beq_eq_true hg
    subst e
    have ez : tz = 10 + 3 := Nat.eq_of_beq_eq_true hgz
    subst ez
    have hwz := xws_get (dA := dA) (a := a) (rf := rf) (iv := iv) (lg := lg) hqz
    rw [xcell_obj] at hwz
    refine va_astq (r := (xR3, xT3, 4)) hS.1.1.1 hS.1.1.2.1 hS.1.2.2.2.1 hS.2.2.2.1.2.1 hS.2.2.2.1.2.2.1 hS.2.2.2.1.2.2.2 k 4 z 3 (xws_get hq2) rfl hwz rfl hin hd (fun H1 locs1 hP hD hs => ?_)
    have e1 : (xws dA a sh rf iv lg).set k (a k, .inl (dA 4, nn, .inr (.inr (.inr (.inr (va_up (fun j => (xrfo rf k j).map a) i.toNatClampNeg (some (a z)))))))) = xws dA a sh rf2 iv lg := by
      refine xws_set hq2 ?_ (fun k' hk' => ⟨rfl, rfl, fun j' => by rw [hrf k' j', if_neg (fun w => hk' w.1)]⟩)
      show (Sum.inl (dA 4, nn, .inr (.inr (.inr (.inr (fun j => (xrfo rf2 k j).map a))))) : va_E) = _
      have e2 : (fun j => (xrfo rf2 k j).map a) = va_up (fun j => (xrfo rf k j).map a) i.toNatClampNeg (some (a z)) := by
        funext j
        rw [hrf k j]
        unfold va_up
        by_cases hj : j = i.toNatClampNeg
        · rw [if_pos ⟨rfl, hj⟩, if_pos hj]; rfl
        · rw [if_neg (fun w => hj w.2), if_neg hj]
      rw [e2]
    have hP : va_P D xCl ((xws dA a sh rf iv lg).set k (a k, .inl (dA 4, nn, .inr (.inr (.inr (.inr (va_up (fun j => (xrfo rf k j).map a) i.toNatClampNeg (some (a z))))))))) H1 := hP
    have hD : va_D A ((xws dA a sh rf iv lg).set k (a k, .inl (dA 4, nn, .inr (.inr (.inr (.inr (va_up (fun j => (xrfo rf k j).map a) i.toNatClampNeg (some (a z))))))))) := hD
    rw [e1] at hP hD
    have k1 := ih h (hS.mem (hlen.trans hS.2.2.2.1.1) hP hD hs)
    rw [hn] at k1
    exact k1
  · cases h
theorem xi_len (ih : xG L xs l n) (hS : xS L xs p l e R s m args below meth c Q D dA A a0 b c0 s0 M r sh' rf' iv' lg' a H locs ls lv sh rf iv lg) (hn : xbp M nx = bp + 1) (hd : decode (xccf M) bp = .ok (.arraylength, 1))
    (h : xrun (xexec L xs n) M (xlen L M nx lv st sh rf iv lg) = some (r, sh', rf', iv', lg')) : W p l e R s m args below meth c H locs (sh.length - c0) (xsz sh - s0) Q (F0 m bp ls (st.map (xtv a))) := by
  unfold xlen at h
  split at h
  · rename_i k st
    split at h
    · rename_i hk
      have hk : k = 1000 := Nat.eq_of_beq_eq_true hk
      subst hk
      split at h
      · have k1 := ih h hS
        rw [hn] at k1
        obtain ⟨hX, hbl, hbA⟩ := hS.1.2.2.2.2.2 rfl
        have hab : a 1000 = b := (hS.2.2.1.1 1000 (Or.inr rfl)).trans hS.2.2.1.2
        show W p l e R s m args below meth c H locs (sh.length - c0) (xsz sh - s0) Q (F0 m bp ls (.ref (a 1000) :: st.map (xtv a)))
        rw [hab]
        exact va_slen hS.1.1.1 hS.1.1.2.1 hX hbl hbA hS.2.2.2.1.2.2.2 hd k1
      · cases h
    · obtain ⟨⟨tg, nn⟩, hq2, h9⟩ := xrun_nth h
      clear h; have h := h9; clear h9
      obtain ⟨hg, h9⟩ := xrun_guard h
      clear h; have h := h9; clear h9
      have htg : tg < 3 := Nat.le_of_ble_eq_true hg
      have k1 := ih h hS
      rw [hn] at k1
      have hw := xws_get (dA := dA) (a := a) (rf := rf) (iv := iv) (lg := lg) hq2
      match tg, htg, hw with
      | 0, _, hw => exact va_alen hS.1.1.1 hS.1.1.2.1 hS.1.2.2.2.1 hS.2.2.2.1.2.1 k 0 hw (ty := .int) rfl rfl hd k1
      | 1, _, hw => exact va_alen hS.1.1.1 hS.1.1.2.1 hS.1.2.2.2.1 hS.2.2.2.1.2.1 k 1 hw (ty := .long) rfl rfl hd k1
      | 2, _, hw => exact va_alen hS.1.1.1 hS.1.1.2.1 hS.1.2.2.2.1 hS.2.2.2.1.2.1 k 2 hw (ty := .char) rfl rfl hd k1
  · cases h
theorem xi_cpy (hok : xOK) (ih : xG L xs l n) (hS : xS L xs p l e R s m args below meth c Q D dA A a0 b c0 s0 M r sh' rf' iv' lg' a H locs ls lv sh rf iv lg) {q idx : Nat} (hn : xbp M nx = bp + 3) (hq : xlw q = some (.methodLink (xYf M).cls idx arraycopyName)) (hfr : 1 ≤ xfrf M) (hlo : 26 ≤ xlof M) (hd : decode (xccf M) bp = .ok (.invokestatic idx, 3))
    (h : xrun (xexec L xs n) M (xcpy nx lv st sh rf iv lg) = some (r, sh', rf', iv', lg')) : W p l e R s m args below meth c H locs (sh.length - c0) (xsz sh - s0) Q (F0 m bp ls (st.map (xtv a))) := by
  unfold xcpy at h
  split at h
  · rename_i cn dp d sp k st
    obtain ⟨hcat, h9⟩ := xrun_guard h
    clear h; have h := h9; clear h9
    obtain ⟨⟨tg, nn⟩, hq2, h9⟩ := xrun_nth h
    clear h; have h := h9; clear h9
    obtain ⟨⟨td, nd⟩, hqd, h9⟩ := xrun_nth h
    clear h; have h := h9; clear h9
    obtain ⟨hg, h9⟩ := xrun_guard h
    clear h; have h := h9; clear h9
    rw [Bool.and_eq_true] at hg
    obtain ⟨hin, h9⟩ := xrun_C h
    clear h; have h := h9; clear h9
    have e : tg = 0 := Nat.eq_of_beq_eq_true hg.1
    subst e
    have e : td = 0 := Nat.eq_of_beq_eq_true hg.2
    subst e
    have hcat : xcat st ≤ 8 := Nat.le_of_ble_eq_true hcat
    have hts := hS.1.2.1
    refine va_copyi (ty := .int) hS.1.1.1 hS.1.1.2.1 (hS.1.1.2.2.1.trans hS.2.2.2.2.1.1.symm) hS.1.1.2.2.2.1 (hts _ (xTs_of hq rfl)) (hts _ hok.2.2.2.2.1.1) (hts _ hok.2.2.2.2.1.2.1) (hts _ hok.2.2.2.2.1.2.2) hS.1.2.2.2.1 hS.2.2.2.1.2.1 hS.2.2.2.1.2.2.1 hS.2.2.2.1.2.2.2 k d 0 0 (xws_get hq2) (xws_get hqd) rfl rfl rfl hin.1.1 hin.1.2.1 hin.1.2.2 hin.2.1 hin.2.2 (fun _ _ => rfl) (Nat.le_trans hfr hS.1.2.2.1.1) ?_ hd (fun H1 locs1 hP hD hs => ?_)
    · rw [xcat_sum]
      have : nativeFrameWords "java/lang/System" "arraycopy" 5 = 7 := by decide +kernel
      rw [this]
      have := hS.1.2.2.1.2
      omega
    · have e1 : (xws dA a sh rf iv lg).set d (a d, .inl (dA 0, nd, .inl (va_cpy (iv k) (iv d) sp.toNatClampNeg dp.toNatClampNeg cn.toNatClampNeg))) = xws dA a sh rf (xur iv d (va_cpy (iv k) (iv d) sp.toNatClampNeg dp.toNatClampNeg cn.toNatClampNeg)) lg :=
        xws_set hqd (by show (Sum.inl (dA 0, nd, .inl (xur iv d _ d)) : va_E) = _; rw [xur_row]) (fun k' hk' => ⟨xur_ne hk', rfl, fun _ => rfl⟩)
      have hP : va_P D xCl ((xws dA a sh rf iv lg).set d (a d, .inl (dA 0, nd, .inl (va_cpy (iv k) (iv d) sp.toNatClampNeg dp.toNatClampNeg cn.toNatClampNeg)))) H1 := hP
      have hD : va_D A ((xws dA a sh rf iv lg).set d (a d, .inl (dA 0, nd, .inl (va_cpy (iv k) (iv d) sp.toNatClampNeg dp.toNatClampNeg cn.toNatClampNeg)))) := hD
      rw [e1] at hP hD
      have k1 := ih h (hS.mem hS.2.2.2.1.1 hP hD hs)
      rw [hn] at k1
      exact k1
  · cases h
end XH
