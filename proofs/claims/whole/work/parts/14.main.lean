theorem xand {a b : Bool} (h : (a && b) = true) : a = true ∧ b = true := by simpa using h
theorem xokC_of (hok : xOK) {M m1 : Nat} (h0 : 0 < m1) (hR : xokR M m1 = true) : xokC m1 = true := by
  unfold xokR at hR
  simp only [Bool.and_eq_true] at hR
  have hlt : m1 < xNM := Nat.le_of_ble_eq_true hR.1.1
  have h := (xand (hok.1 m1)).2
  match m1, h0, hlt, h with
  | k + 1, _, hlt, h =>
    have h : (xokC (k + 1) || Nat.ble xNM (k + 1)) = true := h
    rw [Bool.or_eq_true] at h
    rcases h with h | h
    · exact h
    · exact absurd (Nat.le_of_ble_eq_true h) (Nat.not_le.mpr hlt)
section XD
variable {L : Nat} {xs : Nat → Int32} {p : Program} {l : Launch} {e : Env} {R : Room} {s : State} {m : MethodId} {args : Array Value} {below : List Frame} {meth : Method} {c : Code} {Q : State → Prop} {D : va_G} {dA : Nat → ClassId} {A : Nat → Prop} {a0 : Nat → Nat} {b c0 s0 M : Nat} {r : Option Value} {sh' : xSh} {rf' : xRf} {iv' : xIv} {lg' : xLg} {a : Nat → Nat} {H : Heap} {locs : List Loc} {ls : Array Slot} {lv : xLv} {st : List Value} {sh : xSh} {rf : xRf} {iv : xIv} {lg : xLg} {n bp nx : Nat} {os : List Nat} {cv : Value}
set_option maxHeartbeats 8000000 in
theorem xsnd_do (hok : xOK) (ih : xG L xs l n) (hS : xS L xs p l e R s m args below meth c Q D dA A a0 b c0 s0 M r sh' rf' iv' lg' a H locs ls lv sh rf iv lg) {ins : Instr} {len : Nat} {sw : List (Int32 × Nat)} (hI : xokI M (xYf M).cls (xccf M) (bp, nx, ins, len, os, sw, cv) = true)
    (h : xrun (xexec L xs n) M (xdo L xs M lv st sh rf iv lg nx ins os sw cv) = some (r, sh', rf', iv', lg')) : W p l e R s m args below meth c H locs (sh.length - c0) (xsz sh - s0) Q (F0 m bp ls (st.map (xtv a))) := by
  obtain ⟨hd, hO⟩ := xand hI
  have hd := of_decide_eq_true hd
  cases ins with
  | iconst z =>
    obtain ⟨hl, hO2⟩ := xand hO
    clear hO
    have hO := hO2
    clear hO2
    have hl : len = 1 := Nat.eq_of_beq_eq_true hl
    subst hl
    obtain ⟨hn, hO⟩ := xand hO
    have hn : xbp M nx = bp + 1 := Nat.eq_of_beq_eq_true hn
    have hO := of_decide_eq_true hO
    subst hO
    have k1 := xi_push ih hS h
    rw [hn] at k1
    exact lv_iconst hS.1.1.1 hS.1.1.2.1 hd rfl k1
  | bipush z =>
    obtain ⟨hl, hO2⟩ := xand hO
    clear hO
    have hO := hO2
    clear hO2
    have hl : len = 2 := Nat.eq_of_beq_eq_true hl
    subst hl
    obtain ⟨hn, hO⟩ := xand hO
    have hn : xbp M nx = bp + 2 := Nat.eq_of_beq_eq_true hn
    have hO := of_decide_eq_true hO
    subst hO
    have k1 := xi_push ih hS h
    rw [hn] at k1
    exact lv_bipush hS.1.1.1 hS.1.1.2.1 hd rfl k1
  | sipush z =>
    obtain ⟨hl, hO2⟩ := xand hO
    clear hO
    have hO := hO2
    clear hO2
    have hl : len = 3 := Nat.eq_of_beq_eq_true hl
    subst hl
    obtain ⟨hn, hO⟩ := xand hO
    have hn : xbp M nx = bp + 3 := Nat.eq_of_beq_eq_true hn
    have hO := of_decide_eq_true hO
    subst hO
    have k1 := xi_push ih hS h
    rw [hn] at k1
    exact lv_sipush hS.1.1.1 hS.1.1.2.1 hd rfl k1
  | lconst z =>
    obtain ⟨hl, hO2⟩ := xand hO
    clear hO
    have hO := hO2
    clear hO2
    have hl : len = 1 := Nat.eq_of_beq_eq_true hl
    subst hl
    obtain ⟨hn, hO⟩ := xand hO
    have hn : xbp M nx = bp + 1 := Nat.eq_of_beq_eq_true hn
    have hO := of_decide_eq_true hO
    subst hO
    have k1 := xi_push ih hS h
    rw [hn] at k1
    exact lv_lconst hS.1.1.1 hS.1.1.2.1 hd rfl k1
  | ldc z =>
    obtain ⟨hl, hO2⟩ := xand hO
    clear hO
    have hO := hO2
    clear hO2
    have hl : len = 2 := Nat.eq_of_beq_eq_true hl
    subst hl
    obtain ⟨hn, hO⟩ := xand hO
    have hn : xbp M nx = bp + 2 := Nat.eq_of_beq_eq_true hn
    split at hO
    · rename_i q v
      have hO := of_decide_eq_true hO
      have k1 := xi_push ih hS h
      rw [hn] at k1
      exact lv_ldc hS.1.1.1 hS.1.1.2.1 hS.1.1.2.2.2.1 (hS.1.2.1 _ (xTs_of hO rfl)) hd k1
    · cases hO
  | ldc_w z =>
    obtain ⟨hl, hO2⟩ := xand hO
    clear hO
    have hO := hO2
    clear hO2
    have hl : len = 3 := Nat.eq_of_beq_eq_true hl
    subst hl
    obtain ⟨hn, hO⟩ := xand hO
    have hn : xbp M nx = bp + 3 := Nat.eq_of_beq_eq_true hn
    split at hO
    · rename_i q v
      have hO := of_decide_eq_true hO
      have k1 := xi_push ih hS h
      rw [hn] at k1
      exact lv_ldcw hS.1.1.1 hS.1.1.2.1 hS.1.1.2.2.2.1 (hS.1.2.1 _ (xTs_of hO rfl)) hd k1
    · cases hO
  | ldc2_w z =>
    obtain ⟨hl, hO2⟩ := xand hO
    clear hO
    have hO := hO2
    clear hO2
    have hl : len = 3 := Nat.eq_of_beq_eq_true hl
    subst hl
    obtain ⟨hn, hO⟩ := xand hO
    have hn : xbp M nx = bp + 3 := Nat.eq_of_beq_eq_true hn
    split at hO
    · rename_i q v
      have hO := of_decide_eq_true hO
      have k1 := xi_push ih hS h
      rw [hn] at k1
      exact lv_ldc2 hS.1.1.1 hS.1.1.2.1 hS.1.1.2.2.2.1 (hS.1.2.1 _ (xTs_of hO rfl)) hd k1
    · cases hO
  | iload_n z =>
    obtain ⟨hl, hO2⟩ := xand hO
    clear hO
    have hO := hO2
    clear hO2
    have hl : len = 1 := Nat.eq_of_beq_eq_true hl
    subst hl
    obtain ⟨hn, hO⟩ := xand hO
    have hn : xbp M nx = bp + 1 := Nat.eq_of_beq_eq_true hn
    have hO := of_decide_eq_true hO
    subst hO
    exact xi_ldI ih hS hn (fun x hx k1 => lv_iload_n hS.1.1.1 hS.1.1.2.1 hd rfl hx k1) h
  | lload_n z =>
    obtain ⟨hl, hO2⟩ := xand hO
    clear hO
    have hO := hO2
    clear hO2
    have hl : len = 1 := Nat.eq_of_beq_eq_true hl
    subst hl
    obtain ⟨hn, hO⟩ := xand hO
    have hn : xbp M nx = bp + 1 := Nat.eq_of_beq_eq_true hn
    have hO := of_decide_eq_true hO
    subst hO
    exact xi_ldL ih hS hn (fun x hx k1 => lv_lload_n hS.1.1.1 hS.1.1.2.1 hd rfl hx k1) h
  | aload_n z =>
    obtain ⟨hl, hO2⟩ := xand hO
    clear hO
    have hO := hO2
    clear hO2
    have hl : len = 1 := Nat.eq_of_beq_eq_true hl
    subst hl
    obtain ⟨hn, hO⟩ := xand hO
    have hn : xbp M nx = bp + 1 := Nat.eq_of_beq_eq_true hn
    have hO := of_decide_eq_true hO
    subst hO
    exact xi_ldA ih hS hn (fun x hx k1 => lv_aload_n hS.1.1.1 hS.1.1.2.1 hd rfl hx k1) h
  | iload z =>
    obtain ⟨hl, hO2⟩ := xand hO
    clear hO
    have hO := hO2
    clear hO2
    have hl : len = 2 := Nat.eq_of_beq_eq_true hl
    subst hl
    obtain ⟨hn, hO⟩ := xand hO
    have hn : xbp M nx = bp + 2 := Nat.eq_of_beq_eq_true hn
    have hO := of_decide_eq_true hO
    subst hO
    exact xi_ldI ih hS hn (fun x hx k1 => lv_iload hS.1.1.1 hS.1.1.2.1 hd hx k1) h
  | lload z =>
    obtain ⟨hl, hO2⟩ := xand hO
    clear hO
    have hO := hO2
    clear hO2
    have hl : len = 2 := Nat.eq_of_beq_eq_true hl
    subst hl
    obtain ⟨hn, hO⟩ := xand hO
    have hn : xbp M nx = bp + 2 := Nat.eq_of_beq_eq_true hn
    have hO := of_decide_eq_true hO
    subst hO
    exact xi_ldL ih hS hn (fun x hx k1 => lv_lload hS.1.1.1 hS.1.1.2.1 hd hx k1) h
  | aload z =>
    obtain ⟨hl, hO2⟩ := xand hO
    clear hO
    have hO := hO2
    clear hO2
    have hl : len = 2 := Nat.eq_of_beq_eq_true hl
    subst hl
    obtain ⟨hn, hO⟩ := xand hO
    have hn : xbp M nx = bp + 2 := Nat.eq_of_beq_eq_true hn
    have hO := of_decide_eq_true hO
    subst hO
    exact xi_ldA ih hS hn (fun x hx k1 => lv_aload hS.1.1.1 hS.1.1.2.1 hd hx k1) h
  | istore_n z =>
    obtain ⟨hl, hO2⟩ := xand hO
    clear hO
    have hO := hO2
    clear hO2
    have hl : len = 1 := Nat.eq_of_beq_eq_true hl
    subst hl
    obtain ⟨hn, hO⟩ := xand hO
    have hn : xbp M nx = bp + 1 := Nat.eq_of_beq_eq_true hn
    obtain ⟨hO, hlt⟩ := xand hO
    have hO := of_decide_eq_true hO
    subst hO
    exact xi_stI ih hS hn (fun x rest k1 => lv_istore_n hS.1.1.1 hS.1.1.2.1 hd rfl hS.2.2.2.2.1 (Nat.le_of_ble_eq_true hlt) rfl (fun ls2 hl2 => k1 ls2 hl2)) h
  | lstore_n z =>
    obtain ⟨hl, hO2⟩ := xand hO
    clear hO
    have hO := hO2
    clear hO2
    have hl : len = 1 := Nat.eq_of_beq_eq_true hl
    subst hl
    obtain ⟨hn, hO⟩ := xand hO
    have hn : xbp M nx = bp + 1 := Nat.eq_of_beq_eq_true hn
    obtain ⟨hO, hlt⟩ := xand hO
    have hO := of_decide_eq_true hO
    subst hO
    exact xi_stL ih hS hn (fun x rest k1 => lv_lstore_n hS.1.1.1 hS.1.1.2.1 hd rfl hS.2.2.2.2.1 (Nat.le_of_ble_eq_true hlt) rfl (fun ls2 hl2 => k1 ls2 hl2)) h
  | astore_n z =>
    obtain ⟨hl, hO2⟩ := xand hO
    clear hO
    have hO := hO2
    clear hO2
    have hl : len = 1 := Nat.eq_of_beq_eq_true hl
    subst hl
    obtain ⟨hn, hO⟩ := xand hO
    have hn : xbp M nx = bp + 1 := Nat.eq_of_beq_eq_true hn
    obtain ⟨hO, hlt⟩ := xand hO
    have hO := of_decide_eq_true hO
    subst hO
    exact xi_stA ih hS hn (fun x rest k1 => lv_astore_n hS.1.1.1 hS.1.1.2.1 hd rfl hS.2.2.2.2.1 (Nat.le_of_ble_eq_true hlt) rfl (fun ls2 hl2 => k1 ls2 hl2)) h
  | istore z =>
    obtain ⟨hl, hO2⟩ := xand hO
    clear hO
    have hO := hO2
    clear hO2
    have hl : len = 2 := Nat.eq_of_beq_eq_true hl
    subst hl
    obtain ⟨hn, hO⟩ := xand hO
    have hn : xbp M nx = bp + 2 := Nat.eq_of_beq_eq_true hn
    obtain ⟨hO, hlt⟩ := xand hO
    have hO := of_decide_eq_true hO
    subst hO
    exact xi_stI ih hS hn (fun x rest k1 => lv_istore hS.1.1.1 hS.1.1.2.1 hd hS.2.2.2.2.1 (Nat.le_of_ble_eq_true hlt) rfl (fun ls2 hl2 => k1 ls2 hl2)) h
  | lstore z =>
    obtain ⟨hl, hO2⟩ := xand hO
    clear hO
    have hO := hO2
    clear hO2
    have hl : len = 2 := Nat.eq_of_beq_eq_true hl
    subst hl
    obtain ⟨hn, hO⟩ := xand hO
    have hn : xbp M nx = bp + 2 := Nat.eq_of_beq_eq_true hn
    obtain ⟨hO, hlt⟩ := xand hO
    have hO := of_decide_eq_true hO
    subst hO
    exact xi_stL ih hS hn (fun x rest k1 => lv_lstore hS.1.1.1 hS.1.1.2.1 hd hS.2.2.2.2.1 (Nat.le_of_ble_eq_true hlt) rfl (fun ls2 hl2 => k1 ls2 hl2)) h
  | astore z =>
    obtain ⟨hl, hO2⟩ := xand hO
    clear hO
    have hO := hO2
    clear hO2
    have hl : len = 2 := Nat.eq_of_beq_eq_true hl
    subst hl
    obtain ⟨hn, hO⟩ := xand hO
    have hn : xbp M nx = bp + 2 := Nat.eq_of_beq_eq_true hn
    obtain ⟨hO, hlt⟩ := xand hO
    have hO := of_decide_eq_true hO
    subst hO
    exact xi_stA ih hS hn (fun x rest k1 => lv_astore hS.1.1.1 hS.1.1.2.1 hd hS.2.2.2.2.1 (Nat.le_of_ble_eq_true hlt) rfl (fun ls2 hl2 => k1 ls2 hl2)) h
  | iinc z1 z2 =>
    obtain ⟨hl, hO2⟩ := xand hO
    clear hO
    have hO := hO2
    clear hO2
    have hl : len = 3 := Nat.eq_of_beq_eq_true hl
    subst hl
    obtain ⟨hn, hO⟩ := xand hO
    have hn : xbp M nx = bp + 3 := Nat.eq_of_beq_eq_true hn
    obtain ⟨hO, hO2⟩ := xand hO
    obtain ⟨hlt, hO2⟩ := xand hO2
    have hO := of_decide_eq_true hO
    subst hO
    have hO2 := of_decide_eq_true hO2
    subst hO2
    exact xi_inc ih hS hn (Nat.le_of_ble_eq_true hlt) hd h
  | iadd =>
    obtain ⟨hl, hO2⟩ := xand hO
    clear hO
    have hO := hO2
    clear hO2
    have hl : len = 1 := Nat.eq_of_beq_eq_true hl
    subst hl
    have hn : xbp M nx = bp + 1 := Nat.eq_of_beq_eq_true hO
    exact xi_bin ih hS hn (fun x y rest k1 => lv_iadd hS.1.1.1 hS.1.1.2.1 hd k1) h
  | isub =>
    obtain ⟨hl, hO2⟩ := xand hO
    clear hO
    have hO := hO2
    clear hO2
    have hl : len = 1 := Nat.eq_of_beq_eq_true hl
    subst hl
    have hn : xbp M nx = bp + 1 := Nat.eq_of_beq_eq_true hO
    exact xi_bin ih hS hn (fun x y rest k1 => lv_isub hS.1.1.1 hS.1.1.2.1 hd k1) h
  | imul =>
    obtain ⟨hl, hO2⟩ := xand hO
    clear hO
    have hO := hO2
    clear hO2
    have hl : len = 1 := Nat.eq_of_beq_eq_true hl
    subst hl
    have hn : xbp M nx = bp + 1 := Nat.eq_of_beq_eq_true hO
    exact xi_bin ih hS hn (fun x y rest k1 => lv_imul hS.1.1.1 hS.1.1.2.1 hd k1) h
  | iand =>
    obtain ⟨hl, hO2⟩ := xand hO
    clear hO
    have hO := hO2
    clear hO2
    have hl : len = 1 := Nat.eq_of_beq_eq_true hl
    subst hl
    have hn : xbp M nx = bp + 1 := Nat.eq_of_beq_eq_true hO
    exact xi_bin ih hS hn (fun x y rest k1 => lv_iand hS.1.1.1 hS.1.1.2.1 hd k1) h
  | ior =>
    obtain ⟨hl, hO2⟩ := xand hO
    clear hO
    have hO := hO2
    clear hO2
    have hl : len = 1 := Nat.eq_of_beq_eq_true hl
    subst hl
    have hn : xbp M nx = bp + 1 := Nat.eq_of_beq_eq_true hO
    exact xi_bin ih hS hn (fun x y rest k1 => lv_ior hS.1.1.1 hS.1.1.2.1 hd k1) h
  | ixor =>
    obtain ⟨hl, hO2⟩ := xand hO
    clear hO
    have hO := hO2
    clear hO2
    have hl : len = 1 := Nat.eq_of_beq_eq_true hl
    subst hl
    have hn : xbp M nx = bp + 1 := Nat.eq_of_beq_eq_true hO
    exact xi_bin ih hS hn (fun x y rest k1 => lv_ixor hS.1.1.1 hS.1.1.2.1 hd k1) h
  | ishl =>
    obtain ⟨hl, hO2⟩ := xand hO
    clear hO
    have hO := hO2
    clear hO2
    have hl : len = 1 := Nat.eq_of_beq_eq_true hl
    subst hl
    have hn : xbp M nx = bp + 1 := Nat.eq_of_beq_eq_true hO
    exact xi_bin ih hS hn (fun x y rest k1 => lv_ishl hS.1.1.1 hS.1.1.2.1 hd k1) h
  | ishr =>
    obtain ⟨hl, hO2⟩ := xand hO
    clear hO
    have hO := hO2
    clear hO2
    have hl : len = 1 := Nat.eq_of_beq_eq_true hl
    subst hl
    have hn : xbp M nx = bp + 1 := Nat.eq_of_beq_eq_true hO
    exact xi_bin ih hS hn (fun x y rest k1 => lv_ishr hS.1.1.1 hS.1.1.2.1 hd k1) h
  | idiv =>
    obtain ⟨hl, hO2⟩ := xand hO
    clear hO
    have hO := hO2
    clear hO2
    have hl : len = 1 := Nat.eq_of_beq_eq_true hl
    subst hl
    have hn : xbp M nx = bp + 1 := Nat.eq_of_beq_eq_true hO
    exact xi_div ih hS hn (fun x y rest hne k1 => lv_idiv hS.1.1.1 hS.1.1.2.1 hd hne k1) h
  | irem =>
    obtain ⟨hl, hO2⟩ := xand hO
    clear hO
    have hO := hO2
    clear hO2
    have hl : len = 1 := Nat.eq_of_beq_eq_true hl
    subst hl
    have hn : xbp M nx = bp + 1 := Nat.eq_of_beq_eq_true hO
    exact xi_div ih hS hn (fun x y rest hne k1 => lv_irem hS.1.1.1 hS.1.1.2.1 hd hne k1) h
  | ladd =>
    obtain ⟨hl, hO2⟩ := xand hO
    clear hO
    have hO := hO2
    clear hO2
    have hl : len = 1 := Nat.eq_of_beq_eq_true hl
    subst hl
    have hn : xbp M nx = bp + 1 := Nat.eq_of_beq_eq_true hO
    exact xi_binL ih hS hn (fun x y rest k1 => lv_ladd hS.1.1.1 hS.1.1.2.1 hd k1) h
  | lsub =>
    obtain ⟨hl, hO2⟩ := xand hO
    clear hO
    have hO := hO2
    clear hO2
    have hl : len = 1 := Nat.eq_of_beq_eq_true hl
    subst hl
    have hn : xbp M nx = bp + 1 := Nat.eq_of_beq_eq_true hO
    exact xi_binL ih hS hn (fun x y rest k1 => lv_lsub hS.1.1.1 hS.1.1.2.1 hd k1) h
  | land =>
    obtain ⟨hl, hO2⟩ := xand hO
    clear hO
    have hO := hO2
    clear hO2
    have hl : len = 1 := Nat.eq_of_beq_eq_true hl
    subst hl
    have hn : xbp M nx = bp + 1 := Nat.eq_of_beq_eq_true hO
    exact xi_binL ih hS hn (fun x y rest k1 => lv_land hS.1.1.1 hS.1.1.2.1 hd k1) h
  | lor =>
    obtain ⟨hl, hO2⟩ := xand hO
    clear hO
    have hO := hO2
    clear hO2
    have hl : len = 1 := Nat.eq_of_beq_eq_true hl
    subst hl
    have hn : xbp M nx = bp + 1 := Nat.eq_of_beq_eq_true hO
    exact xi_binL ih hS hn (fun x y rest k1 => lv_lor hS.1.1.1 hS.1.1.2.1 hd k1) h
  | lshl =>
    obtain ⟨hl, hO2⟩ := xand hO
    clear hO
    have hO := hO2
    clear hO2
    have hl : len = 1 := Nat.eq_of_beq_eq_true hl
    subst hl
    have hn : xbp M nx = bp + 1 := Nat.eq_of_beq_eq_true hO
    exact xi_shL ih hS hn (fun x y rest k1 => lv_lshl hS.1.1.1 hS.1.1.2.1 hd rfl k1) h
  | lshr =>
    obtain ⟨hl, hO2⟩ := xand hO
    clear hO
    have hO := hO2
    clear hO2
    have hl : len = 1 := Nat.eq_of_beq_eq_true hl
    subst hl
    have hn : xbp M nx = bp + 1 := Nat.eq_of_beq_eq_true hO
    exact xi_shL ih hS hn (fun x y rest k1 => lv_lshr hS.1.1.1 hS.1.1.2.1 hd rfl k1) h
  | lcmp =>
    obtain ⟨hl, hO2⟩ := xand hO
    clear hO
    have hO := hO2
    clear hO2
    have hl : len = 1 := Nat.eq_of_beq_eq_true hl
    subst hl
    have hn : xbp M nx = bp + 1 := Nat.eq_of_beq_eq_true hO
    exact xi_cmpL ih hS hn hd h
  | ineg =>
    obtain ⟨hl, hO2⟩ := xand hO
    clear hO
    have hO := hO2
    clear hO2
    have hl : len = 1 := Nat.eq_of_beq_eq_true hl
    subst hl
    have hn : xbp M nx = bp + 1 := Nat.eq_of_beq_eq_true hO
    exact xi_unI (f := fun x => .int (-x)) ih hS hn (fun _ => rfl) (fun x rest k1 => lv_ineg hS.1.1.1 hS.1.1.2.1 hd k1) h
  | i2l =>
    obtain ⟨hl, hO2⟩ := xand hO
    clear hO
    have hO := hO2
    clear hO2
    have hl : len = 1 := Nat.eq_of_beq_eq_true hl
    subst hl
    have hn : xbp M nx = bp + 1 := Nat.eq_of_beq_eq_true hO
    exact xi_unI (f := fun x => .long x.toInt64) ih hS hn (fun _ => rfl) (fun x rest k1 => lv_i2l hS.1.1.1 hS.1.1.2.1 hd rfl k1) h
  | i2c =>
    obtain ⟨hl, hO2⟩ := xand hO
    clear hO
    have hO := hO2
    clear hO2
    have hl : len = 1 := Nat.eq_of_beq_eq_true hl
    subst hl
    have hn : xbp M nx = bp + 1 := Nat.eq_of_beq_eq_true hO
    exact xi_unI (f := fun x => .int (x.toUInt32 % 65536).toInt32) ih hS hn (fun _ => rfl) (fun x rest k1 => lv_i2c hS.1.1.1 hS.1.1.2.1 hd rfl k1) h
  | i2s =>
    obtain ⟨hl, hO2⟩ := xand hO
    clear hO
    have hO := hO2
    clear hO2
    have hl : len = 1 := Nat.eq_of_beq_eq_true hl
    subst hl
    have hn : xbp M nx = bp + 1 := Nat.eq_of_beq_eq_true hO
    exact xi_unI (f := fun x => .int x.toInt16.toInt32) ih hS hn (fun _ => rfl) (fun x rest k1 => lv_i2s hS.1.1.1 hS.1.1.2.1 hd rfl k1) h
  | l2i =>
    obtain ⟨hl, hO2⟩ := xand hO
    clear hO
    have hO := hO2
    clear hO2
    have hl : len = 1 := Nat.eq_of_beq_eq_true hl
    subst hl
    have hn : xbp M nx = bp + 1 := Nat.eq_of_beq_eq_true hO
    exact xi_unL (f := fun x => .int x.toInt32) ih hS hn (fun _ => rfl) (fun x rest k1 => lv_l2i hS.1.1.1 hS.1.1.2.1 hd rfl k1) h
  | dup =>
    obtain ⟨hl, hO2⟩ := xand hO
    clear hO
    have hO := hO2
    clear hO2
    have hl : len = 1 := Nat.eq_of_beq_eq_true hl
    subst hl
    have hn : xbp M nx = bp + 1 := Nat.eq_of_beq_eq_true hO
    exact xi_dup ih hS hn hd h
  | dup2 =>
    obtain ⟨hl, hO2⟩ := xand hO
    clear hO
    have hO := hO2
    clear hO2
    have hl : len = 1 := Nat.eq_of_beq_eq_true hl
    subst hl
    have hn : xbp M nx = bp + 1 := Nat.eq_of_beq_eq_true hO
    exact xi_dup2 ih hS hn hd h
  | pop =>
    obtain ⟨hl, hO2⟩ := xand hO
    clear hO
    have hO := hO2
    clear hO2
    have hl : len = 1 := Nat.eq_of_beq_eq_true hl
    subst hl
    have hn : xbp M nx = bp + 1 := Nat.eq_of_beq_eq_true hO
    exact xi_pop ih hS hn hd h
  | iaload =>
    obtain ⟨hl, hO2⟩ := xand hO
    clear hO
    have hO := hO2
    clear hO2
    have hl : len = 1 := Nat.eq_of_beq_eq_true hl
    subst hl
    have hn : xbp M nx = bp + 1 := Nat.eq_of_beq_eq_true hO
    exact xi_ald ih hS hn hd h
  | caload =>
    obtain ⟨hl, hO2⟩ := xand hO
    clear hO
    have hO := hO2
    clear hO2
    have hl : len = 1 := Nat.eq_of_beq_eq_true hl
    subst hl
    have hn : xbp M nx = bp + 1 := Nat.eq_of_beq_eq_true hO
    exact xi_cald ih hS hn hd h
  | laload =>
    obtain ⟨hl, hO2⟩ := xand hO
    clear hO
    have hO := hO2
    clear hO2
    have hl : len = 1 := Nat.eq_of_beq_eq_true hl
    subst hl
    have hn : xbp M nx = bp + 1 := Nat.eq_of_beq_eq_true hO
    exact xi_lald ih hS hn hd h
  | aaload =>
    obtain ⟨hl, hO2⟩ := xand hO
    clear hO
    have hO := hO2
    clear hO2
    have hl : len = 1 := Nat.eq_of_beq_eq_true hl
    subst hl
    have hn : xbp M nx = bp + 1 := Nat.eq_of_beq_eq_true hO
    exact xi_aald ih hS hn hd h
  | iastore =>
    obtain ⟨hl, hO2⟩ := xand hO
    clear hO
    have hO := hO2
    clear hO2
    have hl : len = 1 := Nat.eq_of_beq_eq_true hl
    subst hl
    have hn : xbp M nx = bp + 1 := Nat.eq_of_beq_eq_true hO
    exact xi_ast ih hS hn hd h
  | castore =>
    obtain ⟨hl, hO2⟩ := xand hO
    clear hO
    have hO := hO2
    clear hO2
    have hl : len = 1 := Nat.eq_of_beq_eq_true hl
    subst hl
    have hn : xbp M nx = bp + 1 := Nat.eq_of_beq_eq_true hO
    exact xi_cast ih hS hn hd h
  | lastore =>
    obtain ⟨hl, hO2⟩ := xand hO
    clear hO
    have hO := hO2
    clear hO2
    have hl : len = 1 := Nat.eq_of_beq_eq_true hl
    subst hl
    have hn : xbp M nx = bp + 1 := Nat.eq_of_beq_eq_true hO
    exact xi_last ih hS hn hd h
  | aastore =>
    obtain ⟨hl, hO2⟩ := xand hO
    clear hO
    have hO := hO2
    clear hO2
    have hl : len = 1 := Nat.eq_of_beq_eq_true hl
    subst hl
    have hn : xbp M nx = bp + 1 := Nat.eq_of_beq_eq_true hO
    exact xi_aast ih hS hn hd h
  | arraylength =>
    obtain ⟨hl, hO2⟩ := xand hO
    clear hO
    have hO := hO2
    clear hO2
    have hl : len = 1 := Nat.eq_of_beq_eq_true hl
    subst hl
    have hn : xbp M nx = bp + 1 := Nat.eq_of_beq_eq_true hO
    exact xi_len ih hS hn hd h
  | goto off =>
    obtain ⟨hl, hO2⟩ := xand hO
    clear hO
    have hO := hO2
    clear hO2
    have hl : len = 3 := Nat.eq_of_beq_eq_true hl
    subst hl
    split at hO
    · rename_i t
      exact xi_go ih hS (of_decide_eq_true hO) hd h
    · cases hO
  | ifCond cnd off =>
    obtain ⟨hl, hO2⟩ := xand hO
    clear hO
    have hO := hO2
    clear hO2
    have hl : len = 3 := Nat.eq_of_beq_eq_true hl
    subst hl
    obtain ⟨hn, hO⟩ := xand hO
    have hn : xbp M nx = bp + 3 := Nat.eq_of_beq_eq_true hn
    split at hO
    · rename_i t
      have ht := of_decide_eq_true hO
      cases cnd with
      | eq => exact xi_if ih hS hn (fun x rest kt kf => lv_if_eq hS.1.1.1 hS.1.1.2.1 hd ht kt kf) h
      | ne => exact xi_if ih hS hn (fun x rest kt kf => lv_if_ne hS.1.1.1 hS.1.1.2.1 hd ht kt (fun z => kf (fun w => w z))) h
      | lt => exact xi_if ih hS hn (fun x rest kt kf => lv_if_lt hS.1.1.1 hS.1.1.2.1 hd ht kt kf) h
      | ge => exact xi_if ih hS hn (fun x rest kt kf => lv_if_ge hS.1.1.1 hS.1.1.2.1 hd ht kt kf) h
      | gt => exact xi_if ih hS hn (fun x rest kt kf => lv_if_gt hS.1.1.1 hS.1.1.2.1 hd ht kt kf) h
      | le => exact xi_if ih hS hn (fun x rest kt kf => lv_if_le hS.1.1.1 hS.1.1.2.1 hd ht kt kf) h
    · cases hO
  | if_icmp cnd off =>
    obtain ⟨hl, hO2⟩ := xand hO
    clear hO
    have hO := hO2
    clear hO2
    have hl : len = 3 := Nat.eq_of_beq_eq_true hl
    subst hl
    obtain ⟨hn, hO⟩ := xand hO
    have hn : xbp M nx = bp + 3 := Nat.eq_of_beq_eq_true hn
    split at hO
    · rename_i t
      have ht := of_decide_eq_true hO
      cases cnd with
      | eq => exact xi_icmp ih hS hn (fun x y rest kt kf => lv_icmp_eq hS.1.1.1 hS.1.1.2.1 hd ht kt kf) h
      | ne => exact xi_icmp ih hS hn (fun x y rest kt kf => lv_icmp_ne hS.1.1.1 hS.1.1.2.1 hd ht kt (fun z => kf (fun w => w z))) h
      | lt => exact xi_icmp ih hS hn (fun x y rest kt kf => lv_icmp_lt hS.1.1.1 hS.1.1.2.1 hd ht kt kf) h
      | ge => exact xi_icmp ih hS hn (fun x y rest kt kf => lv_icmp_ge hS.1.1.1 hS.1.1.2.1 hd ht kt kf) h
      | gt => exact xi_icmp ih hS hn (fun x y rest kt kf => lv_icmp_gt hS.1.1.1 hS.1.1.2.1 hd ht kt kf) h
      | le => exact xi_icmp ih hS hn (fun x y rest kt kf => lv_icmp_le hS.1.1.1 hS.1.1.2.1 hd ht kt kf) h
    · cases hO
  | tableswitch dflt lo hi offs =>
    replace hO : xokO M (xYf M).cls bp nx (.tableswitch dflt lo hi offs) len os sw cv = true := hO
    unfold xokO at hO
    dsimp only at hO
    split at hO
    · rename_i t
      obtain ⟨h1, hO⟩ := xand hO
      obtain ⟨h2, hO⟩ := xand hO
      exact xi_tab ih hS hd (of_decide_eq_true h1) (of_decide_eq_true h2) hO h
    · cases hO
  | getfield idx =>
    obtain ⟨hl, hO2⟩ := xand hO
    clear hO
    have hO := hO2
    clear hO2
    have hl : len = 3 := Nat.eq_of_beq_eq_true hl
    subst hl
    obtain ⟨hn, hO⟩ := xand hO
    have hn : xbp M nx = bp + 3 := Nat.eq_of_beq_eq_true hn
    split at hO
    · exact xi_get hok ih hS hn hO hd h
    · cases hO
  | putfield idx =>
    obtain ⟨hl, hO2⟩ := xand hO
    clear hO
    have hO := hO2
    clear hO2
    have hl : len = 3 := Nat.eq_of_beq_eq_true hl
    subst hl
    obtain ⟨hn, hO⟩ := xand hO
    have hn : xbp M nx = bp + 3 := Nat.eq_of_beq_eq_true hn
    split at hO
    · obtain ⟨h1, h2⟩ := xand hO
      exact xi_put hok ih hS hn h1 h2 hd h
    · cases hO
  | new idx =>
    obtain ⟨hl, hO2⟩ := xand hO
    clear hO
    have hO := hO2
    clear hO2
    have hl : len = 3 := Nat.eq_of_beq_eq_true hl
    subst hl
    obtain ⟨hn, hO⟩ := xand hO
    have hn : xbp M nx = bp + 3 := Nat.eq_of_beq_eq_true hn
    split at hO
    · exact xi_new hok ih hS hn hd hO h
    · cases hO
  | newarray aty =>
    obtain ⟨hl, hO2⟩ := xand hO
    clear hO
    have hO := hO2
    clear hO2
    have hl : len = 2 := Nat.eq_of_beq_eq_true hl
    subst hl
    have hn : xbp M nx = bp + 2 := Nat.eq_of_beq_eq_true hO
    cases aty with
    | int => exact xi_newa (tag := 0) (ty := .int) (z := fun N => (N, .inl (fun _ => 0))) hok ih hS hn hd rfl hok.2.2.2.2.2.2.1 rfl (fun _ z => z) (fun _ _ => rfl) (by decide) (fun a2 rf2 iv2 lg2 k N h1 h2 => by show (Sum.inl (dA 0, N, .inl (iv2 k)) : va_E) = _; rw [h1]) h
    | long => exact xi_newa (tag := 1) (ty := .long) (z := fun N => (N, .inr (.inl (fun _ => 0)))) hok ih hS hn hd rfl hok.2.2.2.2.2.2.2.1 rfl (fun _ z => z) (fun _ _ => rfl) (by decide) (fun a2 rf2 iv2 lg2 k N h1 h2 => by show (Sum.inl (dA 1, N, .inr (.inl (lg2 k))) : va_E) = _; rw [h2]) h
    | char => exact xi_newa (tag := 2) (ty := .char) (z := fun N => (N, .inl (fun _ => 0))) hok ih hS hn hd rfl hok.2.2.2.2.2.2.2.2.1 rfl (fun _ z => z) (fun _ _ => rfl) (by decide) (fun a2 rf2 iv2 lg2 k N h1 h2 => by show (Sum.inl (dA 2, N, .inl (iv2 k)) : va_E) = _; rw [h1]) h
    | _ => exact (xrun_none h).elim
  | anewarray idx =>
    obtain ⟨hl, hO2⟩ := xand hO
    clear hO
    have hO := hO2
    clear hO2
    have hl : len = 3 := Nat.eq_of_beq_eq_true hl
    subst hl
    obtain ⟨hn, hO⟩ := xand hO
    have hn : xbp M nx = bp + 3 := Nat.eq_of_beq_eq_true hn
    split at hO
    · exact xi_newq hok ih hS hn hd (of_decide_eq_true hO) h
    · cases hO
  | multianewarray idx dims =>
    obtain ⟨hl, hO2⟩ := xand hO
    clear hO
    have hO := hO2
    clear hO2
    have hl : len = 4 := Nat.eq_of_beq_eq_true hl
    subst hl
    obtain ⟨hn, hO⟩ := xand hO
    have hn : xbp M nx = bp + 4 := Nat.eq_of_beq_eq_true hn
    obtain ⟨h2, hO⟩ := xand hO
    have h2 := Nat.eq_of_beq_eq_true h2
    subst h2
    split at hO
    · exact xi_mna hok ih hS hn hd (of_decide_eq_true hO) h
    · cases hO
  | invokestatic idx =>
    obtain ⟨hl, hO2⟩ := xand hO
    clear hO
    have hO := hO2
    clear hO2
    have hl : len = 3 := Nat.eq_of_beq_eq_true hl
    subst hl
    obtain ⟨hn, hO⟩ := xand hO
    have hn : xbp M nx = bp + 3 := Nat.eq_of_beq_eq_true hn
    split at hO
    · obtain ⟨h1, hO⟩ := xand hO
      obtain ⟨h2, h3⟩ := xand hO
      exact xi_cpy hok ih hS hn (of_decide_eq_true h1) (Nat.le_of_ble_eq_true h2) (Nat.le_of_ble_eq_true h3) hd h
    · obtain ⟨h1, hO⟩ := xand hO
      obtain ⟨h2, h3⟩ := xand hO
      exact xi_max hok ih hS hn (of_decide_eq_true h1) (Nat.le_of_ble_eq_true h2) (Nat.le_of_ble_eq_true h3) hd h
    · obtain ⟨h1, hO⟩ := xand hO
      obtain ⟨h2, h3⟩ := xand hO
      exact xi_min hok ih hS hn (of_decide_eq_true h1) (Nat.le_of_ble_eq_true h2) (Nat.le_of_ble_eq_true h3) hd h
    · obtain ⟨h1, hO⟩ := xand hO
      obtain ⟨h2, hO⟩ := xand hO
      obtain ⟨h3, hO⟩ := xand hO
      obtain ⟨h4, h5⟩ := xand hO
      exact xi_stat hok ih hS hn hd (Nat.le_of_ble_eq_true h1) (xokC_of hok (Nat.le_of_ble_eq_true h1) h5) h2 (of_decide_eq_true h3) (Nat.eq_of_beq_eq_true h4) h5 h
    · cases hO
  | invokespecial idx =>
    obtain ⟨hl, hO2⟩ := xand hO
    clear hO
    have hO := hO2
    clear hO2
    have hl : len = 3 := Nat.eq_of_beq_eq_true hl
    subst hl
    obtain ⟨hn, hO⟩ := xand hO
    have hn : xbp M nx = bp + 3 := Nat.eq_of_beq_eq_true hn
    split at hO
    · obtain ⟨h1, hO⟩ := xand hO
      obtain ⟨h2, h3⟩ := xand hO
      exact xi_obj hok ih hS hn (of_decide_eq_true h1) (Nat.le_of_ble_eq_true h2) (Nat.le_of_ble_eq_true h3) hd h
    · obtain ⟨h1, hO⟩ := xand hO
      obtain ⟨h2, hO⟩ := xand hO
      obtain ⟨h3, hO⟩ := xand hO
      obtain ⟨h4, hO⟩ := xand hO
      obtain ⟨h5, hO⟩ := xand hO
      obtain ⟨h6, h7⟩ := xand hO
      exact xi_spec hok ih hS hn hd (Nat.le_of_ble_eq_true h1) (xokC_of hok (Nat.le_of_ble_eq_true h1) h7) h2 (of_decide_eq_true h3) (Nat.eq_of_beq_eq_true h4) (of_decide_eq_true h5) (of_decide_eq_true h6) h7 h
    · cases hO
  | invokevirtual idx =>
    obtain ⟨hl, hO2⟩ := xand hO
    clear hO
    have hO := hO2
    clear hO2
    have hl : len = 3 := Nat.eq_of_beq_eq_true hl
    subst hl
    obtain ⟨hn, hO⟩ := xand hO
    have hn : xbp M nx = bp + 3 := Nat.eq_of_beq_eq_true hn
    split at hO
    · obtain ⟨h1, hO⟩ := xand hO
      obtain ⟨h2, hO⟩ := xand hO
      obtain ⟨h3, hO⟩ := xand hO
      obtain ⟨h4, hO⟩ := xand hO
      obtain ⟨h5, hO⟩ := xand hO
      obtain ⟨h6, h7⟩ := xand hO
      exact xi_virt hok ih hS hn hd (Nat.le_of_ble_eq_true h1) (xokC_of hok (Nat.le_of_ble_eq_true h1) h7) h2 (of_decide_eq_true h3) (of_decide_eq_true h4) (Nat.eq_of_beq_eq_true h5) h6 h7 h
    · cases hO
  | ireturn =>
    have hl : len = 1 := Nat.eq_of_beq_eq_true hO
    subst hl
    exact xi_retI hS hd h
  | lreturn =>
    have hl : len = 1 := Nat.eq_of_beq_eq_true hO
    subst hl
    exact xi_retL hS hd h
  | areturn =>
    have hl : len = 1 := Nat.eq_of_beq_eq_true hO
    subst hl
    exact xi_retA hS hd h
  | return_ =>
    have hl : len = 1 := Nat.eq_of_beq_eq_true hO
    subst hl
    exact xi_retV hS hd h
  | _ => exact (xrun_none h).elim
theorem xsnd_step (hok : xOK) (ih : xG L xs l n) {pc : Nat} (h : xexec L xs (n + 1) M pc lv st (sh, rf, iv, lg) = some (r, sh', rf', iv', lg')) (hS : xS L xs p l e R s m args below meth c Q D dA A a0 b c0 s0 M r sh' rf' iv' lg' a H locs ls lv sh rf iv lg) :
    W p l e R s m args below meth c H locs (sh.length - c0) (xsz sh - s0) Q (F0 m (xbp M pc) ls (st.map (xtv a))) := by
  replace h : xrun (xexec L xs n) M (xstep L xs M pc lv st sh rf iv lg) = some (r, sh', rf', iv', lg') := h
  unfold xstep xfetch xn2 at h
  obtain ⟨mc, hmc, h1⟩ := xrun_nth h
  obtain ⟨cs, hcs, h2⟩ := xrun_nth h1
  obtain ⟨ch, hch, h3⟩ := xrun_nth h2
  obtain ⟨en, hen, h4⟩ := xrun_nth h3
  have hcsM : xcs M = cs := by
    unfold xcs xn2
    rw [xnth_eq, hmc]
    dsimp only
    rw [xnth_eq, hcs]
    rfl
  have hbp : xbp M pc = en.1 := by
    unfold xbp xbpc xn2
    rw [hcsM, xnth_eq, hch]
    dsimp only
    rw [xnth_eq, hen]
  have hM := (xand (hok.1 M)).1
  rw [hcsM] at hM
  have hI := List.all_eq_true.mp (List.all_eq_true.mp hM ch (List.mem_of_getElem? hch)) en (List.mem_of_getElem? hen)
  obtain ⟨bp, nx, ins, len, os, sw, cv⟩ := en
  rw [hbp]
  exact xsnd_do hok ih hS hI h4
theorem xsnd (hok : xOK) : ∀ n, xG L xs l n
  | 0 => fun h _ => by cases h
  | n + 1 => fun h hS => xsnd_step hok (xsnd hok n) h hS
end XD
