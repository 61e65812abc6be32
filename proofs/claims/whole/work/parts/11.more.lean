theorem xsw_inv {α : Type} {v : Int32} {g : Nat → Option α} {d : Nat} {y : α} : ∀ sw : List (Int32 × Nat), xsw v g d sw = some y → (∃ (j : Nat) (q : Int32 × Nat), sw[j]? = some q ∧ v = q.1 ∧ g q.2 = some y) ∨ ((∀ (j : Nat) (q : Int32 × Nat), sw[j]? = some q → ¬ v = q.1) ∧ g d = some y)
  | [], h => Or.inr ⟨fun j q hj => by simp at hj, h⟩
  | q :: l, h => by
    unfold xsw at h
    by_cases hc : v = q.1
    · rw [xite_t hc] at h
      exact Or.inl ⟨0, q, rfl, hc, h⟩
    · rw [xite_f hc] at h
      rcases xsw_inv l h with ⟨j, q2, h1, h2, h3⟩ | ⟨h1, h2⟩
      · exact Or.inl ⟨j + 1, q2, by simpa using h1, h2, h3⟩
      · refine Or.inr ⟨fun j q2 hj => ?_, h2⟩
        cases j with
        | zero =>
          have e : q = q2 := by simpa using hj
          subst e
          exact hc
        | succ j => exact h1 j q2 (by simpa using hj)
theorem xokSw_spec {M bp : Nat} : ∀ {lo : Int} {offs : List Int} {sw : List (Int32 × Nat)}, xokSw M bp lo offs sw = true → sw.length = offs.length ∧ ∀ (j : Nat) (q : Int32 × Nat), sw[j]? = some q → ∃ o, offs[j]? = some o ∧ q.1.toInt = lo + j ∧ (bp : Int) + o = (xbp M q.2 : Int)
  | lo, [], [], _ => ⟨rfl, fun j q hj => by simp at hj⟩
  | lo, o :: os, q :: sw, h => by
    have h2 : (decide (q.1.toInt = lo) && (decide ((bp : Int) + o = (xbp M q.2 : Int)) && xokSw M bp (lo + 1) os sw)) = true := h
    simp only [Bool.and_eq_true, decide_eq_true_eq] at h2
    obtain ⟨h3, h4, h5⟩ := h2
    obtain ⟨h6, h7⟩ := xokSw_spec h5
    refine ⟨by simp [h6], fun j q2 hj => ?_⟩
    cases j with
    | zero =>
      have e : q = q2 := by simpa using hj
      subst e
      exact ⟨o, rfl, by rw [h3]; simp, h4⟩
    | succ j =>
      obtain ⟨o2, g1, g2, g3⟩ := h7 j q2 (by simpa using hj)
      exact ⟨o2, by simpa using g1, by rw [g2]; simp; omega, g3⟩
  | lo, [], q :: sw, h => by cases h
  | lo, o :: os, [], h => by cases h
section XM
variable {L : Nat} {xs : Nat → Int32} {p : Program} {l : Launch} {e : Env} {R : Room} {s : State} {m : MethodId} {args : Array Value} {below : List Frame} {meth : Method} {c : Code} {Q : State → Prop} {D : va_G} {dA : Nat → ClassId} {A : Nat → Prop} {a0 : Nat → Nat} {b c0 s0 M : Nat} {r : Option Value} {sh' : xSh} {rf' : xRf} {iv' : xIv} {lg' : xLg} {a : Nat → Nat} {H : Heap} {locs : List Loc} {ls : Array Slot} {lv : xLv} {st : List Value} {sh : xSh} {rf : xRf} {iv : xIv} {lg : xLg} {n bp nx : Nat} {os : List Nat} {cv : Value}
theorem xi_tab (ih : xG L xs l n) (hS : xS L xs p l e R s m args below meth c Q D dA A a0 b c0 s0 M r sh' rf' iv' lg' a H locs ls lv sh rf iv lg) {t len : Nat} {dflt lo hi : Int} {offs : Array Int} {sw : List (Int32 × Nat)} (hd : decode (xccf M) bp = .ok (.tableswitch dflt lo hi offs, len)) (ht : (bp : Int) + dflt = (xbp M t : Int)) (hhi : hi = lo + (offs.toList.length : Int) - 1) (hsw : xokSw M bp lo offs.toList sw = true)
    (h : xrun (xexec L xs n) M (xtab [t] sw lv st sh rf iv lg) = some (r, sh', rf', iv', lg')) : W p l e R s m args below meth c H locs (sh.length - c0) (xsz sh - s0) Q (F0 m bp ls (st.map (xtv a))) := by
  unfold xtab at h
  dsimp only at h
  split at h
  · rename_i x st
    have h : xsw x (fun t => xexec L xs n M t lv st (sh, rf, iv, lg)) t sw = some (r, sh', rf', iv', lg') := h
    obtain ⟨hlen, hrow⟩ := xokSw_spec hsw
    rcases xsw_inv sw h with ⟨j, q, h1, h2, h3⟩ | ⟨h1, h2⟩
    · obtain ⟨o, g1, g2, g3⟩ := hrow j q h1
      have hj : j < sw.length := (List.getElem?_eq_some_iff.mp h1).1
      rw [← h2] at g2
      exact lv_tableIn hS.1.1.1 hS.1.1.2.1 hd (by omega) (by omega) (by rw [show (x.toInt - lo).toNat = j by omega, ← Array.getElem?_toList]; exact g1) g3 (ih h3 hS)
    · refine lv_tableOut hS.1.1.1 hS.1.1.2.1 hd ?_ ht (ih h2 hS)
      by_cases z1 : x.toInt < lo
      · exact Or.inl z1
      · by_cases z2 : hi < x.toInt
        · exact Or.inr z2
        · exfalso
          have hj : (x.toInt - lo).toNat < sw.length := by omega
          have hq := List.getElem?_eq_getElem hj
          obtain ⟨o, g1, g2, g3⟩ := hrow _ _ hq
          refine h1 _ _ hq (Int32.toInt_inj.mp ?_)
          rw [g2]
          omega
  · cases h
theorem xi_obj (hok : xOK) (ih : xG L xs l n) (hS : xS L xs p l e R s m args below meth c Q D dA A a0 b c0 s0 M r sh' rf' iv' lg' a H locs ls lv sh rf iv lg) {q idx : Nat} (hn : xbp M nx = bp + 3) (hq : xlw q = some (.methodLink (xYf M).cls idx Lib.objectInit)) (hfr : 1 ≤ xfrf M) (hlo : 20 ≤ xlof M) (hd : decode (xccf M) bp = .ok (.invokespecial idx, 3))
    (h : xrun (xexec L xs n) M (xobj nx lv st sh rf iv lg) = some (r, sh', rf', iv', lg')) : W p l e R s m args below meth c H locs (sh.length - c0) (xsz sh - s0) Q (F0 m bp ls (st.map (xtv a))) := by
  unfold xobj at h
  split at h
  · rename_i k st
    obtain ⟨hcat, h9⟩ := xrun_guard h
    clear h; have h := h9; clear h9
    have hcat : xcat st ≤ 8 := Nat.le_of_ble_eq_true hcat
    have hts := hS.1.2.1
    have k1 := ih h hS
    rw [hn] at k1
    have hr := lv_room (m := m) (pc := bp) (ls := ls) (rest := List.map (xtv a) (Value.ref k :: st)) (st := st.map (xtv a)) (by rw [xcat_sum]; exact hcat)
    refine W.objInit hS.1.1.1 hS.1.1.2.1 hS.1.1.2.2.2.1 (hts _ (xTs_of hq rfl)) (hts _ hok.2.2.2.2.2.1.1) (hts _ hok.2.2.2.2.2.1.2) rfl (hS.2.2.2.2.1.1.trans hS.1.1.2.2.1.symm) rfl hd (Nat.le_trans hfr hS.1.2.2.1.1) ?_ k1
    have := hS.1.2.2.1.2
    omega
  · cases h
theorem xroom0 (hS : xS L xs p l e R s m args below meth c Q D dA A a0 b c0 s0 M r sh' rf' iv' lg' a H locs ls lv sh rf iv lg) {pc : Nat} {lv2 : xLv} {st2 : List Value} {rf2 : xRf} {iv2 : xIv} {lg2 : xLg} (h : xexec L xs n M pc lv2 st2 (sh, rf2, iv2, lg2) = some (r, sh', rf', iv', lg')) : sh.length - c0 ≤ R.cells ∧ xsz sh - s0 ≤ R.slots := by
  have hg := xexec_gr _ _ _ _ _ _ _ h
  have h1 : sh.length ≤ sh'.length := hg.1
  have h2 : xsz sh ≤ xsz sh' := hg.2
  have := hS.2.1
  omega
theorem xi_max (hok : xOK) (ih : xG L xs l n) (hS : xS L xs p l e R s m args below meth c Q D dA A a0 b c0 s0 M r sh' rf' iv' lg' a H locs ls lv sh rf iv lg) {q idx : Nat} (hn : xbp M nx = bp + 3) (hq : xlw q = some (.methodLink (xYf M).cls idx Lib.Math.max.name)) (hfr : 1 ≤ xfrf M) (hlo : 21 ≤ xlof M) (hd : decode (xccf M) bp = .ok (.invokestatic idx, 3))
    (h : xrun (xexec L xs n) M (xmth imx nx lv st sh rf iv lg) = some (r, sh', rf', iv', lg')) : W p l e R s m args below meth c H locs (sh.length - c0) (xsz sh - s0) Q (F0 m bp ls (st.map (xtv a))) := by
  unfold xmth at h
  split at h
  · rename_i y x st
    obtain ⟨hcat, h9⟩ := xrun_guard h
    clear h; have h := h9; clear h9
    have hcat : xcat st ≤ 8 := Nat.le_of_ble_eq_true hcat
    have hts := hS.1.2.1
    have hrm := xroom0 hS h
    have k1 := ih h hS
    rw [hn] at k1
    refine va_mmax hS.1.1.1 hS.1.1.2.1 (hS.1.1.2.2.1.trans hS.2.2.2.2.1.1.symm) hS.1.1.2.2.2.1 (hts _ (xTs_of hq rfl)) (hts _ hok.2.2.2.1.2.1) (hts _ hok.2.2.2.1.2.2.2.2) (hts _ hok.2.2.2.1.1) (Nat.le_trans hfr hS.1.2.2.1.1) ?_ hrm.1 hrm.2 hd k1
    rw [xcat_sum]
    have := hS.1.2.2.1.2
    omega
  · cases h
theorem xi_min (hok : xOK) (ih : xG L xs l n) (hS : xS L xs p l e R s m args below meth c Q D dA A a0 b c0 s0 M r sh' rf' iv' lg' a H locs ls lv sh rf iv lg) {q idx : Nat} (hn : xbp M nx = bp + 3) (hq : xlw q = some (.methodLink (xYf M).cls idx Lib.Math.min.name)) (hfr : 1 ≤ xfrf M) (hlo : 21 ≤ xlof M) (hd : decode (xccf M) bp = .ok (.invokestatic idx, 3))
    (h : xrun (xexec L xs n) M (xmth imn nx lv st sh rf iv lg) = some (r, sh', rf', iv', lg')) : W p l e R s m args below meth c H locs (sh.length - c0) (xsz sh - s0) Q (F0 m bp ls (st.map (xtv a))) := by
  unfold xmth at h
  split at h
  · rename_i y x st
    obtain ⟨hcat, h9⟩ := xrun_guard h
    clear h; have h := h9; clear h9
    have hcat : xcat st ≤ 8 := Nat.le_of_ble_eq_true hcat
    have hts := hS.1.2.1
    have hrm := xroom0 hS h
    have k1 := ih h hS
    rw [hn] at k1
    refine va_mmin hS.1.1.1 hS.1.1.2.1 (hS.1.1.2.2.1.trans hS.2.2.2.2.1.1.symm) hS.1.1.2.2.2.1 (hts _ (xTs_of hq rfl)) (hts _ hok.2.2.2.1.2.2.2.1) (hts _ hok.2.2.2.1.2.2.2.2) (hts _ hok.2.2.2.1.2.2.1) (Nat.le_trans hfr hS.1.2.2.1.1) ?_ hrm.1 hrm.2 hd k1
    rw [xcat_sum]
    have := hS.1.2.2.1.2
    omega
  · cases h
set_option maxHeartbeats 2000000 in
theorem xi_mna (hok : xOK) (ih : xG L xs l n) (hS : xS L xs p l e R s m args below meth c Q D dA A a0 b c0 s0 M r sh' rf' iv' lg' a H locs ls lv sh rf iv lg) {q idx : Nat} (hn : xbp M nx = bp + 4) (hd : decode (xccf M) bp = .ok (.multianewarray idx 2, 4)) (hq : xlw q = some (.classLink (xYf M).cls idx "[[I"))
    (h : xrun (xexec L xs n) M (xmna nx lv st sh rf iv lg) = some (r, sh', rf', iv', lg')) : W p l e R s m args below meth c H locs (sh.length - c0) (xsz sh - s0) Q (F0 m bp ls (st.map (xtv a))) := by
  unfold xmna at h
  split at h
  · rename_i K N st
    obtain ⟨hA, h9⟩ := xrun_guard h
    clear h; have h := h9; clear h9
    obtain ⟨hc, h9⟩ := xrun_C h
    clear h; have h := h9; clear h9
    obtain ⟨h4, hk0, hk1⟩ := hc
    subst h4
    obtain ⟨h900, hL, hSt, hR⟩ := xokA_spec hA
    have hts := hS.1.2.1
    generalize hl5 : ([(3, 4), (0, K.toNatClampNeg), (0, K.toNatClampNeg), (0, K.toNatClampNeg), (0, K.toNatClampNeg)] : xSh) = l5 at h
    generalize hr5 : ([[some (sh.length + 1), some (sh.length + 2), some (sh.length + 3), some (sh.length + 4)], [], [], [], []] : xRf) = r5 at h
    have hg := xexec_gr _ _ _ _ _ _ _ h
    have hg1 : (sh ++ l5).length ≤ sh'.length := hg.1
    have hg2 : xsz (sh ++ l5) ≤ xsz sh' := hg.2
    have hl5l : l5.length = 5 := by rw [← hl5]; rfl
    have hl5z : xsz l5 = 4 + 4 * K.toNatClampNeg := by rw [← hl5]; show 4 + (K.toNatClampNeg + (K.toNatClampNeg + (K.toNatClampNeg + (K.toNatClampNeg + 0)))) = _; omega
    rw [List.length_append, hl5l] at hg1
    rw [xsz_app, hl5z] at hg2
    have hS21 := hS.2.1
    have h44 : (4 : Int32).toNatClampNeg = 4 := by decide
    intro T hT Xs
    obtain ⟨vm₁, cA, comp, -, fA, fC, -, -, X', step⟩ := Xs.multianewarray2F (ty := .int) hS.1.1.1 hS.1.1.2.2.2.1 (hts _ (xTs_of hq rfl)) (hts _ hok.2.2.2.2.2.2.2.2.2.2) (hts _ hok.2.2.2.2.2.2.1) (g := F0 m bp ls (.int K :: .int 4 :: st.map (xtv a))) rfl (by rw [hS.1.1.2.1]; exact hd) rfl (by decide) hk0 (by rw [h44]; decide) (Nat.le_trans (Nat.mul_le_mul_right _ hk1) (by decide)) (Nat.le_trans hk1 (by decide)) rfl rfl (by rw [h44]; omega) (by rw [h44]; omega)
    rw [h44] at X' step
    have eA : cA = dA 3 := Option.some.inj (fA.symm.trans (hS.1.2.2.2.1.2 3 (dA 3, .array .int) rfl).2)
    have eC : comp = dA 0 := Option.some.inj (fC.symm.trans (hS.1.2.2.2.1.2 0 (dA 0, .int) rfl).2)
    subst eA
    subst eC
    generalize hF : Jvm.Free.Multi.fill (T.setVm vm₁) (dA 3) (dA 0) 4 K.toNatClampNeg (defaultValue .int) 4 = F at X' step
    have hTh : (T.setVm vm₁).heap = H := hT
    obtain ⟨f1, f2, -, -⟩ := Jvm.Free.Multi.fill_facts (T.setVm vm₁) (dA 3) (dA 0) 4 K.toNatClampNeg (defaultValue .int) 4
    rw [hF, hTh] at f1 f2
    have hold : ∀ x : Nat, x < H.size → F.heap[x]? = H[x]? := fun x hx => by
      have := Jvm.Free.Multi.fill_old (T.setVm vm₁) (dA 3) (dA 0) 4 K.toNatClampNeg (defaultValue .int) (a := x) (by rw [hTh]; exact hx) 4
      rw [hF, hTh] at this
      exact this
    have hrow : ∀ j : Nat, j < 4 → F.heap[H.size + 1 + j]? = some (vp_cell (dA 0) (K.toNatClampNeg, .inl (fun _ => 0))) := fun j hj => by
      have := Jvm.Free.Multi.fill_inner (T.setVm vm₁) (dA 3) (dA 0) 4 K.toNatClampNeg (defaultValue .int) 4 j hj
      rw [hF, hTh] at this
      rw [this, vp_cell_i]
      show some ({ cls := dA 0, slots := Array.replicate K.toNatClampNeg (.int 0), vm := .none } : Cell) = _
      rw [arrV_new]
    rw [xouter] at f2
    -- the new addresses
    generalize ha2 : (fun k : Nat => if sh.length ≤ k ∧ k ≤ sh.length + 4 then H.size + (k - sh.length) else a k) = a2
    have ha : ∀ k, k < sh.length ∨ k = 1000 → a2 k = a k := fun k hk => by rw [← ha2]; exact if_neg (by omega)
    have hnew : ∀ i, i ≤ 4 → a2 (sh.length + i) = H.size + i := fun i hi => by
      rw [← ha2]
      show (if sh.length ≤ sh.length + i ∧ sh.length + i ≤ sh.length + 4 then H.size + (sh.length + i - sh.length) else a (sh.length + i)) = _
      rw [if_pos (by omega)]
      omega
    have hrl := hS.2.2.2.1.1
    have e1 := xws_app (dA := dA) (a := a) (a' := a2) (l := l5) (lr := r5) (iv := iv) (lg := lg) (iv' := xzr iv sh.length 0) (lg' := xzr lg sh.length 0) hrl hR (fun k hk => ha k (Or.inl hk)) (fun k hk => ⟨xzr_lt hk, xzr_lt hk⟩)
    rw [hl5l] at e1
    have hrf0 : ∀ j, (xrfo (rf ++ r5) sh.length j).map a2 = if j < 4 then some (H.size + 1 + j) else none := fun j => by
      have e2 : xrfo (rf ++ r5) sh.length j = xrfo r5 0 j := by
        unfold xrfo
        rw [← hrl, List.getElem?_append_right (Nat.le_refl _), Nat.sub_self]
      rw [e2, ← hr5]
      match j with
      | 0 => show some (a2 (sh.length + 1)) = _; rw [hnew 1 (by decide)]; rfl
      | 1 => show some (a2 (sh.length + 2)) = _; rw [hnew 2 (by decide)]; rfl
      | 2 => show some (a2 (sh.length + 3)) = _; rw [hnew 3 (by decide)]; rfl
      | 3 => show some (a2 (sh.length + 4)) = _; rw [hnew 4 (by decide)]; rfl
      | j + 4 => rw [if_neg (by omega)]; rfl
    have hcell : ∀ (i : Nat) (x : Nat × va_E), ((List.range 5).map (fun i => (a2 (sh.length + i), xcell dA a2 (rf ++ r5) (xzr iv sh.length 0) (xzr lg sh.length 0) (sh.length + i) (l5.getD i (0, 0)))))[i]? = some x → i < 5 ∧ x.1 = H.size + i ∧ va_at D xCl x F.heap := by
      intro i x hx
      have hi : i < 5 := by
        have := (List.getElem?_eq_some_iff.mp hx).1
        rw [List.length_map, List.length_range] at this
        exact this
      rw [List.getElem?_map, List.getElem?_range hi] at hx
      have hx : (a2 (sh.length + i), xcell dA a2 (rf ++ r5) (xzr iv sh.length 0) (xzr lg sh.length 0) (sh.length + i) (l5.getD i (0, 0))) = x := Option.some.inj hx
      subst hx
      refine ⟨hi, hnew i (by omega), ?_⟩
      have hin : ∀ i, 0 < i → i < 5 → l5.getD i (0, 0) = (0, K.toNatClampNeg) := fun i h0 h1 => by
        rw [← hl5]
        match i, h0, h1 with
        | 1, _, _ => rfl
        | 2, _, _ => rfl
        | 3, _, _ => rfl
        | 4, _, _ => rfl
      by_cases h0 : i = 0
      · subst h0
        have g0 : l5.getD 0 (0, 0) = (3, 4) := by rw [← hl5]; rfl
        rw [g0]
        show F.heap[a2 (sh.length + 0)]? = some (vp_cell (dA 3) (4, .inr (.inr (.inr (.inr (fun j => (xrfo (rf ++ r5) (sh.length + 0) j).map a2))))))
        rw [hnew 0 (by decide), Nat.add_zero, Nat.add_zero, vp_cell_q, f2]
        congr 2
        funext j
        rw [hrf0 j]
      · rw [hin i (by omega) hi]
        show F.heap[a2 (sh.length + i)]? = some (vp_cell (dA 0) (K.toNatClampNeg, .inl (xzr iv sh.length 0 (sh.length + i))))
        rw [hnew i (by omega), xzr_ge (Nat.le_add_right _ _), show H.size + i = H.size + 1 + (i - 1) by omega]
        exact hrow (i - 1) (by omega)
    have hP := hS.2.2.2.1.2.1
    have hD := hS.2.2.2.1.2.2.1
    have hs := hS.2.2.2.1.2.2.2
    have hP2 : va_P D xCl (xws dA a2 (sh ++ l5) (rf ++ r5) (xzr iv sh.length 0) (xzr lg sh.length 0)) F.heap := by
      rw [e1]
      exact (hP.kept (fun k x hx => hold x.1 (hP k x hx).lt)).app (fun i x hx => (hcell i x hx).2.2)
    have hD2 : va_D A (xws dA a2 (sh ++ l5) (rf ++ r5) (xzr iv sh.length 0) (xzr lg sh.length 0)) := by
      rw [e1]
      refine hD.app ⟨fun i j x y hi hj hxy => ?_, fun k x hx => hS.1.2.2.2.2.1 _ ?_⟩ (fun i j x y hx hy hxy => ?_)
      · have := (hcell i x hi).2.1
        have := (hcell j y hj).2.1
        omega
      · rw [(hcell k x hx).2.1]
        have := hs.1
        omega
      · have := (hP i x hx).lt
        have := (hcell j y hy).2.1
        omega
    have hs2 : va_S A s.heap F.heap locs := ⟨Nat.le_trans hs.1 (by rw [f1]; omega), fun x h1 h2 => (hold x (Nat.lt_of_lt_of_le h1 hs.1)).trans (hs.2.1 x h1 h2), hs.2.2⟩
    have k1 := ih h (hS.alloc (a2 := a2) hL ha (xle_app sh l5) (by rw [List.length_append, List.length_append, hrl, hl5l, ← hr5]; rfl) hP2 hD2 hs2)
    have c1 : (sh ++ l5).length - c0 = sh.length - c0 + 1 + 4 := by rw [List.length_append, hl5l]; omega
    have c2 : xsz (sh ++ l5) - s0 = xsz sh - s0 + 4 + 4 * K.toNatClampNeg := by rw [xsz_app, hl5z]; omega
    rw [c1, c2, hn, List.map_cons, xroS_spec ha hSt] at k1
    have e3 : xtv a2 (.ref sh.length) = .ref H.size := by
      show Value.ref (a2 sh.length) = _
      have := hnew 0 (by decide)
      rw [Nat.add_zero, Nat.add_zero] at this
      rw [this]
    rw [e3] at k1
    obtain ⟨t, a1, b1⟩ := k1 F rfl X'
    refine ⟨t, step t ?_, b1⟩
    have e4 : T.heap.size = H.size := by rw [hT]
    rw [e4]
    exact a1
  · cases h
end XM
