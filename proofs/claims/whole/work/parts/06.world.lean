-- ===== how the small machine's pictures stand in the heap =====
def xtv (a : Nat → Nat) (v : Value) : Value := match v with
  | .ref k => .ref (a k)
  | v => v
theorem xtv_cat (a : Nat → Nat) (v : Value) : (xtv a v).category = v.category := by cases v <;> rfl
def xkd (ci j : Nat) : Bool := match xKd[ci]? with
  | some l => (match l[j]? with
    | some b => b
    | none => false)
  | none => false
def xrfo (rf : xRf) (k j : Nat) : Option Nat := match rf[k]? with
  | some r => (match r[j]? with
    | some o => o
    | none => none)
  | none => none
def xfs (a : Nat → Nat) (rf : xRf) (iv : xIv) (k ci n : Nat) : List Value := (List.range n).map (fun j => if xkd ci j = true then va_rf ((xrfo rf k j).map a) else .int (iv k j))
def xcell (dA : Nat → ClassId) (a : Nat → Nat) (rf : xRf) (iv : xIv) (lg : xLg) (k : Nat) (q : Nat × Nat) : va_E := match q.1 with
  | 0 => .inl (dA 0, q.2, .inl (iv k))
  | 1 => .inl (dA 1, q.2, .inr (.inl (lg k)))
  | 2 => .inl (dA 2, q.2, .inl (iv k))
  | 3 => .inl (dA 3, q.2, .inr (.inr (.inr (.inr (fun j => (xrfo rf k j).map a)))))
  | 4 => .inl (dA 4, q.2, .inr (.inr (.inr (.inr (fun j => (xrfo rf k j).map a)))))
  | t => .inr (t - 10, xfs a rf iv k (t - 10) q.2)
def xws (dA : Nat → ClassId) (a : Nat → Nat) (sh : xSh) (rf : xRf) (iv : xIv) (lg : xLg) : va_W := (List.range sh.length).map (fun k => (a k, xcell dA a rf iv lg k (sh.getD k (0, 0))))
def xtys (dA : Nat → ClassId) : List (ClassId × FieldType) := [(dA 0, .int), (dA 1, .long), (dA 2, .char), (dA 3, .array .int), (dA 4, .object "StepRings$Sheet")]
def xsz (sh : xSh) : Nat := (sh.map (fun q => q.2)).sum
section XW
variable {dA : Nat → ClassId} {a a' : Nat → Nat} {sh : xSh} {rf rf' : xRf} {iv iv' : xIv} {lg lg' : xLg}
theorem xcell_obj (k ci n : Nat) : xcell dA a rf iv lg k (10 + ci, n) = .inr (ci, xfs a rf iv k ci n) := by
  unfold xcell
  dsimp only
  split
  · omega
  · omega
  · omega
  · omega
  · omega
  · rw [Nat.add_sub_cancel_left]
theorem xws_len : (xws dA a sh rf iv lg).length = sh.length := by simp [xws]
theorem xws_get {k : Nat} {q : Nat × Nat} (h : sh[k]? = some q) : (xws dA a sh rf iv lg)[k]? = some (a k, xcell dA a rf iv lg k q) := by
  have hk : k < sh.length := (List.getElem?_eq_some_iff.mp h).1
  unfold xws
  rw [List.getElem?_map, List.getElem?_range hk]
  simp [List.getD, h]
theorem xws_none {k : Nat} (h : sh.length ≤ k) : (xws dA a sh rf iv lg)[k]? = none := List.getElem?_eq_none (by rw [xws_len]; exact h)
theorem xcell_congr {k : Nat} {q : Nat × Nat} (h1 : iv' k = iv k) (h2 : lg' k = lg k) (h3 : ∀ j, (xrfo rf' k j).map a' = (xrfo rf k j).map a) : xcell dA a' rf' iv' lg' k q = xcell dA a rf iv lg k q := by
  have h4 : (fun j => (xrfo rf' k j).map a') = (fun j => (xrfo rf k j).map a) := funext h3
  have h5 : ∀ ci n, xfs a' rf' iv' k ci n = xfs a rf iv k ci n := fun ci n => by
    unfold xfs
    apply List.map_congr_left
    intro j _
    rw [h3 j, h1]
  unfold xcell
  rw [h1, h2, h4]
  split <;> first | rfl | rw [h5]
theorem xws_set {k : Nat} {q : Nat × Nat} {x : va_E} (hk : sh[k]? = some q) (h1 : xcell dA a rf' iv' lg' k q = x) (h2 : ∀ k' : Nat, k' ≠ k → iv' k' = iv k' ∧ lg' k' = lg k' ∧ ∀ j, xrfo rf' k' j = xrfo rf k' j) : (xws dA a sh rf iv lg).set k (a k, x) = xws dA a sh rf' iv' lg' := by
  have hkl : k < sh.length := (List.getElem?_eq_some_iff.mp hk).1
  apply List.ext_getElem?
  intro i
  by_cases hi : i < sh.length
  · obtain ⟨qi, hqi⟩ : ∃ qi, sh[i]? = some qi := ⟨_, List.getElem?_eq_getElem hi⟩
    by_cases he : k = i
    · subst he
      rw [List.getElem?_set_self (by rw [xws_len]; exact hkl), xws_get hk, h1]
    · have hc := h2 i (fun z => he z.symm)
      rw [List.getElem?_set_ne he, xws_get hqi, xws_get hqi, xcell_congr (a := a) (a' := a) (rf := rf) (rf' := rf') (iv := iv) (iv' := iv') (lg := lg) (lg' := lg') hc.1 hc.2.1 (fun j => by rw [hc.2.2 j])]
  · rw [xws_none (Nat.le_of_not_lt hi), List.getElem?_eq_none (by rw [List.length_set, xws_len]; exact Nat.le_of_not_lt hi)]
theorem xu2_ne {α : Type} {f : Nat → Nat → α} {k j k' : Nat} {x : α} (h : k' ≠ k) : xu2 f k j x k' = f k' := by
  unfold xu2
  funext b
  rw [if_neg h]
theorem xu2_row (f : Nat → Nat → Int32) (k j : Nat) (x : Int32) : xu2 f k j x k = upd (f k) j x := by
  unfold xu2 upd
  funext b
  rw [if_pos rfl]
theorem xu2_rowL (f : Nat → Nat → Int64) (k j : Nat) (x : Int64) : xu2 f k j x k = vp_updL (f k) j x := by
  unfold xu2 vp_updL
  funext b
  rw [if_pos rfl]
theorem xur_ne {α : Type} {f : Nat → Nat → α} {k k' : Nat} {x : Nat → α} (h : k' ≠ k) : xur f k x k' = f k' := by unfold xur; rw [if_neg h]
theorem xur_row {α : Type} {f : Nat → Nat → α} {k : Nat} {x : Nat → α} : xur f k x k = x := by unfold xur; rw [if_pos rfl]
theorem xzr_lt {α : Type} {f : Nat → Nat → α} {n k : Nat} {z : α} (h : k < n) : xzr f n z k = f k := by
  unfold xzr
  funext b
  rw [if_neg (Nat.not_le.mpr h)]
theorem xzr_ge {α : Type} {f : Nat → Nat → α} {n k : Nat} {z : α} (h : n ≤ k) : xzr f n z k = fun _ => z := by
  unfold xzr
  funext b
  rw [if_pos h]
theorem xnth_eq {α β : Type} : ∀ (l : List α) (i : Nat) (d : β) (f : α → β), xnth l i d f = (match l[i]? with
    | some x => f x
    | none => d)
  | [], _, _, _ => rfl
  | _ :: _, 0, _, _ => rfl
  | _ :: l, i + 1, d, f => by rw [List.getElem?_cons_succ]; exact xnth_eq l i d f
theorem xnth_inv {α β : Type} {l : List α} {i : Nat} {d : β} {f : α → β} {y : β} (h : xnth l i d f = y) (hd : d ≠ y) : ∃ x, l[i]? = some x ∧ f x = y := by
  rw [xnth_eq] at h
  cases hx : l[i]? with
  | none => rw [hx] at h; exact absurd h hd
  | some x => rw [hx] at h; exact ⟨x, rfl, h⟩
theorem xset_eq {β : Type} : ∀ (l : xLv) (i : Nat) (v : Option Value) (d : β) (f : xLv → β), xset l i v d f = if i < l.length then f (l.set i v) else d
  | [], _, _, _, _ => rfl
  | _ :: l, 0, _, _, _ => by rw [if_pos (by simp)]; rfl
  | o :: l, i + 1, v, d, f => by
    show xset l i v d (fun l' => f (o :: l')) = _
    rw [xset_eq l i v d]
    simp [List.set_cons_succ]
theorem xsnoc_eq {α β : Type} : ∀ (l : List α) (x : α) (f : List α → β), xsnoc l x f = f (l ++ [x])
  | [], _, _ => rfl
  | a :: l, x, f => xsnoc_eq l x (fun l' => f (a :: l'))
theorem xguard_inv {β : Type} {c : Bool} {d f y : β} (h : xguard c d f = y) (hd : d ≠ y) : c = true ∧ f = y := by
  cases c with
  | true => exact ⟨rfl, h⟩
  | false => exact absurd h hd
theorem xsetr_eq {β : Type} : ∀ (l : List (Option Nat)) (i : Nat) (v : Option Nat) (d : β) (f : List (Option Nat) → β), xsetr l i v d f = if i < l.length then f (l.set i v) else d
  | [], _, _, _, _ => rfl
  | _ :: l, 0, _, _, _ => by rw [if_pos (by simp)]; rfl
  | o :: l, i + 1, v, d, f => by
    show xsetr l i v d (fun l' => f (o :: l')) = _
    rw [xsetr_eq l i v d]
    simp [List.set_cons_succ]
theorem xsetrr_inv {β : Type} {v : Option Nat} {j : Nat} : ∀ (rf : xRf) (k : Nat) (d : β) (f : xRf → β) (y : β), xsetrr rf k j v d f = y → d ≠ y → ∃ rf' : xRf, f rf' = y ∧ rf'.length = rf.length ∧ ∀ k' j', xrfo rf' k' j' = if k' = k ∧ j' = j then v else xrfo rf k' j'
  | [], _, _, _, _, h, hd => absurd h hd
  | r :: l, 0, d, f, y, h, hd => by
    have h1 : xsetr r j v d (fun r' => f (r' :: l)) = y := h
    rw [xsetr_eq] at h1
    by_cases hj : j < r.length
    · rw [if_pos hj] at h1
      refine ⟨_, h1, rfl, fun k' j' => ?_⟩
      cases k' with
      | zero =>
        by_cases e : j' = j
        · subst e
          rw [if_pos ⟨rfl, rfl⟩]
          simp [xrfo, List.getElem?_set_self hj]
        · rw [if_neg (fun z => e z.2)]
          simp [xrfo, List.getElem?_set_ne (fun z : j = j' => e z.symm)]
      | succ k' =>
        rw [if_neg (fun z => by omega)]
        simp [xrfo]
    · rw [if_neg hj] at h1
      exact absurd h1 hd
  | o :: l, k + 1, d, f, y, h, hd => by
    obtain ⟨rf', h1, h2, h3⟩ := xsetrr_inv l k d (fun l' => f (o :: l')) y h hd
    refine ⟨o :: rf', h1, by simp [h2], fun k' j' => ?_⟩
    cases k' with
    | zero => rw [if_neg (fun z => by omega)]; simp [xrfo]
    | succ k' =>
      have e1 : ∀ (z : List (Option Nat)) (w : xRf), xrfo (z :: w) (k' + 1) j' = xrfo w k' j' := fun z w => by simp [xrfo]
      rw [e1, e1, h3 k' j']
      by_cases hk : k' = k ∧ j' = j
      · rw [if_pos hk, if_pos ⟨by omega, hk.2⟩]
      · rw [if_neg hk, if_neg (fun z => hk ⟨by omega, z.2⟩)]
theorem xfs_get {k ci n j : Nat} (h : j < n) : (xfs a rf iv k ci n)[j]? = some (if xkd ci j = true then va_rf ((xrfo rf k j).map a) else .int (iv k j)) := by
  unfold xfs
  rw [List.getElem?_map, List.getElem?_range h]
  rfl
theorem xfs_len (k ci n : Nat) : (xfs a rf iv k ci n).length = n := by simp [xfs]
theorem xfs_setI {k ci n j : Nat} {x : Int32} (hk : xkd ci j = false) : (xfs a rf iv k ci n).set j (.int x) = xfs a rf (xu2 iv k j x) k ci n := by
  apply List.ext_getElem?
  intro i
  by_cases hi : i < n
  · by_cases e : j = i
    · subst e
      rw [List.getElem?_set_self (by rw [xfs_len]; exact hi), xfs_get hi]
      simp [hk, xu2]
    · rw [List.getElem?_set_ne e, xfs_get hi, xfs_get hi]
      have e2 : xu2 iv k j x k i = iv k i := by
        unfold xu2
        rw [if_pos rfl, if_neg (fun z : i = j => e z.symm)]
      rw [e2]
  · rw [List.getElem?_eq_none (by rw [List.length_set, xfs_len]; omega), List.getElem?_eq_none (by rw [xfs_len]; omega)]
theorem xfs_setR {k ci n j z : Nat} (hk : xkd ci j = true) (hr : ∀ j', xrfo rf' k j' = if j' = j then some z else xrfo rf k j') : (xfs a rf iv k ci n).set j (.ref (a z)) = xfs a rf' iv k ci n := by
  apply List.ext_getElem?
  intro i
  by_cases hi : i < n
  · by_cases e : j = i
    · subst e
      rw [List.getElem?_set_self (by rw [xfs_len]; exact hi), xfs_get hi, hr j]
      simp [hk, va_rf]
    · rw [List.getElem?_set_ne e, xfs_get hi, xfs_get hi, hr i, if_neg (fun w : i = j => e w.symm)]
  · rw [List.getElem?_eq_none (by rw [List.length_set, xfs_len]; omega), List.getElem?_eq_none (by rw [xfs_len]; omega)]
theorem xroN_spec {n : Nat} : ∀ {l : List (Option Nat)}, xroN n l = true → ∀ (j k : Nat), l[j]? = some (some k) → k < n
  | [], _, j, k, h => by simp at h
  | none :: l, h, 0, k, h2 => by simp at h2
  | none :: l, h, j + 1, k, h2 => xroN_spec (l := l) h j k (by simpa using h2)
  | some x :: l, h, j, k, h2 => by
    have h3 : (Nat.blt x n && xroN n l) = true := h
    rw [Bool.and_eq_true] at h3
    cases j with
    | zero =>
      have : x = k := by simpa using h2
      subst this
      exact Nat.le_of_ble_eq_true h3.1
    | succ j => exact xroN_spec (l := l) h3.2 j k (by simpa using h2)
theorem xroR_spec {n : Nat} : ∀ {rf : xRf}, xroR n rf = true → ∀ (k j z : Nat), xrfo rf k j = some z → z < n
  | [], _, k, j, z, h => by simp [xrfo] at h
  | r :: l, h, k, j, z, h2 => by
    have h3 : (xroN n r && xroR n l) = true := h
    rw [Bool.and_eq_true] at h3
    cases k with
    | zero =>
      have h4 : (match r[j]? with
        | some o => o
        | none => none) = some z := h2
      cases hr : r[j]? with
      | none => rw [hr] at h4; cases h4
      | some o =>
        rw [hr] at h4
        have h5 : o = some z := h4
        subst h5
        exact xroN_spec h3.1 j z hr
    | succ k => exact xroR_spec (rf := l) h3.2 k j z (by simpa [xrfo] using h2)
theorem xrfo_none {k j : Nat} (h : rf.length ≤ k) : xrfo rf k j = none := by
  unfold xrfo
  rw [List.getElem?_eq_none h]
theorem xrfo_app {k j : Nat} {l : xRf} (h : k < rf.length) : xrfo (rf ++ l) k j = xrfo rf k j := by
  unfold xrfo
  rw [List.getElem?_append_left h]
/-- more cells: what stood there stands as it did -/
theorem xws_app {l : xSh} {lr : xRf} (hl : rf.length = sh.length) (hr : xroR sh.length rf = true) (ha : ∀ k, k < sh.length → a' k = a k) (h1 : ∀ k, k < sh.length → iv' k = iv k ∧ lg' k = lg k) :
    xws dA a' (sh ++ l) (rf ++ lr) iv' lg' = xws dA a sh rf iv lg ++ (List.range l.length).map (fun i => (a' (sh.length + i), xcell dA a' (rf ++ lr) iv' lg' (sh.length + i) (l.getD i (0, 0)))) := by
  apply List.ext_getElem?
  intro i
  by_cases hi : i < sh.length
  · obtain ⟨qi, hqi⟩ : ∃ qi, sh[i]? = some qi := ⟨_, List.getElem?_eq_getElem hi⟩
    have hqi2 : (sh ++ l)[i]? = some qi := by rw [List.getElem?_append_left hi]; exact hqi
    rw [xws_get hqi2, List.getElem?_append_left (by rw [xws_len]; exact hi), xws_get hqi, ha i hi]
    rw [xcell_congr (h1 i hi).1 (h1 i hi).2 (fun j => ?_)]
    rw [xrfo_app (by rw [hl]; exact hi)]
    cases hz : xrfo rf i j with
    | none => rfl
    | some z => simp [ha z (xroR_spec hr i j z hz)]
  · by_cases hi2 : i < sh.length + l.length
    · obtain ⟨d, rfl⟩ : ∃ d, i = sh.length + d := ⟨i - sh.length, by omega⟩
      obtain ⟨qi, hqi⟩ : ∃ qi, l[d]? = some qi := ⟨_, List.getElem?_eq_getElem (by omega)⟩
      have hqi2 : (sh ++ l)[sh.length + d]? = some qi := by rw [List.getElem?_append_right (by omega)]; simpa using hqi
      rw [xws_get hqi2, List.getElem?_append_right (by rw [xws_len]; omega), xws_len, List.getElem?_map, Nat.add_sub_cancel_left, List.getElem?_range (by omega)]
      simp [List.getD, hqi]
    · rw [xws_none (by rw [List.length_append]; omega), List.getElem?_eq_none (by rw [List.length_append, xws_len, List.length_map, List.length_range]; omega)]
end XW
-- locals
def xal (a : Nat → Nat) : Nat → xLv → List (Nat × Value)
  | _, [] => []
  | i, none :: l => xal a (i + 1) l
  | i, some v :: l => (i, xtv a v) :: xal a (i + 1) l
theorem xal_mem {a : Nat → Nat} {q : Nat × Value} : ∀ (lv : xLv) (i : Nat), q ∈ xal a i lv → ∃ j v, lv[j]? = some (some v) ∧ q = (i + j, xtv a v)
  | [], _, h => by simp [xal] at h
  | none :: l, i, h => by
    obtain ⟨j, v, h1, h2⟩ := xal_mem l (i + 1) h
    exact ⟨j + 1, v, by simpa using h1, by rw [h2]; congr 1; omega⟩
  | some w :: l, i, h => by
    rcases List.mem_cons.mp h with h | h
    · exact ⟨0, w, rfl, by rw [h]; rfl⟩
    · obtain ⟨j, v, h1, h2⟩ := xal_mem l (i + 1) h
      exact ⟨j + 1, v, by simpa using h1, by rw [h2]; congr 1; omega⟩
theorem xal_in {a : Nat → Nat} {v : Value} : ∀ (lv : xLv) (i j : Nat), lv[j]? = some (some v) → (i + j, xtv a v) ∈ xal a i lv
  | [], _, _, h => by simp at h
  | none :: l, i, 0, h => by simp at h
  | none :: l, i, j + 1, h => by
    have := xal_in (a := a) l (i + 1) j (by simpa using h)
    rw [show i + (j + 1) = i + 1 + j by omega]
    exact this
  | some w :: l, i, 0, h => by
    have e : w = v := by simpa using h
    subst e
    exact List.mem_cons_self
  | some w :: l, i, j + 1, h => by
    have := xal_in (a := a) l (i + 1) j (by simpa using h)
    rw [show i + (j + 1) = i + 1 + j by omega]
    exact List.mem_cons_of_mem _ this
theorem xal_at {a : Nat → Nat} {ls : Array Slot} {nL : Nat} {lv : xLv} (h : lv_has ls nL (xal a 0 lv)) {i : Nat} {v : Value} (hi : lv[i]? = some (some v)) : ls[i]? = some (.val (xtv a v)) := by
  have := h.2.2 _ (xal_in (a := a) lv 0 i hi)
  simpa using this
theorem xal_move {a a' : Nat → Nat} {ls : Array Slot} {nL : Nat} {lv : xLv} (h : lv_has ls nL (xal a 0 lv)) (ha : ∀ (i : Nat) (v : Value), lv[i]? = some (some v) → xtv a' v = xtv a v) : lv_has ls nL (xal a' 0 lv) := by
  refine ⟨h.1, h.2.1, fun q hq => ?_⟩
  obtain ⟨j, v, h1, h2⟩ := xal_mem lv 0 hq
  rw [h2, Nat.zero_add, ha j v h1]
  exact xal_at h h1
theorem xsto_inv {β : Type} {lv : xLv} {i : Nat} {v : Value} {d : β} {f : xLv → β} {y : β} (h : xsto lv i v d f = y) (hd : d ≠ y) : i < lv.length ∧ f (lv.set i (some v)) = y ∧ ∀ j w, j + 1 = i → lv[j]? = some (some w) → ¬ w.category = 2 := by
  unfold xsto at h
  split at h
  · rw [xset_eq] at h
    by_cases hi : 0 < lv.length
    · rw [if_pos hi] at h
      exact ⟨hi, h, fun j w hj _ => by omega⟩
    · rw [if_neg hi] at h; exact absurd h hd
  · rename_i j
    obtain ⟨o, ho, h2⟩ := xnth_inv h hd
    have key : ∀ w, o = some w → w.category = 2 → d = y := by
      intro w hw hc
      subst hw
      cases w <;> first | exact h2 | cases hc
    have h3 : xset lv (j + 1) (some v) d f = y := by
      split at h2
      · exact absurd h2 hd
      · exact absurd h2 hd
      · exact h2
    rw [xset_eq] at h3
    by_cases hi : j + 1 < lv.length
    · rw [if_pos hi] at h3
      refine ⟨hi, h3, fun j' w hj hw hc => ?_⟩
      have e : j' = j := by omega
      subst e
      rw [ho] at hw
      exact hd (key w (Option.some.inj hw) hc)
    · rw [if_neg hi] at h3; exact absurd h3 hd
theorem xal_set1 {a : Nat → Nat} {ls : Array Slot} {nL : Nat} {lv : xLv} {i : Nat} {v : Value} (hk : ∀ j w, j + 1 = i → lv[j]? = some (some w) → ¬ w.category = 2) (h : lv_has ls nL ((i, xtv a v) :: (xal a 0 lv).filter (fun q => !(q.1 == i) && !(q.1 + 1 == i && q.2.category == 2)))) : lv_has ls nL (xal a 0 (lv.set i (some v))) := by
  refine ⟨h.1, h.2.1, fun q hq => ?_⟩
  obtain ⟨j, w, h1, h2⟩ := xal_mem _ 0 hq
  rw [Nat.zero_add] at h2
  subst h2
  by_cases e : i = j
  · subst e
    have hlt : i < (lv.set i (some v)).length := (List.getElem?_eq_some_iff.mp h1).1
    rw [List.length_set] at hlt
    rw [List.getElem?_set_self hlt] at h1
    have e2 : v = w := by simpa using h1
    subst e2
    exact h.2.2 _ List.mem_cons_self
  · rw [List.getElem?_set_ne e] at h1
    refine h.2.2 _ (List.mem_cons_of_mem _ (List.mem_filter.mpr ⟨by simpa using xal_in (a := a) lv 0 j h1, ?_⟩))
    simp only [Bool.and_eq_true, Bool.not_eq_true', beq_eq_false_iff_ne, ne_eq, Bool.and_eq_false_iff]
    refine ⟨fun z => e z.symm, ?_⟩
    by_cases hj : j + 1 = i
    · right; rw [xtv_cat]; exact hk j w hj h1
    · left; exact hj
theorem xal_set2 {a : Nat → Nat} {ls : Array Slot} {nL : Nat} {lv : xLv} {i : Nat} {v : Value} (hk : ∀ j w, j + 1 = i → lv[j]? = some (some w) → ¬ w.category = 2) (h : lv_has ls nL ((i, xtv a v) :: (xal a 0 lv).filter (fun q => !(q.1 == i) && (!(q.1 == i + 1) && !(q.1 + 1 == i && q.2.category == 2))))) : lv_has ls nL (xal a 0 ((lv.set i (some v)).set (i + 1) none)) := by
  refine ⟨h.1, h.2.1, fun q hq => ?_⟩
  obtain ⟨j, w, h1, h2⟩ := xal_mem _ 0 hq
  rw [Nat.zero_add] at h2
  subst h2
  by_cases e1 : i + 1 = j
  · subst e1
    have hlt : i + 1 < ((lv.set i (some v)).set (i + 1) none).length := (List.getElem?_eq_some_iff.mp h1).1
    rw [List.length_set] at hlt
    rw [List.getElem?_set_self hlt] at h1
    cases h1
  · rw [List.getElem?_set_ne e1] at h1
    by_cases e : i = j
    · subst e
      have hlt : i < (lv.set i (some v)).length := (List.getElem?_eq_some_iff.mp h1).1
      rw [List.length_set] at hlt
      rw [List.getElem?_set_self hlt] at h1
      have e2 : v = w := by simpa using h1
      subst e2
      exact h.2.2 _ List.mem_cons_self
    · rw [List.getElem?_set_ne e] at h1
      refine h.2.2 _ (List.mem_cons_of_mem _ (List.mem_filter.mpr ⟨by simpa using xal_in (a := a) lv 0 j h1, ?_⟩))
      simp only [Bool.and_eq_true, Bool.not_eq_true', beq_eq_false_iff_ne, ne_eq, Bool.and_eq_false_iff]
      refine ⟨fun z => e z.symm, fun z => e1 z.symm, ?_⟩
      by_cases hj : j + 1 = i
      · right; rw [xtv_cat]; exact hk j w hj h1
      · left; exact hj
theorem xent_args {a : Nat → Nat} {q : Nat × Value} : ∀ (n : Nat) (as : List Value) (i : Nat), q ∈ xal a i (xent n as) → q ∈ lv_args i (as.map (xtv a))
  | 0, _, _, h => by simp [xent, xal] at h
  | n + 1, [], i, h => by
    have h2 : q ∈ xal a (i + 1) (xent n []) := h
    have := xent_args n [] (i + 1) h2
    simp [lv_args] at this
  | 0 + 1, .long x :: l, i, h => by
    have h2 : q ∈ [(i, xtv a (.long x))] := h
    have h3 : q = (i, xtv a (.long x)) := by simpa using h2
    rw [h3]
    exact List.mem_cons_self
  | (n + 1) + 1, .long x :: l, i, h => by
    have h2 : q ∈ (i, xtv a (.long x)) :: xal a (i + 1 + 1) (xent n l) := h
    rcases List.mem_cons.mp h2 with h3 | h3
    · rw [h3]; exact List.mem_cons_self
    · exact List.mem_cons_of_mem _ (xent_args n l (i + 2) h3)
  | 0 + 1, .double x :: l, i, h => by
    have h2 : q ∈ [(i, xtv a (.double x))] := h
    have h3 : q = (i, xtv a (.double x)) := by simpa using h2
    rw [h3]
    exact List.mem_cons_self
  | (n + 1) + 1, .double x :: l, i, h => by
    have h2 : q ∈ (i, xtv a (.double x)) :: xal a (i + 1 + 1) (xent n l) := h
    rcases List.mem_cons.mp h2 with h3 | h3
    · rw [h3]; exact List.mem_cons_self
    · exact List.mem_cons_of_mem _ (xent_args n l (i + 2) h3)
  | n + 1, .int x :: l, i, h => by
    have h2 : q ∈ (i, xtv a (.int x)) :: xal a (i + 1) (xent n l) := h
    rcases List.mem_cons.mp h2 with h3 | h3
    · rw [h3]; exact List.mem_cons_self
    · exact List.mem_cons_of_mem _ (xent_args n l (i + 1) h3)
  | n + 1, .float x :: l, i, h => by
    have h2 : q ∈ (i, xtv a (.float x)) :: xal a (i + 1) (xent n l) := h
    rcases List.mem_cons.mp h2 with h3 | h3
    · rw [h3]; exact List.mem_cons_self
    · exact List.mem_cons_of_mem _ (xent_args n l (i + 1) h3)
  | n + 1, .ref x :: l, i, h => by
    have h2 : q ∈ (i, xtv a (.ref x)) :: xal a (i + 1) (xent n l) := h
    rcases List.mem_cons.mp h2 with h3 | h3
    · rw [h3]; exact List.mem_cons_self
    · exact List.mem_cons_of_mem _ (xent_args n l (i + 1) h3)
  | n + 1, .null :: l, i, h => by
    have h2 : q ∈ (i, xtv a .null) :: xal a (i + 1) (xent n l) := h
    rcases List.mem_cons.mp h2 with h3 | h3
    · rw [h3]; exact List.mem_cons_self
    · exact List.mem_cons_of_mem _ (xent_args n l (i + 1) h3)
  | n + 1, .retAddr x :: l, i, h => by
    have h2 : q ∈ (i, xtv a (.retAddr x)) :: xal a (i + 1) (xent n l) := h
    rcases List.mem_cons.mp h2 with h3 | h3
    · rw [h3]; exact List.mem_cons_self
    · exact List.mem_cons_of_mem _ (xent_args n l (i + 1) h3)
-- references that are there
theorem xro1_spec {n : Nat} {v : Value} (h : xro1 n v = true) {a a' : Nat → Nat} (ha : ∀ k, k < n ∨ k = 1000 → a' k = a k) : xtv a' v = xtv a v := by
  cases v <;> try rfl
  rename_i k
  have h2 : (Nat.blt k n || Nat.beq k 1000) = true := h
  rw [Bool.or_eq_true] at h2
  have : a' k = a k := ha k (h2.elim (fun z => Or.inl (Nat.le_of_ble_eq_true z)) (fun z => Or.inr (Nat.eq_of_beq_eq_true z)))
  show Value.ref (a' k) = Value.ref (a k)
  rw [this]
theorem xroS_spec {n : Nat} {a a' : Nat → Nat} (ha : ∀ k, k < n ∨ k = 1000 → a' k = a k) : ∀ {l : List Value}, xroS n l = true → l.map (xtv a') = l.map (xtv a)
  | [], _ => rfl
  | v :: l, h => by
    have h2 : (xro1 n v && xroS n l) = true := h
    rw [Bool.and_eq_true] at h2
    rw [List.map_cons, List.map_cons, xro1_spec h2.1 ha, xroS_spec ha h2.2]
theorem xroL_spec {n : Nat} {a a' : Nat → Nat} (ha : ∀ k, k < n ∨ k = 1000 → a' k = a k) : ∀ {l : xLv}, xroL n l = true → ∀ (i : Nat) (v : Value), l[i]? = some (some v) → xtv a' v = xtv a v
  | [], _, i, v, h => by simp at h
  | none :: l, h, 0, v, h2 => by simp at h2
  | none :: l, h, i + 1, v, h2 => xroL_spec ha (l := l) h i v (by simpa using h2)
  | some w :: l, h, i, v, h2 => by
    have h3 : (xro1 n w && xroL n l) = true := h
    rw [Bool.and_eq_true] at h3
    cases i with
    | zero =>
      have e : w = v := by simpa using h2
      subst e
      exact xro1_spec h3.1 ha
    | succ i => exact xroL_spec ha (l := l) h3.2 i v (by simpa using h2)
theorem xcat_sum (a : Nat → Nat) : ∀ l : List Value, ((l.map (xtv a)).map fun v => v.category).sum = xcat l
  | [] => rfl
  | v :: l => by
    have ih := xcat_sum a l
    rw [List.map_cons, List.map_cons, List.sum_cons, ih, xtv_cat]
    cases v <;> rfl
theorem xtake_inv {β : Type} : ∀ (n : Nat) (st acc : List Value) (d : β) (f : List Value → List Value → β) (y : β), xtake n st acc d f = y → d ≠ y → ∃ as st', st = as.reverse ++ st' ∧ as.length = n ∧ f (as ++ acc) st' = y
  | 0, st, acc, _, _, _, h, _ => ⟨[], st, rfl, rfl, h⟩
  | n + 1, [], _, _, _, _, h, hd => absurd h hd
  | n + 1, v :: st, acc, d, f, y, h, hd => by
    obtain ⟨as, st', h1, h2, h3⟩ := xtake_inv n st (v :: acc) d f y h hd
    refine ⟨as ++ [v], st', ?_, by simp [h2], ?_⟩
    · rw [List.reverse_append, h1]; rfl
    · rw [List.append_assoc]; exact h3
theorem xsz_app (a b : xSh) : xsz (a ++ b) = xsz a + xsz b := by simp [xsz]
