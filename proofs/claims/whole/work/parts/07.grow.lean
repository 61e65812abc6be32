-- ===== cells only come =====
def xle (sh sh2 : xSh) : Prop := sh.length ≤ sh2.length ∧ xsz sh ≤ xsz sh2
theorem xle_rfl {sh : xSh} : xle sh sh := ⟨Nat.le_refl _, Nat.le_refl _⟩
theorem xle_trans {a b c : xSh} (h : xle a b) (h2 : xle b c) : xle a c := ⟨Nat.le_trans h.1 h2.1, Nat.le_trans h.2 h2.2⟩
theorem xle_app (a b : xSh) : xle a (a ++ b) := ⟨by rw [List.length_append]; omega, by rw [xsz_app]; omega⟩
def xgr (sh : xSh) (R : xR) : Prop := match R with
  | none => True
  | some (.inl q) => xle sh q.2.2.2.1
  | some (.inr (.inl q)) => xle sh q.2.2.2.2.2.1
  | some (.inr (.inr (.inl q))) => xle sh q.2.2.2.2.1
  | some (.inr (.inr (.inr (.inl q)))) => xle sh q.2.2.2.2.2.1
  | some (.inr (.inr (.inr (.inr (.inl q))))) => xle sh q.2.1
  | some (.inr (.inr (.inr (.inr (.inr (.inl q)))))) => xle sh q.2.2.2.2.2.1
  | some (.inr (.inr (.inr (.inr (.inr (.inr q)))))) => xle sh q.2.2.1
section XGR
variable {sh : xSh}
theorem g_nth {α : Type} {l : List α} {i : Nat} {d : xR} {f : α → xR} (hd : xgr sh d) (h : ∀ x, xgr sh (f x)) : xgr sh (xnth l i d f) := by
  rw [xnth_eq]
  split
  · exact h _
  · exact hd
theorem g_n2 {α : Type} {l : List (List α)} {i : Nat} {d : xR} {f : α → xR} (hd : xgr sh d) (h : ∀ x, xgr sh (f x)) : xgr sh (xn2 l i d f) := g_nth hd (fun _ => g_nth hd h)
theorem g_guard {c : Bool} {d f : xR} (hd : xgr sh d) (h : xgr sh f) : xgr sh (xguard c d f) := by
  cases c
  · exact hd
  · exact h
theorem g_set {lv : xLv} {i : Nat} {v : Option Value} {d : xR} {f : xLv → xR} (hd : xgr sh d) (h : ∀ x, xgr sh (f x)) : xgr sh (xset lv i v d f) := by
  rw [xset_eq]
  split
  · exact h _
  · exact hd
theorem g_sto {lv : xLv} {i : Nat} {v : Value} {d : xR} {f : xLv → xR} (hd : xgr sh d) (h : ∀ x, xgr sh (f x)) : xgr sh (xsto lv i v d f) := by
  unfold xsto
  split
  · exact g_set hd h
  · refine g_nth hd (fun o => ?_)
    split
    · exact hd
    · exact hd
    · exact g_set hd h
theorem g_setr {l : List (Option Nat)} {i : Nat} {v : Option Nat} {d : xR} {f : List (Option Nat) → xR} (hd : xgr sh d) (h : ∀ x, xgr sh (f x)) : xgr sh (xsetr l i v d f) := by
  rw [xsetr_eq]
  split
  · exact h _
  · exact hd
theorem g_setrr {v : Option Nat} {j : Nat} : ∀ (rf : xRf) (k : Nat) (d : xR) (f : xRf → xR), xgr sh d → (∀ x, xgr sh (f x)) → xgr sh (xsetrr rf k j v d f)
  | [], _, _, _, hd, _ => hd
  | _ :: _, 0, _, _, hd, h => g_setr hd (fun _ => h _)
  | _ :: l, k + 1, d, _, hd, h => g_setrr l k d _ hd (fun _ => h _)
theorem g_take : ∀ (n : Nat) (st acc : List Value) (d : xR) (f : List Value → List Value → xR), xgr sh d → (∀ x y, xgr sh (f x y)) → xgr sh (xtake n st acc d f)
  | 0, _, _, _, _, _, h => h _ _
  | _ + 1, [], _, _, _, hd, _ => hd
  | n + 1, _ :: st, _, d, f, hd, h => g_take n st _ d f hd h
set_option maxHeartbeats 4000000 in
theorem xdo_gr (L : Nat) (xs : Nat → Int32) (M : Nat) (lv : xLv) (st : List Value) (rf : xRf) (iv : xIv) (lg : xLg) (nx : Nat) (ins : Instr) (os : List Nat) (sw : List (Int32 × Nat)) (cv : Value) : xgr sh (xdo L xs M lv st sh rf iv lg nx ins os sw cv) := by
  unfold xdo
  split
  all_goals (try simp only [xldI, xldL, xldA, xstI, xstL, xstA, xinc, xbin, xdiv, xbinL, xshL, xcmpL, xunI, xunL, xdup, xdup2, xpop, xgo, xif, xicmp, xtab, xget, xput, xald, xcald, xlald, xast, xcast, xlast, xaald, xaast, xlen, xnew, xnewa, xnewq, xmna, xcpy, xobj, xcall, xcallI, xcallV, xretI, xretL, xretA, xretV, xinv, xinvS, xinvV, xmth, xsto2, xsnoc_eq])
  all_goals repeat' (first | exact trivial | exact xle_rfl | exact xle_app _ _ | refine g_nth trivial (fun _ => ?_) | refine g_n2 trivial (fun _ => ?_) | refine g_guard trivial ?_ | refine g_sto trivial (fun _ => ?_) | refine g_set trivial (fun _ => ?_) | refine g_setrr _ _ _ _ trivial (fun _ => ?_) | refine g_take _ _ _ _ _ trivial (fun _ _ => ?_) | split)
theorem xstep_gr (L : Nat) (xs : Nat → Int32) (M pc : Nat) (lv : xLv) (st : List Value) (rf : xRf) (iv : xIv) (lg : xLg) : xgr sh (xstep L xs M pc lv st sh rf iv lg) := by
  unfold xstep xfetch
  refine g_n2 trivial (fun _ => g_n2 trivial (fun e => ?_))
  obtain ⟨_, nx, ins, _, os, sw, cv⟩ := e
  exact xdo_gr L xs M lv st rf iv lg nx ins os sw cv
end XGR
theorem xsw_le {v : Int32} {g : Nat → Option (Option Value × xMem)} {sh : xSh} {r : Option Value × xMem} {d : Nat} (hg : ∀ t, g t = some r → xle sh r.2.1) : ∀ sw : List (Int32 × Nat), xsw v g d sw = some r → xle sh r.2.1
  | [], h => hg d h
  | q :: l, h => by
    unfold xsw at h
    by_cases hc : v = q.1
    · rw [xite_t hc] at h; exact hg _ h
    · rw [xite_f hc] at h; exact xsw_le hg l h
theorem xexec_gr {L : Nat} {xs : Nat → Int32} : ∀ (n M pc : Nat) (lv : xLv) (st : List Value) (μ : xMem) (r : Option Value × xMem), xexec L xs n M pc lv st μ = some r → xle μ.1 r.2.1
  | 0, _, _, _, _, _, _, h => by cases h
  | n + 1, M, pc, lv, st, (sh, rf, iv, lg), r, h => by
    have ih := @xexec_gr L xs n
    have hR := xstep_gr (sh := sh) L xs M pc lv st rf iv lg
    have h : xrun (xexec L xs n) M (xstep L xs M pc lv st sh rf iv lg) = some r := h
    generalize xstep L xs M pc lv st sh rf iv lg = R at h hR
    match R, h, hR with
    | some (.inl (pc, lv, st, μ)), h, hR => exact xle_trans hR (ih _ _ _ _ _ _ h)
    | some (.inr (.inl (c, t, pc, lv, st, μ))), h, hR =>
      unfold xrun at h
      dsimp only at h
      by_cases hc : c
      · rw [xite_t hc] at h; exact xle_trans hR (ih _ _ _ _ _ _ h)
      · rw [xite_f hc] at h; exact xle_trans hR (ih _ _ _ _ _ _ h)
    | some (.inr (.inr (.inl (c, pc, lv, st, μ)))), h, hR =>
      unfold xrun at h
      dsimp only at h
      by_cases hc : c
      · rw [xite_t hc] at h; exact xle_trans hR (ih _ _ _ _ _ _ h)
      · rw [xite_f hc] at h; cases h
    | some (.inr (.inr (.inr (.inl (m, as, pc, lv, st, μ))))), h, hR =>
      unfold xrun at h
      dsimp only at h
      cases hm : xexec L xs n m 0 (xent (xml m) as) [] μ with
      | none => rw [hm] at h; cases h
      | some q =>
        rw [hm] at h
        exact xle_trans hR (xle_trans (ih _ _ _ _ _ _ hm) (ih _ _ _ _ _ _ h))
    | some (.inr (.inr (.inr (.inr (.inl (r, μ)))))), h, hR =>
      cases h
      exact hR
    | some (.inr (.inr (.inr (.inr (.inr (.inl (v, sw, pc, lv, st, μ))))))), h, hR => exact xle_trans hR (xsw_le (fun t ht => ih _ _ _ _ _ _ ht) sw h)
    | some (.inr (.inr (.inr (.inr (.inr (.inr (c, r, μ))))))), h, hR =>
      unfold xrun at h
      dsimp only at h
      by_cases hc : c
      · rw [xite_t hc] at h; cases h; exact hR
      · rw [xite_f hc] at h; cases h
