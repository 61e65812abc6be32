-- ===== the small machine: more steps do no harm; what is read off the code suffices =====
theorem xite_t {α : Type} {c : Prop} {a b : α} (h : c) : xite c a b = a := by unfold xite; rw [if_pos h]
theorem xite_f {α : Type} {c : Prop} {a b : α} (h : ¬ c) : xite c a b = b := by unfold xite; rw [if_neg h]
theorem xsw_mono {α : Type} {v : Int32} {f g : Nat → Option α} {d : Nat} {r : α} (hfg : ∀ t, f t = some r → g t = some r) : ∀ sw : List (Int32 × Nat), xsw v f d sw = some r → xsw v g d sw = some r
  | [], h => hfg d h
  | q :: l, h => by
    unfold xsw at h ⊢
    by_cases hc : v = q.1
    · rw [xite_t hc] at h ⊢; exact hfg _ h
    · rw [xite_f hc] at h ⊢; exact xsw_mono hfg l h
theorem xrun_mono {g g' : Nat → Nat → xLv → List Value → xMem → Option (Option Value × xMem)} (hg : ∀ M pc lv st μ r, g M pc lv st μ = some r → g' M pc lv st μ = some r) {M : Nat} {r : Option Value × xMem} : ∀ R : xR, xrun g M R = some r → xrun g' M R = some r := by
  intro R h
  match R with
  | none => exact h
  | some (.inl (pc, lv, st, μ)) => exact hg _ _ _ _ _ _ h
  | some (.inr (.inl (c, t, pc, lv, st, μ))) =>
    unfold xrun at h ⊢
    dsimp only at h ⊢
    by_cases hc : c
    · rw [xite_t hc] at h ⊢; exact hg _ _ _ _ _ _ h
    · rw [xite_f hc] at h ⊢; exact hg _ _ _ _ _ _ h
  | some (.inr (.inr (.inl (c, pc, lv, st, μ)))) =>
    unfold xrun at h ⊢
    dsimp only at h ⊢
    by_cases hc : c
    · rw [xite_t hc] at h ⊢; exact hg _ _ _ _ _ _ h
    · rw [xite_f hc] at h; cases h
  | some (.inr (.inr (.inr (.inl (m, as, pc, lv, st, μ))))) =>
    unfold xrun at h ⊢
    dsimp only at h ⊢
    cases hm : g m 0 (xent (xml m) as) [] μ with
    | none => rw [hm] at h; cases h
    | some q =>
      rw [hm] at h
      rw [hg _ _ _ _ _ _ hm]
      exact hg _ _ _ _ _ _ h
  | some (.inr (.inr (.inr (.inr (.inl (r, μ)))))) => exact h
  | some (.inr (.inr (.inr (.inr (.inr (.inl (v, sw, pc, lv, st, μ))))))) => exact xsw_mono (fun t => hg _ _ _ _ _ _) sw h
  | some (.inr (.inr (.inr (.inr (.inr (.inr (c, r, μ))))))) =>
    unfold xrun at h ⊢
    exact h
theorem xexec_mono {L : Nat} {xs : Nat → Int32} : ∀ (n M pc : Nat) (lv : xLv) (st : List Value) (μ : xMem) (r : Option Value × xMem), xexec L xs n M pc lv st μ = some r → xexec L xs (n + 1) M pc lv st μ = some r
  | 0, _, _, _, _, _, _, h => by cases h
  | n + 1, M, pc, lv, st, μ, r, h => xrun_mono (fun M pc lv st μ r => xexec_mono n M pc lv st μ r) _ h
theorem xexec_le {L : Nat} {xs : Nat → Int32} {n M pc : Nat} {lv : xLv} {st : List Value} {μ : xMem} {r : Option Value × xMem} (h : xexec L xs n M pc lv st μ = some r) : ∀ k, xexec L xs (n + k) M pc lv st μ = some r
  | 0 => h
  | k + 1 => xexec_mono _ _ _ _ _ _ _ (xexec_le h k)
theorem xexec_le' {L : Nat} {xs : Nat → Int32} {n k M pc : Nat} {lv : xLv} {st : List Value} {μ : xMem} {r : Option Value × xMem} (h : xexec L xs n M pc lv st μ = some r) (hk : n ≤ k) : xexec L xs k M pc lv st μ = some r := by
  obtain ⟨d, rfl⟩ := Nat.le.dest hk
  exact xexec_le h d
theorem xswP_run {L : Nat} {xs : Nat → Int32} {M : Nat} {lv : xLv} {st : List Value} {sh : xSh} {rf : xRf} {iv : xIv} {lg : xLg} {Q : xQ} {v : Int32} {d : Nat} : ∀ sw : List (Int32 × Nat), xswP v (fun t => Wp L xs M t lv st sh rf iv lg Q) d sw →
    ∃ n r sh' rf' iv' lg', xsw v (fun t => xexec L xs n M t lv st (sh, rf, iv, lg)) d sw = some (r, sh', rf', iv', lg') ∧ Q r sh' rf' iv' lg'
  | [], h => h
  | q :: l, h => by
    obtain ⟨h1, h2⟩ := h
    by_cases hc : v = q.1
    · obtain ⟨n, r, a, b, c, e, he, hq⟩ := h1 hc
      refine ⟨n, r, a, b, c, e, ?_, hq⟩
      unfold xsw
      rw [xite_t hc]
      exact he
    · obtain ⟨n, r, a, b, c, e, he, hq⟩ := xswP_run l (h2 hc)
      refine ⟨n, r, a, b, c, e, ?_, hq⟩
      unfold xsw
      rw [xite_f hc]
      exact he
theorem xswP_imp {v : Int32} {f g : Nat → Prop} (hfg : ∀ t, f t → g t) {d : Nat} : ∀ sw : List (Int32 × Nat), xswP v f d sw → xswP v g d sw
  | [], h => hfg _ h
  | _ :: l, h => ⟨fun e => hfg _ (h.1 e), fun e => xswP_imp hfg l (h.2 e)⟩
theorem Wp.imp {L : Nat} {xs : Nat → Int32} {M pc : Nat} {lv : xLv} {st : List Value} {sh : xSh} {rf : xRf} {iv : xIv} {lg : xLg} {Q Q' : xQ} (h : Wp L xs M pc lv st sh rf iv lg Q) (hq : ∀ r sh rf iv lg, Q r sh rf iv lg → Q' r sh rf iv lg) : Wp L xs M pc lv st sh rf iv lg Q' := by
  obtain ⟨n, r, a, b, c, e, he, h2⟩ := h
  exact ⟨n, r, a, b, c, e, he, hq _ _ _ _ _ h2⟩
theorem xpushK_eq {β : Type} (r : Option Value) (st : List Value) (f : List Value → β) : xpushK r st f = f (xpush r st) := by cases r <;> rfl
theorem xentK_eq {β : Type} : ∀ (n : Nat) (as : List Value) (f : xLv → β), xentK n as f = f (xent n as)
  | 0, _, _ => rfl
  | n + 1, [], f => xentK_eq n [] _
  | 0 + 1, .long x :: l, f => rfl
  | (n + 1) + 1, .long x :: l, f => xentK_eq n l _
  | n + 1, .int x :: l, f => xentK_eq n l _
  | n + 1, .float x :: l, f => xentK_eq n l _
  | 0 + 1, .double x :: l, f => rfl
  | (n + 1) + 1, .double x :: l, f => xentK_eq n l _
  | n + 1, .ref x :: l, f => xentK_eq n l _
  | n + 1, .null :: l, f => xentK_eq n l _
  | n + 1, .retAddr _ :: l, f => xentK_eq n l _
/-- one step -/
theorem xwb_Wp {L : Nat} {xs : Nat → Int32} {M pc : Nat} {lv : xLv} {st : List Value} {sh : xSh} {rf : xRf} {iv : xIv} {lg : xLg} {Q : xQ} (F : Nat → xLv → List Value → xSh → xRf → xIv → xLg → Prop) (hF : ∀ pc lv st sh rf iv lg, F pc lv st sh rf iv lg → Wp L xs M pc lv st sh rf iv lg Q)
    (h : xwb L xs M F Q (xstep L xs M pc lv st sh rf iv lg)) : Wp L xs M pc lv st sh rf iv lg Q := by
  have key : ∀ (R : xR), xstep L xs M pc lv st sh rf iv lg = R → xwb L xs M F Q R → ∃ n r sh' rf' iv' lg', xrun (xexec L xs n) M R = some (r, sh', rf', iv', lg') ∧ Q r sh' rf' iv' lg' := by
    intro R _ h
    match R, h with
    | some (.inl (pc, lv, st, sh, rf, iv, lg)), h => exact hF _ _ _ _ _ _ _ h
    | some (.inr (.inl (c, t, pc, lv, st, sh, rf, iv, lg))), h =>
      by_cases hc : c
      · obtain ⟨n, r, a, b, c', e, he, hq⟩ := hF _ _ _ _ _ _ _ (h.1 hc)
        exact ⟨n, r, a, b, c', e, by unfold xrun; dsimp only; rw [xite_t hc]; exact he, hq⟩
      · obtain ⟨n, r, a, b, c', e, he, hq⟩ := hF _ _ _ _ _ _ _ (h.2 hc)
        exact ⟨n, r, a, b, c', e, by unfold xrun; dsimp only; rw [xite_f hc]; exact he, hq⟩
    | some (.inr (.inr (.inl (c, pc, lv, st, sh, rf, iv, lg)))), h =>
      obtain ⟨n, r, a, b, c', e, he, hq⟩ := hF _ _ _ _ _ _ _ h.2
      exact ⟨n, r, a, b, c', e, by unfold xrun; dsimp only; rw [xite_t h.1]; exact he, hq⟩
    | some (.inr (.inr (.inr (.inl (m, as, pc, lv, st, sh, rf, iv, lg))))), h =>
      obtain ⟨n, r, a, b, c', e, he, hq⟩ := h
      rw [xpushK_eq] at hq
      obtain ⟨n2, r2, a2, b2, c2, e2, he2, hq2⟩ := hF _ _ _ _ _ _ _ hq
      refine ⟨n + n2, r2, a2, b2, c2, e2, ?_, hq2⟩
      unfold xrun
      dsimp only
      rw [xexec_le he n2]
      exact xexec_le' he2 (Nat.le_add_left _ _)
    | some (.inr (.inr (.inr (.inr (.inl (r, sh, rf, iv, lg)))))), h => exact ⟨0, r, sh, rf, iv, lg, rfl, h⟩
    | some (.inr (.inr (.inr (.inr (.inr (.inl (v, sw, pc, lv, st, sh, rf, iv, lg))))))), h => exact xswP_run sw (xswP_imp (fun t => hF _ _ _ _ _ _ _) sw h)
    | some (.inr (.inr (.inr (.inr (.inr (.inr (c, r, sh, rf, iv, lg))))))), h =>
      exact ⟨0, r, sh, rf, iv, lg, by unfold xrun; dsimp only; rw [xite_t h.1], h.2⟩
  obtain ⟨n, r, a, b, c, e, he, hq⟩ := key _ rfl h
  exact ⟨n + 1, r, a, b, c, e, he, hq⟩
theorem wpx_Wp {L : Nat} {xs : Nat → Int32} {S : List Nat} {M : Nat} {Q : xQ} : ∀ (n pc : Nat) (lv : xLv) (st : List Value) (sh : xSh) (rf : xRf) (iv : xIv) (lg : xLg), wpx L xs S M Q n pc lv st sh rf iv lg → Wp L xs M pc lv st sh rf iv lg Q
  | 0, _, _, _, _, _, _, _, h => h
  | n + 1, pc, lv, st, sh, rf, iv, lg, h => by
    unfold wpx at h
    cases hm : xmemN pc S with
    | true => rw [hm] at h; exact h
    | false => rw [hm] at h; exact xwb_Wp _ (wpx_Wp n) h
/-- walk: S the places where to stop (loops' heads), n how many steps at most -/
theorem wgo {L : Nat} {xs : Nat → Int32} {M pc : Nat} {lv : xLv} {st : List Value} {sh : xSh} {rf : xRf} {iv : xIv} {lg : xLg} {Q : xQ} (S : List Nat) (n : Nat) (h : xwb L xs M (wpx L xs S M Q n) Q (xstep L xs M pc lv st sh rf iv lg)) : Wp L xs M pc lv st sh rf iv lg Q := xwb_Wp _ (wpx_Wp n) h
theorem Sp.imp {L : Nat} {xs : Nat → Int32} {M : Nat} {as : List Value} {sh : xSh} {rf : xRf} {iv : xIv} {lg : xLg} {Q Q' : xQ} (h : Sp L xs M as sh rf iv lg Q) (hq : ∀ r sh rf iv lg, Q r sh rf iv lg → Q' r sh rf iv lg) : Sp L xs M as sh rf iv lg Q' := Wp.imp h hq
/-- the same, from a method's entry -/
theorem sgo {L : Nat} {xs : Nat → Int32} {M : Nat} {as : List Value} {sh : xSh} {rf : xRf} {iv : xIv} {lg : xLg} {Q : xQ} (S : List Nat) (n : Nat) (h : xentK (xml M) as (fun lv => xwb L xs M (wpx L xs S M Q n) Q (xstep L xs M 0 lv [] sh rf iv lg))) : Sp L xs M as sh rf iv lg Q := by
  rw [xentK_eq] at h
  exact wgo S n h
/-- from a method's entry, where that is a loop's head -/
theorem sin {L : Nat} {xs : Nat → Int32} {M : Nat} {as : List Value} {sh : xSh} {rf : xRf} {iv : xIv} {lg : xLg} {Q : xQ} (h : xentK (xml M) as (fun lv => Wp L xs M 0 lv [] sh rf iv lg Q)) : Sp L xs M as sh rf iv lg Q := by
  rw [xentK_eq] at h
  exact h
