-- ===== one number of a state changes, on both sides =====
theorem MV.up {iv sg : xIv} {lg : xLg} {tw : Nat → Int64} (h : MV iv lg sg tw) (k j : Nat) (x : Int32) : MV (xu2 iv k j x) lg (xu2 sg k j x) tw := by
  obtain ⟨⟨a1, a2, a3, a4, a5, a6, a7⟩, ⟨b1, b2, b3, b4, b5, b6, b7, b8, b9, b10⟩, c⟩ := h
  exact ⟨⟨xu2_ec a1, xu2_ec a2, xu2_ec a3, xu2_ec a4, xu2_ec a5, xu2_ec a6, xu2_ec a7⟩, ⟨xu2_rc b1, xu2_rc b2, xu2_rc b3, xu2_rc b4, xu2_rc b5, xu2_rc b6, xu2_rc b7, xu2_rc b8, xu2_rc b9, xu2_rc b10⟩, c⟩
/-- the reference's own working rows -/
theorem MV.wk {iv iv' sg : xIv} {lg : xLg} {tw : Nat → Int64} (h : MV iv lg sg tw) (h79 : ∀ j, j ≠ 13 → j ≠ 14 → iv' 79 j = iv 79 j) (hr : ∀ k, (k = 80 ∨ k = 81 ∨ k = 82 ∨ k = 83 ∨ k = 84 ∨ k = 86 ∨ k = 96 ∨ k = 97 ∨ k = 98 ∨ k = 99) → iv' k = iv k) : MV iv' lg sg tw := by
  unfold MV at h ⊢
  rw [h79 1 (by decide) (by decide), h79 3 (by decide) (by decide), h79 6 (by decide) (by decide), h79 8 (by decide) (by decide), h79 9 (by decide) (by decide), h79 12 (by decide) (by decide), h79 24 (by decide) (by decide), hr 80 (by decide), hr 81 (by decide), hr 82 (by decide), hr 83 (by decide), hr 84 (by decide), hr 86 (by decide), hr 96 (by decide), hr 97 (by decide), hr 98 (by decide), hr 99 (by decide)]
  exact h
theorem clsS.up {iv iv' : xIv} {lg lg' : xLg} (h : clsS iv' lg' iv lg) {k j : Nat} {x : Int32} (hk : 79 ≤ k) : clsS (xu2 iv' k j x) lg' iv lg := ⟨fun k' hk' => by rw [xu2_ne (by omega)]; exact h.1 k' hk', h.2⟩
theorem refS.up {iv iv' : xIv} {lg lg' : xLg} (h : refS iv' lg' iv lg) {k j : Nat} {x : Int32} (hk : k < 79) : refS (xu2 iv' k j x) lg' iv lg := ⟨fun k' hk' => by rw [xu2_ne (by omega)]; exact h.1 k' hk', h.2⟩
theorem clsS.trans {a b c : xIv} {la lb lc : xLg} (h : clsS a la b lb) (h2 : clsS b lb c lc) : clsS a la c lc := ⟨fun k hk => (h.1 k hk).trans (h2.1 k hk), fun k hk => (h.2 k hk).trans (h2.2 k hk)⟩
theorem refS.trans {a b c : xIv} {la lb lc : xLg} (h : refS a la b lb) (h2 : refS b lb c lc) : refS a la c lc := ⟨fun k hk => (h.1 k hk).trans (h2.1 k hk), fun k hk => (h.2 k hk).trans (h2.2 k hk)⟩
section UPD
variable {iv : xIv} {lg : xLg} {sg : xIv} {tw : Nat → Int64} {x : Int32}
/-- where nothing of the live numbers moves but by these three, the rest stands -/
theorem CX.of {iv' sg' : xIv} (hC : CX iv lg sg tw) (hy : CWy iv' 1 (vL sg')) (hp : CWp iv' 1 (vL sg')) (ho : CWo iv' 1 (vL sg')) (hrd : RD iv' (vL sg')) (hr : ∀ k, 19 ≤ k → k < 37 → iv' k = iv k) (h0 : iv' 0 2 = iv 0 2) (h53 : iv' 53 1 = iv 53 1) (h54 : iv' 54 = iv 54) (h69 : iv' 69 = iv 69) (h71 : ∀ k, 71 ≤ k → k < 79 → iv' k = iv k)
    (g1 : sg' 79 24 = sg 79 24) (g2 : sg' 79 12 = sg 79 12) (g3 : sg' 86 = sg 86) (g4 : sg' 96 = sg 96) (g5 : sg' 97 = sg 97) (g6 : sg' 98 = sg 98) (g7 : sg' 99 = sg 99) : CX iv' lg sg' tw :=
  ⟨⟨hy, hp, ho⟩, hC.kept hr h0 g1 g4 g5, hrd, hC.2.2.2.1.keep h53 h54 h69 g2 g3, hC.2.2.2.2.keep h71 (fun _ _ _ => rfl) g6 g7⟩
theorem vL_ne {k j r : Nat} (hr : r = 0 → k ≠ 79) (h1 : r = 1 → k ≠ 80) (h2 : r = 2 → k ≠ 81) (h3 : r = 3 → k ≠ 82) (h4 : r = 4 → k ≠ 83) (h5 : 5 ≤ r → k ≠ 84) : vL (xu2 sg k j x) r = vL sg r := by
  funext b
  match r with
  | 0 =>
    have := hr rfl
    unfold vL
    rw [xu2_ne (fun z => this z.symm)]
    rfl
  | 1 => exact xu2_k (fun z => h1 rfl z.symm)
  | 2 => exact xu2_k (fun z => h2 rfl z.symm)
  | 3 => exact xu2_k (fun z => h3 rfl z.symm)
  | 4 => exact xu2_k (fun z => h4 rfl z.symm)
  | r + 5 => exact xu2_k (fun z => h5 (by omega) z.symm)
/-- one of people: field f of p -/
theorem CX.p (hC : CX iv lg sg tw) {p f : Nat} (hp : p < cnt (vL sg) 1) (hf : f < 7) : CX (xu2 iv (9 + f) p x) lg (xu2 sg 81 (7 * p + f) x) tw := by
  obtain ⟨⟨hy, hpp, ho⟩, hk, hrd, htp, hst⟩ := id hC
  have v0 : vL (xu2 sg 81 (7 * p + f) x) 0 = vL sg 0 := vL_ne (by decide) (by decide) (by decide) (by decide) (by decide) (by decide)
  have v1 : vL (xu2 sg 81 (7 * p + f) x) 1 = vL sg 1 := vL_ne (by decide) (by decide) (by decide) (by decide) (by decide) (by decide)
  have v3 : vL (xu2 sg 81 (7 * p + f) x) 3 = vL sg 3 := vL_ne (by decide) (by decide) (by decide) (by decide) (by decide) (by decide)
  have v4 : vL (xu2 sg 81 (7 * p + f) x) 4 = vL sg 4 := vL_ne (by decide) (by decide) (by decide) (by decide) (by decide) (by decide)
  have v5 : vL (xu2 sg 81 (7 * p + f) x) 5 = vL sg 5 := vL_ne (by decide) (by decide) (by decide) (by decide) (by decide) (by decide)
  have hr : ∀ k, (k < 9 ∨ 15 < k) → xu2 iv (9 + f) p x k = iv k := fun k hk => xu2_ne (by omega)
  refine hC.of (hy.keep (fun i a b => hr _ (by omega)) (by rw [v0]) (fun j _ => by rw [v1])) ?_ (ho.keep (hr _ (by omega)) (hr _ (by omega)) (hr _ (by omega)) (by rw [v0]) (by rw [v0]) (by rw [v0]) (fun j _ => by rw [v5]) (fun j _ => by rw [v4])) (hrd.keep (fun k a b => hr k (by omega)) (by rw [v0]) (fun w f _ _ => by rw [v1])) (fun k a b => hr k (by omega)) (by rw [hr 0 (by omega)]) (by rw [hr 53 (by omega)]) (hr 54 (by omega)) (hr 69 (by omega)) (fun k a b => hr k (by omega)) (xu2_k (by decide)) (xu2_k (by decide)) (xu2_ne (by decide)) (xu2_ne (by decide)) (xu2_ne (by decide)) (xu2_ne (by decide)) (xu2_ne (by decide))
  have e0 : cnt (vL (xu2 sg 81 (7 * p + f) x)) 1 = cnt (vL sg) 1 := by unfold cnt; rw [v0]
  refine ⟨?_, fun q hq => ?_, fun j hj => ?_⟩
  · show xu2 iv (9 + f) p x 8 0 = _
    rw [hr 8 (by omega), v0]
    exact hpp.1
  · rw [e0] at hq
    have key : ∀ g, g < 7 → iv (9 + g) q = vL sg 2 (7 * q + g) → xu2 iv (9 + f) p x (9 + g) q = vL (xu2 sg 81 (7 * p + f) x) 2 (7 * q + g) := by
      intro g hg h
      show _ = xu2 sg 81 (7 * p + f) x 81 (7 * q + g)
      by_cases e : g = f ∧ q = p
      · rw [e.1, e.2, xu2_s, xu2_s]
      · rw [show xu2 iv (9 + f) p x (9 + g) q = iv (9 + g) q by
          by_cases e1 : g = f
          · rw [e1]; exact xu2_j (fun z => e ⟨e1, z⟩)
          · exact xu2_k (by omega), xu2_j (by omega)]
        exact h
    obtain ⟨b0, b1, b2, b3, b4, b5, b6⟩ := hpp.2.1 q hq
    exact ⟨key 0 (by decide) b0, key 1 (by decide) b1, key 2 (by decide) b2, key 3 (by decide) b3, key 4 (by decide) b4, key 5 (by decide) b5, key 6 (by decide) b6⟩
  · rw [v3]
    show xu2 iv (9 + f) p x 16 j = _
    rw [hr 16 (by omega)]
    exact hpp.2.2 j hj
/-- what is owed -/
theorem CX.o (hC : CX iv lg sg tw) {j : Nat} : CX (xu2 iv 16 j x) lg (xu2 sg 82 j x) tw := by
  obtain ⟨⟨hy, hpp, ho⟩, hk, hrd, htp, hst⟩ := id hC
  have v0 : vL (xu2 sg 82 j x) 0 = vL sg 0 := vL_ne (by decide) (by decide) (by decide) (by decide) (by decide) (by decide)
  have v1 : vL (xu2 sg 82 j x) 1 = vL sg 1 := vL_ne (by decide) (by decide) (by decide) (by decide) (by decide) (by decide)
  have v2 : vL (xu2 sg 82 j x) 2 = vL sg 2 := vL_ne (by decide) (by decide) (by decide) (by decide) (by decide) (by decide)
  have v4 : vL (xu2 sg 82 j x) 4 = vL sg 4 := vL_ne (by decide) (by decide) (by decide) (by decide) (by decide) (by decide)
  have v5 : vL (xu2 sg 82 j x) 5 = vL sg 5 := vL_ne (by decide) (by decide) (by decide) (by decide) (by decide) (by decide)
  have hr : ∀ k, k ≠ 16 → xu2 iv 16 j x k = iv k := fun k hk => xu2_ne hk
  refine hC.of (hy.keep (fun i a b => hr _ (by omega)) (by rw [v0]) (fun j _ => by rw [v1])) ?_ (ho.keep (hr _ (by omega)) (hr _ (by omega)) (hr _ (by omega)) (by rw [v0]) (by rw [v0]) (by rw [v0]) (fun j _ => by rw [v5]) (fun j _ => by rw [v4])) (hrd.keep (fun k a b => hr k (by omega)) (by rw [v0]) (fun w f _ _ => by rw [v1])) (fun k a b => hr k (by omega)) (by rw [hr 0 (by omega)]) (by rw [hr 53 (by omega)]) (hr 54 (by omega)) (hr 69 (by omega)) (fun k a b => hr k (by omega)) (xu2_k (by decide)) (xu2_k (by decide)) (xu2_ne (by decide)) (xu2_ne (by decide)) (xu2_ne (by decide)) (xu2_ne (by decide)) (xu2_ne (by decide))
  have e0 : cnt (vL (xu2 sg 82 j x)) 1 = cnt (vL sg) 1 := by unfold cnt; rw [v0]
  refine ⟨?_, fun q hq => ?_, fun i hi => ?_⟩
  · rw [v0]
    exact (congrFun (hr 8 (by decide)) 0).trans hpp.1
  · rw [e0] at hq
    rw [v2]
    have := hpp.2.1 q hq
    rw [hr _ (by omega), hr _ (by omega), hr _ (by omega), hr _ (by omega), hr _ (by omega), hr _ (by omega), hr _ (by omega)]
    exact this
  · show xu2 iv 16 j x 16 i = xu2 sg 82 j x 82 i
    by_cases e : i = j
    · rw [e, xu2_s, xu2_s]
    · rw [xu2_j e, xu2_j e]
      exact hpp.2.2 i hi
/-- rows of the class that hold nothing between calls -/
theorem CX.w (hC : CX iv lg sg tw) {k j : Nat} (hk : (43 ≤ k ∧ k < 53) ∨ (k = 53 ∧ j = 2) ∨ (55 ≤ k ∧ k < 69)) : CX (xu2 iv k j x) lg sg tw := by
  obtain ⟨⟨hy, hpp, ho⟩, hkk, hrd, htp, hst⟩ := id hC
  have hr : ∀ k', k' < 43 ∨ k' = 54 ∨ 69 ≤ k' → xu2 iv k j x k' = iv k' := fun k' hk' => xu2_ne (by omega)
  refine hC.of (hy.keep (fun i a b => hr _ (by omega)) rfl (fun j _ => rfl)) (hpp.keep (fun i a b => hr _ (by omega)) rfl (fun _ _ => rfl) (fun _ _ => rfl)) (ho.keep (hr _ (by omega)) (hr _ (by omega)) (hr _ (by omega)) rfl rfl rfl (fun j _ => rfl) (fun j _ => rfl)) (hrd.keep (fun k a b => hr k (by omega)) rfl (fun w f _ _ => rfl)) (fun k a b => hr k (by omega)) (by rw [hr 0 (by omega)]) ?_ (hr 54 (by omega)) (hr 69 (by omega)) (fun k a b => hr k (by omega)) rfl rfl rfl rfl rfl rfl rfl
  by_cases e : k = 53
  · subst e
    exact xu2_j (by omega)
  · exact xu2_k (fun z => e z.symm)
theorem CX.wr (hC : CX iv lg sg tw) {k : Nat} {row : Nat → Int32} (hk : (43 ≤ k ∧ k < 53) ∨ (55 ≤ k ∧ k < 69)) : CX (xur iv k row) lg sg tw := by
  obtain ⟨⟨hy, hpp, ho⟩, hkk, hrd, htp, hst⟩ := id hC
  have hr : ∀ k', k' < 43 ∨ k' = 53 ∨ k' = 54 ∨ 69 ≤ k' → xur iv k row k' = iv k' := fun k' hk' => xur_ne (by omega)
  exact hC.of (hy.keep (fun i a b => hr _ (by omega)) rfl (fun j _ => rfl)) (hpp.keep (fun i a b => hr _ (by omega)) rfl (fun _ _ => rfl) (fun _ _ => rfl)) (ho.keep (hr _ (by omega)) (hr _ (by omega)) (hr _ (by omega)) rfl rfl rfl (fun j _ => rfl) (fun j _ => rfl)) (hrd.keep (fun k a b => hr k (by omega)) rfl (fun w f _ _ => rfl)) (fun k a b => hr k (by omega)) (by rw [hr 0 (by omega)]) (by rw [hr 53 (by omega)]) (hr 54 (by omega)) (hr 69 (by omega)) (fun k a b => hr k (by omega)) rfl rfl rfl rfl rfl rfl rfl
/-- what is given -/
theorem CX.g (hC : CX iv lg sg tw) {j : Nat} : CX (xu2 iv 18 j x) lg (xu2 sg 83 j x) tw := by
  obtain ⟨⟨hy, hpp, ho⟩, hk, hrd, htp, hst⟩ := id hC
  have v0 : vL (xu2 sg 83 j x) 0 = vL sg 0 := vL_ne (by decide) (by decide) (by decide) (by decide) (by decide) (by decide)
  have v1 : vL (xu2 sg 83 j x) 1 = vL sg 1 := vL_ne (by decide) (by decide) (by decide) (by decide) (by decide) (by decide)
  have v2 : vL (xu2 sg 83 j x) 2 = vL sg 2 := vL_ne (by decide) (by decide) (by decide) (by decide) (by decide) (by decide)
  have v3 : vL (xu2 sg 83 j x) 3 = vL sg 3 := vL_ne (by decide) (by decide) (by decide) (by decide) (by decide) (by decide)
  have v5 : vL (xu2 sg 83 j x) 5 = vL sg 5 := vL_ne (by decide) (by decide) (by decide) (by decide) (by decide) (by decide)
  have hr : ∀ k, k ≠ 18 → xu2 iv 18 j x k = iv k := fun k hk => xu2_ne hk
  refine hC.of (hy.keep (fun i a b => hr _ (by omega)) (by rw [v0]) (fun j _ => by rw [v1])) (hpp.keep (fun i a b => hr _ (by omega)) (by rw [v0]) (fun j _ => by rw [v2]) (fun j _ => by rw [v3])) ?_ (hrd.keep (fun k a b => hr k (by omega)) (by rw [v0]) (fun w f _ _ => by rw [v1])) (fun k a b => hr k (by omega)) (by rw [hr 0 (by omega)]) (by rw [hr 53 (by omega)]) (hr 54 (by omega)) (hr 69 (by omega)) (fun k a b => hr k (by omega)) (xu2_k (by decide)) (xu2_k (by decide)) (xu2_ne (by decide)) (xu2_ne (by decide)) (xu2_ne (by decide)) (xu2_ne (by decide)) (xu2_ne (by decide))
  have e0 : cnt (vL (xu2 sg 83 j x)) 2 = cnt (vL sg) 2 := by unfold cnt; rw [v0]
  obtain ⟨o1, o2, o3, o4, o5⟩ := ho
  refine ⟨?_, fun q hq => ?_, fun i hi => ?_, ?_, ?_⟩
  · rw [v0]; exact (congrFun (hr 1 (by decide)) 2).trans o1
  · rw [e0] at hq
    rw [v5]; exact (congrFun (hr 17 (by decide)) q).trans (o2 q hq)
  · show xu2 iv 18 j x 18 i = xu2 sg 83 j x 83 i
    by_cases e : i = j
    · rw [e, xu2_s, xu2_s]
    · rw [xu2_j e, xu2_j e]
      exact o3 i hi
  · rw [v0]; exact (congrFun (hr 1 (by decide)) 5).trans o4
  · rw [v0]; exact (congrFun (hr 1 (by decide)) 6).trans o5
/-- law, spent, errands' count: a number of the world's own, and of the reference's -/
theorem CX.s (hC : CX iv lg sg tw) {j i : Nat} (hji : (j = 5 ∧ i = 6) ∨ (j = 6 ∧ i = 9) ∨ (j = 2 ∧ i = 8 ∧ x.toNatClampNeg ≤ cnt (vL sg) 2)) : CX (xu2 iv 1 j x) lg (xu2 sg 79 i x) tw := by
  obtain ⟨⟨hy, hpp, ho⟩, hk, hrd, htp, hst⟩ := id hC
  have v1 : vL (xu2 sg 79 i x) 1 = vL sg 1 := vL_ne (by decide) (by decide) (by decide) (by decide) (by decide) (by decide)
  have v2 : vL (xu2 sg 79 i x) 2 = vL sg 2 := vL_ne (by decide) (by decide) (by decide) (by decide) (by decide) (by decide)
  have v3 : vL (xu2 sg 79 i x) 3 = vL sg 3 := vL_ne (by decide) (by decide) (by decide) (by decide) (by decide) (by decide)
  have v4 : vL (xu2 sg 79 i x) 4 = vL sg 4 := vL_ne (by decide) (by decide) (by decide) (by decide) (by decide) (by decide)
  have v5 : vL (xu2 sg 79 i x) 5 = vL sg 5 := vL_ne (by decide) (by decide) (by decide) (by decide) (by decide) (by decide)
  have v00 : vL (xu2 sg 79 i x) 0 0 = vL sg 0 0 := xu2_j (by omega)
  have v01 : vL (xu2 sg 79 i x) 0 1 = vL sg 0 1 := xu2_j (by omega)
  have hr : ∀ k, k ≠ 1 → xu2 iv 1 j x k = iv k := fun k hk => xu2_ne hk
  refine hC.of (hy.keep (fun i a b => hr _ (by omega)) v00 (fun j _ => by rw [v1])) (hpp.keep (fun i a b => hr _ (by omega)) v01 (fun j _ => by rw [v2]) (fun j _ => by rw [v3])) ?_ (hrd.keep (fun k a b => hr k (by omega)) v00 (fun w f _ _ => by rw [v1])) (fun k a b => hr k (by omega)) (by rw [hr 0 (by omega)]) (by rw [hr 53 (by omega)]) (hr 54 (by omega)) (hr 69 (by omega)) (fun k a b => hr k (by omega)) (xu2_j (by omega)) (xu2_j (by omega)) (xu2_ne (by decide)) (xu2_ne (by decide)) (xu2_ne (by decide)) (xu2_ne (by decide)) (xu2_ne (by decide))
  obtain ⟨o1, o2, o3, o4, o5⟩ := ho
  refine ⟨?_, fun q hq => ?_, fun i hi => ?_, ?_, ?_⟩
  · show xu2 iv 1 j x 1 2 = xu2 sg 79 i x 79 8
    by_cases e : j = 2
    · rw [show i = 8 by omega, e, xu2_s, xu2_s]
    · rw [xu2_j (by omega), xu2_j (by omega)]; exact o1
  · rw [v5]
    refine (congrFun (hr 17 (by decide)) q).trans (o2 q ?_)
    by_cases e : j = 2
    · have ei : i = 8 := by omega
      subst ei
      have hc : cnt (vL (xu2 sg 79 8 x)) 2 = x.toNatClampNeg := by
        show (xu2 sg 79 8 x 79 8).toNatClampNeg = _
        rw [xu2_s]
      rw [hc] at hq
      omega
    · have hc : cnt (vL (xu2 sg 79 i x)) 2 = cnt (vL sg) 2 := by
        show (xu2 sg 79 i x 79 8).toNatClampNeg = _
        rw [xu2_j (by omega)]
        rfl
      rw [hc] at hq
      exact hq
  · rw [v4]; exact (congrFun (hr 18 (by decide)) i).trans (o3 i hi)
  · show xu2 iv 1 j x 1 5 = xu2 sg 79 i x 79 6
    by_cases e : j = 5
    · rw [show i = 6 by omega, e, xu2_s, xu2_s]
    · rw [xu2_j (by omega), xu2_j (by omega)]; exact o4
  · show xu2 iv 1 j x 1 6 = xu2 sg 79 i x 79 9
    by_cases e : j = 6
    · rw [show i = 9 by omega, e, xu2_s, xu2_s]
    · rw [xu2_j (by omega), xu2_j (by omega)]; exact o5
/-- one more errand -/
theorem CX.e (hC : CX iv lg sg tw) {n : Nat} (hn : n = cnt (vL sg) 2) (h6 : n < 6) : CX (xu2 (xu2 iv 17 n x) 1 2 (nI (n + 1))) lg (xu2 (xu2 sg 84 n x) 79 8 (nI (n + 1))) tw := by
  obtain ⟨⟨hy, hpp, ho⟩, hk, hrd, htp, hst⟩ := id hC
  have v1 : vL (xu2 (xu2 sg 84 n x) 79 8 (nI (n + 1))) 1 = vL sg 1 := (vL_ne (by decide) (by decide) (by decide) (by decide) (by decide) (by decide)).trans (vL_ne (by decide) (by decide) (by decide) (by decide) (by decide) (by decide))
  have v2 : vL (xu2 (xu2 sg 84 n x) 79 8 (nI (n + 1))) 2 = vL sg 2 := (vL_ne (by decide) (by decide) (by decide) (by decide) (by decide) (by decide)).trans (vL_ne (by decide) (by decide) (by decide) (by decide) (by decide) (by decide))
  have v3 : vL (xu2 (xu2 sg 84 n x) 79 8 (nI (n + 1))) 3 = vL sg 3 := (vL_ne (by decide) (by decide) (by decide) (by decide) (by decide) (by decide)).trans (vL_ne (by decide) (by decide) (by decide) (by decide) (by decide) (by decide))
  have v4 : vL (xu2 (xu2 sg 84 n x) 79 8 (nI (n + 1))) 4 = vL sg 4 := (vL_ne (by decide) (by decide) (by decide) (by decide) (by decide) (by decide)).trans (vL_ne (by decide) (by decide) (by decide) (by decide) (by decide) (by decide))
  have s79 : ∀ i, i ≠ 8 → xu2 (xu2 sg 84 n x) 79 8 (nI (n + 1)) 79 i = sg 79 i := fun i hi => by rw [xu2_j hi, xu2_k (by decide)]
  have srow : ∀ k, k ≠ 79 → k ≠ 84 → xu2 (xu2 sg 84 n x) 79 8 (nI (n + 1)) k = sg k := fun k a b => by rw [xu2_ne a, xu2_ne b]
  have hr : ∀ k, k ≠ 1 → k ≠ 17 → xu2 (xu2 iv 17 n x) 1 2 (nI (n + 1)) k = iv k := fun k a b => by rw [xu2_ne a, xu2_ne b]
  refine hC.of (hy.keep (fun i a b => hr _ (by omega) (by omega)) (s79 1 (by decide)) (fun j _ => by rw [v1])) (hpp.keep (fun i a b => hr _ (by omega) (by omega)) (s79 3 (by decide)) (fun j _ => by rw [v2]) (fun j _ => by rw [v3])) ?_ (hrd.keep (fun k a b => hr k (by omega) (by omega)) (s79 1 (by decide)) (fun w f _ _ => by rw [v1])) (fun k a b => hr k (by omega) (by omega)) (by rw [hr 0 (by omega) (by omega)]) (by rw [hr 53 (by omega) (by omega)]) (hr 54 (by omega) (by omega)) (hr 69 (by omega) (by omega)) (fun k a b => hr k (by omega) (by omega)) (s79 24 (by decide)) (s79 12 (by decide)) (srow 86 (by decide) (by decide)) (srow 96 (by decide) (by decide)) (srow 97 (by decide) (by decide)) (srow 98 (by decide) (by decide)) (srow 99 (by decide) (by decide))
  obtain ⟨o1, o2, o3, o4, o5⟩ := ho
  refine ⟨?_, fun q hq => ?_, fun i hi => ?_, ?_, ?_⟩
  · show xu2 (xu2 iv 17 n x) 1 2 (nI (n + 1)) 1 2 = xu2 (xu2 sg 84 n x) 79 8 (nI (n + 1)) 79 8
    rw [xu2_s, xu2_s]
  · have hc : cnt (vL (xu2 (xu2 sg 84 n x) 79 8 (nI (n + 1)))) 2 = n + 1 := by
      show (xu2 (xu2 sg 84 n x) 79 8 (nI (n + 1)) 79 8).toNatClampNeg = _
      rw [xu2_s, cl]
    rw [hc] at hq
    show xu2 (xu2 iv 17 n x) 1 2 (nI (n + 1)) 17 q = xu2 (xu2 sg 84 n x) 79 8 (nI (n + 1)) 84 q
    rw [xu2_k (k := 1) (by decide), xu2_k (k := 79) (by decide)]
    by_cases e : q = n
    · rw [e, xu2_s, xu2_s]
    · rw [xu2_j e, xu2_j e]
      exact o2 q (by omega)
  · rw [v4]; exact (congrFun (hr 18 (by decide) (by decide)) i).trans (o3 i hi)
  · show xu2 (xu2 iv 17 n x) 1 2 (nI (n + 1)) 1 5 = xu2 (xu2 sg 84 n x) 79 8 (nI (n + 1)) 79 6
    rw [xu2_j (by decide), xu2_k (by decide), s79 6 (by decide)]
    exact o4
  · show xu2 (xu2 iv 17 n x) 1 2 (nI (n + 1)) 1 6 = xu2 (xu2 sg 84 n x) 79 8 (nI (n + 1)) 79 9
    rw [xu2_j (by decide), xu2_k (by decide), s79 9 (by decide)]
    exact o5
/-- a gate -/
theorem CX.gt (hC : CX iv lg sg tw) {w : Nat} (hw : w < cnt (vL sg) 0) : CX (xu2 iv 7 w x) lg (xu2 sg 80 (5 * w + 4) x) tw := by
  obtain ⟨⟨hy, hpp, ho⟩, hk, hrd, htp, hst⟩ := id hC
  have v0 : vL (xu2 sg 80 (5 * w + 4) x) 0 = vL sg 0 := vL_ne (by decide) (by decide) (by decide) (by decide) (by decide) (by decide)
  have v2 : vL (xu2 sg 80 (5 * w + 4) x) 2 = vL sg 2 := vL_ne (by decide) (by decide) (by decide) (by decide) (by decide) (by decide)
  have v3 : vL (xu2 sg 80 (5 * w + 4) x) 3 = vL sg 3 := vL_ne (by decide) (by decide) (by decide) (by decide) (by decide) (by decide)
  have v4 : vL (xu2 sg 80 (5 * w + 4) x) 4 = vL sg 4 := vL_ne (by decide) (by decide) (by decide) (by decide) (by decide) (by decide)
  have v5 : vL (xu2 sg 80 (5 * w + 4) x) 5 = vL sg 5 := vL_ne (by decide) (by decide) (by decide) (by decide) (by decide) (by decide)
  have hr : ∀ k, k ≠ 7 → xu2 iv 7 w x k = iv k := fun k hk => xu2_ne hk
  have e1 : ∀ j, j ≠ 5 * w + 4 → vL (xu2 sg 80 (5 * w + 4) x) 1 j = vL sg 1 j := fun j hj => xu2_j hj
  refine hC.of ?_ (hpp.keep (fun i a b => hr _ (by omega)) (by rw [v0]) (fun j _ => by rw [v2]) (fun j _ => by rw [v3])) (ho.keep (hr _ (by omega)) (hr _ (by omega)) (hr _ (by omega)) (by rw [v0]) (by rw [v0]) (by rw [v0]) (fun j _ => by rw [v5]) (fun j _ => by rw [v4])) (hrd.keep (fun k a b => hr k (by omega)) (by rw [v0]) (fun w' f _ _ => e1 _ (by omega))) (fun k a b => hr k (by omega)) (by rw [hr 0 (by omega)]) (by rw [hr 53 (by omega)]) (hr 54 (by omega)) (hr 69 (by omega)) (fun k a b => hr k (by omega)) (xu2_k (by decide)) (xu2_k (by decide)) (xu2_ne (by decide)) (xu2_ne (by decide)) (xu2_ne (by decide)) (xu2_ne (by decide)) (xu2_ne (by decide))
  have e0 : cnt (vL (xu2 sg 80 (5 * w + 4) x)) 0 = cnt (vL sg) 0 := by unfold cnt; rw [v0]
  refine ⟨?_, fun q hq => ?_⟩
  · rw [v0]; exact (congrFun (hr 2 (by decide)) 0).trans hy.1
  · rw [e0] at hq
    obtain ⟨b0, b1, b2, b3, b4⟩ := hy.2 q hq
    rw [hr (1 + 2) (by decide), hr (1 + 3) (by decide), hr (1 + 4) (by decide), hr (1 + 5) (by decide), e1 _ (by omega), e1 _ (by omega), e1 _ (by omega), e1 _ (by omega)]
    refine ⟨b0, b1, b2, b3, ?_⟩
    show xu2 iv 7 w x 7 q = xu2 sg 80 (5 * w + 4) x 80 (5 * q + 4)
    by_cases e : q = w
    · rw [e, xu2_s, xu2_s]
    · rw [xu2_j e, xu2_j (by omega)]
      exact b4
end UPD
