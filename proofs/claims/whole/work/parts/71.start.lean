-- ===== the start, and the law's run =====
theorem IV0_given : ∀ j, j < 4 → (IV0 18 j = IV0 83 j ∧ 0 ≤ IV0 83 j ∧ IV0 83 j ≤ 9999) := by decide
theorem IV0_lane : ∀ j, j < 4 → IV0 98 j = -1 := by decide
theorem inv_init {iv : xIv} {lg : xLg} (h : ∀ k, k < 101 → ∀ j, iv k j = IV0 k j) (hl : ∀ k, k < 101 → ∀ j, lg k j = 0) : INV 0 iv lg := by
  have z : ∀ k j, k < 101 → IV0 k j = 0 → iv k j = 0 := fun k j hk e => (h k hk j).trans e
  have n0 : cnt (vL iv) 0 = 0 := by
    show (iv 79 1).toNatClampNeg = 0
    rw [z 79 1 (by decide) rfl]; rfl
  have n1 : cnt (vL iv) 1 = 0 := by
    show (iv 79 3).toNatClampNeg = 0
    rw [z 79 3 (by decide) rfl]; rfl
  have n2 : cnt (vL iv) 2 = 0 := by
    show (iv 79 8).toNatClampNeg = 0
    rw [z 79 8 (by decide) rfl]; rfl
  have k0 : iv 79 24 = 0 := z 79 24 (by decide) rfl
  refine ⟨iv, lg 100, ⟨⟨⟨?_, fun i hi => ?_⟩, ⟨?_, fun i hi => ?_, fun j hj => ?_⟩, ⟨?_, fun i hi => ?_, fun j hj => ?_, ?_, ?_⟩⟩, ⟨?_, Or.inl k0, fun w => ?_⟩, RD.zero (z 37 2 (by decide) rfl), ⟨0, by decide, z 53 1 (by decide) rfl, z 79 12 (by decide) rfl, fun j hj => absurd hj (Nat.not_lt_zero j), fun j hj => z 69 j (by decide) rfl⟩, fun s hs => ?_⟩, ⟨⟨rfl, rfl, rfl, rfl, rfl, rfl, rfl⟩, ⟨rfl, rfl, rfl, rfl, rfl, rfl, rfl, rfl, rfl, rfl⟩, rfl⟩, ⟨⟨?_, ?_, ?_, ?_, ?_, fun w hw => ?_, fun p hp => ?_, fun j hj => ?_, fun j hj => ?_, fun x hx => ?_⟩, fun w => ?_⟩⟩
  · exact (z 2 0 (by decide) rfl).trans (z 79 1 (by decide) rfl).symm
  · rw [n0] at hi; exact absurd hi (Nat.not_lt_zero i)
  · exact (z 8 0 (by decide) rfl).trans (z 79 3 (by decide) rfl).symm
  · rw [n1] at hi; exact absurd hi (Nat.not_lt_zero i)
  · exact (z 16 j (by decide) rfl).trans (z 82 j (by decide) rfl).symm
  · exact (z 1 2 (by decide) rfl).trans (z 79 8 (by decide) rfl).symm
  · rw [n2] at hi; exact absurd hi (Nat.not_lt_zero i)
  · exact (h 18 (by decide) j).trans ((IV0_given j hj).1.trans (h 83 (by decide) j).symm)
  · exact (z 1 5 (by decide) rfl).trans (z 79 6 (by decide) rfl).symm
  · exact (z 1 6 (by decide) rfl).trans (z 79 9 (by decide) rfl).symm
  · exact (z 0 2 (by decide) rfl).trans k0.symm
  · rw [k0] at w; exact absurd w (by decide)
  · have l1 : iv 98 s = -1 := (h 98 (by decide) s).trans (IV0_lane s hs)
    have z99 : iv 99 s = 0 := z 99 s (by decide) rfl
    have hs4 : s = 0 ∨ s = 1 ∨ s = 2 ∨ s = 3 := by omega
    have zs : ∀ j, iv (71 + 2 * s) j = 0 := fun j => by
      rcases hs4 with rfl | rfl | rfl | rfl
      · exact z 71 j (by decide) rfl
      · exact z 73 j (by decide) rfl
      · exact z 75 j (by decide) rfl
      · exact z 77 j (by decide) rfl
    exact ⟨Or.inl ⟨l1, zs 0⟩, (zs 2).trans z99.symm, ⟨0, by decide, z99⟩, fun i hi => (hl _ (by omega) i).trans (hl 100 (by decide) _).symm⟩
  · rw [n0]; exact ⟨z 79 1 (by decide) rfl, by decide⟩
  · rw [n1]; exact ⟨z 79 3 (by decide) rfl, by decide⟩
  · rw [n2]; exact ⟨z 79 8 (by decide) rfl, by decide⟩
  · show isN (iv 79 6) 3
    rw [z 79 6 (by decide) rfl]; decide
  · show 0 ≤ iv 79 9 ∧ iv 79 9 ≤ 1000000000
    rw [z 79 9 (by decide) rfl]; decide
  · rw [n0] at hw; exact absurd hw (Nat.not_lt_zero w)
  · rw [n1] at hp; exact absurd hp (Nat.not_lt_zero p)
  · show 0 ≤ (iv 82 j).toInt ∧ (iv 82 j).toInt ≤ 99999 * (0 : Nat)
    rw [z 82 j (by decide) rfl]; decide
  · show 0 ≤ iv 83 j ∧ iv 83 j ≤ 9999
    rw [h 83 (by decide) j]; exact (IV0_given j hj).2
  · rw [n2] at hx; exact absurd hx (Nat.not_lt_zero x)
  · rw [k0] at w; exact absurd w (by decide)
theorem SH_room : SH.length ≤ 600000 ∧ xsz SH ≤ 7302250 := by decide +kernel
theorem x_law : xLaw := fun L xs hL => law_init (fun iv lg h hl => law_l hL (fun _ _ => ⟨rfl, SH_room⟩) 513 0 0 iv lg (by omega) (by omega) rfl (inv_init h hl))
theorem whole_start {p : Program} {e : Env} {s : State} {m : MethodId} {below : List Frame} {meth : Method} {c : Code} (l : Launch) {b L : Nat} {xs : Nat → Int32} (hL : L ≤ 3072) (C0 : lw_At p s m meth c b L xs) : W p l e room_1 s m #[Value.ref b] below meth c s.heap [] 0 0 (lw_Z below #[Value.ref b] s) (entryFrame m ([Value.ref b] : List Value).toArray 4) := whole_open xkOK xkinst x_law l hL C0
