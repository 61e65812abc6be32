-- ===== the law's loop =====
section LAWL
variable {L : Nat} {xs : Nat → Int32} {Q : xQ}
set_option maxRecDepth 100000 in
theorem law_l (hL : L ≤ 3072) (kq : ∀ iv lg, Q (some (.int 1)) SH RF iv lg) : ∀ (r t : Nat) (X : Int32) (iv : xIv) (lg : xLg), t + r = 513 → 6 * t ≤ L + 5 → X = nI (6 * t) → INV t iv lg → Wp L xs 0 10 [some (.ref 1000), some (.ref 0), some (.ref 79), some (.int X)] [] SH RF iv lg Q
  | 0, t, X, iv, lg, h, hl, hX, hI => by omega
  | r + 1, t, X, iv, lg, h, hl, hX, hI => by
    subst hX
    have e6 : (nI L - 6).toInt = (L : Int) - 6 := by rw [subI] <;> rw [nI_toInt (by omega), show (6 : Int32).toInt = 6 from by decide] <;> omega
    by_cases c : 6 * t + 6 ≤ L
    · have hle : ¬ nI L - 6 < nI (6 * t) := by rw [it, e6, nI_toInt (by omega)]; omega
      have ht : t < 512 := by omega
      have v0 : vp_in (nI (6 * t)) L := vp_N (by omega) (by omega)
      have kk : ∀ iv' lg', INV (t + 1) iv' lg' → Wp L xs 0 986 [some (.ref 1000), some (.ref 0), some (.ref 79), some (.int (nI (6 * t)))] [] SH RF iv' lg' Q := fun iv' lg' I' => by
        have nx := law_l hL kq r (t + 1) (nI (6 * t) + 6) iv' lg' (by omega) (by omega) (by rw [show nI (6 * t) + 6 = nI (6 * t + 6) from ni_a _ 6]; congr 1) I'
        refine wgo [10] 100 ?_
        exact nx
      refine wgo [22, 69, 104, 131, 168, 195, 232, 269, 296, 313, 364, 371, 378, 395, 422, 459, 496, 533, 560, 567, 604, 621, 628, 645, 672, 709, 746, 773, 780, 787, 824, 861, 878, 949, 986] 100 ?_
      refine And.intro (fun z => absurd z hle) (fun _ => ?_)
      refine And.intro v0 ?_
      refine And.intro (fun _ => cs_way hL c hI ht kk) (fun _ => ?_)
      refine And.intro (fun _ => cs_gate hL c hI ht kk) (fun _ => ?_)
      refine And.intro (fun _ => cs_told hL c hI ht kk) (fun _ => ?_)
      refine And.intro (fun _ => cs_person hL c hI ht kk) (fun _ => ?_)
      refine And.intro (fun _ => cs_of hL c hI ht kk) (fun _ => ?_)
      refine And.intro (fun _ => cs_costs hL c hI ht kk) (fun _ => ?_)
      refine And.intro (fun _ => cs_far hL c hI ht kk) (fun _ => ?_)
      refine And.intro (fun _ => cs_given hL c hI ht kk) (fun _ => ?_)
      refine And.intro (fun _ => cs_rule hL c hI ht kk) (fun _ => ?_)
      refine And.intro (fun _ => cs_type hL c hI ht kk) (fun _ => ?_)
      refine And.intro (fun _ => cs_town hL c hI ht kk) (fun _ => ?_)
      refine And.intro (fun _ => cs_people hL c hI ht kk) (fun _ => ?_)
      refine And.intro (fun _ => cs_count hL c hI ht kk) (fun _ => ?_)
      refine And.intro (fun _ => cs_go hL c hI ht kk) (fun _ => ?_)
      refine And.intro (fun _ => cs_carry hL c hI ht kk) (fun _ => ?_)
      refine And.intro (fun _ => cs_lend hL c hI ht kk) (fun _ => ?_)
      refine And.intro (fun _ => cs_pay hL c hI ht kk) (fun _ => ?_)
      refine And.intro (fun _ => cs_owes hL c hI ht kk) (fun _ => ?_)
      refine And.intro (fun _ => cs_month hL c hI ht kk) (fun _ => ?_)
      refine And.intro (fun _ => cs_meet hL c hI ht kk) (fun _ => ?_)
      refine And.intro (fun _ => cs_errand hL c hI ht kk) (fun _ => ?_)
      refine And.intro (fun _ => cs_rest hL c hI ht kk) (fun _ => ?_)
      refine And.intro (fun _ => cs_parted hL c hI ht kk) (fun _ => ?_)
      refine And.intro (fun _ => cs_tour hL c hI ht kk) (fun _ => ?_)
      refine And.intro (fun _ => cs_wells hL c hI ht kk) (fun _ => ?_)
      refine And.intro (fun _ => cs_hold hL c hI ht kk) (fun _ => ?_)
      refine And.intro (fun _ => cs_stops hL c hI ht kk) (fun _ => ?_)
      refine And.intro (fun _ => cs_image hL c hI ht kk) (fun _ => ?_)
      refine And.intro (fun _ => cs_restore hL c hI ht kk) (fun _ => ?_)
      refine And.intro (fun _ => cs_lies hL c hI ht kk) (fun _ => ?_)
      refine And.intro (fun _ => cs_sheet hL c hI ht kk) (fun _ => ?_)
      refine And.intro (fun _ => cs_drop hL c hI ht kk) (fun _ => ?_)
      refine And.intro (fun _ => cs_item hL c hI ht kk) (fun _ => ?_)
      refine And.intro (fun _ => cs_film hL c hI ht kk) (fun _ => ?_)
      exact kk iv lg (hI.wk (Nat.le_succ t))
    · have hgt : nI L - 6 < nI (6 * t) := by rw [it, e6, nI_toInt (by omega)]; omega
      refine wgo [22, 69, 104, 131, 168, 195, 232, 269, 296, 313, 364, 371, 378, 395, 422, 459, 496, 533, 560, 567, 604, 621, 628, 645, 672, 709, 746, 773, 780, 787, 824, 861, 878, 949, 986] 100 ?_
      refine And.intro (fun _ => ?_) (fun z => absurd hgt z)
      exact And.intro (Or.inr rfl) (kq iv lg)
end LAWL
