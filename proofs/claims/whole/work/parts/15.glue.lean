/-! THE CLAIM OUT OF ONE WALK OF THE LAW'S BODY. Your part is whole_start (and what it stands on); all else here is the same for every law, but numbers. -/
def R_law : String := "StepRingsLaw"
def lw_P (b : Addr) (xs : List Int32) (args : Array Value) (s : State) : Prop := args = #[.ref b] ∧ s.IntsAt b xs ∧ xs.length ≤ 3072 ∧ (Jvm.Cond.and given_1 narrow_1).before args s = true
def lw_Q (_ : Array Value) (s : State) (o : Outcome) (t : State) : Prop := o = .returned (some (.int 1)) ∧ Framed s o t [] 600000 7302250
def lw_Z (below : List Frame) (a : Array Value) (s : State) : State → Prop := fun t => ∃ o, t.status = .running ∧ Ended t below o ∧ lw_Q a s o t
/-- the law's own end, with 1 on the stack, nothing written that was there before, its room as the claim has it -/
theorem lw_ret {p : Program} {l : Launch} {e : Env} {s : State} {m : MethodId} {below : List Frame} {meth : Method} {c : Code} {b : Nat} (hx : p.tables.exec = Jvm.exec) (hb : c.code = code) (hr : meth.sig.returnType = ret) (hlocks : meth.locks = false) {pc : Nat} {H : Heap} {ls : Array Slot} (hdg : decode code pc = .ok (.ireturn, 1)) : W p l e room_1 s m #[Value.ref b] below meth c H [] 600000 7302250 (lw_Z below #[Value.ref b] s) (F0 m pc ls [.int 1]) := by
  intro T hT X
  obtain ⟨fs, hret, hrun, hended, hW, hframe⟩ := X.leave (v := some (.int 1)) (hlocks := hlocks) (fun h => by rw [hr] at h; cases h)
  have hmeth' : T.vm.method? m = some meth := X.method'
  refine ⟨T.setFrames fs, ?_, .returned (some (.int 1)), hrun, hended, rfl, ⟨_, rfl⟩, hW, hframe⟩
  jvm_step X.here [X.here.top, hx, hb, hdg, hmeth', hr, ret, narrow_b1]
  (try refine ⟨rfl, ?_⟩); (try refine ⟨rfl, ?_⟩)
  first | (intro acts; rw [hret _ acts rfl rfl rfl]) | rw [hret _ _ rfl rfl rfl]
  exact Steps.refl _
/-- what holds at the law's entry: the machine, the code, the tables' words (any of lw_tbl by 'hts w (by decide +kernel)'), the script of L ints xs at the cell b, what the Statement gives of the start (any of its parts by flat_of_before) -/
def lw_At (p : Program) (s : State) (m : MethodId) (meth : Method) (c : Code) (b L : Nat) (xs : Nat → Int32) : Prop :=
  p.tables.exec = Jvm.exec ∧ c.code = code ∧ meth.sig.returnType = ret ∧ c.maxLocals = 4 ∧ s.vm.findClass R_law = some m.cls ∧ (∀ w ∈ lw_tbl, w.before #[Value.ref b] s = true) ∧ va_X b L xs s s.heap ∧ b < s.heap.size ∧ meth.locks = false ∧ (Jvm.Cond.and given_1 narrow_1).before #[Value.ref b] s = true
/-- what is left to show: the law, run by the small machine, answers 1 -/
def xLaw : Prop := ∀ (L : Nat) (xs : Nat → Int32), L ≤ 3072 → Sp L xs 0 [.ref 1000] [] [] (fun _ _ => 0) (fun _ _ => 0) (fun r sh _ _ _ => r = some (.int 1) ∧ sh.length ≤ 600000 ∧ xsz sh ≤ 7302250)
theorem xArrT {s : State} {cA comp : ClassId} {kA : Class} {ty : FieldType} (h2 : s.vm.classes[cA]? = some kA) (h3 : kA.kind = .array comp ty) : ArrOfT s cA ty := fun n z => ⟨fun k h => (by cases h), kA, h2, comp, h3⟩
theorem whole_open (hok : xOK) (hinst : ∀ (ci : Nat) (C : vw_C), xCl[ci]? = some C → Cond.instantiable C.1 C.2.2 ∈ xTs) (hLaw : xLaw) {p : Program} {e : Env} {s : State} {m : MethodId} {below : List Frame} {meth : Method} {c : Code} (l : Launch) {b L : Nat} {xs : Nat → Int32} (hL : L ≤ 3072) (C0 : lw_At p s m meth c b L xs) : W p l e room_1 s m #[Value.ref b] below meth c s.heap [] 0 0 (lw_Z below #[Value.ref b] s) (entryFrame m ([Value.ref b] : List Value).toArray 4) := by
  obtain ⟨hx, hb, hr, hml, hown, hts0, hX, hbl, hlocks, -⟩ := id C0
  have hts : ∀ w ∈ xTs, w.before #[Value.ref b] s = true := fun w hw => hts0 w (List.mem_filter.mp hw).1
  obtain ⟨n, r, sh', rf', iv', lg', he, hr1, hz1, hz2⟩ := hLaw L xs hL
  subst hr1
  -- the classes
  have hcl : ∀ ci : Nat, ∃ (cC : ClassId) (iS : Nat → Nat), ∀ C, xCl[ci]? = some C → u_Kn s C.1 C.2.1 C.2.2 cC iS := fun ci => by
    cases hC : xCl[ci]? with
    | none => exact ⟨default, fun _ => 0, fun C h => by cases h⟩
    | some C =>
      obtain ⟨ty, hty, hcls⟩ := hok.2.1 ci C hC
      obtain ⟨cC, iS, hk⟩ := u_known hts hcls.1 (hts _ (hinst ci C hC))
      exact ⟨cC, iS, fun C2 h => by cases h; exact hk⟩
  obtain ⟨cI, kI, pI, fI, gI, qI⟩ := Cond.arrayClass_spec (hts _ hok.2.2.2.2.2.2.1)
  obtain ⟨cL, kL, pL, fL, gL, qL⟩ := Cond.arrayClass_spec (hts _ hok.2.2.2.2.2.2.2.1)
  obtain ⟨cC, kC, pC, fC, gC, qC⟩ := Cond.arrayClass_spec (hts _ hok.2.2.2.2.2.2.2.2.1)
  obtain ⟨pO, cO, kO, fO, -, gO, qO, wO⟩ := Cond.arrayOver_spec (hts _ hok.2.2.2.2.2.2.2.2.2.1)
  obtain ⟨pA, cA, kA, fA, -, gA, qA, wA⟩ := arrayOverA_spec (hts _ hok.2.2.2.2.2.2.2.2.2.2)
  obtain ⟨dA, d0, d1, d2, d3, d4⟩ : ∃ dA : Nat → ClassId, dA 0 = cI ∧ dA 1 = cL ∧ dA 2 = cC ∧ dA 3 = cA ∧ dA 4 = cO := ⟨fun k => match k with | 0 => cI | 1 => cL | 2 => cC | 3 => cA | _ => cO, rfl, rfl, rfl, rfl, rfl⟩
  have hK : va_K (fun ci => Classical.choose (hcl ci), fun ci => Classical.choose (Classical.choose_spec (hcl ci))) xCl (xtys dA) s := by
    refine ⟨fun ci C hC => Classical.choose_spec (Classical.choose_spec (hcl ci)) C hC, fun k q hq => ?_⟩
    match k, hq with
    | 0, hq => cases hq; rw [d0]; exact ⟨xArrT gI qI, fI⟩
    | 1, hq => cases hq; rw [d1]; exact ⟨xArrT gL qL, fL⟩
    | 2, hq => cases hq; rw [d2]; exact ⟨xArrT gC qC, fC⟩
    | 3, hq => cases hq; rw [d3]; exact ⟨xArrT gA qA, wA⟩
    | 4, hq => cases hq; rw [d4]; exact ⟨xArrT gO qO, kO, pO, gO, qO, fO, wO⟩
    | k + 5, hq => simp [xtys] at hq
  have hl := lv_entry ([.ref b]) (n := 4) (Nat.le_of_ble_eq_true rfl)
  rw [lg_entry_eq]
  generalize (lg_sl ([.ref b]) ++ List.replicate (4 - (lg_sl ([.ref b])).length) Slot.unset).toArray = ls at hl ⊢
  have hl2 : lv_has ls 4 (xal (fun _ => b) 0 (xent 4 [.ref 1000])) := ⟨hl.1, hl.2.1, fun q hq => hl.2.2 q (xent_args _ _ _ hq)⟩
  have k1 := @xsnd L xs l hok n p e room_1 s m #[Value.ref b] below meth c (lw_Z below #[Value.ref b] s) _ dA (fun q : Nat => s.heap.size ≤ q) (fun _ => b) b 0 0 0 0 (some (.int 1)) sh' rf' iv' lg' (fun _ => b) s.heap [] ls (xent 4 [.ref 1000]) [] [] [] (fun _ _ => 0) (fun _ _ => 0) he
    ⟨⟨⟨hx, hb, hml, hown, fun z => absurd z (by omega)⟩, hts, ⟨by decide +kernel, by decide +kernel⟩, hK, fun _ h => h, fun _ => ⟨hX, hbl, Nat.not_le.mpr hbl⟩⟩, ⟨⟨Nat.le_trans (Nat.sub_le _ _) hz1, Nat.le_trans (Nat.sub_le _ _) hz2⟩, Nat.le_refl _, Nat.le_refl _⟩, ⟨fun _ _ => rfl, rfl⟩, ⟨rfl, fun k q h => by simp [xws] at h, ⟨fun i j p q h => by simp [xws] at h, fun k q h => by simp [xws] at h⟩, va_S.rf⟩, hl2, ?_⟩
  · exact k1
  · intro a H locs ls' bp _ hWd hRt
    have hd : decode (xccf 0) bp = .ok (.ireturn, 1) := by
      rcases hRt with ⟨v, h1, h2, h3⟩ | ⟨v, h1, -⟩ | ⟨v, t, h1, -⟩ | ⟨h1, -⟩
      · exact h2
      · cases h1
      · cases h1
      · cases h1
    refine va_forget (fun q hq => hWd.2.2.2.2.2 q hq) ?_
    refine W.widen (k := 600000) (n := 7302250) (Nat.le_trans (Nat.sub_le _ _) hz1) (Nat.le_trans (Nat.sub_le _ _) hz2) ?_
    exact lw_ret hx hb hr hlocks hd
