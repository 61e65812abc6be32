-- ===== what stands at a point of a method's walk =====
def xneed (w : Cond) : Bool := goodWord w || (match w with
  | .methodLinkNest _ _ _ _ => true
  | .arrayOver _ => true
  | _ => false)
def xTs : List Cond := lw_tbl.filter xneed
/-- what is known of a class of the tables -/
def xokCls (ci : Nat) (C : vw_C) (ty : Nat → FieldType) : Prop := (∀ w ∈ u_ws C.1 C.2.1 C.2.2, w ∈ xTs) ∧ (∀ k, k < C.2.2 → parseFieldDescriptor (C.2.1 k).2.2.1 = some (ty k)) ∧ (∀ a, a < C.2.2 → ∀ b, b < C.2.2 → a ≠ b → (C.2.1 a).2.1 ≠ (C.2.1 b).2.1) ∧
  (∀ j, j < C.2.2 → xkd ci j = Nat.beq (xkty (ty j)) 1 ∧ defaultValue (ty j) = if xkd ci j = true then .null else .int 0)
/-- all that is checked of the tables by running -/
def xOK : Prop := (∀ M, xokM M = true) ∧ (∀ ci C, xCl[ci]? = some C → ∃ ty, xTys[ci]? = some ty ∧ xokCls ci C ty) ∧ (∀ w ∈ lw_tbl, xneed w = true → goodWord w = true ∨ (∃ a i y h, w = .methodLinkNest a i y h) ∨ (∃ C, w = .arrayOver (.object C)) ∨ w = .arrayOver (.array .int)) ∧
  (Cond.code Lib.Math.max.name Lib.Math.max.code 2 (some .int) ∈ xTs ∧ Cond.static Lib.Math.max.name ∈ xTs ∧ Cond.code Lib.Math.min.name Lib.Math.min.code 2 (some .int) ∈ xTs ∧ Cond.static Lib.Math.min.name ∈ xTs ∧ Cond.initialized "java/lang/Math" ∈ xTs) ∧
  (Cond.native arraycopyName ∈ xTs ∧ Cond.static arraycopyName ∈ xTs ∧ Cond.initialized "java/lang/System" ∈ xTs) ∧ (Cond.instanceMethod Lib.objectInit ∈ xTs ∧ Cond.code Lib.objectInit ⟨#[0xb1]⟩ 1 none ∈ xTs) ∧
  (Cond.arrayClass .int ∈ xTs ∧ Cond.arrayClass .long ∈ xTs ∧ Cond.arrayClass .char ∈ xTs ∧ Cond.arrayOver (.object "StepRings$Sheet") ∈ xTs ∧ Cond.arrayOver (.array .int) ∈ xTs)
def xCx (p : Program) (R : Room) (s : State) (m : MethodId) (args : Array Value) (meth : Method) (c : Code) (D : va_G) (dA : Nat → ClassId) (A : Nat → Prop) (L : Nat) (xs : Nat → Int32) (b M : Nat) : Prop :=
  (p.tables.exec = Jvm.exec ∧ c.code = xccf M ∧ c.maxLocals = xml M ∧ s.vm.findClass (xYf M).cls = some m.cls ∧ (0 < M → meth.name = (xYf M).name)) ∧ (∀ w ∈ xTs, w.before args s = true) ∧ (xfrf M ≤ R.frames ∧ xlof M ≤ R.locals) ∧ va_K D xCl (xtys dA) s ∧ (∀ q, s.heap.size ≤ q → A q) ∧ (M = 0 → va_X b L xs s s.heap ∧ b < s.heap.size ∧ ¬ A b)
def xWd (D : va_G) (dA : Nat → ClassId) (A : Nat → Prop) (s : State) (a : Nat → Nat) (sh : xSh) (rf : xRf) (iv : xIv) (lg : xLg) (H : Heap) (locs : List Loc) : Prop := rf.length = sh.length ∧ va_P D xCl (xws dA a sh rf iv lg) H ∧ va_D A (xws dA a sh rf iv lg) ∧ va_S A s.heap H locs
def xRt (M bp : Nat) (r : Option Value) : Prop :=
  (∃ v, r = some (.int v) ∧ decode (xccf M) bp = .ok (.ireturn, 1) ∧ (xretf M = some .int ∨ (xretf M = some .boolean ∧ (v = 0 ∨ v = 1)))) ∨ (∃ v, r = some (.long v) ∧ decode (xccf M) bp = .ok (.lreturn, 1) ∧ xretf M = some .long) ∨ (∃ v t, r = some (.ref v) ∧ decode (xccf M) bp = .ok (.areturn, 1) ∧ xretf M = some (.array t)) ∨ (r = none ∧ decode (xccf M) bp = .ok (.return_, 1) ∧ xretf M = none)
def xEd (p : Program) (l : Launch) (e : Env) (R : Room) (s : State) (m : MethodId) (args : Array Value) (below : List Frame) (meth : Method) (c : Code) (Q : State → Prop) (D : va_G) (dA : Nat → ClassId) (A : Nat → Prop) (a0 : Nat → Nat) (c0 s0 M : Nat) (r : Option Value) (sh' : xSh) (rf' : xRf) (iv' : xIv) (lg' : xLg) : Prop :=
  ∀ (a : Nat → Nat) (H : Heap) (locs : List Loc) (ls : Array Slot) (bp : Nat), (∀ k, k < c0 ∨ k = 1000 → a k = a0 k) → xWd D dA A s a sh' rf' iv' lg' H locs → xRt M bp r → W p l e R s m args below meth c H locs (sh'.length - c0) (xsz sh' - s0) Q (F0 m bp ls (r.toList.map (xtv a)))
def xS (L : Nat) (xs : Nat → Int32) (p : Program) (l : Launch) (e : Env) (R : Room) (s : State) (m : MethodId) (args : Array Value) (below : List Frame) (meth : Method) (c : Code) (Q : State → Prop) (D : va_G) (dA : Nat → ClassId) (A : Nat → Prop) (a0 : Nat → Nat) (b c0 s0 M : Nat) (r : Option Value) (sh' : xSh) (rf' : xRf) (iv' : xIv) (lg' : xLg) (a : Nat → Nat) (H : Heap) (locs : List Loc) (ls : Array Slot) (lv : xLv) (sh : xSh) (rf : xRf) (iv : xIv) (lg : xLg) : Prop :=
  xCx p R s m args meth c D dA A L xs b M ∧ ((sh'.length - c0 ≤ R.cells ∧ xsz sh' - s0 ≤ R.slots) ∧ c0 ≤ sh.length ∧ s0 ≤ xsz sh) ∧ ((∀ k, k < c0 ∨ k = 1000 → a k = a0 k) ∧ a0 1000 = b) ∧ xWd D dA A s a sh rf iv lg H locs ∧ lv_has ls (xml M) (xal a 0 lv) ∧ xEd p l e R s m args below meth c Q D dA A a0 c0 s0 M r sh' rf' iv' lg'
/-- the machine does what the small machine does -/
def xG (L : Nat) (xs : Nat → Int32) (l : Launch) (n : Nat) : Prop := ∀ {p : Program} {e : Env} {R : Room} {s : State} {m : MethodId} {args : Array Value} {below : List Frame} {meth : Method} {c : Code} {Q : State → Prop} {D : va_G} {dA : Nat → ClassId} {A : Nat → Prop} {a0 : Nat → Nat} {b c0 s0 M pc : Nat} {r : Option Value} {sh' : xSh} {rf' : xRf} {iv' : xIv} {lg' : xLg} {a : Nat → Nat} {H : Heap} {locs : List Loc} {ls : Array Slot} {lv : xLv} {st : List Value} {sh : xSh} {rf : xRf} {iv : xIv} {lg : xLg},
  xexec L xs n M pc lv st (sh, rf, iv, lg) = some (r, sh', rf', iv', lg') → xS L xs p l e R s m args below meth c Q D dA A a0 b c0 s0 M r sh' rf' iv' lg' a H locs ls lv sh rf iv lg →
  W p l e R s m args below meth c H locs (sh.length - c0) (xsz sh - s0) Q (F0 m (xbp M pc) ls (st.map (xtv a)))
theorem xrun_none {g : Nat → Nat → xLv → List Value → xMem → Option (Option Value × xMem)} {M : Nat} {y : Option Value × xMem} (h : xrun g M none = some y) : False := by cases h
theorem xrun_nth {g : Nat → Nat → xLv → List Value → xMem → Option (Option Value × xMem)} {M : Nat} {y : Option Value × xMem} {α : Type} {l : List α} {i : Nat} {f : α → xR} (h : xrun g M (xnth l i none f) = some y) : ∃ x, l[i]? = some x ∧ xrun g M (f x) = some y := by
  rw [xnth_eq] at h
  cases hx : l[i]? with
  | none => rw [hx] at h; cases h
  | some x => rw [hx] at h; exact ⟨x, rfl, h⟩
theorem xrun_guard {g : Nat → Nat → xLv → List Value → xMem → Option (Option Value × xMem)} {M : Nat} {y : Option Value × xMem} {c : Bool} {f : xR} (h : xrun g M (xguard c none f) = some y) : c = true ∧ xrun g M f = some y := by
  cases c with
  | true => exact ⟨rfl, h⟩
  | false => cases h
theorem xrun_sto {g : Nat → Nat → xLv → List Value → xMem → Option (Option Value × xMem)} {M : Nat} {y : Option Value × xMem} {lv : xLv} {i : Nat} {v : Value} {f : xLv → xR} (h : xrun g M (xsto lv i v none f) = some y) : i < lv.length ∧ xrun g M (f (lv.set i (some v))) = some y ∧ ∀ (j : Nat) (w : Value), j + 1 = i → lv[j]? = some (some w) → ¬ w.category = 2 := by
  have hne : (none : xR) ≠ xsto lv i v none f := fun z => by rw [← z] at h; cases h
  obtain ⟨h1, h2, h3⟩ := xsto_inv (rfl : xsto lv i v none f = _) hne
  rw [← h2] at h
  exact ⟨h1, h, h3⟩
theorem xrun_setrr {g : Nat → Nat → xLv → List Value → xMem → Option (Option Value × xMem)} {M : Nat} {y : Option Value × xMem} {rf : xRf} {k j : Nat} {v : Option Nat} {f : xRf → xR} (h : xrun g M (xsetrr rf k j v none f) = some y) : ∃ rf' : xRf, xrun g M (f rf') = some y ∧ rf'.length = rf.length ∧ ∀ k' j', xrfo rf' k' j' = if k' = k ∧ j' = j then v else xrfo rf k' j' := by
  have hne : (none : xR) ≠ xsetrr rf k j v none f := fun z => by rw [← z] at h; cases h
  obtain ⟨rf', h1, h2, h3⟩ := xsetrr_inv rf k none f _ rfl hne
  rw [← h1] at h
  exact ⟨rf', h, h2, h3⟩
theorem xrun_take {g : Nat → Nat → xLv → List Value → xMem → Option (Option Value × xMem)} {M : Nat} {y : Option Value × xMem} {n : Nat} {st : List Value} {f : List Value → List Value → xR} (h : xrun g M (xtake n st [] none f) = some y) : ∃ as st', st = as.reverse ++ st' ∧ as.length = n ∧ xrun g M (f as st') = some y := by
  have hne : (none : xR) ≠ xtake n st [] none f := fun z => by rw [← z] at h; cases h
  obtain ⟨as, st', h1, h2, h3⟩ := xtake_inv n st [] none f _ rfl hne
  rw [← h3, List.append_nil] at h
  exact ⟨as, st', h1, h2, h⟩
theorem xrun_C {g : Nat → Nat → xLv → List Value → xMem → Option (Option Value × xMem)} {M : Nat} {y : Option Value × xMem} {c : Prop} {nx : Nat} {lv : xLv} {st : List Value} {sh : xSh} {rf : xRf} {iv : xIv} {lg : xLg} (h : xrun g M (xC c nx lv st sh rf iv lg) = some y) : c ∧ g M nx lv st (sh, rf, iv, lg) = some y := by
  have h : xite c (g M nx lv st (sh, rf, iv, lg)) none = some y := h
  by_cases hc : c
  · rw [xite_t hc] at h; exact ⟨hc, h⟩
  · rw [xite_f hc] at h; cases h
section XI
variable {L : Nat} {xs : Nat → Int32} {p : Program} {l : Launch} {e : Env} {R : Room} {s : State} {m : MethodId} {args : Array Value} {below : List Frame} {meth : Method} {c : Code} {Q : State → Prop} {D : va_G} {dA : Nat → ClassId} {A : Nat → Prop} {a0 : Nat → Nat} {b c0 s0 M : Nat} {r : Option Value} {sh' : xSh} {rf' : xRf} {iv' : xIv} {lg' : xLg} {a : Nat → Nat} {H : Heap} {locs : List Loc} {ls : Array Slot} {lv : xLv} {st : List Value} {sh : xSh} {rf : xRf} {iv : xIv} {lg : xLg} {n bp nx : Nat} {os : List Nat} {cv : Value}
theorem xS.mem {rf2 : xRf} {iv2 : xIv} {lg2 : xLg} {H2 : Heap} {locs2 : List Loc} (hS : xS L xs p l e R s m args below meth c Q D dA A a0 b c0 s0 M r sh' rf' iv' lg' a H locs ls lv sh rf iv lg) (h1 : rf2.length = sh.length) (hP : va_P D xCl (xws dA a sh rf2 iv2 lg2) H2) (hD : va_D A (xws dA a sh rf2 iv2 lg2)) (hs : va_S A s.heap H2 locs2) : xS L xs p l e R s m args below meth c Q D dA A a0 b c0 s0 M r sh' rf' iv' lg' a H2 locs2 ls lv sh rf2 iv2 lg2 :=
  ⟨hS.1, hS.2.1, hS.2.2.1, ⟨h1, hP, hD, hs⟩, hS.2.2.2.2⟩
theorem xS.lvs {ls2 : Array Slot} {lv2 : xLv} (hS : xS L xs p l e R s m args below meth c Q D dA A a0 b c0 s0 M r sh' rf' iv' lg' a H locs ls lv sh rf iv lg) (h : lv_has ls2 (xml M) (xal a 0 lv2)) : xS L xs p l e R s m args below meth c Q D dA A a0 b c0 s0 M r sh' rf' iv' lg' a H locs ls2 lv2 sh rf iv lg :=
  ⟨hS.1, hS.2.1, hS.2.2.1, hS.2.2.2.1, h, hS.2.2.2.2.2⟩
theorem xi_push (ih : xG L xs l n) (hS : xS L xs p l e R s m args below meth c Q D dA A a0 b c0 s0 M r sh' rf' iv' lg' a H locs ls lv sh rf iv lg) (h : xrun (xexec L xs n) M (xN nx lv (cv :: st) sh rf iv lg) = some (r, sh', rf', iv', lg')) :
    W p l e R s m args below meth c H locs (sh.length - c0) (xsz sh - s0) Q (F0 m (xbp M nx) ls (xtv a cv :: st.map (xtv a))) := ih h hS
theorem xi_ldI (ih : xG L xs l n) (hS : xS L xs p l e R s m args below meth c Q D dA A a0 b c0 s0 M r sh' rf' iv' lg' a H locs ls lv sh rf iv lg) {i k : Nat} (hn : xbp M nx = k)
    (row : ∀ x : Int32, ls[i]? = some (.val (.int x)) → W p l e R s m args below meth c H locs (sh.length - c0) (xsz sh - s0) Q (F0 m k ls (.int x :: st.map (xtv a))) → W p l e R s m args below meth c H locs (sh.length - c0) (xsz sh - s0) Q (F0 m bp ls (st.map (xtv a))))
    (h : xrun (xexec L xs n) M (xldI nx [i] lv st sh rf iv lg) = some (r, sh', rf', iv', lg')) : W p l e R s m args below meth c H locs (sh.length - c0) (xsz sh - s0) Q (F0 m bp ls (st.map (xtv a))) := by
  unfold xldI at h
  dsimp only at h
  rw [xnth_eq] at h
  cases ho : lv[i]? with
  | none => rw [ho] at h; cases h
  | some o =>
    rw [ho] at h
    match o, ho, h with
    | some (.int x), ho, h =>
      have k1 := ih h hS
      rw [hn] at k1
      exact row x (xal_at hS.2.2.2.2.1 ho) k1
    | none, _, h => cases h
    | some (.long _), _, h => cases h
    | some (.float _), _, h => cases h
    | some (.double _), _, h => cases h
    | some (.ref _), _, h => cases h
    | some .null, _, h => cases h
    | some (.retAddr _), _, h => cases h
theorem xi_ldL (ih : xG L xs l n) (hS : xS L xs p l e R s m args below meth c Q D dA A a0 b c0 s0 M r sh' rf' iv' lg' a H locs ls lv sh rf iv lg) {i k : Nat} (hn : xbp M nx = k)
    (row : ∀ x : Int64, ls[i]? = some (.val (.long x)) → W p l e R s m args below meth c H locs (sh.length - c0) (xsz sh - s0) Q (F0 m k ls (.long x :: st.map (xtv a))) → W p l e R s m args below meth c H locs (sh.length - c0) (xsz sh - s0) Q (F0 m bp ls (st.map (xtv a))))
    (h : xrun (xexec L xs n) M (xldL nx [i] lv st sh rf iv lg) = some (r, sh', rf', iv', lg')) : W p l e R s m args below meth c H locs (sh.length - c0) (xsz sh - s0) Q (F0 m bp ls (st.map (xtv a))) := by
  unfold xldL at h
  dsimp only at h
  rw [xnth_eq] at h
  cases ho : lv[i]? with
  | none => rw [ho] at h; cases h
  | some o =>
    rw [ho] at h
    match o, ho, h with
    | some (.long x), ho, h =>
      have k1 := ih h hS
      rw [hn] at k1
      exact row x (xal_at hS.2.2.2.2.1 ho) k1
    | none, _, h => cases h
    | some (.int _), _, h => cases h
    | some (.float _), _, h => cases h
    | some (.double _), _, h => cases h
    | some (.ref _), _, h => cases h
    | some .null, _, h => cases h
    | some (.retAddr _), _, h => cases h
theorem xi_ldA (ih : xG L xs l n) (hS : xS L xs p l e R s m args below meth c Q D dA A a0 b c0 s0 M r sh' rf' iv' lg' a H locs ls lv sh rf iv lg) {i k : Nat} (hn : xbp M nx = k)
    (row : ∀ x : Nat, ls[i]? = some (.val (.ref x)) → W p l e R s m args below meth c H locs (sh.length - c0) (xsz sh - s0) Q (F0 m k ls (.ref x :: st.map (xtv a))) → W p l e R s m args below meth c H locs (sh.length - c0) (xsz sh - s0) Q (F0 m bp ls (st.map (xtv a))))
    (h : xrun (xexec L xs n) M (xldA nx [i] lv st sh rf iv lg) = some (r, sh', rf', iv', lg')) : W p l e R s m args below meth c H locs (sh.length - c0) (xsz sh - s0) Q (F0 m bp ls (st.map (xtv a))) := by
  unfold xldA at h
  dsimp only at h
  rw [xnth_eq] at h
  cases ho : lv[i]? with
  | none => rw [ho] at h; cases h
  | some o =>
    rw [ho] at h
    match o, ho, h with
    | some (.ref x), ho, h =>
      have k1 := ih h hS
      rw [hn] at k1
      exact row (a x) (xal_at hS.2.2.2.2.1 ho) k1
    | none, _, h => cases h
    | some (.int _), _, h => cases h
    | some (.float _), _, h => cases h
    | some (.double _), _, h => cases h
    | some (.long _), _, h => cases h
    | some .null, _, h => cases h
    | some (.retAddr _), _, h => cases h
theorem xi_stI (ih : xG L xs l n) (hS : xS L xs p l e R s m args below meth c Q D dA A a0 b c0 s0 M r sh' rf' iv' lg' a H locs ls lv sh rf iv lg) {i k : Nat} (hn : xbp M nx = k)
    (row : ∀ (x : Int32) (rest : List Value), (∀ ls2, lv_has ls2 (xml M) ((i, .int x) :: (xal a 0 lv).filter (fun q => !(q.1 == i) && !(q.1 + 1 == i && q.2.category == 2))) → W p l e R s m args below meth c H locs (sh.length - c0) (xsz sh - s0) Q (F0 m k ls2 rest)) → W p l e R s m args below meth c H locs (sh.length - c0) (xsz sh - s0) Q (F0 m bp ls (.int x :: rest)))
    (h : xrun (xexec L xs n) M (xstI nx [i] lv st sh rf iv lg) = some (r, sh', rf', iv', lg')) : W p l e R s m args below meth c H locs (sh.length - c0) (xsz sh - s0) Q (F0 m bp ls (st.map (xtv a))) := by
  unfold xstI at h
  dsimp only at h
  split at h
  · obtain ⟨_, h, h3⟩ := xrun_sto h
    refine row _ _ (fun ls2 hl2 => ?_)
    have k1 := ih h (hS.lvs (xal_set1 (v := .int _) h3 hl2))
    rw [hn] at k1
    exact k1
  · cases h
theorem xi_stA (ih : xG L xs l n) (hS : xS L xs p l e R s m args below meth c Q D dA A a0 b c0 s0 M r sh' rf' iv' lg' a H locs ls lv sh rf iv lg) {i k : Nat} (hn : xbp M nx = k)
    (row : ∀ (x : Nat) (rest : List Value), (∀ ls2, lv_has ls2 (xml M) ((i, .ref x) :: (xal a 0 lv).filter (fun q => !(q.1 == i) && !(q.1 + 1 == i && q.2.category == 2))) → W p l e R s m args below meth c H locs (sh.length - c0) (xsz sh - s0) Q (F0 m k ls2 rest)) → W p l e R s m args below meth c H locs (sh.length - c0) (xsz sh - s0) Q (F0 m bp ls (.ref x :: rest)))
    (h : xrun (xexec L xs n) M (xstA nx [i] lv st sh rf iv lg) = some (r, sh', rf', iv', lg')) : W p l e R s m args below meth c H locs (sh.length - c0) (xsz sh - s0) Q (F0 m bp ls (st.map (xtv a))) := by
  unfold xstA at h
  dsimp only at h
  split at h
  · obtain ⟨_, h, h3⟩ := xrun_sto h
    refine row _ _ (fun ls2 hl2 => ?_)
    have k1 := ih h (hS.lvs (xal_set1 (v := .ref _) h3 hl2))
    rw [hn] at k1
    exact k1
  · cases h
theorem xi_stL (ih : xG L xs l n) (hS : xS L xs p l e R s m args below meth c Q D dA A a0 b c0 s0 M r sh' rf' iv' lg' a H locs ls lv sh rf iv lg) {i k : Nat} (hn : xbp M nx = k)
    (row : ∀ (x : Int64) (rest : List Value), (∀ ls2, lv_has ls2 (xml M) ((i, .long x) :: (xal a 0 lv).filter (fun q => !(q.1 == i) && (!(q.1 == i + 1) && !(q.1 + 1 == i && q.2.category == 2)))) → W p l e R s m args below meth c H locs (sh.length - c0) (xsz sh - s0) Q (F0 m k ls2 rest)) → W p l e R s m args below meth c H locs (sh.length - c0) (xsz sh - s0) Q (F0 m bp ls (.long x :: rest)))
    (h : xrun (xexec L xs n) M (xstL nx [i] lv st sh rf iv lg) = some (r, sh', rf', iv', lg')) : W p l e R s m args below meth c H locs (sh.length - c0) (xsz sh - s0) Q (F0 m bp ls (st.map (xtv a))) := by
  unfold xstL xsto2 at h
  dsimp only at h
  split at h
  · obtain ⟨_, h, h3⟩ := xrun_sto h
    rw [xset_eq] at h
    split at h
    · refine row _ _ (fun ls2 hl2 => ?_)
      have k1 := ih h (hS.lvs (xal_set2 (v := .long _) h3 hl2))
      rw [hn] at k1
      exact k1
    · cases h
  · cases h
theorem xi_inc (ih : xG L xs l n) (hS : xS L xs p l e R s m args below meth c Q D dA A a0 b c0 s0 M r sh' rf' iv' lg' a H locs ls lv sh rf iv lg) {i : Nat} {z : Int} (hn : xbp M nx = bp + 3) (hi : i < xml M) (hd : decode (xccf M) bp = .ok (.iinc i z, 3))
    (h : xrun (xexec L xs n) M (xinc nx [i] (.int (Int32.ofInt z)) lv st sh rf iv lg) = some (r, sh', rf', iv', lg')) : W p l e R s m args below meth c H locs (sh.length - c0) (xsz sh - s0) Q (F0 m bp ls (st.map (xtv a))) := by
  unfold xinc at h
  dsimp only at h
  rw [xnth_eq] at h
  cases ho : lv[i]? with
  | none => rw [ho] at h; cases h
  | some o =>
    rw [ho] at h
    dsimp only at h
    split at h
    · rename_i x
      obtain ⟨_, h, h3⟩ := xrun_sto h
      have hm := xal_in (a := a) lv 0 i ho
      rw [Nat.zero_add] at hm
      obtain ⟨k, hk⟩ := List.getElem?_of_mem hm
      refine lv_iinc hS.1.1.1 hS.1.1.2.1 hd hS.2.2.2.2.1 hk rfl hi rfl (fun ls2 hl2 => ?_)
      have k1 := ih h (hS.lvs (xal_set1 (v := .int _) h3 hl2))
      rw [hn] at k1
      exact k1
    · cases h
theorem xi_bin (ih : xG L xs l n) (hS : xS L xs p l e R s m args below meth c Q D dA A a0 b c0 s0 M r sh' rf' iv' lg' a H locs ls lv sh rf iv lg) (hn : xbp M nx = bp + 1) {f : Int32 → Int32 → Int32}
    (row : ∀ (x y : Int32) (rest : List Value), W p l e R s m args below meth c H locs (sh.length - c0) (xsz sh - s0) Q (F0 m (bp + 1) ls (.int (f x y) :: rest)) → W p l e R s m args below meth c H locs (sh.length - c0) (xsz sh - s0) Q (F0 m bp ls (.int y :: .int x :: rest)))
    (h : xrun (xexec L xs n) M (xbin (fun x y k => k (f x y)) nx lv st sh rf iv lg) = some (r, sh', rf', iv', lg')) : W p l e R s m args below meth c H locs (sh.length - c0) (xsz sh - s0) Q (F0 m bp ls (st.map (xtv a))) := by
  unfold xbin at h
  split at h
  · have k1 := ih h hS
    rw [hn] at k1
    exact row _ _ _ k1
  · cases h
theorem xi_div (ih : xG L xs l n) (hS : xS L xs p l e R s m args below meth c Q D dA A a0 b c0 s0 M r sh' rf' iv' lg' a H locs ls lv sh rf iv lg) (hn : xbp M nx = bp + 1) {f : Int32 → Int32 → Int32}
    (row : ∀ (x y : Int32) (rest : List Value), ¬ y = 0 → W p l e R s m args below meth c H locs (sh.length - c0) (xsz sh - s0) Q (F0 m (bp + 1) ls (.int (f x y) :: rest)) → W p l e R s m args below meth c H locs (sh.length - c0) (xsz sh - s0) Q (F0 m bp ls (.int y :: .int x :: rest)))
    (h : xrun (xexec L xs n) M (xdiv (fun x y k => k (f x y)) nx lv st sh rf iv lg) = some (r, sh', rf', iv', lg')) : W p l e R s m args below meth c H locs (sh.length - c0) (xsz sh - s0) Q (F0 m bp ls (st.map (xtv a))) := by
  unfold xdiv at h
  split at h
  · rename_i y x st
    have h : xite (¬ y = 0) (xexec L xs n M nx lv (.int (f x y) :: st) (sh, rf, iv, lg)) none = some (r, sh', rf', iv', lg') := h
    by_cases hc : y = 0
    · rw [xite_f (fun z => z hc)] at h; cases h
    · rw [xite_t hc] at h
      have k1 := ih h hS
      rw [hn] at k1
      exact row _ _ _ hc k1
  · cases h
theorem xi_binL (ih : xG L xs l n) (hS : xS L xs p l e R s m args below meth c Q D dA A a0 b c0 s0 M r sh' rf' iv' lg' a H locs ls lv sh rf iv lg) (hn : xbp M nx = bp + 1) {f : Int64 → Int64 → Int64}
    (row : ∀ (x y : Int64) (rest : List Value), W p l e R s m args below meth c H locs (sh.length - c0) (xsz sh - s0) Q (F0 m (bp + 1) ls (.long (f x y) :: rest)) → W p l e R s m args below meth c H locs (sh.length - c0) (xsz sh - s0) Q (F0 m bp ls (.long y :: .long x :: rest)))
    (h : xrun (xexec L xs n) M (xbinL (fun x y k => k (f x y)) nx lv st sh rf iv lg) = some (r, sh', rf', iv', lg')) : W p l e R s m args below meth c H locs (sh.length - c0) (xsz sh - s0) Q (F0 m bp ls (st.map (xtv a))) := by
  unfold xbinL at h
  split at h
  · have k1 := ih h hS
    rw [hn] at k1
    exact row _ _ _ k1
  · cases h
theorem xi_shL (ih : xG L xs l n) (hS : xS L xs p l e R s m args below meth c Q D dA A a0 b c0 s0 M r sh' rf' iv' lg' a H locs ls lv sh rf iv lg) (hn : xbp M nx = bp + 1) {f : Int64 → Int32 → Int64}
    (row : ∀ (x : Int64) (y : Int32) (rest : List Value), W p l e R s m args below meth c H locs (sh.length - c0) (xsz sh - s0) Q (F0 m (bp + 1) ls (.long (f x y) :: rest)) → W p l e R s m args below meth c H locs (sh.length - c0) (xsz sh - s0) Q (F0 m bp ls (.int y :: .long x :: rest)))
    (h : xrun (xexec L xs n) M (xshL (fun x y k => k (f x y)) nx lv st sh rf iv lg) = some (r, sh', rf', iv', lg')) : W p l e R s m args below meth c H locs (sh.length - c0) (xsz sh - s0) Q (F0 m bp ls (st.map (xtv a))) := by
  unfold xshL at h
  split at h
  · have k1 := ih h hS
    rw [hn] at k1
    exact row _ _ _ k1
  · cases h
theorem xi_cmpL (ih : xG L xs l n) (hS : xS L xs p l e R s m args below meth c Q D dA A a0 b c0 s0 M r sh' rf' iv' lg' a H locs ls lv sh rf iv lg) (hn : xbp M nx = bp + 1) (hd : decode (xccf M) bp = .ok (.lcmp, 1))
    (h : xrun (xexec L xs n) M (xcmpL nx lv st sh rf iv lg) = some (r, sh', rf', iv', lg')) : W p l e R s m args below meth c H locs (sh.length - c0) (xsz sh - s0) Q (F0 m bp ls (st.map (xtv a))) := by
  unfold xcmpL at h
  split at h
  · have k1 := ih h hS
    rw [hn] at k1
    exact W.lcmp hS.1.1.1 hS.1.1.2.1 hd k1
  · cases h
theorem xi_unI (ih : xG L xs l n) (hS : xS L xs p l e R s m args below meth c Q D dA A a0 b c0 s0 M r sh' rf' iv' lg' a H locs ls lv sh rf iv lg) (hn : xbp M nx = bp + 1) {f : Int32 → Value} (hf : ∀ x, xtv a (f x) = f x)
    (row : ∀ (x : Int32) (rest : List Value), W p l e R s m args below meth c H locs (sh.length - c0) (xsz sh - s0) Q (F0 m (bp + 1) ls (f x :: rest)) → W p l e R s m args below meth c H locs (sh.length - c0) (xsz sh - s0) Q (F0 m bp ls (.int x :: rest)))
    (h : xrun (xexec L xs n) M (xunI (fun x k => k (f x)) nx lv st sh rf iv lg) = some (r, sh', rf', iv', lg')) : W p l e R s m args below meth c H locs (sh.length - c0) (xsz sh - s0) Q (F0 m bp ls (st.map (xtv a))) := by
  unfold xunI at h
  split at h
  · have k1 := ih h hS
    rw [hn, List.map_cons, hf] at k1
    exact row _ _ k1
  · cases h
theorem xi_unL (ih : xG L xs l n) (hS : xS L xs p l e R s m args below meth c Q D dA A a0 b c0 s0 M r sh' rf' iv' lg' a H locs ls lv sh rf iv lg) (hn : xbp M nx = bp + 1) {f : Int64 → Value} (hf : ∀ x, xtv a (f x) = f x)
    (row : ∀ (x : Int64) (rest : List Value), W p l e R s m args below meth c H locs (sh.length - c0) (xsz sh - s0) Q (F0 m (bp + 1) ls (f x :: rest)) → W p l e R s m args below meth c H locs (sh.length - c0) (xsz sh - s0) Q (F0 m bp ls (.long x :: rest)))
    (h : xrun (xexec L xs n) M (xunL (fun x k => k (f x)) nx lv st sh rf iv lg) = some (r, sh', rf', iv', lg')) : W p l e R s m args below meth c H locs (sh.length - c0) (xsz sh - s0) Q (F0 m bp ls (st.map (xtv a))) := by
  unfold xunL at h
  split at h
  · have k1 := ih h hS
    rw [hn, List.map_cons, hf] at k1
    exact row _ _ k1
  · cases h
theorem xi_dup (ih : xG L xs l n) (hS : xS L xs p l e R s m args below meth c Q D dA A a0 b c0 s0 M r sh' rf' iv' lg' a H locs ls lv sh rf iv lg) (hn : xbp M nx = bp + 1) (hd : decode (xccf M) bp = .ok (.dup, 1))
    (h : xrun (xexec L xs n) M (xdup nx lv st sh rf iv lg) = some (r, sh', rf', iv', lg')) : W p l e R s m args below meth c H locs (sh.length - c0) (xsz sh - s0) Q (F0 m bp ls (st.map (xtv a))) := by
  unfold xdup at h
  split at h
  · have k1 := ih h hS
    rw [hn] at k1
    exact lv_dup hS.1.1.1 hS.1.1.2.1 hd rfl k1
  · have k1 := ih h hS
    rw [hn] at k1
    exact lv_dup hS.1.1.1 hS.1.1.2.1 hd rfl k1
  · cases h
theorem xi_dup2 (ih : xG L xs l n) (hS : xS L xs p l e R s m args below meth c Q D dA A a0 b c0 s0 M r sh' rf' iv' lg' a H locs ls lv sh rf iv lg) (hn : xbp M nx = bp + 1) (hd : decode (xccf M) bp = .ok (.dup2, 1))
    (h : xrun (xexec L xs n) M (xdup2 nx lv st sh rf iv lg) = some (r, sh', rf', iv', lg')) : W p l e R s m args below meth c H locs (sh.length - c0) (xsz sh - s0) Q (F0 m bp ls (st.map (xtv a))) := by
  unfold xdup2 at h
  split at h
  · have k1 := ih h hS
    rw [hn] at k1
    exact lv_dup2_11 hS.1.1.1 hS.1.1.2.1 hd rfl rfl k1
  · cases h
theorem xi_pop (ih : xG L xs l n) (hS : xS L xs p l e R s m args below meth c Q D dA A a0 b c0 s0 M r sh' rf' iv' lg' a H locs ls lv sh rf iv lg) (hn : xbp M nx = bp + 1) (hd : decode (xccf M) bp = .ok (.pop, 1))
    (h : xrun (xexec L xs n) M (xpop nx lv st sh rf iv lg) = some (r, sh', rf', iv', lg')) : W p l e R s m args below meth c H locs (sh.length - c0) (xsz sh - s0) Q (F0 m bp ls (st.map (xtv a))) := by
  unfold xpop at h
  split at h
  · have k1 := ih h hS
    rw [hn] at k1
    exact lv_pop hS.1.1.1 hS.1.1.2.1 hd rfl k1
  · cases h
theorem xi_go (ih : xG L xs l n) (hS : xS L xs p l e R s m args below meth c Q D dA A a0 b c0 s0 M r sh' rf' iv' lg' a H locs ls lv sh rf iv lg) {t : Nat} {off : Int} (ht : (bp : Int) + off = (xbp M t : Int)) (hd : decode (xccf M) bp = .ok (.goto off, 3))
    (h : xrun (xexec L xs n) M (xgo [t] lv st sh rf iv lg) = some (r, sh', rf', iv', lg')) : W p l e R s m args below meth c H locs (sh.length - c0) (xsz sh - s0) Q (F0 m bp ls (st.map (xtv a))) :=
  lv_goto hS.1.1.1 hS.1.1.2.1 hd ht (ih h hS)
theorem xi_if (ih : xG L xs l n) (hS : xS L xs p l e R s m args below meth c Q D dA A a0 b c0 s0 M r sh' rf' iv' lg' a H locs ls lv sh rf iv lg) {t : Nat} (hn : xbp M nx = bp + 3) {f : Int32 → Prop}
    (row : ∀ (x : Int32) (rest : List Value), (f x → W p l e R s m args below meth c H locs (sh.length - c0) (xsz sh - s0) Q (F0 m (xbp M t) ls rest)) → (¬ f x → W p l e R s m args below meth c H locs (sh.length - c0) (xsz sh - s0) Q (F0 m (bp + 3) ls rest)) → W p l e R s m args below meth c H locs (sh.length - c0) (xsz sh - s0) Q (F0 m bp ls (.int x :: rest)))
    (h : xrun (xexec L xs n) M (xif (fun x k => k (f x)) nx [t] lv st sh rf iv lg) = some (r, sh', rf', iv', lg')) : W p l e R s m args below meth c H locs (sh.length - c0) (xsz sh - s0) Q (F0 m bp ls (st.map (xtv a))) := by
  unfold xif at h
  dsimp only at h
  split at h
  · rename_i x st
    have h : xite (f x) (xexec L xs n M t lv st (sh, rf, iv, lg)) (xexec L xs n M nx lv st (sh, rf, iv, lg)) = some (r, sh', rf', iv', lg') := h
    refine row _ _ (fun hc => ?_) (fun hc => ?_)
    · rw [xite_t hc] at h
      exact ih h hS
    · rw [xite_f hc] at h
      have k1 := ih h hS
      rw [hn] at k1
      exact k1
  · cases h
theorem xi_icmp (ih : xG L xs l n) (hS : xS L xs p l e R s m args below meth c Q D dA A a0 b c0 s0 M r sh' rf' iv' lg' a H locs ls lv sh rf iv lg) {t : Nat} (hn : xbp M nx = bp + 3) {f : Int32 → Int32 → Prop}
    (row : ∀ (x y : Int32) (rest : List Value), (f x y → W p l e R s m args below meth c H locs (sh.length - c0) (xsz sh - s0) Q (F0 m (xbp M t) ls rest)) → (¬ f x y → W p l e R s m args below meth c H locs (sh.length - c0) (xsz sh - s0) Q (F0 m (bp + 3) ls rest)) → W p l e R s m args below meth c H locs (sh.length - c0) (xsz sh - s0) Q (F0 m bp ls (.int y :: .int x :: rest)))
    (h : xrun (xexec L xs n) M (xicmp (fun x y k => k (f x y)) nx [t] lv st sh rf iv lg) = some (r, sh', rf', iv', lg')) : W p l e R s m args below meth c H locs (sh.length - c0) (xsz sh - s0) Q (F0 m bp ls (st.map (xtv a))) := by
  unfold xicmp at h
  dsimp only at h
  split at h
  · rename_i y x st
    have h : xite (f x y) (xexec L xs n M t lv st (sh, rf, iv, lg)) (xexec L xs n M nx lv st (sh, rf, iv, lg)) = some (r, sh', rf', iv', lg') := h
    refine row _ _ _ (fun hc => ?_) (fun hc => ?_)
    · rw [xite_t hc] at h
      exact ih h hS
    · rw [xite_f hc] at h
      have k1 := ih h hS
      rw [hn] at k1
      exact k1
  · cases h
end XI
