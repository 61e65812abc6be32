-- ===== a small machine over pictures: cells by numbers, whole numbers by functions =====
abbrev xSh : Type := List (Nat × Nat)
abbrev xRf : Type := List (List (Option Nat))
abbrev xIv : Type := Nat → Nat → Int32
abbrev xLg : Type := Nat → Nat → Int64
abbrev xLv : Type := List (Option Value)
abbrev xMem : Type := xSh × xRf × xIv × xLg
abbrev xSt : Type := Nat × xLv × List Value × xMem
/-- what a step gives: on; a branch; on, if; a call; an end; a switch; an end, if -/
abbrev xR : Type := Option (xSt ⊕ (Prop × Nat × xSt) ⊕ (Prop × xSt) ⊕ (Nat × List Value × xSt) ⊕ (Option Value × xMem) ⊕ (Int32 × List (Int32 × Nat) × xSt) ⊕ (Prop × Option Value × xMem))
def xnth {α β : Type} : List α → Nat → β → (α → β) → β
  | [], _, d, _ => d
  | x :: _, 0, _, f => f x
  | _ :: l, n + 1, d, f => xnth l n d f
def xn2 {α β : Type} (l : List (List α)) (i : Nat) (d : β) (f : α → β) : β := xnth l (i / 16) d (fun c => xnth c (i % 16) d f)
def xml (M : Nat) : Nat := xn2 xmaxL M 0 id
def xset {β : Type} : xLv → Nat → Option Value → β → (xLv → β) → β
  | [], _, _, d, _ => d
  | _ :: l, 0, v, _, f => f (v :: l)
  | o :: l, n + 1, v, d, f => xset l n v d (fun l' => f (o :: l'))
def xsnoc {α β : Type} : List α → α → (List α → β) → β
  | [], x, f => f [x]
  | a :: l, x, f => xsnoc l x (fun l' => f (a :: l'))
def xsetr {β : Type} : List (Option Nat) → Nat → Option Nat → β → (List (Option Nat) → β) → β
  | [], _, _, d, _ => d
  | _ :: l, 0, v, _, f => f (v :: l)
  | o :: l, n + 1, v, d, f => xsetr l n v d (fun l' => f (o :: l'))
def xsetrr {β : Type} : xRf → Nat → Nat → Option Nat → β → (xRf → β) → β
  | [], _, _, _, d, _ => d
  | r :: l, 0, j, v, d, f => xsetr r j v d (fun r' => f (r' :: l))
  | o :: l, n + 1, j, v, d, f => xsetrr l n j v d (fun l' => f (o :: l'))
/-- storing into a local, where no long stands just ahead -/
def xsto {β : Type} (lv : xLv) (i : Nat) (v : Value) (d : β) (f : xLv → β) : β := match i with
  | 0 => xset lv 0 (some v) d f
  | j + 1 => xnth lv j d (fun o => match o with
    | some (.long _) => d
    | some (.double _) => d
    | _ => xset lv (j + 1) (some v) d f)
def xsto2 {β : Type} (lv : xLv) (i : Nat) (v : Value) (d : β) (f : xLv → β) : β := xsto lv i v d (fun l => xset l (i + 1) none d f)
def xtake {β : Type} : Nat → List Value → List Value → β → (List Value → List Value → β) → β
  | 0, st, acc, _, f => f acc st
  | n + 1, v :: st, acc, d, f => xtake n st (v :: acc) d f
  | _ + 1, [], _, d, _ => d
def xu2 {α : Type} (iv : Nat → Nat → α) (k j : Nat) (x : α) : Nat → Nat → α := fun a b => if a = k then (if b = j then x else iv a b) else iv a b
def xur {α : Type} (iv : Nat → Nat → α) (k : Nat) (row : Nat → α) : Nat → Nat → α := fun a => if a = k then row else iv a
def xzr {α : Type} (iv : Nat → Nat → α) (n : Nat) (z : α) : Nat → Nat → α := fun a b => if n ≤ a then z else iv a b
/-- references are of cells that are there, or of the script -/
def xro1 (n : Nat) (v : Value) : Bool := match v with
  | .ref k => Nat.blt k n || Nat.beq k 1000
  | _ => true
def xroS (n : Nat) : List Value → Bool
  | [] => true
  | v :: l => xro1 n v && xroS n l
def xroL (n : Nat) : xLv → Bool
  | [] => true
  | none :: l => xroL n l
  | some v :: l => xro1 n v && xroL n l
def xroN (n : Nat) : List (Option Nat) → Bool
  | [] => true
  | none :: l => xroN n l
  | some k :: l => Nat.blt k n && xroN n l
def xroR (n : Nat) : xRf → Bool
  | [] => true
  | r :: l => xroN n r && xroR n l
def xcat : List Value → Nat
  | [] => 0
  | .long _ :: l => 2 + xcat l
  | .double _ :: l => 2 + xcat l
  | _ :: l => 1 + xcat l
def xguard {β : Type} (c : Bool) (d f : β) : β := match c with
  | true => f
  | false => d
def xN (nx : Nat) (lv : xLv) (st : List Value) (sh : xSh) (rf : xRf) (iv : xIv) (lg : xLg) : xR := some (.inl (nx, lv, st, sh, rf, iv, lg))
def xB (c : Prop) (t nx : Nat) (lv : xLv) (st : List Value) (sh : xSh) (rf : xRf) (iv : xIv) (lg : xLg) : xR := some (.inr (.inl (c, t, nx, lv, st, sh, rf, iv, lg)))
def xC (c : Prop) (nx : Nat) (lv : xLv) (st : List Value) (sh : xSh) (rf : xRf) (iv : xIv) (lg : xLg) : xR := some (.inr (.inr (.inl (c, nx, lv, st, sh, rf, iv, lg))))
def xCall (m : Nat) (as : List Value) (nx : Nat) (lv : xLv) (st : List Value) (sh : xSh) (rf : xRf) (iv : xIv) (lg : xLg) : xR := some (.inr (.inr (.inr (.inl (m, as, nx, lv, st, sh, rf, iv, lg)))))
def xEnd (r : Option Value) (sh : xSh) (rf : xRf) (iv : xIv) (lg : xLg) : xR := some (.inr (.inr (.inr (.inr (.inl (r, sh, rf, iv, lg))))))
def xSw (v : Int32) (sw : List (Int32 × Nat)) (d : Nat) (lv : xLv) (st : List Value) (sh : xSh) (rf : xRf) (iv : xIv) (lg : xLg) : xR := some (.inr (.inr (.inr (.inr (.inr (.inl (v, sw, d, lv, st, sh, rf, iv, lg)))))))
def xEndZ (c : Prop) (r : Option Value) (sh : xSh) (rf : xRf) (iv : xIv) (lg : xLg) : xR := some (.inr (.inr (.inr (.inr (.inr (.inr (c, r, sh, rf, iv, lg)))))))
-- instructions by kinds
def xldI (nx : Nat) (os : List Nat) (lv : xLv) (st : List Value) (sh : xSh) (rf : xRf) (iv : xIv) (lg : xLg) : xR := match os with
  | i :: _ => xnth lv i none (fun o => match o with
    | some (.int x) => xN nx lv (.int x :: st) sh rf iv lg
    | _ => none)
  | [] => none
def xldL (nx : Nat) (os : List Nat) (lv : xLv) (st : List Value) (sh : xSh) (rf : xRf) (iv : xIv) (lg : xLg) : xR := match os with
  | i :: _ => xnth lv i none (fun o => match o with
    | some (.long x) => xN nx lv (.long x :: st) sh rf iv lg
    | _ => none)
  | [] => none
def xldA (nx : Nat) (os : List Nat) (lv : xLv) (st : List Value) (sh : xSh) (rf : xRf) (iv : xIv) (lg : xLg) : xR := match os with
  | i :: _ => xnth lv i none (fun o => match o with
    | some (.ref x) => xN nx lv (.ref x :: st) sh rf iv lg
    | _ => none)
  | [] => none
def xstI (nx : Nat) (os : List Nat) (lv : xLv) (st : List Value) (sh : xSh) (rf : xRf) (iv : xIv) (lg : xLg) : xR := match os with
  | i :: _ => match st with
    | .int x :: st => xsto lv i (.int x) none (fun lv => xN nx lv st sh rf iv lg)
    | _ => none
  | [] => none
def xstL (nx : Nat) (os : List Nat) (lv : xLv) (st : List Value) (sh : xSh) (rf : xRf) (iv : xIv) (lg : xLg) : xR := match os with
  | i :: _ => match st with
    | .long x :: st => xsto2 lv i (.long x) none (fun lv => xN nx lv st sh rf iv lg)
    | _ => none
  | [] => none
def xstA (nx : Nat) (os : List Nat) (lv : xLv) (st : List Value) (sh : xSh) (rf : xRf) (iv : xIv) (lg : xLg) : xR := match os with
  | i :: _ => match st with
    | .ref x :: st => xsto lv i (.ref x) none (fun lv => xN nx lv st sh rf iv lg)
    | _ => none
  | [] => none
def xinc (nx : Nat) (os : List Nat) (cv : Value) (lv : xLv) (st : List Value) (sh : xSh) (rf : xRf) (iv : xIv) (lg : xLg) : xR := match os with
  | i :: _ => match cv with
    | .int c => xnth lv i none (fun o => match o with
      | some (.int x) => xsto lv i (.int (x + c)) none (fun lv => xN nx lv st sh rf iv lg)
      | _ => none)
    | _ => none
  | [] => none
def xbin (f : Int32 → Int32 → (Int32 → xR) → xR) (nx : Nat) (lv : xLv) (st : List Value) (sh : xSh) (rf : xRf) (iv : xIv) (lg : xLg) : xR := match st with
  | .int y :: .int x :: st => f x y (fun z => xN nx lv (.int z :: st) sh rf iv lg)
  | _ => none
def xdiv (f : Int32 → Int32 → (Int32 → xR) → xR) (nx : Nat) (lv : xLv) (st : List Value) (sh : xSh) (rf : xRf) (iv : xIv) (lg : xLg) : xR := match st with
  | .int y :: .int x :: st => f x y (fun z => xC (¬ y = 0) nx lv (.int z :: st) sh rf iv lg)
  | _ => none
def xbinL (f : Int64 → Int64 → (Int64 → xR) → xR) (nx : Nat) (lv : xLv) (st : List Value) (sh : xSh) (rf : xRf) (iv : xIv) (lg : xLg) : xR := match st with
  | .long y :: .long x :: st => f x y (fun z => xN nx lv (.long z :: st) sh rf iv lg)
  | _ => none
def xshL (f : Int64 → Int32 → (Int64 → xR) → xR) (nx : Nat) (lv : xLv) (st : List Value) (sh : xSh) (rf : xRf) (iv : xIv) (lg : xLg) : xR := match st with
  | .int y :: .long x :: st => f x y (fun z => xN nx lv (.long z :: st) sh rf iv lg)
  | _ => none
def xcmpL (nx : Nat) (lv : xLv) (st : List Value) (sh : xSh) (rf : xRf) (iv : xIv) (lg : xLg) : xR := match st with
  | .long y :: .long x :: st => xN nx lv (.int (lg_cmp x y) :: st) sh rf iv lg
  | _ => none
def xunI (f : Int32 → (Value → xR) → xR) (nx : Nat) (lv : xLv) (st : List Value) (sh : xSh) (rf : xRf) (iv : xIv) (lg : xLg) : xR := match st with
  | .int x :: st => f x (fun z => xN nx lv (z :: st) sh rf iv lg)
  | _ => none
def xunL (f : Int64 → (Value → xR) → xR) (nx : Nat) (lv : xLv) (st : List Value) (sh : xSh) (rf : xRf) (iv : xIv) (lg : xLg) : xR := match st with
  | .long x :: st => f x (fun z => xN nx lv (z :: st) sh rf iv lg)
  | _ => none
def xdup (nx : Nat) (lv : xLv) (st : List Value) (sh : xSh) (rf : xRf) (iv : xIv) (lg : xLg) : xR := match st with
  | .int x :: st => xN nx lv (.int x :: .int x :: st) sh rf iv lg
  | .ref x :: st => xN nx lv (.ref x :: .ref x :: st) sh rf iv lg
  | _ => none
def xdup2 (nx : Nat) (lv : xLv) (st : List Value) (sh : xSh) (rf : xRf) (iv : xIv) (lg : xLg) : xR := match st with
  | .int x :: .ref y :: st => xN nx lv (.int x :: .ref y :: .int x :: .ref y :: st) sh rf iv lg
  | _ => none
def xpop (nx : Nat) (lv : xLv) (st : List Value) (sh : xSh) (rf : xRf) (iv : xIv) (lg : xLg) : xR := match st with
  | .int _ :: st => xN nx lv st sh rf iv lg
  | _ => none
def xgo (os : List Nat) (lv : xLv) (st : List Value) (sh : xSh) (rf : xRf) (iv : xIv) (lg : xLg) : xR := match os with
  | t :: _ => xN t lv st sh rf iv lg
  | [] => none
def xif (f : Int32 → (Prop → xR) → xR) (nx : Nat) (os : List Nat) (lv : xLv) (st : List Value) (sh : xSh) (rf : xRf) (iv : xIv) (lg : xLg) : xR := match os with
  | t :: _ => match st with
    | .int x :: st => f x (fun c => xB c t nx lv st sh rf iv lg)
    | _ => none
  | [] => none
def xicmp (f : Int32 → Int32 → (Prop → xR) → xR) (nx : Nat) (os : List Nat) (lv : xLv) (st : List Value) (sh : xSh) (rf : xRf) (iv : xIv) (lg : xLg) : xR := match os with
  | t :: _ => match st with
    | .int y :: .int x :: st => f x y (fun c => xB c t nx lv st sh rf iv lg)
    | _ => none
  | [] => none
def xtab (os : List Nat) (sw : List (Int32 × Nat)) (lv : xLv) (st : List Value) (sh : xSh) (rf : xRf) (iv : xIv) (lg : xLg) : xR := match os with
  | t :: _ => match st with
    | .int x :: st => xSw x sw t lv st sh rf iv lg
    | _ => none
  | [] => none
def xrv (o : Option Nat) : Value := match o with
  | some k => .ref k
  | none => .null
def xget (nx : Nat) (os : List Nat) (lv : xLv) (st : List Value) (sh : xSh) (rf : xRf) (iv : xIv) (lg : xLg) : xR := match os with
  | _ :: ci :: j :: kd :: _ => match st with
    | .ref k :: st => xnth sh k none (fun q => xguard (Nat.beq q.1 (10 + ci) && Nat.blt j q.2) none (match kd with
      | 1 => xnth rf k none (fun r => xnth r j none (fun o => match o with
        | some z => xN nx lv (.ref z :: st) sh rf iv lg
        | none => none))
      | _ => xN nx lv (.int (iv k j) :: st) sh rf iv lg))
    | _ => none
  | _ => none
def xput (nx : Nat) (os : List Nat) (lv : xLv) (st : List Value) (sh : xSh) (rf : xRf) (iv : xIv) (lg : xLg) : xR := match os with
  | _ :: ci :: j :: kd :: _ => match st with
    | .int x :: .ref k :: st => xnth sh k none (fun q => xguard (Nat.beq q.1 (10 + ci) && Nat.blt j q.2) none (match kd with
      | 0 => xN nx lv st sh rf (xu2 iv k j x) lg
      | 2 => xC (x = 0 ∨ x = 1) nx lv st sh rf (xu2 iv k j x) lg
      | _ => none))
    | .ref z :: .ref k :: st => xnth sh k none (fun q => xguard (Nat.beq q.1 (10 + ci) && Nat.blt j q.2) none (match kd with
      | 1 => xsetrr rf k j (some z) none (fun rf => xN nx lv st sh rf iv lg)
      | _ => none))
    | _ => none
  | _ => none
def xald (L : Nat) (xs : Nat → Int32) (M nx : Nat) (lv : xLv) (st : List Value) (sh : xSh) (rf : xRf) (iv : xIv) (lg : xLg) : xR := match st with
  | .int i :: .ref k :: st => match Nat.beq k 1000 with
    | true => (match M with
      | 0 => xC (vp_in i L) nx lv (.int (xs i.toNatClampNeg) :: st) sh rf iv lg
      | _ => none)
    | false => xnth sh k none (fun q => match q.1 with
      | 0 => xC (vp_in i q.2) nx lv (.int (iv k i.toNatClampNeg) :: st) sh rf iv lg
      | _ => none)
  | _ => none
def xcald (nx : Nat) (lv : xLv) (st : List Value) (sh : xSh) (rf : xRf) (iv : xIv) (lg : xLg) : xR := match st with
  | .int i :: .ref k :: st => xnth sh k none (fun q => match q.1 with
      | 2 => xC (vp_in i q.2) nx lv (.int (iv k i.toNatClampNeg) :: st) sh rf iv lg
      | _ => none)
  | _ => none
def xlald (nx : Nat) (lv : xLv) (st : List Value) (sh : xSh) (rf : xRf) (iv : xIv) (lg : xLg) : xR := match st with
  | .int i :: .ref k :: st => xnth sh k none (fun q => match q.1 with
      | 1 => xC (vp_in i q.2) nx lv (.long (lg k i.toNatClampNeg) :: st) sh rf iv lg
      | _ => none)
  | _ => none
def xast (nx : Nat) (lv : xLv) (st : List Value) (sh : xSh) (rf : xRf) (iv : xIv) (lg : xLg) : xR := match st with
  | .int x :: .int i :: .ref k :: st => xnth sh k none (fun q => match q.1 with
      | 0 => xC (vp_in i q.2) nx lv st sh rf (xu2 iv k i.toNatClampNeg x) lg
      | _ => none)
  | _ => none
def xcast (nx : Nat) (lv : xLv) (st : List Value) (sh : xSh) (rf : xRf) (iv : xIv) (lg : xLg) : xR := match st with
  | .int x :: .int i :: .ref k :: st => xnth sh k none (fun q => match q.1 with
      | 2 => xC (vp_in i q.2) nx lv st sh rf (xu2 iv k i.toNatClampNeg (vp_nar .char x)) lg
      | _ => none)
  | _ => none
def xlast (nx : Nat) (lv : xLv) (st : List Value) (sh : xSh) (rf : xRf) (iv : xIv) (lg : xLg) : xR := match st with
  | .long x :: .int i :: .ref k :: st => xnth sh k none (fun q => match q.1 with
      | 1 => xC (vp_in i q.2) nx lv st sh rf iv (xu2 lg k i.toNatClampNeg x)
      | _ => none)
  | _ => none
def xaald (nx : Nat) (lv : xLv) (st : List Value) (sh : xSh) (rf : xRf) (iv : xIv) (lg : xLg) : xR := match st with
  | .int i :: .ref k :: st => xnth sh k none (fun q => xguard (Nat.beq q.1 3 || Nat.beq q.1 4) none (xnth rf k none (fun r => xnth r i.toNatClampNeg none (fun o => match o with
      | some z => xC (vp_in i q.2) nx lv (.ref z :: st) sh rf iv lg
      | none => none))))
  | _ => none
/-- into a row of sheets (class 3 of the classes) -/
def xaast (nx : Nat) (lv : xLv) (st : List Value) (sh : xSh) (rf : xRf) (iv : xIv) (lg : xLg) : xR := match st with
  | .ref z :: .int i :: .ref k :: st => xnth sh k none (fun q => xguard (Nat.beq q.1 4) none (xnth sh z none (fun q2 => xguard (Nat.beq q2.1 13) none (xsetrr rf k i.toNatClampNeg (some z) none (fun rf => xC (vp_in i q.2) nx lv st sh rf iv lg)))))
  | _ => none
def xlen (L : Nat) (M nx : Nat) (lv : xLv) (st : List Value) (sh : xSh) (rf : xRf) (iv : xIv) (lg : xLg) : xR := match st with
  | .ref k :: st => match Nat.beq k 1000 with
    | true => (match M with
      | 0 => xN nx lv (.int (nI L) :: st) sh rf iv lg
      | _ => none)
    | false => xnth sh k none (fun q => xguard (Nat.blt q.1 3) none (xN nx lv (.int (nI q.2) :: st) sh rf iv lg))
  | _ => none
/-- all references are of cells that are there, and one more may come -/
def xokA (lv : xLv) (st : List Value) (sh : xSh) (rf : xRf) : Bool := Nat.blt sh.length 900 && (xroL sh.length lv && (xroS sh.length st && xroR sh.length rf))
def xnew (nx : Nat) (os : List Nat) (lv : xLv) (st : List Value) (sh : xSh) (rf : xRf) (iv : xIv) (lg : xLg) : xR := match os with
  | _ :: ci :: n :: _ => xguard (xokA lv st sh rf) none (xsnoc sh (10 + ci, n) (fun sh' => xsnoc rf (List.replicate n none) (fun rf' => xN nx lv (.ref sh.length :: st) sh' rf' (xzr iv sh.length 0) (xzr lg sh.length 0))))
  | _ => none
def xnewa (tag : Nat) (nx : Nat) (lv : xLv) (st : List Value) (sh : xSh) (rf : xRf) (iv : xIv) (lg : xLg) : xR := match st with
  | .int n :: st => xguard (xokA lv st sh rf) none (xsnoc sh (tag, n.toNatClampNeg) (fun sh' => xsnoc rf [] (fun rf' => xC (¬ n < 0 ∧ n.toNatClampNeg ≤ 1000) nx lv (.ref sh.length :: st) sh' rf' (xzr iv sh.length 0) (xzr lg sh.length 0))))
  | _ => none
def xnewq (nx : Nat) (lv : xLv) (st : List Value) (sh : xSh) (rf : xRf) (iv : xIv) (lg : xLg) : xR := match st with
  | .int n :: st => xguard (xokA lv st sh rf) none (xsnoc sh (4, n.toNatClampNeg) (fun sh' => xsnoc rf (List.replicate n.toNatClampNeg none) (fun rf' => xC (¬ n < 0 ∧ n.toNatClampNeg ≤ 1000) nx lv (.ref sh.length :: st) sh' rf' (xzr iv sh.length 0) (xzr lg sh.length 0))))
  | _ => none
/-- new int[4][n], as it stands in the class -/
def xmna (nx : Nat) (lv : xLv) (st : List Value) (sh : xSh) (rf : xRf) (iv : xIv) (lg : xLg) : xR := match st with
  | .int n :: .int m :: st => xguard (xokA lv st sh rf) none (xC (m = 4 ∧ ¬ n < 0 ∧ n.toNatClampNeg ≤ 1000) nx lv (.ref sh.length :: st) (sh ++ [(3, 4), (0, n.toNatClampNeg), (0, n.toNatClampNeg), (0, n.toNatClampNeg), (0, n.toNatClampNeg)]) (rf ++ [[some (sh.length + 1), some (sh.length + 2), some (sh.length + 3), some (sh.length + 4)], [], [], [], []]) (xzr iv sh.length 0) (xzr lg sh.length 0))
  | _ => none
/-- System.arraycopy of ints -/
def xcpy (nx : Nat) (lv : xLv) (st : List Value) (sh : xSh) (rf : xRf) (iv : xIv) (lg : xLg) : xR := match st with
  | .int n :: .int dp :: .ref d :: .int sp :: .ref k :: st => xguard (Nat.ble (xcat st) 8) none (xnth sh k none (fun q => xnth sh d none (fun q2 => xguard (Nat.beq q.1 0 && Nat.beq q2.1 0) none (xC ((¬ sp < 0 ∧ ¬ dp < 0 ∧ ¬ n < 0) ∧ sp.toNatClampNeg + n.toNatClampNeg ≤ q.2 ∧ dp.toNatClampNeg + n.toNatClampNeg ≤ q2.2) nx lv st sh rf (xur iv d (va_cpy (iv k) (iv d) sp.toNatClampNeg dp.toNatClampNeg n.toNatClampNeg)) lg))))
  | _ => none
def xobj (nx : Nat) (lv : xLv) (st : List Value) (sh : xSh) (rf : xRf) (iv : xIv) (lg : xLg) : xR := match st with
  | .ref _ :: st => xguard (Nat.ble (xcat st) 8) none (xN nx lv st sh rf iv lg)
  | _ => none
def xcall (m np : Nat) (nx : Nat) (lv : xLv) (st : List Value) (sh : xSh) (rf : xRf) (iv : xIv) (lg : xLg) : xR :=
  xtake np st [] none (fun as st => xguard ((Nat.ble (xcat st) 8 && (Nat.ble (xcat as) (xml m) && xroS sh.length as)) && (xroL sh.length lv && xroS sh.length st)) none (xCall m as nx lv st sh rf iv lg))
def xcallI (m np : Nat) (nx : Nat) (lv : xLv) (st : List Value) (sh : xSh) (rf : xRf) (iv : xIv) (lg : xLg) : xR :=
  xtake np st [] none (fun as st => match as with
    | .ref k :: as => xguard ((Nat.ble (xcat st) 8 && (Nat.ble (xcat (.ref k :: as)) (xml m) && xroS sh.length (.ref k :: as))) && (xroL sh.length lv && xroS sh.length st)) none (xCall m (.ref k :: as) nx lv st sh rf iv lg)
    | _ => none)
def xcallV (m np ci : Nat) (nx : Nat) (lv : xLv) (st : List Value) (sh : xSh) (rf : xRf) (iv : xIv) (lg : xLg) : xR :=
  xtake np st [] none (fun as st => match as with
    | .ref k :: as => xnth sh k none (fun q => xguard (Nat.beq q.1 (10 + ci)) none (xguard ((Nat.ble (xcat st) 8 && (Nat.ble (xcat (.ref k :: as)) (xml m) && xroS sh.length (.ref k :: as))) && (xroL sh.length lv && xroS sh.length st)) none (xCall m (.ref k :: as) nx lv st sh rf iv lg)))
    | _ => none)
def xretI (rt : Option FieldType) (st : List Value) (sh : xSh) (rf : xRf) (iv : xIv) (lg : xLg) : xR := match st with
  | [.int v] => (match rt with
    | some .int => xEnd (some (.int v)) sh rf iv lg
    | some .boolean => xEndZ (v = 0 ∨ v = 1) (some (.int v)) sh rf iv lg
    | _ => none)
  | _ => none
def xretL (rt : Option FieldType) (st : List Value) (sh : xSh) (rf : xRf) (iv : xIv) (lg : xLg) : xR := match st with
  | [.long v] => (match rt with
    | some .long => xEnd (some (.long v)) sh rf iv lg
    | _ => none)
  | _ => none
def xretA (rt : Option FieldType) (st : List Value) (sh : xSh) (rf : xRf) (iv : xIv) (lg : xLg) : xR := match st with
  | [.ref v] => (match rt with
    | some (.array _) => xEnd (some (.ref v)) sh rf iv lg
    | _ => none)
  | _ => none
def xretV (rt : Option FieldType) (st : List Value) (sh : xSh) (rf : xRf) (iv : xIv) (lg : xLg) : xR := match st with
  | [] => (match rt with
    | none => xEnd none sh rf iv lg
    | _ => none)
  | _ => none
def imx (x y : Int32) : Int32 := if x < y then y else x
def imn (x y : Int32) : Int32 := if y < x then y else x
def xmth (f : Int32 → Int32 → Int32) (nx : Nat) (lv : xLv) (st : List Value) (sh : xSh) (rf : xRf) (iv : xIv) (lg : xLg) : xR := match st with
  | .int y :: .int x :: st => xguard (Nat.ble (xcat st) 8) none (xN nx lv (.int (f x y) :: st) sh rf iv lg)
  | _ => none
def xinvS (os : List Nat) (b0 b1 b2 : xR) (f : Nat → Nat → xR) : xR := match os with
  | [0, _, 0] => b0
  | [0, _, 1] => b1
  | [0, _, 2] => b2
  | (m + 1) :: _ :: _ :: _ :: np :: _ => f m np
  | _ => none
def xinv (os : List Nat) (bi : xR) (f : Nat → Nat → xR) : xR := match os with
  | 0 :: _ => bi
  | (m + 1) :: _ :: _ :: _ :: np :: _ => f m np
  | _ => none
def xinvV (os : List Nat) (f : Nat → Nat → Nat → xR) : xR := match os with
  | (m + 1) :: _ :: _ :: _ :: np :: _ :: ci :: _ => f m np ci
  | _ => none
def xdo (L : Nat) (xs : Nat → Int32) (M : Nat) (lv : xLv) (st : List Value) (sh : xSh) (rf : xRf) (iv : xIv) (lg : xLg) (nx : Nat) (ins : Instr) (os : List Nat) (sw : List (Int32 × Nat)) (cv : Value) : xR := match ins with
  | .iconst _ => xN nx lv (cv :: st) sh rf iv lg
  | .bipush _ => xN nx lv (cv :: st) sh rf iv lg
  | .sipush _ => xN nx lv (cv :: st) sh rf iv lg
  | .ldc _ => xN nx lv (cv :: st) sh rf iv lg
  | .ldc_w _ => xN nx lv (cv :: st) sh rf iv lg
  | .lconst _ => xN nx lv (cv :: st) sh rf iv lg
  | .ldc2_w _ => xN nx lv (cv :: st) sh rf iv lg
  | .iload_n _ => xldI nx os lv st sh rf iv lg
  | .iload _ => xldI nx os lv st sh rf iv lg
  | .lload_n _ => xldL nx os lv st sh rf iv lg
  | .lload _ => xldL nx os lv st sh rf iv lg
  | .aload_n _ => xldA nx os lv st sh rf iv lg
  | .aload _ => xldA nx os lv st sh rf iv lg
  | .istore_n _ => xstI nx os lv st sh rf iv lg
  | .istore _ => xstI nx os lv st sh rf iv lg
  | .lstore_n _ => xstL nx os lv st sh rf iv lg
  | .lstore _ => xstL nx os lv st sh rf iv lg
  | .astore_n _ => xstA nx os lv st sh rf iv lg
  | .astore _ => xstA nx os lv st sh rf iv lg
  | .iinc _ _ => xinc nx os cv lv st sh rf iv lg
  | .iadd => xbin (fun x y k => k (x + y)) nx lv st sh rf iv lg
  | .isub => xbin (fun x y k => k (x - y)) nx lv st sh rf iv lg
  | .imul => xbin (fun x y k => k (x * y)) nx lv st sh rf iv lg
  | .iand => xbin (fun x y k => k (x &&& y)) nx lv st sh rf iv lg
  | .ior => xbin (fun x y k => k (x ||| y)) nx lv st sh rf iv lg
  | .ixor => xbin (fun x y k => k (x ^^^ y)) nx lv st sh rf iv lg
  | .ishl => xbin (fun x y k => k (x <<< (y &&& 31))) nx lv st sh rf iv lg
  | .ishr => xbin (fun x y k => k (x >>> (y &&& 31))) nx lv st sh rf iv lg
  | .idiv => xdiv (fun x y k => k (x / y)) nx lv st sh rf iv lg
  | .irem => xdiv (fun x y k => k (x - x / y * y)) nx lv st sh rf iv lg
  | .ineg => xunI (fun x k => k (.int (-x))) nx lv st sh rf iv lg
  | .ladd => xbinL (fun x y k => k (x + y)) nx lv st sh rf iv lg
  | .lsub => xbinL (fun x y k => k (x - y)) nx lv st sh rf iv lg
  | .land => xbinL (fun x y k => k (x &&& y)) nx lv st sh rf iv lg
  | .lor => xbinL (fun x y k => k (x ||| y)) nx lv st sh rf iv lg
  | .lshl => xshL (fun x y k => k (x <<< (y.toInt64 &&& 63))) nx lv st sh rf iv lg
  | .lshr => xshL (fun x y k => k (x >>> (y.toInt64 &&& 63))) nx lv st sh rf iv lg
  | .lcmp => xcmpL nx lv st sh rf iv lg
  | .i2l => xunI (fun x k => k (.long x.toInt64)) nx lv st sh rf iv lg
  | .l2i => xunL (fun x k => k (.int x.toInt32)) nx lv st sh rf iv lg
  | .i2c => xunI (fun x k => k (.int (x.toUInt32 % 65536).toInt32)) nx lv st sh rf iv lg
  | .i2s => xunI (fun x k => k (.int x.toInt16.toInt32)) nx lv st sh rf iv lg
  | .dup => xdup nx lv st sh rf iv lg
  | .dup2 => xdup2 nx lv st sh rf iv lg
  | .pop => xpop nx lv st sh rf iv lg
  | .goto _ => xgo os lv st sh rf iv lg
  | .ifCond .eq _ => xif (fun x k => k (x = 0)) nx os lv st sh rf iv lg
  | .ifCond .ne _ => xif (fun x k => k (¬ x = 0)) nx os lv st sh rf iv lg
  | .ifCond .lt _ => xif (fun x k => k (x < 0)) nx os lv st sh rf iv lg
  | .ifCond .ge _ => xif (fun x k => k (0 ≤ x)) nx os lv st sh rf iv lg
  | .ifCond .gt _ => xif (fun x k => k (0 < x)) nx os lv st sh rf iv lg
  | .ifCond .le _ => xif (fun x k => k (x ≤ 0)) nx os lv st sh rf iv lg
  | .if_icmp .eq _ => xicmp (fun x y k => k (x = y)) nx os lv st sh rf iv lg
  | .if_icmp .ne _ => xicmp (fun x y k => k (¬ x = y)) nx os lv st sh rf iv lg
  | .if_icmp .lt _ => xicmp (fun x y k => k (x < y)) nx os lv st sh rf iv lg
  | .if_icmp .ge _ => xicmp (fun x y k => k (y ≤ x)) nx os lv st sh rf iv lg
  | .if_icmp .gt _ => xicmp (fun x y k => k (y < x)) nx os lv st sh rf iv lg
  | .if_icmp .le _ => xicmp (fun x y k => k (x ≤ y)) nx os lv st sh rf iv lg
  | .tableswitch _ _ _ _ => xtab os sw lv st sh rf iv lg
  | .getfield _ => xget nx os lv st sh rf iv lg
  | .putfield _ => xput nx os lv st sh rf iv lg
  | .iaload => xald L xs M nx lv st sh rf iv lg
  | .caload => xcald nx lv st sh rf iv lg
  | .laload => xlald nx lv st sh rf iv lg
  | .aaload => xaald nx lv st sh rf iv lg
  | .iastore => xast nx lv st sh rf iv lg
  | .castore => xcast nx lv st sh rf iv lg
  | .lastore => xlast nx lv st sh rf iv lg
  | .aastore => xaast nx lv st sh rf iv lg
  | .arraylength => xlen L M nx lv st sh rf iv lg
  | .new _ => xnew nx os lv st sh rf iv lg
  | .newarray .int => xnewa 0 nx lv st sh rf iv lg
  | .newarray .long => xnewa 1 nx lv st sh rf iv lg
  | .newarray .char => xnewa 2 nx lv st sh rf iv lg
  | .anewarray _ => xnewq nx lv st sh rf iv lg
  | .multianewarray _ _ => xmna nx lv st sh rf iv lg
  | .invokestatic _ => xinvS os (xcpy nx lv st sh rf iv lg) (xmth imx nx lv st sh rf iv lg) (xmth imn nx lv st sh rf iv lg) (fun m np => xcall m np nx lv st sh rf iv lg)
  | .invokespecial _ => xinv os (xobj nx lv st sh rf iv lg) (fun m np => xcallI m np nx lv st sh rf iv lg)
  | .invokevirtual _ => xinvV os (fun m np ci => xcallV m np ci nx lv st sh rf iv lg)
  | .ireturn => xn2 xret M none (fun rt => xretI rt st sh rf iv lg)
  | .lreturn => xn2 xret M none (fun rt => xretL rt st sh rf iv lg)
  | .areturn => xn2 xret M none (fun rt => xretA rt st sh rf iv lg)
  | .return_ => xn2 xret M none (fun rt => xretV rt st sh rf iv lg)
  | _ => none
def xfetch {β : Type} (M pc : Nat) (d : β) (f : xIns → β) : β := xn2 xcodes M d (fun cs => xn2 cs pc d f)
def xstep (L : Nat) (xs : Nat → Int32) (M pc : Nat) (lv : xLv) (st : List Value) (sh : xSh) (rf : xRf) (iv : xIv) (lg : xLg) : xR :=
  xfetch M pc none (fun e => match e with
    | (_, nx, ins, _, os, sw, cv) => xdo L xs M lv st sh rf iv lg nx ins os sw cv)
/-- the locals with which a method begins -/
def xent : Nat → List Value → xLv
  | 0, _ => []
  | n + 1, [] => none :: xent n []
  | n + 1, .long x :: l => some (.long x) :: (match n with
    | 0 => []
    | n + 1 => none :: xent n l)
  | n + 1, .double x :: l => some (.double x) :: (match n with
    | 0 => []
    | n + 1 => none :: xent n l)
  | n + 1, v :: l => some v :: xent n l
def xpush (r : Option Value) (st : List Value) : List Value := match r with
  | none => st
  | some v => v :: st
def xpushK {β : Type} (r : Option Value) (st : List Value) (f : List Value → β) : β := match r with
  | none => f st
  | some v => f (v :: st)
/-- the same, the list built ahead of its use -/
def xentK {β : Type} : Nat → List Value → (xLv → β) → β
  | 0, _, f => f []
  | n + 1, [], f => xentK n [] (fun l => f (none :: l))
  | n + 1, .long x :: l, f => (match n with
    | 0 => f [some (.long x)]
    | n + 1 => xentK n l (fun l => f (some (.long x) :: none :: l)))
  | n + 1, .double x :: l, f => (match n with
    | 0 => f [some (.double x)]
    | n + 1 => xentK n l (fun l => f (some (.double x) :: none :: l)))
  | n + 1, v :: l, f => xentK n l (fun l => f (some v :: l))
noncomputable def xite {α : Type} (c : Prop) (a b : α) : α := @ite α c (Classical.propDecidable c) a b
noncomputable def xsw {α : Type} (v : Int32) (f : Nat → α) (d : Nat) : List (Int32 × Nat) → α
  | [] => f d
  | q :: l => xite (v = q.1) (f q.2) (xsw v f d l)
noncomputable def xrun (g : Nat → Nat → xLv → List Value → xMem → Option (Option Value × xMem)) (M : Nat) (r : xR) : Option (Option Value × xMem) := match r with
  | none => none
  | some (.inl (pc, lv, st, μ)) => g M pc lv st μ
  | some (.inr (.inl (c, t, pc, lv, st, μ))) => xite c (g M t lv st μ) (g M pc lv st μ)
  | some (.inr (.inr (.inl (c, pc, lv, st, μ)))) => xite c (g M pc lv st μ) none
  | some (.inr (.inr (.inr (.inl (m, as, pc, lv, st, μ))))) => (match g m 0 (xent (xml m) as) [] μ with
    | none => none
    | some (r, μ') => g M pc lv (xpush r st) μ')
  | some (.inr (.inr (.inr (.inr (.inl (r, μ)))))) => some (r, μ)
  | some (.inr (.inr (.inr (.inr (.inr (.inl (v, sw, pc, lv, st, μ))))))) => xsw v (fun t => g M t lv st μ) pc sw
  | some (.inr (.inr (.inr (.inr (.inr (.inr (c, r, μ))))))) => xite c (some (r, μ)) none
noncomputable def xexec (L : Nat) (xs : Nat → Int32) : Nat → Nat → Nat → xLv → List Value → xMem → Option (Option Value × xMem)
  | 0, _, _, _, _, _ => none
  | n + 1, M, pc, lv, st, μ => xrun (xexec L xs n) M (xstep L xs M pc lv st μ.1 μ.2.1 μ.2.2.1 μ.2.2.2)
abbrev xQ : Type := Option Value → xSh → xRf → xIv → xLg → Prop
/-- the machine, from here, ends with Q -/
def Wp (L : Nat) (xs : Nat → Int32) (M pc : Nat) (lv : xLv) (st : List Value) (sh : xSh) (rf : xRf) (iv : xIv) (lg : xLg) (Q : xQ) : Prop :=
  ∃ n r sh' rf' iv' lg', xexec L xs n M pc lv st (sh, rf, iv, lg) = some (r, sh', rf', iv', lg') ∧ Q r sh' rf' iv' lg'
/-- a method, called with these, ends with Q -/
def Sp (L : Nat) (xs : Nat → Int32) (M : Nat) (as : List Value) (sh : xSh) (rf : xRf) (iv : xIv) (lg : xLg) (Q : xQ) : Prop := Wp L xs M 0 (xent (xml M) as) [] sh rf iv lg Q
def xswP (v : Int32) (f : Nat → Prop) (d : Nat) : List (Int32 × Nat) → Prop
  | [] => f d
  | q :: l => (v = q.1 → f q.2) ∧ (¬ v = q.1 → xswP v f d l)
def xmemN (i : Nat) : List Nat → Bool
  | [] => false
  | k :: l => Nat.beq i k || xmemN i l
/-- what must hold at a step, where F stands for what comes behind -/
def xwb (L : Nat) (xs : Nat → Int32) (M : Nat) (F : Nat → xLv → List Value → xSh → xRf → xIv → xLg → Prop) (Q : xQ) (r : xR) : Prop := match r with
  | none => False
  | some (.inl (pc, lv, st, sh, rf, iv, lg)) => F pc lv st sh rf iv lg
  | some (.inr (.inl (c, t, pc, lv, st, sh, rf, iv, lg))) => (c → F t lv st sh rf iv lg) ∧ (¬ c → F pc lv st sh rf iv lg)
  | some (.inr (.inr (.inl (c, pc, lv, st, sh, rf, iv, lg)))) => c ∧ F pc lv st sh rf iv lg
  | some (.inr (.inr (.inr (.inl (m, as, pc, lv, st, sh, rf, iv, lg))))) => Sp L xs m as sh rf iv lg (fun r sh rf iv lg => xpushK r st (fun st => F pc lv st sh rf iv lg))
  | some (.inr (.inr (.inr (.inr (.inl (r, sh, rf, iv, lg)))))) => Q r sh rf iv lg
  | some (.inr (.inr (.inr (.inr (.inr (.inl (v, sw, pc, lv, st, sh, rf, iv, lg))))))) => xswP v (fun t => F t lv st sh rf iv lg) pc sw
  | some (.inr (.inr (.inr (.inr (.inr (.inr (c, r, sh, rf, iv, lg))))))) => c ∧ Q r sh rf iv lg
/-- what must hold here: read off the code, up to the places S, to calls and to the end -/
def wpx (L : Nat) (xs : Nat → Int32) (S : List Nat) (M : Nat) (Q : xQ) : Nat → Nat → xLv → List Value → xSh → xRf → xIv → xLg → Prop
  | 0, pc, lv, st, sh, rf, iv, lg => Wp L xs M pc lv st sh rf iv lg Q
  | n + 1, pc, lv, st, sh, rf, iv, lg => match xmemN pc S with
    | true => Wp L xs M pc lv st sh rf iv lg Q
    | false => xwb L xs M (wpx L xs S M Q n) Q (xstep L xs M pc lv st sh rf iv lg)
