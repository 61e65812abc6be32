-- ===== the tables are the code's: each row is decoded, linked, and goes where it says =====
def xlw (p : Nat) : Option Cond := lw_tbl[p]?
def xYf (M : Nat) : MethodName := xn2 xY M ⟨"", "", ""⟩ id
def xccf (M : Nat) : ByteArray := xn2 xcc M ⟨#[]⟩ id
def xretf (M : Nat) : Option FieldType := xn2 xret M none id
def xfrf (M : Nat) : Nat := xn2 xfr M 0 id
def xlof (M : Nat) : Nat := xn2 xlo M 0 id
def xnpf (M : Nat) : Nat := xn2 xnp M 0 id
def xcwf (M : Nat) : Nat := xn2 xcw M 0 id
def xiwf (M : Nat) : Nat := xn2 xiw M 0 id
def xbpc (cs : List (List xIns)) (i : Nat) : Nat := xn2 cs i 0 (fun e => e.1)
def xcs (M : Nat) : List (List xIns) := xn2 xcodes M [] id
def xbp (M i : Nat) : Nat := xbpc (xcs M) i
def xokSw (M : Nat) (bp : Nat) : Int → List Int → List (Int32 × Nat) → Bool
  | _, [], [] => true
  | lo, o :: os, q :: sw => decide (q.1.toInt = lo) && (decide ((bp : Int) + o = (xbp M q.2 : Int)) && xokSw M bp (lo + 1) os sw)
  | _, _, _ => false
def xsome {α : Type} (o : Option α) (f : α → Bool) : Bool := match o with
  | some x => f x
  | none => false
def xkty (t : FieldType) : Nat := match t with
  | .int => 0
  | .boolean => 2
  | .object _ => 1
  | .array _ => 1
  | _ => 3
/-- a field's row: its link, its class, its type -/
def xokF (own : String) (idx q ci j kd : Nat) : Bool := xsome xCl[ci]? (fun C => Nat.blt j C.2.2 && (decide ((C.2.1 j).1 = C.1) && (decide (xlw q = some (.fieldLink own idx C.1 (C.2.1 j).2.1 (C.2.1 j).2.2.1)) &&
  xsome xTys[ci]? (fun ty => Nat.beq (xkty (ty j)) kd))))
def xokP (M : Nat) (own : String) (ci j : Nat) : Bool := xsome xCl[ci]? (fun C => (C.2.1 j).2.2.2 == false || (decide ((C.2.1 j).1 = own) && decide ((xYf M).name = "<init>")))
def xokL (own : String) (idx m q nest : Nat) : Bool := match nest with
  | 0 => decide (xlw q = some (.methodLink own idx (xYf m)))
  | _ => decide (xlw q = some (.methodLinkNest own idx (xYf m) "StepRings"))
/-- what a callee is, wherever it is called -/
def xokC (m : Nat) : Bool := Nat.beq (xbp m 0) 0 && Nat.blt m xNM && (decide (xlw (xcwf m) = some (.code (xYf m) (xccf m) (xml m) (xretf m))) && (decide (xlw (xiwf m) = some (.initialized (xYf m).cls)) && (decide ((xYf m).cls ≠ "java/lang/invoke/MethodHandle" ∧ (xYf m).cls ≠ "java/lang/invoke/VarHandle") && (plainName (xYf m).cls &&
  decide ((parseMethodDescriptor (xYf m).desc).map (fun d => d.parameters.length) = some (xnpf m))))))
def xokR (M m : Nat) : Bool := Nat.blt m xNM && Nat.ble (xfrf m + 1) (xfrf M) && Nat.ble (19 + (xml m + xlof m)) (xlof M)
def xokO (M : Nat) (own : String) (bp nx : Nat) (ins : Instr) (len : Nat) (os : List Nat) (sw : List (Int32 × Nat)) (cv : Value) : Bool := match ins with
  | .iconst n => Nat.beq len 1 && (Nat.beq (xbp M nx) (bp + 1) && decide (cv = .int (Int32.ofInt n)))
  | .bipush n => Nat.beq len 2 && (Nat.beq (xbp M nx) (bp + 2) && decide (cv = .int (Int8.ofInt n).toInt32))
  | .sipush n => Nat.beq len 3 && (Nat.beq (xbp M nx) (bp + 3) && decide (cv = .int (Int16.ofInt n).toInt32))
  | .lconst n => Nat.beq len 1 && (Nat.beq (xbp M nx) (bp + 1) && decide (cv = .long (Int64.ofNat (n : Nat))))
  | .ldc i => Nat.beq len 2 && (Nat.beq (xbp M nx) (bp + 2) && (match os, cv with
    | [q], .int v => decide (xlw q = some (.constant own i v))
    | _, _ => false))
  | .ldc_w i => Nat.beq len 3 && (Nat.beq (xbp M nx) (bp + 3) && (match os, cv with
    | [q], .int v => decide (xlw q = some (.constant own i v))
    | _, _ => false))
  | .ldc2_w i => Nat.beq len 3 && (Nat.beq (xbp M nx) (bp + 3) && (match os, cv with
    | [q], .long v => decide (xlw q = some (.constantLong own i v))
    | _, _ => false))
  | .iload_n k => Nat.beq len 1 && (Nat.beq (xbp M nx) (bp + 1) && decide (os = [(k : Nat)]))
  | .lload_n k => Nat.beq len 1 && (Nat.beq (xbp M nx) (bp + 1) && decide (os = [(k : Nat)]))
  | .aload_n k => Nat.beq len 1 && (Nat.beq (xbp M nx) (bp + 1) && decide (os = [(k : Nat)]))
  | .istore_n k => Nat.beq len 1 && (Nat.beq (xbp M nx) (bp + 1) && (decide (os = [(k : Nat)]) && Nat.blt k (xml M)))
  | .lstore_n k => Nat.beq len 1 && (Nat.beq (xbp M nx) (bp + 1) && (decide (os = [(k : Nat)]) && Nat.blt (k + 1) (xml M)))
  | .astore_n k => Nat.beq len 1 && (Nat.beq (xbp M nx) (bp + 1) && (decide (os = [(k : Nat)]) && Nat.blt k (xml M)))
  | .iload k => Nat.beq len 2 && (Nat.beq (xbp M nx) (bp + 2) && decide (os = [k]))
  | .lload k => Nat.beq len 2 && (Nat.beq (xbp M nx) (bp + 2) && decide (os = [k]))
  | .aload k => Nat.beq len 2 && (Nat.beq (xbp M nx) (bp + 2) && decide (os = [k]))
  | .istore k => Nat.beq len 2 && (Nat.beq (xbp M nx) (bp + 2) && (decide (os = [k]) && Nat.blt k (xml M)))
  | .lstore k => Nat.beq len 2 && (Nat.beq (xbp M nx) (bp + 2) && (decide (os = [k]) && Nat.blt (k + 1) (xml M)))
  | .astore k => Nat.beq len 2 && (Nat.beq (xbp M nx) (bp + 2) && (decide (os = [k]) && Nat.blt k (xml M)))
  | .iinc k n => Nat.beq len 3 && (Nat.beq (xbp M nx) (bp + 3) && (decide (os = [k]) && (Nat.blt k (xml M) && decide (cv = .int (Int32.ofInt n)))))
  | .goto off => Nat.beq len 3 && (match os with
    | [t] => decide ((bp : Int) + off = (xbp M t : Int))
    | _ => false)
  | .ifCond _ off => Nat.beq len 3 && (Nat.beq (xbp M nx) (bp + 3) && (match os with
    | [t] => decide ((bp : Int) + off = (xbp M t : Int))
    | _ => false))
  | .if_icmp _ off => Nat.beq len 3 && (Nat.beq (xbp M nx) (bp + 3) && (match os with
    | [t] => decide ((bp : Int) + off = (xbp M t : Int))
    | _ => false))
  | .tableswitch d lo hi offs => (match os with
    | [t] => decide ((bp : Int) + d = (xbp M t : Int)) && (decide (hi = lo + (offs.toList.length : Int) - 1) && xokSw M bp lo offs.toList sw)
    | _ => false)
  | .getfield idx => Nat.beq len 3 && (Nat.beq (xbp M nx) (bp + 3) && (match os with
    | [q, ci, j, kd] => xokF own idx q ci j kd
    | _ => false))
  | .putfield idx => Nat.beq len 3 && (Nat.beq (xbp M nx) (bp + 3) && (match os with
    | [q, ci, j, kd] => xokF own idx q ci j kd && xokP M own ci j
    | _ => false))
  | .new idx => Nat.beq len 3 && (Nat.beq (xbp M nx) (bp + 3) && (match os with
    | [q, ci, n, q2] => xsome xCl[ci]? (fun C => Nat.beq n C.2.2 && (decide (xlw q = some (.classLink own idx C.1)) && (decide (xlw q2 = some (.instantiable C.1 C.2.2)) && decide (Cond.initialized C.1 ∈ lw_tbl))))
    | _ => false))
  | .newarray _ => Nat.beq len 2 && Nat.beq (xbp M nx) (bp + 2)
  | .anewarray idx => Nat.beq len 3 && (Nat.beq (xbp M nx) (bp + 3) && (match os with
    | [q] => decide (xlw q = some (.classLink own idx "StepRings$Sheet"))
    | _ => false))
  | .multianewarray idx d => Nat.beq len 4 && (Nat.beq (xbp M nx) (bp + 4) && (Nat.beq d 2 && (match os with
    | [q] => decide (xlw q = some (.classLink own idx "[[I"))
    | _ => false)))
  | .invokestatic idx => Nat.beq len 3 && (Nat.beq (xbp M nx) (bp + 3) && (match os with
    | [0, q, 0] => decide (xlw q = some (.methodLink own idx arraycopyName)) && (Nat.ble 1 (xfrf M) && Nat.ble 26 (xlof M))
    | [0, q, 1] => decide (xlw q = some (.methodLink own idx Lib.Math.max.name)) && (Nat.ble 1 (xfrf M) && Nat.ble 21 (xlof M))
    | [0, q, 2] => decide (xlw q = some (.methodLink own idx Lib.Math.min.name)) && (Nat.ble 1 (xfrf M) && Nat.ble 21 (xlof M))
    | [m1 + 1, q, k2, _, np, nest] => Nat.blt 0 m1 && (xokL own idx m1 q nest && (decide (xlw k2 = some (.static (xYf m1))) && (Nat.beq np (xnpf m1) && xokR M m1)))
    | _ => false))
  | .invokespecial idx => Nat.beq len 3 && (Nat.beq (xbp M nx) (bp + 3) && (match os with
    | [0, q] => decide (xlw q = some (.methodLink own idx Lib.objectInit)) && (Nat.ble 1 (xfrf M) && Nat.ble 20 (xlof M))
    | [m1 + 1, q, k2, _, np, nest] => Nat.blt 0 m1 && (xokL own idx m1 q nest && (decide (xlw k2 = some (.instanceMethod (xYf m1))) && (Nat.beq np (xnpf m1 + 1) && (decide ((xYf m1).name = "<init>") && (decide (xretf m1 = none) && xokR M m1)))))
    | _ => false))
  | .invokevirtual idx => Nat.beq len 3 && (Nat.beq (xbp M nx) (bp + 3) && (match os with
    | [m1 + 1, q, k2, k3, np, nest, ci] => Nat.blt 0 m1 && (xokL own idx m1 q nest && (decide (xlw k2 = some (.instanceMethod (xYf m1))) && (decide (xlw k3 = some (.selects (xYf m1).cls (xYf m1) (xYf m1))) && (Nat.beq np (xnpf m1 + 1) && (xsome xCl[ci]? (fun C => decide (C.1 = (xYf m1).cls)) && xokR M m1)))))
    | _ => false))
  | _ => Nat.beq len 1 && Nat.beq (xbp M nx) (bp + 1)
def xokI (M : Nat) (own : String) (cc : ByteArray) (e : xIns) : Bool := match e with
  | (bp, nx, ins, len, os, sw, cv) => decide (decode cc bp = .ok (ins, len)) && (match ins with
    | .ireturn => Nat.beq len 1
    | .lreturn => Nat.beq len 1
    | .areturn => Nat.beq len 1
    | .return_ => Nat.beq len 1
    | _ => xokO M own bp nx ins len os sw cv)
def xokM (M : Nat) : Bool := (xcs M).all (fun c => c.all (fun e => xokI M (xYf M).cls (xccf M) e)) && (match M with
  | 0 => true
  | m + 1 => xokC (m + 1) || Nat.ble xNM (m + 1))
