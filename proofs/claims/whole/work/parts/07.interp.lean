/-! THE INTERPRETER: what the machine does with the row of cells, as a function. A world: how many cells are made; which final fields are set; what ints the cells hold; what references. References: .ref k is cell k of the row; .retAddr k is a thing that was there before (0 the script, 1 2 3 the static rows, 5 a formatter, 10 + i text i, 20 + i its bytes); .float 0 is a local that nobody may read. -/
abbrev Wd : Type := Nat × (Nat → Nat → Bool) × (Nat → Nat → Int32) × (Nat → Nat → Option Nat)
abbrev Fr : Type := Nat × List Value × List Value × Wd
abbrev Xe : Type := Nat × (Nat → Int32)
def up2 {α : Type} (f : Nat → Nat → α) (k j : Nat) (v : α) : Nat → Nat → α := fun a b => if a = k then (if b = j then v else f a b) else f a b
def clr {α : Type} (f : Nat → Nat → α) (k : Nat) (v : α) : Nat → Nat → α := fun a b => if a = k then v else f a b
theorem up2_s {α : Type} (f : Nat → Nat → α) (k j : Nat) (v : α) : up2 f k j v k j = v := by simp [up2]
theorem up2_j {α : Type} (f : Nat → Nat → α) (k j i : Nat) (v : α) (h : i ≠ j) : up2 f k j v k i = f k i := by simp [up2, h]
theorem up2_k {α : Type} (f : Nat → Nat → α) (k j q i : Nat) (v : α) (h : q ≠ k) : up2 f k j v q i = f q i := by simp [up2, h]
def xSHAPESL : List Int32 := [1, 0, 2, 2, 3, 0, 0, 0, 0, 0, 0, 0, 0, 0, 0, 0, 0, 0, 0, 0, 4, 4, 4, 4, 4, 4, 4, 4, 4, 4, 4, 4, 4, 4, 4, 4, 4, 5, 6, 6, 6, 6, 0, 0, 0, 0, 0, 0, 0, 6, 6, 0, 0, 5, 5, 2, 2, 7, 7]
def xTAKESL : List Int32 := [0, 0, (-1), (-1), (-1), (-1), (-1), (-1), 11, 11, 11, 11, 11, 11, 11, 11, 11, 11, 11, 1, 0, 1, 1, 1, 1, 1, 1, 11, 11, 11, 11, 11, 11, 2, 2, 22, 22, 0, (-1), (-1), (-1), (-1), 1, 1, 21, 211, 21, 212, 2, (-1), (-1), (-1), 2, 2, 2, 0, 1, 1, 1]
def xGIVESL : List Int32 := [1, 2, 0, 0, 0, 0, 0, 0, 1, 1, 1, 1, 1, 1, 1, 1, 1, 1, 1, 1, 0, 0, 0, 0, 0, 0, 0, 0, 0, 0, 0, 0, 0, 0, 0, 0, 0, 2, 0, 0, 0, 0, 2, 2, 1, 0, 2, 0, 1, 0, 0, 0, 0, 1, 2, 1, 0, 1, 1]
/-- TaintHouse$Names, entry 20 -/
def xT0 : List Int32 := [112, 117, 115, 104, 32, 110, 117, 108, 108, 32, 108, 111, 97, 100, 32, 115, 116, 111, 114, 101, 32, 105, 110, 99, 32, 100, 117, 112, 32, 112, 111, 112, 32, 115, 119, 97, 112, 32, 97, 100, 100, 32, 115, 117, 98, 32, 109, 117, 108, 32, 100, 105, 118, 32, 114, 101, 109, 32, 97, 110, 100, 32, 111, 114, 32, 120, 111, 114, 32, 115, 104, 108, 32, 115, 104, 114, 32, 117, 115, 104, 114, 32, 110, 101, 103, 32, 103, 111, 116, 111, 32, 105, 102, 101, 113, 32, 105, 102, 110, 101, 32, 105, 102, 108, 116, 32, 105, 102, 103, 101, 32, 105, 102, 103, 116, 32, 105, 102, 108, 101, 32, 99, 109, 112, 101, 113, 32, 99, 109, 112, 110, 101, 32, 99, 109, 112, 108, 116, 32, 99, 109, 112, 103, 101, 32, 99, 109, 112, 103, 116, 32, 99, 109, 112, 108, 101, 32, 105, 102, 110, 117, 108, 108, 32, 105, 102, 115, 111, 109, 101, 32, 115, 97, 109, 101, 32, 111, 116, 104, 101, 114, 32, 110, 101, 119, 32, 103, 101, 116, 32, 112, 117, 116, 32, 103, 101, 116, 115, 32, 112, 117, 116, 115, 32, 105, 110, 116, 115, 32, 114, 101, 102, 115, 32, 105, 103, 101, 116, 32, 105, 112, 117, 116, 32, 114, 103, 101, 116, 32, 114, 112, 117, 116, 32, 108, 101, 110, 103, 116, 104, 32, 99, 97, 108, 108, 32, 118, 105, 114, 116, 32, 114, 101, 116, 32, 116, 104, 114, 111, 119, 32, 105, 115, 32, 97, 115, 32, 115, 111, 117, 114, 99, 101, 32, 115, 105, 110, 107, 32, 99, 108, 101, 97, 110, 32, 109, 97, 114, 107, 32, 99, 108, 97, 115, 115, 32, 102, 105, 101, 108, 100, 32, 115, 116, 97, 116, 105, 99, 32, 109, 101, 116, 104, 111, 100, 32, 118, 105, 114, 116, 117, 97, 108, 32, 105, 110, 116, 32, 114, 101, 102, 32, 110, 111, 110, 101, 32, 116, 114, 121, 32, 65, 110, 121, 32, 70, 97, 117, 108, 116, 32, 78, 117, 108, 108, 70, 97, 117, 108, 116, 32, 66, 111, 117, 110, 100, 115, 70, 97, 117, 108, 116, 32, 83, 105, 122, 101, 70, 97, 117, 108, 116, 32, 68, 105, 118, 105, 100, 101, 70, 97, 117, 108, 116, 32, 67, 97, 115, 116, 70, 97, 117, 108, 116, 32]
/-- TaintHouse$Lexer, entry 104 -/
def xT1 : List Int32 := [123, 125, 40, 41, 59, 58, 44, 45]
/-- TaintHouseModel, entry 242 -/
def xT2 : List Int32 := [65, 110, 121, 32, 70, 97, 117, 108, 116, 32, 78, 117, 108, 108, 70, 97, 117, 108, 116, 32, 66, 111, 117, 110, 100, 115, 70, 97, 117, 108, 116, 32, 83, 105, 122, 101, 70, 97, 117, 108, 116, 32, 68, 105, 118, 105, 100, 101, 70, 97, 117, 108, 116, 32, 67, 97, 115, 116, 70, 97, 117, 108, 116, 32]
/-- TaintHouseModel, entry 171 -/
def xT3 : List Int32 := [112, 117, 115, 104, 32, 110, 117, 108, 108, 32, 108, 111, 97, 100, 32, 115, 116, 111, 114, 101, 32, 105, 110, 99, 32, 100, 117, 112, 32, 112, 111, 112, 32, 115, 119, 97, 112, 32, 97, 100, 100, 32, 115, 117, 98, 32, 109, 117, 108, 32, 100, 105, 118, 32, 114, 101, 109, 32, 97, 110, 100, 32, 111, 114, 32, 120, 111, 114, 32, 115, 104, 108, 32, 115, 104, 114, 32, 117, 115, 104, 114, 32, 110, 101, 103, 32, 103, 111, 116, 111, 32, 105, 102, 101, 113, 32, 105, 102, 110, 101, 32, 105, 102, 108, 116, 32, 105, 102, 103, 101, 32, 105, 102, 103, 116, 32, 105, 102, 108, 101, 32, 99, 109, 112, 101, 113, 32, 99, 109, 112, 110, 101, 32, 99, 109, 112, 108, 116, 32, 99, 109, 112, 103, 101, 32, 99, 109, 112, 103, 116, 32, 99, 109, 112, 108, 101, 32, 105, 102, 110, 117, 108, 108, 32, 105, 102, 115, 111, 109, 101, 32, 115, 97, 109, 101, 32, 111, 116, 104, 101, 114, 32, 110, 101, 119, 32, 103, 101, 116, 32, 112, 117, 116, 32, 103, 101, 116, 115, 32, 112, 117, 116, 115, 32, 105, 110, 116, 115, 32, 114, 101, 102, 115, 32, 105, 103, 101, 116, 32, 105, 112, 117, 116, 32, 114, 103, 101, 116, 32, 114, 112, 117, 116, 32, 108, 101, 110, 103, 116, 104, 32, 99, 97, 108, 108, 32, 118, 105, 114, 116, 32, 114, 101, 116, 32, 116, 104, 114, 111, 119, 32, 105, 115, 32, 97, 115, 32, 115, 111, 117, 114, 99, 101, 32, 115, 105, 110, 107, 32, 99, 108, 101, 97, 110, 32, 109, 97, 114, 107, 32]
/-- TaintHouseModel, entry 177 -/
def xT4 : List Int32 := [99, 108, 97, 115, 115, 32, 102, 105, 101, 108, 100, 32, 115, 116, 97, 116, 105, 99, 32, 109, 101, 116, 104, 111, 100, 32, 118, 105, 114, 116, 117, 97, 108, 32, 105, 110, 116, 32, 114, 101, 102, 32, 110, 111, 110, 101, 32, 116, 114, 121, 32]
def xTL : List (List Int32) := [xT0, xT1, xT2, xT3, xT4]
def xlen (E : Xe) (e : Nat) : Nat := if e = 0 then E.1 else if e = 1 then xSHAPESL.length else if e = 2 then xTAKESL.length else if e = 3 then xGIVESL.length else (xTL.getD (e - 20) []).length
def xval (E : Xe) (e i : Nat) : Int32 := if e = 0 then E.2 i else if e = 1 then xSHAPESL.getD i 0 else if e = 2 then xTAKESL.getD i 0 else if e = 3 then xGIVESL.getD i 0 else (xTL.getD (e - 20) []).getD i 0
def isXI (e : Nat) : Bool := Nat.ble e 3
def isXB (e : Nat) : Bool := Nat.ble 20 e && Nat.ble e 24
def isXS (e : Nat) : Bool := Nat.ble 10 e && Nat.ble e 14
def us : Value := .float 0
/-- what a store leaves of the long just below -/
def clL (ls : List Value) (k : Nat) : List Value := match k with
  | 0 => ls
  | k + 1 => match ls[k]? with
    | some (.long _) => ls.set k us
    | some (.double _) => ls.set k us
    | _ => ls
def sto (ls : List Value) (k : Nat) (v : Value) : List Value := (clL ls k).set k v
def stoL (ls : List Value) (k : Nat) (v : Value) : List Value := ((clL ls k).set k v).set (k + 1) us
def swT (l : List (Int32 × Nat)) (d : Nat) (x : Int32) : Nat := match l with
  | [] => d
  | (k, t) :: r => if x = k then t else swT r d x
def iin (i : Int32) (n : Nat) : Prop := ¬ (i < 0 ∨ n ≤ i.toNatClampNeg)
def is1 (v : Value) : Bool := match v with
  | .long _ => false
  | .double _ => false
  | _ => true
def catS (st : List Value) : Nat := (st.map fun v => v.category).sum
/-- an instruction that is no call, no throw and no return -/
def st1 (E : Xe) (e : En) (pc : Nat) (ls st : List Value) (w : Wd) : Option Fr :=
  match e with
  | (i, n, a, b, c, _, v) =>
  match i with
  | .iconst _ => some (pc + n, ls, .int v :: st, w)
  | .bipush _ => some (pc + n, ls, .int v :: st, w)
  | .sipush _ => some (pc + n, ls, .int v :: st, w)
  | .ldc _ => if c = 0 then some (pc + n, ls, .int v :: st, w) else if isXS a then some (pc + n, ls, .retAddr a :: st, w) else none
  | .ldc_w _ => if c = 0 then some (pc + n, ls, .int v :: st, w) else if isXS a then some (pc + n, ls, .retAddr a :: st, w) else none
  | .ldc2_w _ => some (pc + n, ls, .long (Int64.ofNat a) :: st, w)
  | .lconst k => some (pc + n, ls, .long (Int64.ofNat k.val) :: st, w)
  | .iload k => match ls[k]? with
    | some (.int x) => some (pc + n, ls, .int x :: st, w)
    | _ => none
  | .iload_n k => match ls[k.val]? with
    | some (.int x) => some (pc + n, ls, .int x :: st, w)
    | _ => none
  | .lload k => match ls[k]? with
    | some (.long x) => some (pc + n, ls, .long x :: st, w)
    | _ => none
  | .lload_n k => match ls[k.val]? with
    | some (.long x) => some (pc + n, ls, .long x :: st, w)
    | _ => none
  | .aload k => match ls[k]? with
    | some (.ref x) => some (pc + n, ls, .ref x :: st, w)
    | some (.retAddr x) => some (pc + n, ls, .retAddr x :: st, w)
    | _ => none
  | .aload_n k => match ls[k.val]? with
    | some (.ref x) => some (pc + n, ls, .ref x :: st, w)
    | some (.retAddr x) => some (pc + n, ls, .retAddr x :: st, w)
    | _ => none
  | .istore k => match st with
    | .int x :: r => if k < ls.length then some (pc + n, sto ls k (.int x), r, w) else none
    | _ => none
  | .istore_n k => match st with
    | .int x :: r => if k.val < ls.length then some (pc + n, sto ls k.val (.int x), r, w) else none
    | _ => none
  | .lstore k => match st with
    | .long x :: r => if k + 1 < ls.length then some (pc + n, stoL ls k (.long x), r, w) else none
    | _ => none
  | .lstore_n k => match st with
    | .long x :: r => if k.val + 1 < ls.length then some (pc + n, stoL ls k.val (.long x), r, w) else none
    | _ => none
  | .astore k => match st with
    | .ref x :: r => if k < ls.length then some (pc + n, sto ls k (.ref x), r, w) else none
    | _ => none
  | .astore_n k => match st with
    | .ref x :: r => if k.val < ls.length then some (pc + n, sto ls k.val (.ref x), r, w) else none
    | _ => none
  | .iinc k _ => match ls[k]? with
    | some (.int x) => if k < ls.length then some (pc + n, sto ls k (.int (x + v)), st, w) else none
    | _ => none
  | .iadd => match st with
    | .int y :: .int x :: r => some (pc + n, ls, .int (x + y) :: r, w)
    | _ => none
  | .isub => match st with
    | .int y :: .int x :: r => some (pc + n, ls, .int (x - y) :: r, w)
    | _ => none
  | .imul => match st with
    | .int y :: .int x :: r => some (pc + n, ls, .int (x * y) :: r, w)
    | _ => none
  | .iand => match st with
    | .int y :: .int x :: r => some (pc + n, ls, .int (x &&& y) :: r, w)
    | _ => none
  | .ior => match st with
    | .int y :: .int x :: r => some (pc + n, ls, .int (x ||| y) :: r, w)
    | _ => none
  | .ixor => match st with
    | .int y :: .int x :: r => some (pc + n, ls, .int (x ^^^ y) :: r, w)
    | _ => none
  | .ishl => match st with
    | .int y :: .int x :: r => some (pc + n, ls, .int (x <<< (y &&& 31)) :: r, w)
    | _ => none
  | .ishr => match st with
    | .int y :: .int x :: r => some (pc + n, ls, .int (x >>> (y &&& 31)) :: r, w)
    | _ => none
  | .iushr => match st with
    | .int y :: .int x :: r => some (pc + n, ls, .int (x.toUInt32 >>> (y.toUInt32 &&& Int32.toUInt32 31)).toInt32 :: r, w)
    | _ => none
  | .idiv => match st with
    | .int y :: .int x :: r => if y = 0 then none else some (pc + n, ls, .int (x / y) :: r, w)
    | _ => none
  | .irem => match st with
    | .int y :: .int x :: r => if y = 0 then none else some (pc + n, ls, .int (x - x / y * y) :: r, w)
    | _ => none
  | .ineg => match st with
    | .int x :: r => some (pc + n, ls, .int (-x) :: r, w)
    | _ => none
  | .ladd => match st with
    | .long y :: .long x :: r => some (pc + n, ls, .long (x + y) :: r, w)
    | _ => none
  | .lsub => match st with
    | .long y :: .long x :: r => some (pc + n, ls, .long (x - y) :: r, w)
    | _ => none
  | .lmul => match st with
    | .long y :: .long x :: r => some (pc + n, ls, .long (x * y) :: r, w)
    | _ => none
  | .lcmp => match st with
    | .long y :: .long x :: r => some (pc + n, ls, .int (lg_cmp x y) :: r, w)
    | _ => none
  | .i2l => match st with
    | .int x :: r => some (pc + n, ls, .long x.toInt64 :: r, w)
    | _ => none
  | .l2i => match st with
    | .long x :: r => some (pc + n, ls, .int x.toInt32 :: r, w)
    | _ => none
  | .i2b => match st with
    | .int x :: r => some (pc + n, ls, .int x.toInt8.toInt32 :: r, w)
    | _ => none
  | .i2c => match st with
    | .int x :: r => some (pc + n, ls, .int (x.toUInt32 % 65536).toInt32 :: r, w)
    | _ => none
  | .dup => match st with
    | x :: r => if is1 x then some (pc + n, ls, x :: x :: r, w) else none
    | _ => none
  | .pop => match st with
    | x :: r => if is1 x then some (pc + n, ls, r, w) else none
    | _ => none
  | .dup2 => match st with
    | y :: x :: r => if is1 x && is1 y then some (pc + n, ls, y :: x :: y :: x :: r, w) else none
    | _ => none
  | .ifCond q _ => match st with
    | .int x :: r => match q with
      | .eq => if x = 0 then some (a, ls, r, w) else some (pc + n, ls, r, w)
      | .ne => if x = 0 then some (pc + n, ls, r, w) else some (a, ls, r, w)
      | .lt => if x < 0 then some (a, ls, r, w) else some (pc + n, ls, r, w)
      | .ge => if 0 ≤ x then some (a, ls, r, w) else some (pc + n, ls, r, w)
      | .gt => if 0 < x then some (a, ls, r, w) else some (pc + n, ls, r, w)
      | .le => if x ≤ 0 then some (a, ls, r, w) else some (pc + n, ls, r, w)
    | _ => none
  | .if_icmp q _ => match st with
    | .int y :: .int x :: r => match q with
      | .eq => if x = y then some (a, ls, r, w) else some (pc + n, ls, r, w)
      | .ne => if x = y then some (pc + n, ls, r, w) else some (a, ls, r, w)
      | .lt => if x < y then some (a, ls, r, w) else some (pc + n, ls, r, w)
      | .ge => if y ≤ x then some (a, ls, r, w) else some (pc + n, ls, r, w)
      | .gt => if y < x then some (a, ls, r, w) else some (pc + n, ls, r, w)
      | .le => if x ≤ y then some (a, ls, r, w) else some (pc + n, ls, r, w)
    | _ => none
  | .goto _ => some (a, ls, st, w)
  | .tableswitch _ _ _ _ => match st with
    | .int x :: r => some (swT (swL.getD a ([], 0)).1 (swL.getD a ([], 0)).2 x, ls, r, w)
    | _ => none
  | .lookupswitch _ _ => match st with
    | .int x :: r => some (swT (swL.getD a ([], 0)).1 (swL.getD a ([], 0)).2 x, ls, r, w)
    | _ => none
  | .getstatic _ => if c = 0 then some (pc + n, ls, .retAddr a :: st, w) else some (pc + n, ls, .int v :: st, w)
  | .getfield _ => match st with
    | .ref k :: r =>
      if Nat.blt k w.1 && Nat.beq (shc k) a then
        (if c = 0 then some (pc + n, ls, .int (w.2.2.1 k b) :: r, w)
        else if c = 4 then some (pc + n, ls, .int (w.2.2.1 k b) :: r, w)
        else if c = 1 then (match w.2.2.2 k b with
          | some q => some (pc + n, ls, .ref q :: r, w)
          | none => none)
        else if w.2.1 k b then (if c = 2 then some (pc + n, ls, .int (Int32.ofNat (sf k b)) :: r, w) else if c = 3 then some (pc + n, ls, .ref (sf k b) :: r, w) else none)
        else none)
      else none
    | .retAddr k :: r =>
      if isXS k then (if c = 8 then some (pc + n, ls, .retAddr (k + 10) :: r, w) else if c = 9 then some (pc + n, ls, .int 0 :: r, w) else none) else none
    | _ => none
  | .putfield _ => match st with
    | .int x :: .ref k :: r =>
      if Nat.blt k w.1 && Nat.beq (shc k) a then
        (if c = 0 then some (pc + n, ls, r, (w.1, w.2.1, up2 w.2.2.1 k b x, w.2.2.2))
        else if c = 4 then (if x = 0 ∨ x = 1 then some (pc + n, ls, r, (w.1, w.2.1, up2 w.2.2.1 k b x, w.2.2.2)) else none)
        else if c = 2 then (if x = Int32.ofNat (sf k b) then some (pc + n, ls, r, (w.1, up2 w.2.1 k b true, w.2.2.1, w.2.2.2)) else none)
        else none)
      else none
    | .ref x :: .ref k :: r =>
      if Nat.blt k w.1 && Nat.beq (shc k) a then
        (if c = 1 then some (pc + n, ls, r, (w.1, w.2.1, w.2.2.1, up2 w.2.2.2 k b (some x)))
        else if c = 3 then (if x = sf k b then some (pc + n, ls, r, (w.1, up2 w.2.1 k b true, w.2.2.1, w.2.2.2)) else none)
        else none)
      else none
    | _ => none
  | .iaload => match st with
    | .int i :: .ref k :: r => if Nat.blt k w.1 && Nat.beq (shc k) 100 then (if i < 0 ∨ shl k ≤ i.toNatClampNeg then none else some (pc + n, ls, .int (w.2.2.1 k i.toNatClampNeg) :: r, w)) else none
    | .int i :: .retAddr k :: r => if isXI k then (if i < 0 ∨ xlen E k ≤ i.toNatClampNeg then none else some (pc + n, ls, .int (xval E k i.toNatClampNeg) :: r, w)) else none
    | _ => none
  | .baload => match st with
    | .int i :: .ref k :: r => if Nat.blt k w.1 && (Nat.beq (shc k) 101 || Nat.beq (shc k) 102) then (if i < 0 ∨ shl k ≤ i.toNatClampNeg then none else some (pc + n, ls, .int (w.2.2.1 k i.toNatClampNeg) :: r, w)) else none
    | .int i :: .retAddr k :: r => if isXB k then (if i < 0 ∨ xlen E k ≤ i.toNatClampNeg then none else some (pc + n, ls, .int (xval E k i.toNatClampNeg) :: r, w)) else none
    | _ => none
  | .iastore => match st with
    | .int x :: .int i :: .ref k :: r => if Nat.blt k w.1 && Nat.beq (shc k) 100 then (if i < 0 ∨ shl k ≤ i.toNatClampNeg then none else some (pc + n, ls, r, (w.1, w.2.1, up2 w.2.2.1 k i.toNatClampNeg x, w.2.2.2))) else none
    | _ => none
  | .bastore => match st with
    | .int x :: .int i :: .ref k :: r => if Nat.blt k w.1 then (if i < 0 ∨ shl k ≤ i.toNatClampNeg then none else
        if Nat.beq (shc k) 101 then some (pc + n, ls, r, (w.1, w.2.1, up2 w.2.2.1 k i.toNatClampNeg (vp_nar .byte x), w.2.2.2))
        else if Nat.beq (shc k) 102 then some (pc + n, ls, r, (w.1, w.2.1, up2 w.2.2.1 k i.toNatClampNeg (vp_nar .boolean x), w.2.2.2)) else none) else none
    | _ => none
  | .arraylength => match st with
    | .ref k :: r => if Nat.blt k w.1 && Nat.ble 100 (shc k) then some (pc + n, ls, .int (Int32.ofNat (shl k)) :: r, w) else none
    | .retAddr k :: r => if isXI k || isXB k then some (pc + n, ls, .int (Int32.ofNat (xlen E k)) :: r, w) else none
    | _ => none
  | .newarray _ => match st with
    | .int x :: r => if x < 0 then none else if Nat.beq (shc w.1) a && Nat.beq (shl w.1) x.toNatClampNeg then some (pc + n, ls, .ref w.1 :: r, (w.1 + 1, w.2.1, clr w.2.2.1 w.1 0, w.2.2.2)) else none
    | _ => none
  | .new _ => if Nat.beq (shc w.1) a && Nat.ble (catS st) 7 then some ((if a = 14 then pc + 7 else pc + n), ls, .ref w.1 :: st, (w.1 + 1, clr w.2.1 w.1 false, clr w.2.2.1 w.1 0, clr w.2.2.2 w.1 none)) else none
  | _ => none
def isRt (i : Instr) : Bool := match i with
  | .ireturn => true
  | .lreturn => true
  | .areturn => true
  | .return_ => true
  | _ => false
def isCl (i : Instr) : Bool := match i with
  | .invokevirtual _ => true
  | .invokestatic _ => true
  | .invokespecial _ => true
  | _ => false
def rt1 (m : Nat) (i : Instr) (st : List Value) : Option (Option Value) :=
  match i with
  | .ireturn => match st with
    | [.int x] => match rt m with
      | some .int => some (some (.int x))
      | some .boolean => if x = 0 ∨ x = 1 then some (some (.int x)) else none
      | some .byte => if x.toInt8.toInt32 = x then some (some (.int x)) else none
      | some .char => if (x.toUInt32 % 65536).toInt32 = x then some (some (.int x)) else none
      | _ => none
    | _ => none
  | .lreturn => match st with
    | [.long x] => match rt m with
      | some .long => some (some (.long x))
      | _ => none
    | _ => none
  | .areturn => match st with
    | [.ref x] => match rt m with
      | some (.object _) => some (some (.ref x))
      | _ => none
    | _ => none
  | .return_ => match st with
    | [] => match rt m with
      | none => some none
      | _ => none
    | _ => none
  | _ => none
def loc0 (m : Nat) (as : List Value) : List Value := as ++ List.replicate (mx m - as.length) us
/-- a call: the callee, its arguments, what is left of the stack; kinds 6 and 7 do nothing -/
def cl1 (e : En) (st : List Value) (w : Wd) : Option (Nat × List Value × List Value) :=
  match e with
  | (_, _, a, b, c, _, _) =>
    if Nat.ble b st.length && (st.take b).all is1 && Nat.ble (b + 1) (mx a + sm a) then
      (if Nat.beq c 0 || Nat.beq c 3 then (if catS (st.drop b) ≤ 8 then some (a, (st.take b).reverse, st.drop b) else none)
      else match st.drop b with
      | .ref k :: r => if Nat.blt k w.1 && Nat.beq (shc k) (ow a) && Nat.ble (catS r) 8 then some (a, .ref k :: (st.take b).reverse, r) else none
      | .retAddr k :: r => if isXS k && Nat.beq (ow a) cStr && Nat.ble (catS r) 8 then some (a, .retAddr k :: (st.take b).reverse, r) else none
      | _ => none)
    else none
/-- calls that are known: Object(), Math.max, Math.min of ints, of longs -/
def pr1 (c : Nat) (st : List Value) : Option (List Value) :=
  if c = 8 then (match st with
    | .int y :: .int x :: r => if Nat.ble (catS r) 8 then some (.int (if x < y then y else x) :: r) else none
    | _ => none)
  else if c = 9 then (match st with
    | .int y :: .int x :: r => if Nat.ble (catS r) 8 then some (.int (if y < x then y else x) :: r) else none
    | _ => none)
  else if c = 10 then (match st with
    | .long y :: .long x :: r => if Nat.ble (catS r) 8 then some (.long (if y < x then y else x) :: r) else none
    | _ => none)
  else if c = 6 then (match st with
    | .ref _ :: r => if Nat.ble (catS r) 8 then some r else none
    | _ => none)
  else none
def isR (as : List Value) : Bool := match as with
  | .ref _ :: _ => true
  | _ => false
def hnd (m pc k : Nat) : Option Nat := if Nat.beq m mText && Nat.ble 15 pc && Nat.blt pc 55 && Nat.beq (shc k) 14 then some 58 else none
def ex (E : Xe) : Nat → Nat → Fr → Option (Outcome × Wd)
  | 0, _, _ => none
  | f + 1, m, (pc, ls, st, w) =>
    match (cdO m)[pc]? with
    | none => none
    | some e =>
      if isRt e.1 then (match rt1 m e.1 st with
        | some v => some (.returned v, w)
        | none => none)
      else if isCl e.1 then
        (if Nat.ble 6 e.2.2.2.2.1 then (match pr1 e.2.2.2.2.1 st with
          | some r => ex E f m (pc + 3, ls, r, w)
          | none => none)
        else match cl1 e st w with
        | none => none
        | some (j, as, r) => match ex E f j (0, loc0 j as, [], w) with
          | none => none
          | some (.returned v, w1) => ex E f m (pc + 3, ls, v.toList ++ r, w1)
          | some (.threw k, w1) => if Nat.beq e.2.2.2.2.1 1 && Nat.blt k w1.1 && isR as then (match hnd m pc k with
            | some h => ex E f m (h, ls, [.ref k], w1)
            | none => if Nat.beq m mText then none else some (.threw k, w1)) else none)
      else match e.1, st with
        | .athrow, .ref k :: _ => if Nat.blt k w.1 then (match hnd m pc k with
          | some h => ex E f m (h, ls, [.ref k], w)
          | none => if Nat.beq m mText then none else some (.threw k, w)) else none
        | _, _ => match st1 E e pc ls st w with
          | some g => ex E f m g
          | none => none
