/-! ===== the abstract machine: a heap of numbered cells, bytecode with its links resolved ===== -/
/-- a heap: how many cells (numbers below 1000 are old ones), slots used, tag and length of each, its ints, its references (0 is null) -/
abbrev aH : Type := Nat × Nat × (Nat → Nat × Nat) × (Nat → Nat → Int32) × (Nat → Nat → Nat)
def aN (h : aH) : Nat := h.1
def aU (h : aH) : Nat := h.2.1
def aT (h : aH) (a : Nat) : Nat := (h.2.2.1 a).1
def aL (h : aH) (a : Nat) : Nat := (h.2.2.1 a).2
def aI (h : aH) (a k : Nat) : Int32 := h.2.2.2.1 a k
def aR (h : aH) (a k : Nat) : Nat := h.2.2.2.2 a k
/-- an int is stored -/
def aSI (h : aH) (a k : Nat) (v : Int32) : aH := (h.1, h.2.1, h.2.2.1, (fun b j => if b = a ∧ j = k then v else h.2.2.2.1 b j), h.2.2.2.2)
/-- a reference is stored -/
def aSR (h : aH) (a k : Nat) (v : Nat) : aH := (h.1, h.2.1, h.2.2.1, h.2.2.2.1, (fun b j => if b = a ∧ j = k then v else h.2.2.2.2 b j))
/-- a cell is made: its tag and length, as many slots as n -/
def aNew (h : aH) (t len n : Nat) : aH := (h.1 + 1, h.2.1 + n, (fun b => if b = h.1 then (t, len) else h.2.2.1 b), (fun b j => if b = h.1 then 0 else h.2.2.2.1 b j), (fun b j => if b = h.1 then 0 else h.2.2.2.2 b j))
/-- new int[n][k] -/
def aNew2 (h : aH) (n k : Nat) : aH := (h.1 + 1 + n, h.2.1 + (n + n * k), (fun b => if b = h.1 then (104, n) else if h.1 < b ∧ b ≤ h.1 + n then (100, k) else h.2.2.1 b), (fun b j => if h.1 ≤ b ∧ b ≤ h.1 + n then 0 else h.2.2.2.1 b j), (fun b j => if b = h.1 then (if j < n then h.1 + 1 + j else 0) else if h.1 < b ∧ b ≤ h.1 + n then 0 else h.2.2.2.2 b j))
/-- n ints of a from sp on are laid into b from dp on -/
def aCpy (h : aH) (a sp b dp n : Nat) : aH := (h.1, h.2.1, h.2.2.1, (fun c j => if c = b ∧ dp ≤ j ∧ j < dp + n then h.2.2.2.1 a (sp + (j - dp)) else h.2.2.2.1 c j), h.2.2.2.2)
/-- a copy of an array of ints -/
def aCln (h : aH) (a : Nat) : aH := (h.1 + 1, h.2.1 + aL h a, (fun b => if b = h.1 then (100, aL h a) else h.2.2.1 b), (fun b j => if b = h.1 then h.2.2.2.1 a j else h.2.2.2.1 b j), (fun b j => if b = h.1 then 0 else h.2.2.2.2 b j))
/-- a local that holds nothing yet -/
abbrev uV : Value := .retAddr 0
def rV (a : Nat) : Value := if a = 0 then .null else .ref a
/-- what a class's field is: 0 an int, 1 a reference, 2 a boolean -/
def fK : Nat → Nat → Nat := fun c k => (([[1,1,0,0,0,0,0,1,1],[1,1,1,1,0,0],[0,1,1,1,1,1],[1,1,1,1,1,0,0],[1,0,0],[1,0,0],[1,1,1,1,1,0],[1,1,1,1,1,1,1,0,0,0,0,0,0,0,0,0,1],[1],[1,1,1,1,0],[1,0,0,0,0,0,0],[1,1,1,1,2,1,1,1,1,1,1,1,1,1,1],[0,1,1,1,1,1,2,0,1,0,0,0,0,0,0,1,0,1,1,1,1,1,1,1,1,1,1,1,1],[1,0]] : List (List Nat))[c]?.getD [])[k]?.getD 9
def nF : Nat → Nat := fun c => (([9,6,6,7,3,3,6,17,1,5,7,15,29,2] : List Nat))[c]?.getD 0
def fV (h : aH) (a c k : Nat) : Value := if fK c k = 1 then rV (aR h a k) else .int (aI h a k)
/-- an instruction, its constant, where it goes on, where it jumps (or a class, or a count) -/
abbrev mE : Type := Instr × Int32 × Nat × Nat
/-- a method: its code, its handlers (from, to, target, tag), places of locals, what it returns (0 nothing, 1 int, 2 boolean, 3 reference, 4 char, 5 byte), arguments beside the receiver, the receiver's class (99: static) -/
abbrev mM : Type := List mE × List (Nat × Nat × Nat × Nat) × Nat × Nat × Nat × Nat
abbrev cfg : Type := Nat × List Value × List Value × aH
/-- returned, or threw the cell -/
abbrev oR : Type := Option Value ⊕ Nat
def pS (e : mE) (L S : List Value) : Option (Nat × List Value × List Value) :=
  match e.1 with
  | .iconst _ => some (e.2.2.1, L, .int e.2.1 :: S)
  | .ldc k => some (e.2.2.1, L, .ref (2 * k + 2) :: S)
  | .getstatic _ => some (e.2.2.1, L, (match e.2.2.2 with | 0 => .int 1 | _ => .ref 999) :: S)
  | .aconst_null => some (e.2.2.1, L, .null :: S)
  | .iload k => match L[k]? with
    | some (.int x) => some (e.2.2.1, L, .int x :: S)
    | _ => none
  | .aload k => match L[k]? with
    | some (.ref x) => some (e.2.2.1, L, .ref x :: S)
    | some .null => some (e.2.2.1, L, .null :: S)
    | _ => none
  | .istore k => match S with
    | .int x :: S => some (e.2.2.1, L.set k (.int x), S)
    | _ => none
  | .astore k => match S with
    | .ref x :: S => some (e.2.2.1, L.set k (.ref x), S)
    | _ => none
  | .iinc k _ => match L[k]? with
    | some (.int x) => some (e.2.2.1, L.set k (.int (x + e.2.1)), S)
    | _ => none
  | .iadd => match S with
    | .int y :: .int x :: S => some (e.2.2.1, L, .int (x + y) :: S)
    | _ => none
  | .isub => match S with
    | .int y :: .int x :: S => some (e.2.2.1, L, .int (x - y) :: S)
    | _ => none
  | .imul => match S with
    | .int y :: .int x :: S => some (e.2.2.1, L, .int (x * y) :: S)
    | _ => none
  | .idiv => match S with
    | .int y :: .int x :: S => if y = 0 then none else some (e.2.2.1, L, .int (x / y) :: S)
    | _ => none
  | .irem => match S with
    | .int y :: .int x :: S => if y = 0 then none else some (e.2.2.1, L, .int (x - x / y * y) :: S)
    | _ => none
  | .iand => match S with
    | .int y :: .int x :: S => some (e.2.2.1, L, .int (x &&& y) :: S)
    | _ => none
  | .ior => match S with
    | .int y :: .int x :: S => some (e.2.2.1, L, .int (x ||| y) :: S)
    | _ => none
  | .ixor => match S with
    | .int y :: .int x :: S => some (e.2.2.1, L, .int (x ^^^ y) :: S)
    | _ => none
  | .ishl => match S with
    | .int y :: .int x :: S => some (e.2.2.1, L, .int (x <<< (y &&& 31)) :: S)
    | _ => none
  | .ishr => match S with
    | .int y :: .int x :: S => some (e.2.2.1, L, .int (x >>> (y &&& 31)) :: S)
    | _ => none
  | .iushr => match S with
    | .int y :: .int x :: S => some (e.2.2.1, L, .int ((x.toUInt32 >>> (y.toUInt32 &&& Int32.toUInt32 31)).toInt32) :: S)
    | _ => none
  | .ineg => match S with
    | .int x :: S => some (e.2.2.1, L, .int (-x) :: S)
    | _ => none
  | .i2b => match S with
    | .int x :: S => some (e.2.2.1, L, .int x.toInt8.toInt32 :: S)
    | _ => none
  | .i2c => match S with
    | .int x :: S => some (e.2.2.1, L, .int (x.toUInt32 % 65536).toInt32 :: S)
    | _ => none
  | .i2l => match S with
    | .int x :: S => some (e.2.2.1, L, .long x.toInt64 :: S)
    | _ => none
  | .lcmp => match S with
    | .long y :: .long x :: S => some (e.2.2.1, L, .int (lg_cmp x y) :: S)
    | _ => none
  | .dup => match S with
    | .int x :: S => some (e.2.2.1, L, .int x :: .int x :: S)
    | .ref x :: S => some (e.2.2.1, L, .ref x :: .ref x :: S)
    | _ => none
  | .pop => match S with
    | .int _ :: S => some (e.2.2.1, L, S)
    | .ref _ :: S => some (e.2.2.1, L, S)
    | _ => none
  | .dup_x1 => match S with
    | .int x :: .int y :: S => some (e.2.2.1, L, .int x :: .int y :: .int x :: S)
    | .int x :: .ref y :: S => some (e.2.2.1, L, .int x :: .ref y :: .int x :: S)
    | _ => none
  | .dup2 => match S with
    | .int x :: .ref y :: S => some (e.2.2.1, L, .int x :: .ref y :: .int x :: .ref y :: S)
    | _ => none
  | .goto _ => some (e.2.2.2, L, S)
  | _ => none
/-- the handler of a thrown cell of that tag -/
def hnd (hs : List (Nat × Nat × Nat × Nat)) (pc t : Nat) : Option Nat := match hs with
  | [] => none
  | x :: hs => if x.1 ≤ pc ∧ pc < x.2.1 ∧ x.2.2.2 = t then some x.2.2.1 else hnd hs pc t
/-- thrown here: the handler's first step lays the cell away, and nobody reads it again -/
def thr (M : mM) (pc : Nat) (L : List Value) (h : aH) (q : Nat) : Option (cfg ⊕ (oR × aH)) := match hnd M.2.1 pc (aT h q) with
  | some t => match M.1[t]? with
    | some (.astore k, _, nx, _) => some (.inl (nx, L.set k uV, [], h))
    | _ => none
  | none => some (.inr (.inr q, h))
/-- behind a call -/
def bck (M : mM) (pc nx : Nat) (L S : List Value) (r : Option (oR × aH)) : Option (cfg ⊕ (oR × aH)) := match r with
  | some (.inl (some v), h) => some (.inl (nx, L, v :: S, h))
  | some (.inl none, h) => some (.inl (nx, L, S, h))
  | some (.inr q, h) => thr M pc L h q
  | none => none
def cat8 (S : List Value) : Bool := decide ((S.map fun v => v.category).sum ≤ 8)
def tagA : ArrayType → Nat | .int => 100 | .byte => 101 | .boolean => 102 | .long => 103 | _ => 999
def lsw (d : Int) (x : Int) : List (Int × Int) → Int
  | [] => d
  | q :: r => if q.1 = x then q.2 else lsw d x r
def sS (P : List mM) (call : Nat → List Value → aH → Option (oR × aH)) (M : mM) (e : mE) (pc : Nat) (L S : List Value) (h : aH) : Option (cfg ⊕ (oR × aH)) :=
  match e.1 with
  | .ifCond .eq _ => match S with
    | .int x :: S => some (.inl (if x = 0 then e.2.2.2 else e.2.2.1, L, S, h))
    | _ => none
  | .ifCond .ne _ => match S with
    | .int x :: S => some (.inl (if x = 0 then e.2.2.1 else e.2.2.2, L, S, h))
    | _ => none
  | .ifCond .lt _ => match S with
    | .int x :: S => some (.inl (if x < 0 then e.2.2.2 else e.2.2.1, L, S, h))
    | _ => none
  | .ifCond .ge _ => match S with
    | .int x :: S => some (.inl (if x < 0 then e.2.2.1 else e.2.2.2, L, S, h))
    | _ => none
  | .ifCond .gt _ => match S with
    | .int x :: S => some (.inl (if 0 < x then e.2.2.2 else e.2.2.1, L, S, h))
    | _ => none
  | .ifCond .le _ => match S with
    | .int x :: S => some (.inl (if 0 < x then e.2.2.1 else e.2.2.2, L, S, h))
    | _ => none
  | .if_icmp .eq _ => match S with
    | .int y :: .int x :: S => some (.inl (if x = y then e.2.2.2 else e.2.2.1, L, S, h))
    | _ => none
  | .if_icmp .ne _ => match S with
    | .int y :: .int x :: S => some (.inl (if x = y then e.2.2.1 else e.2.2.2, L, S, h))
    | _ => none
  | .if_icmp .lt _ => match S with
    | .int y :: .int x :: S => some (.inl (if x < y then e.2.2.2 else e.2.2.1, L, S, h))
    | _ => none
  | .if_icmp .ge _ => match S with
    | .int y :: .int x :: S => some (.inl (if x < y then e.2.2.1 else e.2.2.2, L, S, h))
    | _ => none
  | .if_icmp .gt _ => match S with
    | .int y :: .int x :: S => some (.inl (if y < x then e.2.2.2 else e.2.2.1, L, S, h))
    | _ => none
  | .if_icmp .le _ => match S with
    | .int y :: .int x :: S => some (.inl (if y < x then e.2.2.1 else e.2.2.2, L, S, h))
    | _ => none
  | .ifnull _ => match S with
    | .null :: S => some (.inl (e.2.2.2, L, S, h))
    | .ref a :: S => if a = 999 then none else some (.inl (e.2.2.1, L, S, h))
    | _ => none
  | .ifnonnull _ => match S with
    | .null :: S => some (.inl (e.2.2.1, L, S, h))
    | .ref a :: S => if a = 999 then none else some (.inl (e.2.2.2, L, S, h))
    | _ => none
  | .tableswitch d lo hi offs => match S with
    | .int x :: S => if x.toInt < lo ∨ hi < x.toInt then some (.inl (d.toNat, L, S, h)) else match offs[(x.toInt - lo).toNat]? with
      | some o => some (.inl (o.toNat, L, S, h))
      | none => none
    | _ => none
  | .lookupswitch d ps => match S with
    | .int x :: S => some (.inl ((lsw d x.toInt ps.toList).toNat, L, S, h))
    | _ => none
  | .getfield k => match S with
    | .ref a :: S => if aT h a = e.2.2.2 ∧ k < nF e.2.2.2 then some (.inl (e.2.2.1, L, fV h a e.2.2.2 k :: S, h)) else none
    | _ => none
  | .putfield k => match S with
    | .int x :: .ref a :: S => if aT h a = e.2.2.2 ∧ e.2.2.2 < 13 ∧ 1000 ≤ a ∧ k < nF e.2.2.2 ∧ (fK e.2.2.2 k = 0 ∨ fK e.2.2.2 k = 2 ∧ (x = 0 ∨ x = 1)) then some (.inl (e.2.2.1, L, S, aSI h a k x)) else none
    | .ref b :: .ref a :: S => if aT h a = e.2.2.2 ∧ e.2.2.2 < 13 ∧ 1000 ≤ a ∧ k < nF e.2.2.2 ∧ fK e.2.2.2 k = 1 ∧ 1000 ≤ b then some (.inl (e.2.2.1, L, S, aSR h a k b)) else none
    | _ => none
  | .iaload => match S with
    | .int i :: .ref a :: S => if aT h a = 100 ∧ ¬ i < 0 ∧ i.toNatClampNeg < aL h a then some (.inl (e.2.2.1, L, .int (aI h a i.toNatClampNeg) :: S, h)) else none
    | _ => none
  | .baload => match S with
    | .int i :: .ref a :: S => if (aT h a = 101 ∨ aT h a = 102) ∧ ¬ i < 0 ∧ i.toNatClampNeg < aL h a then some (.inl (e.2.2.1, L, .int (aI h a i.toNatClampNeg) :: S, h)) else none
    | _ => none
  | .laload => match S with
    | .int i :: .ref a :: S => if aT h a = 103 ∧ ¬ i < 0 ∧ i.toNatClampNeg < aL h a then some (.inl (e.2.2.1, L, .long (aI h a i.toNatClampNeg).toInt64 :: S, h)) else none
    | _ => none
  | .aaload => match S with
    | .int i :: .ref a :: S => if (aT h a = 104 ∨ aT h a = 105) ∧ ¬ i < 0 ∧ i.toNatClampNeg < aL h a then some (.inl (e.2.2.1, L, rV (aR h a i.toNatClampNeg) :: S, h)) else none
    | _ => none
  | .iastore => match S with
    | .int x :: .int i :: .ref a :: S => if aT h a = 100 ∧ 1000 ≤ a ∧ ¬ i < 0 ∧ i.toNatClampNeg < aL h a then some (.inl (e.2.2.1, L, S, aSI h a i.toNatClampNeg x)) else none
    | _ => none
  | .bastore => match S with
    | .int x :: .int i :: .ref a :: S => if 1000 ≤ a ∧ ¬ i < 0 ∧ i.toNatClampNeg < aL h a then
        (if aT h a = 101 then some (.inl (e.2.2.1, L, S, aSI h a i.toNatClampNeg x.toInt8.toInt32)) else if aT h a = 102 ∧ (x = 0 ∨ x = 1) then some (.inl (e.2.2.1, L, S, aSI h a i.toNatClampNeg x)) else none) else none
    | _ => none
  | .lastore => match S with
    | .long z :: .int i :: .ref a :: S => if aT h a = 103 ∧ 1000 ≤ a ∧ ¬ i < 0 ∧ i.toNatClampNeg < aL h a ∧ z.toInt32.toInt64 = z then some (.inl (e.2.2.1, L, S, aSI h a i.toNatClampNeg z.toInt32)) else none
    | _ => none
  | .aastore => match S with
    | .ref b :: .int i :: .ref a :: S => if aT h a = 105 ∧ 1000 ≤ a ∧ aT h b = 7 ∧ 1000 ≤ b ∧ ¬ i < 0 ∧ i.toNatClampNeg < aL h a then some (.inl (e.2.2.1, L, S, aSR h a i.toNatClampNeg b)) else none
    | _ => none
  | .arraylength => match S with
    | .ref a :: S => if 100 ≤ aT h a ∧ aT h a ≤ 105 then some (.inl (e.2.2.1, L, .int (nI (aL h a)) :: S, h)) else none
    | _ => none
  | .newarray ty => match S with
    | .int n :: S => if tagA ty ≤ 103 ∧ ¬ n < 0 ∧ n.toNatClampNeg ≤ 1000000 then some (.inl (e.2.2.1, L, .ref (aN h) :: S, aNew h (tagA ty) n.toNatClampNeg n.toNatClampNeg)) else none
    | _ => none
  | .multianewarray _ _ => match S with
    | .int k :: .int n :: S => if ¬ n < 0 ∧ ¬ k < 0 ∧ n.toNatClampNeg ≤ 10000 ∧ k.toNatClampNeg ≤ 10000 then some (.inl (e.2.2.1, L, .ref (aN h) :: S, aNew2 h n.toNatClampNeg k.toNatClampNeg)) else none
    | _ => none
  | .anewarray _ => match S with
    | .int n :: S => if ¬ n < 0 ∧ n.toNatClampNeg ≤ 1000000 then some (.inl (e.2.2.1, L, .ref (aN h) :: S, aNew h 105 n.toNatClampNeg n.toNatClampNeg)) else none
    | _ => none
  | .new c => if c < 13 then some (.inl (e.2.2.1, L, .ref (aN h) :: S, aNew h c (nF c) (nF c))) else if 20 ≤ c ∧ c < 25 ∧ S = [] then some (.inl (e.2.2.1, L, .ref (aN h) :: S, aNew h c 0 6)) else none
  | .athrow => match S with
    | .ref q :: _ => if 20 ≤ aT h q ∧ aT h q < 25 then thr M pc L h q else none
    | _ => none
  | .invokedynamic _ => match S with
    | .int n :: .int dp :: .ref b :: .int sp :: .ref a :: S => if aT h a = 100 ∧ aT h b = 100 ∧ 1000 ≤ b ∧ cat8 S = true ∧ ¬ sp < 0 ∧ ¬ dp < 0 ∧ ¬ n < 0 ∧ sp.toNatClampNeg + n.toNatClampNeg ≤ aL h a ∧ dp.toNatClampNeg + n.toNatClampNeg ≤ aL h b then
        some (.inl (e.2.2.1, L, S, aCpy h a sp.toNatClampNeg b dp.toNatClampNeg n.toNatClampNeg)) else none
    | _ => none
  | .invokeinterface _ _ => match S with
    | .ref a :: S => if aT h a = 100 ∧ 1000 ≤ a ∧ cat8 S = true then some (.inl (e.2.2.1, L, .ref (aN h) :: S, aCln h a)) else none
    | _ => none
  | .checkcast _ => match S with
    | .ref a :: S => if aT h a = 100 ∧ 1000 ≤ a then some (.inl (e.2.2.1, L, .ref a :: S, h)) else none
    | _ => none
  | .invokestatic y => match P[y]? with
    | some Y => if Y.2.2.2.2.2 = 99 ∧ Y.2.2.2.2.1 ≤ S.length ∧ cat8 (S.drop Y.2.2.2.2.1) = true then bck M pc e.2.2.1 L (S.drop Y.2.2.2.2.1) (call y (S.take Y.2.2.2.2.1).reverse h) else none
    | none => none
  | .invokevirtual y => match P[y]? with
    | some Y => match S.drop Y.2.2.2.2.1 with
      | .ref a :: S' => if Y.2.2.2.2.2 < 14 ∧ aT h a = Y.2.2.2.2.2 ∧ cat8 S' = true then bck M pc e.2.2.1 L S' (call y (.ref a :: (S.take Y.2.2.2.2.1).reverse) h) else none
      | _ => none
    | none => none
  | .invokespecial y => if y = 9999 then (match S with
      | .ref a :: S => if a ≠ 999 ∧ cat8 S = true then some (.inl (e.2.2.1, L, S, h)) else none
      | _ => none) else match P[y]? with
    | some Y => match S.drop Y.2.2.2.2.1 with
      | .ref a :: S' => if Y.2.2.2.2.2 < 13 ∧ aT h a = Y.2.2.2.2.2 ∧ cat8 S' = true then bck M pc e.2.2.1 L S' (call y (.ref a :: (S.take Y.2.2.2.2.1).reverse) h) else none
      | _ => none
    | none => none
  | .ireturn => match S with
    | [.int x] => if M.2.2.2.1 = 1 ∨ M.2.2.2.1 = 2 ∧ (x = 0 ∨ x = 1) ∨ M.2.2.2.1 = 4 ∧ narrow .char (.int x) = .int x ∨ M.2.2.2.1 = 5 ∧ narrow .byte (.int x) = .int x then some (.inr (.inl (some (.int x)), h)) else none
    | _ => none
  | .areturn => match S with
    | [.ref a] => if M.2.2.2.1 = 3 then some (.inr (.inl (some (.ref a)), h)) else none
    | _ => none
  | .return_ => match S with
    | [] => if M.2.2.2.1 = 0 then some (.inr (.inl none, h)) else none
    | _ => none
  | _ => none
def stp (P : List mM) (call : Nat → List Value → aH → Option (oR × aH)) (M : mM) (c : cfg) : Option (cfg ⊕ (oR × aH)) :=
  match M.1[c.1]? with
  | none => none
  | some e => match pS e c.2.1 c.2.2.1 with
    | some r => some (.inl (r.1, r.2.1, r.2.2, c.2.2.2))
    | none => sS P call M e c.1 c.2.1 c.2.2.1 c.2.2.2
def lp (P : List mM) (call : Nat → List Value → aH → Option (oR × aH)) (M : mM) : Nat → cfg → Option (oR × aH)
  | 0, _ => none
  | k + 1, c => match stp P call M c with
    | none => none
    | some (.inl c') => lp P call M k c'
    | some (.inr r) => some r
def okV : Value → Bool
  | .int _ => true
  | .ref _ => true
  | .null => true
  | _ => false
/-- a method run: calls at most d deep, at most k steps each -/
def cD (P : List mM) : Nat → Nat → Nat → List Value → aH → Option (oR × aH)
  | 0, _, _, _, _ => none
  | d + 1, k, y, as, h => match P[y]? with
    | none => none
    | some M => if as.length ≤ M.2.2.1 ∧ as.all okV = true then lp P (cD P d k) M k (0, as ++ List.replicate (M.2.2.1 - as.length) uV, [], h) else none
