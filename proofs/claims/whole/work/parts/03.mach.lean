/-! THE MINI MACHINE: ints are mathematical integers, references are small numbers, the heap is a layout and a store -/
abbrev mmV : Type := Int ⊕ Int ⊕ Nat ⊕ Unit
abbrev mI (z : Int) : mmV := .inl z
abbrev mL (z : Int) : mmV := .inr (.inl z)
abbrev mR (k : Nat) : mmV := .inr (.inr (.inl k))
abbrev mJ : mmV := .inr (.inr (.inr ()))
/-- a cell: numbers (booleans?, length); references (0: of counties, 1: of int arrays); an object (class, per slot: none an int, some a reference) -/
abbrev mmC : Type := (Bool × Nat) ⊕ (Nat × List (Option Nat)) ⊕ (Nat × List (Option (Option Nat)))
abbrev mmSt : Type := Nat → Nat → Int
/-- cells, slots, layout -/
abbrev mmL : Type := Nat × Nat × (Nat → mmC)
/-- depth, method, place, locals, stack, store -/
abbrev mmX : Type := Nat × Nat × Nat × List mmV × List mmV × mmSt
abbrev mmY : Type := mmSt × Int
/-- what a step comes to: nothing; an end (if); a state; one of two; a state (if); a call; one of many -/
abbrev gS (X Y : Type) : Type := Unit ⊕ (Bool × Y) ⊕ X ⊕ (Bool × X × X) ⊕ (Bool × X) ⊕ (X × (Y → X)) ⊕ (Int × List (Int × X) × X)
abbrev mmS : Type := gS mmX mmY
abbrev rFail {X Y : Type} : gS X Y := .inl ()
abbrev rRet {X Y : Type} (c : Bool) (y : Y) : gS X Y := .inr (.inl (c, y))
abbrev rNext {X Y : Type} (x : X) : gS X Y := .inr (.inr (.inl x))
abbrev rBr {X Y : Type} (c : Bool) (x y : X) : gS X Y := .inr (.inr (.inr (.inl (c, x, y))))
abbrev rChk {X Y : Type} (c : Bool) (x : X) : gS X Y := .inr (.inr (.inr (.inr (.inl (c, x)))))
abbrev rCall {X Y : Type} (x : X) (k : Y → X) : gS X Y := .inr (.inr (.inr (.inr (.inr (.inl (x, k))))))
abbrev rSw {X Y : Type} (v : Int) (l : List (Int × X)) (d : X) : gS X Y := .inr (.inr (.inr (.inr (.inr (.inr (v, l, d))))))
def mwrap (z : Int) : Int := z.bmod 4294967296
def mwrapL (z : Int) : Int := z.bmod 18446744073709551616
def mand (x y : Int) : Int := (Int32.ofInt x &&& Int32.ofInt y).toInt
def mor (x y : Int) : Int := (Int32.ofInt x ||| Int32.ofInt y).toInt
def mxor (x y : Int) : Int := (Int32.ofInt x ^^^ Int32.ofInt y).toInt
def mshl (x y : Int) : Int := (Int32.ofInt x <<< (Int32.ofInt y &&& 31)).toInt
def mshr (x y : Int) : Int := (Int32.ofInt x >>> (Int32.ofInt y &&& 31)).toInt
def mushr (x y : Int) : Int := ((Int32.ofInt x).toUInt32 >>> ((Int32.ofInt y).toUInt32 &&& Int32.toUInt32 31)).toInt32.toInt
def mi2b (x : Int) : Int := (Int32.ofInt x).toInt8.toInt32.toInt
def mi2s (x : Int) : Int := (Int32.ofInt x).toInt16.toInt32.toInt
def mlcmp (x y : Int) : Int := if y < x then 1 else if x = y then 0 else -1
def mmaxi (x y : Int) : Int := if x < y then y else x
def mmini (x y : Int) : Int := if y < x then y else x
def minb (i : Int) (n : Nat) : Bool := decide (0 ≤ i) && decide (i < (n : Int))
def mup (σ : mmSt) (a i : Nat) (v : Int) : mmSt := fun b j => if b = a ∧ j = i then v else σ b j
def mzero (σ : mmSt) (a : Nat) : mmSt := fun b j => if b = a then 0 else σ b j
/-- n places of a from s on come to b from t on -/
def mcpy (σ : mmSt) (a s b t n : Nat) : mmSt := fun c j => if c = b ∧ t ≤ j ∧ j < t + n then σ a (s + (j - t)) else σ c j
def mlay (f : Nat → mmC) (a : Nat) (c : mmC) : Nat → mmC := fun b => if b = a then c else f b
def mword : mmV → Nat
  | .inr (.inl _) => 2
  | _ => 1
def mwords : List mmV → Nat
  | [] => 0
  | v :: l => mword v + mwords l
/-- a long stands ahead of junk -/
def mst1 (L : List mmV) (k : Nat) (v : mmV) : List mmV := L.set k v
def mst2 (L : List mmV) (k : Nat) (v : mmV) : List mmV := (L.set k v).set (k + 1) mJ
def mslots : List mmV → List mmV
  | [] => []
  | .inr (.inl z) :: l => .inr (.inl z) :: mJ :: mslots l
  | v :: l => v :: mslots l
def mframe (args : List mmV) (maxL : Nat) : List mmV := mslots args ++ List.replicate (maxL - (mslots args).length) mJ
def misObj (ly : mmL) (ci : Nat) : mmV → Bool
  | .inr (.inr (.inl o)) => match ly.2.2 o with
    | .inr (.inr (c, _)) => c == ci && Nat.ble 4 o && Nat.blt o ly.1
    | _ => false
  | _ => false
def mbin (f : Int → Int → Int) (S : List mmV) (k : List mmV → mmS) : mmS := match S with
  | .inl y :: .inl x :: S => k (mI (f x y) :: S)
  | _ => rFail
def mun (f : Int → Int) (S : List mmV) (k : List mmV → mmS) : mmS := match S with
  | .inl x :: S => k (mI (f x) :: S)
  | _ => rFail
def mbinL (f : Int → Int → Int) (S : List mmV) (k : List mmV → mmS) : mmS := match S with
  | .inr (.inl y) :: .inr (.inl x) :: S => k (mL (f x y) :: S)
  | _ => rFail
def micond : Jvm.ClassFile.Cond → Int → Int → Bool
  | .eq, x, y => decide (x = y)
  | .ne, x, y => decide (¬ x = y)
  | .lt, x, y => decide (x < y)
  | .ge, x, y => decide (y ≤ x)
  | .gt, x, y => decide (y < x)
  | .le, x, y => decide (x ≤ y)
def mldi (L S : List mmV) (k : Nat) (f : List mmV → mmS) : mmS := match L.getD k mJ with
  | .inl z => f (mI z :: S)
  | _ => rFail
def mldl (L S : List mmV) (k : Nat) (f : List mmV → mmS) : mmS := match L.getD k mJ, L.getD (k + 1) mJ with
  | .inr (.inl z), .inr (.inr (.inr _)) => f (mL z :: S)
  | _, _ => rFail
def mlda (L S : List mmV) (k : Nat) (f : List mmV → mmS) : mmS := match L.getD k mJ with
  | .inr (.inr (.inl r)) => f (mR r :: S)
  | _ => rFail
def msti (L S : List mmV) (k : Nat) (f : List mmV → List mmV → mmS) : mmS := match S with
  | .inl z :: S => bif Nat.blt k L.length then f (mst1 L k (mI z)) S else rFail
  | _ => rFail
def mstl (L S : List mmV) (k : Nat) (f : List mmV → List mmV → mmS) : mmS := match S with
  | .inr (.inl z) :: S => bif Nat.blt (k + 1) L.length then f (mst2 L k (mL z)) S else rFail
  | _ => rFail
def msta (L S : List mmV) (k : Nat) (f : List mmV → List mmV → mmS) : mmS := match S with
  | .inr (.inr (.inl r)) :: S => bif Nat.blt k L.length then f (mst1 L k (mR r)) S else rFail
  | _ => rFail
/-- a field is read: class ci, slot k -/
def mgetf (ly : mmL) (ci k : Nat) (S : List mmV) (σ : mmSt) (f : List mmV → mmS) : mmS := match S with
  | .inr (.inr (.inl o)) :: S => bif Nat.ble 4 o && Nat.blt o ly.1 then (match ly.2.2 o with
    | .inr (.inr (c, fs)) => bif c == ci then (match fs[k]? with
      | some none => f (mI (σ o k) :: S)
      | some (some (some r)) => f (mR r :: S)
      | _ => rFail) else rFail
    | _ => rFail) else rFail
  | _ => rFail
def mputf (ly : mmL) (ci k : Nat) (S : List mmV) (σ : mmSt) (f : List mmV → mmSt → mmS) : mmS := match S with
  | .inl z :: .inr (.inr (.inl o)) :: S => bif Nat.ble 4 o && Nat.blt o ly.1 then (match ly.2.2 o with
    | .inr (.inr (c, fs)) => bif c == ci then (match fs[k]? with
      | some none => f S (mup σ o k z)
      | _ => rFail) else rFail
    | _ => rFail) else rFail
  | _ => rFail
def mald (ly : mmL) (b : Bool) (S : List mmV) (σ : mmSt) (f : List mmV → mmX) : mmS := match S with
  | .inl i :: .inr (.inr (.inl r)) :: S => bif Nat.blt r ly.1 then (match ly.2.2 r with
    | .inl (c, n) => bif c == b then rChk (minb i n) (f (mI (σ r i.toNat) :: S)) else rFail
    | _ => rFail) else rFail
  | _ => rFail
def mast (ly : mmL) (b : Bool) (S : List mmV) (σ : mmSt) (f : List mmV → mmSt → mmX) : mmS := match S with
  | .inl v :: .inl i :: .inr (.inr (.inl r)) :: S => bif Nat.ble 4 r && Nat.blt r ly.1 then (match ly.2.2 r with
    | .inl (c, n) => bif c == b then rChk (bif b then minb i n && (decide (0 ≤ v) && decide (v ≤ 1)) else minb i n) (f S (mup σ r i.toNat v)) else rFail
    | _ => rFail) else rFail
  | _ => rFail
def maald (ly : mmL) (S : List mmV) (f : List mmV → mmS) : mmS := match S with
  | .inl i :: .inr (.inr (.inl r)) :: S => bif Nat.ble 4 r && Nat.blt r ly.1 && decide (0 ≤ i) then (match ly.2.2 r with
    | .inr (.inl (_, rs)) => (match rs[i.toNat]? with
      | some (some q) => f (mR q :: S)
      | _ => rFail)
    | _ => rFail) else rFail
  | _ => rFail
def malen (ly : mmL) (S : List mmV) (f : List mmV → mmS) : mmS := match S with
  | .inr (.inr (.inl r)) :: S => bif Nat.blt r ly.1 then (match ly.2.2 r with
    | .inl (_, n) => f (mI (n : Int) :: S)
    | _ => rFail) else rFail
  | _ => rFail
def mcopy (ly : mmL) (S : List mmV) (σ : mmSt) (f : List mmV → mmSt → mmX) : mmS := match S with
  | .inl n :: .inl dp :: .inr (.inr (.inl b)) :: .inl sp :: .inr (.inr (.inl a)) :: S => bif Nat.ble 4 a && Nat.blt a ly.1 && Nat.ble 4 b && Nat.blt b ly.1 && Nat.ble (mwords S) 8 then (match ly.2.2 a, ly.2.2 b with
    | .inl (false, n0), .inl (false, n1) => rChk (decide (0 ≤ sp) && decide (0 ≤ dp) && decide (0 ≤ n) && decide (sp + n ≤ (n0 : Int)) && decide (dp + n ≤ (n1 : Int))) (f S (mcpy σ a sp.toNat b dp.toNat n.toNat))
    | _, _ => rFail) else rFail
  | _ => rFail
def mpush (rk : Nat) (v : Int) (S : List mmV) : List mmV := match rk with
  | 0 => S
  | 2 => mL v :: S
  | _ => mI v :: S
/-- a call: the callee's number, how many values it takes, whether the first is an object of its class -/
def mcall (ly : mmL) (virt : Bool) (d M i : Nat) (L S : List mmV) (h : mmSt) (a b : Nat) : mmS := match d with
  | 0 => rFail
  | d + 1 => bif Nat.ble b S.length && Nat.ble (mwords (S.drop b)) 8 && (!virt || misObj ly (mcls a) ((S.take b).getLastD mJ)) && Nat.ble (mslots (S.take b).reverse).length (mmaxL a) then rCall (d, a, 0, mframe (S.take b).reverse (mmaxL a), [], h) (fun y => (d + 1, M, i + 1, L, mpush (mrk a) y.2 (S.drop b), y.1)) else rFail
/-- one instruction -/
def mstepI (ly : mmL) (d M i : Nat) (L S : List mmV) (h : mmSt) (ins : Instr) (a b : Nat) (c : Int) (sw : List (Int × Nat)) : mmS := match ins with
  | .aload_n k => mlda L S k.val (fun S => rNext (d, M, i + 1, L, S, h))
  | .aload k => mlda L S k (fun S => rNext (d, M, i + 1, L, S, h))
  | .iload_n k => mldi L S k.val (fun S => rNext (d, M, i + 1, L, S, h))
  | .iload k => mldi L S k (fun S => rNext (d, M, i + 1, L, S, h))
  | .lload_n k => mldl L S k.val (fun S => rNext (d, M, i + 1, L, S, h))
  | .lload k => mldl L S k (fun S => rNext (d, M, i + 1, L, S, h))
  | .istore_n k => msti L S k.val (fun L S => rNext (d, M, i + 1, L, S, h))
  | .istore k => msti L S k (fun L S => rNext (d, M, i + 1, L, S, h))
  | .lstore_n k => mstl L S k.val (fun L S => rNext (d, M, i + 1, L, S, h))
  | .lstore k => mstl L S k (fun L S => rNext (d, M, i + 1, L, S, h))
  | .astore_n k => msta L S k.val (fun L S => rNext (d, M, i + 1, L, S, h))
  | .iconst _ => rNext (d, M, i + 1, L, mI c :: S, h)
  | .bipush _ => rNext (d, M, i + 1, L, mI c :: S, h)
  | .sipush _ => rNext (d, M, i + 1, L, mI c :: S, h)
  | .ldc _ => rNext (d, M, i + 1, L, mI c :: S, h)
  | .ldc_w _ => rNext (d, M, i + 1, L, mI c :: S, h)
  | .ldc2_w _ => rNext (d, M, i + 1, L, mL c :: S, h)
  | .lconst _ => rNext (d, M, i + 1, L, mL c :: S, h)
  | .iadd => mbin (fun x y => mwrap (x + y)) S (fun S => rNext (d, M, i + 1, L, S, h))
  | .isub => mbin (fun x y => mwrap (x - y)) S (fun S => rNext (d, M, i + 1, L, S, h))
  | .imul => mbin (fun x y => mwrap (x * y)) S (fun S => rNext (d, M, i + 1, L, S, h))
  | .iand => mbin mand S (fun S => rNext (d, M, i + 1, L, S, h))
  | .ior => mbin mor S (fun S => rNext (d, M, i + 1, L, S, h))
  | .ixor => mbin mxor S (fun S => rNext (d, M, i + 1, L, S, h))
  | .ishl => mbin mshl S (fun S => rNext (d, M, i + 1, L, S, h))
  | .ishr => mbin mshr S (fun S => rNext (d, M, i + 1, L, S, h))
  | .iushr => mbin mushr S (fun S => rNext (d, M, i + 1, L, S, h))
  | .ineg => mun (fun x => mwrap (-x)) S (fun S => rNext (d, M, i + 1, L, S, h))
  | .i2b => mun mi2b S (fun S => rNext (d, M, i + 1, L, S, h))
  | .i2s => mun mi2s S (fun S => rNext (d, M, i + 1, L, S, h))
  | .ladd => mbinL (fun x y => mwrapL (x + y)) S (fun S => rNext (d, M, i + 1, L, S, h))
  | .lsub => mbinL (fun x y => mwrapL (x - y)) S (fun S => rNext (d, M, i + 1, L, S, h))
  | .lmul => mbinL (fun x y => mwrapL (x * y)) S (fun S => rNext (d, M, i + 1, L, S, h))
  | .ldiv => (match S with
    | .inr (.inl y) :: .inr (.inl x) :: S => rChk (decide (¬ y = 0)) (d, M, i + 1, L, mL (mwrapL (x.tdiv y)) :: S, h)
    | _ => rFail)
  | .lrem => (match S with
    | .inr (.inl y) :: .inr (.inl x) :: S => rChk (decide (¬ y = 0)) (d, M, i + 1, L, mL (x.tmod y) :: S, h)
    | _ => rFail)
  | .lcmp => (match S with
    | .inr (.inl y) :: .inr (.inl x) :: S => rNext (d, M, i + 1, L, mI (mlcmp x y) :: S, h)
    | _ => rFail)
  | .i2l => (match S with
    | .inl x :: S => rNext (d, M, i + 1, L, mL x :: S, h)
    | _ => rFail)
  | .l2i => (match S with
    | .inr (.inl x) :: S => rNext (d, M, i + 1, L, mI (mwrap x) :: S, h)
    | _ => rFail)
  | .iinc k _ => (match L.getD k mJ with
    | .inl z => bif Nat.blt k L.length then rNext (d, M, i + 1, mst1 L k (mI (mwrap (z + c))), S, h) else rFail
    | _ => rFail)
  | .dup => (match S with
    | .inl z :: S => rNext (d, M, i + 1, L, mI z :: mI z :: S, h)
    | .inr (.inr (.inl r)) :: S => rNext (d, M, i + 1, L, mR r :: mR r :: S, h)
    | _ => rFail)
  | .dup2 => (match S with
    | .inl z :: .inr (.inr (.inl r)) :: S => rNext (d, M, i + 1, L, mI z :: mR r :: mI z :: mR r :: S, h)
    | _ => rFail)
  | .ifCond q _ => (match S with
    | .inl x :: S => rBr (micond q x 0) (d, M, a, L, S, h) (d, M, i + 1, L, S, h)
    | _ => rFail)
  | .if_icmp q _ => (match S with
    | .inl y :: .inl x :: S => rBr (micond q x y) (d, M, a, L, S, h) (d, M, i + 1, L, S, h)
    | _ => rFail)
  | .goto _ => rNext (d, M, a, L, S, h)
  | .tableswitch _ _ _ _ => (match S with
    | .inl x :: S => rSw x (sw.map (fun q => (q.1, (d, M, q.2, L, S, h)))) (d, M, a, L, S, h)
    | _ => rFail)
  | .lookupswitch _ _ => (match S with
    | .inl x :: S => rSw x (sw.map (fun q => (q.1, (d, M, q.2, L, S, h)))) (d, M, a, L, S, h)
    | _ => rFail)
  | .getfield _ => mgetf ly b a S h (fun S => rNext (d, M, i + 1, L, S, h))
  | .putfield _ => bif decide (c = 0) then mputf ly b a S h (fun S h => rNext (d, M, i + 1, L, S, h)) else rFail
  | .getstatic _ => rNext (d, M, i + 1, L, mR a :: S, h)
  | .iaload => mald ly false S h (fun S => (d, M, i + 1, L, S, h))
  | .baload => mald ly true S h (fun S => (d, M, i + 1, L, S, h))
  | .iastore => mast ly false S h (fun S h => (d, M, i + 1, L, S, h))
  | .bastore => mast ly true S h (fun S h => (d, M, i + 1, L, S, h))
  | .aaload => maald ly S (fun S => rNext (d, M, i + 1, L, S, h))
  | .arraylength => malen ly S (fun S => rNext (d, M, i + 1, L, S, h))
  | .invokevirtual _ => mcall ly true d M i L S h a b
  | .invokespecial _ => bif b == 0 then (match d, S with
    | _ + 1, .inr (.inr (.inl _)) :: S => bif Nat.ble (mwords S) 8 then rNext (d, M, i + 1, L, S, h) else rFail
    | _, _ => rFail) else mcall ly true d M i L S h a b
  | .invokestatic _ => bif b == 99 then (bif d == 0 then rFail else mcopy ly S h (fun S h => (d, M, i + 1, L, S, h))) else bif b == 98 then (bif d == 0 || !(Nat.ble (mwords S) 10) then rFail else mbin mmaxi S (fun S => rNext (d, M, i + 1, L, S, h))) else bif b == 97 then (bif d == 0 || !(Nat.ble (mwords S) 10) then rFail else mbin mmini S (fun S => rNext (d, M, i + 1, L, S, h))) else mcall ly false d M i L S h a b
  | .ireturn => (match S with
    | [.inl v] => bif mrk M == 1 then rRet true (h, v) else bif mrk M == 3 then rRet (decide (0 ≤ v) && decide (v ≤ 1)) (h, v) else rFail
    | _ => rFail)
  | .lreturn => (match S with
    | [.inr (.inl v)] => bif mrk M == 2 then rRet true (h, v) else rFail
    | _ => rFail)
  | .return_ => (match S with
    | [] => bif mrk M == 0 then rRet true (h, 0) else rFail
    | _ => rFail)
  | _ => rFail
def sstep (ly : mmL) (x : mmX) : mmS := match x with
  | (d, M, i, L, S, h) => match prg M i with
    | (_, ins, a, b, c, sw) => mstepI ly d M i L S h ins a b c sw
/-! what makes a cell, or writes a reference: in constructors alone -/
def mallocI (ly : mmL) (d M i : Nat) (L S : List mmV) (σ : mmSt) (ins : Instr) (a b : Nat) (k0 : Int) : Option (mmL × mmX) := match ins with
  | .newarray _ => (match S with
    | .inl n :: S => bif decide (0 ≤ n) && decide (n ≤ 65536) then some ((ly.1 + 1, ly.2.1 + n.toNat, mlay ly.2.2 ly.1 (.inl (a == 1, n.toNat))), (d, M, i + 1, L, mR ly.1 :: S, mzero σ ly.1)) else none
    | _ => none)
  | .anewarray _ => (match S with
    | .inl n :: S => bif decide (0 ≤ n) && decide (n ≤ 65536) then some ((ly.1 + 1, ly.2.1 + n.toNat, mlay ly.2.2 ly.1 (.inr (.inl (0, List.replicate n.toNat none)))), (d, M, i + 1, L, mR ly.1 :: S, mzero σ ly.1)) else none
    | _ => none)
  | .multianewarray _ _ => (match S with
    | .inl k :: .inl n :: S => bif decide (0 ≤ n) && decide (n ≤ 1000) && decide (0 ≤ k) && decide (k ≤ 1000) then some ((ly.1 + 1 + n.toNat, ly.2.1 + n.toNat + n.toNat * k.toNat, (fun a => if a = ly.1 then .inr (.inl (1, (List.range n.toNat).map (fun i => some (ly.1 + 1 + i)))) else if ly.1 < a ∧ a < ly.1 + 1 + n.toNat then .inl (false, k.toNat) else ly.2.2 a)), (d, M, i + 1, L, mR ly.1 :: S, fun a j => if ly.1 ≤ a ∧ a < ly.1 + 1 + n.toNat then 0 else σ a j)) else none
    | _ => none)
  | .new _ => some ((ly.1 + 1, ly.2.1 + (mdef a).length, mlay ly.2.2 ly.1 (.inr (.inr (a, mdef a)))), (d, M, i + 1, L, mR ly.1 :: S, mzero σ ly.1))
  | .putfield _ => (match S with
    | .inr (.inr (.inl r)) :: .inr (.inr (.inl o)) :: S => bif decide (k0 = 1) && Nat.ble 4 o && Nat.blt o ly.1 && Nat.blt r ly.1 then (match ly.2.2 o with
      | .inr (.inr (c, fs)) => bif c == b then (match fs[a]? with
        | some (some _) => some ((ly.1, ly.2.1, mlay ly.2.2 o (.inr (.inr (c, fs.set a (some (some r)))))), (d, M, i + 1, L, S, σ))
        | _ => none) else none
      | _ => none) else none
    | _ => none)
  | .aastore => (match S with
    | .inr (.inr (.inl q)) :: .inl i' :: .inr (.inr (.inl r)) :: S => bif Nat.ble 4 r && Nat.blt r ly.1 && decide (0 ≤ i') && misObj ly 2 (mR q) then (match ly.2.2 r with
      | .inr (.inl (0, rs)) => bif Nat.blt i'.toNat rs.length then some ((ly.1, ly.2.1, mlay ly.2.2 r (.inr (.inl (0, rs.set i'.toNat (some q))))), (d, M, i + 1, L, S, σ)) else none
      | _ => none) else none
    | _ => none)
  | _ => none
def malloc (ly : mmL) (x : mmX) : Option (mmL × mmX) := match x with
  | (d, M, i, L, S, h) => match prg M i with
    | (_, ins, a, b, c, _) => mallocI ly d M i L S h ins a b c
def mlift (ly : mmL) (r : mmS) : gS (mmL × mmX) (mmL × mmY) := match r with
  | .inl _ => .inl ()
  | .inr (.inl (c, y)) => rRet c (ly, y)
  | .inr (.inr (.inl x)) => rNext (ly, x)
  | .inr (.inr (.inr (.inl (c, x, y)))) => rBr c (ly, x) (ly, y)
  | .inr (.inr (.inr (.inr (.inl (c, x))))) => rChk c (ly, x)
  | .inr (.inr (.inr (.inr (.inr (.inl (x, k)))))) => rCall (ly, x) (fun y => (y.1, k y.2))
  | .inr (.inr (.inr (.inr (.inr (.inr (v, l, d)))))) => rSw v (l.map (fun q => (q.1, (ly, q.2)))) (ly, d)
/-- the whole machine: with cells that are made -/
def mstep (z : mmL × mmX) : gS (mmL × mmX) (mmL × mmY) := match sstep z.1 z.2 with
  | .inl _ => (match malloc z.1 z.2 with
    | some w => rNext w
    | none => rFail)
  | .inr r => mlift z.1 (.inr r)
/-! the least fixpoint of a step, and its equation -/
def gev {X Y : Type} (call rec : X → Option Y) (r : gS X Y) : Option Y := match r with
  | .inl _ => none
  | .inr (.inl (c, y)) => bif c then some y else none
  | .inr (.inr (.inl x)) => rec x
  | .inr (.inr (.inr (.inl (c, x, y)))) => bif c then rec x else rec y
  | .inr (.inr (.inr (.inr (.inl (c, x))))) => bif c then rec x else none
  | .inr (.inr (.inr (.inr (.inr (.inl (x, k)))))) => (call x).bind (fun y => rec (k y))
  | .inr (.inr (.inr (.inr (.inr (.inr (v, l, d)))))) => l.foldr (fun p acc => bif decide (v = p.1) then rec p.2 else acc) (rec d)
def grunN {X Y : Type} (step : X → gS X Y) : Nat → X → Option Y
  | 0, _ => none
  | n + 1, x => gev (grunN step n) (grunN step n) (step x)
theorem gev_mono {X Y : Type} {c1 c2 r1 r2 : X → Option Y} (hc : ∀ x y, c1 x = some y → c2 x = some y) (hr : ∀ x y, r1 x = some y → r2 x = some y) (r : gS X Y) (y : Y) (h : gev c1 r1 r = some y) : gev c2 r2 r = some y := by
  rcases r with _ | ⟨c, q⟩ | x | ⟨c, x, z⟩ | ⟨c, x⟩ | ⟨x, k⟩ | ⟨v, l, d⟩
  · exact h
  · exact h
  · exact hr _ _ h
  · cases c
    · exact hr _ _ h
    · exact hr _ _ h
  · cases c
    · exact h
    · exact hr _ _ h
  · simp only [gev, Option.bind_eq_some_iff] at h ⊢
    obtain ⟨q, h1, h2⟩ := h
    exact ⟨q, hc _ _ h1, hr _ _ h2⟩
  · simp only [gev] at h ⊢
    induction l with
    | nil => exact hr _ _ h
    | cons p l ih =>
      simp only [List.foldr_cons] at h ⊢
      by_cases e : v = p.1
      · simp only [e, decide_true, cond_true] at h ⊢
        exact hr _ _ h
      · simp only [e, decide_false, cond_false] at h ⊢
        exact ih h
theorem grunN_succ {X Y : Type} (step : X → gS X Y) : ∀ (n : Nat) (x : X) (y : Y), grunN step n x = some y → grunN step (n + 1) x = some y
  | 0, _, _, h => by cases h
  | n + 1, x, y, h => gev_mono (grunN_succ step n) (grunN_succ step n) (step x) y h
theorem grunN_le {X Y : Type} (step : X → gS X Y) {n m : Nat} (h : n ≤ m) {x : X} {y : Y} (hx : grunN step n x = some y) : grunN step m x = some y := by
  induction m with
  | zero => cases Nat.le_zero.mp h; exact hx
  | succ m ih =>
    rcases Nat.lt_or_ge n (m + 1) with q | q
    · exact grunN_succ step m x y (ih (by omega))
    · have : n = m + 1 := by omega
      rw [← this]; exact hx
theorem grun_ex {X Y : Type} (step : X → gS X Y) : ∃ f : X → Option Y, ∀ x y, f x = some y ↔ ∃ n, grunN step n x = some y := by
  refine ⟨fun x => @dite _ (∃ n y, grunN step n x = some y) (Classical.propDecidable _) (fun h => some h.choose_spec.choose) (fun _ => none), fun x y => ?_⟩
  dsimp only
  by_cases h : ∃ n y, grunN step n x = some y
  · have hs := h.choose_spec.choose_spec
    rw [dif_pos h]
    constructor
    · intro q; cases q; exact ⟨_, hs⟩
    · rintro ⟨n, hn⟩
      have a1 := grunN_le step (Nat.le_max_left n h.choose) hn
      have a2 := grunN_le step (Nat.le_max_right n h.choose) hs
      rw [a1] at a2; exact a2.symm
  · rw [dif_neg h]
    constructor
    · intro q; cases q
    · rintro ⟨n, hn⟩; exact absurd ⟨n, y, hn⟩ h
/-- what a state comes to -/
noncomputable def grun {X Y : Type} (step : X → gS X Y) : X → Option Y := Classical.choose (grun_ex step)
theorem grun_iff {X Y : Type} (step : X → gS X Y) (x : X) (y : Y) : grun step x = some y ↔ ∃ n, grunN step n x = some y := Classical.choose_spec (grun_ex step) x y
theorem gev_two {X Y : Type} (step : X → gS X Y) (r : gS X Y) (y : Y) (h : gev (grun step) (grun step) r = some y) : ∃ n, gev (grunN step n) (grunN step n) r = some y := by
  rcases r with _ | ⟨c, q⟩ | x | ⟨c, x, z⟩ | ⟨c, x⟩ | ⟨x, k⟩ | ⟨v, l, d⟩
  · exact ⟨0, h⟩
  · exact ⟨0, h⟩
  · exact (grun_iff _ _ _).mp h
  · cases c
    · exact (grun_iff _ _ _).mp h
    · exact (grun_iff _ _ _).mp h
  · cases c
    · cases h
    · exact (grun_iff _ _ _).mp h
  · simp only [gev, Option.bind_eq_some_iff] at h ⊢
    obtain ⟨q, h1, h2⟩ := h
    obtain ⟨n1, h1⟩ := (grun_iff _ _ _).mp h1
    obtain ⟨n2, h2⟩ := (grun_iff _ _ _).mp h2
    exact ⟨max n1 n2, q, grunN_le step (Nat.le_max_left _ _) h1, grunN_le step (Nat.le_max_right _ _) h2⟩
  · simp only [gev] at h ⊢
    induction l with
    | nil => exact (grun_iff _ _ _).mp h
    | cons p l ih =>
      simp only [List.foldr_cons] at h ⊢
      by_cases e : v = p.1
      · simp only [e, decide_true, cond_true] at h ⊢
        exact (grun_iff _ _ _).mp h
      · simp only [e, decide_false, cond_false] at h ⊢
        exact ih h
theorem grun_eq {X Y : Type} (step : X → gS X Y) (x : X) : grun step x = gev (grun step) (grun step) (step x) := by
  have key : ∀ y, grun step x = some y ↔ gev (grun step) (grun step) (step x) = some y := by
    intro y
    rw [grun_iff]
    constructor
    · rintro ⟨n, hn⟩
      cases n with
      | zero => cases hn
      | succ n => exact gev_mono (fun x y h => (grun_iff step x y).mpr ⟨n, h⟩) (fun x y h => (grun_iff step x y).mpr ⟨n, h⟩) _ _ hn
    · intro h
      obtain ⟨n, hn⟩ := gev_two step _ _ h
      exact ⟨n + 1, hn⟩
  cases h1 : grun step x with
  | some y => exact ((key y).mp h1).symm
  | none =>
    cases h2 : gev (grun step) (grun step) (step x) with
    | none => rfl
    | some y => rw [(key y).mpr h2] at h1; cases h1
/-- the machine with a layout that stays -/
noncomputable def srun (ly : mmL) : mmX → Option mmY := grun (sstep ly)
/-- some steps at once, to the places of st -/
noncomputable def sunr (ly : mmL) (st : List Nat) : Nat → mmX → Option mmY
  | 0, x => srun ly x
  | k + 1, x => gev (srun ly) (fun z => bif st.contains z.2.2.1 then srun ly z else sunr ly st k z) (sstep ly x)
theorem srun_unr (ly : mmL) (st : List Nat) : ∀ (k : Nat) (x : mmX), srun ly x = sunr ly st k x
  | 0, _ => rfl
  | k + 1, x => by
    have e0 : srun ly x = gev (srun ly) (srun ly) (sstep ly x) := grun_eq (sstep ly) x
    have e : srun ly = (fun z => bif st.contains z.2.2.1 then srun ly z else sunr ly st k z) := by
      funext z
      rw [← srun_unr ly st k z]
      cases st.contains z.2.2.1 <;> rfl
    rw [e0]
    show gev (srun ly) (srun ly) (sstep ly x) = gev (srun ly) (fun z => bif st.contains z.2.2.1 then srun ly z else sunr ly st k z) (sstep ly x)
    rw [← e]
/-- what the machine with a layout that stays comes to, the whole machine comes to -/
theorem mlink (ly : mmL) : ∀ (n : Nat) (x : mmX) (y : mmY), grunN (sstep ly) n x = some y → grunN mstep n (ly, x) = some (ly, y)
  | 0, _, _, h => by cases h
  | n + 1, x, y, h => by
    have ih := mlink ly n
    have h : gev (grunN (sstep ly) n) (grunN (sstep ly) n) (sstep ly x) = some y := h
    show gev (grunN mstep n) (grunN mstep n) (mstep (ly, x)) = some (ly, y)
    have hm : ∀ r, sstep ly x = .inr r → mstep (ly, x) = mlift ly (.inr r) := fun r hr => by
      show (match sstep ly x with
        | .inl _ => (match malloc ly x with
          | some w => rNext w
          | none => rFail)
        | .inr r => mlift ly (.inr r)) = _
      rw [hr]
    cases hs : sstep ly x with
    | inl u => rw [hs] at h; cases h
    | inr r =>
      rw [hm r hs]
      rw [hs] at h
      rcases r with ⟨c, q⟩ | x | ⟨c, x, z⟩ | ⟨c, x⟩ | ⟨x, k⟩ | ⟨v, l, d⟩
      · cases c
        · cases h
        · cases h; rfl
      · exact ih _ _ h
      · cases c
        · exact ih _ _ h
        · exact ih _ _ h
      · cases c
        · cases h
        · exact ih _ _ h
      · simp only [gev, Option.bind_eq_some_iff] at h
        obtain ⟨q, h1, h2⟩ := h
        show (grunN mstep n (ly, x)).bind _ = _
        rw [ih _ _ h1]
        exact ih _ _ h2
      · simp only [gev] at h
        show (l.map (fun q => (q.1, (ly, q.2)))).foldr _ (grunN mstep n (ly, d)) = _
        clear hs
        induction l with
        | nil => exact ih _ _ h
        | cons p l ihl =>
          simp only [List.foldr_cons, List.map_cons] at h ⊢
          by_cases e : v = p.1
          · simp only [e, decide_true, cond_true] at h ⊢
            exact ih _ _ h
          · simp only [e, decide_false, cond_false] at h ⊢
            exact ihl h
theorem srun_link (ly : mmL) {x : mmX} {y : mmY} (h : srun ly x = some y) : grun mstep (ly, x) = some (ly, y) := by
  obtain ⟨n, hn⟩ := (grun_iff _ _ _).mp h
  exact (grun_iff _ _ _).mpr ⟨n, mlink ly n x y hn⟩
