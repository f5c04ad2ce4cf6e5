/-! THE MINI MACHINE: ints are mathematical integers, references are small numbers, the heap is a layout and a store -/
abbrev mmV : Type := Int ⊕ Int ⊕ Nat ⊕ Unit
abbrev mI (z : Int) : mmV := .inl z
abbrev mL (z : Int) : mmV := .inr (.inl z)
abbrev mR (k : Nat) : mmV := .inr (.inr (.inl k))
abbrev mJ : mmV := .inr (.inr (.inr ()))
/-- a cell: numbers (booleans?, length); references (0: of counties, 1: of int arrays); an object (class, per slot: none an int, some a reference) -/
abbrev mmC : Type := (Bool × Nat) ⊕ (Nat × List (Option Nat)) ⊕ (Nat × List (Option (Option Nat)))
abbrev mmSt : Type := Nat → Nat → Int
/-- cells, slots, layout, store -/
abbrev mmH : Type := Nat × Nat × (Nat → mmC) × mmSt
/-- depth, method, place, locals, stack, heap -/
abbrev mmX : Type := Nat × Nat × Nat × List mmV × List mmV × mmH
abbrev mmY : Type := mmH × Int
abbrev mmS : Type := Unit ⊕ (Bool × mmY) ⊕ mmX ⊕ (Bool × mmX × mmX) ⊕ (Bool × mmX) ⊕ (mmX × (mmY → mmX)) ⊕ (Int × List (Int × mmX) × mmX)
abbrev rFail : mmS := .inl ()
abbrev rRet (c : Bool) (y : mmY) : mmS := .inr (.inl (c, y))
abbrev rNext (x : mmX) : mmS := .inr (.inr (.inl x))
abbrev rBr (c : Bool) (x y : mmX) : mmS := .inr (.inr (.inr (.inl (c, x, y))))
abbrev rChk (c : Bool) (x : mmX) : mmS := .inr (.inr (.inr (.inr (.inl (c, x)))))
abbrev rCall (x : mmX) (k : mmY → mmX) : mmS := .inr (.inr (.inr (.inr (.inr (.inl (x, k))))))
abbrev rSw (v : Int) (l : List (Int × mmX)) (d : mmX) : mmS := .inr (.inr (.inr (.inr (.inr (.inr (v, l, d))))))
def mwrap (z : Int) : Int := z.bmod 4294967296
def mwrapL (z : Int) : Int := z.bmod 18446744073709551616
def mand (x y : Int) : Int := (Int32.ofInt x &&& Int32.ofInt y).toInt
def mor (x y : Int) : Int := (Int32.ofInt x ||| Int32.ofInt y).toInt
def mxor (x y : Int) : Int := (Int32.ofInt x ^^^ Int32.ofInt y).toInt
def mshl (x y : Int) : Int := (Int32.ofInt x <<< (Int32.ofInt y &&& 31)).toInt
def mshr (x y : Int) : Int := (Int32.ofInt x >>> (Int32.ofInt y &&& 31)).toInt
def mushr (x y : Int) : Int := ((Int32.ofInt x).toUInt32 >>> ((Int32.ofInt y).toUInt32 &&& Int32.toUInt32 31)).toInt32.toInt
def mi2b (x : Int) : Int := (Int32.ofInt x).toInt8.toInt32.toInt
def mi2s (x : Int) : Int := (Int32.ofInt x).toInt16.toInt32.toInt
def mlcmp (x y : Int) : Int := if y < x then 1 else if x = y then 0 else -1
def minb (i : Int) (n : Nat) : Bool := decide (0 ≤ i) && decide (i < (n : Int))
def mup (σ : mmSt) (a i : Nat) (v : Int) : mmSt := fun b j => if b = a ∧ j = i then v else σ b j
def mzero (σ : mmSt) (a : Nat) : mmSt := fun b j => if b = a then 0 else σ b j
/-- n places of a from s on come to b from t on -/
def mcpy (σ : mmSt) (a s b t n : Nat) : mmSt := fun c j => if c = b ∧ t ≤ j ∧ j < t + n then σ a (s + (j - t)) else σ c j
def mlay (f : Nat → mmC) (a : Nat) (c : mmC) : Nat → mmC := fun b => if b = a then c else f b
def mword : mmV → Nat
  | .inr (.inl _) => 2
  | _ => 1
def mwords : List mmV → Nat
  | [] => 0
  | v :: l => mword v + mwords l
def mclr (L : List mmV) : Nat → List mmV
  | 0 => L
  | j + 1 => match L.getD j mJ with
    | .inr (.inl _) => L.set j mJ
    | _ => L
def mst1 (L : List mmV) (k : Nat) (v : mmV) : List mmV := (mclr L k).set k v
def mst2 (L : List mmV) (k : Nat) (v : mmV) : List mmV := ((mclr L k).set k v).set (k + 1) mJ
def mslots : List mmV → List mmV
  | [] => []
  | .inr (.inl z) :: l => .inr (.inl z) :: mJ :: mslots l
  | v :: l => v :: mslots l
def mframe (args : List mmV) (maxL : Nat) : List mmV := mslots args ++ List.replicate (maxL - (mslots args).length) mJ
def misObj (h : mmH) (ci : Nat) : mmV → Bool
  | .inr (.inr (.inl o)) => match h.2.2.1 o with
    | .inr (.inr (c, _)) => c == ci && Nat.ble 4 o && Nat.blt o h.1
    | _ => false
  | _ => false
def mbin (f : Int → Int → Int) (S : List mmV) (k : List mmV → mmS) : mmS := match S with
  | .inl y :: .inl x :: S => k (mI (f x y) :: S)
  | _ => rFail
def mun (f : Int → Int) (S : List mmV) (k : List mmV → mmS) : mmS := match S with
  | .inl x :: S => k (mI (f x) :: S)
  | _ => rFail
def mbinL (f : Int → Int → Int) (S : List mmV) (k : List mmV → mmS) : mmS := match S with
  | .inr (.inl y) :: .inr (.inl x) :: S => k (mL (f x y) :: S)
  | _ => rFail
def micond : Jvm.ClassFile.Cond → Int → Int → Bool
  | .eq, x, y => decide (x = y)
  | .ne, x, y => decide (¬ x = y)
  | .lt, x, y => decide (x < y)
  | .ge, x, y => decide (y ≤ x)
  | .gt, x, y => decide (y < x)
  | .le, x, y => decide (x ≤ y)
def mldi (L S : List mmV) (k : Nat) (f : List mmV → mmS) : mmS := match L.getD k mJ with
  | .inl z => f (mI z :: S)
  | _ => rFail
def mldl (L S : List mmV) (k : Nat) (f : List mmV → mmS) : mmS := match L.getD k mJ with
  | .inr (.inl z) => f (mL z :: S)
  | _ => rFail
def mlda (L S : List mmV) (k : Nat) (f : List mmV → mmS) : mmS := match L.getD k mJ with
  | .inr (.inr (.inl r)) => f (mR r :: S)
  | _ => rFail
def msti (L S : List mmV) (k : Nat) (f : List mmV → List mmV → mmS) : mmS := match S with
  | .inl z :: S => bif Nat.blt k L.length then f (mst1 L k (mI z)) S else rFail
  | _ => rFail
def mstl (L S : List mmV) (k : Nat) (f : List mmV → List mmV → mmS) : mmS := match S with
  | .inr (.inl z) :: S => bif Nat.blt (k + 1) L.length then f (mst2 L k (mL z)) S else rFail
  | _ => rFail
def msta (L S : List mmV) (k : Nat) (f : List mmV → List mmV → mmS) : mmS := match S with
  | .inr (.inr (.inl r)) :: S => bif Nat.blt k L.length then f (mst1 L k (mR r)) S else rFail
  | _ => rFail
/-- a field is read: class ci, slot k -/
def mgetf (ci k : Nat) (S : List mmV) (h : mmH) (f : List mmV → mmS) : mmS := match S with
  | .inr (.inr (.inl o)) :: S => bif Nat.ble 4 o && Nat.blt o h.1 then (match h.2.2.1 o with
    | .inr (.inr (c, fs)) => bif c == ci then (match fs[k]? with
      | some none => f (mI (h.2.2.2 o k) :: S)
      | some (some (some r)) => f (mR r :: S)
      | _ => rFail) else rFail
    | _ => rFail) else rFail
  | _ => rFail
def mputf (ci k : Nat) (S : List mmV) (h : mmH) (f : List mmV → mmH → mmS) : mmS := match S with
  | .inl z :: .inr (.inr (.inl o)) :: S => bif Nat.ble 4 o && Nat.blt o h.1 then (match h.2.2.1 o with
    | .inr (.inr (c, fs)) => bif c == ci then (match fs[k]? with
      | some none => f S (h.1, h.2.1, h.2.2.1, mup h.2.2.2 o k z)
      | _ => rFail) else rFail
    | _ => rFail) else rFail
  | .inr (.inr (.inl r)) :: .inr (.inr (.inl o)) :: S => bif Nat.ble 4 o && Nat.blt o h.1 then (match h.2.2.1 o with
    | .inr (.inr (c, fs)) => bif c == ci then (match fs[k]? with
      | some (some _) => f S (h.1, h.2.1, mlay h.2.2.1 o (.inr (.inr (c, fs.set k (some (some r))))), h.2.2.2)
      | _ => rFail) else rFail
    | _ => rFail) else rFail
  | _ => rFail
def mald (b : Bool) (S : List mmV) (h : mmH) (f : List mmV → mmX) : mmS := match S with
  | .inl i :: .inr (.inr (.inl r)) :: S => bif Nat.blt r h.1 then (match h.2.2.1 r with
    | .inl (c, n) => bif c == b then rChk (minb i n) (f (mI (h.2.2.2 r i.toNat) :: S)) else rFail
    | _ => rFail) else rFail
  | _ => rFail
def mast (b : Bool) (S : List mmV) (h : mmH) (f : List mmV → mmH → mmX) : mmS := match S with
  | .inl v :: .inl i :: .inr (.inr (.inl r)) :: S => bif Nat.ble 4 r && Nat.blt r h.1 then (match h.2.2.1 r with
    | .inl (c, n) => bif c == b then rChk (minb i n && (!b || (decide (0 ≤ v) && decide (v ≤ 1)))) (f S (h.1, h.2.1, h.2.2.1, mup h.2.2.2 r i.toNat v)) else rFail
    | _ => rFail) else rFail
  | _ => rFail
def maald (S : List mmV) (h : mmH) (f : List mmV → mmS) : mmS := match S with
  | .inl i :: .inr (.inr (.inl r)) :: S => bif Nat.ble 4 r && Nat.blt r h.1 && decide (0 ≤ i) then (match h.2.2.1 r with
    | .inr (.inl (_, rs)) => (match rs[i.toNat]? with
      | some (some q) => f (mR q :: S)
      | _ => rFail)
    | _ => rFail) else rFail
  | _ => rFail
def maast (S : List mmV) (h : mmH) (f : List mmV → mmH → mmS) : mmS := match S with
  | .inr (.inr (.inl q)) :: .inl i :: .inr (.inr (.inl r)) :: S => bif Nat.ble 4 r && Nat.blt r h.1 && decide (0 ≤ i) && misObj h 2 (mR q) then (match h.2.2.1 r with
    | .inr (.inl (0, rs)) => bif Nat.blt i.toNat rs.length then f S (h.1, h.2.1, mlay h.2.2.1 r (.inr (.inl (0, rs.set i.toNat (some q)))), h.2.2.2) else rFail
    | _ => rFail) else rFail
  | _ => rFail
def malen (S : List mmV) (h : mmH) (f : List mmV → mmS) : mmS := match S with
  | .inr (.inr (.inl r)) :: S => bif Nat.blt r h.1 then (match h.2.2.1 r with
    | .inl (_, n) => f (mI (n : Int) :: S)
    | _ => rFail) else rFail
  | _ => rFail
def mcopy (S : List mmV) (h : mmH) (f : List mmV → mmH → mmX) : mmS := match S with
  | .inl n :: .inl dp :: .inr (.inr (.inl b)) :: .inl sp :: .inr (.inr (.inl a)) :: S => bif Nat.ble 4 a && Nat.blt a h.1 && Nat.ble 4 b && Nat.blt b h.1 && Nat.ble (mwords S) 8 then (match h.2.2.1 a, h.2.2.1 b with
    | .inl (false, n0), .inl (false, n1) => rChk (decide (0 ≤ sp) && decide (0 ≤ dp) && decide (0 ≤ n) && decide (sp + n ≤ (n0 : Int)) && decide (dp + n ≤ (n1 : Int))) (f S (h.1, h.2.1, h.2.2.1, mcpy h.2.2.2 a sp.toNat b dp.toNat n.toNat))
    | _, _ => rFail) else rFail
  | _ => rFail
def mnewarr (b : Bool) (S : List mmV) (h : mmH) (f : List mmV → mmH → mmS) : mmS := match S with
  | .inl n :: S => bif decide (0 ≤ n) && decide (n ≤ 65536) then f (mR h.1 :: S) (h.1 + 1, h.2.1 + n.toNat, mlay h.2.2.1 h.1 (.inl (b, n.toNat)), mzero h.2.2.2 h.1) else rFail
  | _ => rFail
def mnewrefs (S : List mmV) (h : mmH) (f : List mmV → mmH → mmS) : mmS := match S with
  | .inl n :: S => bif decide (0 ≤ n) && decide (n ≤ 65536) then f (mR h.1 :: S) (h.1 + 1, h.2.1 + n.toNat, mlay h.2.2.1 h.1 (.inr (.inl (0, List.replicate n.toNat none))), mzero h.2.2.2 h.1) else rFail
  | _ => rFail
/-- new int[n][k] -/
def mmulti (S : List mmV) (h : mmH) (f : List mmV → mmH → mmS) : mmS := match S with
  | .inl k :: .inl n :: S => bif decide (0 ≤ n) && decide (n ≤ 1000) && decide (0 ≤ k) && decide (k ≤ 1000) then f (mR h.1 :: S) (h.1 + 1 + n.toNat, h.2.1 + n.toNat + n.toNat * k.toNat, (fun a => if a = h.1 then .inr (.inl (1, (List.range n.toNat).map (fun i => some (h.1 + 1 + i)))) else if h.1 < a ∧ a < h.1 + 1 + n.toNat then .inl (false, k.toNat) else h.2.2.1 a), (fun a j => if h.1 ≤ a ∧ a < h.1 + 1 + n.toNat then 0 else h.2.2.2 a j)) else rFail
  | _ => rFail
def mpush (rk : Nat) (v : Int) (S : List mmV) : List mmV := match rk with
  | 0 => S
  | 2 => mL v :: S
  | _ => mI v :: S
/-- a call: the callee's number, how many values it takes, whether the first is an object of its class -/
def mcall (virt : Bool) (d M i : Nat) (L S : List mmV) (h : mmH) (a b : Nat) : mmS := match d with
  | 0 => rFail
  | d + 1 => bif Nat.ble b S.length && Nat.ble (mwords (S.drop b)) 8 && (!virt || misObj h (mcls a) ((S.take b).getLastD mJ)) && Nat.ble (mslots (S.take b).reverse).length (mmaxL a) then rCall (d, a, 0, mframe (S.take b).reverse (mmaxL a), [], h) (fun y => (d + 1, M, i + 1, L, mpush (mrk a) y.2 (S.drop b), y.1)) else rFail
/-- one instruction -/
def mstepI (d M i : Nat) (L S : List mmV) (h : mmH) (ins : Instr) (a b : Nat) (c : Int) (sw : List (Int × Nat)) : mmS := match ins with
  | .aload_n k => mlda L S k.val (fun S => rNext (d, M, i + 1, L, S, h))
  | .aload k => mlda L S k (fun S => rNext (d, M, i + 1, L, S, h))
  | .iload_n k => mldi L S k.val (fun S => rNext (d, M, i + 1, L, S, h))
  | .iload k => mldi L S k (fun S => rNext (d, M, i + 1, L, S, h))
  | .lload_n k => mldl L S k.val (fun S => rNext (d, M, i + 1, L, S, h))
  | .lload k => mldl L S k (fun S => rNext (d, M, i + 1, L, S, h))
  | .istore_n k => msti L S k.val (fun L S => rNext (d, M, i + 1, L, S, h))
  | .istore k => msti L S k (fun L S => rNext (d, M, i + 1, L, S, h))
  | .lstore_n k => mstl L S k.val (fun L S => rNext (d, M, i + 1, L, S, h))
  | .lstore k => mstl L S k (fun L S => rNext (d, M, i + 1, L, S, h))
  | .astore_n k => msta L S k.val (fun L S => rNext (d, M, i + 1, L, S, h))
  | .iconst _ => rNext (d, M, i + 1, L, mI c :: S, h)
  | .bipush _ => rNext (d, M, i + 1, L, mI c :: S, h)
  | .sipush _ => rNext (d, M, i + 1, L, mI c :: S, h)
  | .ldc _ => rNext (d, M, i + 1, L, mI c :: S, h)
  | .ldc_w _ => rNext (d, M, i + 1, L, mI c :: S, h)
  | .ldc2_w _ => rNext (d, M, i + 1, L, mL c :: S, h)
  | .lconst _ => rNext (d, M, i + 1, L, mL c :: S, h)
  | .iadd => mbin (fun x y => mwrap (x + y)) S (fun S => rNext (d, M, i + 1, L, S, h))
  | .isub => mbin (fun x y => mwrap (x - y)) S (fun S => rNext (d, M, i + 1, L, S, h))
  | .imul => mbin (fun x y => mwrap (x * y)) S (fun S => rNext (d, M, i + 1, L, S, h))
  | .iand => mbin mand S (fun S => rNext (d, M, i + 1, L, S, h))
  | .ior => mbin mor S (fun S => rNext (d, M, i + 1, L, S, h))
  | .ixor => mbin mxor S (fun S => rNext (d, M, i + 1, L, S, h))
  | .ishl => mbin mshl S (fun S => rNext (d, M, i + 1, L, S, h))
  | .ishr => mbin mshr S (fun S => rNext (d, M, i + 1, L, S, h))
  | .iushr => mbin mushr S (fun S => rNext (d, M, i + 1, L, S, h))
  | .ineg => mun (fun x => mwrap (-x)) S (fun S => rNext (d, M, i + 1, L, S, h))
  | .i2b => mun mi2b S (fun S => rNext (d, M, i + 1, L, S, h))
  | .i2s => mun mi2s S (fun S => rNext (d, M, i + 1, L, S, h))
  | .ladd => mbinL (fun x y => mwrapL (x + y)) S (fun S => rNext (d, M, i + 1, L, S, h))
  | .lsub => mbinL (fun x y => mwrapL (x - y)) S (fun S => rNext (d, M, i + 1, L, S, h))
  | .lmul => mbinL (fun x y => mwrapL (x * y)) S (fun S => rNext (d, M, i + 1, L, S, h))
  | .ldiv => (match S with
    | .inr (.inl y) :: .inr (.inl x) :: S => rChk (decide (¬ y = 0)) (d, M, i + 1, L, mL (mwrapL (x.tdiv y)) :: S, h)
    | _ => rFail)
  | .lrem => (match S with
    | .inr (.inl y) :: .inr (.inl x) :: S => rChk (decide (¬ y = 0)) (d, M, i + 1, L, mL (x.tmod y) :: S, h)
    | _ => rFail)
  | .lcmp => (match S with
    | .inr (.inl y) :: .inr (.inl x) :: S => rNext (d, M, i + 1, L, mI (mlcmp x y) :: S, h)
    | _ => rFail)
  | .i2l => (match S with
    | .inl x :: S => rNext (d, M, i + 1, L, mL x :: S, h)
    | _ => rFail)
  | .l2i => (match S with
    | .inr (.inl x) :: S => rNext (d, M, i + 1, L, mI (mwrap x) :: S, h)
    | _ => rFail)
  | .iinc k _ => (match L.getD k mJ with
    | .inl z => bif Nat.blt k L.length then rNext (d, M, i + 1, mst1 L k (mI (mwrap (z + c))), S, h) else rFail
    | _ => rFail)
  | .dup => (match S with
    | .inl z :: S => rNext (d, M, i + 1, L, mI z :: mI z :: S, h)
    | .inr (.inr (.inl r)) :: S => rNext (d, M, i + 1, L, mR r :: mR r :: S, h)
    | _ => rFail)
  | .dup2 => (match S with
    | .inl z :: .inr (.inr (.inl r)) :: S => rNext (d, M, i + 1, L, mI z :: mR r :: mI z :: mR r :: S, h)
    | _ => rFail)
  | .ifCond q _ => (match S with
    | .inl x :: S => rBr (micond q x 0) (d, M, a, L, S, h) (d, M, i + 1, L, S, h)
    | _ => rFail)
  | .if_icmp q _ => (match S with
    | .inl y :: .inl x :: S => rBr (micond q x y) (d, M, a, L, S, h) (d, M, i + 1, L, S, h)
    | _ => rFail)
  | .goto _ => rNext (d, M, a, L, S, h)
  | .tableswitch _ _ _ _ => (match S with
    | .inl x :: S => rSw x (sw.map (fun q => (q.1, (d, M, q.2, L, S, h)))) (d, M, a, L, S, h)
    | _ => rFail)
  | .lookupswitch _ _ => (match S with
    | .inl x :: S => rSw x (sw.map (fun q => (q.1, (d, M, q.2, L, S, h)))) (d, M, a, L, S, h)
    | _ => rFail)
  | .getfield _ => mgetf b a S h (fun S => rNext (d, M, i + 1, L, S, h))
  | .putfield _ => mputf b a S h (fun S h => rNext (d, M, i + 1, L, S, h))
  | .getstatic _ => rNext (d, M, i + 1, L, mR a :: S, h)
  | .iaload => mald false S h (fun S => (d, M, i + 1, L, S, h))
  | .baload => mald true S h (fun S => (d, M, i + 1, L, S, h))
  | .iastore => mast false S h (fun S h => (d, M, i + 1, L, S, h))
  | .bastore => mast true S h (fun S h => (d, M, i + 1, L, S, h))
  | .aaload => maald S h (fun S => rNext (d, M, i + 1, L, S, h))
  | .aastore => maast S h (fun S h => rNext (d, M, i + 1, L, S, h))
  | .arraylength => malen S h (fun S => rNext (d, M, i + 1, L, S, h))
  | .newarray _ => mnewarr (a == 1) S h (fun S h => rNext (d, M, i + 1, L, S, h))
  | .anewarray _ => mnewrefs S h (fun S h => rNext (d, M, i + 1, L, S, h))
  | .multianewarray _ _ => mmulti S h (fun S h => rNext (d, M, i + 1, L, S, h))
  | .new _ => rNext (d, M, i + 1, L, mR h.1 :: S, (h.1 + 1, h.2.1 + (mdef a).length, mlay h.2.2.1 h.1 (.inr (.inr (a, mdef a))), mzero h.2.2.2 h.1))
  | .invokevirtual _ => mcall true d M i L S h a b
  | .invokespecial _ => bif b == 0 then (match d, S with
    | _ + 1, .inr (.inr (.inl _)) :: S => bif Nat.ble (mwords S) 8 then rNext (d, M, i + 1, L, S, h) else rFail
    | _, _ => rFail) else mcall true d M i L S h a b
  | .invokestatic _ => bif b == 99 then (bif d == 0 then rFail else mcopy S h (fun S h => (d, M, i + 1, L, S, h))) else mcall false d M i L S h a b
  | .ireturn => (match S with
    | [.inl v] => bif mrk M == 1 then rRet true (h, v) else bif mrk M == 3 then rRet (decide (0 ≤ v) && decide (v ≤ 1)) (h, v) else rFail
    | _ => rFail)
  | .lreturn => (match S with
    | [.inr (.inl v)] => bif mrk M == 2 then rRet true (h, v) else rFail
    | _ => rFail)
  | .return_ => (match S with
    | [] => bif mrk M == 0 then rRet true (h, 0) else rFail
    | _ => rFail)
  | _ => rFail
def mstep (x : mmX) : mmS := match x with
  | (d, M, i, L, S, h) => match prg M i with
    | (_, ins, a, b, c, sw) => mstepI d M i L S h ins a b c sw
def mev (call rec : mmX → Option mmY) (r : mmS) : Option mmY := match r with
  | .inl _ => none
  | .inr (.inl (c, y)) => bif c then some y else none
  | .inr (.inr (.inl x)) => rec x
  | .inr (.inr (.inr (.inl (c, x, y)))) => bif c then rec x else rec y
  | .inr (.inr (.inr (.inr (.inl (c, x))))) => bif c then rec x else none
  | .inr (.inr (.inr (.inr (.inr (.inl (x, k)))))) => (call x).bind (fun y => rec (k y))
  | .inr (.inr (.inr (.inr (.inr (.inr (v, l, d)))))) => l.foldr (fun p acc => bif decide (v = p.1) then rec p.2 else acc) (rec d)
def mrunN : Nat → mmX → Option mmY
  | 0, _ => none
  | n + 1, x => mev (mrunN n) (mrunN n) (mstep x)
theorem mev_mono {c1 c2 r1 r2 : mmX → Option mmY} (hc : ∀ x y, c1 x = some y → c2 x = some y) (hr : ∀ x y, r1 x = some y → r2 x = some y) (r : mmS) (y : mmY) (h : mev c1 r1 r = some y) : mev c2 r2 r = some y := by
  rcases r with _ | ⟨c, q⟩ | x | ⟨c, x, z⟩ | ⟨c, x⟩ | ⟨x, k⟩ | ⟨v, l, d⟩
  · exact h
  · exact h
  · exact hr _ _ h
  · cases c
    · exact hr _ _ h
    · exact hr _ _ h
  · cases c
    · exact h
    · exact hr _ _ h
  · simp only [mev, Option.bind_eq_some_iff] at h ⊢
    obtain ⟨q, h1, h2⟩ := h
    exact ⟨q, hc _ _ h1, hr _ _ h2⟩
  · simp only [mev] at h ⊢
    induction l with
    | nil => exact hr _ _ h
    | cons p l ih =>
      simp only [List.foldr_cons] at h ⊢
      by_cases e : v = p.1
      · simp only [e, decide_true, cond_true] at h ⊢
        exact hr _ _ h
      · simp only [e, decide_false, cond_false] at h ⊢
        exact ih h
theorem mrunN_succ : ∀ (n : Nat) (x : mmX) (y : mmY), mrunN n x = some y → mrunN (n + 1) x = some y
  | 0, _, _, h => by cases h
  | n + 1, x, y, h => mev_mono (mrunN_succ n) (mrunN_succ n) (mstep x) y h
theorem mrunN_le {n m : Nat} (h : n ≤ m) {x : mmX} {y : mmY} (hx : mrunN n x = some y) : mrunN m x = some y := by
  induction m with
  | zero => cases Nat.le_zero.mp h; exact hx
  | succ m ih =>
    rcases Nat.lt_or_ge n (m + 1) with q | q
    · exact mrunN_succ m x y (ih (by omega))
    · have : n = m + 1 := by omega
      rw [← this]; exact hx
theorem mrun_ex : ∃ f : mmX → Option mmY, ∀ x y, f x = some y ↔ ∃ n, mrunN n x = some y := by
  refine ⟨fun x => @dite _ (∃ n y, mrunN n x = some y) (Classical.propDecidable _) (fun h => some h.choose_spec.choose) (fun _ => none), fun x y => ?_⟩
  dsimp only
  by_cases h : ∃ n y, mrunN n x = some y
  · have hs := h.choose_spec.choose_spec
    rw [dif_pos h]
    constructor
    · intro q; cases q; exact ⟨_, hs⟩
    · rintro ⟨n, hn⟩
      have a1 := mrunN_le (Nat.le_max_left n h.choose) hn
      have a2 := mrunN_le (Nat.le_max_right n h.choose) hs
      rw [a1] at a2; exact a2.symm
  · rw [dif_neg h]
    constructor
    · intro q; cases q
    · rintro ⟨n, hn⟩; exact absurd ⟨n, y, hn⟩ h
/-- what a state comes to -/
noncomputable def mrun : mmX → Option mmY := Classical.choose mrun_ex
theorem mrun_iff (x : mmX) (y : mmY) : mrun x = some y ↔ ∃ n, mrunN n x = some y := Classical.choose_spec mrun_ex x y
theorem mev_two (r : mmS) (y : mmY) (h : mev mrun mrun r = some y) : ∃ n, mev (mrunN n) (mrunN n) r = some y := by
  rcases r with _ | ⟨c, q⟩ | x | ⟨c, x, z⟩ | ⟨c, x⟩ | ⟨x, k⟩ | ⟨v, l, d⟩
  · exact ⟨0, h⟩
  · exact ⟨0, h⟩
  · exact (mrun_iff _ _).mp h
  · cases c
    · exact (mrun_iff _ _).mp h
    · exact (mrun_iff _ _).mp h
  · cases c
    · cases h
    · exact (mrun_iff _ _).mp h
  · simp only [mev, Option.bind_eq_some_iff] at h ⊢
    obtain ⟨q, h1, h2⟩ := h
    obtain ⟨n1, h1⟩ := (mrun_iff _ _).mp h1
    obtain ⟨n2, h2⟩ := (mrun_iff _ _).mp h2
    exact ⟨max n1 n2, q, mrunN_le (Nat.le_max_left _ _) h1, mrunN_le (Nat.le_max_right _ _) h2⟩
  · simp only [mev] at h ⊢
    induction l with
    | nil => exact (mrun_iff _ _).mp h
    | cons p l ih =>
      simp only [List.foldr_cons] at h ⊢
      by_cases e : v = p.1
      · simp only [e, decide_true, cond_true] at h ⊢
        exact (mrun_iff _ _).mp h
      · simp only [e, decide_false, cond_false] at h ⊢
        exact ih h
theorem mrun_eq (x : mmX) : mrun x = mev mrun mrun (mstep x) := by
  have key : ∀ y, mrun x = some y ↔ mev mrun mrun (mstep x) = some y := by
    intro y
    rw [mrun_iff]
    constructor
    · rintro ⟨n, hn⟩
      cases n with
      | zero => cases hn
      | succ n => exact mev_mono (fun x y h => (mrun_iff x y).mpr ⟨n, h⟩) (fun x y h => (mrun_iff x y).mpr ⟨n, h⟩) _ _ hn
    · intro h
      obtain ⟨n, hn⟩ := mev_two _ _ h
      exact ⟨n + 1, hn⟩
  cases h1 : mrun x with
  | some y => exact ((key y).mp h1).symm
  | none =>
    cases h2 : mev mrun mrun (mstep x) with
    | none => rfl
    | some y => rw [(key y).mpr h2] at h1; cases h1
/-- some steps at once, to the places of st -/
noncomputable def munr (st : List Nat) : Nat → mmX → Option mmY
  | 0, x => mrun x
  | k + 1, x => mev mrun (fun z => bif st.contains z.2.2.1 then mrun z else munr st k z) (mstep x)
theorem mrun_unr (st : List Nat) : ∀ (k : Nat) (x : mmX), mrun x = munr st k x
  | 0, _ => rfl
  | k + 1, x => by
    rw [mrun_eq x]
    have e : mrun = (fun z => bif st.contains z.2.2.1 then mrun z else munr st k z) := by
      funext z
      rw [← mrun_unr st k z]
      cases st.contains z.2.2.1 <;> rfl
    show mev mrun mrun (mstep x) = mev mrun (fun z => bif st.contains z.2.2.1 then mrun z else munr st k z) (mstep x)
    rw [← e]
