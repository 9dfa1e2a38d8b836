/-! THE PURE MACHINE: the same bytecode over whole numbers, cells by their places; one theorem (part 04) carries its runs over to the machine itself -/
abbrev PV : Type := Int ⊕ Int ⊕ Option Nat
abbrev vI (x : Int) : PV := Sum.inl x
abbrev vL (x : Int) : PV := Sum.inr (Sum.inl x)
abbrev vR (r : Option Nat) : PV := Sum.inr (Sum.inr r)
abbrev PE : Type := (FieldType × Nat × ((Nat → Int) ⊕ (Nat → Int) ⊕ (Nat → Option Nat))) ⊕ (Nat × List PV)
abbrev PHp : Type := List PE
abbrev PL : Type := List (Option PV)
/-- byte pc, instruction, length, resolved numbers, a constant -/
abbrev PEn : Type := Nat × Instr × Nat × List Nat × Int
/-- ordinal, locals, stack, heap, cells made, slots made -/
abbrev PC : Type := Nat × PL × List PV × PHp × Nat × Nat
abbrev PO : Type := PC ⊕ (Option PV) ⊕ (Nat × List PV × List PV)
abbrev PK : Nat := 1000000
/-- what lies outside the system's cells and is only read: strings (0..10), static rows (11..13), the script (14) -/
abbrev PX : Type := Nat → Nat × (Nat → Int)
def iAnd (a b : Int) : Int := (Int32.ofInt a &&& Int32.ofInt b).toInt
def iOr (a b : Int) : Int := (Int32.ofInt a ||| Int32.ofInt b).toInt
def iXor (a b : Int) : Int := (Int32.ofInt a ^^^ Int32.ofInt b).toInt
def iShl (a b : Int) : Int := (Int32.ofInt a <<< (Int32.ofInt b &&& 31)).toInt
def iShr (a b : Int) : Int := (Int32.ofInt a >>> (Int32.ofInt b &&& 31)).toInt
def iUshr (a b : Int) : Int := ((Int32.ofInt a).toUInt32 >>> ((Int32.ofInt b).toUInt32 &&& Int32.toUInt32 31)).toInt32.toInt
def iDiv (a b : Int) : Int := (Int32.ofInt a / Int32.ofInt b).toInt
def iRem (a b : Int) : Int := (Int32.ofInt a - Int32.ofInt a / Int32.ofInt b * Int32.ofInt b).toInt
def iL2i (a : Int) : Int := (Int64.ofInt a).toInt32.toInt
def iI2l (a : Int) : Int := (Int32.ofInt a).toInt
def lOr (a b : Int) : Int := (Int64.ofInt a ||| Int64.ofInt b).toInt
def lShl (a b : Int) : Int := (Int64.ofInt a <<< ((Int32.ofInt b).toInt64 &&& 63)).toInt
def lShr (a b : Int) : Int := (Int64.ofInt a >>> ((Int32.ofInt b).toInt64 &&& 63)).toInt
def lCmp (a b : Int) : Int := if Int64.ofInt a < Int64.ofInt b then -1 else if Int64.ofInt a = Int64.ofInt b then 0 else 1
def iCmp (cd : ClassFile.Cond) (a b : Int) : Bool := match cd with
  | .eq => decide (Int32.ofInt a = Int32.ofInt b)
  | .ne => !decide (Int32.ofInt a = Int32.ofInt b)
  | .lt => decide (Int32.ofInt a < Int32.ofInt b)
  | .ge => !decide (Int32.ofInt a < Int32.ofInt b)
  | .gt => decide (Int32.ofInt b < Int32.ofInt a)
  | .le => !decide (Int32.ofInt b < Int32.ofInt a)
def nx (i : Nat) (L : PL) (st : List PV) (h : PHp) (cs sl : Nat) : Option PO := some (.inl (i, L, st, h, cs, sl))
def lget (L : PL) (i : Nat) : Option PV := match L[i]? with
  | some (some v) => some v
  | _ => none
def isLg (v : Option (Option PV)) : Bool := match v with
  | some (some (.inr (.inl _))) => true
  | _ => false
def lclr (L : PL) (i : Nat) : PL := match i with
  | 0 => L
  | j + 1 => if isLg L[j]? = true then L.set j none else L
def lput (L : PL) (i : Nat) (v : PV) : PL := (lclr L i).set i (some v)
def lput2 (L : PL) (i : Nat) (v : PV) : PL := ((lclr L i).set i (some v)).set (i + 1) none
def hObj (h : PHp) (c ci : Nat) : Option (List PV) := if c < PK then (match h[c]? with
  | some (.inr (cj, fs)) => if cj = ci then some fs else none
  | _ => none) else none
def hInt (ty : FieldType) (h : PHp) (c : Nat) : Option (Nat × (Nat → Int)) := if c < PK then (match h[c]? with
  | some (.inl (t, n, .inl f)) => if t = ty ∧ n ≤ 100000 then some (n, f) else none
  | _ => none) else none
def hLong (h : PHp) (c : Nat) : Option (Nat × (Nat → Int)) := if c < PK then (match h[c]? with
  | some (.inl (t, n, .inr (.inl f))) => if t = .long ∧ n ≤ 100000 then some (n, f) else none
  | _ => none) else none
def hRef (h : PHp) (c : Nat) : Option (FieldType × Nat × (Nat → Option Nat)) := if c < PK then (match h[c]? with
  | some (.inl (t, n, .inr (.inr f))) => if n ≤ 100000 then some (t, n, f) else none
  | _ => none) else none
def xInt (X : PX) (h : PHp) (c : Nat) : Option (Nat × (Nat → Int)) := if c < PK then hInt .int h c else if c < PK + 11 then none else if c < PK + 15 then some (X (c - PK)) else none
def at2 (n : Nat) (f : Nat → Int) (i : Int) : Option Int := if 0 ≤ i ∧ i < n then some (f i.toNat) else none
def up {α : Type} (f : Nat → α) (k : Nat) (x : α) : Nat → α := fun j => if j = k then x else f j
def cpy (f g : Nat → Int) (sp dp n : Nat) : Nat → Int := fun k => if dp ≤ k ∧ k < dp + n then f (sp + (k - dp)) else g k
def fitF (t : Nat) (v : PV) : Bool := match v with
  | .inl x => t == 0 || (t == 1 && (x == 0 || x == 1))
  | .inr (.inr (some _)) => t == 2
  | _ => false
def catS (st : List PV) : Nat := (st.map fun v => match v with
  | .inr (.inl _) => 2
  | _ => 1).sum
def i2 (st : List PV) (f : Int → Int → Option PV) : Option (List PV) := match st with
  | .inl y :: .inl x :: r => (f x y).map (· :: r)
  | _ => none
def l2 (st : List PV) (f : Int → Int → Option PV) : Option (List PV) := match st with
  | .inr (.inl y) :: .inr (.inl x) :: r => (f x y).map (· :: r)
  | _ => none
def li2 (st : List PV) (f : Int → Int → Option PV) : Option (List PV) := match st with
  | .inl y :: .inr (.inl x) :: r => (f x y).map (· :: r)
  | _ => none
def ld (L : PL) (k : Nat) (j : Nat) : Option PV := match lget L j with
  | some (.inl x) => if k = 0 then some (vI x) else none
  | some (.inr (.inl x)) => if k = 1 then some (vL x) else none
  | some (.inr (.inr (some x))) => if k = 2 then some (vR (some x)) else none
  | _ => none
def ord (ar : List Nat) (k : Nat) : Nat := ar.getD k 0
def fdef (fs : List Nat) : List PV := fs.map fun t => if t = 2 then vR none else vI 0
/-- one instruction -/
def stp (X : PX) (e : PEn) (c : PC) : Option PO :=
  match e, c with
  | (_, ins, _, ar, z), (i, L, st, h, cs, sl) =>
  match ins with
  | .iconst _ => nx (i + 1) L (vI z :: st) h cs sl
  | .bipush _ => nx (i + 1) L (vI z :: st) h cs sl
  | .sipush _ => nx (i + 1) L (vI z :: st) h cs sl
  | .ldc _ => if ar = [] then nx (i + 1) L (vI z :: st) h cs sl else if ord ar 0 < 11 then nx (i + 1) L (vR (some (PK + ord ar 0)) :: st) h cs sl else none
  | .ldc_w _ => nx (i + 1) L (vI z :: st) h cs sl
  | .lconst _ => nx (i + 1) L (vL z :: st) h cs sl
  | .ldc2_w _ => nx (i + 1) L (vL z :: st) h cs sl
  | .iload_n j => (ld L 0 j).bind fun v => nx (i + 1) L (v :: st) h cs sl
  | .iload j => (ld L 0 j).bind fun v => nx (i + 1) L (v :: st) h cs sl
  | .lload_n j => (ld L 1 j).bind fun v => nx (i + 1) L (v :: st) h cs sl
  | .lload j => (ld L 1 j).bind fun v => nx (i + 1) L (v :: st) h cs sl
  | .aload_n j => (ld L 2 j).bind fun v => nx (i + 1) L (v :: st) h cs sl
  | .aload j => (ld L 2 j).bind fun v => nx (i + 1) L (v :: st) h cs sl
  | .istore_n j => match st with
    | .inl x :: r => if (j : Nat) < L.length then nx (i + 1) (lput L j (vI x)) r h cs sl else none
    | _ => none
  | .istore j => match st with
    | .inl x :: r => if j < L.length then nx (i + 1) (lput L j (vI x)) r h cs sl else none
    | _ => none
  | .lstore_n j => match st with
    | .inr (.inl x) :: r => if (j : Nat) + 1 < L.length then nx (i + 1) (lput2 L j (vL x)) r h cs sl else none
    | _ => none
  | .lstore j => match st with
    | .inr (.inl x) :: r => if j + 1 < L.length then nx (i + 1) (lput2 L j (vL x)) r h cs sl else none
    | _ => none
  | .astore_n j => match st with
    | .inr (.inr (some x)) :: r => if (j : Nat) < L.length then nx (i + 1) (lput L j (vR (some x))) r h cs sl else none
    | _ => none
  | .astore j => match st with
    | .inr (.inr (some x)) :: r => if j < L.length then nx (i + 1) (lput L j (vR (some x))) r h cs sl else none
    | _ => none
  | .iinc j n => match lget L j with
    | some (.inl x) => nx (i + 1) (lput L j (vI (x + n))) st h cs sl
    | _ => none
  | .iadd => (i2 st fun x y => some (vI (x + y))).bind fun s => nx (i + 1) L s h cs sl
  | .isub => (i2 st fun x y => some (vI (x - y))).bind fun s => nx (i + 1) L s h cs sl
  | .imul => (i2 st fun x y => some (vI (x * y))).bind fun s => nx (i + 1) L s h cs sl
  | .idiv => (i2 st fun x y => if Int32.ofInt y = 0 then none else some (vI (iDiv x y))).bind fun s => nx (i + 1) L s h cs sl
  | .irem => (i2 st fun x y => if Int32.ofInt y = 0 then none else some (vI (iRem x y))).bind fun s => nx (i + 1) L s h cs sl
  | .iand => (i2 st fun x y => some (vI (iAnd x y))).bind fun s => nx (i + 1) L s h cs sl
  | .ior => (i2 st fun x y => some (vI (iOr x y))).bind fun s => nx (i + 1) L s h cs sl
  | .ixor => (i2 st fun x y => some (vI (iXor x y))).bind fun s => nx (i + 1) L s h cs sl
  | .ishl => (i2 st fun x y => some (vI (iShl x y))).bind fun s => nx (i + 1) L s h cs sl
  | .ishr => (i2 st fun x y => some (vI (iShr x y))).bind fun s => nx (i + 1) L s h cs sl
  | .iushr => (i2 st fun x y => some (vI (iUshr x y))).bind fun s => nx (i + 1) L s h cs sl
  | .ladd => (l2 st fun x y => some (vL (x + y))).bind fun s => nx (i + 1) L s h cs sl
  | .lsub => (l2 st fun x y => some (vL (x - y))).bind fun s => nx (i + 1) L s h cs sl
  | .lmul => (l2 st fun x y => some (vL (x * y))).bind fun s => nx (i + 1) L s h cs sl
  | .lor => (l2 st fun x y => some (vL (lOr x y))).bind fun s => nx (i + 1) L s h cs sl
  | .lshl => (li2 st fun x y => some (vL (lShl x y))).bind fun s => nx (i + 1) L s h cs sl
  | .lshr => (li2 st fun x y => some (vL (lShr x y))).bind fun s => nx (i + 1) L s h cs sl
  | .lcmp => (l2 st fun x y => some (vI (lCmp x y))).bind fun s => nx (i + 1) L s h cs sl
  | .ineg => match st with
    | .inl x :: r => nx (i + 1) L (vI (-x) :: r) h cs sl
    | _ => none
  | .i2l => match st with
    | .inl x :: r => nx (i + 1) L (vL (iI2l x) :: r) h cs sl
    | _ => none
  | .l2i => match st with
    | .inr (.inl x) :: r => nx (i + 1) L (vI (iL2i x) :: r) h cs sl
    | _ => none
  | .dup => match st with
    | .inl x :: r => nx (i + 1) L (vI x :: vI x :: r) h cs sl
    | .inr (.inr (some x)) :: r => nx (i + 1) L (vR (some x) :: vR (some x) :: r) h cs sl
    | _ => none
  | .dup2 => match st with
    | .inl x :: .inr (.inr (some y)) :: r => nx (i + 1) L (vI x :: vR (some y) :: vI x :: vR (some y) :: r) h cs sl
    | _ => none
  | .pop => match st with
    | .inl _ :: r => nx (i + 1) L r h cs sl
    | _ => none
  | .goto _ => nx (ord ar 0) L st h cs sl
  | .ifCond cd _ => match st with
    | .inl x :: r => nx (if iCmp cd x 0 = true then ord ar 0 else i + 1) L r h cs sl
    | _ => none
  | .if_icmp cd _ => match st with
    | .inl y :: .inl x :: r => nx (if iCmp cd x y = true then ord ar 0 else i + 1) L r h cs sl
    | _ => none
  | .tableswitch _ lo hi _ => match st with
    | .inl x :: r => nx (if (Int32.ofInt x).toInt < lo ∨ hi < (Int32.ofInt x).toInt then ord ar 0 else ord ar (1 + ((Int32.ofInt x).toInt - lo).toNat)) L r h cs sl
    | _ => none
  | .lookupswitch _ ps => match st with
    | .inl x :: r => nx (match ps.toList.findIdx? (fun p => p.1 == (Int32.ofInt x).toInt) with
      | some k => ord ar (k + 1)
      | none => ord ar 0) L r h cs sl
    | _ => none
  | .getfield _ => match st with
    | .inr (.inr (some c)) :: r => (hObj h c (ord ar 0)).bind fun fs => match fs[ord ar 1]? with
      | some v => nx (i + 1) L (v :: r) h cs sl
      | none => none
    | _ => none
  | .putfield _ => match st with
    | v :: .inr (.inr (some c)) :: r => (hObj h c (ord ar 0)).bind fun fs => if ord ar 1 < fs.length ∧ fitF (ord ar 2) v = true then nx (i + 1) L r (h.set c (.inr (ord ar 0, fs.set (ord ar 1) v))) cs sl else none
    | _ => none
  | .getstatic _ => if 11 ≤ ord ar 0 ∧ ord ar 0 < 14 then nx (i + 1) L (vR (some (PK + ord ar 0)) :: st) h cs sl else none
  | .iaload => match st with
    | .inl j :: .inr (.inr (some c)) :: r => (xInt X h c).bind fun a => (at2 a.1 a.2 j).bind fun x => nx (i + 1) L (vI x :: r) h cs sl
    | _ => none
  | .baload => match st with
    | .inl j :: .inr (.inr (some c)) :: r => (hInt .boolean h c).bind fun a => (at2 a.1 a.2 j).bind fun x => nx (i + 1) L (vI x :: r) h cs sl
    | _ => none
  | .laload => match st with
    | .inl j :: .inr (.inr (some c)) :: r => (hLong h c).bind fun a => (at2 a.1 a.2 j).bind fun x => nx (i + 1) L (vL x :: r) h cs sl
    | _ => none
  | .aaload => match st with
    | .inl j :: .inr (.inr (some c)) :: r => (hRef h c).bind fun a => if 0 ≤ j ∧ j < a.2.1 ∧ a.1 = .object ((vwCl.getD (ord ar 0) (RX0, TX0, 7)).1) then nx (i + 1) L (vR (a.2.2 j.toNat) :: r) h cs sl else none
    | _ => none
  | .iastore => match st with
    | .inl x :: .inl j :: .inr (.inr (some c)) :: r => (hInt .int h c).bind fun a => if 0 ≤ j ∧ j < a.1 then nx (i + 1) L r (h.set c (.inl (.int, a.1, .inl (up a.2 j.toNat x)))) cs sl else none
    | _ => none
  | .bastore => match st with
    | .inl x :: .inl j :: .inr (.inr (some c)) :: r => (hInt .boolean h c).bind fun a => if 0 ≤ j ∧ j < a.1 ∧ (x = 0 ∨ x = 1) then nx (i + 1) L r (h.set c (.inl (.boolean, a.1, .inl (up a.2 j.toNat x)))) cs sl else none
    | _ => none
  | .lastore => match st with
    | .inr (.inl x) :: .inl j :: .inr (.inr (some c)) :: r => (hLong h c).bind fun a => if 0 ≤ j ∧ j < a.1 then nx (i + 1) L r (h.set c (.inl (.long, a.1, .inr (.inl (up a.2 j.toNat x))))) cs sl else none
    | _ => none
  | .aastore => match st with
    | .inr (.inr (some v)) :: .inl j :: .inr (.inr (some c)) :: r => (hRef h c).bind fun a => if 0 ≤ j ∧ j < a.2.1 ∧ (hObj h v (ord ar 0)).isSome = true ∧ a.1 = .object ((vwCl.getD (ord ar 0) (RX0, TX0, 7)).1) ∧ ord ar 0 < 12 then nx (i + 1) L r (h.set c (.inl (a.1, a.2.1, .inr (.inr (up a.2.2 j.toNat (some v)))))) cs sl else none
    | _ => none
  | .arraylength => match st with
    | .inr (.inr (some c)) :: r => (xInt X h c).bind fun a => nx (i + 1) L (vI a.1 :: r) h cs sl
    | _ => none
  | .newarray at_ => match st with
    | .inl n :: r => if 0 ≤ n ∧ n ≤ 100000 ∧ h.length < PK then (match at_ with
      | .int => nx (i + 1) L (vR (some h.length) :: r) (h ++ [.inl (.int, n.toNat, .inl fun _ => 0)]) (cs + 1) (sl + n.toNat)
      | .boolean => nx (i + 1) L (vR (some h.length) :: r) (h ++ [.inl (.boolean, n.toNat, .inl fun _ => 0)]) (cs + 1) (sl + n.toNat)
      | .long => nx (i + 1) L (vR (some h.length) :: r) (h ++ [.inl (.long, n.toNat, .inr (.inl fun _ => 0))]) (cs + 1) (sl + n.toNat)
      | _ => none) else none
    | _ => none
  | .anewarray _ => match st with
    | .inl n :: r => if 0 ≤ n ∧ n ≤ 100000 ∧ h.length < PK ∧ ord ar 0 < 12 then nx (i + 1) L (vR (some h.length) :: r) (h ++ [.inl (.object ((vwCl.getD (ord ar 0) (RX0, TX0, 7)).1), n.toNat, .inr (.inr fun _ => none))]) (cs + 1) (sl + n.toNat) else none
    | _ => none
  | .new _ => if h.length < PK then nx (i + 1) L (vR (some h.length) :: st) (h ++ [.inr (ord ar 0, fdef (ar.drop 1))]) (cs + 1) (sl + (ar.drop 1).length) else none
  | .ireturn => match st with
    | [.inl x] => if cs = ord ar 1 ∧ sl = ord ar 2 ∧ (ord ar 0 = 0 ∨ x = 0 ∨ x = 1) then some (.inr (.inl (some (vI x)))) else none
    | _ => none
  | .lreturn => match st with
    | [.inr (.inl x)] => if cs = ord ar 1 ∧ sl = ord ar 2 then some (.inr (.inl (some (vL x)))) else none
    | _ => none
  | .return_ => match st with
    | [] => if cs = ord ar 1 ∧ sl = ord ar 2 then some (.inr (.inl none)) else none
    | _ => none
  | .invokevirtual _ => if ord ar 0 = 902 then (match st with
      | .inr (.inr (some c)) :: r => if PK ≤ c ∧ c < PK + 11 ∧ catS r ≤ 8 then nx (i + 1) L (vI (X (c - PK)).1 :: r) h cs sl else none
      | _ => none)
    else if ord ar 0 = 903 then (match st with
      | .inl j :: .inr (.inr (some c)) :: r => if PK ≤ c ∧ c < PK + 11 ∧ catS r ≤ 8 then (at2 (X (c - PK)).1 (X (c - PK)).2 j).bind fun x => nx (i + 1) L (vI x :: r) h cs sl else none
      | _ => none)
    else match st.drop (ord ar 1) with
      | .inr (.inr (some c)) :: r => if (hObj h c (ord ar 2)).isSome = true ∧ catS r ≤ 8 then some (.inr (.inr (ord ar 0, vR (some c) :: (st.take (ord ar 1)).reverse, r))) else none
      | _ => none
  | .invokespecial _ => match st.drop (ord ar 1) with
    | .inr (.inr (some c)) :: r => if ord ar 0 = 900 then (if catS r ≤ 8 ∧ ord ar 1 = 0 then nx (i + 1) L r h cs sl else none) else if catS r ≤ 8 then some (.inr (.inr (ord ar 0, vR (some c) :: (st.take (ord ar 1)).reverse, r))) else none
    | _ => none
  | .invokestatic _ => if ord ar 0 = 901 then (match st with
      | .inl n :: .inl dp :: .inr (.inr (some d)) :: .inl sp :: .inr (.inr (some s)) :: r => (hInt .int h s).bind fun a => (hInt .int h d).bind fun b =>
        if 0 ≤ sp ∧ 0 ≤ dp ∧ 0 ≤ n ∧ sp + n ≤ a.1 ∧ dp + n ≤ b.1 ∧ a.1 ≤ 100000 ∧ b.1 ≤ 100000 ∧ catS r ≤ 8 then nx (i + 1) L r (h.set d (.inl (.int, b.1, .inl (cpy a.2 b.2 sp.toNat dp.toNat n.toNat)))) cs sl else none
      | _ => none)
    else if ord ar 0 = 904 then (match st with
      | .inl y :: .inl x :: r => if catS r ≤ 8 then nx (i + 1) L (vI (if Int32.ofInt x < Int32.ofInt y then y else x) :: r) h cs sl else none
      | _ => none)
    else if ord ar 0 = 905 then (match st with
      | .inl y :: .inl x :: r => if catS r ≤ 8 then nx (i + 1) L (vI (if Int32.ofInt y < Int32.ofInt x then y else x) :: r) h cs sl else none
      | _ => none)
    else if ord ar 0 = 906 then (match st with
      | .inl x :: r => if catS r ≤ 8 then nx (i + 1) L (vI (if Int32.ofInt x < 0 then -x else x) :: r) h cs sl else none
      | _ => none)
    else if ord ar 1 ≤ st.length ∧ catS (st.drop (ord ar 1)) ≤ 8 then some (.inr (.inr (ord ar 0, (st.take (ord ar 1)).reverse, st.drop (ord ar 1)))) else none
  | _ => none
/-- the locals at a method's entry: a long takes two -/
def pargs : List PV → PL
  | [] => []
  | .inr (.inl x) :: r => some (vL x) :: none :: pargs r
  | v :: r => some v :: pargs r
def pent (mL : Nat) (as : List PV) : PL := pargs as ++ List.replicate (mL - (pargs as).length) none
/-- a run: fuel, the code of each method with its number of locals, its made cells and slots -/
def run (X : PX) (cd : Nat → List PEn) (mi : Nat → Nat × Nat × Nat) : Nat → Nat → PC → Option (Option PV × PHp)
  | 0, _, _ => none
  | n + 1, k, c => match (cd k)[c.1]? with
    | none => none
    | some e => match stp X e c with
      | none => none
      | some (.inl d) => if d.2.2.2.2.1 ≤ (mi k).2.1 ∧ d.2.2.2.2.2 ≤ (mi k).2.2 then run X cd mi n k d else none
      | some (.inr (.inl v)) => some (v, c.2.2.2.1)
      | some (.inr (.inr (k2, as, r))) => if c.2.2.2.2.1 + (mi k2).2.1 ≤ (mi k).2.1 ∧ c.2.2.2.2.2 + (mi k2).2.2 ≤ (mi k).2.2 ∧ (pargs as).length ≤ (mi k2).1 then (match run X cd mi n k2 (0, pent (mi k2).1 as, [], c.2.2.2.1, 0, 0) with
        | none => none
        | some (v, h) => run X cd mi n k (c.1 + 1, c.2.1, v.toList ++ r, h, c.2.2.2.2.1 + (mi k2).2.1, c.2.2.2.2.2 + (mi k2).2.2)) else none
