/-! THE SMALL MACHINE: names for the cells of a fixed world, a store of ints, and what a method's code does to them. A run of it that answers is a run of the machine (03, 05). -/
/-- a cell's name: kind of group, which group, place in the group -/
abbrev ZN : Type := Nat × Nat × Nat
/-- an int, a long, a cell -/
abbrev ZV : Type := Int32 ⊕ (Int64 ⊕ ZN)
abbrev ZS : Type := Nat → Nat → Nat → Nat → Int32
abbrev ZL : Type := List (Nat × ZV)
abbrev ZR : Type := Option (ZV × ZS)
abbrev zI (x : Int32) : ZV := .inl x
abbrev zJ (x : Int64) : ZV := .inr (.inl x)
abbrev zA (c g j : Nat) : ZV := .inr (.inr (c, g, j))
/-- an instruction: its place, itself, the next place, whether (and with which locals) a run stops ahead of it, and what its operands mean -/
abbrev ZX : Type := Nat × Nat × Nat × Int32 × Int64 × List (Int32 × Nat)
abbrev ZE : Type := Nat × Instr × Nat × Option (List Nat) × ZX
def zup (σ : ZS) (c g j i : Nat) (v : Int32) : ZS := fun c' g' j' i' => if c' = c ∧ j' = j ∧ g' = g ∧ i' = i then v else σ c' g' j' i'
/-- n ints of one row into another, from place 0 on -/
def zcpy (σ : ZS) (c g j c2 g2 j2 n : Nat) : ZS := fun c' g' j' i' => if c' = c2 ∧ j' = j2 ∧ g' = g2 ∧ i' < n then σ c g j i' else σ c' g' j' i'
/-- a place is looked at before it is used -/
def zck (i : Int32) (n : Nat) (k : ZR) : ZR := if i < 0 ∨ n ≤ i.toNatClampNeg then none else k
/-- a divisor is looked at -/
def zdv (y : Int32) (k : ZR) : ZR := if y = 0 then none else k
def zdvl (y : Int64) (k : ZR) : ZR := if y = 0 then none else k
/-- what a field of truth values takes -/
def zbb (y : Int32) (k : ZR) : ZR := if y = 0 ∨ y = 1 then k else none
/-- behind a call that answers an int, a long, nothing -/
def zbI (o : ZR) (k : Int32 → ZS → ZR) : ZR := match o with
  | some (.inl x, σ) => k x σ
  | _ => none
def zbJ (o : ZR) (k : Int64 → ZS → ZR) : ZR := match o with
  | some (.inr (.inl x), σ) => k x σ
  | _ => none
def zbV (o : ZR) (k : ZS → ZR) : ZR := match o with
  | some (_, σ) => k σ
  | _ => none
def zsw (x : Int32) (d : Nat) (k : Nat → ZR) : List (Int32 × Nat) → ZR
  | [] => k d
  | q :: r => if x = q.1 then k q.2 else zsw x d k r
def zget : ZL → Nat → Option ZV
  | [], _ => none
  | q :: r, i => match Nat.beq q.1 i with
    | true => some q.2
    | false => zget r i
def zlong : ZV → Bool
  | .inr (.inl _) => true
  | _ => false
def zdrop1 : ZL → Nat → ZL
  | [], _ => []
  | q :: r, i => match Nat.beq q.1 i || (Nat.beq (q.1 + 1) i && zlong q.2) with
    | true => zdrop1 r i
    | false => q :: zdrop1 r i
def zdrop2 : ZL → Nat → ZL
  | [], _ => []
  | q :: r, i => match Nat.beq q.1 i || (Nat.beq q.1 (i + 1) || (Nat.beq (q.1 + 1) i && zlong q.2)) with
    | true => zdrop2 r i
    | false => q :: zdrop2 r i
/-- the locals named, in that order -/
def zpick (ls : ZL) : List Nat → Option ZL
  | [] => some []
  | i :: r => match zget ls i, zpick ls r with
    | some v, some l => some ((i, v) :: l)
    | _, _ => none
def zargs : Nat → List ZV → ZL
  | _, [] => []
  | i, v :: r => (i, v) :: zargs (match zlong v with | true => i + 2 | false => i + 1) r
def zpop : Nat → List ZV → List ZV → Option (List ZV × List ZV)
  | 0, acc, st => some (acc, st)
  | _ + 1, _, [] => none
  | n + 1, acc, v :: st => zpop n (v :: acc) st
def zsum : List ZV → Nat
  | [] => 0
  | v :: r => (match zlong v with | true => 2 | false => 1) + zsum r
/-! THE FIXED WORLD: 0 SeatCast and what it has alone, 1 House (0 house, 1 trial, 2 draft, 3 and 4 images), 2 Sheet (0 to 3), 3 SeatCastModel; 4 the script, 5 ORDERS, 6 the String constants, 7 a formatter that nobody looks at. -/
/-- a cell that is an object: its class by number and 1 -/
def zok (c j : Nat) : Nat := match c, j with
  | 0, 0 => 7
  | 0, 4 => 3
  | 0, 5 => 6
  | 0, 7 => 2
  | 0, 9 => 4
  | 1, 0 => 1
  | 2, 0 => 5
  | 3, 0 => 8
  | 6, 0 => 9
  | _, _ => 0
/-- a row of cells: 1 ints, 2 bytes, 3 truth values, 4 Houses, 5 Sheets -/
def zty (c j : Nat) : Nat := match c with
  | 0 => (match j with | 1 => 4 | 2 => 3 | 3 => 5 | 6 => 2 | 8 => 1 | 10 => 1 | 11 => 1 | _ => 0)
  | 1 => (match j with | 0 => 0 | _ => 1)
  | 2 => (match j with | 0 => 0 | _ => 1)
  | 3 => (match j with | 0 => 0 | 3 => 3 | _ => 1)
  | 4 => 1
  | 5 => 1
  | 6 => 2
  | _ => 0
def zln (σ : ZS) (c g j : Nat) : Nat := match c with
  | 0 => (match j with | 1 => 2 | 2 => 2 | 3 => 4 | 6 => 160 | 8 => 8 | 10 => 4 | 11 => 4 | _ => 0)
  | 1 => (match j with | 1 => 12 | 2 => 12 | 3 => 12 | 4 => 4 | 5 => 4 | 6 => 4 | 7 => 4 | 8 => 8 | 9 => 8 | 10 => 8 | _ => 0)
  | 2 => (match j with | 1 => 40 | _ => 0)
  | 3 => (match j with | 1 => 162 | 2 => 54 | 3 => 2 | 4 => 8 | 5 => 54 | 6 => 8 | 7 => 160 | 8 => 8 | 9 => 4 | 10 => 4 | 11 => 160 | 12 => 4 | _ => 0)
  | _ => (σ c g (j + 1) 0).toNatClampNeg
/-- the fields that hold cells, and which -/
def zrf (c g j k : Nat) : Option ZN := match c with
  | 0 => (match j with
    | 0 => (match k with | 0 => some (0, 0, 4) | 1 => some (0, 0, 5) | 2 => some (1, 0, 0) | 3 => some (1, 1, 0) | 4 => some (0, 0, 7) | 5 => some (0, 0, 9) | 6 => some (0, 0, 1) | 7 => some (0, 0, 2) | 8 => some (0, 0, 3) | _ => none)
    | 4 => (match k with | 0 => some (0, 0, 5) | 1 => some (1, 2, 0) | _ => none)
    | 5 => (match k with | 0 => some (0, 0, 6) | _ => none)
    | 7 => (match k with | 0 => some (0, 0, 8) | _ => none)
    | 9 => (match k with | 0 => some (0, 0, 10) | 1 => some (0, 0, 11) | _ => none)
    | _ => none)
  | 1 => (match k with | 7 => some (1, g, 1) | 8 => some (1, g, 2) | 9 => some (1, g, 3) | 10 => some (1, g, 4) | 11 => some (1, g, 5) | 12 => some (1, g, 6) | 13 => some (1, g, 7) | 14 => some (1, g, 8) | 15 => some (1, g, 9) | 16 => some (1, g, 10) | _ => none)
  | 2 => (match k with | 0 => some (2, g, 1) | _ => none)
  | 3 => (match k with | 0 => some (3, 0, 1) | 1 => some (3, 0, 2) | 2 => some (3, 0, 3) | 7 => some (3, 0, 4) | 8 => some (3, 0, 5) | 13 => some (3, 0, 6) | 18 => some (3, 0, 7) | 26 => some (3, 0, 8) | 27 => some (3, 0, 9) | 28 => some (3, 0, 10) | 29 => some (3, 0, 11) | 31 => some (3, 0, 12) | _ => none)
  | 6 => (match k with | 0 => some (6, g, 1) | _ => none)
  | _ => none
/-- the cells of a row of cells -/
def zra (j k : Nat) : ZN := match j with
  | 1 => (1, 3 + k, 0)
  | _ => (2, k, 0)
/-- a row's copy is in bounds -/
def zarr (x : Int32) (y : Int32) (n : Int32) (a b : Nat) : Bool := decide (x = 0) && (decide (y = 0) && (!decide (n < 0) && (Nat.ble n.toNatClampNeg a && Nat.ble n.toNatClampNeg b)))
def zsem (C : Nat → List ZV → ZS → ZR) (i : Instr) (nx : Nat) (x : ZX) (ls : ZL) (st : List ZV) (σ : ZS) (K : Nat → ZL → List ZV → ZS → ZR) : ZR :=
  match i with
  | .iconst _ => K nx ls (zI x.2.2.2.1 :: st) σ
  | .bipush _ => K nx ls (zI x.2.2.2.1 :: st) σ
  | .sipush _ => K nx ls (zI x.2.2.2.1 :: st) σ
  | .ldc _ => (match x.2.1 with | 0 => K nx ls (zI x.2.2.2.1 :: st) σ | _ => K nx ls (zA 6 x.1 0 :: st) σ)
  | .ldc_w _ => K nx ls (zI x.2.2.2.1 :: st) σ
  | .ldc2_w _ => K nx ls (zJ x.2.2.2.2.1 :: st) σ
  | .lconst _ => K nx ls (zJ x.2.2.2.2.1 :: st) σ
  | .iload _ => (match zget ls x.1 with | some (.inl v) => K nx ls (.inl v :: st) σ | _ => none)
  | .iload_n _ => (match zget ls x.1 with | some (.inl v) => K nx ls (.inl v :: st) σ | _ => none)
  | .lload _ => (match zget ls x.1 with | some (.inr (.inl v)) => K nx ls (.inr (.inl v) :: st) σ | _ => none)
  | .lload_n _ => (match zget ls x.1 with | some (.inr (.inl v)) => K nx ls (.inr (.inl v) :: st) σ | _ => none)
  | .aload _ => (match zget ls x.1 with | some (.inr (.inr v)) => K nx ls (.inr (.inr v) :: st) σ | _ => none)
  | .aload_n _ => (match zget ls x.1 with | some (.inr (.inr v)) => K nx ls (.inr (.inr v) :: st) σ | _ => none)
  | .istore _ => (match st with | .inl v :: r => K nx ((x.1, .inl v) :: zdrop1 ls x.1) r σ | _ => none)
  | .istore_n _ => (match st with | .inl v :: r => K nx ((x.1, .inl v) :: zdrop1 ls x.1) r σ | _ => none)
  | .lstore _ => (match st with | .inr (.inl v) :: r => K nx ((x.1, .inr (.inl v)) :: zdrop2 ls x.1) r σ | _ => none)
  | .lstore_n _ => (match st with | .inr (.inl v) :: r => K nx ((x.1, .inr (.inl v)) :: zdrop2 ls x.1) r σ | _ => none)
  | .astore _ => (match st with | .inr (.inr v) :: r => K nx ((x.1, .inr (.inr v)) :: zdrop1 ls x.1) r σ | _ => none)
  | .astore_n _ => (match st with | .inr (.inr v) :: r => K nx ((x.1, .inr (.inr v)) :: zdrop1 ls x.1) r σ | _ => none)
  | .iinc _ _ => (match zget ls x.1 with | some (.inl v) => K nx ((x.1, .inl (v + x.2.2.2.1)) :: zdrop1 ls x.1) st σ | _ => none)
  | .pop => (match st with | .inl _ :: r => K nx ls r σ | _ => none)
  | .dup => (match st with | .inl v :: r => K nx ls (.inl v :: .inl v :: r) σ | .inr (.inr v) :: r => K nx ls (.inr (.inr v) :: .inr (.inr v) :: r) σ | _ => none)
  | .dup2 => (match st with | .inl w :: .inr (.inr v) :: r => K nx ls (.inl w :: .inr (.inr v) :: .inl w :: .inr (.inr v) :: r) σ | _ => none)
  | .iadd => (match st with | .inl b :: .inl a :: r => K nx ls (.inl (a + b) :: r) σ | _ => none)
  | .isub => (match st with | .inl b :: .inl a :: r => K nx ls (.inl (a - b) :: r) σ | _ => none)
  | .imul => (match st with | .inl b :: .inl a :: r => K nx ls (.inl (a * b) :: r) σ | _ => none)
  | .iand => (match st with | .inl b :: .inl a :: r => K nx ls (.inl (a &&& b) :: r) σ | _ => none)
  | .ior => (match st with | .inl b :: .inl a :: r => K nx ls (.inl (a ||| b) :: r) σ | _ => none)
  | .ixor => (match st with | .inl b :: .inl a :: r => K nx ls (.inl (a ^^^ b) :: r) σ | _ => none)
  | .ishl => (match st with | .inl b :: .inl a :: r => K nx ls (.inl (a <<< (b &&& 31)) :: r) σ | _ => none)
  | .ishr => (match st with | .inl b :: .inl a :: r => K nx ls (.inl (a >>> (b &&& 31)) :: r) σ | _ => none)
  | .iushr => (match st with | .inl b :: .inl a :: r => K nx ls (.inl (a.toUInt32 >>> (b.toUInt32 &&& Int32.toUInt32 31)).toInt32 :: r) σ | _ => none)
  | .ineg => (match st with | .inl a :: r => K nx ls (.inl (-a) :: r) σ | _ => none)
  | .idiv => (match st with | .inl b :: .inl a :: r => zdv b (K nx ls (.inl (a / b) :: r) σ) | _ => none)
  | .irem => (match st with | .inl b :: .inl a :: r => zdv b (K nx ls (.inl (a - a / b * b) :: r) σ) | _ => none)
  | .ladd => (match st with | .inr (.inl b) :: .inr (.inl a) :: r => K nx ls (.inr (.inl (a + b)) :: r) σ | _ => none)
  | .lmul => (match st with | .inr (.inl b) :: .inr (.inl a) :: r => K nx ls (.inr (.inl (a * b)) :: r) σ | _ => none)
  | .ldiv => (match st with | .inr (.inl b) :: .inr (.inl a) :: r => zdvl b (K nx ls (.inr (.inl (a / b)) :: r) σ) | _ => none)
  | .lrem => (match st with | .inr (.inl b) :: .inr (.inl a) :: r => zdvl b (K nx ls (.inr (.inl (a - a / b * b)) :: r) σ) | _ => none)
  | .lneg => (match st with | .inr (.inl a) :: r => K nx ls (.inr (.inl (-a)) :: r) σ | _ => none)
  | .lcmp => (match st with | .inr (.inl b) :: .inr (.inl a) :: r => K nx ls (.inl (lg_cmp a b) :: r) σ | _ => none)
  | .i2l => (match st with | .inl a :: r => K nx ls (.inr (.inl a.toInt64) :: r) σ | _ => none)
  | .i2b => (match st with | .inl a :: r => K nx ls (.inl a.toInt8.toInt32 :: r) σ | _ => none)
  | .i2s => (match st with | .inl a :: r => K nx ls (.inl a.toInt16.toInt32 :: r) σ | _ => none)
  | .i2c => (match st with | .inl a :: r => K nx ls (.inl (a.toUInt32 % 65536).toInt32 :: r) σ | _ => none)
  | .goto _ => K x.1 ls st σ
  | .ifCond .eq _ => (match st with | .inl a :: r => if a = 0 then K x.1 ls r σ else K nx ls r σ | _ => none)
  | .ifCond .ne _ => (match st with | .inl a :: r => if a = 0 then K nx ls r σ else K x.1 ls r σ | _ => none)
  | .ifCond .lt _ => (match st with | .inl a :: r => if a < 0 then K x.1 ls r σ else K nx ls r σ | _ => none)
  | .ifCond .ge _ => (match st with | .inl a :: r => if a < 0 then K nx ls r σ else K x.1 ls r σ | _ => none)
  | .ifCond .gt _ => (match st with | .inl a :: r => if 0 < a then K x.1 ls r σ else K nx ls r σ | _ => none)
  | .ifCond .le _ => (match st with | .inl a :: r => if 0 < a then K nx ls r σ else K x.1 ls r σ | _ => none)
  | .if_icmp .eq _ => (match st with | .inl b :: .inl a :: r => if a = b then K x.1 ls r σ else K nx ls r σ | _ => none)
  | .if_icmp .ne _ => (match st with | .inl b :: .inl a :: r => if a = b then K nx ls r σ else K x.1 ls r σ | _ => none)
  | .if_icmp .lt _ => (match st with | .inl b :: .inl a :: r => if a < b then K x.1 ls r σ else K nx ls r σ | _ => none)
  | .if_icmp .ge _ => (match st with | .inl b :: .inl a :: r => if a < b then K nx ls r σ else K x.1 ls r σ | _ => none)
  | .if_icmp .gt _ => (match st with | .inl b :: .inl a :: r => if b < a then K x.1 ls r σ else K nx ls r σ | _ => none)
  | .if_icmp .le _ => (match st with | .inl b :: .inl a :: r => if b < a then K nx ls r σ else K x.1 ls r σ | _ => none)
  | .tableswitch _ _ _ _ => (match st with | .inl a :: r => zsw a x.1 (fun t => K t ls r σ) x.2.2.2.2.2 | _ => none)
  | .lookupswitch _ _ => (match st with | .inl a :: r => zsw a x.1 (fun t => K t ls r σ) x.2.2.2.2.2 | _ => none)
  | .getfield _ => (match st with
    | .inr (.inr n) :: r => (match Nat.beq (zok n.1 n.2.2) (x.1 + 1) with
      | true => (match zrf n.1 n.2.1 n.2.2 x.2.1 with
        | some t => K nx ls (.inr (.inr t) :: r) σ
        | none => K nx ls (.inl (σ n.1 n.2.1 n.2.2 x.2.1) :: r) σ)
      | false => none)
    | _ => none)
  | .putfield _ => (match st with
    | .inl v :: .inr (.inr n) :: r => (match Nat.beq (zok n.1 n.2.2) (x.1 + 1) && Nat.blt n.1 4 with
      | true => (match zrf n.1 n.2.1 n.2.2 x.2.1 with
        | some _ => none
        | none => (match x.2.2.1 with
          | 0 => K nx ls r (zup σ n.1 n.2.1 n.2.2 x.2.1 v)
          | _ => zbb v (K nx ls r (zup σ n.1 n.2.1 n.2.2 x.2.1 v))))
      | false => none)
    | _ => none)
  | .getstatic _ => (match x.1 with
    | 0 => K nx ls (zA 5 0 0 :: st) σ
    | 1 => K nx ls (zI 1 :: st) σ
    | _ => K nx ls (zA 7 0 0 :: st) σ)
  | .iaload => (match st with
    | .inl i :: .inr (.inr n) :: r => (match zty n.1 n.2.2 with
      | 1 => zck i (zln σ n.1 n.2.1 n.2.2) (K nx ls (.inl (σ n.1 n.2.1 n.2.2 i.toNatClampNeg) :: r) σ)
      | _ => none)
    | _ => none)
  | .baload => (match st with
    | .inl i :: .inr (.inr n) :: r => (match zty n.1 n.2.2 with
      | 2 => zck i (zln σ n.1 n.2.1 n.2.2) (K nx ls (.inl (σ n.1 n.2.1 n.2.2 i.toNatClampNeg) :: r) σ)
      | 3 => zck i (zln σ n.1 n.2.1 n.2.2) (K nx ls (.inl (σ n.1 n.2.1 n.2.2 i.toNatClampNeg) :: r) σ)
      | _ => none)
    | _ => none)
  | .iastore => (match st with
    | .inl v :: .inl i :: .inr (.inr n) :: r => (match zty n.1 n.2.2, Nat.blt n.1 4 with
      | 1, true => zck i (zln σ n.1 n.2.1 n.2.2) (K nx ls r (zup σ n.1 n.2.1 n.2.2 i.toNatClampNeg v))
      | _, _ => none)
    | _ => none)
  | .bastore => (match st with
    | .inl v :: .inl i :: .inr (.inr n) :: r => (match zty n.1 n.2.2, Nat.blt n.1 4 with
      | 2, true => zck i (zln σ n.1 n.2.1 n.2.2) (K nx ls r (zup σ n.1 n.2.1 n.2.2 i.toNatClampNeg v.toInt8.toInt32))
      | 3, true => zck i (zln σ n.1 n.2.1 n.2.2) (K nx ls r (zup σ n.1 n.2.1 n.2.2 i.toNatClampNeg (v &&& 1)))
      | _, _ => none)
    | _ => none)
  | .aaload => (match st with
    | .inl i :: .inr (.inr n) :: r => (match zty n.1 n.2.2 with
      | 4 => zck i (zln σ n.1 n.2.1 n.2.2) (K nx ls (.inr (.inr (zra n.2.2 i.toNatClampNeg)) :: r) σ)
      | 5 => zck i (zln σ n.1 n.2.1 n.2.2) (K nx ls (.inr (.inr (zra n.2.2 i.toNatClampNeg)) :: r) σ)
      | _ => none)
    | _ => none)
  | .arraylength => (match st with
    | .inr (.inr n) :: r => (match n.1 with
      | 4 => K nx ls (.inl (σ n.1 n.2.1 (n.2.2 + 1) 0) :: r) σ
      | 6 => K nx ls (.inl (σ n.1 n.2.1 (n.2.2 + 1) 0) :: r) σ
      | _ => none)
    | _ => none)
  | .invokestatic _ => (match x.2.2.1 with
    | 5 => (match st with
      | .inl n :: .inl dp :: .inr (.inr d) :: .inl sp :: .inr (.inr a) :: r => (match zty a.1 a.2.2, zty d.1 d.2.2, Nat.blt a.1 4 && (Nat.blt d.1 4 && (zarr sp dp n (zln σ a.1 a.2.1 a.2.2) (zln σ d.1 d.2.1 d.2.2) && Nat.ble (zsum r) 8)) with
        | 1, 1, true => K nx ls r (zcpy σ a.1 a.2.1 a.2.2 d.1 d.2.1 d.2.2 n.toNatClampNeg)
        | _, _, _ => none)
      | _ => none)
    | 3 => (match st with
      | .inl a :: r => (match Nat.ble (zsum r) 8 with | true => K nx ls (.inl (if 0 ≤ a then a else 0 - a) :: r) σ | false => none)
      | _ => none)
    | 4 => (match st with
      | .inr (.inl a) :: r => (match Nat.ble (zsum r) 8 with | true => K nx ls (.inr (.inl (if 0 < a then a else -a)) :: r) σ | false => none)
      | _ => none)
    | k => (match zpop x.2.1 [] st with
      | some (as, r) => (match Nat.ble (zsum r) 8, k with
        | true, 0 => zbV (C x.1 as σ) (fun σ => K nx ls r σ)
        | true, 1 => zbI (C x.1 as σ) (fun v σ => K nx ls (.inl v :: r) σ)
        | true, 2 => zbJ (C x.1 as σ) (fun v σ => K nx ls (.inr (.inl v) :: r) σ)
        | _, _ => none)
      | none => none))
  | .invokevirtual _ => (match zpop x.2.1 [] st with
      | some (as, r) => (match Nat.ble (zsum r) 8, x.2.2.1 with
        | true, 0 => zbV (C x.1 as σ) (fun σ => K nx ls r σ)
        | true, 1 => zbI (C x.1 as σ) (fun v σ => K nx ls (.inl v :: r) σ)
        | true, 2 => zbJ (C x.1 as σ) (fun v σ => K nx ls (.inr (.inl v) :: r) σ)
        | _, _ => none)
      | none => none)
  | .ireturn => (match st with
    | [.inl v] => (match x.1 with
      | 0 => some (.inl v, σ)
      | 1 => zbb v (some (.inl v, σ))
      | 2 => if v.toInt8.toInt32 = v then some (.inl v, σ) else none
      | _ => if (v.toUInt32 % 65536).toInt32 = v then some (.inl v, σ) else none)
    | _ => none)
  | .lreturn => (match st with | [.inr (.inl v)] => some (.inr (.inl v), σ) | _ => none)
  | .return_ => (match st with | [] => some (.inl 0, σ) | _ => none)
  | _ => none
def zfind : List ZE → Nat → Option ZE
  | [], _ => none
  | e :: r, pc => match Nat.beq e.1 pc with
    | true => some e
    | false => zfind r pc
/-- from an instruction on, at most k of them, to an end or to where a run stops -/
def zrun (code : List ZE) (C : Nat → List ZV → ZS → ZR) (X : Nat → ZL → List ZV → ZS → ZR) : Nat → ZE → ZL → List ZV → ZS → ZR
  | 0, _, _, _, _ => none
  | k + 1, e, ls, st, σ => zsem C e.2.1 e.2.2.1 e.2.2.2.2 ls st σ (fun pc ls st σ => match zfind code pc with
    | some f => (match f.2.2.2.1 with
      | some lv => (match zpick ls lv with
        | some l => X pc l st σ
        | none => none)
      | none => zrun code C X k f ls st σ)
    | none => none)
/-- n: how many stops and calls deep -/
def zexec (codes : Nat → List ZE) : Nat → Nat → Nat → ZL → List ZV → ZS → ZR
  | 0, _, _, _, _, _ => none
  | n + 1, mi, pc, ls, st, σ => match zfind (codes mi) pc with
    | some e => zrun (codes mi) (fun m as σ => zexec codes n m 0 (zargs 0 as) [] σ) (zexec codes n mi) 600 e ls st σ
    | none => none
