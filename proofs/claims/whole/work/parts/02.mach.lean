/-! THE SMALL MACHINE: names for the cells of a fixed world, a store of ints, and what a method's code does to them. A run of it that answers is a run of the machine (03, 05). -/
/-- a cell's name: kind of group, which group, place in the group -/
abbrev ZN : Type := Nat × Nat × Nat
/-- an int, a long, a cell -/
abbrev ZV : Type := Int32 ⊕ (Int64 ⊕ ZN)
abbrev ZS : Type := Nat → Nat → Nat → Nat → Int32
abbrev ZL : Type := List (Nat × ZV)
abbrev ZR : Type := Option (ZV × ZS)
abbrev zI (x : Int32) : ZV := .inl x
abbrev zJ (x : Int64) : ZV := .inr (.inl x)
abbrev zA (c g j : Nat) : ZV := .inr (.inr (c, g, j))
/-- an instruction: its place, itself, the next place, whether (and with which locals) a run stops ahead of it, and what its operands mean -/
abbrev ZX : Type := Nat × Nat × Nat × Int32 × Int64 × List (Int32 × Nat)
abbrev ZE : Type := Nat × Instr × Nat × Option (List Nat) × ZX
def zup (σ : ZS) (c g j i : Nat) (v : Int32) : ZS := fun c' g' j' i' => if c' = c ∧ j' = j ∧ g' = g ∧ i' = i then v else σ c' g' j' i'
/-- n ints of one row into another, from place 0 on -/
def zcpy (σ : ZS) (c g j c2 g2 j2 n : Nat) : ZS := fun c' g' j' i' => if c' = c2 ∧ j' = j2 ∧ g' = g2 ∧ i' < n then σ c g j i' else σ c' g' j' i'
/-- a place is looked at before it is used -/
def zck (i : Int32) (n : Nat) (k : ZR) : ZR := if i < 0 ∨ n ≤ i.toNatClampNeg then none else k
/-- a divisor is looked at -/
def zdv (y : Int32) (k : ZR) : ZR := if y = 0 then none else k
def zdvl (y : Int64) (k : ZR) : ZR := if y = 0 then none else k
/-- what a field of truth values takes -/
def zbb (y : Int32) (k : ZR) : ZR := if y = 0 ∨ y = 1 then k else none
/-- behind a call that answers an int, a long, nothing -/
def zbI (o : ZR) (k : Int32 → ZS → ZR) : ZR := match o with
  | some (.inl x, σ) => k x σ
  | _ => none
def zbJ (o : ZR) (k : Int64 → ZS → ZR) : ZR := match o with
  | some (.inr (.inl x), σ) => k x σ
  | _ => none
def zbV (o : ZR) (k : ZS → ZR) : ZR := match o with
  | some (_, σ) => k σ
  | _ => none
def zsw (x : Int32) (d : Nat) (k : Nat → ZR) : List (Int32 × Nat) → ZR
  | [] => k d
  | q :: r => if x = q.1 then k q.2 else zsw x d k r
def zget : ZL → Nat → Option ZV
  | [], _ => none
  | q :: r, i => match Nat.beq q.1 i with
    | true => some q.2
    | false => zget r i
def zlong : ZV → Bool
  | .inr (.inl _) => true
  | _ => false
def zdrop1 : ZL → Nat → ZL
  | [], _ => []
  | q :: r, i => match Nat.beq q.1 i || (Nat.beq (q.1 + 1) i && zlong q.2) with
    | true => zdrop1 r i
    | false => q :: zdrop1 r i
def zdrop2 : ZL → Nat → ZL
  | [], _ => []
  | q :: r, i => match Nat.beq q.1 i || (Nat.beq q.1 (i + 1) || (Nat.beq (q.1 + 1) i && zlong q.2)) with
    | true => zdrop2 r i
    | false => q :: zdrop2 r i
/-- the locals named, in that order -/
def zpick (ls : ZL) : List Nat → Option ZL
  | [] => some []
  | i :: r => match zget ls i, zpick ls r with
    | some v, some l => some ((i, v) :: l)
    | _, _ => none
def zargs : Nat → List ZV → ZL
  | _, [] => []
  | i, v :: r => (i, v) :: zargs (match zlong v with | true => i + 2 | false => i + 1) r
def zpop : Nat → List ZV → List ZV → Option (List ZV × List ZV)
  | 0, acc, st => some (acc, st)
  | _ + 1, _, [] => none
  | n + 1, acc, v :: st => zpop n (v :: acc) st
def zsum : List ZV → Nat
  | [] => 0
  | v :: r => (match zlong v with | true => 2 | false => 1) + zsum r
/-! THE FIXED WORLD: 0 SeatCast and what it has alone, 1 House (0 house, 1 trial, 2 draft, 3 and 4 images), 2 Sheet (0 to 3), 3 SeatCastModel; 4 the script, 5 ORDERS, 6 the String constants, 7 a formatter that nobody looks at. -/
/-- a cell that is an object: its class by number and 1 -/
def zok (c j : Nat) : Nat := match c, j with
  | 0, 0 => 7
  | 0, 4 => 3
  | 0, 5 => 6
  | 0, 7 => 2
  | 0, 9 => 4
  | 1, 0 => 1
  | 2, 0 => 5
  | 3, 0 => 8
  | 6, 0 => 9
  | _, _ => 0
/-- a row of cells: 1 ints, 2 bytes, 3 truth values, 4 Houses, 5 Sheets -/
def zty (c j : Nat) : Nat := match c with
  | 0 => (match j with | 1 => 4 | 2 => 3 | 3 => 5 | 6 => 2 | 8 => 1 | 10 => 1 | 11 => 1 | _ => 0)
  | 1 => (match j with | 0 => 0 | _ => 1)
  | 2 => (match j with | 0 => 0 | _ => 1)
  | 3 => (match j with | 0 => 0 | 3 => 3 | _ => 1)
  | 4 => 1
  | 5 => 1
  | 6 => (match j with | 0 => 0 | _ => 2)
  | _ => 0
def zls (c j : Nat) : Nat := match c with
  | 0 => (match j with | 1 => 2 | 2 => 2 | 3 => 4 | 6 => 160 | 8 => 8 | 10 => 4 | 11 => 4 | _ => 0)
  | 1 => (match j with | 1 => 12 | 2 => 12 | 3 => 12 | 4 => 4 | 5 => 4 | 6 => 4 | 7 => 4 | 8 => 8 | 9 => 8 | 10 => 8 | _ => 0)
  | 2 => (match j with | 1 => 40 | _ => 0)
  | 3 => (match j with | 1 => 162 | 2 => 54 | 3 => 2 | 4 => 8 | 5 => 54 | 6 => 8 | 7 => 160 | 8 => 8 | 9 => 4 | 10 => 4 | 11 => 160 | 12 => 4 | _ => 0)
  | _ => 0
/-- how long a row of cells is -/
def zln (σ : ZS) (c g j : Nat) : Nat := match Nat.blt c 4 with
  | true => zls c j
  | false => (σ c g (j + 1) 0).toNatClampNeg
/-- the fields that hold cells, and which -/
def zrf (c g j k : Nat) : Option ZN := match c with
  | 0 => (match j with
    | 0 => (match k with | 0 => some (0, 0, 4) | 1 => some (0, 0, 5) | 2 => some (1, 0, 0) | 3 => some (1, 1, 0) | 4 => some (0, 0, 7) | 5 => some (0, 0, 9) | 6 => some (0, 0, 1) | 7 => some (0, 0, 2) | 8 => some (0, 0, 3) | _ => none)
    | 4 => (match k with | 0 => some (0, 0, 5) | 1 => some (1, 2, 0) | _ => none)
    | 5 => (match k with | 0 => some (0, 0, 6) | _ => none)
    | 7 => (match k with | 0 => some (0, 0, 8) | _ => none)
    | 9 => (match k with | 0 => some (0, 0, 10) | 1 => some (0, 0, 11) | _ => none)
    | _ => none)
  | 1 => (match k with | 7 => some (1, g, 1) | 8 => some (1, g, 2) | 9 => some (1, g, 3) | 10 => some (1, g, 4) | 11 => some (1, g, 5) | 12 => some (1, g, 6) | 13 => some (1, g, 7) | 14 => some (1, g, 8) | 15 => some (1, g, 9) | 16 => some (1, g, 10) | _ => none)
  | 2 => (match k with | 0 => some (2, g, 1) | _ => none)
  | 3 => (match k with | 0 => some (3, 0, 1) | 1 => some (3, 0, 2) | 2 => some (3, 0, 3) | 7 => some (3, 0, 4) | 8 => some (3, 0, 5) | 13 => some (3, 0, 6) | 18 => some (3, 0, 7) | 26 => some (3, 0, 8) | 27 => some (3, 0, 9) | 28 => some (3, 0, 10) | 29 => some (3, 0, 11) | 31 => some (3, 0, 12) | _ => none)
  | 6 => (match k with | 0 => some (6, g, 1) | _ => none)
  | _ => none
/-- the cells of a row of cells -/
def zra (j k : Nat) : ZN := match j with
  | 1 => (1, 3 + k, 0)
  | _ => (2, k, 0)
/-- a row's copy is in bounds -/
def zarr (x : Int32) (y : Int32) (n : Int32) (a b : Nat) : Bool := decide (x = 0) && (decide (y = 0) && (!decide (n < 0) && (Nat.ble n.toNatClampNeg a && Nat.ble n.toNatClampNeg b)))
/-! what is taken off the stack, or out of a local -/
def zpI (st : List ZV) (f : Int32 → List ZV → ZR) : ZR := match st with
  | .inl a :: r => f a r
  | _ => none
def zpJ (st : List ZV) (f : Int64 → List ZV → ZR) : ZR := match st with
  | .inr (.inl a) :: r => f a r
  | _ => none
def zpA (st : List ZV) (f : ZN → List ZV → ZR) : ZR := match st with
  | .inr (.inr a) :: r => f a r
  | _ => none
def ztr (b : Bool) (k : ZR) : ZR := match b with
  | true => k
  | false => none
def zp1 (st : List ZV) (f : ZV → List ZV → ZR) : ZR := match st with
  | v :: r => ztr (!zlong v) (f v r)
  | [] => none
def zpE (st : List ZV) (k : ZR) : ZR := match st with
  | [] => k
  | _ => none
def zgI (ls : ZL) (i : Nat) (f : Int32 → ZR) : ZR := match zget ls i with
  | some (.inl v) => f v
  | _ => none
def zgJ (ls : ZL) (i : Nat) (f : Int64 → ZR) : ZR := match zget ls i with
  | some (.inr (.inl v)) => f v
  | _ => none
def zgA (ls : ZL) (i : Nat) (f : ZN → ZR) : ZR := match zget ls i with
  | some (.inr (.inr v)) => f v
  | _ => none
def zpn (n : Nat) (st : List ZV) (f : List ZV → List ZV → ZR) : ZR := match zpop n [] st with
  | some q => f q.1 q.2
  | none => none
def zcl (kind : Nat) (o : ZR) (f : Option ZV → ZS → ZR) : ZR := match kind with
  | 0 => zbV o (fun σ => f none σ)
  | 1 => zbI o (fun v σ => f (some (.inl v)) σ)
  | 2 => zbJ o (fun v σ => f (some (.inr (.inl v))) σ)
  | _ => none
def zpu (o : Option ZV) (st : List ZV) : List ZV := match o with
  | some v => v :: st
  | none => st
/-! values -/
def zlv (x : ZX) : ZV := match x.2.1 with
  | 0 => .inl x.2.2.2.1
  | _ => zA 6 x.1 0
def zsv (k : Nat) : ZV := match k with
  | 0 => zA 5 0 0
  | 1 => zI 1
  | _ => zA 7 0 0
def zfv (σ : ZS) (n : ZN) (k : Nat) : ZV := match zrf n.1 n.2.1 n.2.2 k with
  | some t => .inr (.inr t)
  | none => .inl (σ n.1 n.2.1 n.2.2 k)
def zbs (t : Nat) (v : Int32) : Int32 := match t with
  | 2 => v.toInt8.toInt32
  | _ => v &&& 1
/-- what a method's answer must fit: 0 int, 1 truth value, 2 byte, 3 char -/
def zrt (k : Nat) (v : Int32) (r : ZR) : ZR := match k with
  | 0 => r
  | 1 => zbb v r
  | 2 => if v.toInt8.toInt32 = v then r else none
  | _ => if (v.toUInt32 % 65536).toInt32 = v then r else none
/-- a field of truth values -/
def zft (k : Nat) (v : Int32) (r : ZR) : ZR := match k with
  | 0 => r
  | _ => zbb v r
/-- of a call: how many locals the callee has; its class by number and 1 -/
def znl0 (x : ZX) : Nat := match x.2.2.2.2.2 with
  | q :: _ => q.2
  | [] => 0
def zrc0 (x : ZX) : Nat := match x.2.2.2.2.2 with
  | _ :: q :: _ => q.2
  | _ => 0
def zrv (as : List ZV) (k : Nat) : Bool := match as with
  | .inr (.inr n) :: _ => Nat.beq (zok n.1 n.2.2) k
  | _ => false
def zsem (C : Nat → List ZV → ZS → ZR) (i : Instr) (nx : Nat) (x : ZX) (ls : ZL) (st : List ZV) (σ : ZS) (K : Nat → ZL → List ZV → ZS → ZR) : ZR :=
  match i with
  | .iconst _ => K nx ls (zI x.2.2.2.1 :: st) σ
  | .bipush _ => K nx ls (zI x.2.2.2.1 :: st) σ
  | .sipush _ => K nx ls (zI x.2.2.2.1 :: st) σ
  | .ldc _ => K nx ls (zlv x :: st) σ
  | .ldc_w _ => K nx ls (zI x.2.2.2.1 :: st) σ
  | .ldc2_w _ => K nx ls (zJ x.2.2.2.2.1 :: st) σ
  | .lconst _ => K nx ls (zJ x.2.2.2.2.1 :: st) σ
  | .iload _ => zgI ls x.1 fun v => K nx ls (.inl v :: st) σ
  | .iload_n _ => zgI ls x.1 fun v => K nx ls (.inl v :: st) σ
  | .lload _ => zgJ ls x.1 fun v => K nx ls (.inr (.inl v) :: st) σ
  | .lload_n _ => zgJ ls x.1 fun v => K nx ls (.inr (.inl v) :: st) σ
  | .aload _ => zgA ls x.1 fun v => K nx ls (.inr (.inr v) :: st) σ
  | .aload_n _ => zgA ls x.1 fun v => K nx ls (.inr (.inr v) :: st) σ
  | .istore _ => zpI st fun v r => K nx ((x.1, .inl v) :: zdrop1 ls x.1) r σ
  | .istore_n _ => zpI st fun v r => K nx ((x.1, .inl v) :: zdrop1 ls x.1) r σ
  | .lstore _ => zpJ st fun v r => K nx ((x.1, .inr (.inl v)) :: zdrop2 ls x.1) r σ
  | .lstore_n _ => zpJ st fun v r => K nx ((x.1, .inr (.inl v)) :: zdrop2 ls x.1) r σ
  | .astore _ => zpA st fun v r => ztr (Nat.blt v.1 7) (K nx ((x.1, .inr (.inr v)) :: zdrop1 ls x.1) r σ)
  | .astore_n _ => zpA st fun v r => ztr (Nat.blt v.1 7) (K nx ((x.1, .inr (.inr v)) :: zdrop1 ls x.1) r σ)
  | .iinc _ _ => zgI ls x.1 fun v => K nx ((x.1, .inl (v + x.2.2.2.1)) :: zdrop1 ls x.1) st σ
  | .pop => zpI st fun _ r => K nx ls r σ
  | .dup => zp1 st fun v r => K nx ls (v :: v :: r) σ
  | .dup2 => zp1 st fun v r => zp1 r fun w r => K nx ls (v :: w :: v :: w :: r) σ
  | .iadd => zpI st fun b r => zpI r fun a r => K nx ls (.inl (a + b) :: r) σ
  | .isub => zpI st fun b r => zpI r fun a r => K nx ls (.inl (a - b) :: r) σ
  | .imul => zpI st fun b r => zpI r fun a r => K nx ls (.inl (a * b) :: r) σ
  | .iand => zpI st fun b r => zpI r fun a r => K nx ls (.inl (a &&& b) :: r) σ
  | .ior => zpI st fun b r => zpI r fun a r => K nx ls (.inl (a ||| b) :: r) σ
  | .ixor => zpI st fun b r => zpI r fun a r => K nx ls (.inl (a ^^^ b) :: r) σ
  | .ishl => zpI st fun b r => zpI r fun a r => K nx ls (.inl (a <<< (b &&& 31)) :: r) σ
  | .ishr => zpI st fun b r => zpI r fun a r => K nx ls (.inl (a >>> (b &&& 31)) :: r) σ
  | .iushr => zpI st fun b r => zpI r fun a r => K nx ls (.inl (a.toUInt32 >>> (b.toUInt32 &&& Int32.toUInt32 31)).toInt32 :: r) σ
  | .ineg => zpI st fun a r => K nx ls (.inl (-a) :: r) σ
  | .idiv => zpI st fun b r => zpI r fun a r => zdv b (K nx ls (.inl (a / b) :: r) σ)
  | .irem => zpI st fun b r => zpI r fun a r => zdv b (K nx ls (.inl (a - a / b * b) :: r) σ)
  | .ladd => zpJ st fun b r => zpJ r fun a r => K nx ls (.inr (.inl (a + b)) :: r) σ
  | .lmul => zpJ st fun b r => zpJ r fun a r => K nx ls (.inr (.inl (a * b)) :: r) σ
  | .ldiv => zpJ st fun b r => zpJ r fun a r => zdvl b (K nx ls (.inr (.inl (a / b)) :: r) σ)
  | .lrem => zpJ st fun b r => zpJ r fun a r => zdvl b (K nx ls (.inr (.inl (a - a / b * b)) :: r) σ)
  | .lneg => zpJ st fun a r => K nx ls (.inr (.inl (-a)) :: r) σ
  | .lcmp => zpJ st fun b r => zpJ r fun a r => K nx ls (.inl (lg_cmp a b) :: r) σ
  | .i2l => zpI st fun a r => K nx ls (.inr (.inl a.toInt64) :: r) σ
  | .i2b => zpI st fun a r => K nx ls (.inl a.toInt8.toInt32 :: r) σ
  | .i2s => zpI st fun a r => K nx ls (.inl a.toInt16.toInt32 :: r) σ
  | .i2c => zpI st fun a r => K nx ls (.inl (a.toUInt32 % 65536).toInt32 :: r) σ
  | .goto _ => K x.1 ls st σ
  | .ifCond .eq _ => zpI st fun a r => if a = 0 then K x.1 ls r σ else K nx ls r σ
  | .ifCond .ne _ => zpI st fun a r => if a = 0 then K nx ls r σ else K x.1 ls r σ
  | .ifCond .lt _ => zpI st fun a r => if a < 0 then K x.1 ls r σ else K nx ls r σ
  | .ifCond .ge _ => zpI st fun a r => if a < 0 then K nx ls r σ else K x.1 ls r σ
  | .ifCond .gt _ => zpI st fun a r => if 0 < a then K x.1 ls r σ else K nx ls r σ
  | .ifCond .le _ => zpI st fun a r => if 0 < a then K nx ls r σ else K x.1 ls r σ
  | .if_icmp .eq _ => zpI st fun b r => zpI r fun a r => if a = b then K x.1 ls r σ else K nx ls r σ
  | .if_icmp .ne _ => zpI st fun b r => zpI r fun a r => if a = b then K nx ls r σ else K x.1 ls r σ
  | .if_icmp .lt _ => zpI st fun b r => zpI r fun a r => if a < b then K x.1 ls r σ else K nx ls r σ
  | .if_icmp .ge _ => zpI st fun b r => zpI r fun a r => if a < b then K nx ls r σ else K x.1 ls r σ
  | .if_icmp .gt _ => zpI st fun b r => zpI r fun a r => if b < a then K x.1 ls r σ else K nx ls r σ
  | .if_icmp .le _ => zpI st fun b r => zpI r fun a r => if b < a then K nx ls r σ else K x.1 ls r σ
  | .tableswitch _ _ _ _ => zpI st fun a r => zsw a x.1 (fun t => K t ls r σ) x.2.2.2.2.2
  | .lookupswitch _ _ => zpI st fun a r => zsw a x.1 (fun t => K t ls r σ) x.2.2.2.2.2
  | .getfield _ => zpA st fun n r => ztr (Nat.beq (zok n.1 n.2.2) (x.1 + 1)) (K nx ls (zfv σ n x.2.1 :: r) σ)
  | .putfield _ => zpI st fun v r => zpA r fun n r => ztr (Nat.beq (zok n.1 n.2.2) (x.1 + 1) && (Nat.blt n.1 4 && (zrf n.1 n.2.1 n.2.2 x.2.1).isNone)) (zft x.2.2.1 v (K nx ls r (zup σ n.1 n.2.1 n.2.2 x.2.1 v)))
  | .getstatic _ => K nx ls (zsv x.1 :: st) σ
  | .iaload => zpI st fun i r => zpA r fun n r => ztr (Nat.beq (zty n.1 n.2.2) 1) (zck i (zln σ n.1 n.2.1 n.2.2) (K nx ls (.inl (σ n.1 n.2.1 n.2.2 i.toNatClampNeg) :: r) σ))
  | .baload => zpI st fun i r => zpA r fun n r => ztr (Nat.beq (zty n.1 n.2.2) 2 || Nat.beq (zty n.1 n.2.2) 3) (zck i (zln σ n.1 n.2.1 n.2.2) (K nx ls (.inl (σ n.1 n.2.1 n.2.2 i.toNatClampNeg) :: r) σ))
  | .iastore => zpI st fun v r => zpI r fun i r => zpA r fun n r => ztr (Nat.beq (zty n.1 n.2.2) 1 && Nat.blt n.1 4) (zck i (zln σ n.1 n.2.1 n.2.2) (K nx ls r (zup σ n.1 n.2.1 n.2.2 i.toNatClampNeg v)))
  | .bastore => zpI st fun v r => zpI r fun i r => zpA r fun n r => ztr ((Nat.beq (zty n.1 n.2.2) 2 || Nat.beq (zty n.1 n.2.2) 3) && Nat.blt n.1 4) (zck i (zln σ n.1 n.2.1 n.2.2) (K nx ls r (zup σ n.1 n.2.1 n.2.2 i.toNatClampNeg (zbs (zty n.1 n.2.2) v))))
  | .aaload => zpI st fun i r => zpA r fun n r => ztr (Nat.beq (zty n.1 n.2.2) 4 || Nat.beq (zty n.1 n.2.2) 5) (zck i (zln σ n.1 n.2.1 n.2.2) (K nx ls (.inr (.inr (zra n.2.2 i.toNatClampNeg)) :: r) σ))
  | .arraylength => zpA st fun n r => ztr (Nat.beq n.1 4 || Nat.beq n.1 6) (ztr (Nat.beq (zty n.1 n.2.2) 1 || Nat.beq (zty n.1 n.2.2) 2) (K nx ls (.inl (σ n.1 n.2.1 (n.2.2 + 1) 0) :: r) σ))
  | .invokestatic _ => (match x.2.2.1 with
    | 5 => zpI st fun n r => zpI r fun dp r => zpA r fun d r => zpI r fun sp r => zpA r fun a r =>
        ztr ((Nat.beq (zty a.1 a.2.2) 1 && (Nat.beq (zty d.1 d.2.2) 1 && (Nat.blt a.1 4 && Nat.blt d.1 4))) && (zarr sp dp n (zln σ a.1 a.2.1 a.2.2) (zln σ d.1 d.2.1 d.2.2) && Nat.ble (zsum r) 8)) (K nx ls r (zcpy σ a.1 a.2.1 a.2.2 d.1 d.2.1 d.2.2 n.toNatClampNeg))
    | 3 => zpI st fun a r => ztr (Nat.ble (zsum r) 8) (K nx ls (.inl (if 0 ≤ a then a else 0 - a) :: r) σ)
    | 4 => zpJ st fun a r => ztr (Nat.ble (zsum r) 8) (K nx ls (.inr (.inl (if 0 < a then a else -a)) :: r) σ)
    | k => zpn x.2.1 st fun as r => ztr (Nat.ble (zsum r) 8 && Nat.ble (zsum as) (znl0 x)) (zcl k (C x.1 as σ) fun v σ => K nx ls (zpu v r) σ))
  | .invokevirtual _ => zpn x.2.1 st fun as r => ztr (zrv as (zrc0 x) && (Nat.ble (zsum r) 8 && Nat.ble (zsum as) (znl0 x))) (zcl x.2.2.1 (C x.1 as σ) fun v σ => K nx ls (zpu v r) σ)
  | .ireturn => zpI st fun v r => zpE r (zrt x.1 v (some (.inl v, σ)))
  | .lreturn => zpJ st fun v r => zpE r (some (.inr (.inl v), σ))
  | .return_ => zpE st (some (.inl 0, σ))
  | _ => none
def zfind : List ZE → Nat → Option ZE
  | [], _ => none
  | e :: r, pc => match Nat.beq e.1 pc with
    | true => some e
    | false => zfind r pc
/-- from an instruction on, at most k of them, to an end or to where a run stops -/
def zrun (code : List ZE) (C : Nat → List ZV → ZS → ZR) (X : Nat → ZL → List ZV → ZS → ZR) : Nat → ZE → ZL → List ZV → ZS → ZR
  | 0, _, _, _, _ => none
  | k + 1, e, ls, st, σ => zsem C e.2.1 e.2.2.1 e.2.2.2.2 ls st σ (fun pc ls st σ => match zfind code pc with
    | some f => (match f.2.2.2.1 with
      | some lv => (match zpick ls lv with
        | some l => X pc l st σ
        | none => none)
      | none => zrun code C X k f ls st σ)
    | none => none)
/-- n: how many stops and calls deep -/
def zexec (codes : Nat → List ZE) : Nat → Nat → Nat → ZL → List ZV → ZS → ZR
  | 0, _, _, _, _, _ => none
  | n + 1, mi, pc, ls, st, σ => match zfind (codes mi) pc with
    | some e => zrun (codes mi) (fun m as σ => zexec codes n m 0 (zargs 0 as) [] σ) (zexec codes n mi) 600 e ls st σ
    | none => none
