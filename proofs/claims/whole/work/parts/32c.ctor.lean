/-! CONSTRUCTORS (by wip/gen/gen32.py): SeatCast -/
def kz12 (a0 : Nat) (a1 : Nat) (a2 : Nat) (a3 : Nat) (a4 : Nat) (a5 : Nat) (a6 : Nat) (a7 : Nat) (a8 : Nat) (a9 : Nat) (a10 : Nat) (a11 : Nat) (j : Nat) : Nat := match j with
  | 0 => a0
  | 1 => a1
  | 2 => a2
  | 3 => a3
  | 4 => a4
  | 5 => a5
  | 6 => a6
  | 7 => a7
  | 8 => a8
  | 9 => a9
  | 10 => a10
  | _ => a11
def kz2 (a0 : Nat) (a1 : Nat) (j : Nat) : Nat := match j with
  | 0 => a0
  | _ => a1
def kz5u (a0 : Nat → Nat) (a1 : Nat → Nat) (a2 : Nat → Nat) (a3 : Nat → Nat) (a4 : Nat → Nat) (j : Nat) : Nat → Nat := match j with
  | 0 => a0
  | 1 => a1
  | 2 => a2
  | 3 => a3
  | _ => a4
def kz4u (a0 : Nat → Nat) (a1 : Nat → Nat) (a2 : Nat → Nat) (a3 : Nat → Nat) (j : Nat) : Nat → Nat := match j with
  | 0 => a0
  | 1 => a1
  | 2 => a2
  | _ => a3
def kz5t (a0 : Nat → Nat → Int32) (a1 : Nat → Nat → Int32) (a2 : Nat → Nat → Int32) (a3 : Nat → Nat → Int32) (a4 : Nat → Nat → Int32) (j : Nat) : Nat → Nat → Int32 := match j with
  | 0 => a0
  | 1 => a1
  | 2 => a2
  | 3 => a3
  | _ => a4
def kzad (us : Nat → Nat) (uh uq : Nat → Nat → Nat) (n : ZN) : Nat := match n.1 with
  | 0 => us n.2.2
  | 1 => uh n.2.1 n.2.2
  | _ => uq n.2.1 n.2.2
def kzq0 (k : Nat) : Int32 := match k with
  | 1 => -4
  | _ => 0
def kzq1 (j : Nat) : Nat → Int32 := match j with
  | 0 => kzq0
  | _ => fun _ => 0
def kzst (th : Nat → Nat → Nat → Int32) : ZS := fun c g j => match c with
  | 1 => th g j
  | 2 => kzq1 j
  | _ => fun _ => 0
def kzS : List ZN := [(0, 0, 0), (0, 0, 4), (0, 0, 5), (0, 0, 6), (1, 2, 0), (1, 2, 1), (1, 2, 2), (1, 2, 3), (1, 2, 4), (1, 2, 5), (1, 2, 6), (1, 2, 7), (1, 2, 8), (1, 2, 9), (1, 2, 10), (1, 0, 0), (1, 0, 1), (1, 0, 2), (1, 0, 3), (1, 0, 4), (1, 0, 5), (1, 0, 6), (1, 0, 7), (1, 0, 8), (1, 0, 9), (1, 0, 10), (1, 1, 0), (1, 1, 1), (1, 1, 2), (1, 1, 3), (1, 1, 4), (1, 1, 5), (1, 1, 6), (1, 1, 7), (1, 1, 8), (1, 1, 9), (1, 1, 10), (0, 0, 7), (0, 0, 8), (0, 0, 9), (0, 0, 10), (0, 0, 11), (0, 0, 1), (0, 0, 2), (1, 3, 0), (1, 3, 1), (1, 3, 2), (1, 3, 3), (1, 3, 4), (1, 3, 5), (1, 3, 6), (1, 3, 7), (1, 3, 8), (1, 3, 9), (1, 3, 10), (1, 4, 0), (1, 4, 1), (1, 4, 2), (1, 4, 3), (1, 4, 4), (1, 4, 5), (1, 4, 6), (1, 4, 7), (1, 4, 8), (1, 4, 9), (1, 4, 10), (0, 0, 3), (2, 0, 0), (2, 0, 1), (2, 1, 0), (2, 1, 1), (2, 2, 0), (2, 2, 1), (2, 3, 0), (2, 3, 1)]
/-- what the constructor of SeatCast leaves -/
def kzSP (σ : ZS) : Prop := zH0 (σ 1 0) ∧ (∀ j k, σ 0 0 j k = 0) ∧ ∀ g k, σ 2 g 0 k = kzq0 k ∧ σ 2 g 1 k = 0
def kzX (U : State) : Prop := va_AO "SeatCast$House" U ∧ va_AO "SeatCast$Sheet" U
theorem kzX_m : ∀ u U : State, u.vm.Alike U.vm → kzX u → kzX U := fun _ _ h x => ⟨va_AO.moved h x.1, va_AO.moved h x.2⟩
theorem kzS_eq {cA : Nat → ClassId} {h0 im kp sh r0 t0 t1 n0 n1 s0 s1 s2 x0 y0 x1 y1 x2 y2 x3 y3 : Nat} {u0 u1 u2 u3 u4 : Nat → Nat} {τ0 τ1 τ2 τ3 τ4 : Nat → Nat → Int32} : zws cA (kzad (kz12 h0 im kp sh r0 t0 t1 n0 n1 s0 s1 s2) (kz5u u0 u1 u2 u3 u4) (kz4u (kz2 x0 y0) (kz2 x1 y1) (kz2 x2 y2) (kz2 x3 y3))) kzS (kzst (kz5t τ0 τ1 τ2 τ3 τ4)) = ((((((([(h0, .inr (6, [.ref r0, .ref t0, .ref (u0 0), .ref (u1 0), .ref n0, .ref s0, .ref im, .ref kp, .ref sh, .int 0, .int 0])), (r0, .inr (2, [.ref t0, .ref (u2 0), .int 0, .int 0, .int 0, .int 0, .int 0, .int 0, .int 0, .int 0, .int 0, .int 0])), (t0, .inr (5, [.ref t1, .int 0])), (t1, .inl (cA 2, 160, .inl (fun _ => 0)))] ++ kzh cA u2 τ2) ++ kzh cA u0 τ0) ++ kzh cA u1 τ1) ++ [(n0, .inr (1, [.ref n1, .int 0])), (n1, .inl (cA 1, 8, .inl (fun _ => 0))), (s0, .inr (3, [.ref s1, .ref s2, .int 0, .int 0])), (s1, .inl (cA 1, 4, .inl (fun _ => 0))), (s2, .inl (cA 1, 4, .inl (fun _ => 0))), (im, .inl (cA 4, 2, .inr (.inr (.inr (.inr (fun k => some ((kzad (kz12 h0 im kp sh r0 t0 t1 n0 n1 s0 s1 s2) (kz5u u0 u1 u2 u3 u4) (kz4u (kz2 x0 y0) (kz2 x1 y1) (kz2 x2 y2) (kz2 x3 y3))) (zra 1 k)))))))), (kp, .inl (cA 3, 2, .inl (fun _ => 0)))]) ++ kzh cA u3 τ3) ++ kzh cA u4 τ4) ++ [(sh, .inl (cA 5, 4, .inr (.inr (.inr (.inr (fun k => some ((kzad (kz12 h0 im kp sh r0 t0 t1 n0 n1 s0 s1 s2) (kz5u u0 u1 u2 u3 u4) (kz4u (kz2 x0 y0) (kz2 x1 y1) (kz2 x2 y2) (kz2 x3 y3))) (zra 3 k)))))))), (x0, .inr (4, [.ref y0, .int (-4), .int 0])), (y0, .inl (cA 1, 40, .inl (fun _ => 0))), (x1, .inr (4, [.ref y1, .int (-4), .int 0])), (y1, .inl (cA 1, 40, .inl (fun _ => 0))), (x2, .inr (4, [.ref y2, .int (-4), .int 0])), (y2, .inl (cA 1, 40, .inl (fun _ => 0))), (x3, .inr (4, [.ref y3, .int (-4), .int 0])), (y3, .inl (cA 1, 40, .inl (fun _ => 0)))]) := rfl
