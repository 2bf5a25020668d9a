/-! the start of the law -/
theorem kd8_0 : decode code 0 = .ok (.new 7, 3) := by decide +kernel
theorem kd8_3 : decode code 3 = .ok (.dup, 1) := by decide +kernel
theorem kd8_4 : decode code 4 = .ok (.invokespecial 9, 3) := by decide +kernel
theorem kd8_7 : decode code 7 = .ok (.astore_n 1, 1) := by decide +kernel
theorem kd8_8 : decode code 8 = .ok (.new 10, 3) := by decide +kernel
theorem kd8_11 : decode code 11 = .ok (.dup, 1) := by decide +kernel
theorem kd8_12 : decode code 12 = .ok (.invokespecial 12, 3) := by decide +kernel
theorem kd8_15 : decode code 15 = .ok (.astore_n 2, 1) := by decide +kernel
theorem kd8_16 : decode code 16 = .ok (.iconst 0, 1) := by decide +kernel
theorem kd8_17 : decode code 17 = .ok (.istore_n 3, 1) := by decide +kernel
theorem kz_inst {s : State} {args : Array Value} (hts : ∀ w ∈ zTB, w.before args s = true) : ∀ q, q < 8 → (Cond.instantiable (zR q) (zfn q)).before args s = true := by
  intro q hq
  match q, hq with
  | 0, _ => exact hts (.instantiable RX0 17) (zTBm (i := 110) (by decide +kernel) rfl)
  | 1, _ => exact hts (.instantiable RX1 2) (zTBm (i := 253) (by decide +kernel) rfl)
  | 2, _ => exact hts (.instantiable RX2 12) (zTBm (i := 87) (by decide +kernel) rfl)
  | 3, _ => exact hts (.instantiable RX3 4) (zTBm (i := 268) (by decide +kernel) rfl)
  | 4, _ => exact hts (.instantiable RX4 3) (zTBm (i := 290) (by decide +kernel) rfl)
  | 5, _ => exact hts (.instantiable RX5 2) (zTBm (i := 93) (by decide +kernel) rfl)
  | 6, _ => exact hts (.instantiable RX6 11) (zTBm (i := 79) (by decide +kernel) rfl)
  | 7, _ => exact hts (.instantiable RX7 32) (zTBm (i := 890) (by decide +kernel) rfl)
  | q + 8, h => exact absurd h (Nat.not_lt.mpr (Nat.le_add_left _ _))
theorem kz_known {s : State} {args : Array Value} (hts : ∀ w ∈ zTB, w.before args s = true) : ∃ (dC : Nat → ClassId) (dI : Nat → Nat → Nat), ∀ (k : Nat) (q : vw_C), vwCl[k]? = some q → u_Kn s q.1 q.2.1 q.2.2 (dC k) (dI k) := by
  have h : ∀ q : Nat, ∃ r : ClassId × (Nat → Nat), q < 8 → u_Kn s (zR q) (zT q) (zfn q) r.1 r.2 := by
    intro q
    by_cases hq : q < 8
    · obtain ⟨cC, iS, h⟩ := u_known hts (zin q hq) (kz_inst hts q hq)
      exact ⟨(cC, iS), fun _ => h⟩
    · exact ⟨(0, fun _ => 0), fun h => absurd h hq⟩
  obtain ⟨f, hf⟩ := Classical.axiomOfChoice h
  refine ⟨fun q => (f q).1, fun q => (f q).2, fun k q hk => ?_⟩
  have hl : k < 8 := (List.getElem?_eq_some_iff.mp hk).1
  obtain rfl : (zR k, zT k, zfn k) = q := Option.some.inj ((zcl_at k hl).symm.trans hk)
  exact hf k hl
theorem kz_rows {s : State} {args : Array Value} (hts : ∀ w ∈ lw_tbl, w.before args s = true) : ∃ cA : Nat → ClassId, ∀ (k : Nat) (q : ClassId × FieldType), (ztys cA)[k]? = some q → ArrOfT s q.1 q.2 ∧ va_RA s q.1 q.2 := by
  have hz : ∀ {i : Nat} {w : Cond}, lw_tbl[i]? = some w → w.before args s = true := fun h => hts _ (List.mem_of_getElem? h)
  obtain ⟨c1, k1, m1, a1, a2, a3⟩ := Cond.arrayClass_spec (args := args) (first := s) (o := none) (s := s) (idx := []) (type := .int) (hz (i := 207) (w := .arrayClass .int) (by decide +kernel))
  obtain ⟨c2, k2, m2, b1, b2, b3⟩ := Cond.arrayClass_spec (args := args) (first := s) (o := none) (s := s) (idx := []) (type := .byte) (hz (i := 108) (w := .arrayClass .byte) (by decide +kernel))
  obtain ⟨c3, k3, m3, d1, d2, d3⟩ := Cond.arrayClass_spec (args := args) (first := s) (o := none) (s := s) (idx := []) (type := .boolean) (hz (i := 308) (w := .arrayClass .boolean) (by decide +kernel))
  obtain ⟨m4, c4, k4, e1, e2, e3, e4, e5⟩ := Cond.arrayOver_spec (args := args) (first := s) (o := none) (s := s) (idx := []) (n := "SeatCast$House") (hz (i := 287) (w := .arrayOver (.object "SeatCast$House")) (by decide +kernel))
  obtain ⟨m5, c5, k5, g1, g2, g3, g4, g5⟩ := Cond.arrayOver_spec (args := args) (first := s) (o := none) (s := s) (idx := []) (n := "SeatCast$Sheet") (hz (i := 289) (w := .arrayOver (.object "SeatCast$Sheet")) (by decide +kernel))
  refine ⟨fun k => match k with | 1 => c1 | 2 => c2 | 3 => c3 | 4 => c4 | _ => c5, fun k q hk => ?_⟩
  match k, hk with
  | 0, hk =>
    cases hk
    exact ⟨fun n z => ⟨fun k h => (by cases h), k1, a2, m1, a3⟩, a1⟩
  | 1, hk =>
    cases hk
    exact ⟨fun n z => ⟨fun k h => (by cases h), k2, b2, m2, b3⟩, b1⟩
  | 2, hk =>
    cases hk
    exact ⟨fun n z => ⟨fun k h => (by cases h), k3, d2, m3, d3⟩, d1⟩
  | 3, hk =>
    cases hk
    exact ⟨fun n z => ⟨fun k h => (by cases h), k4, e3, m4, e4⟩, k4, m4, e3, e4, e1, e5⟩
  | 4, hk =>
    cases hk
    exact ⟨fun n z => ⟨fun k h => (by cases h), k5, g3, m5, g4⟩, k5, m5, g3, g4, g1, g5⟩
  | k + 5, hk => simp [ztys] at hk
def kzw (ad1 : ZN → Nat) (u2 : Nat → Nat) (b o : Nat) (sK sV : Nat → Nat) (n : ZN) : Nat := match n.1 with
  | 0 => ad1 n
  | 1 => ad1 n
  | 2 => ad1 n
  | 3 => u2 n.2.2
  | 4 => b
  | 5 => o
  | _ => (match n.2.2 with | 0 => sK n.2.1 | _ => sV n.2.1)
def kzs (σ1 σ2 : ZS) (L : Nat) (xs : Nat → Int32) : ZS := fun c => match c with
  | 0 => σ1 0
  | 1 => σ1 1
  | 2 => σ1 2
  | 3 => σ2 3
  | c + 4 => kzro L xs (c + 4)
def kzN : List ZN := kzS ++ kzM
theorem kzN_b (c g j k : Nat) : zrf c g j (k + 32) = none := by
  match c with
  | 0 =>
    match j with
    | 0 => rfl
    | 1 => rfl
    | 2 => rfl
    | 3 => rfl
    | 4 => rfl
    | 5 => rfl
    | 6 => rfl
    | 7 => rfl
    | 8 => rfl
    | 9 => rfl
    | j + 10 => rfl
  | 1 => rfl
  | 2 => rfl
  | 3 => rfl
  | 4 => rfl
  | 5 => rfl
  | 6 => rfl
  | c + 7 => rfl
theorem kzN_1 : kzN.Nodup := by decide +kernel
theorem kzN_4 : ∀ n ∈ kzN, n.1 < 4 := by decide +kernel
theorem kzN_5 : ∀ n ∈ kzN, ∀ k, k < 32 → (match zrf n.1 n.2.1 n.2.2 k with | some t => decide (t ∈ kzN) | none => true) = true := by decide +kernel
theorem kzN_6 : ∀ n ∈ kzN, (zty n.1 n.2.2 = 4 ∨ zty n.1 n.2.2 = 5) → ∀ k, k < zln (fun _ _ _ _ => 0) n.1 n.2.1 n.2.2 → zra n.2.2 k ∈ kzN := by decide +kernel
theorem kzN_wf {cA : Nat → ClassId} {ad : ZN → Nat} {A : Nat → Prop} {σ : ZS} (hD : va_D A (zws cA ad kzN σ)) : zwf ad kzN A := by
  refine kz_wf hD kzN_1 kzN_4 (fun n hn k t h => ?_) kzN_6
  rcases Nat.lt_or_ge k 32 with hk | hk
  · have h5 := kzN_5 n hn k hk
    rw [h] at h5
    exact of_decide_eq_true h5
  · obtain ⟨d, rfl⟩ : ∃ d, k = d + 32 := ⟨k - 32, by omega⟩
    rw [kzN_b] at h
    cases h
theorem kz_app {cA : Nat → ClassId} {ad1 : ZN → Nat} {u2 : Nat → Nat} {b o : Nat} {sK sV : Nat → Nat} {σ1 σ2 : ZS} {L : Nat} {xs : Nat → Int32} : zws cA (kzw ad1 u2 b o sK sV) kzN (kzs σ1 σ2 L xs) = zws cA ad1 kzS σ1 ++ zws cA (fun n => u2 n.2.2) kzM σ2 := rfl
