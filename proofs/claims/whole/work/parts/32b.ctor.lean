/-! CONSTRUCTORS (by wip/gen/gen32.py): Reader -/
abbrev kc2 : ByteArray := prog_4_method_1_code
def ky2 : MethodName := ⟨RX2, "<init>", "()V"⟩
theorem kd2_0 : decode kc2 0 = .ok (.aload_n 0, 1) := by decide +kernel
theorem kd2_1 : decode kc2 1 = .ok (.invokespecial 3, 3) := by decide +kernel
theorem kd2_4 : decode kc2 4 = .ok (.aload_n 0, 1) := by decide +kernel
theorem kd2_5 : decode kc2 5 = .ok (.new 9, 3) := by decide +kernel
theorem kd2_8 : decode kc2 8 = .ok (.dup, 1) := by decide +kernel
theorem kd2_9 : decode kc2 9 = .ok (.invokespecial 11, 3) := by decide +kernel
theorem kd2_12 : decode kc2 12 = .ok (.putfield 12, 3) := by decide +kernel
theorem kd2_15 : decode kc2 15 = .ok (.aload_n 0, 1) := by decide +kernel
theorem kd2_16 : decode kc2 16 = .ok (.new 18, 3) := by decide +kernel
theorem kd2_19 : decode kc2 19 = .ok (.dup, 1) := by decide +kernel
theorem kd2_20 : decode kc2 20 = .ok (.invokespecial 20, 3) := by decide +kernel
theorem kd2_23 : decode kc2 23 = .ok (.putfield 21, 3) := by decide +kernel
theorem kd2_26 : decode kc2 26 = .ok (.return_, 1) := by decide +kernel
theorem kw2 : Cond.code ky2 kc2 1 none ∈ zTB := (zTBm (i := 90) (by decide +kernel) rfl)
def kf2 : List Value := [.null, .null, .int 0, .int 0, .int 0, .int 0, .int 0, .int 0, .int 0, .int 0, .int 0, .int 0]
theorem kD2 : ∀ j, j < zfn 2 → defaultValue (zY 2 j) = vp_V kf2 j := fun j hj => by match j, hj with
  | 0, _ => rfl
  | 1, _ => rfl
  | 2, _ => rfl
  | 3, _ => rfl
  | 4, _ => rfl
  | 5, _ => rfl
  | 6, _ => rfl
  | 7, _ => rfl
  | 8, _ => rfl
  | 9, _ => rfl
  | 10, _ => rfl
  | 11, _ => rfl
  | j + 12, hj => exact absurd hj (Nat.not_lt.mpr (Nat.le_add_left _ _))
def kr2 : Room := { frames := 4, cells := 13, slots := 255, locals := 78 }
set_option maxHeartbeats 4000000 in
set_option maxRecDepth 100000 in
theorem kC2 (l : Launch) (dC : Nat → ClassId) (dI : Nat → Nat → Nat) (cA : Nat → ClassId) : kz_Con l (dC, dI) cA (fun _ => True) ky2 kc2 1 kr2 2 kf2 (fun h0 (u : Nat × Nat × Nat × (Nat → Nat) × (Nat → Nat → Int32)) => u.1 = h0 ∧ zH0 u.2.2.2.2) (fun u => [(u.1, .inr (2, [.ref u.2.1, .ref (u.2.2.2.1 0), .int 0, .int 0, .int 0, .int 0, .int 0, .int 0, .int 0, .int 0, .int 0, .int 0])), (u.2.1, .inr (5, [.ref u.2.2.1, .int 0])), (u.2.2.1, .inl (cA 2, 160, .inl (fun _ => 0)))] ++ kzh cA u.2.2.2.1 u.2.2.2.2) := by
  unfold kz_Con
  intro h0 sz
  refine Met.ofW (cc := kc2) (maxL := 1) (ret := none) (by decide) rfl ?_
  intro p e s m args below meth c s₁ B hml hv
  obtain ⟨rfl, hsz, hP, hK, hX⟩ := hv
  have hx := B.exec
  have hb := B.bytes
  have hr := B.returns
  have hts0 := atoms_spec (ws := Cond.code ky2 kc2 1 none :: zTB) B.pre
  have hts : ∀ w ∈ zTB, w.before _ s = true := fun w hw => hts0 w (List.mem_cons_of_mem _ hw)
  have hown : s.vm.findClass RX2 = some m.cls := findClass_of_methodNamed B.named
  have hlocks := B.notSynchronized
  have hin : meth.name = "<init>" := (name_of_methodNamed B.named B.method).1
  subst hsz
  have hD := kz_D1 (h0 := h0) (sz := s.heap.size) (e := .inr (2, kf2))
  generalize hAe : va_A [(h0, .inr (2, kf2))] s.heap.size = A at hD ⊢
  have hA : ∀ q : Nat, s.heap.size ≤ q → A q := fun q h => by rw [← hAe]; exact Or.inr h
  have hS : va_S A s.heap s.heap [] := va_S.rf
  have hl := lv_entry ([.ref h0]) (n := 1) (Nat.le_of_ble_eq_true rfl)
  rw [lg_entry_eq]
  generalize (lg_sl ([.ref h0]) ++ List.replicate (1 - (lg_sl ([.ref h0])).length) Slot.unset).toArray = ls at hl ⊢
  have hl : lv_has ls 1 [(0, .ref h0)] := hl
  have hP : va_P (dC, dI) vwCl [(h0, .inr (2, [.null, .null, .int 0, .int 0, .int 0, .int 0, .int 0, .int 0, .int 0, .int 0, .int 0, .int 0]))] s.heap := hP
  have hD : va_D A [(h0, .inr (2, [.null, .null, .int 0, .int 0, .int 0, .int 0, .int 0, .int 0, .int 0, .int 0, .int 0, .int 0]))] := hD
  refine lv_aload_n hx hb kd2_0 rfl (lv_at hl 0 rfl) ?_
  refine W.objInit hx hb hown (hts (.methodLink RX2 3 objectInit) (zTBm (i := 91) (by decide +kernel) rfl)) (hts (.instanceMethod objectInit) (zTBm (i := 84) (by decide +kernel) rfl)) (hts (.code objectInit ⟨#[0xb1]⟩ 1 none) (zTBm (i := 85) (by decide +kernel) rfl)) rfl (by rw [hml]; exact hl.1) rfl kd2_1 (Nat.le_of_ble_eq_true rfl) (Nat.le_of_ble_eq_true rfl) ?_
  refine W.eq (g2 := F0 m 4 ls []) rfl ?_
  refine lv_aload_n hx hb kd2_4 rfl (lv_at hl 0 rfl) ?_
  refine kz_new (X := fun _ => True) hx hb hml hown hts hK hP hD hS hA 5 (by decide) (kD5) (hts (.classLink RX2 9 RX5) (zTBm (i := 92) (by decide +kernel) rfl)) (hts (.instantiable RX5 2) (zTBm (i := 93) (by decide +kernel) rfl)) (hts (.initialized RX5) (zTBm (i := 65) (by decide +kernel) rfl)) (kC5 l dC dI cA) trivial (fun _ _ _ _ => trivial) rfl rfl rfl (hts (.instanceMethod ky5) (zTBm (i := 95) (by decide +kernel) rfl)) kw5 (Or.inr (hts (.methodLinkNest RX2 11 ky5 "SeatCast") (zTBm (i := 94) (by decide +kernel) rfl))) ⟨Nat.le_of_ble_eq_true rfl, Nat.le_of_ble_eq_true rfl⟩ ⟨Nat.le_of_ble_eq_true rfl, Nat.le_of_ble_eq_true rfl⟩ hl.1 (Nat.le_of_ble_eq_true rfl) kd2_5 kd2_8 kd2_9 (fun u h1 H locs hp hP hD hS => ?_)
  obtain ⟨t0, t1⟩ := u
  obtain rfl : t0 = h1 := hp
  have hP : va_P (dC, dI) vwCl [(h0, .inr (2, [.null, .null, .int 0, .int 0, .int 0, .int 0, .int 0, .int 0, .int 0, .int 0, .int 0, .int 0])), (t0, .inr (5, [.ref t1, .int 0])), (t1, .inl (cA 2, 160, .inl (fun _ => 0)))] H := hP
  have hD : va_D A [(h0, .inr (2, [.null, .null, .int 0, .int 0, .int 0, .int 0, .int 0, .int 0, .int 0, .int 0, .int 0, .int 0])), (t0, .inr (5, [.ref t1, .int 0])), (t1, .inl (cA 2, 160, .inl (fun _ => 0)))] := hD
  refine va_putF (D := (dC, dI)) (ci := 2) (v := .ref t0) (ty := .object "SeatCast$Tape") (C := RX2) (T := TX2) (N := 12) hx hb hts (zin 2 (by decide)) (zY 2) (zY_ok 2 (by decide)) (znm_ok 2 (by decide)) hown hK hP hD hS 0 rfl rfl 0 (by decide) (hts (.fieldLink RX2 12 "SeatCast$Reader" "tape" "LSeatCast$Tape;") (zTBm (i := 208) (by decide +kernel) rfl)) (fun _ h9 => h9) rfl hin rfl (by decide +kernel) rfl rfl (Nat.le_of_ble_eq_true rfl) kd2_12 (fun H locs hP hD hS => ?_)
  have hP : va_P (dC, dI) vwCl [(h0, .inr (2, [.ref t0, .null, .int 0, .int 0, .int 0, .int 0, .int 0, .int 0, .int 0, .int 0, .int 0, .int 0])), (t0, .inr (5, [.ref t1, .int 0])), (t1, .inl (cA 2, 160, .inl (fun _ => 0)))] H := hP
  have hD : va_D A [(h0, .inr (2, [.ref t0, .null, .int 0, .int 0, .int 0, .int 0, .int 0, .int 0, .int 0, .int 0, .int 0, .int 0])), (t0, .inr (5, [.ref t1, .int 0])), (t1, .inl (cA 2, 160, .inl (fun _ => 0)))] := hD
  refine lv_aload_n hx hb kd2_15 rfl (lv_at hl 0 rfl) ?_
  refine kz_new (X := fun _ => True) hx hb hml hown hts hK hP hD hS hA 0 (by decide) (kD0) (hts (.classLink RX2 18 RX0) (zTBm (i := 109) (by decide +kernel) rfl)) (hts (.instantiable RX0 17) (zTBm (i := 110) (by decide +kernel) rfl)) (hts (.initialized RX0) (zTBm (i := 66) (by decide +kernel) rfl)) (kC0 l dC dI cA) trivial (fun _ _ _ _ => trivial) rfl rfl rfl (hts (.instanceMethod ky0) (zTBm (i := 112) (by decide +kernel) rfl)) kw0 (Or.inl (hts (.methodLink RX2 20 ky0) (zTBm (i := 111) (by decide +kernel) rfl))) ⟨Nat.le_of_ble_eq_true rfl, Nat.le_of_ble_eq_true rfl⟩ ⟨Nat.le_of_ble_eq_true rfl, Nat.le_of_ble_eq_true rfl⟩ hl.1 (Nat.le_of_ble_eq_true rfl) kd2_16 kd2_19 kd2_20 (fun u h1 H locs hp hP hD hS => ?_)
  obtain ⟨u0, τ0⟩ := u
  obtain ⟨rfl, hz0⟩ : u0 0 = h1 ∧ zH0 τ0 := hp
  have hP : va_P (dC, dI) vwCl ([(h0, .inr (2, [.ref t0, .null, .int 0, .int 0, .int 0, .int 0, .int 0, .int 0, .int 0, .int 0, .int 0, .int 0])), (t0, .inr (5, [.ref t1, .int 0])), (t1, .inl (cA 2, 160, .inl (fun _ => 0)))] ++ kzh cA u0 τ0) H := hP
  have hD : va_D A ([(h0, .inr (2, [.ref t0, .null, .int 0, .int 0, .int 0, .int 0, .int 0, .int 0, .int 0, .int 0, .int 0, .int 0])), (t0, .inr (5, [.ref t1, .int 0])), (t1, .inl (cA 2, 160, .inl (fun _ => 0)))] ++ kzh cA u0 τ0) := hD
  refine va_putF (D := (dC, dI)) (ci := 2) (v := .ref (u0 0)) (ty := .object "SeatCast$House") (C := RX2) (T := TX2) (N := 12) hx hb hts (zin 2 (by decide)) (zY 2) (zY_ok 2 (by decide)) (znm_ok 2 (by decide)) hown hK hP hD hS 0 rfl rfl 1 (by decide) (hts (.fieldLink RX2 21 "SeatCast$Reader" "draft" "LSeatCast$House;") (zTBm (i := 210) (by decide +kernel) rfl)) (fun _ h9 => h9) rfl hin rfl (by decide +kernel) rfl rfl (Nat.le_of_ble_eq_true rfl) kd2_23 (fun H locs hP hD hS => ?_)
  have hP : va_P (dC, dI) vwCl ([(h0, .inr (2, [.ref t0, .ref (u0 0), .int 0, .int 0, .int 0, .int 0, .int 0, .int 0, .int 0, .int 0, .int 0, .int 0])), (t0, .inr (5, [.ref t1, .int 0])), (t1, .inl (cA 2, 160, .inl (fun _ => 0)))] ++ kzh cA u0 τ0) H := hP
  have hD : va_D A ([(h0, .inr (2, [.ref t0, .ref (u0 0), .int 0, .int 0, .int 0, .int 0, .int 0, .int 0, .int 0, .int 0, .int 0, .int 0])), (t0, .inr (5, [.ref t1, .int 0])), (t1, .inl (cA 2, 160, .inl (fun _ => 0)))] ++ kzh cA u0 τ0) := hD
  refine W.widen (k := 13) (n := 255) (Nat.le_of_ble_eq_true rfl) (Nat.le_of_ble_eq_true rfl) ?_
  exact W.vret hx hb hr (fun t ht hW => ⟨⟨(h0, t0, t1, u0, τ0), rfl, ⟨rfl, hz0⟩, by rw [ht]; exact hP, hD⟩, hS.F ht⟩) hS.2.2 kd2_26
