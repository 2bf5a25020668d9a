/-! CONSTRUCTORS (by wip/gen/gen32.py): House, Night, Seatings, Sheet, Tape -/
def kz11 (a0 a1 a2 a3 a4 a5 a6 a7 a8 a9 a10 : Nat) (j : Nat) : Nat := match j with
  | 0 => a0
  | 1 => a1
  | 2 => a2
  | 3 => a3
  | 4 => a4
  | 5 => a5
  | 6 => a6
  | 7 => a7
  | 8 => a8
  | 9 => a9
  | _ => a10
def kzn : List ZN := [(1, 0, 0), (1, 0, 1), (1, 0, 2), (1, 0, 3), (1, 0, 4), (1, 0, 5), (1, 0, 6), (1, 0, 7), (1, 0, 8), (1, 0, 9), (1, 0, 10)]
theorem kzn_1 : ∀ n ∈ kzn, n.1 = 1 ∧ n.2.1 = 0 := by decide +kernel
/-- a house: where its cells are, what they hold -/
def kzh (cA : Nat → ClassId) (u : Nat → Nat) (t : Nat → Nat → Int32) : va_W := zws cA (fun n => u n.2.2) kzn (fun _ _ j => t j)
theorem kzh_eq {cA : Nat → ClassId} {u : Nat → Nat} {τ : ZS} : zws cA (fun n => u n.2.2) kzn τ = kzh cA u (τ 1 0) := by
  unfold kzh zws
  refine List.map_congr_left fun n hn => ?_
  obtain ⟨h1, h2⟩ := kzn_1 n hn
  exact congrArg (Prod.mk _) (zent_same (by rw [h1]; decide) (by rw [h1, h2]))
theorem zrf_h (g : Nat) : ∀ (j k : Nat) (t : ZN), zrf 1 g j k = some t → t.1 = 1 ∧ t.2.1 = g ∧ 1 ≤ t.2.2 ∧ t.2.2 ≤ 10 := by
  intro j k t h
  match k, h with
  | 0, h => cases h
  | 1, h => cases h
  | 2, h => cases h
  | 3, h => cases h
  | 4, h => cases h
  | 5, h => cases h
  | 6, h => cases h
  | 7, h => cases h; exact ⟨rfl, rfl, Nat.le_of_ble_eq_true rfl, Nat.le_of_ble_eq_true rfl⟩
  | 8, h => cases h; exact ⟨rfl, rfl, Nat.le_of_ble_eq_true rfl, Nat.le_of_ble_eq_true rfl⟩
  | 9, h => cases h; exact ⟨rfl, rfl, Nat.le_of_ble_eq_true rfl, Nat.le_of_ble_eq_true rfl⟩
  | 10, h => cases h; exact ⟨rfl, rfl, Nat.le_of_ble_eq_true rfl, Nat.le_of_ble_eq_true rfl⟩
  | 11, h => cases h; exact ⟨rfl, rfl, Nat.le_of_ble_eq_true rfl, Nat.le_of_ble_eq_true rfl⟩
  | 12, h => cases h; exact ⟨rfl, rfl, Nat.le_of_ble_eq_true rfl, Nat.le_of_ble_eq_true rfl⟩
  | 13, h => cases h; exact ⟨rfl, rfl, Nat.le_of_ble_eq_true rfl, Nat.le_of_ble_eq_true rfl⟩
  | 14, h => cases h; exact ⟨rfl, rfl, Nat.le_of_ble_eq_true rfl, Nat.le_of_ble_eq_true rfl⟩
  | 15, h => cases h; exact ⟨rfl, rfl, Nat.le_of_ble_eq_true rfl, Nat.le_of_ble_eq_true rfl⟩
  | 16, h => cases h; exact ⟨rfl, rfl, Nat.le_of_ble_eq_true rfl, Nat.le_of_ble_eq_true rfl⟩
  | k + 17, h => cases h
theorem kzn_m : ∀ t : ZN, t.1 = 1 → t.2.1 = 0 → t.2.2 ≤ 10 → t ∈ kzn := by
  rintro ⟨a, b, j⟩ rfl rfl h
  have h : j ≤ 10 := h
  rcases (by omega : j = 0 ∨ j = 1 ∨ j = 2 ∨ j = 3 ∨ j = 4 ∨ j = 5 ∨ j = 6 ∨ j = 7 ∨ j = 8 ∨ j = 9 ∨ j = 10) with rfl | rfl | rfl | rfl | rfl | rfl | rfl | rfl | rfl | rfl | rfl <;> decide
theorem kzn_t : ∀ n ∈ kzn, ¬ (zty n.1 n.2.2 = 4 ∨ zty n.1 n.2.2 = 5) := by decide +kernel
theorem kzn_wf {cA : Nat → ClassId} {u : Nat → Nat} {A : Nat → Prop} {σ : ZS} (hD : va_D A (zws cA (fun n => u n.2.2) kzn σ)) : zwf (fun n => u n.2.2) kzn A := by
  refine kz_wf hD (by decide +kernel) (fun n hn => by rw [(kzn_1 n hn).1]; decide) (fun n hn k t h => ?_) (fun n hn h => absurd h (kzn_t n hn))
  rw [(kzn_1 n hn).1, (kzn_1 n hn).2] at h
  obtain ⟨h1, h2, -, h4⟩ := zrf_h 0 _ _ _ h
  exact kzn_m t h1 h2 h4
abbrev kc0 : ByteArray := prog_2_method_1_code
def ky0 : MethodName := ⟨RX0, "<init>", "()V"⟩
theorem kd0_0 : decode kc0 0 = .ok (.aload_n 0, 1) := by decide +kernel
theorem kd0_1 : decode kc0 1 = .ok (.invokespecial 3, 3) := by decide +kernel
theorem kd0_4 : decode kc0 4 = .ok (.aload_n 0, 1) := by decide +kernel
theorem kd0_5 : decode kc0 5 = .ok (.bipush 12, 2) := by decide +kernel
theorem kd0_7 : decode kc0 7 = .ok (.newarray .int, 2) := by decide +kernel
theorem kd0_9 : decode kc0 9 = .ok (.putfield 9, 3) := by decide +kernel
theorem kd0_12 : decode kc0 12 = .ok (.aload_n 0, 1) := by decide +kernel
theorem kd0_13 : decode kc0 13 = .ok (.bipush 12, 2) := by decide +kernel
theorem kd0_15 : decode kc0 15 = .ok (.newarray .int, 2) := by decide +kernel
theorem kd0_17 : decode kc0 17 = .ok (.putfield 15, 3) := by decide +kernel
theorem kd0_20 : decode kc0 20 = .ok (.aload_n 0, 1) := by decide +kernel
theorem kd0_21 : decode kc0 21 = .ok (.bipush 12, 2) := by decide +kernel
theorem kd0_23 : decode kc0 23 = .ok (.newarray .int, 2) := by decide +kernel
theorem kd0_25 : decode kc0 25 = .ok (.putfield 18, 3) := by decide +kernel
theorem kd0_28 : decode kc0 28 = .ok (.aload_n 0, 1) := by decide +kernel
theorem kd0_29 : decode kc0 29 = .ok (.iconst 4, 1) := by decide +kernel
theorem kd0_30 : decode kc0 30 = .ok (.newarray .int, 2) := by decide +kernel
theorem kd0_32 : decode kc0 32 = .ok (.putfield 21, 3) := by decide +kernel
theorem kd0_35 : decode kc0 35 = .ok (.aload_n 0, 1) := by decide +kernel
theorem kd0_36 : decode kc0 36 = .ok (.iconst 4, 1) := by decide +kernel
theorem kd0_37 : decode kc0 37 = .ok (.newarray .int, 2) := by decide +kernel
theorem kd0_39 : decode kc0 39 = .ok (.putfield 24, 3) := by decide +kernel
theorem kd0_42 : decode kc0 42 = .ok (.aload_n 0, 1) := by decide +kernel
theorem kd0_43 : decode kc0 43 = .ok (.iconst 4, 1) := by decide +kernel
theorem kd0_44 : decode kc0 44 = .ok (.newarray .int, 2) := by decide +kernel
theorem kd0_46 : decode kc0 46 = .ok (.putfield 27, 3) := by decide +kernel
theorem kd0_49 : decode kc0 49 = .ok (.aload_n 0, 1) := by decide +kernel
theorem kd0_50 : decode kc0 50 = .ok (.iconst 4, 1) := by decide +kernel
theorem kd0_51 : decode kc0 51 = .ok (.newarray .int, 2) := by decide +kernel
theorem kd0_53 : decode kc0 53 = .ok (.putfield 30, 3) := by decide +kernel
theorem kd0_56 : decode kc0 56 = .ok (.aload_n 0, 1) := by decide +kernel
theorem kd0_57 : decode kc0 57 = .ok (.bipush 8, 2) := by decide +kernel
theorem kd0_59 : decode kc0 59 = .ok (.newarray .int, 2) := by decide +kernel
theorem kd0_61 : decode kc0 61 = .ok (.putfield 33, 3) := by decide +kernel
theorem kd0_64 : decode kc0 64 = .ok (.aload_n 0, 1) := by decide +kernel
theorem kd0_65 : decode kc0 65 = .ok (.bipush 8, 2) := by decide +kernel
theorem kd0_67 : decode kc0 67 = .ok (.newarray .int, 2) := by decide +kernel
theorem kd0_69 : decode kc0 69 = .ok (.putfield 36, 3) := by decide +kernel
theorem kd0_72 : decode kc0 72 = .ok (.aload_n 0, 1) := by decide +kernel
theorem kd0_73 : decode kc0 73 = .ok (.bipush 8, 2) := by decide +kernel
theorem kd0_75 : decode kc0 75 = .ok (.newarray .int, 2) := by decide +kernel
theorem kd0_77 : decode kc0 77 = .ok (.putfield 39, 3) := by decide +kernel
theorem kd0_80 : decode kc0 80 = .ok (.aload_n 0, 1) := by decide +kernel
theorem kd0_81 : decode kc0 81 = .ok (.invokevirtual 42, 3) := by decide +kernel
theorem kd0_84 : decode kc0 84 = .ok (.return_, 1) := by decide +kernel
theorem kw0 : Cond.code ky0 kc0 1 none ∈ zTB := (zTBm (i := 113) (by decide +kernel) rfl)
def kf0 : List Value := [.int 0, .int 0, .int 0, .int 0, .int 0, .int 0, .int 0, .null, .null, .null, .null, .null, .null, .null, .null, .null, .null]
theorem kD0 : ∀ j, j < zfn 0 → defaultValue (zY 0 j) = vp_V kf0 j := fun j hj => by match j, hj with
  | 0, _ => rfl
  | 1, _ => rfl
  | 2, _ => rfl
  | 3, _ => rfl
  | 4, _ => rfl
  | 5, _ => rfl
  | 6, _ => rfl
  | 7, _ => rfl
  | 8, _ => rfl
  | 9, _ => rfl
  | 10, _ => rfl
  | 11, _ => rfl
  | 12, _ => rfl
  | 13, _ => rfl
  | 14, _ => rfl
  | 15, _ => rfl
  | 16, _ => rfl
  | j + 17, hj => exact absurd hj (Nat.not_lt.mpr (Nat.le_add_left _ _))
def kr0 : Room := { frames := 3, cells := 10, slots := 76, locals := 58 }
set_option maxHeartbeats 4000000 in
set_option maxRecDepth 100000 in
theorem kC0 (l : Launch) (dC : Nat → ClassId) (dI : Nat → Nat → Nat) (cA : Nat → ClassId) : kz_Con l (dC, dI) cA (fun _ => True) ky0 kc0 1 kr0 0 kf0 (fun h0 (u : (Nat → Nat) × (Nat → Nat → Int32)) => u.1 0 = h0 ∧ zH0 u.2) (fun u => kzh cA u.1 u.2) := by
  unfold kz_Con
  intro h0 sz
  refine Met.ofW (cc := kc0) (maxL := 1) (ret := none) (by decide) rfl ?_
  intro p e s m args below meth c s₁ B hml hv
  obtain ⟨rfl, hsz, hP, hK, hX⟩ := hv
  have hx := B.exec
  have hb := B.bytes
  have hr := B.returns
  have hts0 := atoms_spec (ws := Cond.code ky0 kc0 1 none :: zTB) B.pre
  have hts : ∀ w ∈ zTB, w.before _ s = true := fun w hw => hts0 w (List.mem_cons_of_mem _ hw)
  have hown : s.vm.findClass RX0 = some m.cls := findClass_of_methodNamed B.named
  have hlocks := B.notSynchronized
  have hin : meth.name = "<init>" := (name_of_methodNamed B.named B.method).1
  subst hsz
  have hD := kz_D1 (h0 := h0) (sz := s.heap.size) (e := .inr (0, kf0))
  generalize hAe : va_A [(h0, .inr (0, kf0))] s.heap.size = A at hD ⊢
  have hA : ∀ q : Nat, s.heap.size ≤ q → A q := fun q h => by rw [← hAe]; exact Or.inr h
  have hS : va_S A s.heap s.heap [] := va_S.rf
  have hl := lv_entry ([.ref h0]) (n := 1) (Nat.le_of_ble_eq_true rfl)
  rw [lg_entry_eq]
  generalize (lg_sl ([.ref h0]) ++ List.replicate (1 - (lg_sl ([.ref h0])).length) Slot.unset).toArray = ls at hl ⊢
  have hl : lv_has ls 1 [(0, .ref h0)] := hl
  have hP : va_P (dC, dI) vwCl [(h0, .inr (0, [.int 0, .int 0, .int 0, .int 0, .int 0, .int 0, .int 0, .null, .null, .null, .null, .null, .null, .null, .null, .null, .null]))] s.heap := hP
  have hD : va_D A [(h0, .inr (0, [.int 0, .int 0, .int 0, .int 0, .int 0, .int 0, .int 0, .null, .null, .null, .null, .null, .null, .null, .null, .null, .null]))] := hD
  refine lv_aload_n hx hb kd0_0 rfl (lv_at hl 0 rfl) ?_
  refine W.objInit hx hb hown (hts (.methodLink RX0 3 objectInit) (zTBm (i := 114) (by decide +kernel) rfl)) (hts (.instanceMethod objectInit) (zTBm (i := 84) (by decide +kernel) rfl)) (hts (.code objectInit ⟨#[0xb1]⟩ 1 none) (zTBm (i := 85) (by decide +kernel) rfl)) rfl (by rw [hml]; exact hl.1) rfl kd0_1 (Nat.le_of_ble_eq_true rfl) (Nat.le_of_ble_eq_true rfl) ?_
  refine W.eq (g2 := F0 m 4 ls []) rfl ?_
  refine lv_aload_n hx hb kd0_4 rfl (lv_at hl 0 rfl) ?_
  refine lv_bipush (v := 12) hx hb kd0_5 (by decide) ?_
  refine kz_newa (atype := .int) (ty := .int) (n := 12) (N' := 12) hx hb (hts (.arrayClass .int) (zTBm (i := 207) (by decide +kernel) rfl)) rfl rfl 0 (ca := cA 1) rfl hK hP hD hS hA (by decide) (by decide) (Nat.le_of_ble_eq_true rfl) (Nat.le_of_ble_eq_true rfl) (Nat.le_of_ble_eq_true rfl) kd0_7 (fun q1 H hP hD hS => ?_)
  have hP : va_P (dC, dI) vwCl [(h0, .inr (0, [.int 0, .int 0, .int 0, .int 0, .int 0, .int 0, .int 0, .null, .null, .null, .null, .null, .null, .null, .null, .null, .null])), (q1, .inl (cA 1, 12, .inl (fun _ => 0)))] H := hP
  have hD : va_D A [(h0, .inr (0, [.int 0, .int 0, .int 0, .int 0, .int 0, .int 0, .int 0, .null, .null, .null, .null, .null, .null, .null, .null, .null, .null])), (q1, .inl (cA 1, 12, .inl (fun _ => 0)))] := hD
  refine va_putF (D := (dC, dI)) (ci := 0) (v := .ref q1) (ty := .array .int) (C := RX0) (T := TX0) (N := 17) hx hb hts (zin 0 (by decide)) (zY 0) (zY_ok 0 (by decide)) (znm_ok 0 (by decide)) hown hK hP hD hS 0 rfl rfl 7 (by decide) (hts (.fieldLink RX0 9 "SeatCast$House" "rowOf" "[I") (zTBm (i := 145) (by decide +kernel) rfl)) (fun _ h9 => h9) rfl hin rfl (by decide +kernel) rfl rfl (Nat.le_of_ble_eq_true rfl) kd0_9 (fun H locs hP hD hS => ?_)
  have hP : va_P (dC, dI) vwCl [(h0, .inr (0, [.int 0, .int 0, .int 0, .int 0, .int 0, .int 0, .int 0, .ref q1, .null, .null, .null, .null, .null, .null, .null, .null, .null])), (q1, .inl (cA 1, 12, .inl (fun _ => 0)))] H := hP
  have hD : va_D A [(h0, .inr (0, [.int 0, .int 0, .int 0, .int 0, .int 0, .int 0, .int 0, .ref q1, .null, .null, .null, .null, .null, .null, .null, .null, .null])), (q1, .inl (cA 1, 12, .inl (fun _ => 0)))] := hD
  refine lv_aload_n hx hb kd0_12 rfl (lv_at hl 0 rfl) ?_
  refine lv_bipush (v := 12) hx hb kd0_13 (by decide) ?_
  refine kz_newa (atype := .int) (ty := .int) (n := 12) (N' := 12) hx hb (hts (.arrayClass .int) (zTBm (i := 207) (by decide +kernel) rfl)) rfl rfl 0 (ca := cA 1) rfl hK hP hD hS hA (by decide) (by decide) (Nat.le_of_ble_eq_true rfl) (Nat.le_of_ble_eq_true rfl) (Nat.le_of_ble_eq_true rfl) kd0_15 (fun q2 H hP hD hS => ?_)
  have hP : va_P (dC, dI) vwCl [(h0, .inr (0, [.int 0, .int 0, .int 0, .int 0, .int 0, .int 0, .int 0, .ref q1, .null, .null, .null, .null, .null, .null, .null, .null, .null])), (q1, .inl (cA 1, 12, .inl (fun _ => 0))), (q2, .inl (cA 1, 12, .inl (fun _ => 0)))] H := hP
  have hD : va_D A [(h0, .inr (0, [.int 0, .int 0, .int 0, .int 0, .int 0, .int 0, .int 0, .ref q1, .null, .null, .null, .null, .null, .null, .null, .null, .null])), (q1, .inl (cA 1, 12, .inl (fun _ => 0))), (q2, .inl (cA 1, 12, .inl (fun _ => 0)))] := hD
  refine va_putF (D := (dC, dI)) (ci := 0) (v := .ref q2) (ty := .array .int) (C := RX0) (T := TX0) (N := 17) hx hb hts (zin 0 (by decide)) (zY 0) (zY_ok 0 (by decide)) (znm_ok 0 (by decide)) hown hK hP hD hS 0 rfl rfl 8 (by decide) (hts (.fieldLink RX0 15 "SeatCast$House" "placeOf" "[I") (zTBm (i := 146) (by decide +kernel) rfl)) (fun _ h9 => h9) rfl hin rfl (by decide +kernel) rfl rfl (Nat.le_of_ble_eq_true rfl) kd0_17 (fun H locs hP hD hS => ?_)
  have hP : va_P (dC, dI) vwCl [(h0, .inr (0, [.int 0, .int 0, .int 0, .int 0, .int 0, .int 0, .int 0, .ref q1, .ref q2, .null, .null, .null, .null, .null, .null, .null, .null])), (q1, .inl (cA 1, 12, .inl (fun _ => 0))), (q2, .inl (cA 1, 12, .inl (fun _ => 0)))] H := hP
  have hD : va_D A [(h0, .inr (0, [.int 0, .int 0, .int 0, .int 0, .int 0, .int 0, .int 0, .ref q1, .ref q2, .null, .null, .null, .null, .null, .null, .null, .null])), (q1, .inl (cA 1, 12, .inl (fun _ => 0))), (q2, .inl (cA 1, 12, .inl (fun _ => 0)))] := hD
  refine lv_aload_n hx hb kd0_20 rfl (lv_at hl 0 rfl) ?_
  refine lv_bipush (v := 12) hx hb kd0_21 (by decide) ?_
  refine kz_newa (atype := .int) (ty := .int) (n := 12) (N' := 12) hx hb (hts (.arrayClass .int) (zTBm (i := 207) (by decide +kernel) rfl)) rfl rfl 0 (ca := cA 1) rfl hK hP hD hS hA (by decide) (by decide) (Nat.le_of_ble_eq_true rfl) (Nat.le_of_ble_eq_true rfl) (Nat.le_of_ble_eq_true rfl) kd0_23 (fun q3 H hP hD hS => ?_)
  have hP : va_P (dC, dI) vwCl [(h0, .inr (0, [.int 0, .int 0, .int 0, .int 0, .int 0, .int 0, .int 0, .ref q1, .ref q2, .null, .null, .null, .null, .null, .null, .null, .null])), (q1, .inl (cA 1, 12, .inl (fun _ => 0))), (q2, .inl (cA 1, 12, .inl (fun _ => 0))), (q3, .inl (cA 1, 12, .inl (fun _ => 0)))] H := hP
  have hD : va_D A [(h0, .inr (0, [.int 0, .int 0, .int 0, .int 0, .int 0, .int 0, .int 0, .ref q1, .ref q2, .null, .null, .null, .null, .null, .null, .null, .null])), (q1, .inl (cA 1, 12, .inl (fun _ => 0))), (q2, .inl (cA 1, 12, .inl (fun _ => 0))), (q3, .inl (cA 1, 12, .inl (fun _ => 0)))] := hD
  refine va_putF (D := (dC, dI)) (ci := 0) (v := .ref q3) (ty := .array .int) (C := RX0) (T := TX0) (N := 17) hx hb hts (zin 0 (by decide)) (zY 0) (zY_ok 0 (by decide)) (znm_ok 0 (by decide)) hown hK hP hD hS 0 rfl rfl 9 (by decide) (hts (.fieldLink RX0 18 "SeatCast$House" "partOfSeat" "[I") (zTBm (i := 147) (by decide +kernel) rfl)) (fun _ h9 => h9) rfl hin rfl (by decide +kernel) rfl rfl (Nat.le_of_ble_eq_true rfl) kd0_25 (fun H locs hP hD hS => ?_)
  have hP : va_P (dC, dI) vwCl [(h0, .inr (0, [.int 0, .int 0, .int 0, .int 0, .int 0, .int 0, .int 0, .ref q1, .ref q2, .ref q3, .null, .null, .null, .null, .null, .null, .null])), (q1, .inl (cA 1, 12, .inl (fun _ => 0))), (q2, .inl (cA 1, 12, .inl (fun _ => 0))), (q3, .inl (cA 1, 12, .inl (fun _ => 0)))] H := hP
  have hD : va_D A [(h0, .inr (0, [.int 0, .int 0, .int 0, .int 0, .int 0, .int 0, .int 0, .ref q1, .ref q2, .ref q3, .null, .null, .null, .null, .null, .null, .null])), (q1, .inl (cA 1, 12, .inl (fun _ => 0))), (q2, .inl (cA 1, 12, .inl (fun _ => 0))), (q3, .inl (cA 1, 12, .inl (fun _ => 0)))] := hD
  refine lv_aload_n hx hb kd0_28 rfl (lv_at hl 0 rfl) ?_
  refine lv_iconst (v := 4) hx hb kd0_29 (by decide) ?_
  refine kz_newa (atype := .int) (ty := .int) (n := 4) (N' := 4) hx hb (hts (.arrayClass .int) (zTBm (i := 207) (by decide +kernel) rfl)) rfl rfl 0 (ca := cA 1) rfl hK hP hD hS hA (by decide) (by decide) (Nat.le_of_ble_eq_true rfl) (Nat.le_of_ble_eq_true rfl) (Nat.le_of_ble_eq_true rfl) kd0_30 (fun q4 H hP hD hS => ?_)
  have hP : va_P (dC, dI) vwCl [(h0, .inr (0, [.int 0, .int 0, .int 0, .int 0, .int 0, .int 0, .int 0, .ref q1, .ref q2, .ref q3, .null, .null, .null, .null, .null, .null, .null])), (q1, .inl (cA 1, 12, .inl (fun _ => 0))), (q2, .inl (cA 1, 12, .inl (fun _ => 0))), (q3, .inl (cA 1, 12, .inl (fun _ => 0))), (q4, .inl (cA 1, 4, .inl (fun _ => 0)))] H := hP
  have hD : va_D A [(h0, .inr (0, [.int 0, .int 0, .int 0, .int 0, .int 0, .int 0, .int 0, .ref q1, .ref q2, .ref q3, .null, .null, .null, .null, .null, .null, .null])), (q1, .inl (cA 1, 12, .inl (fun _ => 0))), (q2, .inl (cA 1, 12, .inl (fun _ => 0))), (q3, .inl (cA 1, 12, .inl (fun _ => 0))), (q4, .inl (cA 1, 4, .inl (fun _ => 0)))] := hD
  refine va_putF (D := (dC, dI)) (ci := 0) (v := .ref q4) (ty := .array .int) (C := RX0) (T := TX0) (N := 17) hx hb hts (zin 0 (by decide)) (zY 0) (zY_ok 0 (by decide)) (znm_ok 0 (by decide)) hown hK hP hD hS 0 rfl rfl 10 (by decide) (hts (.fieldLink RX0 21 "SeatCast$House" "seatOf" "[I") (zTBm (i := 151) (by decide +kernel) rfl)) (fun _ h9 => h9) rfl hin rfl (by decide +kernel) rfl rfl (Nat.le_of_ble_eq_true rfl) kd0_32 (fun H locs hP hD hS => ?_)
  have hP : va_P (dC, dI) vwCl [(h0, .inr (0, [.int 0, .int 0, .int 0, .int 0, .int 0, .int 0, .int 0, .ref q1, .ref q2, .ref q3, .ref q4, .null, .null, .null, .null, .null, .null])), (q1, .inl (cA 1, 12, .inl (fun _ => 0))), (q2, .inl (cA 1, 12, .inl (fun _ => 0))), (q3, .inl (cA 1, 12, .inl (fun _ => 0))), (q4, .inl (cA 1, 4, .inl (fun _ => 0)))] H := hP
  have hD : va_D A [(h0, .inr (0, [.int 0, .int 0, .int 0, .int 0, .int 0, .int 0, .int 0, .ref q1, .ref q2, .ref q3, .ref q4, .null, .null, .null, .null, .null, .null])), (q1, .inl (cA 1, 12, .inl (fun _ => 0))), (q2, .inl (cA 1, 12, .inl (fun _ => 0))), (q3, .inl (cA 1, 12, .inl (fun _ => 0))), (q4, .inl (cA 1, 4, .inl (fun _ => 0)))] := hD
  refine lv_aload_n hx hb kd0_35 rfl (lv_at hl 0 rfl) ?_
  refine lv_iconst (v := 4) hx hb kd0_36 (by decide) ?_
  refine kz_newa (atype := .int) (ty := .int) (n := 4) (N' := 4) hx hb (hts (.arrayClass .int) (zTBm (i := 207) (by decide +kernel) rfl)) rfl rfl 0 (ca := cA 1) rfl hK hP hD hS hA (by decide) (by decide) (Nat.le_of_ble_eq_true rfl) (Nat.le_of_ble_eq_true rfl) (Nat.le_of_ble_eq_true rfl) kd0_37 (fun q5 H hP hD hS => ?_)
  have hP : va_P (dC, dI) vwCl [(h0, .inr (0, [.int 0, .int 0, .int 0, .int 0, .int 0, .int 0, .int 0, .ref q1, .ref q2, .ref q3, .ref q4, .null, .null, .null, .null, .null, .null])), (q1, .inl (cA 1, 12, .inl (fun _ => 0))), (q2, .inl (cA 1, 12, .inl (fun _ => 0))), (q3, .inl (cA 1, 12, .inl (fun _ => 0))), (q4, .inl (cA 1, 4, .inl (fun _ => 0))), (q5, .inl (cA 1, 4, .inl (fun _ => 0)))] H := hP
  have hD : va_D A [(h0, .inr (0, [.int 0, .int 0, .int 0, .int 0, .int 0, .int 0, .int 0, .ref q1, .ref q2, .ref q3, .ref q4, .null, .null, .null, .null, .null, .null])), (q1, .inl (cA 1, 12, .inl (fun _ => 0))), (q2, .inl (cA 1, 12, .inl (fun _ => 0))), (q3, .inl (cA 1, 12, .inl (fun _ => 0))), (q4, .inl (cA 1, 4, .inl (fun _ => 0))), (q5, .inl (cA 1, 4, .inl (fun _ => 0)))] := hD
  refine va_putF (D := (dC, dI)) (ci := 0) (v := .ref q5) (ty := .array .int) (C := RX0) (T := TX0) (N := 17) hx hb hts (zin 0 (by decide)) (zY 0) (zY_ok 0 (by decide)) (znm_ok 0 (by decide)) hown hK hP hD hS 0 rfl rfl 11 (by decide) (hts (.fieldLink RX0 24 "SeatCast$House" "voiceOf" "[I") (zTBm (i := 156) (by decide +kernel) rfl)) (fun _ h9 => h9) rfl hin rfl (by decide +kernel) rfl rfl (Nat.le_of_ble_eq_true rfl) kd0_39 (fun H locs hP hD hS => ?_)
  have hP : va_P (dC, dI) vwCl [(h0, .inr (0, [.int 0, .int 0, .int 0, .int 0, .int 0, .int 0, .int 0, .ref q1, .ref q2, .ref q3, .ref q4, .ref q5, .null, .null, .null, .null, .null])), (q1, .inl (cA 1, 12, .inl (fun _ => 0))), (q2, .inl (cA 1, 12, .inl (fun _ => 0))), (q3, .inl (cA 1, 12, .inl (fun _ => 0))), (q4, .inl (cA 1, 4, .inl (fun _ => 0))), (q5, .inl (cA 1, 4, .inl (fun _ => 0)))] H := hP
  have hD : va_D A [(h0, .inr (0, [.int 0, .int 0, .int 0, .int 0, .int 0, .int 0, .int 0, .ref q1, .ref q2, .ref q3, .ref q4, .ref q5, .null, .null, .null, .null, .null])), (q1, .inl (cA 1, 12, .inl (fun _ => 0))), (q2, .inl (cA 1, 12, .inl (fun _ => 0))), (q3, .inl (cA 1, 12, .inl (fun _ => 0))), (q4, .inl (cA 1, 4, .inl (fun _ => 0))), (q5, .inl (cA 1, 4, .inl (fun _ => 0)))] := hD
  refine lv_aload_n hx hb kd0_42 rfl (lv_at hl 0 rfl) ?_
  refine lv_iconst (v := 4) hx hb kd0_43 (by decide) ?_
  refine kz_newa (atype := .int) (ty := .int) (n := 4) (N' := 4) hx hb (hts (.arrayClass .int) (zTBm (i := 207) (by decide +kernel) rfl)) rfl rfl 0 (ca := cA 1) rfl hK hP hD hS hA (by decide) (by decide) (Nat.le_of_ble_eq_true rfl) (Nat.le_of_ble_eq_true rfl) (Nat.le_of_ble_eq_true rfl) kd0_44 (fun q6 H hP hD hS => ?_)
  have hP : va_P (dC, dI) vwCl [(h0, .inr (0, [.int 0, .int 0, .int 0, .int 0, .int 0, .int 0, .int 0, .ref q1, .ref q2, .ref q3, .ref q4, .ref q5, .null, .null, .null, .null, .null])), (q1, .inl (cA 1, 12, .inl (fun _ => 0))), (q2, .inl (cA 1, 12, .inl (fun _ => 0))), (q3, .inl (cA 1, 12, .inl (fun _ => 0))), (q4, .inl (cA 1, 4, .inl (fun _ => 0))), (q5, .inl (cA 1, 4, .inl (fun _ => 0))), (q6, .inl (cA 1, 4, .inl (fun _ => 0)))] H := hP
  have hD : va_D A [(h0, .inr (0, [.int 0, .int 0, .int 0, .int 0, .int 0, .int 0, .int 0, .ref q1, .ref q2, .ref q3, .ref q4, .ref q5, .null, .null, .null, .null, .null])), (q1, .inl (cA 1, 12, .inl (fun _ => 0))), (q2, .inl (cA 1, 12, .inl (fun _ => 0))), (q3, .inl (cA 1, 12, .inl (fun _ => 0))), (q4, .inl (cA 1, 4, .inl (fun _ => 0))), (q5, .inl (cA 1, 4, .inl (fun _ => 0))), (q6, .inl (cA 1, 4, .inl (fun _ => 0)))] := hD
  refine va_putF (D := (dC, dI)) (ci := 0) (v := .ref q6) (ty := .array .int) (C := RX0) (T := TX0) (N := 17) hx hb hts (zin 0 (by decide)) (zY 0) (zY_ok 0 (by decide)) (znm_ok 0 (by decide)) hown hK hP hD hS 0 rfl rfl 12 (by decide) (hts (.fieldLink RX0 27 "SeatCast$House" "comesWith" "[I") (zTBm (i := 159) (by decide +kernel) rfl)) (fun _ h9 => h9) rfl hin rfl (by decide +kernel) rfl rfl (Nat.le_of_ble_eq_true rfl) kd0_46 (fun H locs hP hD hS => ?_)
  have hP : va_P (dC, dI) vwCl [(h0, .inr (0, [.int 0, .int 0, .int 0, .int 0, .int 0, .int 0, .int 0, .ref q1, .ref q2, .ref q3, .ref q4, .ref q5, .ref q6, .null, .null, .null, .null])), (q1, .inl (cA 1, 12, .inl (fun _ => 0))), (q2, .inl (cA 1, 12, .inl (fun _ => 0))), (q3, .inl (cA 1, 12, .inl (fun _ => 0))), (q4, .inl (cA 1, 4, .inl (fun _ => 0))), (q5, .inl (cA 1, 4, .inl (fun _ => 0))), (q6, .inl (cA 1, 4, .inl (fun _ => 0)))] H := hP
  have hD : va_D A [(h0, .inr (0, [.int 0, .int 0, .int 0, .int 0, .int 0, .int 0, .int 0, .ref q1, .ref q2, .ref q3, .ref q4, .ref q5, .ref q6, .null, .null, .null, .null])), (q1, .inl (cA 1, 12, .inl (fun _ => 0))), (q2, .inl (cA 1, 12, .inl (fun _ => 0))), (q3, .inl (cA 1, 12, .inl (fun _ => 0))), (q4, .inl (cA 1, 4, .inl (fun _ => 0))), (q5, .inl (cA 1, 4, .inl (fun _ => 0))), (q6, .inl (cA 1, 4, .inl (fun _ => 0)))] := hD
  refine lv_aload_n hx hb kd0_49 rfl (lv_at hl 0 rfl) ?_
  refine lv_iconst (v := 4) hx hb kd0_50 (by decide) ?_
  refine kz_newa (atype := .int) (ty := .int) (n := 4) (N' := 4) hx hb (hts (.arrayClass .int) (zTBm (i := 207) (by decide +kernel) rfl)) rfl rfl 0 (ca := cA 1) rfl hK hP hD hS hA (by decide) (by decide) (Nat.le_of_ble_eq_true rfl) (Nat.le_of_ble_eq_true rfl) (Nat.le_of_ble_eq_true rfl) kd0_51 (fun q7 H hP hD hS => ?_)
  have hP : va_P (dC, dI) vwCl [(h0, .inr (0, [.int 0, .int 0, .int 0, .int 0, .int 0, .int 0, .int 0, .ref q1, .ref q2, .ref q3, .ref q4, .ref q5, .ref q6, .null, .null, .null, .null])), (q1, .inl (cA 1, 12, .inl (fun _ => 0))), (q2, .inl (cA 1, 12, .inl (fun _ => 0))), (q3, .inl (cA 1, 12, .inl (fun _ => 0))), (q4, .inl (cA 1, 4, .inl (fun _ => 0))), (q5, .inl (cA 1, 4, .inl (fun _ => 0))), (q6, .inl (cA 1, 4, .inl (fun _ => 0))), (q7, .inl (cA 1, 4, .inl (fun _ => 0)))] H := hP
  have hD : va_D A [(h0, .inr (0, [.int 0, .int 0, .int 0, .int 0, .int 0, .int 0, .int 0, .ref q1, .ref q2, .ref q3, .ref q4, .ref q5, .ref q6, .null, .null, .null, .null])), (q1, .inl (cA 1, 12, .inl (fun _ => 0))), (q2, .inl (cA 1, 12, .inl (fun _ => 0))), (q3, .inl (cA 1, 12, .inl (fun _ => 0))), (q4, .inl (cA 1, 4, .inl (fun _ => 0))), (q5, .inl (cA 1, 4, .inl (fun _ => 0))), (q6, .inl (cA 1, 4, .inl (fun _ => 0))), (q7, .inl (cA 1, 4, .inl (fun _ => 0)))] := hD
  refine va_putF (D := (dC, dI)) (ci := 0) (v := .ref q7) (ty := .array .int) (C := RX0) (T := TX0) (N := 17) hx hb hts (zin 0 (by decide)) (zY 0) (zY_ok 0 (by decide)) (znm_ok 0 (by decide)) hown hK hP hD hS 0 rfl rfl 13 (by decide) (hts (.fieldLink RX0 30 "SeatCast$House" "feudsOf" "[I") (zTBm (i := 162) (by decide +kernel) rfl)) (fun _ h9 => h9) rfl hin rfl (by decide +kernel) rfl rfl (Nat.le_of_ble_eq_true rfl) kd0_53 (fun H locs hP hD hS => ?_)
  have hP : va_P (dC, dI) vwCl [(h0, .inr (0, [.int 0, .int 0, .int 0, .int 0, .int 0, .int 0, .int 0, .ref q1, .ref q2, .ref q3, .ref q4, .ref q5, .ref q6, .ref q7, .null, .null, .null])), (q1, .inl (cA 1, 12, .inl (fun _ => 0))), (q2, .inl (cA 1, 12, .inl (fun _ => 0))), (q3, .inl (cA 1, 12, .inl (fun _ => 0))), (q4, .inl (cA 1, 4, .inl (fun _ => 0))), (q5, .inl (cA 1, 4, .inl (fun _ => 0))), (q6, .inl (cA 1, 4, .inl (fun _ => 0))), (q7, .inl (cA 1, 4, .inl (fun _ => 0)))] H := hP
  have hD : va_D A [(h0, .inr (0, [.int 0, .int 0, .int 0, .int 0, .int 0, .int 0, .int 0, .ref q1, .ref q2, .ref q3, .ref q4, .ref q5, .ref q6, .ref q7, .null, .null, .null])), (q1, .inl (cA 1, 12, .inl (fun _ => 0))), (q2, .inl (cA 1, 12, .inl (fun _ => 0))), (q3, .inl (cA 1, 12, .inl (fun _ => 0))), (q4, .inl (cA 1, 4, .inl (fun _ => 0))), (q5, .inl (cA 1, 4, .inl (fun _ => 0))), (q6, .inl (cA 1, 4, .inl (fun _ => 0))), (q7, .inl (cA 1, 4, .inl (fun _ => 0)))] := hD
  refine lv_aload_n hx hb kd0_56 rfl (lv_at hl 0 rfl) ?_
  refine lv_bipush (v := 8) hx hb kd0_57 (by decide) ?_
  refine kz_newa (atype := .int) (ty := .int) (n := 8) (N' := 8) hx hb (hts (.arrayClass .int) (zTBm (i := 207) (by decide +kernel) rfl)) rfl rfl 0 (ca := cA 1) rfl hK hP hD hS hA (by decide) (by decide) (Nat.le_of_ble_eq_true rfl) (Nat.le_of_ble_eq_true rfl) (Nat.le_of_ble_eq_true rfl) kd0_59 (fun q8 H hP hD hS => ?_)
  have hP : va_P (dC, dI) vwCl [(h0, .inr (0, [.int 0, .int 0, .int 0, .int 0, .int 0, .int 0, .int 0, .ref q1, .ref q2, .ref q3, .ref q4, .ref q5, .ref q6, .ref q7, .null, .null, .null])), (q1, .inl (cA 1, 12, .inl (fun _ => 0))), (q2, .inl (cA 1, 12, .inl (fun _ => 0))), (q3, .inl (cA 1, 12, .inl (fun _ => 0))), (q4, .inl (cA 1, 4, .inl (fun _ => 0))), (q5, .inl (cA 1, 4, .inl (fun _ => 0))), (q6, .inl (cA 1, 4, .inl (fun _ => 0))), (q7, .inl (cA 1, 4, .inl (fun _ => 0))), (q8, .inl (cA 1, 8, .inl (fun _ => 0)))] H := hP
  have hD : va_D A [(h0, .inr (0, [.int 0, .int 0, .int 0, .int 0, .int 0, .int 0, .int 0, .ref q1, .ref q2, .ref q3, .ref q4, .ref q5, .ref q6, .ref q7, .null, .null, .null])), (q1, .inl (cA 1, 12, .inl (fun _ => 0))), (q2, .inl (cA 1, 12, .inl (fun _ => 0))), (q3, .inl (cA 1, 12, .inl (fun _ => 0))), (q4, .inl (cA 1, 4, .inl (fun _ => 0))), (q5, .inl (cA 1, 4, .inl (fun _ => 0))), (q6, .inl (cA 1, 4, .inl (fun _ => 0))), (q7, .inl (cA 1, 4, .inl (fun _ => 0))), (q8, .inl (cA 1, 8, .inl (fun _ => 0)))] := hD
  refine va_putF (D := (dC, dI)) (ci := 0) (v := .ref q8) (ty := .array .int) (C := RX0) (T := TX0) (N := 17) hx hb hts (zin 0 (by decide)) (zY 0) (zY_ok 0 (by decide)) (znm_ok 0 (by decide)) hown hK hP hD hS 0 rfl rfl 14 (by decide) (hts (.fieldLink RX0 33 "SeatCast$House" "partOfLine" "[I") (zTBm (i := 165) (by decide +kernel) rfl)) (fun _ h9 => h9) rfl hin rfl (by decide +kernel) rfl rfl (Nat.le_of_ble_eq_true rfl) kd0_61 (fun H locs hP hD hS => ?_)
  have hP : va_P (dC, dI) vwCl [(h0, .inr (0, [.int 0, .int 0, .int 0, .int 0, .int 0, .int 0, .int 0, .ref q1, .ref q2, .ref q3, .ref q4, .ref q5, .ref q6, .ref q7, .ref q8, .null, .null])), (q1, .inl (cA 1, 12, .inl (fun _ => 0))), (q2, .inl (cA 1, 12, .inl (fun _ => 0))), (q3, .inl (cA 1, 12, .inl (fun _ => 0))), (q4, .inl (cA 1, 4, .inl (fun _ => 0))), (q5, .inl (cA 1, 4, .inl (fun _ => 0))), (q6, .inl (cA 1, 4, .inl (fun _ => 0))), (q7, .inl (cA 1, 4, .inl (fun _ => 0))), (q8, .inl (cA 1, 8, .inl (fun _ => 0)))] H := hP
  have hD : va_D A [(h0, .inr (0, [.int 0, .int 0, .int 0, .int 0, .int 0, .int 0, .int 0, .ref q1, .ref q2, .ref q3, .ref q4, .ref q5, .ref q6, .ref q7, .ref q8, .null, .null])), (q1, .inl (cA 1, 12, .inl (fun _ => 0))), (q2, .inl (cA 1, 12, .inl (fun _ => 0))), (q3, .inl (cA 1, 12, .inl (fun _ => 0))), (q4, .inl (cA 1, 4, .inl (fun _ => 0))), (q5, .inl (cA 1, 4, .inl (fun _ => 0))), (q6, .inl (cA 1, 4, .inl (fun _ => 0))), (q7, .inl (cA 1, 4, .inl (fun _ => 0))), (q8, .inl (cA 1, 8, .inl (fun _ => 0)))] := hD
  refine lv_aload_n hx hb kd0_64 rfl (lv_at hl 0 rfl) ?_
  refine lv_bipush (v := 8) hx hb kd0_65 (by decide) ?_
  refine kz_newa (atype := .int) (ty := .int) (n := 8) (N' := 8) hx hb (hts (.arrayClass .int) (zTBm (i := 207) (by decide +kernel) rfl)) rfl rfl 0 (ca := cA 1) rfl hK hP hD hS hA (by decide) (by decide) (Nat.le_of_ble_eq_true rfl) (Nat.le_of_ble_eq_true rfl) (Nat.le_of_ble_eq_true rfl) kd0_67 (fun q9 H hP hD hS => ?_)
  have hP : va_P (dC, dI) vwCl [(h0, .inr (0, [.int 0, .int 0, .int 0, .int 0, .int 0, .int 0, .int 0, .ref q1, .ref q2, .ref q3, .ref q4, .ref q5, .ref q6, .ref q7, .ref q8, .null, .null])), (q1, .inl (cA 1, 12, .inl (fun _ => 0))), (q2, .inl (cA 1, 12, .inl (fun _ => 0))), (q3, .inl (cA 1, 12, .inl (fun _ => 0))), (q4, .inl (cA 1, 4, .inl (fun _ => 0))), (q5, .inl (cA 1, 4, .inl (fun _ => 0))), (q6, .inl (cA 1, 4, .inl (fun _ => 0))), (q7, .inl (cA 1, 4, .inl (fun _ => 0))), (q8, .inl (cA 1, 8, .inl (fun _ => 0))), (q9, .inl (cA 1, 8, .inl (fun _ => 0)))] H := hP
  have hD : va_D A [(h0, .inr (0, [.int 0, .int 0, .int 0, .int 0, .int 0, .int 0, .int 0, .ref q1, .ref q2, .ref q3, .ref q4, .ref q5, .ref q6, .ref q7, .ref q8, .null, .null])), (q1, .inl (cA 1, 12, .inl (fun _ => 0))), (q2, .inl (cA 1, 12, .inl (fun _ => 0))), (q3, .inl (cA 1, 12, .inl (fun _ => 0))), (q4, .inl (cA 1, 4, .inl (fun _ => 0))), (q5, .inl (cA 1, 4, .inl (fun _ => 0))), (q6, .inl (cA 1, 4, .inl (fun _ => 0))), (q7, .inl (cA 1, 4, .inl (fun _ => 0))), (q8, .inl (cA 1, 8, .inl (fun _ => 0))), (q9, .inl (cA 1, 8, .inl (fun _ => 0)))] := hD
  refine va_putF (D := (dC, dI)) (ci := 0) (v := .ref q9) (ty := .array .int) (C := RX0) (T := TX0) (N := 17) hx hb hts (zin 0 (by decide)) (zY 0) (zY_ok 0 (by decide)) (znm_ok 0 (by decide)) hown hK hP hD hS 0 rfl rfl 15 (by decide) (hts (.fieldLink RX0 36 "SeatCast$House" "seenLine" "[I") (zTBm (i := 168) (by decide +kernel) rfl)) (fun _ h9 => h9) rfl hin rfl (by decide +kernel) rfl rfl (Nat.le_of_ble_eq_true rfl) kd0_69 (fun H locs hP hD hS => ?_)
  have hP : va_P (dC, dI) vwCl [(h0, .inr (0, [.int 0, .int 0, .int 0, .int 0, .int 0, .int 0, .int 0, .ref q1, .ref q2, .ref q3, .ref q4, .ref q5, .ref q6, .ref q7, .ref q8, .ref q9, .null])), (q1, .inl (cA 1, 12, .inl (fun _ => 0))), (q2, .inl (cA 1, 12, .inl (fun _ => 0))), (q3, .inl (cA 1, 12, .inl (fun _ => 0))), (q4, .inl (cA 1, 4, .inl (fun _ => 0))), (q5, .inl (cA 1, 4, .inl (fun _ => 0))), (q6, .inl (cA 1, 4, .inl (fun _ => 0))), (q7, .inl (cA 1, 4, .inl (fun _ => 0))), (q8, .inl (cA 1, 8, .inl (fun _ => 0))), (q9, .inl (cA 1, 8, .inl (fun _ => 0)))] H := hP
  have hD : va_D A [(h0, .inr (0, [.int 0, .int 0, .int 0, .int 0, .int 0, .int 0, .int 0, .ref q1, .ref q2, .ref q3, .ref q4, .ref q5, .ref q6, .ref q7, .ref q8, .ref q9, .null])), (q1, .inl (cA 1, 12, .inl (fun _ => 0))), (q2, .inl (cA 1, 12, .inl (fun _ => 0))), (q3, .inl (cA 1, 12, .inl (fun _ => 0))), (q4, .inl (cA 1, 4, .inl (fun _ => 0))), (q5, .inl (cA 1, 4, .inl (fun _ => 0))), (q6, .inl (cA 1, 4, .inl (fun _ => 0))), (q7, .inl (cA 1, 4, .inl (fun _ => 0))), (q8, .inl (cA 1, 8, .inl (fun _ => 0))), (q9, .inl (cA 1, 8, .inl (fun _ => 0)))] := hD
  refine lv_aload_n hx hb kd0_72 rfl (lv_at hl 0 rfl) ?_
  refine lv_bipush (v := 8) hx hb kd0_73 (by decide) ?_
  refine kz_newa (atype := .int) (ty := .int) (n := 8) (N' := 8) hx hb (hts (.arrayClass .int) (zTBm (i := 207) (by decide +kernel) rfl)) rfl rfl 0 (ca := cA 1) rfl hK hP hD hS hA (by decide) (by decide) (Nat.le_of_ble_eq_true rfl) (Nat.le_of_ble_eq_true rfl) (Nat.le_of_ble_eq_true rfl) kd0_75 (fun q10 H hP hD hS => ?_)
  have hP : va_P (dC, dI) vwCl [(h0, .inr (0, [.int 0, .int 0, .int 0, .int 0, .int 0, .int 0, .int 0, .ref q1, .ref q2, .ref q3, .ref q4, .ref q5, .ref q6, .ref q7, .ref q8, .ref q9, .null])), (q1, .inl (cA 1, 12, .inl (fun _ => 0))), (q2, .inl (cA 1, 12, .inl (fun _ => 0))), (q3, .inl (cA 1, 12, .inl (fun _ => 0))), (q4, .inl (cA 1, 4, .inl (fun _ => 0))), (q5, .inl (cA 1, 4, .inl (fun _ => 0))), (q6, .inl (cA 1, 4, .inl (fun _ => 0))), (q7, .inl (cA 1, 4, .inl (fun _ => 0))), (q8, .inl (cA 1, 8, .inl (fun _ => 0))), (q9, .inl (cA 1, 8, .inl (fun _ => 0))), (q10, .inl (cA 1, 8, .inl (fun _ => 0)))] H := hP
  have hD : va_D A [(h0, .inr (0, [.int 0, .int 0, .int 0, .int 0, .int 0, .int 0, .int 0, .ref q1, .ref q2, .ref q3, .ref q4, .ref q5, .ref q6, .ref q7, .ref q8, .ref q9, .null])), (q1, .inl (cA 1, 12, .inl (fun _ => 0))), (q2, .inl (cA 1, 12, .inl (fun _ => 0))), (q3, .inl (cA 1, 12, .inl (fun _ => 0))), (q4, .inl (cA 1, 4, .inl (fun _ => 0))), (q5, .inl (cA 1, 4, .inl (fun _ => 0))), (q6, .inl (cA 1, 4, .inl (fun _ => 0))), (q7, .inl (cA 1, 4, .inl (fun _ => 0))), (q8, .inl (cA 1, 8, .inl (fun _ => 0))), (q9, .inl (cA 1, 8, .inl (fun _ => 0))), (q10, .inl (cA 1, 8, .inl (fun _ => 0)))] := hD
  refine va_putF (D := (dC, dI)) (ci := 0) (v := .ref q10) (ty := .array .int) (C := RX0) (T := TX0) (N := 17) hx hb hts (zin 0 (by decide)) (zY 0) (zY_ok 0 (by decide)) (znm_ok 0 (by decide)) hown hK hP hD hS 0 rfl rfl 16 (by decide) (hts (.fieldLink RX0 39 "SeatCast$House" "seenWho" "[I") (zTBm (i := 170) (by decide +kernel) rfl)) (fun _ h9 => h9) rfl hin rfl (by decide +kernel) rfl rfl (Nat.le_of_ble_eq_true rfl) kd0_77 (fun H locs hP hD hS => ?_)
  have hP : va_P (dC, dI) vwCl [(h0, .inr (0, [.int 0, .int 0, .int 0, .int 0, .int 0, .int 0, .int 0, .ref q1, .ref q2, .ref q3, .ref q4, .ref q5, .ref q6, .ref q7, .ref q8, .ref q9, .ref q10])), (q1, .inl (cA 1, 12, .inl (fun _ => 0))), (q2, .inl (cA 1, 12, .inl (fun _ => 0))), (q3, .inl (cA 1, 12, .inl (fun _ => 0))), (q4, .inl (cA 1, 4, .inl (fun _ => 0))), (q5, .inl (cA 1, 4, .inl (fun _ => 0))), (q6, .inl (cA 1, 4, .inl (fun _ => 0))), (q7, .inl (cA 1, 4, .inl (fun _ => 0))), (q8, .inl (cA 1, 8, .inl (fun _ => 0))), (q9, .inl (cA 1, 8, .inl (fun _ => 0))), (q10, .inl (cA 1, 8, .inl (fun _ => 0)))] H := hP
  have hD : va_D A [(h0, .inr (0, [.int 0, .int 0, .int 0, .int 0, .int 0, .int 0, .int 0, .ref q1, .ref q2, .ref q3, .ref q4, .ref q5, .ref q6, .ref q7, .ref q8, .ref q9, .ref q10])), (q1, .inl (cA 1, 12, .inl (fun _ => 0))), (q2, .inl (cA 1, 12, .inl (fun _ => 0))), (q3, .inl (cA 1, 12, .inl (fun _ => 0))), (q4, .inl (cA 1, 4, .inl (fun _ => 0))), (q5, .inl (cA 1, 4, .inl (fun _ => 0))), (q6, .inl (cA 1, 4, .inl (fun _ => 0))), (q7, .inl (cA 1, 4, .inl (fun _ => 0))), (q8, .inl (cA 1, 8, .inl (fun _ => 0))), (q9, .inl (cA 1, 8, .inl (fun _ => 0))), (q10, .inl (cA 1, 8, .inl (fun _ => 0)))] := hD
  refine lv_aload_n hx hb kd0_80 rfl (lv_at hl 0 rfl) ?_
  obtain ⟨τ, hc, -, hz0⟩ := L_clear 0 (fun _ _ _ _ => 0)
  have hP : va_P (dC, dI) vwCl (zws cA (fun n => kz11 h0 q1 q2 q3 q4 q5 q6 q7 q8 q9 q10 n.2.2) kzn (fun _ _ _ _ => 0)) H := hP
  have hD : va_D A (zws cA (fun n => kz11 h0 q1 q2 q3 q4 q5 q6 q7 q8 q9 q10 n.2.2) kzn (fun _ _ _ _ => 0)) := hD
  have hw := kzn_wf hD
  refine kz_call (mi := 0) (q := 0) (n := (1, 0, 0)) (idx := 42) hw hx hb hml hown hts hK (by decide +kernel) (by decide) (by decide) rfl rfl (by decide) rfl rfl rfl (by decide +kernel) (hts (.methodLink RX0 42 (zyn 0)) (zTBm (i := 115) (by decide +kernel) rfl)) (Nat.le_of_ble_eq_true rfl) (Nat.le_of_ble_eq_true rfl) (Nat.le_of_ble_eq_true rfl) (Nat.le_of_ble_eq_true rfl) hl.1 hc hP hS kd0_81 (fun H locs hP hS => ?_)
  have hD := zD (cA := cA) hw τ
  rw [kzh_eq (u := kz11 h0 q1 q2 q3 q4 q5 q6 q7 q8 q9 q10)] at hP hD
  refine W.widen (k := 10) (n := 76) (Nat.le_of_ble_eq_true rfl) (Nat.le_of_ble_eq_true rfl) ?_
  exact W.vret hx hb hr (fun t ht hW => ⟨⟨(kz11 h0 q1 q2 q3 q4 q5 q6 q7 q8 q9 q10, τ 1 0), rfl, ⟨rfl, hz0⟩, by rw [ht]; exact hP, hD⟩, hS.F ht⟩) hS.2.2 kd0_84
abbrev kc1 : ByteArray := prog_3_method_1_code
def ky1 : MethodName := ⟨RX1, "<init>", "()V"⟩
theorem kd1_0 : decode kc1 0 = .ok (.aload_n 0, 1) := by decide +kernel
theorem kd1_1 : decode kc1 1 = .ok (.invokespecial 3, 3) := by decide +kernel
theorem kd1_4 : decode kc1 4 = .ok (.aload_n 0, 1) := by decide +kernel
theorem kd1_5 : decode kc1 5 = .ok (.bipush 8, 2) := by decide +kernel
theorem kd1_7 : decode kc1 7 = .ok (.newarray .int, 2) := by decide +kernel
theorem kd1_9 : decode kc1 9 = .ok (.putfield 9, 3) := by decide +kernel
theorem kd1_12 : decode kc1 12 = .ok (.return_, 1) := by decide +kernel
theorem kw1 : Cond.code ky1 kc1 1 none ∈ zTB := (zTBm (i := 256) (by decide +kernel) rfl)
def kf1 : List Value := [.null, .int 0]
theorem kD1 : ∀ j, j < zfn 1 → defaultValue (zY 1 j) = vp_V kf1 j := fun j hj => by match j, hj with
  | 0, _ => rfl
  | 1, _ => rfl
  | j + 2, hj => exact absurd hj (Nat.not_lt.mpr (Nat.le_add_left _ _))
def kr1 : Room := { frames := 1, cells := 1, slots := 8, locals := 12 }
set_option maxHeartbeats 4000000 in
set_option maxRecDepth 100000 in
theorem kC1 (l : Launch) (dC : Nat → ClassId) (dI : Nat → Nat → Nat) (cA : Nat → ClassId) : kz_Con l (dC, dI) cA (fun _ => True) ky1 kc1 1 kr1 1 kf1 (fun h0 (u : Nat × Nat) => u.1 = h0) (fun u => [(u.1, .inr (1, [.ref u.2, .int 0])), (u.2, .inl (cA 1, 8, .inl (fun _ => 0)))]) := by
  unfold kz_Con
  intro h0 sz
  refine Met.ofW (cc := kc1) (maxL := 1) (ret := none) (by decide) rfl ?_
  intro p e s m args below meth c s₁ B hml hv
  obtain ⟨rfl, hsz, hP, hK, hX⟩ := hv
  have hx := B.exec
  have hb := B.bytes
  have hr := B.returns
  have hts0 := atoms_spec (ws := Cond.code ky1 kc1 1 none :: zTB) B.pre
  have hts : ∀ w ∈ zTB, w.before _ s = true := fun w hw => hts0 w (List.mem_cons_of_mem _ hw)
  have hown : s.vm.findClass RX1 = some m.cls := findClass_of_methodNamed B.named
  have hlocks := B.notSynchronized
  have hin : meth.name = "<init>" := (name_of_methodNamed B.named B.method).1
  subst hsz
  have hD := kz_D1 (h0 := h0) (sz := s.heap.size) (e := .inr (1, kf1))
  generalize hAe : va_A [(h0, .inr (1, kf1))] s.heap.size = A at hD ⊢
  have hA : ∀ q : Nat, s.heap.size ≤ q → A q := fun q h => by rw [← hAe]; exact Or.inr h
  have hS : va_S A s.heap s.heap [] := va_S.rf
  have hl := lv_entry ([.ref h0]) (n := 1) (Nat.le_of_ble_eq_true rfl)
  rw [lg_entry_eq]
  generalize (lg_sl ([.ref h0]) ++ List.replicate (1 - (lg_sl ([.ref h0])).length) Slot.unset).toArray = ls at hl ⊢
  have hl : lv_has ls 1 [(0, .ref h0)] := hl
  have hP : va_P (dC, dI) vwCl [(h0, .inr (1, [.null, .int 0]))] s.heap := hP
  have hD : va_D A [(h0, .inr (1, [.null, .int 0]))] := hD
  refine lv_aload_n hx hb kd1_0 rfl (lv_at hl 0 rfl) ?_
  refine W.objInit hx hb hown (hts (.methodLink RX1 3 objectInit) (zTBm (i := 257) (by decide +kernel) rfl)) (hts (.instanceMethod objectInit) (zTBm (i := 84) (by decide +kernel) rfl)) (hts (.code objectInit ⟨#[0xb1]⟩ 1 none) (zTBm (i := 85) (by decide +kernel) rfl)) rfl (by rw [hml]; exact hl.1) rfl kd1_1 (Nat.le_of_ble_eq_true rfl) (Nat.le_of_ble_eq_true rfl) ?_
  refine W.eq (g2 := F0 m 4 ls []) rfl ?_
  refine lv_aload_n hx hb kd1_4 rfl (lv_at hl 0 rfl) ?_
  refine lv_bipush (v := 8) hx hb kd1_5 (by decide) ?_
  refine kz_newa (atype := .int) (ty := .int) (n := 8) (N' := 8) hx hb (hts (.arrayClass .int) (zTBm (i := 207) (by decide +kernel) rfl)) rfl rfl 0 (ca := cA 1) rfl hK hP hD hS hA (by decide) (by decide) (Nat.le_of_ble_eq_true rfl) (Nat.le_of_ble_eq_true rfl) (Nat.le_of_ble_eq_true rfl) kd1_7 (fun q1 H hP hD hS => ?_)
  have hP : va_P (dC, dI) vwCl [(h0, .inr (1, [.null, .int 0])), (q1, .inl (cA 1, 8, .inl (fun _ => 0)))] H := hP
  have hD : va_D A [(h0, .inr (1, [.null, .int 0])), (q1, .inl (cA 1, 8, .inl (fun _ => 0)))] := hD
  refine va_putF (D := (dC, dI)) (ci := 1) (v := .ref q1) (ty := .array .int) (C := RX1) (T := TX1) (N := 2) hx hb hts (zin 1 (by decide)) (zY 1) (zY_ok 1 (by decide)) (znm_ok 1 (by decide)) hown hK hP hD hS 0 rfl rfl 0 (by decide) (hts (.fieldLink RX1 9 "SeatCast$Night" "speaker" "[I") (zTBm (i := 258) (by decide +kernel) rfl)) (fun _ h9 => h9) rfl hin rfl (by decide +kernel) rfl rfl (Nat.le_of_ble_eq_true rfl) kd1_9 (fun H locs hP hD hS => ?_)
  have hP : va_P (dC, dI) vwCl [(h0, .inr (1, [.ref q1, .int 0])), (q1, .inl (cA 1, 8, .inl (fun _ => 0)))] H := hP
  have hD : va_D A [(h0, .inr (1, [.ref q1, .int 0])), (q1, .inl (cA 1, 8, .inl (fun _ => 0)))] := hD
  refine W.widen (k := 1) (n := 8) (Nat.le_of_ble_eq_true rfl) (Nat.le_of_ble_eq_true rfl) ?_
  exact W.vret hx hb hr (fun t ht hW => ⟨⟨(h0, q1), rfl, rfl, by rw [ht]; exact hP, hD⟩, hS.F ht⟩) hS.2.2 kd1_12
abbrev kc3 : ByteArray := prog_5_method_1_code
def ky3 : MethodName := ⟨RX3, "<init>", "()V"⟩
theorem kd3_0 : decode kc3 0 = .ok (.aload_n 0, 1) := by decide +kernel
theorem kd3_1 : decode kc3 1 = .ok (.invokespecial 3, 3) := by decide +kernel
theorem kd3_4 : decode kc3 4 = .ok (.aload_n 0, 1) := by decide +kernel
theorem kd3_5 : decode kc3 5 = .ok (.iconst 4, 1) := by decide +kernel
theorem kd3_6 : decode kc3 6 = .ok (.newarray .int, 2) := by decide +kernel
theorem kd3_8 : decode kc3 8 = .ok (.putfield 9, 3) := by decide +kernel
theorem kd3_11 : decode kc3 11 = .ok (.aload_n 0, 1) := by decide +kernel
theorem kd3_12 : decode kc3 12 = .ok (.iconst 4, 1) := by decide +kernel
theorem kd3_13 : decode kc3 13 = .ok (.newarray .int, 2) := by decide +kernel
theorem kd3_15 : decode kc3 15 = .ok (.putfield 15, 3) := by decide +kernel
theorem kd3_18 : decode kc3 18 = .ok (.return_, 1) := by decide +kernel
theorem kw3 : Cond.code ky3 kc3 1 none ∈ zTB := (zTBm (i := 271) (by decide +kernel) rfl)
def kf3 : List Value := [.null, .null, .int 0, .int 0]
theorem kD3 : ∀ j, j < zfn 3 → defaultValue (zY 3 j) = vp_V kf3 j := fun j hj => by match j, hj with
  | 0, _ => rfl
  | 1, _ => rfl
  | 2, _ => rfl
  | 3, _ => rfl
  | j + 4, hj => exact absurd hj (Nat.not_lt.mpr (Nat.le_add_left _ _))
def kr3 : Room := { frames := 1, cells := 2, slots := 8, locals := 12 }
set_option maxHeartbeats 4000000 in
set_option maxRecDepth 100000 in
theorem kC3 (l : Launch) (dC : Nat → ClassId) (dI : Nat → Nat → Nat) (cA : Nat → ClassId) : kz_Con l (dC, dI) cA (fun _ => True) ky3 kc3 1 kr3 3 kf3 (fun h0 (u : Nat × Nat × Nat) => u.1 = h0) (fun u => [(u.1, .inr (3, [.ref u.2.1, .ref u.2.2, .int 0, .int 0])), (u.2.1, .inl (cA 1, 4, .inl (fun _ => 0))), (u.2.2, .inl (cA 1, 4, .inl (fun _ => 0)))]) := by
  unfold kz_Con
  intro h0 sz
  refine Met.ofW (cc := kc3) (maxL := 1) (ret := none) (by decide) rfl ?_
  intro p e s m args below meth c s₁ B hml hv
  obtain ⟨rfl, hsz, hP, hK, hX⟩ := hv
  have hx := B.exec
  have hb := B.bytes
  have hr := B.returns
  have hts0 := atoms_spec (ws := Cond.code ky3 kc3 1 none :: zTB) B.pre
  have hts : ∀ w ∈ zTB, w.before _ s = true := fun w hw => hts0 w (List.mem_cons_of_mem _ hw)
  have hown : s.vm.findClass RX3 = some m.cls := findClass_of_methodNamed B.named
  have hlocks := B.notSynchronized
  have hin : meth.name = "<init>" := (name_of_methodNamed B.named B.method).1
  subst hsz
  have hD := kz_D1 (h0 := h0) (sz := s.heap.size) (e := .inr (3, kf3))
  generalize hAe : va_A [(h0, .inr (3, kf3))] s.heap.size = A at hD ⊢
  have hA : ∀ q : Nat, s.heap.size ≤ q → A q := fun q h => by rw [← hAe]; exact Or.inr h
  have hS : va_S A s.heap s.heap [] := va_S.rf
  have hl := lv_entry ([.ref h0]) (n := 1) (Nat.le_of_ble_eq_true rfl)
  rw [lg_entry_eq]
  generalize (lg_sl ([.ref h0]) ++ List.replicate (1 - (lg_sl ([.ref h0])).length) Slot.unset).toArray = ls at hl ⊢
  have hl : lv_has ls 1 [(0, .ref h0)] := hl
  have hP : va_P (dC, dI) vwCl [(h0, .inr (3, [.null, .null, .int 0, .int 0]))] s.heap := hP
  have hD : va_D A [(h0, .inr (3, [.null, .null, .int 0, .int 0]))] := hD
  refine lv_aload_n hx hb kd3_0 rfl (lv_at hl 0 rfl) ?_
  refine W.objInit hx hb hown (hts (.methodLink RX3 3 objectInit) (zTBm (i := 272) (by decide +kernel) rfl)) (hts (.instanceMethod objectInit) (zTBm (i := 84) (by decide +kernel) rfl)) (hts (.code objectInit ⟨#[0xb1]⟩ 1 none) (zTBm (i := 85) (by decide +kernel) rfl)) rfl (by rw [hml]; exact hl.1) rfl kd3_1 (Nat.le_of_ble_eq_true rfl) (Nat.le_of_ble_eq_true rfl) ?_
  refine W.eq (g2 := F0 m 4 ls []) rfl ?_
  refine lv_aload_n hx hb kd3_4 rfl (lv_at hl 0 rfl) ?_
  refine lv_iconst (v := 4) hx hb kd3_5 (by decide) ?_
  refine kz_newa (atype := .int) (ty := .int) (n := 4) (N' := 4) hx hb (hts (.arrayClass .int) (zTBm (i := 207) (by decide +kernel) rfl)) rfl rfl 0 (ca := cA 1) rfl hK hP hD hS hA (by decide) (by decide) (Nat.le_of_ble_eq_true rfl) (Nat.le_of_ble_eq_true rfl) (Nat.le_of_ble_eq_true rfl) kd3_6 (fun q1 H hP hD hS => ?_)
  have hP : va_P (dC, dI) vwCl [(h0, .inr (3, [.null, .null, .int 0, .int 0])), (q1, .inl (cA 1, 4, .inl (fun _ => 0)))] H := hP
  have hD : va_D A [(h0, .inr (3, [.null, .null, .int 0, .int 0])), (q1, .inl (cA 1, 4, .inl (fun _ => 0)))] := hD
  refine va_putF (D := (dC, dI)) (ci := 3) (v := .ref q1) (ty := .array .int) (C := RX3) (T := TX3) (N := 4) hx hb hts (zin 3 (by decide)) (zY 3) (zY_ok 3 (by decide)) (znm_ok 3 (by decide)) hown hK hP hD hS 0 rfl rfl 0 (by decide) (hts (.fieldLink RX3 9 "SeatCast$Seatings" "movers" "[I") (zTBm (i := 273) (by decide +kernel) rfl)) (fun _ h9 => h9) rfl hin rfl (by decide +kernel) rfl rfl (Nat.le_of_ble_eq_true rfl) kd3_8 (fun H locs hP hD hS => ?_)
  have hP : va_P (dC, dI) vwCl [(h0, .inr (3, [.ref q1, .null, .int 0, .int 0])), (q1, .inl (cA 1, 4, .inl (fun _ => 0)))] H := hP
  have hD : va_D A [(h0, .inr (3, [.ref q1, .null, .int 0, .int 0])), (q1, .inl (cA 1, 4, .inl (fun _ => 0)))] := hD
  refine lv_aload_n hx hb kd3_11 rfl (lv_at hl 0 rfl) ?_
  refine lv_iconst (v := 4) hx hb kd3_12 (by decide) ?_
  refine kz_newa (atype := .int) (ty := .int) (n := 4) (N' := 4) hx hb (hts (.arrayClass .int) (zTBm (i := 207) (by decide +kernel) rfl)) rfl rfl 0 (ca := cA 1) rfl hK hP hD hS hA (by decide) (by decide) (Nat.le_of_ble_eq_true rfl) (Nat.le_of_ble_eq_true rfl) (Nat.le_of_ble_eq_true rfl) kd3_13 (fun q2 H hP hD hS => ?_)
  have hP : va_P (dC, dI) vwCl [(h0, .inr (3, [.ref q1, .null, .int 0, .int 0])), (q1, .inl (cA 1, 4, .inl (fun _ => 0))), (q2, .inl (cA 1, 4, .inl (fun _ => 0)))] H := hP
  have hD : va_D A [(h0, .inr (3, [.ref q1, .null, .int 0, .int 0])), (q1, .inl (cA 1, 4, .inl (fun _ => 0))), (q2, .inl (cA 1, 4, .inl (fun _ => 0)))] := hD
  refine va_putF (D := (dC, dI)) (ci := 3) (v := .ref q2) (ty := .array .int) (C := RX3) (T := TX3) (N := 4) hx hb hts (zin 3 (by decide)) (zY 3) (zY_ok 3 (by decide)) (znm_ok 3 (by decide)) hown hK hP hD hS 0 rfl rfl 1 (by decide) (hts (.fieldLink RX3 15 "SeatCast$Seatings" "keptSeats" "[I") (zTBm (i := 274) (by decide +kernel) rfl)) (fun _ h9 => h9) rfl hin rfl (by decide +kernel) rfl rfl (Nat.le_of_ble_eq_true rfl) kd3_15 (fun H locs hP hD hS => ?_)
  have hP : va_P (dC, dI) vwCl [(h0, .inr (3, [.ref q1, .ref q2, .int 0, .int 0])), (q1, .inl (cA 1, 4, .inl (fun _ => 0))), (q2, .inl (cA 1, 4, .inl (fun _ => 0)))] H := hP
  have hD : va_D A [(h0, .inr (3, [.ref q1, .ref q2, .int 0, .int 0])), (q1, .inl (cA 1, 4, .inl (fun _ => 0))), (q2, .inl (cA 1, 4, .inl (fun _ => 0)))] := hD
  refine W.widen (k := 2) (n := 8) (Nat.le_of_ble_eq_true rfl) (Nat.le_of_ble_eq_true rfl) ?_
  exact W.vret hx hb hr (fun t ht hW => ⟨⟨(h0, q1, q2), rfl, rfl, by rw [ht]; exact hP, hD⟩, hS.F ht⟩) hS.2.2 kd3_18
abbrev kc4 : ByteArray := prog_6_method_1_code
def ky4 : MethodName := ⟨RX4, "<init>", "()V"⟩
theorem kd4_0 : decode kc4 0 = .ok (.aload_n 0, 1) := by decide +kernel
theorem kd4_1 : decode kc4 1 = .ok (.invokespecial 3, 3) := by decide +kernel
theorem kd4_4 : decode kc4 4 = .ok (.aload_n 0, 1) := by decide +kernel
theorem kd4_5 : decode kc4 5 = .ok (.bipush 40, 2) := by decide +kernel
theorem kd4_7 : decode kc4 7 = .ok (.newarray .int, 2) := by decide +kernel
theorem kd4_9 : decode kc4 9 = .ok (.putfield 9, 3) := by decide +kernel
theorem kd4_12 : decode kc4 12 = .ok (.aload_n 0, 1) := by decide +kernel
theorem kd4_13 : decode kc4 13 = .ok (.bipush (-4), 2) := by decide +kernel
theorem kd4_15 : decode kc4 15 = .ok (.putfield 15, 3) := by decide +kernel
theorem kd4_18 : decode kc4 18 = .ok (.return_, 1) := by decide +kernel
theorem kw4 : Cond.code ky4 kc4 1 none ∈ zTB := (zTBm (i := 293) (by decide +kernel) rfl)
def kf4 : List Value := [.null, .int 0, .int 0]
theorem kD4 : ∀ j, j < zfn 4 → defaultValue (zY 4 j) = vp_V kf4 j := fun j hj => by match j, hj with
  | 0, _ => rfl
  | 1, _ => rfl
  | 2, _ => rfl
  | j + 3, hj => exact absurd hj (Nat.not_lt.mpr (Nat.le_add_left _ _))
def kr4 : Room := { frames := 1, cells := 1, slots := 40, locals := 12 }
set_option maxHeartbeats 4000000 in
set_option maxRecDepth 100000 in
theorem kC4 (l : Launch) (dC : Nat → ClassId) (dI : Nat → Nat → Nat) (cA : Nat → ClassId) : kz_Con l (dC, dI) cA (fun _ => True) ky4 kc4 1 kr4 4 kf4 (fun h0 (u : Nat × Nat) => u.1 = h0) (fun u => [(u.1, .inr (4, [.ref u.2, .int (-4), .int 0])), (u.2, .inl (cA 1, 40, .inl (fun _ => 0)))]) := by
  unfold kz_Con
  intro h0 sz
  refine Met.ofW (cc := kc4) (maxL := 1) (ret := none) (by decide) rfl ?_
  intro p e s m args below meth c s₁ B hml hv
  obtain ⟨rfl, hsz, hP, hK, hX⟩ := hv
  have hx := B.exec
  have hb := B.bytes
  have hr := B.returns
  have hts0 := atoms_spec (ws := Cond.code ky4 kc4 1 none :: zTB) B.pre
  have hts : ∀ w ∈ zTB, w.before _ s = true := fun w hw => hts0 w (List.mem_cons_of_mem _ hw)
  have hown : s.vm.findClass RX4 = some m.cls := findClass_of_methodNamed B.named
  have hlocks := B.notSynchronized
  have hin : meth.name = "<init>" := (name_of_methodNamed B.named B.method).1
  subst hsz
  have hD := kz_D1 (h0 := h0) (sz := s.heap.size) (e := .inr (4, kf4))
  generalize hAe : va_A [(h0, .inr (4, kf4))] s.heap.size = A at hD ⊢
  have hA : ∀ q : Nat, s.heap.size ≤ q → A q := fun q h => by rw [← hAe]; exact Or.inr h
  have hS : va_S A s.heap s.heap [] := va_S.rf
  have hl := lv_entry ([.ref h0]) (n := 1) (Nat.le_of_ble_eq_true rfl)
  rw [lg_entry_eq]
  generalize (lg_sl ([.ref h0]) ++ List.replicate (1 - (lg_sl ([.ref h0])).length) Slot.unset).toArray = ls at hl ⊢
  have hl : lv_has ls 1 [(0, .ref h0)] := hl
  have hP : va_P (dC, dI) vwCl [(h0, .inr (4, [.null, .int 0, .int 0]))] s.heap := hP
  have hD : va_D A [(h0, .inr (4, [.null, .int 0, .int 0]))] := hD
  refine lv_aload_n hx hb kd4_0 rfl (lv_at hl 0 rfl) ?_
  refine W.objInit hx hb hown (hts (.methodLink RX4 3 objectInit) (zTBm (i := 294) (by decide +kernel) rfl)) (hts (.instanceMethod objectInit) (zTBm (i := 84) (by decide +kernel) rfl)) (hts (.code objectInit ⟨#[0xb1]⟩ 1 none) (zTBm (i := 85) (by decide +kernel) rfl)) rfl (by rw [hml]; exact hl.1) rfl kd4_1 (Nat.le_of_ble_eq_true rfl) (Nat.le_of_ble_eq_true rfl) ?_
  refine W.eq (g2 := F0 m 4 ls []) rfl ?_
  refine lv_aload_n hx hb kd4_4 rfl (lv_at hl 0 rfl) ?_
  refine lv_bipush (v := 40) hx hb kd4_5 (by decide) ?_
  refine kz_newa (atype := .int) (ty := .int) (n := 40) (N' := 40) hx hb (hts (.arrayClass .int) (zTBm (i := 207) (by decide +kernel) rfl)) rfl rfl 0 (ca := cA 1) rfl hK hP hD hS hA (by decide) (by decide) (Nat.le_of_ble_eq_true rfl) (Nat.le_of_ble_eq_true rfl) (Nat.le_of_ble_eq_true rfl) kd4_7 (fun q1 H hP hD hS => ?_)
  have hP : va_P (dC, dI) vwCl [(h0, .inr (4, [.null, .int 0, .int 0])), (q1, .inl (cA 1, 40, .inl (fun _ => 0)))] H := hP
  have hD : va_D A [(h0, .inr (4, [.null, .int 0, .int 0])), (q1, .inl (cA 1, 40, .inl (fun _ => 0)))] := hD
  refine va_putF (D := (dC, dI)) (ci := 4) (v := .ref q1) (ty := .array .int) (C := RX4) (T := TX4) (N := 3) hx hb hts (zin 4 (by decide)) (zY 4) (zY_ok 4 (by decide)) (znm_ok 4 (by decide)) hown hK hP hD hS 0 rfl rfl 0 (by decide) (hts (.fieldLink RX4 9 "SeatCast$Sheet" "cells" "[I") (zTBm (i := 295) (by decide +kernel) rfl)) (fun _ h9 => h9) rfl hin rfl (by decide +kernel) rfl rfl (Nat.le_of_ble_eq_true rfl) kd4_9 (fun H locs hP hD hS => ?_)
  have hP : va_P (dC, dI) vwCl [(h0, .inr (4, [.ref q1, .int 0, .int 0])), (q1, .inl (cA 1, 40, .inl (fun _ => 0)))] H := hP
  have hD : va_D A [(h0, .inr (4, [.ref q1, .int 0, .int 0])), (q1, .inl (cA 1, 40, .inl (fun _ => 0)))] := hD
  refine lv_aload_n hx hb kd4_12 rfl (lv_at hl 0 rfl) ?_
  refine lv_bipush (v := (-4)) hx hb kd4_13 (by decide) ?_
  refine va_put (D := (dC, dI)) (ci := 4) (v := .int (-4)) (ty := .int) (C := RX4) (T := TX4) (N := 3) hx hb hts (zin 4 (by decide)) (zY 4) (zY_ok 4 (by decide)) (znm_ok 4 (by decide)) hown hK hP hD hS 0 rfl rfl 1 (by decide) (hts (.fieldLink RX4 15 "SeatCast$Sheet" "lane" "I") (zTBm (i := 297) (by decide +kernel) rfl)) (fun _ h9 => h9) rfl (by decide +kernel) rfl rfl (Nat.le_of_ble_eq_true rfl) kd4_15 (fun H locs hP hD hS => ?_)
  have hP : va_P (dC, dI) vwCl [(h0, .inr (4, [.ref q1, .int (-4), .int 0])), (q1, .inl (cA 1, 40, .inl (fun _ => 0)))] H := hP
  have hD : va_D A [(h0, .inr (4, [.ref q1, .int (-4), .int 0])), (q1, .inl (cA 1, 40, .inl (fun _ => 0)))] := hD
  refine W.widen (k := 1) (n := 40) (Nat.le_of_ble_eq_true rfl) (Nat.le_of_ble_eq_true rfl) ?_
  exact W.vret hx hb hr (fun t ht hW => ⟨⟨(h0, q1), rfl, rfl, by rw [ht]; exact hP, hD⟩, hS.F ht⟩) hS.2.2 kd4_18
abbrev kc5 : ByteArray := prog_7_method_1_code
def ky5 : MethodName := ⟨RX5, "<init>", "()V"⟩
theorem kd5_0 : decode kc5 0 = .ok (.aload_n 0, 1) := by decide +kernel
theorem kd5_1 : decode kc5 1 = .ok (.invokespecial 3, 3) := by decide +kernel
theorem kd5_4 : decode kc5 4 = .ok (.aload_n 0, 1) := by decide +kernel
theorem kd5_5 : decode kc5 5 = .ok (.sipush 160, 3) := by decide +kernel
theorem kd5_8 : decode kc5 8 = .ok (.newarray .byte, 2) := by decide +kernel
theorem kd5_10 : decode kc5 10 = .ok (.putfield 9, 3) := by decide +kernel
theorem kd5_13 : decode kc5 13 = .ok (.return_, 1) := by decide +kernel
theorem kw5 : Cond.code ky5 kc5 1 none ∈ zTB := (zTBm (i := 96) (by decide +kernel) rfl)
def kf5 : List Value := [.null, .int 0]
theorem kD5 : ∀ j, j < zfn 5 → defaultValue (zY 5 j) = vp_V kf5 j := fun j hj => by match j, hj with
  | 0, _ => rfl
  | 1, _ => rfl
  | j + 2, hj => exact absurd hj (Nat.not_lt.mpr (Nat.le_add_left _ _))
def kr5 : Room := { frames := 1, cells := 1, slots := 160, locals := 12 }
set_option maxHeartbeats 4000000 in
set_option maxRecDepth 100000 in
theorem kC5 (l : Launch) (dC : Nat → ClassId) (dI : Nat → Nat → Nat) (cA : Nat → ClassId) : kz_Con l (dC, dI) cA (fun _ => True) ky5 kc5 1 kr5 5 kf5 (fun h0 (u : Nat × Nat) => u.1 = h0) (fun u => [(u.1, .inr (5, [.ref u.2, .int 0])), (u.2, .inl (cA 2, 160, .inl (fun _ => 0)))]) := by
  unfold kz_Con
  intro h0 sz
  refine Met.ofW (cc := kc5) (maxL := 1) (ret := none) (by decide) rfl ?_
  intro p e s m args below meth c s₁ B hml hv
  obtain ⟨rfl, hsz, hP, hK, hX⟩ := hv
  have hx := B.exec
  have hb := B.bytes
  have hr := B.returns
  have hts0 := atoms_spec (ws := Cond.code ky5 kc5 1 none :: zTB) B.pre
  have hts : ∀ w ∈ zTB, w.before _ s = true := fun w hw => hts0 w (List.mem_cons_of_mem _ hw)
  have hown : s.vm.findClass RX5 = some m.cls := findClass_of_methodNamed B.named
  have hlocks := B.notSynchronized
  have hin : meth.name = "<init>" := (name_of_methodNamed B.named B.method).1
  subst hsz
  have hD := kz_D1 (h0 := h0) (sz := s.heap.size) (e := .inr (5, kf5))
  generalize hAe : va_A [(h0, .inr (5, kf5))] s.heap.size = A at hD ⊢
  have hA : ∀ q : Nat, s.heap.size ≤ q → A q := fun q h => by rw [← hAe]; exact Or.inr h
  have hS : va_S A s.heap s.heap [] := va_S.rf
  have hl := lv_entry ([.ref h0]) (n := 1) (Nat.le_of_ble_eq_true rfl)
  rw [lg_entry_eq]
  generalize (lg_sl ([.ref h0]) ++ List.replicate (1 - (lg_sl ([.ref h0])).length) Slot.unset).toArray = ls at hl ⊢
  have hl : lv_has ls 1 [(0, .ref h0)] := hl
  have hP : va_P (dC, dI) vwCl [(h0, .inr (5, [.null, .int 0]))] s.heap := hP
  have hD : va_D A [(h0, .inr (5, [.null, .int 0]))] := hD
  refine lv_aload_n hx hb kd5_0 rfl (lv_at hl 0 rfl) ?_
  refine W.objInit hx hb hown (hts (.methodLink RX5 3 objectInit) (zTBm (i := 97) (by decide +kernel) rfl)) (hts (.instanceMethod objectInit) (zTBm (i := 84) (by decide +kernel) rfl)) (hts (.code objectInit ⟨#[0xb1]⟩ 1 none) (zTBm (i := 85) (by decide +kernel) rfl)) rfl (by rw [hml]; exact hl.1) rfl kd5_1 (Nat.le_of_ble_eq_true rfl) (Nat.le_of_ble_eq_true rfl) ?_
  refine W.eq (g2 := F0 m 4 ls []) rfl ?_
  refine lv_aload_n hx hb kd5_4 rfl (lv_at hl 0 rfl) ?_
  refine lv_sipush (v := 160) hx hb kd5_5 (by decide) ?_
  refine kz_newa (atype := .byte) (ty := .byte) (n := 160) (N' := 160) hx hb (hts (.arrayClass .byte) (zTBm (i := 108) (by decide +kernel) rfl)) rfl rfl 1 (ca := cA 2) rfl hK hP hD hS hA (by decide) (by decide) (Nat.le_of_ble_eq_true rfl) (Nat.le_of_ble_eq_true rfl) (Nat.le_of_ble_eq_true rfl) kd5_8 (fun q1 H hP hD hS => ?_)
  have hP : va_P (dC, dI) vwCl [(h0, .inr (5, [.null, .int 0])), (q1, .inl (cA 2, 160, .inl (fun _ => 0)))] H := hP
  have hD : va_D A [(h0, .inr (5, [.null, .int 0])), (q1, .inl (cA 2, 160, .inl (fun _ => 0)))] := hD
  refine va_putF (D := (dC, dI)) (ci := 5) (v := .ref q1) (ty := .array .byte) (C := RX5) (T := TX5) (N := 2) hx hb hts (zin 5 (by decide)) (zY 5) (zY_ok 5 (by decide)) (znm_ok 5 (by decide)) hown hK hP hD hS 0 rfl rfl 0 (by decide) (hts (.fieldLink RX5 9 "SeatCast$Tape" "bytes" "[B") (zTBm (i := 98) (by decide +kernel) rfl)) (fun _ h9 => h9) rfl hin rfl (by decide +kernel) rfl rfl (Nat.le_of_ble_eq_true rfl) kd5_10 (fun H locs hP hD hS => ?_)
  have hP : va_P (dC, dI) vwCl [(h0, .inr (5, [.ref q1, .int 0])), (q1, .inl (cA 2, 160, .inl (fun _ => 0)))] H := hP
  have hD : va_D A [(h0, .inr (5, [.ref q1, .int 0])), (q1, .inl (cA 2, 160, .inl (fun _ => 0)))] := hD
  refine W.widen (k := 1) (n := 160) (Nat.le_of_ble_eq_true rfl) (Nat.le_of_ble_eq_true rfl) ?_
  exact W.vret hx hb hr (fun t ht hW => ⟨⟨(h0, q1), rfl, rfl, by rw [ht]; exact hP, hD⟩, hS.F ht⟩) hS.2.2 kd5_13
