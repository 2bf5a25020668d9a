/-! CONSTRUCTORS (by wip/gen/gen32.py): SeatCastModel -/
def kz13 (a0 : Nat) (a1 : Nat) (a2 : Nat) (a3 : Nat) (a4 : Nat) (a5 : Nat) (a6 : Nat) (a7 : Nat) (a8 : Nat) (a9 : Nat) (a10 : Nat) (a11 : Nat) (a12 : Nat) (j : Nat) : Nat := match j with
  | 0 => a0
  | 1 => a1
  | 2 => a2
  | 3 => a3
  | 4 => a4
  | 5 => a5
  | 6 => a6
  | 7 => a7
  | 8 => a8
  | 9 => a9
  | 10 => a10
  | 11 => a11
  | _ => a12
def kzM : List ZN := [(3, 0, 0), (3, 0, 1), (3, 0, 2), (3, 0, 3), (3, 0, 4), (3, 0, 5), (3, 0, 6), (3, 0, 7), (3, 0, 8), (3, 0, 9), (3, 0, 10), (3, 0, 11), (3, 0, 12)]
def kzln : Nat → Int32 := upd (upd (upd (upd (fun _ => 0) (0 : Int32).toNatClampNeg (-4)) (1 : Int32).toNatClampNeg (-4)) (2 : Int32).toNatClampNeg (-4)) (3 : Int32).toNatClampNeg (-4)
def kzm0 : ZS := fun _ _ j => match j with
  | 9 => kzln
  | _ => fun _ => 0
theorem zrf_m : ∀ (j k : Nat) (t : ZN), zrf 3 0 j k = some t → t ∈ kzM := by
  intro j k t h
  match k, h with
  | 0, h => cases h; decide
  | 1, h => cases h; decide
  | 2, h => cases h; decide
  | 3, h => cases h
  | 4, h => cases h
  | 5, h => cases h
  | 6, h => cases h
  | 7, h => cases h; decide
  | 8, h => cases h; decide
  | 9, h => cases h
  | 10, h => cases h
  | 11, h => cases h
  | 12, h => cases h
  | 13, h => cases h; decide
  | 14, h => cases h
  | 15, h => cases h
  | 16, h => cases h
  | 17, h => cases h
  | 18, h => cases h; decide
  | 19, h => cases h
  | 20, h => cases h
  | 21, h => cases h
  | 22, h => cases h
  | 23, h => cases h
  | 24, h => cases h
  | 25, h => cases h
  | 26, h => cases h; decide
  | 27, h => cases h; decide
  | 28, h => cases h; decide
  | 29, h => cases h; decide
  | 30, h => cases h
  | 31, h => cases h; decide
  | k + 32, h => cases h
theorem kzM_1 : ∀ n ∈ kzM, n.1 = 3 ∧ n.2.1 = 0 := by decide +kernel
theorem kzM_t : ∀ n ∈ kzM, ¬ (zty n.1 n.2.2 = 4 ∨ zty n.1 n.2.2 = 5) := by decide +kernel
theorem kzM_wf {cA : Nat → ClassId} {u : Nat → Nat} {A : Nat → Prop} {σ : ZS} (hD : va_D A (zws cA (fun n => u n.2.2) kzM σ)) : zwf (fun n => u n.2.2) kzM A := by
  refine kz_wf hD (by decide +kernel) (fun n hn => by rw [(kzM_1 n hn).1]; decide) (fun n hn k t h => ?_) (fun n hn h => absurd h (kzM_t n hn))
  rw [(kzM_1 n hn).1, (kzM_1 n hn).2] at h
  exact zrf_m _ _ _ h
/-- what the constructor of SeatCastModel leaves -/
def kzMP (M : Nat → Nat → Int32) : Prop := (∀ H, zH0 H → zrel H (M 1) 0 0 0 ∧ M 0 3 = H 0 0 ∧ M 0 4 = H 0 1 ∧ M 0 5 = H 0 3 ∧ M 0 6 = H 0 4) ∧ (M 3 0 = 0 ∧ M 3 1 = 0) ∧ (∀ k, k < 4 → M 9 k = -4 ∧ M 10 k = 0) ∧ (∀ i, M 11 i = 0) ∧ M 0 19 = 0 ∧ M 0 24 = 0 ∧ M 0 30 = 0
theorem kz_MP {τ1 τ2 : ZS} (h1 : zcall 117 [zA 3 0 0] kzm0 = some (zI 0, τ1)) (h2 : zcall 118 [zA 3 0 0] τ1 = some (zI 0, τ2)) : kzMP (τ2 3 0) := by
  obtain ⟨τ, -, -, hz⟩ := L_clear 0 (fun _ _ _ _ => 0)
  obtain ⟨υ, a1, a2, a3, a4, a5⟩ := L_firstDraft hz kzm0
  obtain rfl : υ = τ1 := (Prod.mk.inj (Option.some.inj (a1.symm.trans h1))).2
  obtain ⟨ω, z1, z2, z3, z4, z5, z6, z7, z8⟩ := L_keepDraft (σ := υ) (L := 0) (by decide) a4.1.2.2.2
  obtain rfl : ω = τ2 := (Prod.mk.inj (Option.some.inj (z1.symm.trans h2))).2
  have hf : ∀ j, j ≠ 0 → j ≠ 1 → j ≠ 3 → j ≠ 4 → j ≠ 5 → ω 3 0 j = kzm0 3 0 j := fun j c0 c1 c3 c4 c5 => by rw [z2 3 0 j (by omega), a2 3 0 j (by omega)]
  have h0 : ∀ k, 17 < k → ω 3 0 0 k = 0 := fun k hk => by rw [z4 k (by omega), a3 k (Or.inr hk)]; rfl
  refine ⟨fun H hH => ?_, ⟨z7, z8⟩, fun k hk => ?_, fun i => ?_, h0 19 (by decide), h0 24 (by decide), h0 30 (by decide)⟩
  · obtain ⟨υ2, b1, -, -, b4, -⟩ := L_firstDraft hH kzm0
    obtain rfl : υ2 = υ := (Prod.mk.inj (Option.some.inj (b1.symm.trans a1))).2
    obtain ⟨⟨q1, q2, q3, q4⟩, -, ⟨c1, c2, c3, c4, c5, c6⟩, q9⟩ := b4
    refine ⟨⟨fun s hs => ?_, fun p hp => absurd hp (Nat.not_lt_zero _), fun i hi => absurd hi (Nat.not_lt_zero _), ?_, ?_, fun k hk => absurd hk (Nat.not_lt_zero _)⟩, ?_, ?_, ?_, ?_⟩
    · rw [z5 s (by omega), if_neg (by omega)]; exact c1 s hs
    · rw [z5 36 (by decide), if_neg (by decide)]; exact c5
    · rw [z5 37 (by decide), if_neg (by decide), c6]; exact hH.2.2.2.2.2.2.2.1.symm
    · rw [z3.1]; exact q1
    · rw [z3.2.1]; exact q2
    · rw [z3.2.2.1, q3]; exact hH.2.2.2.2.1.symm
    · rw [z3.2.2.2, q4]; exact hH.2.2.2.2.2.1.symm
  · rw [hf 9 (by decide) (by decide) (by decide) (by decide) (by decide), hf 10 (by decide) (by decide) (by decide) (by decide) (by decide)]
    rcases (by omega : k = 0 ∨ k = 1 ∨ k = 2 ∨ k = 3) with rfl | rfl | rfl | rfl <;> exact ⟨by decide +kernel, rfl⟩
  · rw [hf 11 (by decide) (by decide) (by decide) (by decide) (by decide)]; rfl
abbrev kc7 : ByteArray := prog_9_method_1_code
def ky7 : MethodName := ⟨RX7, "<init>", "()V"⟩
theorem kd7_0 : decode kc7 0 = .ok (.aload_n 0, 1) := by decide +kernel
theorem kd7_1 : decode kc7 1 = .ok (.invokespecial 1, 3) := by decide +kernel
theorem kd7_4 : decode kc7 4 = .ok (.aload_n 0, 1) := by decide +kernel
theorem kd7_5 : decode kc7 5 = .ok (.sipush 162, 3) := by decide +kernel
theorem kd7_8 : decode kc7 8 = .ok (.newarray .int, 2) := by decide +kernel
theorem kd7_10 : decode kc7 10 = .ok (.putfield 7, 3) := by decide +kernel
theorem kd7_13 : decode kc7 13 = .ok (.aload_n 0, 1) := by decide +kernel
theorem kd7_14 : decode kc7 14 = .ok (.bipush 54, 2) := by decide +kernel
theorem kd7_16 : decode kc7 16 = .ok (.newarray .int, 2) := by decide +kernel
theorem kd7_18 : decode kc7 18 = .ok (.putfield 13, 3) := by decide +kernel
theorem kd7_21 : decode kc7 21 = .ok (.aload_n 0, 1) := by decide +kernel
theorem kd7_22 : decode kc7 22 = .ok (.iconst 2, 1) := by decide +kernel
theorem kd7_23 : decode kc7 23 = .ok (.newarray .boolean, 2) := by decide +kernel
theorem kd7_25 : decode kc7 25 = .ok (.putfield 16, 3) := by decide +kernel
theorem kd7_28 : decode kc7 28 = .ok (.aload_n 0, 1) := by decide +kernel
theorem kd7_29 : decode kc7 29 = .ok (.bipush 8, 2) := by decide +kernel
theorem kd7_31 : decode kc7 31 = .ok (.newarray .int, 2) := by decide +kernel
theorem kd7_33 : decode kc7 33 = .ok (.putfield 20, 3) := by decide +kernel
theorem kd7_36 : decode kc7 36 = .ok (.aload_n 0, 1) := by decide +kernel
theorem kd7_37 : decode kc7 37 = .ok (.bipush 54, 2) := by decide +kernel
theorem kd7_39 : decode kc7 39 = .ok (.newarray .int, 2) := by decide +kernel
theorem kd7_41 : decode kc7 41 = .ok (.putfield 23, 3) := by decide +kernel
theorem kd7_44 : decode kc7 44 = .ok (.aload_n 0, 1) := by decide +kernel
theorem kd7_45 : decode kc7 45 = .ok (.bipush 8, 2) := by decide +kernel
theorem kd7_47 : decode kc7 47 = .ok (.newarray .int, 2) := by decide +kernel
theorem kd7_49 : decode kc7 49 = .ok (.putfield 26, 3) := by decide +kernel
theorem kd7_52 : decode kc7 52 = .ok (.aload_n 0, 1) := by decide +kernel
theorem kd7_53 : decode kc7 53 = .ok (.sipush 160, 3) := by decide +kernel
theorem kd7_56 : decode kc7 56 = .ok (.newarray .int, 2) := by decide +kernel
theorem kd7_58 : decode kc7 58 = .ok (.putfield 29, 3) := by decide +kernel
theorem kd7_61 : decode kc7 61 = .ok (.aload_n 0, 1) := by decide +kernel
theorem kd7_62 : decode kc7 62 = .ok (.bipush 8, 2) := by decide +kernel
theorem kd7_64 : decode kc7 64 = .ok (.newarray .int, 2) := by decide +kernel
theorem kd7_66 : decode kc7 66 = .ok (.putfield 32, 3) := by decide +kernel
theorem kd7_69 : decode kc7 69 = .ok (.aload_n 0, 1) := by decide +kernel
theorem kd7_70 : decode kc7 70 = .ok (.iconst 4, 1) := by decide +kernel
theorem kd7_71 : decode kc7 71 = .ok (.newarray .int, 2) := by decide +kernel
theorem kd7_73 : decode kc7 73 = .ok (.putfield 35, 3) := by decide +kernel
theorem kd7_76 : decode kc7 76 = .ok (.aload_n 0, 1) := by decide +kernel
theorem kd7_77 : decode kc7 77 = .ok (.iconst 4, 1) := by decide +kernel
theorem kd7_78 : decode kc7 78 = .ok (.newarray .int, 2) := by decide +kernel
theorem kd7_80 : decode kc7 80 = .ok (.putfield 38, 3) := by decide +kernel
theorem kd7_83 : decode kc7 83 = .ok (.aload_n 0, 1) := by decide +kernel
theorem kd7_84 : decode kc7 84 = .ok (.sipush 160, 3) := by decide +kernel
theorem kd7_87 : decode kc7 87 = .ok (.newarray .int, 2) := by decide +kernel
theorem kd7_89 : decode kc7 89 = .ok (.putfield 41, 3) := by decide +kernel
theorem kd7_92 : decode kc7 92 = .ok (.aload_n 0, 1) := by decide +kernel
theorem kd7_93 : decode kc7 93 = .ok (.iconst 4, 1) := by decide +kernel
theorem kd7_94 : decode kc7 94 = .ok (.newarray .int, 2) := by decide +kernel
theorem kd7_96 : decode kc7 96 = .ok (.putfield 44, 3) := by decide +kernel
theorem kd7_99 : decode kc7 99 = .ok (.iconst 0, 1) := by decide +kernel
theorem kd7_100 : decode kc7 100 = .ok (.istore_n 1, 1) := by decide +kernel
theorem kd7_101 : decode kc7 101 = .ok (.iload_n 1, 1) := by decide +kernel
theorem kd7_102 : decode kc7 102 = .ok (.iconst 4, 1) := by decide +kernel
theorem kd7_103 : decode kc7 103 = .ok (.if_icmp .ge 17, 3) := by decide +kernel
theorem kd7_106 : decode kc7 106 = .ok (.aload_n 0, 1) := by decide +kernel
theorem kd7_107 : decode kc7 107 = .ok (.getfield 35, 3) := by decide +kernel
theorem kd7_110 : decode kc7 110 = .ok (.iload_n 1, 1) := by decide +kernel
theorem kd7_111 : decode kc7 111 = .ok (.bipush (-4), 2) := by decide +kernel
theorem kd7_113 : decode kc7 113 = .ok (.iastore, 1) := by decide +kernel
theorem kd7_114 : decode kc7 114 = .ok (.iinc 1 1, 3) := by decide +kernel
theorem kd7_117 : decode kc7 117 = .ok (.goto (-16), 3) := by decide +kernel
theorem kd7_120 : decode kc7 120 = .ok (.aload_n 0, 1) := by decide +kernel
theorem kd7_121 : decode kc7 121 = .ok (.invokevirtual 47, 3) := by decide +kernel
theorem kd7_124 : decode kc7 124 = .ok (.aload_n 0, 1) := by decide +kernel
theorem kd7_125 : decode kc7 125 = .ok (.invokevirtual 50, 3) := by decide +kernel
theorem kd7_128 : decode kc7 128 = .ok (.return_, 1) := by decide +kernel
theorem kw7 : Cond.code ky7 kc7 2 none ∈ zTB := (zTBm (i := 893) (by decide +kernel) rfl)
def kf7 : List Value := [.null, .null, .null, .int 0, .int 0, .int 0, .int 0, .null, .null, .int 0, .int 0, .int 0, .int 0, .null, .int 0, .int 0, .int 0, .int 0, .null, .int 0, .int 0, .int 0, .int 0, .int 0, .int 0, .int 0, .null, .null, .null, .null, .int 0, .null]
theorem kD7 : ∀ j, j < zfn 7 → defaultValue (zY 7 j) = vp_V kf7 j := fun j hj => by match j, hj with
  | 0, _ => rfl
  | 1, _ => rfl
  | 2, _ => rfl
  | 3, _ => rfl
  | 4, _ => rfl
  | 5, _ => rfl
  | 6, _ => rfl
  | 7, _ => rfl
  | 8, _ => rfl
  | 9, _ => rfl
  | 10, _ => rfl
  | 11, _ => rfl
  | 12, _ => rfl
  | 13, _ => rfl
  | 14, _ => rfl
  | 15, _ => rfl
  | 16, _ => rfl
  | 17, _ => rfl
  | 18, _ => rfl
  | 19, _ => rfl
  | 20, _ => rfl
  | 21, _ => rfl
  | 22, _ => rfl
  | 23, _ => rfl
  | 24, _ => rfl
  | 25, _ => rfl
  | 26, _ => rfl
  | 27, _ => rfl
  | 28, _ => rfl
  | 29, _ => rfl
  | 30, _ => rfl
  | 31, _ => rfl
  | j + 32, hj => exact absurd hj (Nat.not_lt.mpr (Nat.le_add_left _ _))
def kr7 : Room := { frames := 2, cells := 12, slots := 628, locals := 33 }
set_option maxHeartbeats 4000000 in
set_option maxRecDepth 100000 in
theorem kC7 (l : Launch) (dC : Nat → ClassId) (dI : Nat → Nat → Nat) (cA : Nat → ClassId) : kz_Con l (dC, dI) cA (fun _ => True) ky7 kc7 2 kr7 7 kf7 (fun h0 (u : (Nat → Nat) × ZS) => u.1 0 = h0 ∧ kzMP (u.2 3 0)) (fun u => zws cA (fun n => u.1 n.2.2) kzM u.2) := by
  unfold kz_Con
  intro h0 sz
  refine Met.ofW (cc := kc7) (maxL := 2) (ret := none) (by decide) rfl ?_
  intro p e s m args below meth c s₁ B hml hv
  obtain ⟨rfl, hsz, hP, hK, hX⟩ := hv
  have hx := B.exec
  have hb := B.bytes
  have hr := B.returns
  have hts0 := atoms_spec (ws := Cond.code ky7 kc7 2 none :: zTB) B.pre
  have hts : ∀ w ∈ zTB, w.before _ s = true := fun w hw => hts0 w (List.mem_cons_of_mem _ hw)
  have hown : s.vm.findClass RX7 = some m.cls := findClass_of_methodNamed B.named
  have hlocks := B.notSynchronized
  have hin : meth.name = "<init>" := (name_of_methodNamed B.named B.method).1
  subst hsz
  have hD := kz_D1 (h0 := h0) (sz := s.heap.size) (e := .inr (7, kf7))
  generalize hAe : va_A [(h0, .inr (7, kf7))] s.heap.size = A at hD ⊢
  have hA : ∀ q : Nat, s.heap.size ≤ q → A q := fun q h => by rw [← hAe]; exact Or.inr h
  have hS : va_S A s.heap s.heap [] := va_S.rf
  have hl := lv_entry ([.ref h0]) (n := 2) (Nat.le_of_ble_eq_true rfl)
  rw [lg_entry_eq]
  generalize (lg_sl ([.ref h0]) ++ List.replicate (2 - (lg_sl ([.ref h0])).length) Slot.unset).toArray = ls at hl ⊢
  have hl : lv_has ls 2 [(0, .ref h0)] := hl
  have hP : va_P (dC, dI) vwCl [(h0, .inr (7, [.null, .null, .null, .int 0, .int 0, .int 0, .int 0, .null, .null, .int 0, .int 0, .int 0, .int 0, .null, .int 0, .int 0, .int 0, .int 0, .null, .int 0, .int 0, .int 0, .int 0, .int 0, .int 0, .int 0, .null, .null, .null, .null, .int 0, .null]))] s.heap := hP
  have hD : va_D A [(h0, .inr (7, [.null, .null, .null, .int 0, .int 0, .int 0, .int 0, .null, .null, .int 0, .int 0, .int 0, .int 0, .null, .int 0, .int 0, .int 0, .int 0, .null, .int 0, .int 0, .int 0, .int 0, .int 0, .int 0, .int 0, .null, .null, .null, .null, .int 0, .null]))] := hD
  refine lv_aload_n hx hb kd7_0 rfl (lv_at hl 0 rfl) ?_
  refine W.objInit hx hb hown (hts (.methodLink RX7 1 objectInit) (zTBm (i := 894) (by decide +kernel) rfl)) (hts (.instanceMethod objectInit) (zTBm (i := 84) (by decide +kernel) rfl)) (hts (.code objectInit ⟨#[0xb1]⟩ 1 none) (zTBm (i := 85) (by decide +kernel) rfl)) rfl (by rw [hml]; exact hl.1) rfl kd7_1 (Nat.le_of_ble_eq_true rfl) (Nat.le_of_ble_eq_true rfl) ?_
  refine W.eq (g2 := F0 m 4 ls []) rfl ?_
  refine lv_aload_n hx hb kd7_4 rfl (lv_at hl 0 rfl) ?_
  refine lv_sipush (v := 162) hx hb kd7_5 (by decide) ?_
  refine kz_newa (atype := .int) (ty := .int) (n := 162) (N' := 162) hx hb (hts (.arrayClass .int) (zTBm (i := 207) (by decide +kernel) rfl)) rfl rfl 0 (ca := cA 1) rfl hK hP hD hS hA (by decide) (by decide) (Nat.le_of_ble_eq_true rfl) (Nat.le_of_ble_eq_true rfl) (Nat.le_of_ble_eq_true rfl) kd7_8 (fun q1 H hP hD hS => ?_)
  have hP : va_P (dC, dI) vwCl [(h0, .inr (7, [.null, .null, .null, .int 0, .int 0, .int 0, .int 0, .null, .null, .int 0, .int 0, .int 0, .int 0, .null, .int 0, .int 0, .int 0, .int 0, .null, .int 0, .int 0, .int 0, .int 0, .int 0, .int 0, .int 0, .null, .null, .null, .null, .int 0, .null])), (q1, .inl (cA 1, 162, .inl (fun _ => 0)))] H := hP
  have hD : va_D A [(h0, .inr (7, [.null, .null, .null, .int 0, .int 0, .int 0, .int 0, .null, .null, .int 0, .int 0, .int 0, .int 0, .null, .int 0, .int 0, .int 0, .int 0, .null, .int 0, .int 0, .int 0, .int 0, .int 0, .int 0, .int 0, .null, .null, .null, .null, .int 0, .null])), (q1, .inl (cA 1, 162, .inl (fun _ => 0)))] := hD
  refine va_putF (D := (dC, dI)) (ci := 7) (v := .ref q1) (ty := .array .int) (C := RX7) (T := TX7) (N := 32) hx hb hts (zin 7 (by decide)) (zY 7) (zY_ok 7 (by decide)) (znm_ok 7 (by decide)) hown hK hP hD hS 0 rfl rfl 0 (by decide) (hts (.fieldLink RX7 7 "SeatCastModel" "st" "[I") (zTBm (i := 903) (by decide +kernel) rfl)) (fun _ h9 => h9) rfl hin rfl (by decide +kernel) rfl rfl (Nat.le_of_ble_eq_true rfl) kd7_10 (fun H locs hP hD hS => ?_)
  have hP : va_P (dC, dI) vwCl [(h0, .inr (7, [.ref q1, .null, .null, .int 0, .int 0, .int 0, .int 0, .null, .null, .int 0, .int 0, .int 0, .int 0, .null, .int 0, .int 0, .int 0, .int 0, .null, .int 0, .int 0, .int 0, .int 0, .int 0, .int 0, .int 0, .null, .null, .null, .null, .int 0, .null])), (q1, .inl (cA 1, 162, .inl (fun _ => 0)))] H := hP
  have hD : va_D A [(h0, .inr (7, [.ref q1, .null, .null, .int 0, .int 0, .int 0, .int 0, .null, .null, .int 0, .int 0, .int 0, .int 0, .null, .int 0, .int 0, .int 0, .int 0, .null, .int 0, .int 0, .int 0, .int 0, .int 0, .int 0, .int 0, .null, .null, .null, .null, .int 0, .null])), (q1, .inl (cA 1, 162, .inl (fun _ => 0)))] := hD
  refine lv_aload_n hx hb kd7_13 rfl (lv_at hl 0 rfl) ?_
  refine lv_bipush (v := 54) hx hb kd7_14 (by decide) ?_
  refine kz_newa (atype := .int) (ty := .int) (n := 54) (N' := 54) hx hb (hts (.arrayClass .int) (zTBm (i := 207) (by decide +kernel) rfl)) rfl rfl 0 (ca := cA 1) rfl hK hP hD hS hA (by decide) (by decide) (Nat.le_of_ble_eq_true rfl) (Nat.le_of_ble_eq_true rfl) (Nat.le_of_ble_eq_true rfl) kd7_16 (fun q2 H hP hD hS => ?_)
  have hP : va_P (dC, dI) vwCl [(h0, .inr (7, [.ref q1, .null, .null, .int 0, .int 0, .int 0, .int 0, .null, .null, .int 0, .int 0, .int 0, .int 0, .null, .int 0, .int 0, .int 0, .int 0, .null, .int 0, .int 0, .int 0, .int 0, .int 0, .int 0, .int 0, .null, .null, .null, .null, .int 0, .null])), (q1, .inl (cA 1, 162, .inl (fun _ => 0))), (q2, .inl (cA 1, 54, .inl (fun _ => 0)))] H := hP
  have hD : va_D A [(h0, .inr (7, [.ref q1, .null, .null, .int 0, .int 0, .int 0, .int 0, .null, .null, .int 0, .int 0, .int 0, .int 0, .null, .int 0, .int 0, .int 0, .int 0, .null, .int 0, .int 0, .int 0, .int 0, .int 0, .int 0, .int 0, .null, .null, .null, .null, .int 0, .null])), (q1, .inl (cA 1, 162, .inl (fun _ => 0))), (q2, .inl (cA 1, 54, .inl (fun _ => 0)))] := hD
  refine va_putF (D := (dC, dI)) (ci := 7) (v := .ref q2) (ty := .array .int) (C := RX7) (T := TX7) (N := 32) hx hb hts (zin 7 (by decide)) (zY 7) (zY_ok 7 (by decide)) (znm_ok 7 (by decide)) hown hK hP hD hS 0 rfl rfl 1 (by decide) (hts (.fieldLink RX7 13 "SeatCastModel" "at" "[I") (zTBm (i := 904) (by decide +kernel) rfl)) (fun _ h9 => h9) rfl hin rfl (by decide +kernel) rfl rfl (Nat.le_of_ble_eq_true rfl) kd7_18 (fun H locs hP hD hS => ?_)
  have hP : va_P (dC, dI) vwCl [(h0, .inr (7, [.ref q1, .ref q2, .null, .int 0, .int 0, .int 0, .int 0, .null, .null, .int 0, .int 0, .int 0, .int 0, .null, .int 0, .int 0, .int 0, .int 0, .null, .int 0, .int 0, .int 0, .int 0, .int 0, .int 0, .int 0, .null, .null, .null, .null, .int 0, .null])), (q1, .inl (cA 1, 162, .inl (fun _ => 0))), (q2, .inl (cA 1, 54, .inl (fun _ => 0)))] H := hP
  have hD : va_D A [(h0, .inr (7, [.ref q1, .ref q2, .null, .int 0, .int 0, .int 0, .int 0, .null, .null, .int 0, .int 0, .int 0, .int 0, .null, .int 0, .int 0, .int 0, .int 0, .null, .int 0, .int 0, .int 0, .int 0, .int 0, .int 0, .int 0, .null, .null, .null, .null, .int 0, .null])), (q1, .inl (cA 1, 162, .inl (fun _ => 0))), (q2, .inl (cA 1, 54, .inl (fun _ => 0)))] := hD
  refine lv_aload_n hx hb kd7_21 rfl (lv_at hl 0 rfl) ?_
  refine lv_iconst (v := 2) hx hb kd7_22 (by decide) ?_
  refine kz_newa (atype := .boolean) (ty := .boolean) (n := 2) (N' := 2) hx hb (hts (.arrayClass .boolean) (zTBm (i := 308) (by decide +kernel) rfl)) rfl rfl 2 (ca := cA 3) rfl hK hP hD hS hA (by decide) (by decide) (Nat.le_of_ble_eq_true rfl) (Nat.le_of_ble_eq_true rfl) (Nat.le_of_ble_eq_true rfl) kd7_23 (fun q3 H hP hD hS => ?_)
  have hP : va_P (dC, dI) vwCl [(h0, .inr (7, [.ref q1, .ref q2, .null, .int 0, .int 0, .int 0, .int 0, .null, .null, .int 0, .int 0, .int 0, .int 0, .null, .int 0, .int 0, .int 0, .int 0, .null, .int 0, .int 0, .int 0, .int 0, .int 0, .int 0, .int 0, .null, .null, .null, .null, .int 0, .null])), (q1, .inl (cA 1, 162, .inl (fun _ => 0))), (q2, .inl (cA 1, 54, .inl (fun _ => 0))), (q3, .inl (cA 3, 2, .inl (fun _ => 0)))] H := hP
  have hD : va_D A [(h0, .inr (7, [.ref q1, .ref q2, .null, .int 0, .int 0, .int 0, .int 0, .null, .null, .int 0, .int 0, .int 0, .int 0, .null, .int 0, .int 0, .int 0, .int 0, .null, .int 0, .int 0, .int 0, .int 0, .int 0, .int 0, .int 0, .null, .null, .null, .null, .int 0, .null])), (q1, .inl (cA 1, 162, .inl (fun _ => 0))), (q2, .inl (cA 1, 54, .inl (fun _ => 0))), (q3, .inl (cA 3, 2, .inl (fun _ => 0)))] := hD
  refine va_putF (D := (dC, dI)) (ci := 7) (v := .ref q3) (ty := .array .boolean) (C := RX7) (T := TX7) (N := 32) hx hb hts (zin 7 (by decide)) (zY 7) (zY_ok 7 (by decide)) (znm_ok 7 (by decide)) hown hK hP hD hS 0 rfl rfl 2 (by decide) (hts (.fieldLink RX7 16 "SeatCastModel" "isKept" "[Z") (zTBm (i := 905) (by decide +kernel) rfl)) (fun _ h9 => h9) rfl hin rfl (by decide +kernel) rfl rfl (Nat.le_of_ble_eq_true rfl) kd7_25 (fun H locs hP hD hS => ?_)
  have hP : va_P (dC, dI) vwCl [(h0, .inr (7, [.ref q1, .ref q2, .ref q3, .int 0, .int 0, .int 0, .int 0, .null, .null, .int 0, .int 0, .int 0, .int 0, .null, .int 0, .int 0, .int 0, .int 0, .null, .int 0, .int 0, .int 0, .int 0, .int 0, .int 0, .int 0, .null, .null, .null, .null, .int 0, .null])), (q1, .inl (cA 1, 162, .inl (fun _ => 0))), (q2, .inl (cA 1, 54, .inl (fun _ => 0))), (q3, .inl (cA 3, 2, .inl (fun _ => 0)))] H := hP
  have hD : va_D A [(h0, .inr (7, [.ref q1, .ref q2, .ref q3, .int 0, .int 0, .int 0, .int 0, .null, .null, .int 0, .int 0, .int 0, .int 0, .null, .int 0, .int 0, .int 0, .int 0, .null, .int 0, .int 0, .int 0, .int 0, .int 0, .int 0, .int 0, .null, .null, .null, .null, .int 0, .null])), (q1, .inl (cA 1, 162, .inl (fun _ => 0))), (q2, .inl (cA 1, 54, .inl (fun _ => 0))), (q3, .inl (cA 3, 2, .inl (fun _ => 0)))] := hD
  refine lv_aload_n hx hb kd7_28 rfl (lv_at hl 0 rfl) ?_
  refine lv_bipush (v := 8) hx hb kd7_29 (by decide) ?_
  refine kz_newa (atype := .int) (ty := .int) (n := 8) (N' := 8) hx hb (hts (.arrayClass .int) (zTBm (i := 207) (by decide +kernel) rfl)) rfl rfl 0 (ca := cA 1) rfl hK hP hD hS hA (by decide) (by decide) (Nat.le_of_ble_eq_true rfl) (Nat.le_of_ble_eq_true rfl) (Nat.le_of_ble_eq_true rfl) kd7_31 (fun q4 H hP hD hS => ?_)
  have hP : va_P (dC, dI) vwCl [(h0, .inr (7, [.ref q1, .ref q2, .ref q3, .int 0, .int 0, .int 0, .int 0, .null, .null, .int 0, .int 0, .int 0, .int 0, .null, .int 0, .int 0, .int 0, .int 0, .null, .int 0, .int 0, .int 0, .int 0, .int 0, .int 0, .int 0, .null, .null, .null, .null, .int 0, .null])), (q1, .inl (cA 1, 162, .inl (fun _ => 0))), (q2, .inl (cA 1, 54, .inl (fun _ => 0))), (q3, .inl (cA 3, 2, .inl (fun _ => 0))), (q4, .inl (cA 1, 8, .inl (fun _ => 0)))] H := hP
  have hD : va_D A [(h0, .inr (7, [.ref q1, .ref q2, .ref q3, .int 0, .int 0, .int 0, .int 0, .null, .null, .int 0, .int 0, .int 0, .int 0, .null, .int 0, .int 0, .int 0, .int 0, .null, .int 0, .int 0, .int 0, .int 0, .int 0, .int 0, .int 0, .null, .null, .null, .null, .int 0, .null])), (q1, .inl (cA 1, 162, .inl (fun _ => 0))), (q2, .inl (cA 1, 54, .inl (fun _ => 0))), (q3, .inl (cA 3, 2, .inl (fun _ => 0))), (q4, .inl (cA 1, 8, .inl (fun _ => 0)))] := hD
  refine va_putF (D := (dC, dI)) (ci := 7) (v := .ref q4) (ty := .array .int) (C := RX7) (T := TX7) (N := 32) hx hb hts (zin 7 (by decide)) (zY 7) (zY_ok 7 (by decide)) (znm_ok 7 (by decide)) hown hK hP hD hS 0 rfl rfl 7 (by decide) (hts (.fieldLink RX7 20 "SeatCastModel" "parts" "[I") (zTBm (i := 910) (by decide +kernel) rfl)) (fun _ h9 => h9) rfl hin rfl (by decide +kernel) rfl rfl (Nat.le_of_ble_eq_true rfl) kd7_33 (fun H locs hP hD hS => ?_)
  have hP : va_P (dC, dI) vwCl [(h0, .inr (7, [.ref q1, .ref q2, .ref q3, .int 0, .int 0, .int 0, .int 0, .ref q4, .null, .int 0, .int 0, .int 0, .int 0, .null, .int 0, .int 0, .int 0, .int 0, .null, .int 0, .int 0, .int 0, .int 0, .int 0, .int 0, .int 0, .null, .null, .null, .null, .int 0, .null])), (q1, .inl (cA 1, 162, .inl (fun _ => 0))), (q2, .inl (cA 1, 54, .inl (fun _ => 0))), (q3, .inl (cA 3, 2, .inl (fun _ => 0))), (q4, .inl (cA 1, 8, .inl (fun _ => 0)))] H := hP
  have hD : va_D A [(h0, .inr (7, [.ref q1, .ref q2, .ref q3, .int 0, .int 0, .int 0, .int 0, .ref q4, .null, .int 0, .int 0, .int 0, .int 0, .null, .int 0, .int 0, .int 0, .int 0, .null, .int 0, .int 0, .int 0, .int 0, .int 0, .int 0, .int 0, .null, .null, .null, .null, .int 0, .null])), (q1, .inl (cA 1, 162, .inl (fun _ => 0))), (q2, .inl (cA 1, 54, .inl (fun _ => 0))), (q3, .inl (cA 3, 2, .inl (fun _ => 0))), (q4, .inl (cA 1, 8, .inl (fun _ => 0)))] := hD
  refine lv_aload_n hx hb kd7_36 rfl (lv_at hl 0 rfl) ?_
  refine lv_bipush (v := 54) hx hb kd7_37 (by decide) ?_
  refine kz_newa (atype := .int) (ty := .int) (n := 54) (N' := 54) hx hb (hts (.arrayClass .int) (zTBm (i := 207) (by decide +kernel) rfl)) rfl rfl 0 (ca := cA 1) rfl hK hP hD hS hA (by decide) (by decide) (Nat.le_of_ble_eq_true rfl) (Nat.le_of_ble_eq_true rfl) (Nat.le_of_ble_eq_true rfl) kd7_39 (fun q5 H hP hD hS => ?_)
  have hP : va_P (dC, dI) vwCl [(h0, .inr (7, [.ref q1, .ref q2, .ref q3, .int 0, .int 0, .int 0, .int 0, .ref q4, .null, .int 0, .int 0, .int 0, .int 0, .null, .int 0, .int 0, .int 0, .int 0, .null, .int 0, .int 0, .int 0, .int 0, .int 0, .int 0, .int 0, .null, .null, .null, .null, .int 0, .null])), (q1, .inl (cA 1, 162, .inl (fun _ => 0))), (q2, .inl (cA 1, 54, .inl (fun _ => 0))), (q3, .inl (cA 3, 2, .inl (fun _ => 0))), (q4, .inl (cA 1, 8, .inl (fun _ => 0))), (q5, .inl (cA 1, 54, .inl (fun _ => 0)))] H := hP
  have hD : va_D A [(h0, .inr (7, [.ref q1, .ref q2, .ref q3, .int 0, .int 0, .int 0, .int 0, .ref q4, .null, .int 0, .int 0, .int 0, .int 0, .null, .int 0, .int 0, .int 0, .int 0, .null, .int 0, .int 0, .int 0, .int 0, .int 0, .int 0, .int 0, .null, .null, .null, .null, .int 0, .null])), (q1, .inl (cA 1, 162, .inl (fun _ => 0))), (q2, .inl (cA 1, 54, .inl (fun _ => 0))), (q3, .inl (cA 3, 2, .inl (fun _ => 0))), (q4, .inl (cA 1, 8, .inl (fun _ => 0))), (q5, .inl (cA 1, 54, .inl (fun _ => 0)))] := hD
  refine va_putF (D := (dC, dI)) (ci := 7) (v := .ref q5) (ty := .array .int) (C := RX7) (T := TX7) (N := 32) hx hb hts (zin 7 (by decide)) (zY 7) (zY_ok 7 (by decide)) (znm_ok 7 (by decide)) hown hK hP hD hS 0 rfl rfl 8 (by decide) (hts (.fieldLink RX7 23 "SeatCastModel" "draft" "[I") (zTBm (i := 911) (by decide +kernel) rfl)) (fun _ h9 => h9) rfl hin rfl (by decide +kernel) rfl rfl (Nat.le_of_ble_eq_true rfl) kd7_41 (fun H locs hP hD hS => ?_)
  have hP : va_P (dC, dI) vwCl [(h0, .inr (7, [.ref q1, .ref q2, .ref q3, .int 0, .int 0, .int 0, .int 0, .ref q4, .ref q5, .int 0, .int 0, .int 0, .int 0, .null, .int 0, .int 0, .int 0, .int 0, .null, .int 0, .int 0, .int 0, .int 0, .int 0, .int 0, .int 0, .null, .null, .null, .null, .int 0, .null])), (q1, .inl (cA 1, 162, .inl (fun _ => 0))), (q2, .inl (cA 1, 54, .inl (fun _ => 0))), (q3, .inl (cA 3, 2, .inl (fun _ => 0))), (q4, .inl (cA 1, 8, .inl (fun _ => 0))), (q5, .inl (cA 1, 54, .inl (fun _ => 0)))] H := hP
  have hD : va_D A [(h0, .inr (7, [.ref q1, .ref q2, .ref q3, .int 0, .int 0, .int 0, .int 0, .ref q4, .ref q5, .int 0, .int 0, .int 0, .int 0, .null, .int 0, .int 0, .int 0, .int 0, .null, .int 0, .int 0, .int 0, .int 0, .int 0, .int 0, .int 0, .null, .null, .null, .null, .int 0, .null])), (q1, .inl (cA 1, 162, .inl (fun _ => 0))), (q2, .inl (cA 1, 54, .inl (fun _ => 0))), (q3, .inl (cA 3, 2, .inl (fun _ => 0))), (q4, .inl (cA 1, 8, .inl (fun _ => 0))), (q5, .inl (cA 1, 54, .inl (fun _ => 0)))] := hD
  refine lv_aload_n hx hb kd7_44 rfl (lv_at hl 0 rfl) ?_
  refine lv_bipush (v := 8) hx hb kd7_45 (by decide) ?_
  refine kz_newa (atype := .int) (ty := .int) (n := 8) (N' := 8) hx hb (hts (.arrayClass .int) (zTBm (i := 207) (by decide +kernel) rfl)) rfl rfl 0 (ca := cA 1) rfl hK hP hD hS hA (by decide) (by decide) (Nat.le_of_ble_eq_true rfl) (Nat.le_of_ble_eq_true rfl) (Nat.le_of_ble_eq_true rfl) kd7_47 (fun q6 H hP hD hS => ?_)
  have hP : va_P (dC, dI) vwCl [(h0, .inr (7, [.ref q1, .ref q2, .ref q3, .int 0, .int 0, .int 0, .int 0, .ref q4, .ref q5, .int 0, .int 0, .int 0, .int 0, .null, .int 0, .int 0, .int 0, .int 0, .null, .int 0, .int 0, .int 0, .int 0, .int 0, .int 0, .int 0, .null, .null, .null, .null, .int 0, .null])), (q1, .inl (cA 1, 162, .inl (fun _ => 0))), (q2, .inl (cA 1, 54, .inl (fun _ => 0))), (q3, .inl (cA 3, 2, .inl (fun _ => 0))), (q4, .inl (cA 1, 8, .inl (fun _ => 0))), (q5, .inl (cA 1, 54, .inl (fun _ => 0))), (q6, .inl (cA 1, 8, .inl (fun _ => 0)))] H := hP
  have hD : va_D A [(h0, .inr (7, [.ref q1, .ref q2, .ref q3, .int 0, .int 0, .int 0, .int 0, .ref q4, .ref q5, .int 0, .int 0, .int 0, .int 0, .null, .int 0, .int 0, .int 0, .int 0, .null, .int 0, .int 0, .int 0, .int 0, .int 0, .int 0, .int 0, .null, .null, .null, .null, .int 0, .null])), (q1, .inl (cA 1, 162, .inl (fun _ => 0))), (q2, .inl (cA 1, 54, .inl (fun _ => 0))), (q3, .inl (cA 3, 2, .inl (fun _ => 0))), (q4, .inl (cA 1, 8, .inl (fun _ => 0))), (q5, .inl (cA 1, 54, .inl (fun _ => 0))), (q6, .inl (cA 1, 8, .inl (fun _ => 0)))] := hD
  refine va_putF (D := (dC, dI)) (ci := 7) (v := .ref q6) (ty := .array .int) (C := RX7) (T := TX7) (N := 32) hx hb hts (zin 7 (by decide)) (zY 7) (zY_ok 7 (by decide)) (znm_ok 7 (by decide)) hown hK hP hD hS 0 rfl rfl 13 (by decide) (hts (.fieldLink RX7 26 "SeatCastModel" "dParts" "[I") (zTBm (i := 916) (by decide +kernel) rfl)) (fun _ h9 => h9) rfl hin rfl (by decide +kernel) rfl rfl (Nat.le_of_ble_eq_true rfl) kd7_49 (fun H locs hP hD hS => ?_)
  have hP : va_P (dC, dI) vwCl [(h0, .inr (7, [.ref q1, .ref q2, .ref q3, .int 0, .int 0, .int 0, .int 0, .ref q4, .ref q5, .int 0, .int 0, .int 0, .int 0, .ref q6, .int 0, .int 0, .int 0, .int 0, .null, .int 0, .int 0, .int 0, .int 0, .int 0, .int 0, .int 0, .null, .null, .null, .null, .int 0, .null])), (q1, .inl (cA 1, 162, .inl (fun _ => 0))), (q2, .inl (cA 1, 54, .inl (fun _ => 0))), (q3, .inl (cA 3, 2, .inl (fun _ => 0))), (q4, .inl (cA 1, 8, .inl (fun _ => 0))), (q5, .inl (cA 1, 54, .inl (fun _ => 0))), (q6, .inl (cA 1, 8, .inl (fun _ => 0)))] H := hP
  have hD : va_D A [(h0, .inr (7, [.ref q1, .ref q2, .ref q3, .int 0, .int 0, .int 0, .int 0, .ref q4, .ref q5, .int 0, .int 0, .int 0, .int 0, .ref q6, .int 0, .int 0, .int 0, .int 0, .null, .int 0, .int 0, .int 0, .int 0, .int 0, .int 0, .int 0, .null, .null, .null, .null, .int 0, .null])), (q1, .inl (cA 1, 162, .inl (fun _ => 0))), (q2, .inl (cA 1, 54, .inl (fun _ => 0))), (q3, .inl (cA 3, 2, .inl (fun _ => 0))), (q4, .inl (cA 1, 8, .inl (fun _ => 0))), (q5, .inl (cA 1, 54, .inl (fun _ => 0))), (q6, .inl (cA 1, 8, .inl (fun _ => 0)))] := hD
  refine lv_aload_n hx hb kd7_52 rfl (lv_at hl 0 rfl) ?_
  refine lv_sipush (v := 160) hx hb kd7_53 (by decide) ?_
  refine kz_newa (atype := .int) (ty := .int) (n := 160) (N' := 160) hx hb (hts (.arrayClass .int) (zTBm (i := 207) (by decide +kernel) rfl)) rfl rfl 0 (ca := cA 1) rfl hK hP hD hS hA (by decide) (by decide) (Nat.le_of_ble_eq_true rfl) (Nat.le_of_ble_eq_true rfl) (Nat.le_of_ble_eq_true rfl) kd7_56 (fun q7 H hP hD hS => ?_)
  have hP : va_P (dC, dI) vwCl [(h0, .inr (7, [.ref q1, .ref q2, .ref q3, .int 0, .int 0, .int 0, .int 0, .ref q4, .ref q5, .int 0, .int 0, .int 0, .int 0, .ref q6, .int 0, .int 0, .int 0, .int 0, .null, .int 0, .int 0, .int 0, .int 0, .int 0, .int 0, .int 0, .null, .null, .null, .null, .int 0, .null])), (q1, .inl (cA 1, 162, .inl (fun _ => 0))), (q2, .inl (cA 1, 54, .inl (fun _ => 0))), (q3, .inl (cA 3, 2, .inl (fun _ => 0))), (q4, .inl (cA 1, 8, .inl (fun _ => 0))), (q5, .inl (cA 1, 54, .inl (fun _ => 0))), (q6, .inl (cA 1, 8, .inl (fun _ => 0))), (q7, .inl (cA 1, 160, .inl (fun _ => 0)))] H := hP
  have hD : va_D A [(h0, .inr (7, [.ref q1, .ref q2, .ref q3, .int 0, .int 0, .int 0, .int 0, .ref q4, .ref q5, .int 0, .int 0, .int 0, .int 0, .ref q6, .int 0, .int 0, .int 0, .int 0, .null, .int 0, .int 0, .int 0, .int 0, .int 0, .int 0, .int 0, .null, .null, .null, .null, .int 0, .null])), (q1, .inl (cA 1, 162, .inl (fun _ => 0))), (q2, .inl (cA 1, 54, .inl (fun _ => 0))), (q3, .inl (cA 3, 2, .inl (fun _ => 0))), (q4, .inl (cA 1, 8, .inl (fun _ => 0))), (q5, .inl (cA 1, 54, .inl (fun _ => 0))), (q6, .inl (cA 1, 8, .inl (fun _ => 0))), (q7, .inl (cA 1, 160, .inl (fun _ => 0)))] := hD
  refine va_putF (D := (dC, dI)) (ci := 7) (v := .ref q7) (ty := .array .int) (C := RX7) (T := TX7) (N := 32) hx hb hts (zin 7 (by decide)) (zY 7) (zY_ok 7 (by decide)) (znm_ok 7 (by decide)) hown hK hP hD hS 0 rfl rfl 18 (by decide) (hts (.fieldLink RX7 29 "SeatCastModel" "tape" "[I") (zTBm (i := 921) (by decide +kernel) rfl)) (fun _ h9 => h9) rfl hin rfl (by decide +kernel) rfl rfl (Nat.le_of_ble_eq_true rfl) kd7_58 (fun H locs hP hD hS => ?_)
  have hP : va_P (dC, dI) vwCl [(h0, .inr (7, [.ref q1, .ref q2, .ref q3, .int 0, .int 0, .int 0, .int 0, .ref q4, .ref q5, .int 0, .int 0, .int 0, .int 0, .ref q6, .int 0, .int 0, .int 0, .int 0, .ref q7, .int 0, .int 0, .int 0, .int 0, .int 0, .int 0, .int 0, .null, .null, .null, .null, .int 0, .null])), (q1, .inl (cA 1, 162, .inl (fun _ => 0))), (q2, .inl (cA 1, 54, .inl (fun _ => 0))), (q3, .inl (cA 3, 2, .inl (fun _ => 0))), (q4, .inl (cA 1, 8, .inl (fun _ => 0))), (q5, .inl (cA 1, 54, .inl (fun _ => 0))), (q6, .inl (cA 1, 8, .inl (fun _ => 0))), (q7, .inl (cA 1, 160, .inl (fun _ => 0)))] H := hP
  have hD : va_D A [(h0, .inr (7, [.ref q1, .ref q2, .ref q3, .int 0, .int 0, .int 0, .int 0, .ref q4, .ref q5, .int 0, .int 0, .int 0, .int 0, .ref q6, .int 0, .int 0, .int 0, .int 0, .ref q7, .int 0, .int 0, .int 0, .int 0, .int 0, .int 0, .int 0, .null, .null, .null, .null, .int 0, .null])), (q1, .inl (cA 1, 162, .inl (fun _ => 0))), (q2, .inl (cA 1, 54, .inl (fun _ => 0))), (q3, .inl (cA 3, 2, .inl (fun _ => 0))), (q4, .inl (cA 1, 8, .inl (fun _ => 0))), (q5, .inl (cA 1, 54, .inl (fun _ => 0))), (q6, .inl (cA 1, 8, .inl (fun _ => 0))), (q7, .inl (cA 1, 160, .inl (fun _ => 0)))] := hD
  refine lv_aload_n hx hb kd7_61 rfl (lv_at hl 0 rfl) ?_
  refine lv_bipush (v := 8) hx hb kd7_62 (by decide) ?_
  refine kz_newa (atype := .int) (ty := .int) (n := 8) (N' := 8) hx hb (hts (.arrayClass .int) (zTBm (i := 207) (by decide +kernel) rfl)) rfl rfl 0 (ca := cA 1) rfl hK hP hD hS hA (by decide) (by decide) (Nat.le_of_ble_eq_true rfl) (Nat.le_of_ble_eq_true rfl) (Nat.le_of_ble_eq_true rfl) kd7_64 (fun q8 H hP hD hS => ?_)
  have hP : va_P (dC, dI) vwCl [(h0, .inr (7, [.ref q1, .ref q2, .ref q3, .int 0, .int 0, .int 0, .int 0, .ref q4, .ref q5, .int 0, .int 0, .int 0, .int 0, .ref q6, .int 0, .int 0, .int 0, .int 0, .ref q7, .int 0, .int 0, .int 0, .int 0, .int 0, .int 0, .int 0, .null, .null, .null, .null, .int 0, .null])), (q1, .inl (cA 1, 162, .inl (fun _ => 0))), (q2, .inl (cA 1, 54, .inl (fun _ => 0))), (q3, .inl (cA 3, 2, .inl (fun _ => 0))), (q4, .inl (cA 1, 8, .inl (fun _ => 0))), (q5, .inl (cA 1, 54, .inl (fun _ => 0))), (q6, .inl (cA 1, 8, .inl (fun _ => 0))), (q7, .inl (cA 1, 160, .inl (fun _ => 0))), (q8, .inl (cA 1, 8, .inl (fun _ => 0)))] H := hP
  have hD : va_D A [(h0, .inr (7, [.ref q1, .ref q2, .ref q3, .int 0, .int 0, .int 0, .int 0, .ref q4, .ref q5, .int 0, .int 0, .int 0, .int 0, .ref q6, .int 0, .int 0, .int 0, .int 0, .ref q7, .int 0, .int 0, .int 0, .int 0, .int 0, .int 0, .int 0, .null, .null, .null, .null, .int 0, .null])), (q1, .inl (cA 1, 162, .inl (fun _ => 0))), (q2, .inl (cA 1, 54, .inl (fun _ => 0))), (q3, .inl (cA 3, 2, .inl (fun _ => 0))), (q4, .inl (cA 1, 8, .inl (fun _ => 0))), (q5, .inl (cA 1, 54, .inl (fun _ => 0))), (q6, .inl (cA 1, 8, .inl (fun _ => 0))), (q7, .inl (cA 1, 160, .inl (fun _ => 0))), (q8, .inl (cA 1, 8, .inl (fun _ => 0)))] := hD
  refine va_putF (D := (dC, dI)) (ci := 7) (v := .ref q8) (ty := .array .int) (C := RX7) (T := TX7) (N := 32) hx hb hts (zin 7 (by decide)) (zY 7) (zY_ok 7 (by decide)) (znm_ok 7 (by decide)) hown hK hP hD hS 0 rfl rfl 26 (by decide) (hts (.fieldLink RX7 32 "SeatCastModel" "spoke" "[I") (zTBm (i := 929) (by decide +kernel) rfl)) (fun _ h9 => h9) rfl hin rfl (by decide +kernel) rfl rfl (Nat.le_of_ble_eq_true rfl) kd7_66 (fun H locs hP hD hS => ?_)
  have hP : va_P (dC, dI) vwCl [(h0, .inr (7, [.ref q1, .ref q2, .ref q3, .int 0, .int 0, .int 0, .int 0, .ref q4, .ref q5, .int 0, .int 0, .int 0, .int 0, .ref q6, .int 0, .int 0, .int 0, .int 0, .ref q7, .int 0, .int 0, .int 0, .int 0, .int 0, .int 0, .int 0, .ref q8, .null, .null, .null, .int 0, .null])), (q1, .inl (cA 1, 162, .inl (fun _ => 0))), (q2, .inl (cA 1, 54, .inl (fun _ => 0))), (q3, .inl (cA 3, 2, .inl (fun _ => 0))), (q4, .inl (cA 1, 8, .inl (fun _ => 0))), (q5, .inl (cA 1, 54, .inl (fun _ => 0))), (q6, .inl (cA 1, 8, .inl (fun _ => 0))), (q7, .inl (cA 1, 160, .inl (fun _ => 0))), (q8, .inl (cA 1, 8, .inl (fun _ => 0)))] H := hP
  have hD : va_D A [(h0, .inr (7, [.ref q1, .ref q2, .ref q3, .int 0, .int 0, .int 0, .int 0, .ref q4, .ref q5, .int 0, .int 0, .int 0, .int 0, .ref q6, .int 0, .int 0, .int 0, .int 0, .ref q7, .int 0, .int 0, .int 0, .int 0, .int 0, .int 0, .int 0, .ref q8, .null, .null, .null, .int 0, .null])), (q1, .inl (cA 1, 162, .inl (fun _ => 0))), (q2, .inl (cA 1, 54, .inl (fun _ => 0))), (q3, .inl (cA 3, 2, .inl (fun _ => 0))), (q4, .inl (cA 1, 8, .inl (fun _ => 0))), (q5, .inl (cA 1, 54, .inl (fun _ => 0))), (q6, .inl (cA 1, 8, .inl (fun _ => 0))), (q7, .inl (cA 1, 160, .inl (fun _ => 0))), (q8, .inl (cA 1, 8, .inl (fun _ => 0)))] := hD
  refine lv_aload_n hx hb kd7_69 rfl (lv_at hl 0 rfl) ?_
  refine lv_iconst (v := 4) hx hb kd7_70 (by decide) ?_
  refine kz_newa (atype := .int) (ty := .int) (n := 4) (N' := 4) hx hb (hts (.arrayClass .int) (zTBm (i := 207) (by decide +kernel) rfl)) rfl rfl 0 (ca := cA 1) rfl hK hP hD hS hA (by decide) (by decide) (Nat.le_of_ble_eq_true rfl) (Nat.le_of_ble_eq_true rfl) (Nat.le_of_ble_eq_true rfl) kd7_71 (fun q9 H hP hD hS => ?_)
  have hP : va_P (dC, dI) vwCl [(h0, .inr (7, [.ref q1, .ref q2, .ref q3, .int 0, .int 0, .int 0, .int 0, .ref q4, .ref q5, .int 0, .int 0, .int 0, .int 0, .ref q6, .int 0, .int 0, .int 0, .int 0, .ref q7, .int 0, .int 0, .int 0, .int 0, .int 0, .int 0, .int 0, .ref q8, .null, .null, .null, .int 0, .null])), (q1, .inl (cA 1, 162, .inl (fun _ => 0))), (q2, .inl (cA 1, 54, .inl (fun _ => 0))), (q3, .inl (cA 3, 2, .inl (fun _ => 0))), (q4, .inl (cA 1, 8, .inl (fun _ => 0))), (q5, .inl (cA 1, 54, .inl (fun _ => 0))), (q6, .inl (cA 1, 8, .inl (fun _ => 0))), (q7, .inl (cA 1, 160, .inl (fun _ => 0))), (q8, .inl (cA 1, 8, .inl (fun _ => 0))), (q9, .inl (cA 1, 4, .inl (fun _ => 0)))] H := hP
  have hD : va_D A [(h0, .inr (7, [.ref q1, .ref q2, .ref q3, .int 0, .int 0, .int 0, .int 0, .ref q4, .ref q5, .int 0, .int 0, .int 0, .int 0, .ref q6, .int 0, .int 0, .int 0, .int 0, .ref q7, .int 0, .int 0, .int 0, .int 0, .int 0, .int 0, .int 0, .ref q8, .null, .null, .null, .int 0, .null])), (q1, .inl (cA 1, 162, .inl (fun _ => 0))), (q2, .inl (cA 1, 54, .inl (fun _ => 0))), (q3, .inl (cA 3, 2, .inl (fun _ => 0))), (q4, .inl (cA 1, 8, .inl (fun _ => 0))), (q5, .inl (cA 1, 54, .inl (fun _ => 0))), (q6, .inl (cA 1, 8, .inl (fun _ => 0))), (q7, .inl (cA 1, 160, .inl (fun _ => 0))), (q8, .inl (cA 1, 8, .inl (fun _ => 0))), (q9, .inl (cA 1, 4, .inl (fun _ => 0)))] := hD
  refine va_putF (D := (dC, dI)) (ci := 7) (v := .ref q9) (ty := .array .int) (C := RX7) (T := TX7) (N := 32) hx hb hts (zin 7 (by decide)) (zY 7) (zY_ok 7 (by decide)) (znm_ok 7 (by decide)) hown hK hP hD hS 0 rfl rfl 27 (by decide) (hts (.fieldLink RX7 35 "SeatCastModel" "lanes" "[I") (zTBm (i := 930) (by decide +kernel) rfl)) (fun _ h9 => h9) rfl hin rfl (by decide +kernel) rfl rfl (Nat.le_of_ble_eq_true rfl) kd7_73 (fun H locs hP hD hS => ?_)
  have hP : va_P (dC, dI) vwCl [(h0, .inr (7, [.ref q1, .ref q2, .ref q3, .int 0, .int 0, .int 0, .int 0, .ref q4, .ref q5, .int 0, .int 0, .int 0, .int 0, .ref q6, .int 0, .int 0, .int 0, .int 0, .ref q7, .int 0, .int 0, .int 0, .int 0, .int 0, .int 0, .int 0, .ref q8, .ref q9, .null, .null, .int 0, .null])), (q1, .inl (cA 1, 162, .inl (fun _ => 0))), (q2, .inl (cA 1, 54, .inl (fun _ => 0))), (q3, .inl (cA 3, 2, .inl (fun _ => 0))), (q4, .inl (cA 1, 8, .inl (fun _ => 0))), (q5, .inl (cA 1, 54, .inl (fun _ => 0))), (q6, .inl (cA 1, 8, .inl (fun _ => 0))), (q7, .inl (cA 1, 160, .inl (fun _ => 0))), (q8, .inl (cA 1, 8, .inl (fun _ => 0))), (q9, .inl (cA 1, 4, .inl (fun _ => 0)))] H := hP
  have hD : va_D A [(h0, .inr (7, [.ref q1, .ref q2, .ref q3, .int 0, .int 0, .int 0, .int 0, .ref q4, .ref q5, .int 0, .int 0, .int 0, .int 0, .ref q6, .int 0, .int 0, .int 0, .int 0, .ref q7, .int 0, .int 0, .int 0, .int 0, .int 0, .int 0, .int 0, .ref q8, .ref q9, .null, .null, .int 0, .null])), (q1, .inl (cA 1, 162, .inl (fun _ => 0))), (q2, .inl (cA 1, 54, .inl (fun _ => 0))), (q3, .inl (cA 3, 2, .inl (fun _ => 0))), (q4, .inl (cA 1, 8, .inl (fun _ => 0))), (q5, .inl (cA 1, 54, .inl (fun _ => 0))), (q6, .inl (cA 1, 8, .inl (fun _ => 0))), (q7, .inl (cA 1, 160, .inl (fun _ => 0))), (q8, .inl (cA 1, 8, .inl (fun _ => 0))), (q9, .inl (cA 1, 4, .inl (fun _ => 0)))] := hD
  refine lv_aload_n hx hb kd7_76 rfl (lv_at hl 0 rfl) ?_
  refine lv_iconst (v := 4) hx hb kd7_77 (by decide) ?_
  refine kz_newa (atype := .int) (ty := .int) (n := 4) (N' := 4) hx hb (hts (.arrayClass .int) (zTBm (i := 207) (by decide +kernel) rfl)) rfl rfl 0 (ca := cA 1) rfl hK hP hD hS hA (by decide) (by decide) (Nat.le_of_ble_eq_true rfl) (Nat.le_of_ble_eq_true rfl) (Nat.le_of_ble_eq_true rfl) kd7_78 (fun q10 H hP hD hS => ?_)
  have hP : va_P (dC, dI) vwCl [(h0, .inr (7, [.ref q1, .ref q2, .ref q3, .int 0, .int 0, .int 0, .int 0, .ref q4, .ref q5, .int 0, .int 0, .int 0, .int 0, .ref q6, .int 0, .int 0, .int 0, .int 0, .ref q7, .int 0, .int 0, .int 0, .int 0, .int 0, .int 0, .int 0, .ref q8, .ref q9, .null, .null, .int 0, .null])), (q1, .inl (cA 1, 162, .inl (fun _ => 0))), (q2, .inl (cA 1, 54, .inl (fun _ => 0))), (q3, .inl (cA 3, 2, .inl (fun _ => 0))), (q4, .inl (cA 1, 8, .inl (fun _ => 0))), (q5, .inl (cA 1, 54, .inl (fun _ => 0))), (q6, .inl (cA 1, 8, .inl (fun _ => 0))), (q7, .inl (cA 1, 160, .inl (fun _ => 0))), (q8, .inl (cA 1, 8, .inl (fun _ => 0))), (q9, .inl (cA 1, 4, .inl (fun _ => 0))), (q10, .inl (cA 1, 4, .inl (fun _ => 0)))] H := hP
  have hD : va_D A [(h0, .inr (7, [.ref q1, .ref q2, .ref q3, .int 0, .int 0, .int 0, .int 0, .ref q4, .ref q5, .int 0, .int 0, .int 0, .int 0, .ref q6, .int 0, .int 0, .int 0, .int 0, .ref q7, .int 0, .int 0, .int 0, .int 0, .int 0, .int 0, .int 0, .ref q8, .ref q9, .null, .null, .int 0, .null])), (q1, .inl (cA 1, 162, .inl (fun _ => 0))), (q2, .inl (cA 1, 54, .inl (fun _ => 0))), (q3, .inl (cA 3, 2, .inl (fun _ => 0))), (q4, .inl (cA 1, 8, .inl (fun _ => 0))), (q5, .inl (cA 1, 54, .inl (fun _ => 0))), (q6, .inl (cA 1, 8, .inl (fun _ => 0))), (q7, .inl (cA 1, 160, .inl (fun _ => 0))), (q8, .inl (cA 1, 8, .inl (fun _ => 0))), (q9, .inl (cA 1, 4, .inl (fun _ => 0))), (q10, .inl (cA 1, 4, .inl (fun _ => 0)))] := hD
  refine va_putF (D := (dC, dI)) (ci := 7) (v := .ref q10) (ty := .array .int) (C := RX7) (T := TX7) (N := 32) hx hb hts (zin 7 (by decide)) (zY 7) (zY_ok 7 (by decide)) (znm_ok 7 (by decide)) hown hK hP hD hS 0 rfl rfl 28 (by decide) (hts (.fieldLink RX7 38 "SeatCastModel" "sizes" "[I") (zTBm (i := 931) (by decide +kernel) rfl)) (fun _ h9 => h9) rfl hin rfl (by decide +kernel) rfl rfl (Nat.le_of_ble_eq_true rfl) kd7_80 (fun H locs hP hD hS => ?_)
  have hP : va_P (dC, dI) vwCl [(h0, .inr (7, [.ref q1, .ref q2, .ref q3, .int 0, .int 0, .int 0, .int 0, .ref q4, .ref q5, .int 0, .int 0, .int 0, .int 0, .ref q6, .int 0, .int 0, .int 0, .int 0, .ref q7, .int 0, .int 0, .int 0, .int 0, .int 0, .int 0, .int 0, .ref q8, .ref q9, .ref q10, .null, .int 0, .null])), (q1, .inl (cA 1, 162, .inl (fun _ => 0))), (q2, .inl (cA 1, 54, .inl (fun _ => 0))), (q3, .inl (cA 3, 2, .inl (fun _ => 0))), (q4, .inl (cA 1, 8, .inl (fun _ => 0))), (q5, .inl (cA 1, 54, .inl (fun _ => 0))), (q6, .inl (cA 1, 8, .inl (fun _ => 0))), (q7, .inl (cA 1, 160, .inl (fun _ => 0))), (q8, .inl (cA 1, 8, .inl (fun _ => 0))), (q9, .inl (cA 1, 4, .inl (fun _ => 0))), (q10, .inl (cA 1, 4, .inl (fun _ => 0)))] H := hP
  have hD : va_D A [(h0, .inr (7, [.ref q1, .ref q2, .ref q3, .int 0, .int 0, .int 0, .int 0, .ref q4, .ref q5, .int 0, .int 0, .int 0, .int 0, .ref q6, .int 0, .int 0, .int 0, .int 0, .ref q7, .int 0, .int 0, .int 0, .int 0, .int 0, .int 0, .int 0, .ref q8, .ref q9, .ref q10, .null, .int 0, .null])), (q1, .inl (cA 1, 162, .inl (fun _ => 0))), (q2, .inl (cA 1, 54, .inl (fun _ => 0))), (q3, .inl (cA 3, 2, .inl (fun _ => 0))), (q4, .inl (cA 1, 8, .inl (fun _ => 0))), (q5, .inl (cA 1, 54, .inl (fun _ => 0))), (q6, .inl (cA 1, 8, .inl (fun _ => 0))), (q7, .inl (cA 1, 160, .inl (fun _ => 0))), (q8, .inl (cA 1, 8, .inl (fun _ => 0))), (q9, .inl (cA 1, 4, .inl (fun _ => 0))), (q10, .inl (cA 1, 4, .inl (fun _ => 0)))] := hD
  refine lv_aload_n hx hb kd7_83 rfl (lv_at hl 0 rfl) ?_
  refine lv_sipush (v := 160) hx hb kd7_84 (by decide) ?_
  refine kz_newa (atype := .int) (ty := .int) (n := 160) (N' := 160) hx hb (hts (.arrayClass .int) (zTBm (i := 207) (by decide +kernel) rfl)) rfl rfl 0 (ca := cA 1) rfl hK hP hD hS hA (by decide) (by decide) (Nat.le_of_ble_eq_true rfl) (Nat.le_of_ble_eq_true rfl) (Nat.le_of_ble_eq_true rfl) kd7_87 (fun q11 H hP hD hS => ?_)
  have hP : va_P (dC, dI) vwCl [(h0, .inr (7, [.ref q1, .ref q2, .ref q3, .int 0, .int 0, .int 0, .int 0, .ref q4, .ref q5, .int 0, .int 0, .int 0, .int 0, .ref q6, .int 0, .int 0, .int 0, .int 0, .ref q7, .int 0, .int 0, .int 0, .int 0, .int 0, .int 0, .int 0, .ref q8, .ref q9, .ref q10, .null, .int 0, .null])), (q1, .inl (cA 1, 162, .inl (fun _ => 0))), (q2, .inl (cA 1, 54, .inl (fun _ => 0))), (q3, .inl (cA 3, 2, .inl (fun _ => 0))), (q4, .inl (cA 1, 8, .inl (fun _ => 0))), (q5, .inl (cA 1, 54, .inl (fun _ => 0))), (q6, .inl (cA 1, 8, .inl (fun _ => 0))), (q7, .inl (cA 1, 160, .inl (fun _ => 0))), (q8, .inl (cA 1, 8, .inl (fun _ => 0))), (q9, .inl (cA 1, 4, .inl (fun _ => 0))), (q10, .inl (cA 1, 4, .inl (fun _ => 0))), (q11, .inl (cA 1, 160, .inl (fun _ => 0)))] H := hP
  have hD : va_D A [(h0, .inr (7, [.ref q1, .ref q2, .ref q3, .int 0, .int 0, .int 0, .int 0, .ref q4, .ref q5, .int 0, .int 0, .int 0, .int 0, .ref q6, .int 0, .int 0, .int 0, .int 0, .ref q7, .int 0, .int 0, .int 0, .int 0, .int 0, .int 0, .int 0, .ref q8, .ref q9, .ref q10, .null, .int 0, .null])), (q1, .inl (cA 1, 162, .inl (fun _ => 0))), (q2, .inl (cA 1, 54, .inl (fun _ => 0))), (q3, .inl (cA 3, 2, .inl (fun _ => 0))), (q4, .inl (cA 1, 8, .inl (fun _ => 0))), (q5, .inl (cA 1, 54, .inl (fun _ => 0))), (q6, .inl (cA 1, 8, .inl (fun _ => 0))), (q7, .inl (cA 1, 160, .inl (fun _ => 0))), (q8, .inl (cA 1, 8, .inl (fun _ => 0))), (q9, .inl (cA 1, 4, .inl (fun _ => 0))), (q10, .inl (cA 1, 4, .inl (fun _ => 0))), (q11, .inl (cA 1, 160, .inl (fun _ => 0)))] := hD
  refine va_putF (D := (dC, dI)) (ci := 7) (v := .ref q11) (ty := .array .int) (C := RX7) (T := TX7) (N := 32) hx hb hts (zin 7 (by decide)) (zY 7) (zY_ok 7 (by decide)) (znm_ok 7 (by decide)) hown hK hP hD hS 0 rfl rfl 29 (by decide) (hts (.fieldLink RX7 41 "SeatCastModel" "cells" "[I") (zTBm (i := 932) (by decide +kernel) rfl)) (fun _ h9 => h9) rfl hin rfl (by decide +kernel) rfl rfl (Nat.le_of_ble_eq_true rfl) kd7_89 (fun H locs hP hD hS => ?_)
  have hP : va_P (dC, dI) vwCl [(h0, .inr (7, [.ref q1, .ref q2, .ref q3, .int 0, .int 0, .int 0, .int 0, .ref q4, .ref q5, .int 0, .int 0, .int 0, .int 0, .ref q6, .int 0, .int 0, .int 0, .int 0, .ref q7, .int 0, .int 0, .int 0, .int 0, .int 0, .int 0, .int 0, .ref q8, .ref q9, .ref q10, .ref q11, .int 0, .null])), (q1, .inl (cA 1, 162, .inl (fun _ => 0))), (q2, .inl (cA 1, 54, .inl (fun _ => 0))), (q3, .inl (cA 3, 2, .inl (fun _ => 0))), (q4, .inl (cA 1, 8, .inl (fun _ => 0))), (q5, .inl (cA 1, 54, .inl (fun _ => 0))), (q6, .inl (cA 1, 8, .inl (fun _ => 0))), (q7, .inl (cA 1, 160, .inl (fun _ => 0))), (q8, .inl (cA 1, 8, .inl (fun _ => 0))), (q9, .inl (cA 1, 4, .inl (fun _ => 0))), (q10, .inl (cA 1, 4, .inl (fun _ => 0))), (q11, .inl (cA 1, 160, .inl (fun _ => 0)))] H := hP
  have hD : va_D A [(h0, .inr (7, [.ref q1, .ref q2, .ref q3, .int 0, .int 0, .int 0, .int 0, .ref q4, .ref q5, .int 0, .int 0, .int 0, .int 0, .ref q6, .int 0, .int 0, .int 0, .int 0, .ref q7, .int 0, .int 0, .int 0, .int 0, .int 0, .int 0, .int 0, .ref q8, .ref q9, .ref q10, .ref q11, .int 0, .null])), (q1, .inl (cA 1, 162, .inl (fun _ => 0))), (q2, .inl (cA 1, 54, .inl (fun _ => 0))), (q3, .inl (cA 3, 2, .inl (fun _ => 0))), (q4, .inl (cA 1, 8, .inl (fun _ => 0))), (q5, .inl (cA 1, 54, .inl (fun _ => 0))), (q6, .inl (cA 1, 8, .inl (fun _ => 0))), (q7, .inl (cA 1, 160, .inl (fun _ => 0))), (q8, .inl (cA 1, 8, .inl (fun _ => 0))), (q9, .inl (cA 1, 4, .inl (fun _ => 0))), (q10, .inl (cA 1, 4, .inl (fun _ => 0))), (q11, .inl (cA 1, 160, .inl (fun _ => 0)))] := hD
  refine lv_aload_n hx hb kd7_92 rfl (lv_at hl 0 rfl) ?_
  refine lv_iconst (v := 4) hx hb kd7_93 (by decide) ?_
  refine kz_newa (atype := .int) (ty := .int) (n := 4) (N' := 4) hx hb (hts (.arrayClass .int) (zTBm (i := 207) (by decide +kernel) rfl)) rfl rfl 0 (ca := cA 1) rfl hK hP hD hS hA (by decide) (by decide) (Nat.le_of_ble_eq_true rfl) (Nat.le_of_ble_eq_true rfl) (Nat.le_of_ble_eq_true rfl) kd7_94 (fun q12 H hP hD hS => ?_)
  have hP : va_P (dC, dI) vwCl [(h0, .inr (7, [.ref q1, .ref q2, .ref q3, .int 0, .int 0, .int 0, .int 0, .ref q4, .ref q5, .int 0, .int 0, .int 0, .int 0, .ref q6, .int 0, .int 0, .int 0, .int 0, .ref q7, .int 0, .int 0, .int 0, .int 0, .int 0, .int 0, .int 0, .ref q8, .ref q9, .ref q10, .ref q11, .int 0, .null])), (q1, .inl (cA 1, 162, .inl (fun _ => 0))), (q2, .inl (cA 1, 54, .inl (fun _ => 0))), (q3, .inl (cA 3, 2, .inl (fun _ => 0))), (q4, .inl (cA 1, 8, .inl (fun _ => 0))), (q5, .inl (cA 1, 54, .inl (fun _ => 0))), (q6, .inl (cA 1, 8, .inl (fun _ => 0))), (q7, .inl (cA 1, 160, .inl (fun _ => 0))), (q8, .inl (cA 1, 8, .inl (fun _ => 0))), (q9, .inl (cA 1, 4, .inl (fun _ => 0))), (q10, .inl (cA 1, 4, .inl (fun _ => 0))), (q11, .inl (cA 1, 160, .inl (fun _ => 0))), (q12, .inl (cA 1, 4, .inl (fun _ => 0)))] H := hP
  have hD : va_D A [(h0, .inr (7, [.ref q1, .ref q2, .ref q3, .int 0, .int 0, .int 0, .int 0, .ref q4, .ref q5, .int 0, .int 0, .int 0, .int 0, .ref q6, .int 0, .int 0, .int 0, .int 0, .ref q7, .int 0, .int 0, .int 0, .int 0, .int 0, .int 0, .int 0, .ref q8, .ref q9, .ref q10, .ref q11, .int 0, .null])), (q1, .inl (cA 1, 162, .inl (fun _ => 0))), (q2, .inl (cA 1, 54, .inl (fun _ => 0))), (q3, .inl (cA 3, 2, .inl (fun _ => 0))), (q4, .inl (cA 1, 8, .inl (fun _ => 0))), (q5, .inl (cA 1, 54, .inl (fun _ => 0))), (q6, .inl (cA 1, 8, .inl (fun _ => 0))), (q7, .inl (cA 1, 160, .inl (fun _ => 0))), (q8, .inl (cA 1, 8, .inl (fun _ => 0))), (q9, .inl (cA 1, 4, .inl (fun _ => 0))), (q10, .inl (cA 1, 4, .inl (fun _ => 0))), (q11, .inl (cA 1, 160, .inl (fun _ => 0))), (q12, .inl (cA 1, 4, .inl (fun _ => 0)))] := hD
  refine va_putF (D := (dC, dI)) (ci := 7) (v := .ref q12) (ty := .array .int) (C := RX7) (T := TX7) (N := 32) hx hb hts (zin 7 (by decide)) (zY 7) (zY_ok 7 (by decide)) (znm_ok 7 (by decide)) hown hK hP hD hS 0 rfl rfl 31 (by decide) (hts (.fieldLink RX7 44 "SeatCastModel" "had" "[I") (zTBm (i := 934) (by decide +kernel) rfl)) (fun _ h9 => h9) rfl hin rfl (by decide +kernel) rfl rfl (Nat.le_of_ble_eq_true rfl) kd7_96 (fun H locs hP hD hS => ?_)
  have hP : va_P (dC, dI) vwCl [(h0, .inr (7, [.ref q1, .ref q2, .ref q3, .int 0, .int 0, .int 0, .int 0, .ref q4, .ref q5, .int 0, .int 0, .int 0, .int 0, .ref q6, .int 0, .int 0, .int 0, .int 0, .ref q7, .int 0, .int 0, .int 0, .int 0, .int 0, .int 0, .int 0, .ref q8, .ref q9, .ref q10, .ref q11, .int 0, .ref q12])), (q1, .inl (cA 1, 162, .inl (fun _ => 0))), (q2, .inl (cA 1, 54, .inl (fun _ => 0))), (q3, .inl (cA 3, 2, .inl (fun _ => 0))), (q4, .inl (cA 1, 8, .inl (fun _ => 0))), (q5, .inl (cA 1, 54, .inl (fun _ => 0))), (q6, .inl (cA 1, 8, .inl (fun _ => 0))), (q7, .inl (cA 1, 160, .inl (fun _ => 0))), (q8, .inl (cA 1, 8, .inl (fun _ => 0))), (q9, .inl (cA 1, 4, .inl (fun _ => 0))), (q10, .inl (cA 1, 4, .inl (fun _ => 0))), (q11, .inl (cA 1, 160, .inl (fun _ => 0))), (q12, .inl (cA 1, 4, .inl (fun _ => 0)))] H := hP
  have hD : va_D A [(h0, .inr (7, [.ref q1, .ref q2, .ref q3, .int 0, .int 0, .int 0, .int 0, .ref q4, .ref q5, .int 0, .int 0, .int 0, .int 0, .ref q6, .int 0, .int 0, .int 0, .int 0, .ref q7, .int 0, .int 0, .int 0, .int 0, .int 0, .int 0, .int 0, .ref q8, .ref q9, .ref q10, .ref q11, .int 0, .ref q12])), (q1, .inl (cA 1, 162, .inl (fun _ => 0))), (q2, .inl (cA 1, 54, .inl (fun _ => 0))), (q3, .inl (cA 3, 2, .inl (fun _ => 0))), (q4, .inl (cA 1, 8, .inl (fun _ => 0))), (q5, .inl (cA 1, 54, .inl (fun _ => 0))), (q6, .inl (cA 1, 8, .inl (fun _ => 0))), (q7, .inl (cA 1, 160, .inl (fun _ => 0))), (q8, .inl (cA 1, 8, .inl (fun _ => 0))), (q9, .inl (cA 1, 4, .inl (fun _ => 0))), (q10, .inl (cA 1, 4, .inl (fun _ => 0))), (q11, .inl (cA 1, 160, .inl (fun _ => 0))), (q12, .inl (cA 1, 4, .inl (fun _ => 0)))] := hD
  refine lv_iconst (v := 0) hx hb kd7_99 (by decide) ?_
  refine lv_istore_n (lv' := [(1, .int 0), (0, .ref h0)]) hx hb kd7_100 rfl hl (by decide) rfl (fun ls hl => ?_)
  refine lv_iload_n hx hb kd7_101 rfl (lv_at hl 0 rfl) ?_
  refine lv_iconst (v := 4) hx hb kd7_102 (by decide) ?_
  refine lv_icmp_ge (tgt := 120) hx hb kd7_103 (by decide) (fun c9 => absurd c9 (by decide)) (fun _ => ?_)
  refine lv_aload_n hx hb kd7_106 rfl (lv_at hl 1 rfl) ?_
  refine va_get (D := (dC, dI)) (ci := 7) (C := RX7) (T := TX7) (N := 32) hx hb hts (zin 7 (by decide)) hown hK hP 0 rfl rfl 27 (by decide) (hts (.fieldLink RX7 35 "SeatCastModel" "lanes" "[I") (zTBm (i := 930) (by decide +kernel) rfl)) (fun _ h9 => h9) (v := .ref q9) rfl kd7_107 ?_
  refine lv_iload_n hx hb kd7_110 rfl (lv_at hl 0 rfl) ?_
  refine lv_bipush (v := (-4)) hx hb kd7_111 (by decide) ?_
  refine va_iast (D := (dC, dI)) hx hb hK hP hD hS 9 0 (cA := cA 1) rfl rfl (by unfold vp_in; decide) kd7_113 (fun H locs hP hD hS => ?_)
  have hP : va_P (dC, dI) vwCl [(h0, .inr (7, [.ref q1, .ref q2, .ref q3, .int 0, .int 0, .int 0, .int 0, .ref q4, .ref q5, .int 0, .int 0, .int 0, .int 0, .ref q6, .int 0, .int 0, .int 0, .int 0, .ref q7, .int 0, .int 0, .int 0, .int 0, .int 0, .int 0, .int 0, .ref q8, .ref q9, .ref q10, .ref q11, .int 0, .ref q12])), (q1, .inl (cA 1, 162, .inl (fun _ => 0))), (q2, .inl (cA 1, 54, .inl (fun _ => 0))), (q3, .inl (cA 3, 2, .inl (fun _ => 0))), (q4, .inl (cA 1, 8, .inl (fun _ => 0))), (q5, .inl (cA 1, 54, .inl (fun _ => 0))), (q6, .inl (cA 1, 8, .inl (fun _ => 0))), (q7, .inl (cA 1, 160, .inl (fun _ => 0))), (q8, .inl (cA 1, 8, .inl (fun _ => 0))), (q9, .inl (cA 1, 4, .inl (upd (fun _ => 0) (0 : Int32).toNatClampNeg (-4)))), (q10, .inl (cA 1, 4, .inl (fun _ => 0))), (q11, .inl (cA 1, 160, .inl (fun _ => 0))), (q12, .inl (cA 1, 4, .inl (fun _ => 0)))] H := hP
  have hD : va_D A [(h0, .inr (7, [.ref q1, .ref q2, .ref q3, .int 0, .int 0, .int 0, .int 0, .ref q4, .ref q5, .int 0, .int 0, .int 0, .int 0, .ref q6, .int 0, .int 0, .int 0, .int 0, .ref q7, .int 0, .int 0, .int 0, .int 0, .int 0, .int 0, .int 0, .ref q8, .ref q9, .ref q10, .ref q11, .int 0, .ref q12])), (q1, .inl (cA 1, 162, .inl (fun _ => 0))), (q2, .inl (cA 1, 54, .inl (fun _ => 0))), (q3, .inl (cA 3, 2, .inl (fun _ => 0))), (q4, .inl (cA 1, 8, .inl (fun _ => 0))), (q5, .inl (cA 1, 54, .inl (fun _ => 0))), (q6, .inl (cA 1, 8, .inl (fun _ => 0))), (q7, .inl (cA 1, 160, .inl (fun _ => 0))), (q8, .inl (cA 1, 8, .inl (fun _ => 0))), (q9, .inl (cA 1, 4, .inl (upd (fun _ => 0) (0 : Int32).toNatClampNeg (-4)))), (q10, .inl (cA 1, 4, .inl (fun _ => 0))), (q11, .inl (cA 1, 160, .inl (fun _ => 0))), (q12, .inl (cA 1, 4, .inl (fun _ => 0)))] := hD
  refine lv_iinc (v := 1) (lv' := [(1, .int 1), (0, .ref h0)]) hx hb kd7_114 hl (k := 0) rfl (by decide) (by decide) rfl (fun ls hl => ?_)
  refine lv_goto (tgt := 101) hx hb kd7_117 (by decide) ?_
  refine lv_iload_n hx hb kd7_101 rfl (lv_at hl 0 rfl) ?_
  refine lv_iconst (v := 4) hx hb kd7_102 (by decide) ?_
  refine lv_icmp_ge (tgt := 120) hx hb kd7_103 (by decide) (fun c9 => absurd c9 (by decide)) (fun _ => ?_)
  refine lv_aload_n hx hb kd7_106 rfl (lv_at hl 1 rfl) ?_
  refine va_get (D := (dC, dI)) (ci := 7) (C := RX7) (T := TX7) (N := 32) hx hb hts (zin 7 (by decide)) hown hK hP 0 rfl rfl 27 (by decide) (hts (.fieldLink RX7 35 "SeatCastModel" "lanes" "[I") (zTBm (i := 930) (by decide +kernel) rfl)) (fun _ h9 => h9) (v := .ref q9) rfl kd7_107 ?_
  refine lv_iload_n hx hb kd7_110 rfl (lv_at hl 0 rfl) ?_
  refine lv_bipush (v := (-4)) hx hb kd7_111 (by decide) ?_
  refine va_iast (D := (dC, dI)) hx hb hK hP hD hS 9 0 (cA := cA 1) rfl rfl (by unfold vp_in; decide) kd7_113 (fun H locs hP hD hS => ?_)
  have hP : va_P (dC, dI) vwCl [(h0, .inr (7, [.ref q1, .ref q2, .ref q3, .int 0, .int 0, .int 0, .int 0, .ref q4, .ref q5, .int 0, .int 0, .int 0, .int 0, .ref q6, .int 0, .int 0, .int 0, .int 0, .ref q7, .int 0, .int 0, .int 0, .int 0, .int 0, .int 0, .int 0, .ref q8, .ref q9, .ref q10, .ref q11, .int 0, .ref q12])), (q1, .inl (cA 1, 162, .inl (fun _ => 0))), (q2, .inl (cA 1, 54, .inl (fun _ => 0))), (q3, .inl (cA 3, 2, .inl (fun _ => 0))), (q4, .inl (cA 1, 8, .inl (fun _ => 0))), (q5, .inl (cA 1, 54, .inl (fun _ => 0))), (q6, .inl (cA 1, 8, .inl (fun _ => 0))), (q7, .inl (cA 1, 160, .inl (fun _ => 0))), (q8, .inl (cA 1, 8, .inl (fun _ => 0))), (q9, .inl (cA 1, 4, .inl (upd (upd (fun _ => 0) (0 : Int32).toNatClampNeg (-4)) (1 : Int32).toNatClampNeg (-4)))), (q10, .inl (cA 1, 4, .inl (fun _ => 0))), (q11, .inl (cA 1, 160, .inl (fun _ => 0))), (q12, .inl (cA 1, 4, .inl (fun _ => 0)))] H := hP
  have hD : va_D A [(h0, .inr (7, [.ref q1, .ref q2, .ref q3, .int 0, .int 0, .int 0, .int 0, .ref q4, .ref q5, .int 0, .int 0, .int 0, .int 0, .ref q6, .int 0, .int 0, .int 0, .int 0, .ref q7, .int 0, .int 0, .int 0, .int 0, .int 0, .int 0, .int 0, .ref q8, .ref q9, .ref q10, .ref q11, .int 0, .ref q12])), (q1, .inl (cA 1, 162, .inl (fun _ => 0))), (q2, .inl (cA 1, 54, .inl (fun _ => 0))), (q3, .inl (cA 3, 2, .inl (fun _ => 0))), (q4, .inl (cA 1, 8, .inl (fun _ => 0))), (q5, .inl (cA 1, 54, .inl (fun _ => 0))), (q6, .inl (cA 1, 8, .inl (fun _ => 0))), (q7, .inl (cA 1, 160, .inl (fun _ => 0))), (q8, .inl (cA 1, 8, .inl (fun _ => 0))), (q9, .inl (cA 1, 4, .inl (upd (upd (fun _ => 0) (0 : Int32).toNatClampNeg (-4)) (1 : Int32).toNatClampNeg (-4)))), (q10, .inl (cA 1, 4, .inl (fun _ => 0))), (q11, .inl (cA 1, 160, .inl (fun _ => 0))), (q12, .inl (cA 1, 4, .inl (fun _ => 0)))] := hD
  refine lv_iinc (v := 2) (lv' := [(1, .int 2), (0, .ref h0)]) hx hb kd7_114 hl (k := 0) rfl (by decide) (by decide) rfl (fun ls hl => ?_)
  refine lv_goto (tgt := 101) hx hb kd7_117 (by decide) ?_
  refine lv_iload_n hx hb kd7_101 rfl (lv_at hl 0 rfl) ?_
  refine lv_iconst (v := 4) hx hb kd7_102 (by decide) ?_
  refine lv_icmp_ge (tgt := 120) hx hb kd7_103 (by decide) (fun c9 => absurd c9 (by decide)) (fun _ => ?_)
  refine lv_aload_n hx hb kd7_106 rfl (lv_at hl 1 rfl) ?_
  refine va_get (D := (dC, dI)) (ci := 7) (C := RX7) (T := TX7) (N := 32) hx hb hts (zin 7 (by decide)) hown hK hP 0 rfl rfl 27 (by decide) (hts (.fieldLink RX7 35 "SeatCastModel" "lanes" "[I") (zTBm (i := 930) (by decide +kernel) rfl)) (fun _ h9 => h9) (v := .ref q9) rfl kd7_107 ?_
  refine lv_iload_n hx hb kd7_110 rfl (lv_at hl 0 rfl) ?_
  refine lv_bipush (v := (-4)) hx hb kd7_111 (by decide) ?_
  refine va_iast (D := (dC, dI)) hx hb hK hP hD hS 9 0 (cA := cA 1) rfl rfl (by unfold vp_in; decide) kd7_113 (fun H locs hP hD hS => ?_)
  have hP : va_P (dC, dI) vwCl [(h0, .inr (7, [.ref q1, .ref q2, .ref q3, .int 0, .int 0, .int 0, .int 0, .ref q4, .ref q5, .int 0, .int 0, .int 0, .int 0, .ref q6, .int 0, .int 0, .int 0, .int 0, .ref q7, .int 0, .int 0, .int 0, .int 0, .int 0, .int 0, .int 0, .ref q8, .ref q9, .ref q10, .ref q11, .int 0, .ref q12])), (q1, .inl (cA 1, 162, .inl (fun _ => 0))), (q2, .inl (cA 1, 54, .inl (fun _ => 0))), (q3, .inl (cA 3, 2, .inl (fun _ => 0))), (q4, .inl (cA 1, 8, .inl (fun _ => 0))), (q5, .inl (cA 1, 54, .inl (fun _ => 0))), (q6, .inl (cA 1, 8, .inl (fun _ => 0))), (q7, .inl (cA 1, 160, .inl (fun _ => 0))), (q8, .inl (cA 1, 8, .inl (fun _ => 0))), (q9, .inl (cA 1, 4, .inl (upd (upd (upd (fun _ => 0) (0 : Int32).toNatClampNeg (-4)) (1 : Int32).toNatClampNeg (-4)) (2 : Int32).toNatClampNeg (-4)))), (q10, .inl (cA 1, 4, .inl (fun _ => 0))), (q11, .inl (cA 1, 160, .inl (fun _ => 0))), (q12, .inl (cA 1, 4, .inl (fun _ => 0)))] H := hP
  have hD : va_D A [(h0, .inr (7, [.ref q1, .ref q2, .ref q3, .int 0, .int 0, .int 0, .int 0, .ref q4, .ref q5, .int 0, .int 0, .int 0, .int 0, .ref q6, .int 0, .int 0, .int 0, .int 0, .ref q7, .int 0, .int 0, .int 0, .int 0, .int 0, .int 0, .int 0, .ref q8, .ref q9, .ref q10, .ref q11, .int 0, .ref q12])), (q1, .inl (cA 1, 162, .inl (fun _ => 0))), (q2, .inl (cA 1, 54, .inl (fun _ => 0))), (q3, .inl (cA 3, 2, .inl (fun _ => 0))), (q4, .inl (cA 1, 8, .inl (fun _ => 0))), (q5, .inl (cA 1, 54, .inl (fun _ => 0))), (q6, .inl (cA 1, 8, .inl (fun _ => 0))), (q7, .inl (cA 1, 160, .inl (fun _ => 0))), (q8, .inl (cA 1, 8, .inl (fun _ => 0))), (q9, .inl (cA 1, 4, .inl (upd (upd (upd (fun _ => 0) (0 : Int32).toNatClampNeg (-4)) (1 : Int32).toNatClampNeg (-4)) (2 : Int32).toNatClampNeg (-4)))), (q10, .inl (cA 1, 4, .inl (fun _ => 0))), (q11, .inl (cA 1, 160, .inl (fun _ => 0))), (q12, .inl (cA 1, 4, .inl (fun _ => 0)))] := hD
  refine lv_iinc (v := 3) (lv' := [(1, .int 3), (0, .ref h0)]) hx hb kd7_114 hl (k := 0) rfl (by decide) (by decide) rfl (fun ls hl => ?_)
  refine lv_goto (tgt := 101) hx hb kd7_117 (by decide) ?_
  refine lv_iload_n hx hb kd7_101 rfl (lv_at hl 0 rfl) ?_
  refine lv_iconst (v := 4) hx hb kd7_102 (by decide) ?_
  refine lv_icmp_ge (tgt := 120) hx hb kd7_103 (by decide) (fun c9 => absurd c9 (by decide)) (fun _ => ?_)
  refine lv_aload_n hx hb kd7_106 rfl (lv_at hl 1 rfl) ?_
  refine va_get (D := (dC, dI)) (ci := 7) (C := RX7) (T := TX7) (N := 32) hx hb hts (zin 7 (by decide)) hown hK hP 0 rfl rfl 27 (by decide) (hts (.fieldLink RX7 35 "SeatCastModel" "lanes" "[I") (zTBm (i := 930) (by decide +kernel) rfl)) (fun _ h9 => h9) (v := .ref q9) rfl kd7_107 ?_
  refine lv_iload_n hx hb kd7_110 rfl (lv_at hl 0 rfl) ?_
  refine lv_bipush (v := (-4)) hx hb kd7_111 (by decide) ?_
  refine va_iast (D := (dC, dI)) hx hb hK hP hD hS 9 0 (cA := cA 1) rfl rfl (by unfold vp_in; decide) kd7_113 (fun H locs hP hD hS => ?_)
  have hP : va_P (dC, dI) vwCl [(h0, .inr (7, [.ref q1, .ref q2, .ref q3, .int 0, .int 0, .int 0, .int 0, .ref q4, .ref q5, .int 0, .int 0, .int 0, .int 0, .ref q6, .int 0, .int 0, .int 0, .int 0, .ref q7, .int 0, .int 0, .int 0, .int 0, .int 0, .int 0, .int 0, .ref q8, .ref q9, .ref q10, .ref q11, .int 0, .ref q12])), (q1, .inl (cA 1, 162, .inl (fun _ => 0))), (q2, .inl (cA 1, 54, .inl (fun _ => 0))), (q3, .inl (cA 3, 2, .inl (fun _ => 0))), (q4, .inl (cA 1, 8, .inl (fun _ => 0))), (q5, .inl (cA 1, 54, .inl (fun _ => 0))), (q6, .inl (cA 1, 8, .inl (fun _ => 0))), (q7, .inl (cA 1, 160, .inl (fun _ => 0))), (q8, .inl (cA 1, 8, .inl (fun _ => 0))), (q9, .inl (cA 1, 4, .inl (upd (upd (upd (upd (fun _ => 0) (0 : Int32).toNatClampNeg (-4)) (1 : Int32).toNatClampNeg (-4)) (2 : Int32).toNatClampNeg (-4)) (3 : Int32).toNatClampNeg (-4)))), (q10, .inl (cA 1, 4, .inl (fun _ => 0))), (q11, .inl (cA 1, 160, .inl (fun _ => 0))), (q12, .inl (cA 1, 4, .inl (fun _ => 0)))] H := hP
  have hD : va_D A [(h0, .inr (7, [.ref q1, .ref q2, .ref q3, .int 0, .int 0, .int 0, .int 0, .ref q4, .ref q5, .int 0, .int 0, .int 0, .int 0, .ref q6, .int 0, .int 0, .int 0, .int 0, .ref q7, .int 0, .int 0, .int 0, .int 0, .int 0, .int 0, .int 0, .ref q8, .ref q9, .ref q10, .ref q11, .int 0, .ref q12])), (q1, .inl (cA 1, 162, .inl (fun _ => 0))), (q2, .inl (cA 1, 54, .inl (fun _ => 0))), (q3, .inl (cA 3, 2, .inl (fun _ => 0))), (q4, .inl (cA 1, 8, .inl (fun _ => 0))), (q5, .inl (cA 1, 54, .inl (fun _ => 0))), (q6, .inl (cA 1, 8, .inl (fun _ => 0))), (q7, .inl (cA 1, 160, .inl (fun _ => 0))), (q8, .inl (cA 1, 8, .inl (fun _ => 0))), (q9, .inl (cA 1, 4, .inl (upd (upd (upd (upd (fun _ => 0) (0 : Int32).toNatClampNeg (-4)) (1 : Int32).toNatClampNeg (-4)) (2 : Int32).toNatClampNeg (-4)) (3 : Int32).toNatClampNeg (-4)))), (q10, .inl (cA 1, 4, .inl (fun _ => 0))), (q11, .inl (cA 1, 160, .inl (fun _ => 0))), (q12, .inl (cA 1, 4, .inl (fun _ => 0)))] := hD
  refine lv_iinc (v := 4) (lv' := [(1, .int 4), (0, .ref h0)]) hx hb kd7_114 hl (k := 0) rfl (by decide) (by decide) rfl (fun ls hl => ?_)
  refine lv_goto (tgt := 101) hx hb kd7_117 (by decide) ?_
  refine lv_iload_n hx hb kd7_101 rfl (lv_at hl 0 rfl) ?_
  refine lv_iconst (v := 4) hx hb kd7_102 (by decide) ?_
  refine lv_icmp_ge (tgt := 120) hx hb kd7_103 (by decide) (fun _ => ?_) (fun c9 => absurd (show (4 : Int32) ≤ 4 by decide) c9)
  obtain ⟨τc, -, -, hz0⟩ := L_clear 0 (fun _ _ _ _ => 0)
  obtain ⟨τ1, hc1, -, -, r1, -⟩ := L_firstDraft hz0 kzm0
  obtain ⟨τ2, hc2, -⟩ := L_keepDraft (σ := τ1) (L := 0) (by decide) r1.1.2.2.2
  have hP : va_P (dC, dI) vwCl (zws cA (fun n => kz13 h0 q1 q2 q3 q4 q5 q6 q7 q8 q9 q10 q11 q12 n.2.2) kzM kzm0) H := hP
  have hD : va_D A (zws cA (fun n => kz13 h0 q1 q2 q3 q4 q5 q6 q7 q8 q9 q10 q11 q12 n.2.2) kzM kzm0) := hD
  have hw := kzM_wf hD
  refine lv_aload_n hx hb kd7_120 rfl (lv_at hl 1 rfl) ?_
  refine kz_call (mi := 117) (q := 7) (n := (3, 0, 0)) (idx := 47) hw hx hb hml hown hts hK (by decide +kernel) (by decide) (by decide) rfl rfl (by decide) rfl rfl rfl (by decide +kernel) (hts (.methodLink RX7 47 (zyn 117)) (zTBm (i := 895) (by decide +kernel) rfl)) (Nat.le_of_ble_eq_true rfl) (Nat.le_of_ble_eq_true rfl) (Nat.le_of_ble_eq_true rfl) (Nat.le_of_ble_eq_true rfl) hl.1 hc1 hP hS kd7_121 (fun H locs hP hS => ?_)
  refine lv_aload_n hx hb kd7_124 rfl (lv_at hl 1 rfl) ?_
  refine kz_call (mi := 118) (q := 7) (n := (3, 0, 0)) (idx := 50) hw hx hb hml hown hts hK (by decide +kernel) (by decide) (by decide) rfl rfl (by decide) rfl rfl rfl (by decide +kernel) (hts (.methodLink RX7 50 (zyn 118)) (zTBm (i := 899) (by decide +kernel) rfl)) (Nat.le_of_ble_eq_true rfl) (Nat.le_of_ble_eq_true rfl) (Nat.le_of_ble_eq_true rfl) (Nat.le_of_ble_eq_true rfl) hl.1 hc2 hP hS kd7_125 (fun H locs hP hS => ?_)
  refine W.widen (k := 12) (n := 628) (Nat.le_of_ble_eq_true rfl) (Nat.le_of_ble_eq_true rfl) ?_
  exact W.vret hx hb hr (fun t ht hW => ⟨⟨(kz13 h0 q1 q2 q3 q4 q5 q6 q7 q8 q9 q10 q11 q12, τ2), rfl, ⟨rfl, kz_MP hc1 hc2⟩, by rw [ht]; exact hP, zD hw τ2⟩, hS.F ht⟩) hS.2.2 kd7_128
