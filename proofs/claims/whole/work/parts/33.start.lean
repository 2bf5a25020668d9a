/-! THE START: the cells that nobody writes, out of what the Statement gives; what both programs hold at first -/
theorem kz_inv {σ : ZS} (h1 : zH0 (σ 1 0)) (h2 : ∀ j k, σ 0 0 j k = 0) (h3 : ∀ g k, σ 2 g 0 k = kzq0 k ∧ σ 2 g 1 k = 0) (hm : kzMP (σ 3 0)) (hk : zKo σ) : zInv σ := by
  obtain ⟨m1, m2, m3, m4, m5, m6, m7⟩ := hm
  obtain ⟨r, a1, a2, a3, a4⟩ := m1 _ h1
  obtain ⟨R, P, wf, -, -⟩ := zDI_WF (zDI_0 h1) (Nat.zero_le _)
  refine ⟨R, P, 0, 0, 0, wf, r, ⟨a1, a2, a3, a4, fun i hi => absurd hi (Nat.not_lt_zero _)⟩, fun k hk => ?_, fun k hk => ?_, ⟨0, by decide, (h2 5 1).trans nI_0.symm, m5.trans nI_0.symm, fun i h => absurd h (Nat.not_lt_zero _)⟩, ⟨?_, ?_⟩, hk⟩
  · have c0 : σ 0 0 2 k = 0 := h2 2 k
    have m0 : σ 3 0 3 k = 0 := by
      rcases (by omega : k = 0 ∨ k = 1) with rfl | rfl
      · exact m2.1
      · exact m2.2
    rw [c0, m0]
    exact ⟨rfl, Or.inl rfl, fun z => absurd z (by decide)⟩
  · have e1 : σ 2 k 0 1 = -4 := (h3 k 1).1
    have e2 : σ 2 k 0 2 = 0 := (h3 k 2).1
    rw [e1, e2, (m3 k hk).1, (m3 k hk).2]
    exact ⟨⟨Or.inl rfl, 0, by decide, nI_0.symm⟩, rfl, rfl, fun i hi => by rw [m4, (h3 k i).2]⟩
  · rw [m6, h2 0 9]
  · rw [m7, h2 0 10]
def kzlen : List Nat := [5, 4, 3, 4, 4, 5, 4]
def kzbyt : List (List Int32) := [[104, 111, 117, 115, 101], [112, 97, 114, 116], [111, 110, 101], [97, 119, 97, 121], [108, 105, 110, 101], [115, 99, 101, 110, 101], [115, 111, 102, 116]]
def kzorn (k : Nat) : Int32 := match k with
  | 0 => 1
  | 1 => 1
  | 2 => 2
  | 3 => 6
  | _ => 24
def kzro4 (L : Nat) (xs : Nat → Int32) (j : Nat) : Nat → Int32 := match j with
  | 0 => xs
  | _ => fun _ => nI L
def kzro5 (j : Nat) : Nat → Int32 := match j with
  | 0 => kzorn
  | _ => fun _ => 5
def kzro6 (g j : Nat) : Nat → Int32 := match j with
  | 0 => fun _ => 0
  | 1 => fun k => (kzbyt.getD g []).getD k 0
  | _ => fun _ => nI (kzlen.getD g 0)
/-- what the cells hold that nobody writes -/
def kzro (L : Nat) (xs : Nat → Int32) : ZS := fun c g j => match c with
  | 4 => kzro4 L xs j
  | 5 => kzro5 j
  | 6 => kzro6 g j
  | _ => fun _ => 0
theorem kz_st : ∀ i, i < 7 → nI (kzlen.getD i 0) = nI (zST i).length ∧ ∀ j, j < (zST i).length → (kzbyt.getD i []).getD j 0 = nI ((zST i).toList.getD j 'a').toNat := by decide +kernel
theorem kz_ko {L : Nat} {xs : Nat → Int32} {σ : ZS} (h5 : σ 5 = kzro L xs 5) (h6 : σ 6 = kzro L xs 6) : zKo σ := by
  unfold zKo
  rw [h5, h6]
  exact ⟨⟨rfl, rfl, rfl, rfl, rfl, rfl⟩, fun i hi => ⟨rfl, kz_st i hi⟩⟩
theorem kz_l6 : ∀ i, i < 7 → kzlen.getD i 0 < 6 := by decide
theorem kz_o5 : ∀ j, j < 5 → Cond.eq (.elem (.static "SeatCast" "ORDERS" "[I") (.int (Int32.ofNat j))) (.int (kzorn j)) ∈ flatC (Jvm.Cond.and given_1 narrow_1) := by decide +kernel
theorem kz_s1 : ∀ i, i < 7 → Cond.exactly (.string "SeatCast$Reader" (zSX i)) "java/lang/String" ∈ flatC (Jvm.Cond.and given_1 narrow_1) := by decide +kernel
theorem kz_s2 : ∀ i, i < 7 → Cond.eq (.field (.string "SeatCast$Reader" (zSX i)) "java/lang/String" "coder" "B") (.int 0) ∈ flatC (Jvm.Cond.and given_1 narrow_1) := by decide +kernel
theorem kz_s3 : ∀ i, i < 7 → Cond.arrayOf (.field (.string "SeatCast$Reader" (zSX i)) "java/lang/String" "value" "[B") .byte ∈ flatC (Jvm.Cond.and given_1 narrow_1) := by decide +kernel
theorem kz_s4 : ∀ i, i < 7 → Cond.eq (.length (.field (.string "SeatCast$Reader" (zSX i)) "java/lang/String" "value" "[B")) (.int (Int32.ofNat (kzlen.getD i 0))) ∈ flatC (Jvm.Cond.and given_1 narrow_1) := by decide +kernel
theorem kz_s5 : ∀ i, i < 7 → ∀ j, j < kzlen.getD i 0 → Cond.eq (.elem (.field (.string "SeatCast$Reader" (zSX i)) "java/lang/String" "value" "[B") (.int (Int32.ofNat j))) (.int ((kzbyt.getD i []).getD j 0)) ∈ flatC (Jvm.Cond.and given_1 narrow_1) := by decide +kernel
theorem kz_s6 : ∀ i, i < 7 → ∀ j, j < 7 → i ≠ j → Cond.not (Cond.eq (.string "SeatCast$Reader" (zSX i)) (.string "SeatCast$Reader" (zSX j))) ∈ flatC (Jvm.Cond.and given_1 narrow_1) ∨ Cond.not (Cond.eq (.string "SeatCast$Reader" (zSX j)) (.string "SeatCast$Reader" (zSX i))) ∈ flatC (Jvm.Cond.and given_1 narrow_1) := by decide +kernel
theorem kz_s7 : ∀ i, i < 7 → Cond.stringRef "SeatCast$Reader" (zSX i) (zST i) ∈ lw_tbl := by decide +kernel
theorem kz_ro {s : State} {b L : Nat} {xs : Nat → Int32} (hL : L ≤ 2560) (hX : va_X b L xs s s.heap) (hbl : b < s.heap.size) (hts : ∀ w ∈ lw_tbl, w.before #[Value.ref b] s = true) (hg : (Jvm.Cond.and given_1 narrow_1).before #[Value.ref b] s = true) : ∃ (o : Nat) (sK sV : Nat → Nat) (fv : Value), (fv = .null ∨ ∃ a, fv = .ref a) ∧ ∀ ad : ZN → Nat, ad (4, 0, 0) = b → ad (5, 0, 0) = o → (∀ i, ad (6, i, 0) = sK i) → (∀ i, ad (6, i, 1) = sV i) → zRO ad fv (kzro L xs) (fun q : Nat => s.heap.size ≤ q) s s.heap := by
  have hs := flat_of_before _ hg
  have hA : ∀ a : Nat, a < s.heap.size → ¬ (fun q : Nat => s.heap.size ≤ q) a := fun a h => Nat.not_le.mpr h
  have hz : ∀ {i : Nat} {w : Cond}, lw_tbl[i]? = some w → w.before #[Value.ref b] s = true := fun h => hts _ (List.mem_of_getElem? h)
  obtain ⟨o, ho1, ho2⟩ := va_Tof (args := #[Value.ref b]) (s := s) (f := fun j => .int (kzorn j)) (tm := .static "SeatCast" "ORDERS" "[I") (ty := .int) (N := 5) (A := fun q : Nat => s.heap.size ≤ q) (by decide) (hs _ (by decide +kernel)) (va_eqt (t := .length (.static "SeatCast" "ORDERS" "[I")) (z := Int32.ofNat 5) (hs _ (by decide +kernel))) (fun j hj => va_eqt (hs _ (kz_o5 j hj))) hA
  obtain ⟨sK, sV, hS, hev⟩ := vk_Sof (args := #[Value.ref b]) (s := s) (N := 7) (tm := fun i => .string "SeatCast$Reader" (zSX i)) (len := kzlen) (byt := kzbyt) (A := fun q : Nat => s.heap.size ≤ q) (fun i hi => Nat.lt_trans (kz_l6 i hi) (by decide)) (fun i hi => hs _ (kz_s1 i hi)) (fun i hi => hs _ (kz_s2 i hi)) (fun i hi => hs _ (kz_s3 i hi)) (fun i hi => hs _ (kz_s4 i hi)) (fun i hi j hj => hs _ (kz_s5 i hi j hj)) (fun i j hi hj hij => (kz_s6 i hi j hj hij).imp (fun h => hs _ h) (fun h => hs _ h)) hA
  have hq := va_Zqof (args := #[Value.ref b]) (s := s) (C := "jdk/internal/util/Preconditions") (n := "SIOOBE_FORMATTER") (d := "Ljava/util/function/BiFunction;") (A := fun q : Nat => s.heap.size ≤ q) (hz (i := 418) (by decide +kernel)) (hz (i := 73) (by decide +kernel)) (hs _ (by decide +kernel)) hA
  obtain ⟨fv, hfv, hfz⟩ : ∃ fv : Value, (fv = .null ∨ ∃ a, fv = .ref a) ∧ va_Z "jdk/internal/util/Preconditions" "SIOOBE_FORMATTER" "Ljava/util/function/BiFunction;" fv (fun q : Nat => s.heap.size ≤ q) s s.heap := by
    rcases hq with h | ⟨t, h⟩
    · exact ⟨_, Or.inl rfl, h⟩
    · exact ⟨_, Or.inr ⟨t, rfl⟩, h⟩
  have hcs : va_Z "java/lang/String" "COMPACT_STRINGS" "Z" (.int 1) (fun q : Nat => s.heap.size ≤ q) s s.heap := va_Zof (args := #[Value.ref b]) (hz (i := 402) (by decide +kernel)) (hz (i := 71) (by decide +kernel)) (va_eqi (hs _ (by decide +kernel))) hA
  have hor : va_Z "SeatCast" "ORDERS" "[I" (.ref o) (fun q : Nat => s.heap.size ≤ q) s s.heap := va_Zof (args := #[Value.ref b]) (hz (i := 770) (by decide +kernel)) (hz (i := 63) (by decide +kernel)) ho1 hA
  have eL : (nI L).toNatClampNeg = L := nI_clamp (by omega)
  have e5 : (kzro L xs 5 0 1 0).toNatClampNeg = 5 := show (5 : Int32).toNatClampNeg = 5 from by decide +kernel
  refine ⟨o, sK, sV, fv, hfv, fun ad h4 h5 h60 h61 => ⟨⟨?_, ?_⟩, ⟨?_, ?_⟩, fun i hi => ?_, hcs, hfz⟩⟩
  · rw [h4]
    show va_T .int b (nI L).toNatClampNeg (fun j => .int (xs j)) (fun q : Nat => s.heap.size ≤ q) s s.heap
    rw [eL]
    obtain ⟨scr, x1, x2, x3, x4, x5⟩ := hX
    exact ⟨scr, x1, x2, x3, by omega, by rw [x4], fun j hj => x5 j hj, hA b hbl⟩
  · show Int32.ofNat (nI L).toNatClampNeg = nI L
    rw [eL]
    rfl
  · rw [h5]
    exact hor
  · rw [h5, e5]
    exact ho2
  · have h := hS.1 i hi
    have e6 : (nI (kzlen.getD i 0)).toNatClampNeg = kzlen.getD i 0 := nI_clamp (Nat.lt_trans (kz_l6 i hi) (by decide))
    rw [h60 i, h61 i]
    refine ⟨h.1, h.2.1, h.2.2.1, ?_, ?_, vk_R.of (hts _ (kz_s7 i hi)) (hev i hi)⟩
    · show va_T .byte (sV i) (nI (kzlen.getD i 0)).toNatClampNeg (fun j => .int ((kzbyt.getD i []).getD j 0)) (fun q : Nat => s.heap.size ≤ q) s s.heap
      rw [e6]
      exact h.2.2.2
    · show Int32.ofNat (nI (kzlen.getD i 0)).toNatClampNeg = nI (kzlen.getD i 0)
      rw [e6]
      rfl
