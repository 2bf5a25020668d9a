/-! bits of small numbers; more pairs -/
theorem zb1 : ∀ o, o < 256 → ∀ j, j < 8 → zbit (nI o) j = if o.testBit j then 1 else 0 := by decide +kernel
theorem zb2 : ∀ o, o < 256 → ∀ i, i < 8 → nI o ||| ((1 : Int32) <<< (nI i &&& 31)) = nI (o ||| 1 <<< i) := by decide +kernel
theorem zb3 : ∀ o, o < 256 → ∀ i, i < 8 → nI o &&& (((1 : Int32) <<< (nI i &&& 31)) ^^^ (-1 : Int32)) = nI (o &&& (255 ^^^ 1 <<< i)) := by decide +kernel
theorem zor_lt {o i L : Nat} (h : o < 2 ^ L) (hi : i < L) : o ||| 1 <<< i < 2 ^ L := Nat.or_lt_two_pow h (by rw [Nat.one_shiftLeft]; exact Nat.pow_lt_pow_right (by omega) hi)
theorem zand_lt {o m L : Nat} (h : o < 2 ^ L) : o &&& m < 2 ^ L := Nat.lt_of_le_of_lt Nat.and_le_left h
theorem p2_8 {L o : Nat} (hL : L ≤ 8) (h : o < 2 ^ L) : o < 256 := Nat.lt_of_lt_of_le h (Nat.pow_le_pow_right (by omega) hL)
theorem tb_or (o i j : Nat) : (o ||| 1 <<< i).testBit j = (o.testBit j || decide (i = j)) := by
  rw [Nat.testBit_or, Nat.one_shiftLeft, Nat.testBit_two_pow]
theorem tb_and {o i j : Nat} (hj : j < 8) : (o &&& (255 ^^^ 1 <<< i)).testBit j = (o.testBit j && !decide (i = j)) := by
  rw [Nat.testBit_and, Nat.testBit_xor, Nat.one_shiftLeft, Nat.testBit_two_pow]
  have : Nat.testBit 255 j = true := by
    rcases (by omega : j = 0 ∨ j = 1 ∨ j = 2 ∨ j = 3 ∨ j = 4 ∨ j = 5 ∨ j = 6 ∨ j = 7) with rfl | rfl | rfl | rfl | rfl | rfl | rfl | rfl <;> rfl
  rw [this]
  simp
theorem zadd0 (k : Nat) : (0 : Int32) + nI k = nI k := by
  rw [show (0 : Int32) = nI 0 from rfl, nI_add, Nat.zero_add]
theorem z28 (k : Nat) : (28 : Int32) + nI k = nI (28 + k) := by
  rw [show (28 : Int32) = nI 28 from rfl, nI_add]
theorem zRP {R P : Nat} : nI R * nI P - 1 = nI (R * P) - 1 := by rw [pk_mul]
theorem zRP12 {R P : Nat} (h1 : R ≤ 3) (h2 : P ≤ 4) : R * P ≤ 12 := Nat.mul_le_mul h1 h2
theorem Q_seat {σ : ZS} (hi : zInv σ) (x y : Int32) : zPair (zcall 66 [zA 0 0 0, zI x, zI y]) (zcall 139 [zA 3 0 0, zI x, zI y]) σ := by
  obtain ⟨R, P, N, L, S, a1, a2, a3, a4, a5, a6, a7, a8⟩ := id hi
  have hN : N ≤ 4 := a1.2.1.2.2.2.2.1
  have h12 := zRP12 a1.2.1.2.1 a1.2.1.2.2.2.1
  have n1 : σ 1 0 0 0 = nI R := a1.1.1
  have n2 : σ 1 0 0 1 = nI P := a1.1.2.1
  have n3 : σ 3 0 0 3 = nI R := a3.1.trans n1
  have n4 : σ 3 0 0 4 = nI P := a3.2.1.trans n2
  have key : ∃ v, zcall 66 [zA 0 0 0, zI x, zI y] σ = some (zI v, σ) ∧ zcall 139 [zA 3 0 0, zI x, zI y] σ = some (zI v, σ) := by
    simp only [E_S_seat, E_M_seat, L_hasSeat, L_isSeat, L_is0_1, L_in0_1, zbI_some, zif_b, n1, n2, n3, n4, zRP]
    rcases zin2_c x (n := R * P) (by omega) with h1 | ⟨s, hs, rfl, h1⟩
    · rw [h1]
      exact ⟨-1, rfl, rfl⟩
    · rw [h1]
      simp only [if_true]
      cases zin2 y (nI 0) (nI 1) with
      | false => exact ⟨-1, rfl, rfl⟩
      | true =>
        simp only [if_true]
        by_cases hy : y = 0
        · rw [if_pos hy, if_pos hy, zadd0, zck_nI (by omega) (by decide), zck_nI (by omega) (by decide), nI_clamp (by omega), a2.1 s (by omega)]
          exact ⟨_, rfl, rfl⟩
        · rw [if_neg hy, if_neg hy]
          obtain ⟨w, k1, k2⟩ := L_whoSits (σ := σ) (g := 0) a1.1.2.2.1 hN (nI s)
          obtain ⟨u, k3, k4⟩ := L_whoIsIn (σ := σ) (a3.2.2.1.trans a1.1.2.2.1) hN (nI s)
          rw [k1, k3, zbI_some, zbI_some]
          refine ⟨w, rfl, ?_⟩
          rw [zWho_u (fun p hp => (a2.2.1 p hp).1) a1.2.2.2.2.2.2.1.2 (nI_ne4 (by omega)) k2 k4]
  obtain ⟨v, k1, k2⟩ := key
  exact zPair_same hi k1 k2
theorem Q_line {σ : ZS} (hi : zInv σ) (x y : Int32) : zPair (zcall 68 [zA 0 0 0, zI x, zI y]) (zcall 145 [zA 3 0 0, zI x, zI y]) σ := by
  obtain ⟨R, P, N, L, S, a1, a2, a3, a4, a5, a6, a7, a8⟩ := id hi
  have hL : L ≤ 8 := a1.2.1.2.2.2.2.2.1
  have n1 : σ 1 0 0 4 = nI L := a1.1.2.2.2.1
  have n2 : σ 3 0 0 6 = nI L := a3.2.2.2.1.trans n1
  have key : ∃ v, zcall 68 [zA 0 0 0, zI x, zI y] σ = some (zI v, σ) ∧ zcall 145 [zA 3 0 0, zI x, zI y] σ = some (zI v, σ) := by
    simp only [E_S_line, E_M_line, L_hasLine, L_isLine, L_is0_1, L_in0_1, zbI_some, zif_b, n1, n2]
    rcases zin2_c x (n := L) (by omega) with h1 | ⟨s, hs, rfl, h1⟩
    · rw [h1]
      exact ⟨-1, rfl, rfl⟩
    · rw [h1]
      simp only [if_true]
      cases zin2 y (nI 0) (nI 1) with
      | false => exact ⟨-1, rfl, rfl⟩
      | true =>
        simp only [if_true]
        by_cases hy : y = 0
        · rw [if_pos hy, if_pos hy, zck_nI (by omega) (by decide), zck_nI (by omega) (by decide), nI_clamp (by omega), a3.2.2.2.2 s hs]
          exact ⟨_, rfl, rfl⟩
        · rw [if_neg hy, if_neg hy, L_isOpening, zbI_some, z28, zck_nI (by omega) (by decide), nI_clamp (by omega), a2.2.2.1 s hs]
          refine ⟨zbit (σ 1 0 0 5) s, ?_, rfl⟩
          rcases zbit_01 (σ 1 0 0 5) s with h | h
          · rw [h]; exact congrArg (fun o => zbI o fun x28 σ27 => some (zI x28, σ27)) (L_oneIf σ false)
          · rw [h]; exact congrArg (fun o => zbI o fun x28 σ27 => some (zI x28, σ27)) (L_oneIf σ true)
  obtain ⟨v, k1, k2⟩ := key
  exact zPair_same hi k1 k2
/-- a PART is set -/
theorem zrel_part {h : Nat → Nat → Int32} {a : Nat → Int32} {N L S s : Nat} {v : Int32} (hs : s < 12) (r : zrel h a N L S) : zrel (zhu h 3 s v) (zru a s v) N L S := by
  obtain ⟨r1, r2, r3, r4, r5, r6⟩ := r
  refine ⟨fun t ht => ?_, fun q hq => ?_, fun i hi => ?_, ?_, ?_, fun k hk => ?_⟩
  · by_cases e : t = s
    · subst e
      rw [zhu_s, zru_s]
    · rw [zhu_o e, zru_o e, r1 t ht]
  · rw [zru_o (by omega), zru_o (by omega), zru_o (by omega), zru_o (by omega)]
    exact r2 q hq
  · rw [zru_o (by omega)]
    exact r3 i hi
  · rw [zru_o (by omega)]
    exact r4
  · rw [zru_o (by omega)]
    exact r5
  · rw [zru_o (by omega), zru_o (by omega)]
    exact r6 k hk
theorem zWF_part {h : Nat → Nat → Int32} {R P N L S s : Nat} {v : Int32} (w : zWF h R P N L S) (hv : v = -4 ∨ ∃ k, k < 6 ∧ v = nI k) : zWF (zhu h 3 s v) R P N L S := by
  obtain ⟨w1, w2, w3, w4, w5, w6, w7, w8, w9, w10⟩ := w
  refine ⟨w1, w2, w3, w4, w5, fun t ht => ?_, w7, w8, w9, w10⟩
  by_cases e : t = s
  · subst e
    rw [zhu_s]
    exact hv
  · rw [zhu_o e]
    exact w6 t ht
theorem Q_part {σ : ZS} (hi : zInv σ) (x y : Int32) : zPair (zcall 72 [zA 0 0 0, zI x, zI y]) (zcall 150 [zA 3 0 0, zI x, zI y]) σ := by
  obtain ⟨R, P, N, L, S, a1, a2, a3, a4, a5, a6, a7, a8⟩ := id hi
  have h12 := zRP12 a1.2.1.2.1 a1.2.1.2.2.2.1
  have n1 : σ 1 0 0 0 = nI R := a1.1.1
  have n2 : σ 1 0 0 1 = nI P := a1.1.2.1
  have n3 : σ 3 0 0 3 = nI R := a3.1.trans n1
  have n4 : σ 3 0 0 4 = nI P := a3.2.1.trans n2
  have fin : ∀ s, s < R * P → ∀ v : Int32, (v = -4 ∨ ∃ k, k < 6 ∧ v = nI k) → zInv (zup (zup σ 1 0 3 s v) 3 0 1 s v) := by
    intro s hs v hv
    have e1 : (zup (zup σ 1 0 3 s v) 3 0 1 s v) 1 0 = zhu (σ 1 0) 3 s v := by
      rw [← zup_h]
      funext j
      exact zup_o (by omega)
    refine zInv_h a1 a3 a4 a5 a6 a7 a8 (zfrm_up (zfrm_up zfrm_r (Or.inl ⟨rfl, rfl⟩)) (Or.inr ⟨rfl, rfl, rfl⟩)) (S' := S) ?_ ?_ ?_ ?_
    · rw [e1]
      exact zWF_part a1 hv
    · rw [e1, zup_m, zup_o (by decide)]
      exact zrel_part (by omega) a2
    · intro i _
      rw [zup_o (by decide), zup_o (by decide)]
    · intro k hk
      rw [zup_m, zru_o (by omega), zup_o (by decide)]
  unfold zPair
  simp only [E_S_part, E_M_part, L_hasSeat, L_isSeat, L_is0_5, L_in0_5, zbI_some, zif_b, n1, n2, zRP]
  rcases zin2_c x (n := R * P) (by omega) with h1 | ⟨s, hs, rfl, h1⟩
  · rw [h1]
    exact ⟨-1, σ, σ, rfl, by rw [n3, n4, zRP, h1]; rfl, hi⟩
  · rw [h1]
    simp only [if_true, zck_nI (show s < 12 by omega) (by decide), nI_clamp (show s < 2 ^ 31 by omega), zadd0]
    by_cases hy : y = -4
    · subst hy
      refine ⟨σ 1 0 3 s, zup σ 1 0 3 s (-4), zup (zup σ 1 0 3 s (-4)) 3 0 1 s (-4), rfl, ?_, fin s hs _ (Or.inl rfl)⟩
      rw [zup_o (by decide), n3, n4, zRP, h1]
      simp only [if_true]
      rw [L_becomes _ (by omega), zbI_some, zup_o (by decide), a2.1 s (by omega)]
    · rw [if_neg hy]
      rcases zin2_u y 5 with h2 | ⟨v, hv, rfl, h2⟩
      · refine ⟨-1, σ, σ, by rw [h2]; rfl, ?_, hi⟩
        rw [n3, n4, zRP, h1, h2, if_neg hy]
        rfl
      · rw [h2]
        refine ⟨σ 1 0 3 s, zup σ 1 0 3 s (nI v), zup (zup σ 1 0 3 s (nI v)) 3 0 1 s (nI v), rfl, ?_, fin s hs _ (Or.inr ⟨v, by omega, rfl⟩)⟩
        rw [zup_o (by decide), n3, n4, zRP, h1, if_neg hy]
        simp only [if_true]
        rw [L_becomes _ (by omega), zbI_some, zup_o (by decide), a2.1 s (by omega)]
theorem Q_law {σ : ZS} (hi : zInv σ) (x : Int32) : zPair (zcall 76 [zA 0 0 0, zI x]) (zcall 154 [zA 3 0 0, zI x]) σ := by
  obtain ⟨R, P, N, L, S, a1, a2, a3, a4, a5, a6, a7, a8⟩ := id hi
  have hN : N ≤ 4 := a1.2.1.2.2.2.2.1
  have hL : L ≤ 8 := a1.2.1.2.2.2.2.2.1
  have hS : S ≤ 8 := a1.2.1.2.2.2.2.2.2
  unfold zPair
  simp only [E_S_law, E_M_law, L_is0_1, L_in0_1, zbI_some, zif_b]
  rcases zin2_u x 1 with h2 | ⟨v, hv, rfl, h2⟩
  · rw [h2]
    exact ⟨-1, σ, σ, rfl, rfl, hi⟩
  · rw [h2]
    refine ⟨σ 1 0 0 2, zup σ 1 0 0 2 (nI v), zup (zup σ 1 0 0 2 (nI v)) 3 0 1 36 (nI v), rfl, ?_, ?_⟩
    · simp only [if_true]
      rw [show (36 : Int32) = nI 36 from rfl, L_becomes _ (by omega), zbI_some, zup_o (by decide), a2.2.2.2.1]
    · have e1 : (zup (zup σ 1 0 0 2 (nI v)) 3 0 1 36 (nI v)) 1 0 = zhu (σ 1 0) 0 2 (nI v) := by
        rw [← zup_h]
        funext j
        exact zup_o (by omega)
      refine zInv_h a1 a3 a4 a5 a6 a7 a8 (zfrm_up (zfrm_up zfrm_r (Or.inl ⟨rfl, rfl⟩)) (Or.inr ⟨rfl, rfl, rfl⟩)) (S' := S) ?_ ?_ ?_ ?_
      · rw [e1]
        obtain ⟨w1, w2, w3, w4, w5, w6, w7, w8, w9, w10⟩ := a1
        refine ⟨w1, w2, ?_, w4, w5, w6, w7, w8, w9, w10⟩
        rw [zhu_s]
        rcases (by omega : v = 0 ∨ v = 1) with rfl | rfl
        · exact Or.inl rfl
        · exact Or.inr rfl
      · rw [e1, zup_m, zup_o (by decide)]
        obtain ⟨r1, r2, r3, r4, r5, r6⟩ := a2
        refine ⟨fun t ht => ?_, fun q hq => ?_, fun i hi => ?_, ?_, ?_, fun k hk => ?_⟩
        · rw [zru_o (by omega)]
          exact r1 t ht
        · rw [zru_o (by omega), zru_o (by omega), zru_o (by omega), zru_o (by omega)]
          exact r2 q hq
        · rw [zru_o (by omega)]
          exact r3 i hi
        · rw [zru_s, zhu_s]
        · rw [zru_o (by omega)]
          exact r5
        · rw [zru_o (by omega), zru_o (by omega)]
          exact r6 k hk
      · intro i _
        rw [zup_o (by decide), zup_o (by decide)]
      · intro k hk
        rw [zup_m, zru_o (by omega), zup_o (by decide)]
