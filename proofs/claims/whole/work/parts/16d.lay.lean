theorem zlane {k : Nat} {σ : ZS} (h : zSh σ) (hk : k < 4) : σ 3 0 9 k = σ 2 k 0 1 ∧ σ 3 0 10 k = σ 2 k 0 2 := ⟨(h k hk).2.1, (h k hk).2.2.1⟩
theorem Q_lay {σ : ZS} (hi : zInv σ) (x y z : Int32) : zPair (zcall 112 [zA 0 0 0, zI x, zI y, zI z]) (zcall 202 [zA 3 0 0, zI x, zI y, zI z]) σ := by
  obtain ⟨R, P, N, L, S, a1, a2, a3, a4, a5, a6, a7, a8⟩ := id hi
  unfold zPair
  simp only [E_S_lay, E_M_lay, L_is0_3, L_isSheet, zbI_some, zif_b]
  rcases zin2_u x 3 with h1 | ⟨k, hk, rfl, h1⟩
  · rw [h1]
    exact ⟨-1, σ, σ, rfl, rfl, hi⟩
  · have k4 : k < 4 := by omega
    have h0 : zin2 0 (nI 0) (nI 2) = true := by decide
    have hk2 : (nI k).toNatClampNeg = k := nI_clamp (by omega)
    rw [h1, h0]
    simp only [Bool.and_true, if_true, hk2, zck_nI k4 (show 4 < 2 ^ 31 by decide)]
    obtain ⟨⟨b1, n, hn, b2⟩, b3, b4, b5⟩ := a5 k k4
    -- the cell is set
    have fin : ∀ (i : Nat) (v : Int32), i < n → zInv (zup (zup σ 2 k 1 i v) 3 0 11 (40 * k + i) v) := by
      intro i v hin
      refine zInv_s hi (zfrm_up (zfrm_up zfrm_r (Or.inl rfl)) (Or.inr ⟨rfl, rfl, by omega⟩)) fun q hq => ?_
      obtain ⟨c1, c2, c3, c4⟩ := a5 q hq
      rw [zup_o (by omega), zup_o (by omega), zup_o (by omega), zup_o (by omega), zup_o (by omega), zup_o (by omega), zup_m, zup_o (by omega)]
      refine ⟨c1, c2, c3, fun i2 hi2 => ?_⟩
      rw [zup_o (by omega)]
      by_cases e : q = k
      · subst e
        rw [zup_m]
        by_cases e2 : i2 = i
        · rw [e2, zru_s, zru_s]
        · rw [zru_o (by omega), zru_o e2, c4 i2 hi2]
      · rw [zup_o (by omega), zru_o (by omega), c4 i2 hi2]
    by_cases h3 : σ 2 k 0 1 = -4
    · refine ⟨-11, σ, σ, ?_, ?_, hi⟩
      · rw [E_Sheet_faultAt, if_pos h3, zbI_some, if_neg (by decide)]
        rfl
      · rw [b3, if_pos h3]
    · rcases zin2_c y (n := n) (by omega) with h4 | ⟨i, hin, rfl, h4⟩
      · refine ⟨-12, σ, σ, ?_, ?_, hi⟩
        · rw [E_Sheet_faultAt, if_neg h3, if_pos rfl, L_is0, zbI_some, zif_b, b2, h4, if_neg (by decide), zbI_some, if_neg (by decide)]
          rfl
        · rw [b3, if_neg h3, L_in0, zbI_some, zif_b, b4, b2, h4, if_neg (by decide)]
      · have hi2 : (nI i).toNatClampNeg = i := nI_clamp (by omega)
        have hq : (40 : Int32) * nI k + nI i = nI (40 * k + i) := by rw [show (40 : Int32) = nI 40 from rfl, pk_mul, nI_add]
        have hC : ∀ v : Int32, (v = if σ 2 k 0 1 = 0 then z.toInt8.toInt32 else if σ 2 k 0 1 = 1 then z.toInt16.toInt32 else z) → zcall 57 [zA 2 k 0, zI (nI i), zI z] σ = some (zI 0, zup σ 2 k 1 i v) := by
          intro v hv
          rw [E_Sheet_write, zck_nI (by omega) (by decide), zck_nI (by omega) (by decide), zck_nI (by omega) (by decide), hi2]
          by_cases q0 : σ 2 k 0 1 = 0
          · rw [if_pos q0]
            rw [if_pos q0] at hv
            rw [hv]
          · rw [if_neg q0]
            rw [if_neg q0] at hv
            by_cases q1 : σ 2 k 0 1 = 1
            · rw [if_pos q1]
              rw [if_pos q1] at hv
              rw [hv]
            · rw [if_neg q1]
              rw [if_neg q1] at hv
              rw [hv]
        obtain ⟨v, hv⟩ : ∃ v : Int32, v = if σ 2 k 0 1 = 0 then z.toInt8.toInt32 else if σ 2 k 0 1 = 1 then z.toInt16.toInt32 else z := ⟨_, rfl⟩
        have e39 : ∀ q, zup σ 2 k 1 i v 3 0 9 q = σ 3 0 9 q := fun q => by rw [zup_o (by omega)]
        have e310 : ∀ q, zup σ 2 k 1 i v 3 0 10 q = σ 3 0 10 q := fun q => by rw [zup_o (by omega)]
        refine ⟨1, zup σ 2 k 1 i v, zup (zup σ 2 k 1 i v) 3 0 11 (40 * k + i) v, ?_, ?_, fin i v hin⟩
        · rw [E_Sheet_faultAt, if_neg h3, if_pos rfl, L_is0, zbI_some, zif_b, b2, h4, if_pos rfl, zbI_some, if_pos rfl, hC v hv, zbV_some]
        · rw [e39, b3, if_neg h3, L_in0, zbI_some, zif_b, e310, b4, b2, h4, if_pos rfl, hq, zck_nI (by omega) (by decide), zck_nI (by omega) (by decide), zck_nI (by omega) (by decide), nI_clamp (by omega), e39, b3]
          by_cases q0 : σ 2 k 0 1 = 0
          · rw [if_pos q0]
            rw [if_pos q0] at hv
            rw [hv]
          · rw [if_neg q0]
            rw [if_neg q0] at hv
            by_cases q1 : σ 2 k 0 1 = 1
            · rw [if_pos q1]
              rw [if_pos q1] at hv
              rw [hv]
            · rw [if_neg q1]
              rw [if_neg q1] at hv
              rw [hv]
