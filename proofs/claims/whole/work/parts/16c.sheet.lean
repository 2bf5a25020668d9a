/-! sheet, lay -/
def zShX (c g j : Nat) : Prop := c = 2 ∨ (c = 3 ∧ g = 0 ∧ (j = 9 ∨ j = 10 ∨ j = 11))
theorem zInv_s {σ τ : ZS} (hi : zInv σ) (f : zfrm zShX σ τ) (hs : zSh τ) : zInv τ := by
  obtain ⟨R, P, N, L, S, a1, a2, a3, a4, a5, a6, a7, a8⟩ := hi
  have e1 : ∀ g, τ 1 g = σ 1 g := fun g => funext fun j => f 1 g j (by simp [zShX])
  have c0 : ∀ g j, τ 0 g j = σ 0 g j := fun g j => f 0 g j (by simp [zShX])
  have m : ∀ j, j ≠ 9 → j ≠ 10 → j ≠ 11 → τ 3 0 j = σ 3 0 j := fun j q1 q2 q3 => f 3 0 j (by unfold zShX; omega)
  have k5 : ∀ g j, τ 5 g j = σ 5 g j := fun g j => f 5 g j (by simp [zShX])
  have k6 : ∀ g j, τ 6 g j = σ 6 g j := fun g j => f 6 g j (by simp [zShX])
  have m0 := m 0 (by decide) (by decide) (by decide)
  have m1 := m 1 (by decide) (by decide) (by decide)
  have m3 := m 3 (by decide) (by decide) (by decide)
  have m4 := m 4 (by decide) (by decide) (by decide)
  have m7 := m 7 (by decide) (by decide) (by decide)
  refine ⟨R, P, N, L, S, by rw [e1]; exact a1, by rw [e1, m1]; exact a2, ?_, fun k hk => ?_, hs, ?_, ?_, ?_⟩
  · unfold zMM
    rw [m0, e1, m4]
    exact a3
  · rw [m3, c0, m1, e1, e1]
    exact a4 k hk
  · unfold zTp
    rw [c0, m0, c0, m7]
    exact a6
  · unfold zFa
    rw [m0, c0]
    exact a7
  · unfold zKo
    simp only [k5, k6]
    exact a8
theorem L_isSheet (σ : ZS) (x y : Int32) : zcall 201 [zI x, zI y] σ = some (zI (zb (zin2 x (nI 0) (nI 3) && zin2 y (nI 0) (nI 2))), σ) := by
  rw [E_M_isSheet, L_in0_3, zbI_some, L_in0_2, zbI_some]
  cases zin2 x (nI 0) (nI 3) <;> cases zin2 y (nI 0) (nI 2) <;> rfl
theorem L_renew_12 {k : Nat} : ∀ (d i : Nat) (σ : ZS), i + d = 40 → (∀ q, q < i → σ 2 k 1 q = 0) → ∃ τ, zev 55 12 [(0, zA 2 k 0), (3, zI (nI i))] [] σ = some (zI 0, τ) ∧ zfrm (fun c g j => c = 2 ∧ g = k ∧ j = 1) σ τ ∧ ∀ q, q < 40 → τ 2 k 1 q = 0
  | 0, i, σ, h, hz => by
    obtain rfl : i = 40 := by omega
    exact ⟨σ, by rw [E_Sheet_renew_12, if_neg (show ¬ nI 40 < 40 by decide)], zfrm_r, hz⟩
  | d + 1, i, σ, h, hz => by
    obtain ⟨τ, t1, t2, t3⟩ := L_renew_12 (k := k) d (i + 1) (zup σ 2 k 1 i 0) (by omega) (fun q hq => by
      rw [zup_m]
      by_cases e : q = i
      · rw [e, zru_s]
      · rw [zru_o e]; exact hz q (by omega))
    refine ⟨τ, ?_, zfrm_t (zfrm_up zfrm_r ⟨rfl, rfl, rfl⟩) t2, t3⟩
    rw [E_Sheet_renew_12, if_pos (show nI i < 40 from nI_lt (b := 40) (by omega) (by decide)), zck_nI (by omega) (by decide), nI_clamp (by omega), nI_1]
    exact t1
theorem L_renewM {k : Nat} (hk : k < 4) : ∀ (d i : Nat) (σ : ZS), i + d = 40 → (∀ q, q < i → σ 3 0 11 (40 * k + q) = 0) → ∃ τ, zev 200 40 [(0, zA 3 0 0), (1, zI (nI k)), (4, zI (nI i))] [] σ = some (zI 1, τ) ∧ zfrm (fun c g j => c = 3 ∧ g = 0 ∧ j = 11) σ τ ∧ (∀ q, q < 40 → τ 3 0 11 (40 * k + q) = 0) ∧ ∀ q, ¬ (40 * k ≤ q ∧ q < 40 * k + 40) → τ 3 0 11 q = σ 3 0 11 q
  | 0, i, σ, h, hz => by
    obtain rfl : i = 40 := by omega
    exact ⟨σ, by rw [E_M_sheet_40, if_neg (show ¬ nI 40 < 40 by decide)], zfrm_r, hz, fun _ _ => rfl⟩
  | d + 1, i, σ, h, hz => by
    obtain ⟨τ, t1, t2, t3, t4⟩ := L_renewM hk d (i + 1) (zup σ 3 0 11 (40 * k + i) 0) (by omega) (fun q hq => by
      rw [zup_m]
      by_cases e : q = i
      · rw [e, zru_s]
      · rw [zru_o (by omega)]; exact hz q (by omega))
    refine ⟨τ, ?_, zfrm_t (zfrm_up zfrm_r ⟨rfl, rfl, rfl⟩) t2, t3, fun q hq => ?_⟩
    · have e : (40 : Int32) * nI k + nI i = nI (40 * k + i) := by rw [show (40 : Int32) = nI 40 from rfl, pk_mul, nI_add]
      rw [E_M_sheet_40, if_pos (show nI i < 40 from nI_lt (b := 40) (by omega) (by decide)), e, zck_nI (by omega) (by decide), nI_clamp (by omega), nI_1]
      exact t1
    · rw [t4 q hq, zup_m, zru_o (by omega)]
theorem Q_sheet {σ : ZS} (hi : zInv σ) (x y z : Int32) : zPair (zcall 111 [zA 0 0 0, zI x, zI y, zI z]) (zcall 200 [zA 3 0 0, zI x, zI y, zI z]) σ := by
  obtain ⟨R, P, N, L, S, a1, a2, a3, a4, a5, a6, a7, a8⟩ := id hi
  unfold zPair
  simp only [E_S_sheet, E_M_sheet, L_is0_3, L_is0_2, L_isSheet, zbI_some, zif_b]
  rcases zin2_u x 3 with h1 | ⟨k, hk, rfl, h1⟩
  · rw [h1]
    exact ⟨-1, σ, σ, rfl, rfl, hi⟩
  · rw [h1]
    rcases zin2_u y 2 with h2 | ⟨l, hl, rfl, h2⟩
    · rw [h2]
      exact ⟨-1, σ, σ, rfl, rfl, hi⟩
    · rw [h2]
      simp only [Bool.and_true, if_true]
      by_cases h3 : 40 < z
      · exact ⟨-1, σ, σ, if_pos h3, if_pos h3, hi⟩
      · by_cases h4 : z < 0
        · refine ⟨-14, σ, σ, ?_, ?_, hi⟩
          · rw [if_neg h3, if_pos h4]
          · rw [if_neg h3, if_pos h4]
        · obtain ⟨n, hn, rfl⟩ := nI_of h4
          have n40 : n ≤ 40 := Nat.le_of_not_lt fun z => h3 (nI_lt (a := 40) z hn)
          have k4 : k < 4 := by omega
          obtain ⟨τ, t1, t2, t3⟩ := L_renew_12 (k := k) 40 0 (zup (zup σ 2 k 0 1 (nI l)) 2 k 0 2 (nI n)) (by omega) (fun q hq => by omega)
          obtain ⟨υ, u1, u2, u3, u4⟩ := L_renewM k4 40 0 (zup (zup τ 3 0 9 k (nI l)) 3 0 10 k (nI n)) (by omega) (fun q hq => by omega)
          refine ⟨1, τ, υ, ?_, ?_, zInv_s hi ?_ fun q hq => ?_⟩
          · rw [if_neg h3, if_neg h4, zck_nI k4 (by decide), nI_clamp (by omega), E_Sheet_renew]
            dsimp only
            rw [show zev 55 12 [(0, zA 2 k 0), (3, zI 0)] [] (zup (zup σ 2 k 0 1 (nI l)) 2 k 0 2 (nI n)) = _ from t1, zbV_some]
          · rw [if_neg h3, if_neg h4, zck_nI k4 (by decide), nI_clamp (by omega)]
            rw [zck_nI k4 (by decide)]
            exact u1
          · exact zfrm_t (zfrm_t (zfrm_up (zfrm_up zfrm_r (Or.inl rfl)) (Or.inl rfl)) (zfrm_m (fun c g j h => Or.inl h.1) t2)) (zfrm_t (zfrm_up (zfrm_up zfrm_r (Or.inr ⟨rfl, rfl, by omega⟩)) (Or.inr ⟨rfl, rfl, by omega⟩)) (zfrm_m (fun c g j h => Or.inr ⟨h.1, h.2.1, by omega⟩) u2))
          · have v2 : ∀ g j, υ 2 g j = τ 2 g j := fun g j => by
              rw [u2 2 g j (by omega), zup_o (by omega), zup_o (by omega)]
            have w0 : τ 2 q 0 = (zup (zup σ 2 k 0 1 (nI l)) 2 k 0 2 (nI n)) 2 q 0 := t2 2 q 0 (by omega)
            have v9 : υ 3 0 9 = zru (σ 3 0 9) k (nI l) := by
              rw [u2 3 0 9 (by omega), zup_o (by omega), zup_m, t2 3 0 9 (by omega), zup_o (by omega), zup_o (by omega)]
            have v10 : υ 3 0 10 = zru (σ 3 0 10) k (nI n) := by
              rw [u2 3 0 10 (by omega), zup_m, zup_o (by omega), t2 3 0 10 (by omega), zup_o (by omega), zup_o (by omega)]
            have v11 : ∀ i, ¬ (40 * k ≤ i ∧ i < 40 * k + 40) → υ 3 0 11 i = σ 3 0 11 i := fun i hi => by
              rw [u4 i hi, zup_o (by omega), zup_o (by omega), t2 3 0 11 (by omega), zup_o (by omega), zup_o (by omega)]
            rw [v2, v2, v9, v10, w0]
            by_cases e : q = k
            · subst e
              rw [zru_s, zru_s, zup_m, zup_m, zru_s, zru_o (by decide), zru_s]
              refine ⟨⟨?_, n, n40, rfl⟩, rfl, rfl, fun i hi => ?_⟩
              · rcases (by omega : l = 0 ∨ l = 1 ∨ l = 2) with rfl | rfl | rfl
                · exact Or.inr (Or.inl rfl)
                · exact Or.inr (Or.inr (Or.inl rfl))
                · exact Or.inr (Or.inr (Or.inr rfl))
              · rw [u3 i hi, t3 i hi]
            · rw [zru_o e, zru_o e, zup_o (by omega), zup_o (by omega)]
              obtain ⟨b1, b2, b3, b4⟩ := a5 q hq
              refine ⟨b1, b2, b3, fun i hi => ?_⟩
              rw [v11 _ (by omega), b4 i hi, t2 2 q 1 (by omega), zup_o (by omega), zup_o (by omega)]
