/-! the tape; who sits where -/
def zTX (c g j : Nat) : Prop := (c = 0 ∧ g = 0 ∧ (j = 5 ∨ j = 6)) ∨ (c = 3 ∧ g = 0 ∧ (j = 0 ∨ j = 7))
theorem zInv_t {σ τ : ZS} (hi : zInv σ) (hf : zfrm zTX σ τ) (h0 : ∀ k, k ≠ 19 → τ 3 0 0 k = σ 3 0 0 k) (ht : zTp τ) : zInv τ := by
  have e1 : τ 1 = σ 1 := funext fun g => funext fun j => hf 1 g j (by simp [zTX])
  have e2 : τ 2 = σ 2 := funext fun g => funext fun j => hf 2 g j (by simp [zTX])
  have c0 : τ 0 0 0 = σ 0 0 0 := hf 0 0 0 (by simp [zTX])
  have c2 : τ 0 0 2 = σ 0 0 2 := hf 0 0 2 (by simp [zTX])
  have m1 : τ 3 0 1 = σ 3 0 1 := hf 3 0 1 (by simp [zTX])
  have m3 : τ 3 0 3 = σ 3 0 3 := hf 3 0 3 (by simp [zTX])
  have m4 : τ 3 0 4 = σ 3 0 4 := hf 3 0 4 (by simp [zTX])
  have m9 : τ 3 0 9 = σ 3 0 9 := hf 3 0 9 (by simp [zTX])
  have m10 : τ 3 0 10 = σ 3 0 10 := hf 3 0 10 (by simp [zTX])
  have m11 : τ 3 0 11 = σ 3 0 11 := hf 3 0 11 (by simp [zTX])
  have k5 : τ 5 = σ 5 := funext fun g => funext fun j => hf 5 g j (by simp [zTX])
  have k6 : τ 6 = σ 6 := funext fun g => funext fun j => hf 6 g j (by simp [zTX])
  obtain ⟨R, P, N, L, S, a1, a2, a3, a4, a5, a6, a7, a8⟩ := hi
  refine ⟨R, P, N, L, S, by rw [e1]; exact a1, by rw [e1, m1]; exact a2, ?_, ?_, ?_, ht, ?_, ?_⟩
  · unfold zMM
    rw [h0 3 (by decide), h0 4 (by decide), h0 5 (by decide), h0 6 (by decide), e1, m4]
    exact a3
  · intro k hk
    rw [m3, c2, m1, e1]
    exact a4 k hk
  · intro k hk
    rw [e2, m9, m10, m11]
    exact a5 k hk
  · unfold zFa
    rw [h0 24 (by decide), h0 30 (by decide), c0]
    exact a7
  · unfold zKo
    rw [k5, k6]
    exact a8
theorem Q_end {σ : ZS} (hi : zInv σ) (x : Int32) : zPair (zcall 62 [zA 0 0 0, zI x]) (zcall 121 [zA 3 0 0, zI x]) σ := by
  obtain ⟨R, P, N, L, S, a1, a2, a3, a4, a5, a6, a7, a8⟩ := id hi
  obtain ⟨T, hT, t1, t2, t3⟩ := a6
  unfold zPair
  simp only [E_S_end, E_M_end, L_is0, L_in0, zbI_some, zif_b, t1]
  rcases zin2_u x T (by omega) with h2 | ⟨v, hv, rfl, h2⟩
  · rw [h2]
    exact ⟨-1, σ, σ, rfl, by rw [t2, h2]; rfl, hi⟩
  · rw [h2]
    refine ⟨nI T, zup σ 0 0 5 1 (nI v), zup (zup σ 0 0 5 1 (nI v)) 3 0 0 19 (nI v), rfl, ?_, ?_⟩
    · rw [zup_o (by decide), t2, h2]
      rfl
    · refine zInv_t hi (zfrm_up (zfrm_up zfrm_r (Or.inl ⟨rfl, rfl, Or.inl rfl⟩)) (Or.inr ⟨rfl, rfl, Or.inl rfl⟩)) ?_ ?_
      · intro k hk
        rw [zup_m, zru_o hk, zup_o (by decide)]
      · refine ⟨v, by omega, ?_, ?_, fun i hiv => ?_⟩
        · rw [zup_o (by decide), zup_m, zru_s]
        · rw [zup_m, zru_s]
        · rw [zup_o (by decide), zup_o (by decide), zup_o (by decide), zup_o (by decide)]
          exact t3 i (by omega)
theorem zbyte : ∀ b, b < 128 → (nI b).toInt8.toInt32.toInt8.toInt32 = nI b := by decide +kernel
theorem Q_feed {σ : ZS} (hi : zInv σ) (x : Int32) : zPair (zcall 60 [zA 0 0 0, zI x]) (zcall 119 [zA 3 0 0, zI x]) σ := by
  obtain ⟨R, P, N, L, S, a1, a2, a3, a4, a5, a6, a7, a8⟩ := id hi
  obtain ⟨T, hT, t1, t2, t3⟩ := a6
  unfold zPair
  simp only [E_S_feed, E_M_feed, L_is0_127, L_in0_127, zbI_some, zif_b]
  rcases zin2_u x 127 with h2 | ⟨v, hv, rfl, h2⟩
  · rw [h2]
    exact ⟨-1, σ, σ, rfl, rfl, hi⟩
  · rw [h2]
    simp only [if_true]
    rw [E_Tape_add, t1]
    rcases (by omega : T = 160 ∨ T < 160) with rfl | hT2
    · refine ⟨-3, σ, σ, rfl, ?_, hi⟩
      rw [t2]
      rfl
    · rw [if_pos (show nI T < 160 from nI_lt hT2 (by decide)), zck_nI hT2 (by decide), nI_clamp (by omega), zbyte v (by omega)]
      simp only [zbI_some]
      rw [if_neg (by decide), zup_o (σ := σ) (by decide), t1, nI_1, zup_same]
      refine ⟨nI (T + 1), zup (zup σ 0 0 6 T (nI v)) 0 0 5 1 (nI (T + 1)), zup (zup (zup (zup σ 0 0 6 T (nI v)) 0 0 5 1 (nI (T + 1))) 3 0 7 T (nI v)) 3 0 0 19 (nI (T + 1)), rfl, ?_, ?_⟩
      · rw [zup_o (by decide), zup_o (by decide), t2]
        have hne : ¬ nI T = 160 := by
          intro e
          rw [show (160 : Int32) = nI 160 from rfl, nI_eq (by omega) (by decide)] at e
          omega
        rw [if_neg hne, zck_nI hT2 (by decide), nI_clamp (by omega)]
        simp only [zup_o (show ¬ (3 = 3 ∧ 0 = 0 ∧ 0 = 7) by decide), zup_o (show ¬ (3 = 0 ∧ 0 = 0 ∧ 0 = 5) by decide), zup_o (show ¬ (3 = 0 ∧ 0 = 0 ∧ 0 = 6) by decide), t2, nI_1, zup_same]
      · refine zInv_t hi (zfrm_up (zfrm_up (zfrm_up (zfrm_up zfrm_r (Or.inl ⟨rfl, rfl, Or.inr rfl⟩)) (Or.inl ⟨rfl, rfl, Or.inl rfl⟩)) (Or.inr ⟨rfl, rfl, Or.inr rfl⟩)) (Or.inr ⟨rfl, rfl, Or.inl rfl⟩)) ?_ ?_
        · intro k hk
          rw [zup_m, zru_o hk, zup_o (by decide), zup_o (by decide), zup_o (by decide)]
        · refine ⟨T + 1, by omega, ?_, ?_, fun i hiv => ?_⟩
          · rw [zup_o (by decide), zup_o (by decide), zup_m, zru_s]
          · rw [zup_m, zru_s]
          · rw [zup_o (by decide), zup_o (by decide), zup_o (by decide), zup_o (c' := 3) (by decide), zup_m, zup_m, zup_o (c' := 3) (by decide), zup_o (c' := 3) (by decide)]
            by_cases e : i = T
            · subst e
              rw [zru_s, zru_s]
              exact ⟨⟨v, by omega, rfl⟩, rfl⟩
            · rw [zru_o e, zru_o e]
              exact t3 i (by omega)
section ZMV
variable {σ : ZS} {g N M : Nat}
theorem mv_bad1 (hN : σ 1 g 0 3 = nI N) {x : Int32} (y : Int32) (h : zin2 x (nI 0) (nI N - 1) = false) : zcall 12 [zA 1 g 0, zI x, zI y] σ = some (zI (-1), σ) := by
  rw [E_House_moveOne, L_hasOne, zbI_some, hN, h]
  rfl
theorem mv_bad2 (hN : σ 1 g 0 3 = nI N) (hM : σ 1 g 0 0 * σ 1 g 0 1 = nI M) {x y : Int32} (h : zin2 x (nI 0) (nI N - 1) = true) (hy : y ≠ -4) (h2 : zin2 y (nI 0) (nI M - 1) = false) : zcall 12 [zA 1 g 0, zI x, zI y] σ = some (zI (-1), σ) := by
  rw [E_House_moveOne, L_hasOne, zbI_some, hN, h, if_neg (by decide), if_neg hy, L_hasSeat, zbI_some, hM, h2]
  rfl
theorem mv_away (hN : σ 1 g 0 3 = nI N) (h4 : N ≤ 4) {p : Nat} (hp : p < N) : zcall 12 [zA 1 g 0, zI (nI p), zI (-4)] σ = some (zI (σ 1 g 4 p), zup σ 1 g 4 p (-4)) := by
  rw [E_House_moveOne, L_hasOne, zbI_some, hN, zin2_t hp (by omega), if_neg (by decide), if_pos rfl, if_pos rfl, E_House_moveOne_40, if_pos rfl, zck_nI (by omega) (by decide), zck_nI (by omega) (by decide), nI_clamp (by omega)]
theorem mv_free (hN : σ 1 g 0 3 = nI N) (h4 : N ≤ 4) (hM : σ 1 g 0 0 * σ 1 g 0 1 = nI M) (hm : M ≤ 12) {p s : Nat} (hp : p < N) (hs : s < M) (hf : ∀ q, q < N → q ≠ p → σ 1 g 4 q ≠ nI s) : zcall 12 [zA 1 g 0, zI (nI p), zI (nI s)] σ = some (zI (σ 1 g 4 p), zup σ 1 g 4 p (nI s)) := by
  obtain ⟨w, k1, k2⟩ := L_whoSits hN h4 (nI s)
  rw [E_House_moveOne, L_hasOne, zbI_some, hN, zin2_t hp (by omega), if_neg (by decide), if_neg (nI_ne4 (by omega)), L_hasSeat, zbI_some, hM, zin2_t hs (by omega), if_neg (by decide), if_neg (nI_ne4 (by omega)), k1, zbI_some, E_House_moveOne_40, zck_nI (by omega) (by decide), zck_nI (by omega) (by decide), nI_clamp (by omega)]
  rcases k2 with ⟨rfl, -⟩ | ⟨q, hq, rfl, hqs⟩
  · rw [if_pos rfl]
  · by_cases e : q = p
    · rw [if_neg (nI_ne4 (by omega)), e, if_pos rfl]
    · exact absurd hqs (hf q hq e)
theorem mv_occ (hN : σ 1 g 0 3 = nI N) (h4 : N ≤ 4) (hM : σ 1 g 0 0 * σ 1 g 0 1 = nI M) (hm : M ≤ 12) (hd : ∀ p, p < N → ∀ q, q < N → p ≠ q → σ 1 g 4 p = σ 1 g 4 q → σ 1 g 4 p = -4) {p s q : Nat} (hp : p < N) (hs : s < M) (hq : q < N) (hqp : q ≠ p) (hqs : σ 1 g 4 q = nI s) : zcall 12 [zA 1 g 0, zI (nI p), zI (nI s)] σ = some (zI (-2), σ) := by
  obtain ⟨w, k1, k2⟩ := L_whoSits hN h4 (nI s)
  rw [E_House_moveOne, L_hasOne, zbI_some, hN, zin2_t hp (by omega), if_neg (by decide), if_neg (nI_ne4 (by omega)), L_hasSeat, zbI_some, hM, zin2_t hs (by omega), if_neg (by decide), if_neg (nI_ne4 (by omega)), k1, zbI_some, E_House_moveOne_40]
  rcases k2 with ⟨rfl, h⟩ | ⟨r, hr, rfl, hrs⟩
  · exact absurd hqs (h q hq)
  · have hrq : r = q := by
      by_cases e : r = q
      · exact e
      · exact absurd (hrs.symm.trans (hd r hr q hq e (hrs.trans hqs.symm))) (nI_ne4 (by omega))
    subst hrq
    rw [if_neg (nI_ne4 (by omega)), if_neg (fun e => hqp ((nI_eq (by omega) (by omega)).mp e))]
end ZMV
section ZMS
variable {σ : ZS} {N M : Nat}
theorem ms_bad1 (hN : σ 3 0 0 5 = nI N) {x : Int32} (y : Int32) (h : zin2 x (nI 0) (nI N - 1) = false) : zcall 147 [zA 3 0 0, zI x, zI y] σ = some (zI (-1), σ) := by
  rw [E_M_sit, L_isOne, zbI_some, hN, h]
  rfl
theorem ms_bad2 (hN : σ 3 0 0 5 = nI N) (hM : σ 3 0 0 3 * σ 3 0 0 4 = nI M) {x y : Int32} (h : zin2 x (nI 0) (nI N - 1) = true) (hy : y ≠ -4) (h2 : zin2 y (nI 0) (nI M - 1) = false) : zcall 147 [zA 3 0 0, zI x, zI y] σ = some (zI (-1), σ) := by
  rw [E_M_sit, L_isOne, zbI_some, hN, h, if_neg (by decide), if_neg hy, L_isSeat, zbI_some, hM, h2]
  rfl
theorem ms_set {p : Nat} (h4 : p < 4) (y : Int32) : zbI (zcall 148 [zA 3 0 0, zI ((12 + (4 * nI p)) + 0), zI y] σ) (fun x30 σ29 => some (zI x30, σ29)) = some (zI (σ 3 0 1 (12 + 4 * p)), zup σ 3 0 1 (12 + 4 * p) y) := by
  rw [show (12 + (4 * nI p)) + 0 = nI (12 + 4 * p) from zidx 0, L_becomes _ (by omega), zbI_some]
theorem ms_away (hN : σ 3 0 0 5 = nI N) (h4 : N ≤ 4) {p : Nat} (hp : p < N) : zcall 147 [zA 3 0 0, zI (nI p), zI (-4)] σ = some (zI (σ 3 0 1 (12 + 4 * p)), zup σ 3 0 1 (12 + 4 * p) (-4)) := by
  rw [E_M_sit, L_isOne, zbI_some, hN, zin2_t hp (by omega), if_neg (by decide), if_pos rfl, if_pos rfl, E_M_sit_40, if_pos rfl, ms_set (by omega)]
theorem ms_free (hN : σ 3 0 0 5 = nI N) (h4 : N ≤ 4) (hM : σ 3 0 0 3 * σ 3 0 0 4 = nI M) (hm : M ≤ 12) {p s : Nat} (hp : p < N) (hs : s < M) (hf : ∀ q, q < N → q ≠ p → σ 3 0 1 (12 + 4 * q) ≠ nI s) : zcall 147 [zA 3 0 0, zI (nI p), zI (nI s)] σ = some (zI (σ 3 0 1 (12 + 4 * p)), zup σ 3 0 1 (12 + 4 * p) (nI s)) := by
  obtain ⟨w, k1, k2⟩ := L_whoIsIn hN h4 (nI s)
  rw [E_M_sit, L_isOne, zbI_some, hN, zin2_t hp (by omega), if_neg (by decide), if_neg (nI_ne4 (by omega)), L_isSeat, zbI_some, hM, zin2_t hs (by omega), if_neg (by decide), if_neg (nI_ne4 (by omega)), k1, zbI_some, E_M_sit_40]
  rcases k2 with ⟨rfl, -⟩ | ⟨q, hq, rfl, hqs⟩
  · rw [if_pos rfl, ms_set (by omega)]
  · by_cases e : q = p
    · rw [if_neg (nI_ne4 (by omega)), e, if_pos rfl, ms_set (by omega)]
    · exact absurd hqs (hf q hq e)
theorem ms_occ (hN : σ 3 0 0 5 = nI N) (h4 : N ≤ 4) (hM : σ 3 0 0 3 * σ 3 0 0 4 = nI M) (hm : M ≤ 12) (hd : ∀ p, p < N → ∀ q, q < N → p ≠ q → σ 3 0 1 (12 + 4 * p) = σ 3 0 1 (12 + 4 * q) → σ 3 0 1 (12 + 4 * p) = -4) {p s q : Nat} (hp : p < N) (hs : s < M) (hq : q < N) (hqp : q ≠ p) (hqs : σ 3 0 1 (12 + 4 * q) = nI s) : zcall 147 [zA 3 0 0, zI (nI p), zI (nI s)] σ = some (zI (-2), σ) := by
  obtain ⟨w, k1, k2⟩ := L_whoIsIn hN h4 (nI s)
  rw [E_M_sit, L_isOne, zbI_some, hN, zin2_t hp (by omega), if_neg (by decide), if_neg (nI_ne4 (by omega)), L_isSeat, zbI_some, hM, zin2_t hs (by omega), if_neg (by decide), if_neg (nI_ne4 (by omega)), k1, zbI_some, E_M_sit_40]
  rcases k2 with ⟨rfl, h⟩ | ⟨r, hr, rfl, hrs⟩
  · exact absurd hqs (h q hq)
  · have hrq : r = q := by
      by_cases e : r = q
      · exact e
      · exact absurd (hrs.symm.trans (hd r hr q hq e (hrs.trans hqs.symm))) (nI_ne4 (by omega))
    subst hrq
    rw [if_neg (nI_ne4 (by omega)), if_neg (fun e => hqp ((nI_eq (by omega) (by omega)).mp e))]
end ZMS
