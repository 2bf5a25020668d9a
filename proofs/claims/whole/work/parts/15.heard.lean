/-! heard -/
theorem zabs_y : ∀ u, u < 12 → ∀ v, v < 12 → zabs (nI u - nI v) = zabs (nI v - nI u) := by decide +kernel
theorem zfar_y {h : Nat → Nat → Int32} {P M s t : Nat} (hM : M ≤ 12) (hpl : zpl h P M) (hs : s < M) (ht : t < M) : zfar h s t = zfar h t s := by
  have d1 : s / P ≤ s := Nat.div_le_self ..
  have d2 : t / P ≤ t := Nat.div_le_self ..
  have d3 : s % P ≤ s := Nat.mod_le ..
  have d4 : t % P ≤ t := Nat.mod_le ..
  unfold zfar
  rw [(hpl s hs).1, (hpl s hs).2, (hpl t ht).1, (hpl t ht).2, zabs_y _ (by omega) _ (by omega), zabs_y (s % P) (by omega) _ (by omega)]
/-- a SEAT more that hears -/
def zhe (h : Nat → Nat → Int32) (p t s : Nat) (x : Int32) : Int32 := if h 5 p < zfar h t s then x else x ||| ((1 : Int32) <<< (nI s &&& 31))
theorem L_heardC {σ : ZS} {R P N L S p t : Nat} (w : zWF (σ 1 0) R P N L S) (hp : p < N) (ht : t < R * P) (e : σ 1 0 4 p = nI t) : ∀ (d s : Nat) (x : Int32), s + d = R * P → zev 18 4 [(0, zA 1 0 0), (1, zI (nI p)), (2, zI x), (3, zI (nI s))] [] σ = some (zI (zit (zhe (σ 1 0) p t) s d x), σ)
  | 0, s, x, h => by
    have h12 := zRP12 w.2.1.2.1 w.2.1.2.2.2.1
    have m1 : σ 1 0 0 0 * σ 1 0 0 1 = nI (R * P) := by rw [w.1.1, w.1.2.1, pk_mul]
    rw [show s = R * P by omega, E_House_seatsInReach_4, E_House_seats, zbI_some, m1, if_neg (nI_nlt (Nat.le_refl _) (by omega))]
    rfl
  | d + 1, s, x, h => by
    have h12 := zRP12 w.2.1.2.1 w.2.1.2.2.2.1
    have hN := w.2.1.2.2.2.2.1
    have m1 : σ 1 0 0 0 * σ 1 0 0 1 = nI (R * P) := by rw [w.1.1, w.1.2.1, pk_mul]
    have ih := L_heardC w hp ht e d (s + 1) (zhe (σ 1 0) p t s x) (by omega)
    rw [E_House_seatsInReach_4, E_House_seats, zbI_some, m1, if_pos (nI_lt (by omega) (by omega)), zck_nI (by omega) (by decide), nI_clamp (by omega), e, L_distance 0 (by omega) (by omega), zbI_some, zck_nI (by omega) (by decide), nI_1]
    unfold zit
    unfold zhe at ih ⊢
    by_cases hc : σ 1 0 5 p < zfar (σ 1 0) t s
    · rw [if_pos hc]
      rw [if_pos hc] at ih ⊢
      exact ih
    · rw [if_neg hc]
      rw [if_neg hc] at ih ⊢
      exact ih
theorem L_heardM {σ : ZS} {h : Nat → Nat → Int32} {R P N L p t : Nat} (w : zNW h P (R * P) N L) (m : zMN σ h zno P N L) (hR : σ 3 0 0 3 = nI R) (hp : p < N) (ht : t < R * P) (e : h 4 p = nI t) : ∀ (d s : Nat) (x : Int32), s + d = R * P → zev 158 32 [(0, zA 3 0 0), (1, zI (nI p)), (2, zI x), (3, zI (nI s))] [] σ = some (zI (zit (zhe h p t) s d x), σ)
  | 0, s, x, hs => by
    have h12 := w.2.2.2.2.2.2.1
    have m1 : σ 3 0 0 3 * σ 3 0 0 4 = nI (R * P) := by rw [hR, m.1, pk_mul]
    rw [show s = R * P by omega, E_M_heard_32, E_M_seats, zbI_some, m1, if_neg (nI_nlt (Nat.le_refl _) (by omega))]
    rfl
  | d + 1, s, x, hs => by
    obtain ⟨w1, w2, w3, w4, w5, w6, w7, w8, w9, w10⟩ := id w
    have m1 : σ 3 0 0 3 * σ 3 0 0 4 = nI (R * P) := by rw [hR, m.1, pk_mul]
    have ih := L_heardM w m hR hp ht e d (s + 1) (zhe h p t s x) (by omega)
    obtain ⟨r0, r1, -, -⟩ := m.2.2.2.2.2.1 p hp
    have u0 : σ 3 0 2 (12 + 4 * p) = nI t := r0.trans e
    rw [E_M_heard_32, E_M_seats, zbI_some, m1, if_pos (nI_lt (by omega) (by omega)), E_M_doesHear, L_of0 (by omega), zbI_some, u0, L_farOf m.1 w5 w6 w7 w8 (show s < R * P by omega) ht, zbI_some, L_of1 (by omega), zbI_some, r1, zfar_y w7 w8 (show s < R * P by omega) ht, nI_1]
    unfold zit
    unfold zhe at ih ⊢
    by_cases hc : h 5 p < zfar h t s
    · rw [if_pos hc, zbI_some, L_flag0, zbI_some, zshl0 s (by omega), Int32.or_zero]
      rw [if_pos hc] at ih ⊢
      exact ih
    · rw [if_neg hc, zbI_some, L_flag1, zbI_some]
      rw [if_neg hc] at ih ⊢
      exact ih
theorem Q_heard {σ : ZS} (hi : zInv σ) (x : Int32) : zPair (zcall 79 [zA 0 0 0, zI x]) (zcall 158 [zA 3 0 0, zI x]) σ := by
  obtain ⟨R, P, N, L, S, a1, a2, a3, a4, a5, a6, a7, a8⟩ := id hi
  have hN : N ≤ 4 := a1.2.1.2.2.2.2.1
  have n1 : σ 1 0 0 3 = nI N := a1.1.2.2.1
  have n2 : σ 3 0 0 5 = nI N := a3.2.2.1.trans n1
  unfold zPair
  simp only [E_S_heard, E_M_heard, L_hasOne, L_isOne, zbI_some, zif_b, n1]
  rcases zin2_c x (n := N) (by omega) with h1 | ⟨p, hp, rfl, h1⟩
  · refine ⟨-1, σ, σ, by rw [h1]; rfl, ?_, hi⟩
    rw [n2, h1]
    rfl
  · rw [h1, L_isAway 0 (by omega), zbI_some, zif_b]
    have c := zCx_of a1 a2 a3
    have m := zCx_MN c
    have vp : zst σ 3 0 2 (12 + 4 * p) = σ 1 0 4 p := (m.2.2.2.2.2.1 p hp).1
    by_cases hz : σ 1 0 4 p = -4
    · refine ⟨-2, σ, zst σ, by rw [decide_eq_true hz]; rfl, ?_, zInv_q (zst_f σ) hi⟩
      rw [n2, h1, if_pos rfl, L_starts, zbV_some, L_of0 (by omega), zbI_some, vp, if_pos hz]
    · obtain ⟨t, ht, e⟩ := (a1.2.2.2.2.2.2.1.1 p hp).resolve_left hz
      have hC := L_heardC a1 hp ht e (R * P) 0 0 (by omega)
      have hM := L_heardM (zWF_NW a1) m (by rw [zst_f σ 3 0 0 (by simp [zScr, zScC])]; exact c.2.2.1) hp ht e (R * P) 0 0 (by omega)
      refine ⟨zit (zhe (σ 1 0) p t) 0 (R * P) 0, σ, zst σ, ?_, ?_, zInv_q (zst_f σ) hi⟩
      · rw [if_pos rfl, decide_eq_false hz, if_neg (by decide), E_House_seatsInReach]
        rw [show zev 18 4 [(0, zA 1 0 0), (1, zI (nI p)), (2, zI 0), (3, zI 0)] [] σ = _ from hC, zbI_some]
      · rw [n2, h1, if_pos rfl, L_starts, zbV_some, L_of0 (by omega), zbI_some, vp, if_neg hz]
        exact hM
