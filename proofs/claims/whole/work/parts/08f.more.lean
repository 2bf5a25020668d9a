/-! sit, swap, see, keep -/
theorem zWF_seat {h : Nat → Nat → Int32} {R P N L S p : Nat} {v : Int32} (w : zWF h R P N L S) (hv : v = -4 ∨ ∃ s, s < R * P ∧ v = nI s) (hf : v = -4 ∨ ∀ q, q < N → q ≠ p → h 4 q ≠ v) : zWF (zhu h 4 p v) R P N L S := by
  obtain ⟨w1, w2, w3, w4, w5, w6, w7, w8, w9, w10⟩ := w
  refine ⟨w1, w2, w3, w4, w5, w6, ⟨fun q hq => ?_, fun q hq r hr hqr he => ?_⟩, w8, w9, w10⟩
  · by_cases e : q = p
    · subst e
      rw [zhu_s]
      exact hv
    · rw [zhu_o e]
      exact w7.1 q hq
  · by_cases e : q = p
    · subst e
      rw [zhu_s] at he ⊢
      rw [zhu_o (fun z => hqr z.symm)] at he
      rcases hf with hf | hf
      · exact hf
      · exact absurd he.symm (hf r hr (fun z => hqr z.symm))
    · rw [zhu_o e] at he ⊢
      by_cases e2 : r = p
      · subst e2
        rw [zhu_s] at he
        rcases hf with hf | hf
        · rw [he, hf]
        · exact absurd he (hf q hq e)
      · rw [zhu_o e2] at he
        exact w7.2 q hq r hr hqr he
theorem Q_sit {σ : ZS} (hi : zInv σ) (x y : Int32) : zPair (zcall 70 [zA 0 0 0, zI x, zI y]) (zcall 147 [zA 3 0 0, zI x, zI y]) σ := by
  obtain ⟨R, P, N, L, S, a1, a2, a3, a4, a5, a6, a7, a8⟩ := id hi
  have hN : N ≤ 4 := a1.2.1.2.2.2.2.1
  have hL : L ≤ 8 := a1.2.1.2.2.2.2.2.1
  have h12 := zRP12 a1.2.1.2.1 a1.2.1.2.2.2.1
  have n1 : σ 1 0 0 3 = nI N := a1.1.2.2.1
  have n2 : σ 3 0 0 5 = nI N := a3.2.2.1.trans n1
  have m1 : σ 1 0 0 0 * σ 1 0 0 1 = nI (R * P) := by rw [a1.1.1, a1.1.2.1, pk_mul]
  have m2 : σ 3 0 0 3 * σ 3 0 0 4 = nI (R * P) := by rw [a3.1, a3.2.1, m1]
  have hd := a1.2.2.2.2.2.2.1.2
  have fin : ∀ p, p < N → ∀ v : Int32, (v = -4 ∨ ∃ s, s < R * P ∧ v = nI s) → (v = -4 ∨ ∀ q, q < N → q ≠ p → σ 1 0 4 q ≠ v) → zInv (zup (zup σ 1 0 4 p v) 3 0 1 (12 + 4 * p) v) := by
    intro p hp v hv hf
    have e1 : (zup (zup σ 1 0 4 p v) 3 0 1 (12 + 4 * p) v) 1 0 = zhu (σ 1 0) 4 p v := by
      rw [← zup_h]
      funext j
      exact zup_o (by omega)
    refine zInv_h a1 a3 a4 a5 a6 a7 a8 (zfrm_up (zfrm_up zfrm_r (Or.inl ⟨rfl, rfl⟩)) (Or.inr ⟨rfl, rfl, rfl⟩)) (S' := S) ?_ ?_ ?_ ?_
    · rw [e1]
      exact zWF_seat a1 hv hf
    · rw [e1, zup_m, zup_o (by decide)]
      exact zrel_p (d := 0) (by omega) hp hN a2 hL
    · intro i _
      rw [zup_o (by decide), zup_o (by decide)]
    · intro k hk
      rw [zup_m, zru_o (by omega), zup_o (by decide)]
  have o3 : ∀ (p : Nat) (v : Int32) (k : Nat), (zup σ 1 0 4 p v) 3 0 0 k = σ 3 0 0 k := fun p v k => by rw [zup_o (by decide)]
  have o1 : ∀ (p : Nat) (v : Int32) (k : Nat), (zup σ 1 0 4 p v) 3 0 1 k = σ 3 0 1 k := fun p v k => by rw [zup_o (by decide)]
  unfold zPair
  simp only [E_S_sit]
  rcases zin2_c x (n := N) (by omega) with h1 | ⟨p, hp, rfl, h1⟩
  · exact ⟨-1, σ, σ, by rw [mv_bad1 n1 y h1]; rfl, ms_bad1 n2 y h1, hi⟩
  · by_cases hy : y = -4
    · subst hy
      exact ⟨σ 1 0 4 p, zup σ 1 0 4 p (-4), _, by rw [mv_away n1 hN hp]; rfl, by rw [ms_away (by rw [o3]; exact n2) hN hp, o1, (a2.2.1 p hp).1], fin p hp _ (Or.inl rfl) (Or.inl rfl)⟩
    · rcases zin2_c y (n := R * P) (by omega) with h2 | ⟨s, hs, rfl, h2⟩
      · exact ⟨-1, σ, σ, by rw [mv_bad2 n1 m1 h1 hy h2]; rfl, ms_bad2 n2 m2 h1 hy h2, hi⟩
      · by_cases ho : ∃ q, q < N ∧ q ≠ p ∧ σ 1 0 4 q = nI s
        · obtain ⟨q, hq, hqp, hqs⟩ := ho
          refine ⟨-2, σ, σ, by rw [mv_occ n1 hN m1 h12 hd hp hs hq hqp hqs]; rfl, ms_occ n2 hN m2 h12 ?_ hp hs hq hqp (by rw [(a2.2.1 q hq).1]; exact hqs), hi⟩
          intro p hp q hq hpq he
          rw [(a2.2.1 p hp).1] at he ⊢
          rw [(a2.2.1 q hq).1] at he
          exact hd p hp q hq hpq he
        · have hf : ∀ q, q < N → q ≠ p → σ 1 0 4 q ≠ nI s := fun q hq hqp e => ho ⟨q, hq, hqp, e⟩
          exact ⟨σ 1 0 4 p, zup σ 1 0 4 p (nI s), _, by rw [mv_free n1 hN m1 h12 hp hs hf]; rfl, by rw [ms_free (by rw [o3]; exact n2) hN (by rw [o3, o3]; exact m2) h12 hp hs (fun q hq hqp => by rw [o1, (a2.2.1 q hq).1]; exact hf q hq hqp), o1, (a2.2.1 p hp).1], fin p hp _ (Or.inr ⟨s, hs, rfl⟩) (Or.inr hf)⟩
theorem L_trade {σ : ZS} (g : Nat) {p q : Nat} (hp : p < 4) (hq : q < 4) : zcall 13 [zA 1 g 0, zI (nI p), zI (nI q)] σ = some (zI 0, zup (zup σ 1 g 4 p (σ 1 g 4 q)) 1 g 4 q (σ 1 g 4 p)) := by
  rw [E_House_tradeSeats, zck_nI hp (by decide), zck_nI hq (by decide), zck_nI hp (by decide), nI_clamp (by omega), nI_clamp (by omega)]
  dsimp only
  rw [zck_nI hq (by decide)]
theorem zWF_trade {h : Nat → Nat → Int32} {R P N L S p q : Nat} (hp : p < N) (hq : q < N) (hpq : p ≠ q) (w : zWF h R P N L S) : zWF (zhu (zhu h 4 p (h 4 q)) 4 q (h 4 p)) R P N L S := by
  obtain ⟨w1, w2, w3, w4, w5, w6, w7, w8, w9, w10⟩ := w
  have rd : ∀ r, zhu (zhu h 4 p (h 4 q)) 4 q (h 4 p) 4 r = h 4 (if r = q then p else if r = p then q else r) := by
    intro r
    by_cases e : r = q
    · subst e
      rw [zhu_s, if_pos rfl]
    · rw [zhu_o e, if_neg e]
      by_cases e2 : r = p
      · subst e2
        rw [zhu_s, if_pos rfl]
      · rw [zhu_o e2, if_neg e2]
  have lt : ∀ r, r < N → (if r = q then p else if r = p then q else r) < N := by
    intro r hr
    split
    · exact hp
    · split
      · exact hq
      · exact hr
  refine ⟨w1, w2, w3, w4, w5, w6, ⟨fun r hr => ?_, fun r hr t ht hrt he => ?_⟩, w8, w9, w10⟩
  · rw [rd]
    exact w7.1 _ (lt r hr)
  · rw [rd, rd] at he
    rw [rd]
    refine w7.2 _ (lt r hr) _ (lt t ht) ?_ he
    intro z
    split at z <;> split at z <;> (try split at z) <;> (try split at z) <;> omega
theorem Q_swap {σ : ZS} (hi : zInv σ) (x y : Int32) : zPair (zcall 71 [zA 0 0 0, zI x, zI y]) (zcall 149 [zA 3 0 0, zI x, zI y]) σ := by
  obtain ⟨R, P, N, L, S, a1, a2, a3, a4, a5, a6, a7, a8⟩ := id hi
  have hN : N ≤ 4 := a1.2.1.2.2.2.2.1
  have hL : L ≤ 8 := a1.2.1.2.2.2.2.2.1
  have n1 : σ 1 0 0 3 = nI N := a1.1.2.2.1
  have n2 : σ 3 0 0 5 = nI N := a3.2.2.1.trans n1
  unfold zPair
  simp only [E_S_swap, E_M_swap, L_hasOne, L_isOne, zbI_some, zif_b, n1]
  rcases zin2_c x (n := N) (by omega) with h1 | ⟨p, hp, rfl, h1⟩
  · rw [h1]
    exact ⟨-1, σ, σ, rfl, by rw [n2, h1]; rfl, hi⟩
  · rw [h1]
    rcases zin2_c y (n := N) (by omega) with h2 | ⟨q, hq, rfl, h2⟩
    · rw [h2]
      exact ⟨-1, σ, σ, rfl, by rw [n2, h1, h2]; rfl, hi⟩
    · rw [h2]
      simp only [if_true]
      by_cases hpq : p = q
      · subst hpq
        rw [if_pos rfl]
        exact ⟨-1, σ, σ, rfl, by rw [n2, h1, if_pos rfl, if_pos rfl, if_pos rfl], hi⟩
      · have hne : ¬ nI p = nI q := fun e => hpq ((nI_eq (by omega) (by omega)).mp e)
        rw [if_neg hne, L_trade 0 (by omega) (by omega), zbV_some, zck_nI (by omega) (by decide), nI_clamp (by omega), zup_m, zru_o hpq, zup_m, zru_s]
        refine ⟨σ 1 0 4 q, zup (zup σ 1 0 4 p (σ 1 0 4 q)) 1 0 4 q (σ 1 0 4 p), zup (zup (zup (zup σ 1 0 4 p (σ 1 0 4 q)) 1 0 4 q (σ 1 0 4 p)) 3 0 1 (12 + 4 * p) (σ 1 0 4 q)) 3 0 1 (12 + 4 * q) (σ 1 0 4 p), rfl, ?_, ?_⟩
        · have o3 : (zup (zup σ 1 0 4 p (σ 1 0 4 q)) 1 0 4 q (σ 1 0 4 p)) 3 0 0 5 = nI N := by rw [zup_o (by decide), zup_o (by decide), n2]
          have o1 : ∀ k, (zup (zup σ 1 0 4 p (σ 1 0 4 q)) 1 0 4 q (σ 1 0 4 p)) 3 0 1 k = σ 3 0 1 k := fun k => by rw [zup_o (by decide), zup_o (by decide)]
          rw [o3, h1, h2]
          simp only [if_true, if_neg hne, show ∀ k, (12 + (4 * nI k)) + 0 = nI (12 + 4 * k) from fun k => zidx 0]
          rw [zck_nI (by omega) (by decide), L_becomes _ (by omega), zbI_some, zck_nI (by omega) (by decide), zck_nI (by omega) (by decide), nI_clamp (by omega), nI_clamp (by omega), o1, o1, (a2.2.1 p hp).1, (a2.2.1 q hq).1]
          rw [zup_m, zru_o (by omega), zup_m, zru_s]
        · have e1 : (zup (zup (zup (zup σ 1 0 4 p (σ 1 0 4 q)) 1 0 4 q (σ 1 0 4 p)) 3 0 1 (12 + 4 * p) (σ 1 0 4 q)) 3 0 1 (12 + 4 * q) (σ 1 0 4 p)) 1 0 = zhu (zhu (σ 1 0) 4 p (σ 1 0 4 q)) 4 q (σ 1 0 4 p) := by
            rw [← zup_h, ← zup_h]
            funext j
            rw [zup_o (by omega), zup_o (by omega)]
          refine zInv_h a1 a3 a4 a5 a6 a7 a8 (zfrm_up (zfrm_up (zfrm_up (zfrm_up zfrm_r (Or.inl ⟨rfl, rfl⟩)) (Or.inl ⟨rfl, rfl⟩)) (Or.inr ⟨rfl, rfl, rfl⟩)) (Or.inr ⟨rfl, rfl, rfl⟩)) (S' := S) ?_ ?_ ?_ ?_
          · rw [e1]
            exact zWF_trade hp hq hpq a1
          · rw [e1, zup_m, zup_m, zup_o (by decide), zup_o (by decide)]
            exact zrel_p (d := 0) (by omega) hq hN (zrel_p (d := 0) (by omega) hp hN a2 hL) hL
          · intro i _
            rw [zup_o (by decide), zup_o (by decide), zup_o (by decide), zup_o (by decide)]
          · intro k hk
            rw [zup_m, zru_o (by omega), zup_m, zru_o (by omega), zup_o (by decide), zup_o (by decide)]
