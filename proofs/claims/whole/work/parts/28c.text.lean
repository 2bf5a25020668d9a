/-! text: the whole call -/
theorem L_clear33 {g : Nat} : ∀ (d i : Nat) (σ : ZS), i + d = 12 → (∀ q, q < i → σ 1 g 3 q = -4) → ∃ τ, zev 0 33 [(0, zA 1 g 0), (1, zI (nI i))] [] σ = some (zI 0, τ) ∧ zfrm (fun c g' j => c = 1 ∧ g' = g ∧ j = 3) σ τ ∧ ∀ q, q < 12 → τ 1 g 3 q = -4
  | 0, i, σ, hi, h => by
    obtain rfl : i = 12 := by omega
    exact ⟨σ, by rw [E_House_clear_33, if_neg (show ¬ nI 12 < 12 by decide)], zfrm_r, h⟩
  | d + 1, i, σ, hi, h => by
    obtain ⟨τ, t1, t2, t3⟩ := L_clear33 (g := g) d (i + 1) (zup σ 1 g 3 i (-4)) (by omega) (fun q hq => by
      rw [zup_m]
      by_cases e : q = i
      · rw [e, zru_s]
      · rw [zru_o e]; exact h q (by omega))
    refine ⟨τ, ?_, zfrm_t (zfrm_up zfrm_r ⟨rfl, rfl, rfl⟩) t2, t3⟩
    rw [E_House_clear_33, if_pos (show nI i < 12 from nI_lt (b := 12) (by omega) (by decide)), zck_nI (by omega) (by decide), nI_clamp (by omega), nI_1]
    exact t1
/-- a house as it is at first -/
def zH0 (H : Nat → Nat → Int32) : Prop := H 0 0 = nI 2 ∧ H 0 1 = nI 3 ∧ (∀ s, s < 2 * 3 → H 1 s = nI (s / 3) ∧ H 2 s = nI (s % 3)) ∧ H 0 2 = 0 ∧ H 0 3 = nI 0 ∧ H 0 4 = nI 0 ∧ H 0 5 = nI 0 ∧ H 0 6 = 0 ∧ ∀ s, s < 12 → H 3 s = -4
theorem L_clear (g : Nat) (σ : ZS) : ∃ τ, zcall 0 [zA 1 g 0] σ = some (zI 0, τ) ∧ zfrm (zHG g) σ τ ∧ zH0 (τ 1 g) := by
  obtain ⟨τ, t1, t2, t3⟩ := L_shape (g := g) σ (R := 2) (P := 3) (by decide) (by decide)
  obtain ⟨υ, u1, u2, u3⟩ := L_clear33 (g := g) 12 0 (zup (zup (zup (zup (zup τ 1 g 0 2 0) 1 g 0 3 0) 1 g 0 4 0) 1 g 0 5 0) 1 g 0 6 0) (by omega) (fun q hq => absurd hq (Nat.not_lt_zero _))
  have e0 : ∀ j, j ≠ 3 → υ 1 g j = (zup (zup (zup (zup (zup τ 1 g 0 2 0) 1 g 0 3 0) 1 g 0 4 0) 1 g 0 5 0) 1 g 0 6 0) 1 g j := fun j hj => u2 1 g j (by omega)
  have e1 : (zup (zup (zup (zup (zup τ 1 g 0 2 0) 1 g 0 3 0) 1 g 0 4 0) 1 g 0 5 0) 1 g 0 6 0) 1 g = zhu (zhu (zhu (zhu (zhu (zshp (σ 1 g) 2 3) 0 2 0) 0 3 0) 0 4 0) 0 5 0) 0 6 0 := by
    rw [zup_h, zup_h, zup_h, zup_h, zup_h, t3]
  refine ⟨υ, ?_, zfrm_t t2 (zfrm_t (zfrm_up (zfrm_up (zfrm_up (zfrm_up (zfrm_up zfrm_r ⟨rfl, rfl⟩) ⟨rfl, rfl⟩) ⟨rfl, rfl⟩) ⟨rfl, rfl⟩) ⟨rfl, rfl⟩) (zfrm_m (fun _ _ _ h => ⟨h.1, h.2.1⟩) u2)), ?_⟩
  · rw [E_House_clear]
    rw [show zcall 1 [zA 1 g 0, zI 2, zI 3] σ = _ from t1, zbV_some]
    exact u1
  · have f : ∀ j k, j ≠ 3 → υ 1 g j k = (zhu (zhu (zhu (zhu (zhu (zshp (σ 1 g) 2 3) 0 2 0) 0 3 0) 0 4 0) 0 5 0) 0 6 0) j k := fun j k hj => by rw [e0 j hj, e1]
    refine ⟨?_, ?_, fun s hs => ⟨?_, ?_⟩, ?_, ?_, ?_, ?_, ?_, u3⟩
    · rw [f 0 0 (by decide), zhu_n (by decide), zhu_n (by decide), zhu_n (by decide), zhu_n (by decide), zhu_n (by decide)]; rfl
    · rw [f 0 1 (by decide), zhu_n (by decide), zhu_n (by decide), zhu_n (by decide), zhu_n (by decide), zhu_n (by decide)]; rfl
    · rw [f 1 s (by decide), zhu_n (by omega), zhu_n (by omega), zhu_n (by omega), zhu_n (by omega), zhu_n (by omega)]
      unfold zshp
      rw [if_neg (by omega), if_neg (by omega), if_pos ⟨rfl, hs⟩]
    · rw [f 2 s (by decide), zhu_n (by omega), zhu_n (by omega), zhu_n (by omega), zhu_n (by omega), zhu_n (by omega)]
      unfold zshp
      rw [if_neg (by omega), if_neg (by omega), if_neg (by omega), if_pos ⟨rfl, hs⟩]
    · rw [f 0 2 (by decide), zhu_n (by decide), zhu_n (by decide), zhu_n (by decide), zhu_n (by decide), zhu_s]
    · rw [f 0 3 (by decide), zhu_n (by decide), zhu_n (by decide), zhu_n (by decide), zhu_s]; rfl
    · rw [f 0 4 (by decide), zhu_n (by decide), zhu_n (by decide), zhu_s]; rfl
    · rw [f 0 5 (by decide), zhu_n (by decide), zhu_s]; rfl
    · rw [f 0 6 (by decide), zhu_s]
def zS0 (H : Nat → Nat → Int32) : ZDr := (H, 0, 0, false, false, 0, 0, 0)
theorem zDI_0 {H : Nat → Nat → Int32} (h : zH0 H) : zDI (zS0 H) := by
  obtain ⟨h1, h2, h3, h4, h5, h6, h7, h8, h9⟩ := h
  exact ⟨⟨2, 3, by decide, h1, h2, h3⟩, ⟨Or.inl h4, h8⟩, ⟨h5, show (0 : Nat) ≤ 4 by decide, h6, show (0 : Nat) ≤ 8 by decide⟩, ⟨0, show (0 : Nat) < 2 ^ 0 by decide, h7, fun z => absurd z (show ¬ (0 : Nat) < 0 by decide)⟩, fun s hs => Or.inl (h9 s hs), ⟨fun p hp => absurd hp (Nat.not_lt_zero _), fun p hp => absurd hp (Nat.not_lt_zero _)⟩, fun p hp => absurd hp (Nat.not_lt_zero _), fun i hi => absurd hi (Nat.not_lt_zero _), ⟨⟨show (0 : Nat) < 4096 by decide, fun s hs => absurd (show (0 : Nat).testBit s = true from hs) (by rw [Nat.zero_testBit]; decide)⟩, show (0 : Nat) ≤ 12 by decide, show (0 : Nat) ≤ 4 by decide⟩, Or.inl rfl, Or.inl rfl⟩
/-! the reference's first draft -/
theorem L_fd2 : ∀ (d k : Nat) (σ : ZS), k + d = 54 → (∀ i, i < k → σ 3 0 5 i = if i < 12 then -4 else 0) → ∃ τ, zev 117 2 [(0, zA 3 0 0), (1, zI (nI k))] [] σ = zev 117 34 [(0, zA 3 0 0), (1, zI 0)] [] τ ∧ zfrm (fun c g j => c = 3 ∧ g = 0 ∧ j = 5) σ τ ∧ ∀ i, i < 54 → τ 3 0 5 i = if i < 12 then -4 else 0
  | 0, k, σ, hk, h => by
    obtain rfl : k = 54 := by omega
    exact ⟨σ, by rw [E_M_firstDraft_2, if_neg (show ¬ nI 54 < 54 by decide)], zfrm_r, h⟩
  | d + 1, k, σ, hk, h => by
    obtain ⟨τ, t1, t2, t3⟩ := L_fd2 d (k + 1) (zup σ 3 0 5 k (if k < 12 then -4 else 0)) (by omega) (fun i hi => by
      rw [zup_m]
      by_cases e : i = k
      · rw [e, zru_s]
      · rw [zru_o e]; exact h i (by omega))
    refine ⟨τ, ?_, zfrm_t (zfrm_up zfrm_r ⟨rfl, rfl, rfl⟩) t2, t3⟩
    rw [E_M_firstDraft_2, if_pos (show nI k < 54 from nI_lt (b := 54) (by omega) (by decide)), zck_nI (by omega) (by decide), zck_nI (by omega) (by decide), nI_clamp (by omega), nI_1]
    by_cases c : k < 12
    · rw [if_pos (show nI k < 12 from nI_lt (b := 12) c (by decide))]
      rw [if_pos c] at t1
      exact t1
    · rw [if_neg (show ¬ nI k < 12 from nI_nlt (a := k) (b := 12) (by omega) (by omega))]
      rw [if_neg c] at t1
      exact t1
theorem L_fd34 : ∀ (d p : Nat) (σ : ZS), p + d = 4 → (∀ i, i < 54 → σ 3 0 5 i = if i < 12 then -4 else if i % 4 = 0 ∧ i < 12 + 4 * p then -4 else 0) → ∃ τ, zev 117 34 [(0, zA 3 0 0), (1, zI (nI p))] [] σ = some (zI 0, zup (zup (zup (zup (zup (zup (zup (zup τ 3 0 0 9 2) 3 0 0 10 3) 3 0 0 11 0) 3 0 0 12 0) 3 0 0 14 0) 3 0 0 15 0) 3 0 0 16 (-4)) 3 0 0 17 (-4)) ∧ zfrm (fun c g j => c = 3 ∧ g = 0 ∧ j = 5) σ τ ∧ ∀ i, i < 54 → τ 3 0 5 i = if i < 12 then -4 else if i % 4 = 0 ∧ i < 28 then -4 else 0
  | 0, p, σ, hp, h => by
    obtain rfl : p = 4 := by omega
    exact ⟨σ, by rw [E_M_firstDraft_34, if_neg (show ¬ nI 4 < 4 by decide)], zfrm_r, h⟩
  | d + 1, p, σ, hp, h => by
    obtain ⟨τ, t1, t2, t3⟩ := L_fd34 d (p + 1) (zup σ 3 0 5 (12 + 4 * p) (-4)) (by omega) (fun i hi => by
      rw [zup_m]
      by_cases e : i = 12 + 4 * p
      · rw [e, zru_s, if_neg (by omega), if_pos (by omega)]
      · rw [zru_o e, h i hi]
        by_cases c1 : i < 12
        · rw [if_pos c1, if_pos c1]
        · rw [if_neg c1, if_neg c1]
          by_cases c2 : i % 4 = 0 ∧ i < 12 + 4 * p
          · rw [if_pos c2, if_pos (by omega)]
          · rw [if_neg c2, if_neg (by omega)])
    refine ⟨τ, ?_, zfrm_t (zfrm_up zfrm_r ⟨rfl, rfl, rfl⟩) t2, t3⟩
    rw [E_M_firstDraft_34, if_pos (show nI p < 4 from nI_lt (b := 4) (by omega) (by decide)), show (12 + (4 * nI p)) + (0 : Int32) = nI (12 + 4 * p) from zidx 0, zck_nI (by omega) (by decide), nI_clamp (by omega), nI_1]
    exact t1
theorem L_firstDraft {H : Nat → Nat → Int32} (hH : zH0 H) (σ : ZS) : ∃ τ, zcall 117 [zA 3 0 0] σ = some (zI 0, τ) ∧ zfrm (fun c g j => c = 3 ∧ g = 0 ∧ (j = 0 ∨ j = 5)) σ τ ∧ (∀ k, (k < 9 ∨ 17 < k) → τ 3 0 0 k = σ 3 0 0 k) ∧ zRd τ (zS0 H) ∧ τ 3 0 0 14 = 0 := by
  obtain ⟨τ, t1, t2, t3⟩ := L_fd2 54 0 σ (by omega) (fun i hi => absurd hi (Nat.not_lt_zero _))
  obtain ⟨υ, u1, u2, u3⟩ := L_fd34 4 0 τ (by omega) (fun i hi => by
    rw [t3 i hi]
    by_cases c : i < 12
    · rw [if_pos c, if_pos c]
    · rw [if_neg c, if_neg c, if_neg (by omega)])
  have e : ∀ k, υ 3 0 0 k = σ 3 0 0 k := fun k => by rw [u2 3 0 0 (by decide), t2 3 0 0 (by decide)]
  obtain ⟨h1, h2, h3, h4, h5, h6, h7, h8, h9⟩ := hH
  refine ⟨zup (zup (zup (zup (zup (zup (zup (zup υ 3 0 0 9 2) 3 0 0 10 3) 3 0 0 11 0) 3 0 0 12 0) 3 0 0 14 0) 3 0 0 15 0) 3 0 0 16 (-4)) 3 0 0 17 (-4), ?_, zfrm_up (zfrm_up (zfrm_up (zfrm_up (zfrm_up (zfrm_up (zfrm_up (zfrm_up (zfrm_t (zfrm_m (fun _ _ _ h => ⟨h.1, h.2.1, Or.inr h.2.2⟩) t2) (zfrm_m (fun _ _ _ h => ⟨h.1, h.2.1, Or.inr h.2.2⟩) u2)) ⟨rfl, rfl, Or.inl rfl⟩) ⟨rfl, rfl, Or.inl rfl⟩) ⟨rfl, rfl, Or.inl rfl⟩) ⟨rfl, rfl, Or.inl rfl⟩) ⟨rfl, rfl, Or.inl rfl⟩) ⟨rfl, rfl, Or.inl rfl⟩) ⟨rfl, rfl, Or.inl rfl⟩) ⟨rfl, rfl, Or.inl rfl⟩, fun k hk => ?_, ⟨⟨?_, ?_, ?_, ?_⟩, ⟨?_, ?_, ?_⟩, ⟨fun s hs => ?_, fun p hp => absurd hp (Nat.not_lt_zero _), fun p _ hp => ?_, fun i h1 h2 => absurd h2 (Nat.not_lt_zero _), ?_, ?_⟩, fun i hi => absurd hi (Nat.not_lt_zero _)⟩, ?_⟩
  · rw [E_M_firstDraft]
    rw [show zev 117 2 [(0, zA 3 0 0), (1, zI 0)] [] σ = _ from t1]
    exact u1
  · rw [zup_m, zru_o (by omega), zup_m, zru_o (by omega), zup_m, zru_o (by omega), zup_m, zru_o (by omega), zup_m, zru_o (by omega), zup_m, zru_o (by omega), zup_m, zru_o (by omega), zup_m, zru_o (by omega), e]
  · exact (show (2 : Int32) = H 0 0 from h1.symm)
  · exact (show (3 : Int32) = H 0 1 from h2.symm)
  · rfl
  · rfl
  · rfl
  · rfl
  · rfl
  · show υ 3 0 5 s = H 3 s
    rw [u3 s (by omega), if_pos hs, h9 s hs]
  · show υ 3 0 5 (12 + 4 * p) = -4 ∧ υ 3 0 5 (15 + 4 * p) = 0
    rw [u3 (12 + 4 * p) (by omega), u3 (15 + 4 * p) (by omega)]
    exact ⟨by rw [if_neg (by omega), if_pos (by omega)], by rw [if_neg (by omega), if_neg (by omega)]⟩
  · show υ 3 0 5 36 = H 0 2
    rw [u3 36 (by decide), h4]; rfl
  · show υ 3 0 5 37 = 0
    rw [u3 37 (by decide)]; rfl
  · rfl
