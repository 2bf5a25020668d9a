/-! text: the draft becomes the house -/
theorem L_kd2 : ∀ (d k : Nat) (σ : ZS), k + d = 54 → (∀ i, i < k → σ 3 0 1 i = σ 3 0 5 i) → ∃ τ, zev 118 2 [(0, zA 3 0 0), (1, zI (nI k))] [] σ = zev 118 60 [(0, zA 3 0 0), (1, zI 0)] [] (zup (zup (zup (zup τ 3 0 0 3 (τ 3 0 0 9)) 3 0 0 4 (τ 3 0 0 10)) 3 0 0 5 (τ 3 0 0 11)) 3 0 0 6 (τ 3 0 0 12)) ∧ zfrm (fun c g j => c = 3 ∧ g = 0 ∧ j = 1) σ τ ∧ ∀ i, i < 54 → τ 3 0 1 i = σ 3 0 5 i
  | 0, k, σ, hk, h => by
    obtain rfl : k = 54 := by omega
    refine ⟨σ, ?_, zfrm_r, h⟩
    rw [E_M_keepDraft_2, if_neg (show ¬ nI 54 < 54 by decide)]
    dsimp only
    rw [zup_m, zru_o (show (10 : Nat) ≠ 3 by decide), zup_m, zru_o (show (11 : Nat) ≠ 4 by decide), zup_m, zru_o (show (11 : Nat) ≠ 3 by decide), zup_m, zru_o (show (12 : Nat) ≠ 5 by decide), zup_m, zru_o (show (12 : Nat) ≠ 4 by decide), zup_m, zru_o (show (12 : Nat) ≠ 3 by decide)]
  | d + 1, k, σ, hk, h => by
    obtain ⟨τ, t1, t2, t3⟩ := L_kd2 d (k + 1) (zup σ 3 0 1 k (σ 3 0 5 k)) (by omega) (fun i hi => by
      rw [zup_m, zup_o (by decide)]
      by_cases e : i = k
      · rw [e, zru_s]
      · rw [zru_o e]; exact h i (by omega))
    refine ⟨τ, ?_, zfrm_t (zfrm_up zfrm_r ⟨rfl, rfl, rfl⟩) t2, fun i hi => by rw [t3 i hi, zup_o (by decide)]⟩
    rw [E_M_keepDraft_2, if_pos (show nI k < 54 from nI_lt (b := 54) (by omega) (by decide)), zck_nI (by omega) (by decide), zck_nI (by omega) (by decide), nI_clamp (by omega), nI_1]
    exact t1
theorem L_kd60 {L : Nat} (hL : L ≤ 8) : ∀ (d i : Nat) (σ : ZS), i + d = L → σ 3 0 0 6 = nI L → (∀ q, q < i → σ 3 0 4 q = σ 3 0 6 q) → ∃ τ, zev 118 60 [(0, zA 3 0 0), (1, zI (nI i))] [] σ = some (zI 0, zup (zup (zup τ 3 0 1 28 (if 0 < L then 1 else 0)) 3 0 3 0 (0 &&& 1)) 3 0 3 1 (0 &&& 1)) ∧ zfrm (fun c g j => c = 3 ∧ g = 0 ∧ j = 4) σ τ ∧ ∀ q, q < L → τ 3 0 4 q = σ 3 0 6 q
  | 0, i, σ, hi, e, h => by
    obtain rfl : i = L := by omega
    refine ⟨σ, ?_, zfrm_r, h⟩
    rw [E_M_keepDraft_60, e, if_neg (nI_nlt (Nat.le_refl _) (by omega))]
    by_cases c : 0 < i
    · rw [if_pos (show (0 : Int32) < nI i from nI_lt (a := 0) c (by omega)), if_pos c]
    · rw [if_neg (show ¬ (0 : Int32) < nI i from nI_nlt (a := 0) (by omega) (by omega)), if_neg c]
  | d + 1, i, σ, hi, e, h => by
    obtain ⟨τ, t1, t2, t3⟩ := L_kd60 hL d (i + 1) (zup σ 3 0 4 i (σ 3 0 6 i)) (by omega) (by rw [zup_o (by decide)]; exact e) (fun q hq => by
      rw [zup_m, zup_o (by decide)]
      by_cases eq : q = i
      · rw [eq, zru_s]
      · rw [zru_o eq]; exact h q (by omega))
    refine ⟨τ, ?_, zfrm_t (zfrm_up zfrm_r ⟨rfl, rfl, rfl⟩) t2, fun q hq => by rw [t3 q hq, zup_o (by decide)]⟩
    rw [E_M_keepDraft_60, e, if_pos (nI_lt (by omega) (by omega)), zck_nI (by omega) (by decide), zck_nI (by omega) (by decide), nI_clamp (by omega), nI_1]
    exact t1
theorem L_keepDraft {σ : ZS} {L : Nat} (hL : L ≤ 8) (e12 : σ 3 0 0 12 = nI L) : ∃ τ, zcall 118 [zA 3 0 0] σ = some (zI 0, τ) ∧ zfrm (fun c g j => c = 3 ∧ g = 0 ∧ (j = 0 ∨ j = 1 ∨ j = 3 ∨ j = 4)) σ τ ∧ (τ 3 0 0 3 = σ 3 0 0 9 ∧ τ 3 0 0 4 = σ 3 0 0 10 ∧ τ 3 0 0 5 = σ 3 0 0 11 ∧ τ 3 0 0 6 = σ 3 0 0 12) ∧ (∀ k, 6 < k → τ 3 0 0 k = σ 3 0 0 k) ∧ (∀ i, i < 54 → τ 3 0 1 i = if i = 28 then (if 0 < L then 1 else 0) else σ 3 0 5 i) ∧ (∀ q, q < L → τ 3 0 4 q = σ 3 0 6 q) ∧ τ 3 0 3 0 = 0 ∧ τ 3 0 3 1 = 0 := by
  obtain ⟨τ, t1, t2, t3⟩ := L_kd2 54 0 σ (by omega) (fun i hi => absurd hi (Nat.not_lt_zero _))
  have e0 : ∀ k, τ 3 0 0 k = σ 3 0 0 k := fun k => by rw [t2 3 0 0 (by decide)]
  obtain ⟨σ2, d2⟩ : ∃ σ2, σ2 = zup (zup (zup (zup τ 3 0 0 3 (τ 3 0 0 9)) 3 0 0 4 (τ 3 0 0 10)) 3 0 0 5 (τ 3 0 0 11)) 3 0 0 6 (τ 3 0 0 12) := ⟨_, rfl⟩
  have f0 : ∀ k, σ2 3 0 0 k = if k = 6 then σ 3 0 0 12 else if k = 5 then σ 3 0 0 11 else if k = 4 then σ 3 0 0 10 else if k = 3 then σ 3 0 0 9 else σ 3 0 0 k := fun k => by
    rw [d2, zup_m, zup_m, zup_m, zup_m]
    unfold zru
    rw [e0, e0, e0, e0, e0]
  have fo : ∀ c g j, ¬ (c = 3 ∧ g = 0 ∧ j = 0) → σ2 c g j = τ c g j := fun c g j h => by rw [d2, zup_o h, zup_o h, zup_o h, zup_o h]
  obtain ⟨υ, u1, u2, u3⟩ := L_kd60 hL L 0 σ2 (by omega) (by rw [f0 6, if_pos rfl]; exact e12) (fun q hq => absurd hq (Nat.not_lt_zero _))
  have g0 : ∀ c g j, ¬ (c = 3 ∧ g = 0 ∧ (j = 0 ∨ j = 1 ∨ j = 3 ∨ j = 4)) → (zup (zup (zup υ 3 0 1 28 (if 0 < L then 1 else 0)) 3 0 3 0 (0 &&& 1)) 3 0 3 1 (0 &&& 1)) c g j = σ c g j := fun c g j h => by
    rw [zup_o (by omega), zup_o (by omega), zup_o (by omega), u2 c g j (by omega), fo c g j (by omega), t2 c g j (by omega)]
  have g3 : ∀ k, (zup (zup (zup υ 3 0 1 28 (if 0 < L then 1 else 0)) 3 0 3 0 (0 &&& 1)) 3 0 3 1 (0 &&& 1)) 3 0 0 k = σ2 3 0 0 k := fun k => by
    rw [zup_o (by decide), zup_o (by decide), zup_o (by decide), u2 3 0 0 (by decide)]
  refine ⟨_, ?_, g0, ⟨?_, ?_, ?_, ?_⟩, fun k hk => ?_, fun i hi => ?_, fun q hq => ?_, ?_, ?_⟩
  · rw [E_M_keepDraft]
    rw [show zev 118 2 [(0, zA 3 0 0), (1, zI 0)] [] σ = _ from t1, ← d2]
    exact u1
  · rw [g3, f0]; rfl
  · rw [g3, f0]; rfl
  · rw [g3, f0]; rfl
  · rw [g3, f0]; rfl
  · rw [g3, f0, if_neg (by omega), if_neg (by omega), if_neg (by omega), if_neg (by omega)]
  · rw [zup_o (by decide), zup_o (by decide), zup_m]
    by_cases e : i = 28
    · rw [e, zru_s, if_pos rfl]
    · rw [zru_o e, if_neg e, u2 3 0 1 (by decide), fo 3 0 1 (by decide), t3 i hi]
  · rw [zup_o (by decide), zup_o (by decide), zup_o (by decide), u3 q hq, fo 3 0 6 (by decide), t2 3 0 6 (by decide)]
  · rw [zup_m, zru_o (by decide), zup_same]; rfl
  · rw [zup_same]; rfl
theorem L_text60 : ∀ (d i : Nat) (σ : ZS), i + d = 2 → (∀ q, q < i → σ 0 0 2 q = 0) → ∃ τ, zev 63 60 [(0, zA 0 0 0), (1, zI (nI i))] [] σ = some (zI (σ 0 0 4 2), τ) ∧ zfrm (fun c g j => c = 0 ∧ g = 0 ∧ j = 2) σ τ ∧ ∀ q, q < 2 → τ 0 0 2 q = 0
  | 0, i, σ, hi, h => by
    obtain rfl : i = 2 := by omega
    exact ⟨σ, by rw [E_S_text_60, if_neg (show ¬ nI 2 < 2 by decide)], zfrm_r, h⟩
  | d + 1, i, σ, hi, h => by
    obtain ⟨τ, t1, t2, t3⟩ := L_text60 d (i + 1) (zup σ 0 0 2 i (0 &&& 1)) (by omega) (fun q hq => by
      rw [zup_m]
      by_cases e : q = i
      · rw [e, zru_s]; rfl
      · rw [zru_o e]; exact h q (by omega))
    refine ⟨τ, ?_, zfrm_t (zfrm_up zfrm_r ⟨rfl, rfl, rfl⟩) t2, t3⟩
    rw [E_S_text_60, if_pos (show nI i < 2 from nI_lt (b := 2) (by omega) (by decide)), zck_nI (by omega) (by decide), nI_clamp (by omega), nI_1]
    dsimp only
    rw [t1, zup_o (by decide)]
/-- what both calls leave: all but -/
def zTXT (c g j : Nat) : Prop := zScr c g j ∨ (c = 0 ∧ g = 0 ∧ (j = 0 ∨ j = 5)) ∨ (c = 3 ∧ g = 0 ∧ j = 0)
theorem zInv_x {σ τ : ZS} (hi : zInv σ) (f : zfrm zTXT σ τ) (h0 : ∀ k, 3 ≤ k → k ≤ 6 → τ 3 0 0 k = σ 3 0 0 k) (hT : zTp τ) (hF : zFa τ) : zInv τ := by
  have e1 : τ 1 0 = σ 1 0 := funext fun j => f 1 0 j (by simp [zTXT, zScr, zScC])
  have e3 : τ 1 3 = σ 1 3 := funext fun j => f 1 3 j (by simp [zTXT, zScr, zScC])
  have e4 : τ 1 4 = σ 1 4 := funext fun j => f 1 4 j (by simp [zTXT, zScr, zScC])
  have e2 : τ 2 = σ 2 := funext fun g => funext fun j => f 2 g j (by simp [zTXT, zScr, zScC])
  have c2 : τ 0 0 2 = σ 0 0 2 := f 0 0 2 (by simp [zTXT, zScr, zScC])
  have m1 : τ 3 0 1 = σ 3 0 1 := f 3 0 1 (by simp [zTXT, zScr, zScC])
  have m3 : τ 3 0 3 = σ 3 0 3 := f 3 0 3 (by simp [zTXT, zScr, zScC])
  have m4 : τ 3 0 4 = σ 3 0 4 := f 3 0 4 (by simp [zTXT, zScr, zScC])
  have m9 : τ 3 0 9 = σ 3 0 9 := f 3 0 9 (by simp [zTXT, zScr, zScC])
  have m10 : τ 3 0 10 = σ 3 0 10 := f 3 0 10 (by simp [zTXT, zScr, zScC])
  have m11 : τ 3 0 11 = σ 3 0 11 := f 3 0 11 (by simp [zTXT, zScr, zScC])
  have k5 : τ 5 = σ 5 := funext fun g => funext fun j => f 5 g j (by simp [zTXT, zScr, zScC])
  have k6 : τ 6 = σ 6 := funext fun g => funext fun j => f 6 g j (by simp [zTXT, zScr, zScC])
  obtain ⟨R, P, N, L, S, a1, a2, a3, a4, a5, a6, a7, a8⟩ := hi
  refine ⟨R, P, N, L, S, by rw [e1]; exact a1, by rw [e1, m1]; exact a2, ?_, ?_, ?_, hT, hF, ?_⟩
  · unfold zMM
    rw [h0 3 (by decide) (by decide), h0 4 (by decide) (by decide), h0 5 (by decide) (by decide), h0 6 (by decide) (by decide), e1, m4]
    exact a3
  · intro k hk
    have hk2 : τ 1 (3 + k) = σ 1 (3 + k) := by
      rcases (by omega : k = 0 ∨ k = 1) with rfl | rfl
      · exact e3
      · exact e4
    rw [m3, c2, m1, e1, hk2]
    exact a4 k hk
  · intro k hk
    rw [e2, m9, m10, m11]
    exact a5 k hk
  · unfold zKo
    rw [k5, k6]
    exact a8
theorem zDI_WF {S : ZDr} (h : zDI S) (hd : dz S ≤ dM S) : ∃ R P, zWF (dH S) R P (dN S) (dL S) 0 ∧ dH S 0 0 = nI R ∧ dH S 0 1 = nI P := by
  obtain ⟨R, P, r1, r2, r3, r4⟩ := h.1
  have hM : dM S = R * P := by
    unfold dM
    rw [r2, r3, nI_clamp (by omega), nI_clamp (by omega)]
  obtain ⟨-, ⟨h2, h2b⟩, h3, ⟨o, o1, o2, o3⟩, h5, h6, h7, h8, -⟩ := h
  have hL := h3.2.2.2
  refine ⟨R, P, ⟨⟨r2, r3, h3.1, h3.2.2.1, h2b⟩, ⟨r1.1, r1.2.1, r1.2.2.1, r1.2.2.2, h3.2.1, hL, by decide⟩, h2, ⟨⟨o, o1, o2⟩, fun hl => ?_⟩, r4, h5, ⟨fun p hp => ?_, h6.2⟩, fun p hp => ?_, h8, fun k hk => absurd hk (Nat.not_lt_zero _)⟩, r2, r3⟩
  · rw [o2, zb1 o (p2_8 hL o1) 0 (by decide), o3 hl]; rfl
  · exact (h6.1 p hp).imp_right fun ⟨s, s1, s2⟩ => ⟨s, by omega, s2⟩
  · obtain ⟨q1, q2, f, f1, f2, f3⟩ := h7 p hp
    exact ⟨q1, q2, f, f1, f3⟩
theorem Q_text {σ : ZS} (hi : zInv σ) : zPair (zcall 63 [zA 0 0 0]) (zcall 122 [zA 3 0 0]) σ := by
  obtain ⟨R, P, N, L, S, a1, a2, a3, a4, a5, a6, a7, a8⟩ := id hi
  obtain ⟨T, hT, p1, p2, p3⟩ := a6
  obtain ⟨b, hb⟩ : ∃ b : Nat → Nat, ∀ i, i < T → σ 0 0 6 i = nI (b i) ∧ b i < 128 := by
    refine ⟨fun i => (σ 0 0 6 i).toNatClampNeg, fun i h => ?_⟩
    obtain ⟨⟨x, x1, x2⟩, -⟩ := p3 i h
    dsimp only
    rw [x2, nI_clamp (by omega)]
    exact ⟨rfl, x1⟩
  have h0 : zTpB σ b T := ⟨p1, hT, hb⟩
  -- the class
  obtain ⟨σ1, c1, c2, c3⟩ := L_clear 2 σ
  obtain ⟨σ2, d2⟩ : ∃ σ2, σ2 = zup (zup (zup (zup (zup (zup (zup σ1 0 0 4 2 0) 0 0 4 3 0) 0 0 4 4 0) 0 0 4 5 0) 0 0 4 9 0) 0 0 4 10 0) 0 0 4 11 0 := ⟨_, rfl⟩
  have f2 : zfrm zRX σ σ2 := by
    rw [d2]
    exact zfrm_up (zfrm_up (zfrm_up (zfrm_up (zfrm_up (zfrm_up (zfrm_up (zfrm_m (fun _ _ _ h => Or.inr h) c2) (Or.inl ⟨rfl, rfl, rfl⟩)) (Or.inl ⟨rfl, rfl, rfl⟩)) (Or.inl ⟨rfl, rfl, rfl⟩)) (Or.inl ⟨rfl, rfl, rfl⟩)) (Or.inl ⟨rfl, rfl, rfl⟩)) (Or.inl ⟨rfl, rfl, rfl⟩)) (Or.inl ⟨rfl, rfl, rfl⟩)
  have v2 : ∀ k, k = 2 ∨ k = 3 ∨ k = 5 ∨ k = 9 ∨ k = 10 ∨ k = 11 → σ2 0 0 4 k = 0 := by
    intro k hk
    rw [d2, zup_m, zup_m, zup_m, zup_m, zup_m, zup_m, zup_m]
    rcases hk with rfl | rfl | rfl | rfl | rfl | rfl <;> rfl
  have r12 : σ2 1 2 = σ1 1 2 := by
    rw [d2]
    funext j
    rw [zup_o (by omega), zup_o (by omega), zup_o (by omega), zup_o (by omega), zup_o (by omega), zup_o (by omega), zup_o (by omega)]
  have hTp : ∀ υ, zfrm zRX σ υ → zTpB υ b T := fun υ f => zTpB_f (f 0 0 5 (by simp [zRX])) (f 0 0 6 (by simp [zRX])) h0
  have hKs : ∀ υ, zfrm zRX σ υ → zKs υ := fun υ f => by
    unfold zKs
    rw [show υ 6 = σ 6 from funext fun g => funext fun j => f 6 g j (by simp [zRX])]
    exact zKs_o a8
  have hD0 := zDI_0 c3
  obtain ⟨σ3, t1, t2, t3⟩ := L_takeC (hTp _ f2) (v2 3 (by omega)) (Nat.zero_le T) (v2 5 (by omega))
  have f3 : zfrm zRX σ σ3 := zfrm_t f2 (zfrm_m (fun _ _ _ h => Or.inl h) t2.1)
  have hC2 : zCS σ2 (zS0 (σ1 1 2)) := ⟨r12, by rw [v2 9 (by omega)]; rfl, by rw [v2 10 (by omega)]; rfl, by rw [v2 11 (by omega)]; rfl⟩
  have hC3 := zCS_k t2 hC2
  obtain ⟨σ4, l1, l2, l3⟩ := L_tell48 161 0 0 (zS0 (σ1 1 2)) 0 (ztok b T 0) σ3 (by omega) (Nat.le_refl _) (Nat.zero_le T) (fun t ht => ht) t3 hC3.1 (fun _ _ => hC3) hD0 (hTp _ f3) (hKs _ f3) (by rw [t2.2 2 (by omega), v2 2 (by omega)]; rfl)
  have f4 : zfrm zRX σ σ4 := zfrm_t f3 l2
  have hall : zcall 30 [zA 0 0 4] σ = some (zI 0, σ4) := by
    rw [E_Reader_tellAll, c1, zbV_some]
    dsimp only
    rw [← d2, t1, zbV_some]
    exact l1
  obtain ⟨σ5, d5⟩ : ∃ σ5, σ5 = zup (zup σ4 0 0 5 1 0) 0 0 0 9 (σ4 0 0 4 3) := ⟨_, rfl⟩
  -- the reference from a store that agrees
  have ref : ∀ υ : ZS, (∀ j, υ 3 0 j = σ 3 0 j) → ∃ x τ, zcall 122 [zA 3 0 0] υ = zev 122 89 [(0, zA 3 0 0), (1, zI x)] [] τ ∧ zfrm (fun c g j => c = 3 ∧ g = 0 ∧ (j = 0 ∨ j = 5 ∨ j = 6)) υ τ ∧ (∀ k, (k < 9 ∨ k = 19 ∨ 25 < k) → τ 3 0 0 k = υ 3 0 0 k) ∧ zEM τ x (zlp b T 161 (zS0 (σ1 1 2)) 0 (ztok b T 0)) := by
    intro υ hυ
    obtain ⟨υ1, w1, w2, w3, w4, w5⟩ := L_firstDraft c3 (zup (zup υ 3 0 0 24 0) 3 0 0 20 0)
    have hm : zTpM υ1 b T := by
      refine ⟨?_, hT, fun i h => ?_⟩
      · rw [w3 19 (by omega), zup_m, zru_o (by decide), zup_m, zru_o (by decide), hυ]; exact p2
      · rw [w2 3 0 7 (by decide), zup_o (by decide), zup_o (by decide), hυ]
        exact ⟨(p3 i h).2.trans (hb i h).1, (hb i h).2⟩
    have z24 : υ1 3 0 0 24 = 0 := by rw [w3 24 (by omega), zup_m, zru_o (by decide), zup_same]
    have z20 : υ1 3 0 0 20 = nI 0 := by rw [w3 20 (by omega), zup_same]; rfl
    obtain ⟨υ2, n1, n2, n3⟩ := L_nextM hm z24 (Nat.zero_le T) z20
    obtain ⟨x, τ, o1, o2, o3⟩ := L_text20 161 0 (zS0 (σ1 1 2)) 0 (ztok b T 0) υ2 (by omega) (Nat.zero_le T) (fun t ht => ht) n3 (fun _ _ => ⟨zRd_m n2 w4, by rw [n2.2 14 (by omega), w5]; rfl⟩) hD0 (zTpM_k n2 hm)
    refine ⟨x, τ, ?_, ?_, fun k hk => ?_, o3⟩
    · rw [E_M_text]
      dsimp only
      rw [w1, zbV_some, n1, zbV_some]
      exact o1
    · exact zfrm_t (zfrm_t (zfrm_t (zfrm_up (zfrm_up zfrm_r ⟨rfl, rfl, Or.inl rfl⟩) ⟨rfl, rfl, Or.inl rfl⟩) (zfrm_m (fun _ _ _ h => ⟨h.1, h.2.1, by omega⟩) w2)) (zfrm_m (fun _ _ _ h => ⟨h.1, h.2.1, Or.inl h.2.2⟩) n2.1)) o2.1
    · rw [o2.2 k hk, n2.2 k (by omega), w3 k (by omega), zup_m, zru_o (by omega), zup_m, zru_o (by omega)]
  have g5 : ∀ c g j, ¬ zRX c g j → ¬ (c = 0 ∧ g = 0 ∧ (j = 0 ∨ j = 5)) → σ5 c g j = σ c g j := fun c g j h1 h2 => by
    rw [d5, zup_o (by omega), zup_o (by omega)]
    exact f4 c g j h1
  have e44 : σ5 0 0 4 = σ4 0 0 4 := by rw [d5, zup_o (by decide), zup_o (by decide)]
  have e09 : ∀ k, σ5 0 0 0 k = if k = 9 then σ4 0 0 4 3 else σ 0 0 0 k := fun k => by
    rw [d5, zup_m, zup_o (by decide), f4 0 0 0 (by simp [zRX])]
    rfl
  have e51 : σ5 0 0 5 1 = 0 := by rw [d5, zup_o (by decide), zup_same]
  unfold zPair
  rw [E_S_text, hall, zbV_some]
  dsimp only
  rw [show zup σ4 0 0 5 1 0 0 0 4 3 = σ4 0 0 4 3 from by rw [zup_o (by decide)], ← d5, show σ5 0 0 0 9 = σ4 0 0 4 3 from by rw [e09, if_pos rfl]]
  cases hR : zlp b T 161 (zS0 (σ1 1 2)) 0 (ztok b T 0) with
  | inl q =>
    rw [hR] at l3
    have l3 : zFc σ4 q := l3
    obtain ⟨x, τ, k1, k2, k3, k4⟩ := ref σ5 (fun j => g5 3 0 j (by simp [zRX]) (by omega))
    rw [hR] at k4
    have k4 : zFm τ q := k4
    refine ⟨(-10) - nI q.2, σ5, zup τ 3 0 0 19 0, ?_, ?_, ?_⟩
    · rw [if_neg l3.2.1, e44, l3.2.2]
    · rw [k1, E_M_text_89]
      dsimp only
      rw [show zup τ 3 0 0 19 0 3 0 0 24 = τ 3 0 0 24 from by rw [zup_m, zru_o (by decide)], if_pos k4.2.1, show zup τ 3 0 0 19 0 3 0 0 25 = τ 3 0 0 25 from by rw [zup_m, zru_o (by decide)], k4.2.2]
    · refine zInv_x hi (fun c g j hn => ?_) (fun k h1 h2 => ?_) ⟨0, by decide, ?_, ?_, fun i h => absurd h (Nat.not_lt_zero _)⟩ ⟨?_, ?_⟩
      · have n1 : ¬ (c = 3 ∧ g = 0 ∧ (j = 0 ∨ j = 5 ∨ j = 6)) := fun z => hn (by obtain ⟨rfl, rfl, z | z | z⟩ := z <;> subst z <;> simp [zTXT, zScr])
        rw [zup_o (fun z => n1 ⟨z.1, z.2.1, Or.inl z.2.2⟩), k2 c g j n1]
        refine g5 c g j (fun z => hn ?_) (fun z => hn (Or.inr (Or.inl z)))
        rcases z with ⟨rfl, rfl, rfl⟩ | ⟨rfl, rfl⟩ <;> simp [zTXT, zScr, zScC]
      · rw [zup_m, zru_o (by omega), k3 k (by omega), g5 3 0 0 (by simp [zRX]) (by omega)]
      · rw [zup_o (by decide), k2 0 0 5 (by decide), e51]; rfl
      · exact zup_same
      · rw [zup_m, zru_o (by decide), k4.1, zup_o (by decide), k2 0 0 0 (by decide), e09, if_pos rfl, l3.1]
      · rw [zup_m, zru_o (by decide), k3 30 (by omega), g5 3 0 0 (by simp [zRX]) (by omega), zup_o (by decide), k2 0 0 0 (by decide), e09, if_neg (by decide)]
        exact a7.2
  | inr p =>
    rw [hR] at l3
    obtain ⟨l3, l4, l5, l6, l7, l8⟩ := l3
    obtain ⟨R', P', hwf, hr0, hr1⟩ := zDI_WF l5 l7
    have hN' := hwf.2.1.2.2.2.2.1
    have hL' := hwf.2.1.2.2.2.2.2.1
    obtain ⟨σ6, y1, y2, y3⟩ := L_copy (σ := σ5) (g := 0) (g2 := 2) (by decide)
    obtain ⟨σ7, x1, x2, x3⟩ := L_text60 2 0 σ6 (by omega) (fun q hq => absurd hq (Nat.not_lt_zero _))
    have e512 : σ5 1 2 = dH p.1 := by
      rw [← l4, d5]
      funext j
      rw [zup_o (by omega), zup_o (by omega)]
    rw [e512] at y3
    have g7 : ∀ c g j, ¬ (c = 1 ∧ g = 0) → ¬ (c = 0 ∧ g = 0 ∧ j = 2) → σ7 c g j = σ5 c g j := fun c g j h1 h2 => by rw [x2 c g j h2, y2 c g j (fun z => h1 z)]
    have e710 : σ7 1 0 = σ6 1 0 := funext fun j => x2 1 0 j (by omega)
    obtain ⟨x, τ, k1, k2, k3, k4⟩ := ref σ7 (fun j => by rw [g7 3 0 j (by omega) (by omega)]; exact g5 3 0 j (by simp [zRX]) (by omega))
    rw [hR] at k4
    obtain ⟨k4, k5, rfl⟩ := k4
    obtain ⟨⟨q1, q2, q3, q4⟩, -, ⟨b1, b2, b3, b4, b5, b6⟩, q9⟩ := k5
    obtain ⟨ω, z1, z2, z3, z4, z5, z6, z7, z8⟩ := L_keepDraft (σ := zup τ 3 0 0 19 0) hL' (by rw [zup_m, zru_o (by decide)]; exact q4)
    refine ⟨nI p.2, σ7, ω, ?_, ?_, ?_⟩
    · rw [if_pos l3, y1, zbV_some]
      rw [show zev 63 60 [(0, zA 0 0 0), (1, zI 0)] [] σ6 = _ from x1, y2 0 0 4 (by simp [zHG]), e44, l6]
    · rw [k1, E_M_text_89]
      dsimp only
      rw [show zup τ 3 0 0 19 0 3 0 0 24 = τ 3 0 0 24 from by rw [zup_m, zru_o (by decide)], k4, if_neg (by decide), z1, zbV_some]
    · have w0 : ∀ c g j, ¬ (c = 3 ∧ g = 0) → ω c g j = σ7 c g j := fun c g j h => by
        rw [z2 c g j (by omega), zup_o (by omega), k2 c g j (by omega)]
      have w1 : ω 1 0 = σ6 1 0 := (funext fun j => w0 1 0 j (by omega)).trans e710
      have w3 : ∀ j, j ≠ 0 → j ≠ 1 → j ≠ 3 → j ≠ 4 → j ≠ 5 → j ≠ 6 → ω 3 0 j = σ 3 0 j := fun j h0 h1 h3 h4 h5 h6 => by
        rw [z2 3 0 j (by omega), zup_o (by omega), k2 3 0 j (by omega), g7 3 0 j (by omega) (by omega), g5 3 0 j (by simp [zRX]) (by omega)]
      have wf := zWF_IR y3 hwf
      have tz : ∀ j k, j ≠ 0 → zup τ 3 0 0 19 0 3 0 j k = τ 3 0 j k := fun j k hj => by rw [zup_o (by omega)]
      have t0 : ∀ k, k ≠ 19 → zup τ 3 0 0 19 0 3 0 0 k = τ 3 0 0 k := fun k hk => by rw [zup_m, zru_o hk]
      refine ⟨R', P', dN p.1, dL p.1, 0, by rw [w1]; exact wf, ?_, ?_, ?_, ?_, ⟨0, by decide, ?_, ?_, fun i h => absurd h (Nat.not_lt_zero _)⟩, ⟨?_, ?_⟩, ?_⟩
      · rw [w1]
        refine zrel_IR hN' (by decide) y3 ⟨fun s hs => ?_, fun p' hp => ?_, fun i hi => ?_, ?_, ?_, fun k hk => absurd hk (Nat.not_lt_zero _)⟩
        · rw [z5 s (by omega), if_neg (by omega), tz 5 s (by decide)]; exact b1 s hs
        · rw [z5 _ (by omega), z5 _ (by omega), z5 _ (by omega), z5 _ (by omega), if_neg (by omega), if_neg (by omega), if_neg (by omega), if_neg (by omega), tz 5 _ (by decide), tz 5 _ (by decide), tz 5 _ (by decide), tz 5 _ (by decide)]
          exact b2 p' hp
        · rw [z5 _ (by omega)]
          by_cases e : i = 0
          · subst e
            rw [if_pos rfl, if_pos hi]
            exact (hwf.2.2.2.1.2 hi).symm
          · rw [if_neg (by omega), tz 5 _ (by decide)]
            exact b4 i (by omega) hi
        · rw [z5 36 (by decide), if_neg (by decide), tz 5 _ (by decide)]; exact b5
        · rw [z5 37 (by decide), if_neg (by decide), tz 5 _ (by decide), b6]; exact hwf.1.2.2.2.2.symm
      · refine ⟨?_, ?_, ?_, ?_, fun i hi => ?_⟩
        · rw [z3.1, t0 9 (by decide), q1, w1, y3.1 0 (by decide)]
        · rw [z3.2.1, t0 10 (by decide), q2, w1, y3.1 1 (by decide)]
        · rw [z3.2.2.1, t0 11 (by decide), q3, w1, y3.1 3 (by decide), hwf.1.2.2.1]
        · rw [z3.2.2.2, t0 12 (by decide), q4, w1, y3.1 4 (by decide), hwf.1.2.2.2.1]
        · rw [z6 i hi, tz 6 i (by decide), q9 i hi, w1, (y3.2.2.2 i (by omega)).1]
      · intro k hk
        have c0 : ω 0 0 2 k = 0 := by rw [w0 0 0 2 (by omega), x3 k hk]
        have m0 : ω 3 0 3 k = 0 := by
          rcases (by omega : k = 0 ∨ k = 1) with rfl | rfl
          · exact z7
          · exact z8
        rw [c0, m0]
        exact ⟨rfl, Or.inl rfl, fun z => absurd z (by decide)⟩
      · intro k hk
        rw [w0 2 k 0 (by omega), w0 2 k 1 (by omega), g7 2 k 0 (by omega) (by omega), g7 2 k 1 (by omega) (by omega), g5 2 k 0 (by simp [zRX]) (by omega), g5 2 k 1 (by simp [zRX]) (by omega), w3 9 (by decide) (by decide) (by decide) (by decide) (by decide) (by decide), w3 10 (by decide) (by decide) (by decide) (by decide) (by decide) (by decide), w3 11 (by decide) (by decide) (by decide) (by decide) (by decide) (by decide)]
        exact a5 k hk
      · rw [w0 0 0 5 (by omega), g7 0 0 5 (by omega) (by omega), e51]; rfl
      · rw [z4 19 (by decide), zup_same]; rfl
      · rw [z4 24 (by decide), t0 24 (by decide), k4, w0 0 0 0 (by omega), g7 0 0 0 (by omega) (by omega), e09, if_pos rfl, l3]
      · rw [z4 30 (by decide), t0 30 (by decide), k3 30 (by omega), g7 3 0 0 (by omega) (by omega), g5 3 0 0 (by simp [zRX]) (by omega), w0 0 0 0 (by omega), g7 0 0 0 (by omega) (by omega), e09, if_neg (by decide)]
        exact a7.2
      · unfold zKo
        have u5 : ∀ g j, ω 5 g j = σ 5 g j := fun g j => by rw [w0 5 g j (by omega), g7 5 g j (by omega) (by omega), g5 5 g j (by simp [zRX]) (by omega)]
        have u6 : ∀ g j, ω 6 g j = σ 6 g j := fun g j => by rw [w0 6 g j (by omega), g7 6 g j (by omega) (by omega), g5 6 g j (by simp [zRX]) (by omega)]
        simp only [u5, u6]
        exact a8
