/-! see -/
def zsee (h : Nat → Nat → Int32) (S : Nat) (x y : Int32) : Nat → Nat → Int32 := zhu (zhu (zhu h 9 S x) 10 S y) 0 6 (nI (S + 1))
theorem zsee_o {h : Nat → Nat → Int32} {S j k : Nat} {x y : Int32} (e1 : ¬ (j = 9 ∧ k = S)) (e2 : ¬ (j = 10 ∧ k = S)) (e3 : ¬ (j = 0 ∧ k = 6)) : zsee h S x y j k = h j k := by
  unfold zsee
  rw [zhu_n e3, zhu_n e2, zhu_n e1]
theorem zWF_see {h : Nat → Nat → Int32} {R P N L S i : Nat} {y : Int32} (w : zWF h R P N L S) (hS : S < 8) (hi : i < L) (hy : y = -4 ∨ ∃ p, p < N ∧ y = nI p) : zWF (zsee h S (nI i) y) R P N L (S + 1) := by
  obtain ⟨⟨v1, v2, v3, v4, v5⟩, ⟨u1, u2, u3, u4, u5, u6, u7⟩, w3, w4, w5, w6, w7, w8, w9, w10⟩ := w
  have e : ∀ j k, j ≠ 9 → j ≠ 10 → j ≠ 0 → zsee h S (nI i) y j k = h j k := fun j k a b c => zsee_o (by omega) (by omega) (by omega)
  have e0 : ∀ k, k ≠ 6 → zsee h S (nI i) y 0 k = h 0 k := fun k a => zsee_o (by omega) (by omega) (by omega)
  refine ⟨⟨?_, ?_, ?_, ?_, ?_⟩, ⟨u1, u2, u3, u4, u5, u6, by omega⟩, ?_, ?_, fun s hs => ?_, fun s hs => ?_, ⟨fun p hp => ?_, fun p hp q hq => ?_⟩, fun p hp => ?_, fun i2 hi2 => ?_, fun k hk => ?_⟩
  · rw [e0 0 (by omega)]; exact v1
  · rw [e0 1 (by omega)]; exact v2
  · rw [e0 3 (by omega)]; exact v3
  · rw [e0 4 (by omega)]; exact v4
  · exact zhu_s
  · rw [e0 2 (by omega)]; exact w3
  · rw [e0 5 (by omega)]; exact w4
  · rw [e 1 s (by omega) (by omega) (by omega), e 2 s (by omega) (by omega) (by omega)]; exact w5 s hs
  · rw [e 3 s (by omega) (by omega) (by omega)]; exact w6 s hs
  · rw [e 4 p (by omega) (by omega) (by omega)]; exact w7.1 p hp
  · rw [e 4 p (by omega) (by omega) (by omega), e 4 q (by omega) (by omega) (by omega)]; exact w7.2 p hp q hq
  · rw [e 5 p (by omega) (by omega) (by omega), e 6 p (by omega) (by omega) (by omega), e 7 p (by omega) (by omega) (by omega)]; exact w8 p hp
  · rw [e 8 i2 (by omega) (by omega) (by omega)]; exact w9 i2 hi2
  · have q9 : zsee h S (nI i) y 9 k = if k = S then nI i else h 9 k := by
      unfold zsee
      rw [zhu_n (by omega), zhu_n (by omega)]
      simp [zhu]
    have q10 : zsee h S (nI i) y 10 k = if k = S then y else h 10 k := by
      unfold zsee
      rw [zhu_n (by omega)]
      by_cases e : k = S
      · subst e; rw [zhu_s, if_pos rfl]
      · rw [zhu_n (by omega), zhu_n (by omega), if_neg e]
    rw [q9, q10]
    by_cases ek : k = S
    · rw [if_pos ek, if_pos ek]
      exact ⟨⟨i, hi, rfl⟩, hy⟩
    · rw [if_neg ek, if_neg ek]
      exact w10 k (by omega)
def zsea (a : Nat → Int32) (S : Nat) (x y : Int32) : Nat → Int32 := zru (zru (zru a (38 + 2 * S) x) (39 + 2 * S) y) 37 (nI (S + 1))
theorem zrel_see {h : Nat → Nat → Int32} {a : Nat → Int32} {N L S : Nat} {x y : Int32} (hN : N ≤ 4) (hL : L ≤ 8) (r : zrel h a N L S) : zrel (zsee h S x y) (zsea a S x y) N L (S + 1) := by
  obtain ⟨r1, r2, r3, r4, r5, r6⟩ := r
  have e : ∀ j k, j ≠ 9 → j ≠ 10 → j ≠ 0 → zsee h S x y j k = h j k := fun j k a b c => zsee_o (by omega) (by omega) (by omega)
  have e0 : ∀ k, k ≠ 6 → zsee h S x y 0 k = h 0 k := fun k a => zsee_o (by omega) (by omega) (by omega)
  have ea : ∀ k, k < 37 → zsea a S x y k = a k := fun k hk => by
    unfold zsea
    rw [zru_o (by omega), zru_o (by omega), zru_o (by omega)]
  refine ⟨fun s hs => ?_, fun p hp => ?_, fun i hi => ?_, ?_, ?_, fun k hk => ?_⟩
  · rw [ea s (by omega), e 3 s (by omega) (by omega) (by omega)]; exact r1 s hs
  · rw [ea _ (by omega), ea _ (by omega), ea _ (by omega), ea _ (by omega), e 4 p (by omega) (by omega) (by omega), e 5 p (by omega) (by omega) (by omega), e 6 p (by omega) (by omega) (by omega), e 7 p (by omega) (by omega) (by omega)]; exact r2 p hp
  · rw [ea _ (by omega), e0 5 (by omega)]; exact r3 i hi
  · rw [ea _ (by omega), e0 2 (by omega)]; exact r4
  · exact zru_s.trans zhu_s.symm
  · have q9 : zsee h S x y 9 k = if k = S then x else h 9 k := by
      unfold zsee
      rw [zhu_n (by omega), zhu_n (by omega)]
      simp [zhu]
    have q10 : zsee h S x y 10 k = if k = S then y else h 10 k := by
      unfold zsee
      rw [zhu_n (by omega)]
      by_cases e : k = S
      · subst e; rw [zhu_s, if_pos rfl]
      · rw [zhu_n (by omega), zhu_n (by omega), if_neg e]
    rw [q9, q10]
    unfold zsea
    by_cases ek : k = S
    · subst ek
      rw [if_pos rfl, if_pos rfl, zru_o (by omega), zru_o (by omega), zru_s, zru_o (by omega), zru_s]
      exact ⟨rfl, rfl⟩
    · rw [if_neg ek, if_neg ek, zru_o (by omega), zru_o (by omega), zru_o (by omega), zru_o (by omega), zru_o (by omega), zru_o (by omega)]
      exact r6 k (by omega)
theorem L_addSeen {σ : ZS} {S : Nat} (e : σ 1 0 0 6 = nI S) (hS : S < 8) (x y : Int32) : ∃ τ, zcall 22 [zA 1 0 0, zI x, zI y] σ = some (zI 1, τ) ∧ zfrm (zHG 0) σ τ ∧ τ 1 0 = zsee (σ 1 0) S x y := by
  rw [E_House_addSeen, e, if_pos (show nI S < 8 from nI_lt (b := 8) hS (by decide)), zck_nI hS (by decide), nI_clamp (by omega)]
  dsimp only
  have e1 : zup σ 1 0 9 S x 1 0 0 6 = nI S := by rw [zup_o (by decide), e]
  rw [e1, zck_nI hS (by decide), nI_clamp (by omega)]
  have e2 : zup (zup σ 1 0 9 S x) 1 0 10 S y 1 0 0 6 = nI S := by rw [zup_o (by decide), e1]
  rw [e2, nI_1]
  exact ⟨_, rfl, zfrm_up (zfrm_up (zfrm_up zfrm_r ⟨rfl, rfl⟩) ⟨rfl, rfl⟩) ⟨rfl, rfl⟩, by rw [zup_h, zup_h, zup_h]; rfl⟩
theorem L_see24 {σ : ZS} {S : Nat} (e : σ 3 0 1 37 = nI S) (hS : S < 8) (x y : Int32) : ∃ τ, zev 193 24 [(0, zA 3 0 0), (1, zI x), (2, zI y)] [] σ = some (zI (nI (S + 1)), τ) ∧ zfrm (fun c g j => c = 3 ∧ g = 0 ∧ j = 1) σ τ ∧ τ 3 0 1 = zsea (σ 3 0 1) S x y := by
  have e0 : (38 : Int32) + 2 * nI S = nI (38 + 2 * S) := by rw [show (2 : Int32) = nI 2 from rfl, pk_mul]; exact nI_add ..
  have hne : ¬ nI S = 8 := fun z => by
    have h1 := congrArg Int32.toNatClampNeg z
    rw [nI_clamp (by omega)] at h1
    have h2 : (8 : Int32).toNatClampNeg = 8 := by decide
    omega
  rw [E_M_see_24, e, if_neg hne, e0, zck_nI (by omega) (by decide), nI_clamp (by omega)]
  dsimp only
  have e1 : zup σ 3 0 1 (38 + 2 * S) x 3 0 1 37 = nI S := by rw [zup_m, zru_o (by omega), e]
  rw [E_M_see_57, e1, e0, nI_1, zck_nI (by omega) (by decide), nI_clamp (by omega)]
  dsimp only
  have e2 : zup (zup σ 3 0 1 (38 + 2 * S) x) 3 0 1 (38 + 2 * S + 1) y 3 0 1 37 = nI S := by rw [zup_m, zru_o (by omega), e1]
  rw [E_M_see_77, e2, nI_1]
  dsimp only
  rw [zup_same]
  refine ⟨_, rfl, zfrm_up (zfrm_up (zfrm_up zfrm_r ⟨rfl, rfl, rfl⟩) ⟨rfl, rfl, rfl⟩) ⟨rfl, rfl, rfl⟩, ?_⟩
  rw [zup_m, zup_m, zup_m, show 38 + 2 * S + 1 = 39 + 2 * S by omega]
  rfl
theorem Q_see {σ : ZS} (hi : zInv σ) (x y : Int32) : zPair (zcall 103 [zA 0 0 0, zI x, zI y]) (zcall 193 [zA 3 0 0, zI x, zI y]) σ := by
  obtain ⟨R, P, N, L, S, a1, a2, a3, a4, a5, a6, a7, a8⟩ := id hi
  have hN : N ≤ 4 := a1.2.1.2.2.2.2.1
  have hL : L ≤ 8 := a1.2.1.2.2.2.2.2.1
  have hS : S ≤ 8 := a1.2.1.2.2.2.2.2.2
  have n1 : σ 1 0 0 4 = nI L := a1.1.2.2.2.1
  have n2 : σ 3 0 0 6 = nI L := a3.2.2.2.1.trans n1
  have n3 : σ 1 0 0 3 = nI N := a1.1.2.2.1
  have n4 : σ 3 0 0 5 = nI N := a3.2.2.1.trans n3
  have n5 : σ 1 0 0 6 = nI S := a1.1.2.2.2.2
  have n6 : σ 3 0 1 37 = nI S := a2.2.2.2.2.1.trans n5
  -- what follows the looks
  have fin : ∀ i, i < L → (y = -4 ∨ ∃ p, p < N ∧ y = nI p) → zPair (fun σ => zbI (zcall 22 [zA 1 0 0, zI (nI i), zI y] σ) (fun x24 σ23 => if x24 = 0 then (some (zI (-3), σ23)) else (some (zI (σ23 1 0 0 6), σ23)))) (fun σ => zev 193 24 [(0, zA 3 0 0), (1, zI (nI i)), (2, zI y)] [] σ) σ := by
    intro i hi2 hy
    by_cases hS8 : S = 8
    · subst hS8
      refine zPair_same hi (v := -3) ?_ ?_
      · rw [E_House_addSeen, n5, if_neg (show ¬ nI 8 < 8 by decide), zbI_some, if_pos rfl]
      · rw [E_M_see_24, n6, if_pos (show nI 8 = 8 by decide)]
    · obtain ⟨τ, t1, t2, t3⟩ := L_addSeen n5 (show S < 8 by omega) (nI i) y
      have e37 : τ 3 0 1 37 = nI S := by rw [t2 3 0 1 (by simp [zHG])]; exact n6
      obtain ⟨υ, u1, u2, u3⟩ := L_see24 e37 (show S < 8 by omega) (nI i) y
      refine ⟨nI (S + 1), τ, υ, ?_, u1, ?_⟩
      · dsimp only
        rw [t1, zbI_some, if_neg (by decide), t3]
        unfold zsee
        rw [zhu_s]
      · have e1 : υ 1 0 = zsee (σ 1 0) S (nI i) y := by
          rw [← t3]
          funext j
          exact u2 1 0 j (by simp)
        have e3 : υ 3 0 1 = zsea (σ 3 0 1) S (nI i) y := by
          rw [u3, t2 3 0 1 (by simp [zHG])]
        refine zInv_h a1 a3 a4 a5 a6 a7 a8 (zfrm_t (zfrm_m (fun c g j h => Or.inl h) t2) (zfrm_m (fun c g j h => Or.inr h) u2)) (S' := S + 1) ?_ ?_ ?_ ?_
        · rw [e1]
          exact zWF_see a1 (by omega) hi2 hy
        · rw [e1, e3]
          exact zrel_see hN hL a2
        · intro k _
          rw [e1, zsee_o (by omega) (by omega) (by omega)]
        · intro k hk
          rw [e3]
          unfold zsea
          rw [zru_o (by omega), zru_o (by omega), zru_o (by omega)]
  have look : ∀ (b : ZS → ZR) (v : Int32), zPair (fun σ => some (zI v, σ)) (fun σ => some (zI v, σ)) σ := fun _ v => zPair_same hi rfl rfl
  unfold zPair
  simp only [E_S_see, E_M_see, L_hasLine, L_isLine, L_hasOne, L_isOne, zbI_some, zif_b, n1, n3]
  rcases zin2_c x (n := L) (by omega) with h1 | ⟨i, hiL, rfl, h1⟩
  · refine ⟨-1, σ, σ, by rw [h1]; rfl, ?_, hi⟩
    rw [n2, h1]
    rfl
  · rw [h1]
    have keep : ∀ τ, zfrm (zHG 0) σ τ → τ 3 0 0 6 = nI L ∧ τ 3 0 0 5 = nI N := fun τ f => by
      rw [f 3 0 0 (by simp [zHG])]
      exact ⟨n2, n4⟩
    have fr : ∀ v τ υ, (fun σ => zbI (zcall 22 [zA 1 0 0, zI (nI i), zI y] σ) (fun x24 σ23 => if x24 = 0 then (some (zI (-3), σ23)) else (some (zI (σ23 1 0 0 6), σ23)))) σ = some (zI v, τ) → zev 193 24 [(0, zA 3 0 0), (1, zI (nI i)), (2, zI y)] [] τ = some (zI v, υ) → zfrm (zHG 0) σ τ := by
      intro v τ υ h1 _
      dsimp only at h1
      by_cases hS8 : S = 8
      · subst hS8
        rw [E_House_addSeen, n5, if_neg (show ¬ nI 8 < 8 by decide), zbI_some, if_pos rfl] at h1
        cases h1
        exact zfrm_r
      · obtain ⟨τ2, t1, t2, t3⟩ := L_addSeen n5 (show S < 8 by omega) (nI i) y
        rw [t1, zbI_some, if_neg (by decide)] at h1
        cases h1
        exact t2
    by_cases hy : y = -4
    · obtain ⟨v, τ, υ, c1, c2, c3⟩ := fin i hiL (Or.inl hy)
      obtain ⟨k1, k2⟩ := keep τ (fr v τ υ c1 c2)
      refine ⟨v, τ, υ, ?_, ?_, c3⟩
      · rw [if_pos rfl, if_pos hy]
        exact c1
      · rw [k1, h1, if_pos rfl, if_pos hy]
        exact c2
    · rcases zin2_c y (n := N) (by omega) with h2 | ⟨p, hp, rfl, h2⟩
      · refine ⟨-1, σ, σ, ?_, ?_, hi⟩
        · rw [if_pos rfl, if_neg hy, h2]
          rfl
        · rw [n2, h1, if_pos rfl, if_neg hy, n4, h2]
          rfl
      · obtain ⟨v, τ, υ, c1, c2, c3⟩ := fin i hiL (Or.inr ⟨p, hp, rfl⟩)
        obtain ⟨k1, k2⟩ := keep τ (fr v τ υ c1 c2)
        refine ⟨v, τ, υ, ?_, ?_, c3⟩
        · rw [if_pos rfl, if_neg hy, h2, if_pos rfl]
          exact c1
        · rw [k1, h1, if_pos rfl, if_neg hy, k2, h2, if_pos rfl]
          exact c2
