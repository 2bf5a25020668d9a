/-! who sits in a SEAT; the plain questions -/
def zWho (f : Nat → Int32) (N : Nat) (x w : Int32) : Prop := (w = -4 ∧ ∀ p, p < N → f p ≠ x) ∨ ∃ p, p < N ∧ w = nI p ∧ f p = x
theorem zWho_u {f f' : Nat → Int32} {N : Nat} {x w w' : Int32} (hff : ∀ p, p < N → f' p = f p) (hd : ∀ p, p < N → ∀ q, q < N → p ≠ q → f p = f q → f p = -4) (hx : x ≠ -4) (h1 : zWho f N x w) (h2 : zWho f' N x w') : w = w' := by
  rcases h1 with ⟨rfl, h1⟩ | ⟨p, hp, rfl, h1⟩ <;> rcases h2 with ⟨rfl, h2⟩ | ⟨q, hq, rfl, h2⟩
  · rfl
  · exact absurd ((hff q hq).symm.trans h2) (h1 q hq)
  · exact absurd ((hff p hp).trans h1) (h2 p hp)
  · by_cases e : p = q
    · rw [e]
    · exact absurd (h1.symm.trans (hd p hp q hq e (h1.trans (h2.symm.trans (hff q hq))))) hx
theorem L_whoSits_2 {σ : ZS} {g N : Nat} (hN : σ 1 g 0 3 = nI N) (h4 : N ≤ 4) (x : Int32) : ∀ d p : Nat, p + d = N → (∀ q, q < p → σ 1 g 4 q ≠ x) → ∃ w, zev 2 2 [(0, zA 1 g 0), (1, zI x), (2, zI (nI p))] [] σ = some (zI w, σ) ∧ zWho (σ 1 g 4) N x w
  | 0, p, hp, h => by
    refine ⟨-4, ?_, Or.inl ⟨rfl, fun q hq => h q (by omega)⟩⟩
    rw [E_House_whoSits_2, hN, if_neg (nI_nlt (by omega) (by omega))]
  | d + 1, p, hp, h => by
    rw [E_House_whoSits_2, hN, if_pos (nI_lt (by omega) (by omega)), zck_nI (by omega) (by decide), nI_clamp (by omega)]
    by_cases hc : σ 1 g 4 p = x
    · rw [if_pos hc]
      exact ⟨nI p, rfl, Or.inr ⟨p, by omega, rfl, hc⟩⟩
    · rw [if_neg hc, nI_1]
      refine L_whoSits_2 hN h4 x d (p + 1) (by omega) (fun q hq => ?_)
      rcases (by omega : q < p ∨ q = p) with h1 | rfl
      · exact h q h1
      · exact hc
theorem L_whoSits {σ : ZS} {g N : Nat} (hN : σ 1 g 0 3 = nI N) (h4 : N ≤ 4) (x : Int32) : ∃ w, zcall 2 [zA 1 g 0, zI x] σ = some (zI w, σ) ∧ zWho (σ 1 g 4) N x w := by
  rw [E_House_whoSits]
  exact L_whoSits_2 hN h4 x N 0 (by omega) (fun q hq => by omega)
theorem L_whoIsIn_5 {σ : ZS} {N : Nat} (hN : σ 3 0 0 5 = nI N) (h4 : N ≤ 4) (x : Int32) : ∀ (d p : Nat) (w : Int32), p + d = N → zWho (fun q => σ 3 0 1 (12 + 4 * q)) p x w → ∃ u, zev 142 5 [(0, zA 3 0 0), (1, zI x), (2, zI w), (3, zI (nI p))] [] σ = some (zI u, σ) ∧ zWho (fun q => σ 3 0 1 (12 + 4 * q)) N x u
  | 0, p, w, hp, h => by
    refine ⟨w, ?_, by rw [show N = p by omega]; exact h⟩
    rw [E_M_whoIsIn_5, hN, if_neg (nI_nlt (by omega) (by omega))]
  | d + 1, p, w, hp, h => by
    have e : (12 + (4 * nI p)) + 0 = nI (12 + 4 * p) := zidx (p := p) 0
    rw [E_M_whoIsIn_5, hN, if_pos (nI_lt (by omega) (by omega)), e, zck_nI (by omega) (by decide), nI_clamp (by omega), nI_1]
    by_cases hc : σ 3 0 1 (12 + 4 * p) = x
    · rw [if_pos hc]
      exact L_whoIsIn_5 hN h4 x d (p + 1) _ (by omega) (Or.inr ⟨p, by omega, rfl, hc⟩)
    · rw [if_neg hc]
      refine L_whoIsIn_5 hN h4 x d (p + 1) _ (by omega) ?_
      rcases h with ⟨h1, h2⟩ | ⟨q, h1, h2, h3⟩
      · refine Or.inl ⟨h1, fun q hq => ?_⟩
        rcases (by omega : q < p ∨ q = p) with h3 | rfl
        · exact h2 q h3
        · exact hc
      · exact Or.inr ⟨q, by omega, h2, h3⟩
theorem L_whoIsIn {σ : ZS} {N : Nat} (hN : σ 3 0 0 5 = nI N) (h4 : N ≤ 4) (x : Int32) : ∃ w, zcall 142 [zA 3 0 0, zI x] σ = some (zI w, σ) ∧ zWho (fun q => σ 3 0 1 (12 + 4 * q)) N x w := by
  rw [E_M_whoIsIn]
  exact L_whoIsIn_5 hN h4 x N 0 (-4) (by omega) (Or.inl ⟨rfl, fun q hq => by omega⟩)
theorem nI_ne4 {n : Nat} (h : n < 2 ^ 31) : nI n ≠ -4 := by
  intro e
  have h1 := congrArg Int32.toInt e
  rw [nI_toInt h] at h1
  have h2 : (-4 : Int32).toInt = -4 := by decide
  omega
theorem Q_fault {σ : ZS} (hi : zInv σ) : zPair (zcall 64 [zA 0 0 0]) (zcall 137 [zA 3 0 0]) σ := by
  obtain ⟨R, P, N, L, S, a1, a2, a3, a4, a5, a6, a7, a8⟩ := id hi
  exact ⟨σ 0 0 0 9, σ, σ, E_S_fault σ, by rw [E_M_fault, a7.1], hi⟩
theorem Q_torn {σ : ZS} (hi : zInv σ) : zPair (zcall 115 [zA 0 0 0]) (zcall 204 [zA 3 0 0]) σ := by
  obtain ⟨R, P, N, L, S, a1, a2, a3, a4, a5, a6, a7, a8⟩ := id hi
  exact ⟨σ 0 0 0 10, σ, σ, E_S_torn σ, by rw [E_M_torn, a7.2], hi⟩
/-- when both leave the store and answer alike -/
theorem zPair_same {a b : ZS → ZR} {σ : ZS} (hi : zInv σ) {v : Int32} (h1 : a σ = some (zI v, σ)) (h2 : b σ = some (zI v, σ)) : zPair a b σ := ⟨v, σ, σ, h1, h2, hi⟩
theorem Q_rule {σ : ZS} (hi : zInv σ) (x : Int32) : zPair (zcall 65 [zA 0 0 0, zI x]) (zcall 138 [zA 3 0 0, zI x]) σ := by
  obtain ⟨R, P, N, L, S, a1, a2, a3, a4, a5, a6, a7, a8⟩ := id hi
  obtain ⟨b1, b2, b3, b4, -⟩ := a3
  obtain ⟨v, hv⟩ : ∃ v, zcall 65 [zA 0 0 0, zI x] σ = some (zI v, σ) := by
    rw [E_S_rule]
    repeat' split
    all_goals exact ⟨_, rfl⟩
  refine zPair_same hi hv ?_
  rw [← hv, E_S_rule, E_M_rule, b1, b2, b3, b4, a2.2.2.2.1]
theorem Q_one {σ : ZS} (hi : zInv σ) (x y : Int32) : zPair (zcall 67 [zA 0 0 0, zI x, zI y]) (zcall 143 [zA 3 0 0, zI x, zI y]) σ := by
  obtain ⟨R, P, N, L, S, a1, a2, a3, a4, a5, a6, a7, a8⟩ := id hi
  have hN : N ≤ 4 := a1.2.1.2.2.2.2.1
  have n1 : σ 1 0 0 3 = nI N := a1.1.2.2.1
  have n2 : σ 3 0 0 5 = nI N := a3.2.2.1.trans n1
  have key : ∃ v, zcall 67 [zA 0 0 0, zI x, zI y] σ = some (zI v, σ) ∧ zcall 143 [zA 3 0 0, zI x, zI y] σ = some (zI v, σ) := by
    simp only [E_S_one, E_M_one, L_hasOne, L_isOne, L_in0_3, zbI_some, zif_b, n1, n2]
    rcases zin2_c x (n := N) (by omega) with h1 | ⟨p, hp, rfl, h1⟩
    · rw [h1]
      exact ⟨-1, rfl, rfl⟩
    · rw [h1]
      have p4 : p < 4 := by omega
      obtain ⟨c1, c2, c3, c4⟩ := a2.2.1 p hp
      simp only [if_true, zck_nI p4 (by decide), nI_clamp (show p < 2 ^ 31 by omega)]
      rcases zin2_u y 3 with h2 | ⟨v, hv, rfl, h2⟩
      · have hne : ∀ k : Nat, k ≤ 3 → ¬ y = nI k := by
          intro k hk e
          rw [e, show nI 3 = nI 4 - 1 from rfl, zin2_t (by omega) (by omega)] at h2
          cases h2
        rw [h2]
        refine ⟨-1, ?_, rfl⟩
        rw [if_neg (show ¬ y = 0 from hne 0 (by omega)), if_neg (show ¬ y = 1 from hne 1 (by omega)), if_neg (show ¬ y = 2 from hne 2 (by omega)), if_neg (show ¬ y = 3 from hne 3 (by omega))]
      · rw [h2]
        simp only [if_true]
        rw [zidx, zck_nI (by omega) (by decide), nI_clamp (by omega)]
        rcases (by omega : v = 0 ∨ v = 1 ∨ v = 2 ∨ v = 3) with rfl | rfl | rfl | rfl
        · exact ⟨_, rfl, by rw [Nat.add_zero, c1]⟩
        · exact ⟨_, rfl, by rw [← c2, show 12 + 4 * p + 1 = 13 + 4 * p by omega]⟩
        · exact ⟨_, rfl, by rw [← c3, show 12 + 4 * p + 2 = 14 + 4 * p by omega]⟩
        · exact ⟨_, rfl, by rw [← c4, show 12 + 4 * p + 3 = 15 + 4 * p by omega]⟩
  obtain ⟨v, k1, k2⟩ := key
  exact zPair_same hi k1 k2
/-- a bit is 0 or 1 -/
theorem zand1 (x : Int32) : x &&& 1 = 0 ∨ x &&& 1 = 1 := by
  obtain ⟨j, hj, he⟩ := pk_andE x (m := 1) 1 (by decide)
  rw [he]
  rcases (by omega : j = 0 ∨ j = 1) with rfl | rfl
  · exact Or.inl rfl
  · exact Or.inr rfl
theorem zbit_01 (x : Int32) (k : Nat) : zbit x k = 0 ∨ zbit x k = 1 := zand1 _
theorem L_isOpening {σ : ZS} (g : Nat) {i : Nat} : zcall 11 [zA 1 g 0, zI (nI i)] σ = some (zI (zbit (σ 1 g 0 5) i), σ) := by
  rw [E_House_isOpening]
  show (if zbit (σ 1 g 0 5) i = 0 then _ else _) = _
  rcases zbit_01 (σ 1 g 0 5) i with h | h
  · rw [h]; rfl
  · rw [h]; rfl
