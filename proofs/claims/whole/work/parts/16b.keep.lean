/-! keep, back: images -/
/-- n cells of the reference's row go from one place to another -/
def zmv (σ : ZS) (to fr n : Nat) : ZS := fun c g j k => if c = 3 ∧ g = 0 ∧ j = 1 ∧ to ≤ k ∧ k < to + n then σ 3 0 1 (fr + (k - to)) else σ c g j k
theorem zmv_0 {σ : ZS} {to fr : Nat} : zmv σ to fr 0 = σ := by
  funext c g j k
  unfold zmv
  rw [if_neg (by omega)]
theorem zmv_f {σ : ZS} {to fr n : Nat} : zfrm (fun c g j => c = 3 ∧ g = 0 ∧ j = 1) σ (zmv σ to fr n) := by
  intro c g j hn
  funext k
  unfold zmv
  exact if_neg (fun z => hn ⟨z.1, z.2.1, z.2.2.1⟩)
theorem zmv_1 {σ : ZS} {to fr n : Nat} (hd : fr + 54 ≤ to ∨ to + 54 ≤ fr) (hn : n < 54) : zup (zmv σ to fr n) 3 0 1 (to + n) (zmv σ to fr n 3 0 1 (fr + n)) = zmv σ to fr (n + 1) := by
  have e : zmv σ to fr n 3 0 1 (fr + n) = σ 3 0 1 (fr + n) := by
    unfold zmv
    rw [if_neg (by omega)]
  rw [e]
  funext c g j k
  unfold zup zmv
  by_cases h : c = 3 ∧ j = 1 ∧ g = 0 ∧ k = to + n
  · obtain ⟨rfl, rfl, rfl, rfl⟩ := h
    rw [if_pos ⟨rfl, rfl, rfl, rfl⟩, if_pos ⟨rfl, rfl, rfl, by omega, by omega⟩, show fr + (to + n - to) = fr + n by omega]
  · rw [if_neg h]
    by_cases h2 : c = 3 ∧ g = 0 ∧ j = 1 ∧ to ≤ k ∧ k < to + n
    · rw [if_pos h2, if_pos ⟨h2.1, h2.2.1, h2.2.2.1, h2.2.2.2.1, by omega⟩]
    · rw [if_neg h2, if_neg]
      rintro ⟨b1, b2, b3, b4, b5⟩
      have : ¬ k = to + n := fun z => h ⟨b1, b3, b2, z⟩
      exact h2 ⟨b1, b2, b3, b4, by omega⟩
theorem L_copies_2 {σ : ZS} {to fr : Nat} (h1 : to ≤ 108) (h2 : fr ≤ 108) (hd : fr + 54 ≤ to ∨ to + 54 ≤ fr) : ∀ d n : Nat, n + d = 54 → zev 198 2 [(0, zA 3 0 0), (1, zI (nI to)), (2, zI (nI fr)), (3, zI (nI n))] [] (zmv σ to fr n) = some (zI 0, zmv σ to fr 54)
  | 0, n, h => by
    obtain rfl : n = 54 := by omega
    rw [E_M_copies_2, if_neg (show ¬ nI 54 < 54 by decide)]
  | d + 1, n, h => by
    rw [E_M_copies_2, if_pos (show nI n < 54 from nI_lt (b := 54) (by omega) (by decide)), nI_add, nI_add, zck_nI (by omega) (by decide), zck_nI (by omega) (by decide), nI_clamp (by omega), nI_clamp (by omega), nI_1]
    dsimp only
    rw [zmv_1 hd (by omega)]
    exact L_copies_2 h1 h2 hd d (n + 1) (by omega)
theorem L_copies {σ : ZS} {to fr : Nat} (h1 : to ≤ 108) (h2 : fr ≤ 108) (hd : fr + 54 ≤ to ∨ to + 54 ≤ fr) : zcall 198 [zA 3 0 0, zI (nI to), zI (nI fr)] σ = some (zI 0, zmv σ to fr 54) := by
  rw [E_M_copies]
  have := L_copies_2 (σ := σ) h1 h2 hd 54 0 (by omega)
  rw [zmv_0] at this
  exact this
theorem zrel_a {h : Nat → Nat → Int32} {a b : Nat → Int32} {N L S : Nat} (hN : N ≤ 4) (hL : L ≤ 8) (hS : S ≤ 8) (e : ∀ k, k < 54 → b k = a k) (r : zrel h a N L S) : zrel h b N L S := by
  obtain ⟨r1, r2, r3, r4, r5, r6⟩ := r
  refine ⟨fun s hs => ?_, fun p hp => ?_, fun i hi => ?_, ?_, ?_, fun i hi => ?_⟩
  · rw [e s (by omega)]; exact r1 s hs
  · rw [e _ (by omega), e _ (by omega), e _ (by omega), e _ (by omega)]; exact r2 p hp
  · rw [e _ (by omega)]; exact r3 i hi
  · rw [e _ (by omega)]; exact r4
  · rw [e _ (by omega)]; exact r5
  · rw [e _ (by omega), e _ (by omega)]; exact r6 i hi
theorem zI54 (k : Nat) : (54 : Int32) * (nI k + 1) = nI (54 * (k + 1)) := by
  rw [nI_1, show (54 : Int32) = nI 54 from rfl, pk_mul]
theorem L_bool {x : Int32} (h : x = 0 ∨ x = 1) : ∃ b, x = zb b := by
  rcases h with h | h
  · exact ⟨false, h⟩
  · exact ⟨true, h⟩
theorem Q_keep {σ : ZS} (hi : zInv σ) (x : Int32) : zPair (zcall 109 [zA 0 0 0, zI x]) (zcall 197 [zA 3 0 0, zI x]) σ := by
  obtain ⟨R, P, N, L, S, a1, a2, a3, a4, a5, a6, a7, a8⟩ := id hi
  have hN : N ≤ 4 := a1.2.1.2.2.2.2.1
  have hL : L ≤ 8 := a1.2.1.2.2.2.2.2.1
  have hS : S ≤ 8 := a1.2.1.2.2.2.2.2.2
  unfold zPair
  simp only [E_S_keep, E_M_keep, L_is0_1, L_in0_1, zbI_some, zif_b]
  rcases zin2_u x 1 with h1 | ⟨k, hk, rfl, h1⟩
  · rw [h1]
    exact ⟨-1, σ, σ, rfl, rfl, hi⟩
  · rw [h1]
    have k2 : k < 2 := by omega
    obtain ⟨b1, b2, b3⟩ := a4 k k2
    obtain ⟨b, hb⟩ := L_bool b2
    obtain ⟨τ, t1, t2, t3⟩ := L_copy (σ := σ) (g := 3 + k) (g2 := 0) (by omega)
    have m3 : zup τ 0 0 2 k (1 &&& 1) 3 0 3 k = zb b := by
      rw [zup_o (by decide), t2 3 0 3 (by simp [zHG]), b1, hb]
    refine ⟨zb b, zup τ 0 0 2 k (1 &&& 1), zmv (zup (zup τ 0 0 2 k (1 &&& 1)) 3 0 3 k (1 &&& 1)) (54 * (k + 1)) 0 54, ?_, ?_, ?_⟩
    · rw [if_pos rfl, zck_nI k2 (by decide), nI_clamp (by omega), hb, L_oneIf, zbI_some, zck_nI k2 (by decide), t1, zbV_some, zck_nI k2 (by decide)]
    · rw [if_pos rfl, zck_nI k2 (by decide), nI_clamp (by omega), m3, L_flag, zbI_some, zck_nI k2 (by decide)]
      rw [zI54, show (0 : Int32) = nI 0 from rfl, L_copies (by omega) (by omega) (by omega), zbV_some]
    · have e1 : ∀ c g j, ¬ (c = 3 ∧ g = 0 ∧ j = 1) → ¬ (c = 3 ∧ g = 0 ∧ j = 3) → ¬ (c = 0 ∧ g = 0 ∧ j = 2) → ¬ (c = 1 ∧ g = 3 + k) → (zmv (zup (zup τ 0 0 2 k (1 &&& 1)) 3 0 3 k (1 &&& 1)) (54 * (k + 1)) 0 54) c g j = σ c g j := by
        intro c g j q1 q2 q3 q4
        rw [zmv_f c g j q1, zup_o (by omega), zup_o (by omega), t2 c g j q4]
      have eS : ∀ i, (zmv (zup (zup τ 0 0 2 k (1 &&& 1)) 3 0 3 k (1 &&& 1)) (54 * (k + 1)) 0 54) 3 0 1 i = if 54 * (k + 1) ≤ i ∧ i < 54 * (k + 1) + 54 then σ 3 0 1 (i - 54 * (k + 1)) else σ 3 0 1 i := by
        intro i
        unfold zmv
        rw [zup_o (by decide), zup_o (by decide), t2 3 0 1 (by simp [zHG])]
        by_cases hc : 54 * (k + 1) ≤ i ∧ i < 54 * (k + 1) + 54
        · rw [if_pos hc, if_pos ⟨rfl, rfl, rfl, hc⟩, Nat.zero_add]
        · rw [if_neg hc, if_neg (fun z => hc z.2.2.2)]
      have e10 : (zmv (zup (zup τ 0 0 2 k (1 &&& 1)) 3 0 3 k (1 &&& 1)) (54 * (k + 1)) 0 54) 1 0 = σ 1 0 := funext fun j => e1 1 0 j (by omega) (by omega) (by omega) (by omega)
      have eK : (zmv (zup (zup τ 0 0 2 k (1 &&& 1)) 3 0 3 k (1 &&& 1)) (54 * (k + 1)) 0 54) 1 (3 + k) = τ 1 (3 + k) := by
        funext j
        rw [zmv_f 1 (3 + k) j (by omega), zup_o (by omega), zup_o (by omega)]
      have e33 : ∀ q, (zmv (zup (zup τ 0 0 2 k (1 &&& 1)) 3 0 3 k (1 &&& 1)) (54 * (k + 1)) 0 54) 3 0 3 q = if q = k then 1 else σ 3 0 3 q := by
        intro q
        rw [zmv_f 3 0 3 (by decide), zup_m, zup_o (by decide), t2 3 0 3 (by simp [zHG])]
        rfl
      have e02 : ∀ q, (zmv (zup (zup τ 0 0 2 k (1 &&& 1)) 3 0 3 k (1 &&& 1)) (54 * (k + 1)) 0 54) 0 0 2 q = if q = k then 1 else σ 0 0 2 q := by
        intro q
        rw [zmv_f 0 0 2 (by decide), zup_o (by decide), zup_m, t2 0 0 2 (by simp [zHG])]
        rfl
      refine ⟨R, P, N, L, S, ?_, ?_, ?_, ?_, ?_, ?_, ?_, ?_⟩
      · rw [e10]; exact a1
      · rw [e10]
        exact zrel_a hN hL hS (fun i hi => by rw [eS, if_neg (by omega)]) a2
      · unfold zMM
        rw [e10, e1 3 0 0 (by decide) (by decide) (by decide) (by omega), e1 3 0 4 (by decide) (by decide) (by decide) (by omega)]
        exact a3
      · intro q hq
        rw [e33, e02, e10]
        by_cases hqk : q = k
        · subst hqk
          rw [if_pos rfl, if_pos rfl, eK]
          have h8 : ∀ i, i < L → τ 1 (3 + q) 8 i = σ 1 0 8 i := fun i hi => (t3.2.2.2 i (by omega)).1
          refine ⟨rfl, Or.inr rfl, fun _ => ⟨⟨S, zWF_IR t3 a1, ?_⟩, h8⟩⟩
          refine zrel_a hN hL hS (fun i hi => ?_) (zrel_IR hN hS t3 a2)
          rw [eS, if_pos (by omega), show 54 * (q + 1) + i - 54 * (q + 1) = i by omega]
        · rw [if_neg hqk, if_neg hqk, show (zmv (zup (zup τ 0 0 2 k (1 &&& 1)) 3 0 3 k (1 &&& 1)) (54 * (k + 1)) 0 54) 1 (3 + q) = σ 1 (3 + q) from funext fun j => e1 1 (3 + q) j (by omega) (by omega) (by omega) (by omega)]
          obtain ⟨c1, c2, c3⟩ := a4 q hq
          refine ⟨c1, c2, fun z => ?_⟩
          obtain ⟨⟨S2, d1, d2⟩, d3⟩ := c3 z
          refine ⟨⟨S2, d1, zrel_a hN hL d1.2.1.2.2.2.2.2.2 (fun i hi => ?_) d2⟩, d3⟩
          rw [eS, if_neg (by omega)]
      · intro q hq
        rw [e1 2 q 0 (by omega) (by omega) (by omega) (by omega), e1 2 q 1 (by omega) (by omega) (by omega) (by omega), e1 3 0 9 (by omega) (by omega) (by omega) (by omega), e1 3 0 10 (by omega) (by omega) (by omega) (by omega), e1 3 0 11 (by omega) (by omega) (by omega) (by omega)]
        exact a5 q hq
      · unfold zTp
        rw [e1 0 0 5 (by omega) (by omega) (by omega) (by omega), e1 3 0 0 (by omega) (by omega) (by omega) (by omega), e1 0 0 6 (by omega) (by omega) (by omega) (by omega), e1 3 0 7 (by omega) (by omega) (by omega) (by omega)]
        exact a6
      · unfold zFa
        rw [e1 3 0 0 (by omega) (by omega) (by omega) (by omega), e1 0 0 0 (by omega) (by omega) (by omega) (by omega)]
        exact a7
      · unfold zKo
        have e5 : ∀ g j, (zmv (zup (zup τ 0 0 2 k (1 &&& 1)) 3 0 3 k (1 &&& 1)) (54 * (k + 1)) 0 54) 5 g j = σ 5 g j := fun g j => e1 5 g j (by omega) (by omega) (by omega) (by omega)
        have e6 : ∀ g j, (zmv (zup (zup τ 0 0 2 k (1 &&& 1)) 3 0 3 k (1 &&& 1)) (54 * (k + 1)) 0 54) 6 g j = σ 6 g j := fun g j => e1 6 g j (by omega) (by omega) (by omega) (by omega)
        simp only [e5, e6]
        exact a8
theorem Q_back {σ : ZS} (hi : zInv σ) (x : Int32) : zPair (zcall 110 [zA 0 0 0, zI x]) (zcall 199 [zA 3 0 0, zI x]) σ := by
  obtain ⟨R, P, N, L, S, a1, a2, a3, a4, a5, a6, a7, a8⟩ := id hi
  have hN : N ≤ 4 := a1.2.1.2.2.2.2.1
  have hL : L ≤ 8 := a1.2.1.2.2.2.2.2.1
  unfold zPair
  simp only [E_S_back, E_M_back, L_is0_1, L_in0_1, zbI_some, zif_b]
  rcases zin2_u x 1 with h1 | ⟨k, hk, rfl, h1⟩
  · rw [h1]
    exact ⟨-1, σ, σ, rfl, rfl, hi⟩
  · rw [h1]
    have k2 : k < 2 := by omega
    obtain ⟨b1, b2, b3⟩ := a4 k k2
    by_cases hz : σ 0 0 2 k = 0
    · refine ⟨-2, σ, σ, ?_, ?_, hi⟩
      · rw [if_pos rfl, zck_nI k2 (by decide), nI_clamp (by omega), if_pos hz]
      · rw [if_pos rfl, zck_nI k2 (by decide), nI_clamp (by omega), b1, if_pos hz]
    · obtain ⟨⟨S2, d1, d2⟩, d3⟩ := b3 (b2.resolve_left hz)
      have hS2 := d1.2.1.2.2.2.2.2.2
      obtain ⟨σ1, t1, t2, t3⟩ := L_copy (σ := σ) (g := 0) (g2 := 3 + k) (by omega)
      have w1 : zWF (σ1 1 0) R P N L S2 := zWF_IR t3 d1
      obtain ⟨τ, u1, u2, -⟩ := L_nowC w1
      -- the reference's own copy
      have hcp := L_copies (σ := τ) (to := 0) (fr := 54 * (k + 1)) (by omega) (by omega) (by omega)
      have eS : ∀ i, i < 54 → zmv τ 0 (54 * (k + 1)) 54 3 0 1 i = σ 3 0 1 (54 * (k + 1) + i) := by
        intro i hi
        unfold zmv
        rw [if_pos (by omega), Nat.sub_zero, u2 3 0 1 (by simp [zScr, zScC]), t2 3 0 1 (by simp [zHG])]
      have eS2 : ∀ i, 54 ≤ i → zmv τ 0 (54 * (k + 1)) 54 3 0 1 i = σ 3 0 1 i := by
        intro i hi
        unfold zmv
        rw [if_neg (by omega), u2 3 0 1 (by simp [zScr, zScC]), t2 3 0 1 (by simp [zHG])]
      have e10 : zmv τ 0 (54 * (k + 1)) 54 1 0 = σ1 1 0 := by
        rw [← zh_f u2]
        exact funext fun j => zmv_f 1 0 j (by omega)
      -- without what is left behind
      have hi1 : zInv (zmv σ1 0 (54 * (k + 1)) 54) := by
        refine zInv_h a1 a3 a4 a5 a6 a7 a8 (zfrm_t (zfrm_m (fun c g j h => Or.inl h) t2) (zfrm_m (fun c g j h => Or.inr h) zmv_f)) (S' := S2) ?_ ?_ ?_ ?_
        · rw [show zmv σ1 0 (54 * (k + 1)) 54 1 0 = σ1 1 0 from funext fun j => zmv_f 1 0 j (by omega)]
          exact w1
        · rw [show zmv σ1 0 (54 * (k + 1)) 54 1 0 = σ1 1 0 from funext fun j => zmv_f 1 0 j (by omega)]
          refine zrel_a hN hL hS2 (fun i hi => ?_) (zrel_IR hN hS2 t3 d2)
          unfold zmv
          rw [if_pos (by omega), Nat.sub_zero, t2 3 0 1 (by simp [zHG])]
        · intro i hi
          rw [zmv_f 1 0 8 (by omega), (t3.2.2.2 i (by omega)).1, d3 i hi]
        · intro i hi
          unfold zmv
          rw [if_neg (by omega), t2 3 0 1 (by simp [zHG])]
      have fr : zfrm zScr (zmv σ1 0 (54 * (k + 1)) 54) (zmv τ 0 (54 * (k + 1)) 54) := by
        intro c g j hn
        by_cases h31 : c = 3 ∧ g = 0 ∧ j = 1
        · obtain ⟨rfl, rfl, rfl⟩ := h31
          funext i
          unfold zmv
          rw [u2 3 0 1 hn]
        · rw [zmv_f c g j h31, zmv_f c g j h31, u2 c g j hn]
      have hi2 := zInv_q fr hi1
      have m0 : zmv τ 0 (54 * (k + 1)) 54 3 0 0 = σ 3 0 0 := by
        rw [zmv_f 3 0 0 (by omega), u2 3 0 0 (by simp [zScr, zScC]), t2 3 0 0 (by simp [zHG])]
      have m4 : zmv τ 0 (54 * (k + 1)) 54 3 0 4 = σ 3 0 4 := by
        rw [zmv_f 3 0 4 (by omega), u2 3 0 4 (by simp [zScr, zScC]), t2 3 0 4 (by simp [zHG])]
      have c1 : zCx (zmv τ 0 (54 * (k + 1)) 54) (σ1 1 0) R P N L S2 := by
        obtain ⟨-, -, q3, q4, q5, q6, q7⟩ := zCx_of a1 a2 a3
        refine ⟨w1, zrel_a hN hL hS2 (fun i hi => ?_) (zrel_IR hN hS2 t3 d2), ?_, ?_, ?_, ?_, fun i hi => ?_⟩
        · rw [eS i hi]
        · rw [m0]; exact q3
        · rw [m0]; exact q4
        · rw [m0]; exact q5
        · rw [m0]; exact q6
        · rw [m4, q7 i hi, (t3.2.2.2 i (by omega)).1, d3 i hi]
      obtain ⟨υ, v1, v2, -⟩ := L_nowM c1
      refine ⟨_, τ, υ, Eq.trans ?_ u1, ?_, zInv_q v2 hi2⟩
      · rw [if_pos rfl, zck_nI k2 (by decide), nI_clamp (by omega), if_neg hz, zck_nI k2 (by decide), t1, zbV_some, u1, zbI_some]
      · have e33 : τ 3 0 3 k = σ 0 0 2 k := by rw [u2 3 0 3 (by simp [zScr, zScC]), t2 3 0 3 (by simp [zHG]), b1]
        rw [if_pos rfl, zck_nI k2 (by decide), nI_clamp (by omega), e33, if_neg hz, zI54, show zcall 198 [zA 3 0 0, zI 0, zI (nI (54 * (k + 1)))] τ = _ from hcp, zbV_some, v1, zbI_some]
