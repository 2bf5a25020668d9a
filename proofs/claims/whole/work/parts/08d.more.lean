/-! more pairs: opens, feud, forget, end, feed, sit, swap -/
theorem zrel_o {h : Nat → Nat → Int32} {a : Nat → Int32} {N L S i o : Nat} {v w : Int32} (hN : N ≤ 4) (hL : L ≤ 8) (hi : i < L) (r : zrel h a N L S) (hv : zbit v i = w) (ho : ∀ j, j < L → j ≠ i → zbit v j = zbit (h 0 5) j) : zrel (zhu h 0 5 v) (zru a (28 + i) w) N L S := by
  obtain ⟨r1, r2, r3, r4, r5, r6⟩ := r
  refine ⟨fun t ht => ?_, fun q hq => ?_, fun j hj => ?_, ?_, ?_, fun k hk => ?_⟩
  · rw [zru_o (by omega)]
    exact r1 t ht
  · rw [zru_o (by omega), zru_o (by omega), zru_o (by omega), zru_o (by omega)]
    exact r2 q hq
  · rw [zhu_s]
    by_cases e : j = i
    · subst e
      rw [zru_s, hv]
    · rw [zru_o (by omega), r3 j hj, ho j hj e]
  · rw [zru_o (by omega)]
    exact r4
  · rw [zru_o (by omega)]
    exact r5
  · rw [zru_o (by omega), zru_o (by omega)]
    exact r6 k hk
theorem Q_opens {σ : ZS} (hi : zInv σ) (x : Int32) (b : Bool) : zPair (zcall 77 [zA 0 0 0, zI x, zI (zb b)]) (zcall 155 [zA 3 0 0, zI x, zI (zb b)]) σ := by
  obtain ⟨R, P, N, L, S, a1, a2, a3, a4, a5, a6, a7, a8⟩ := id hi
  have hN : N ≤ 4 := a1.2.1.2.2.2.2.1
  have hL : L ≤ 8 := a1.2.1.2.2.2.2.2.1
  have n1 : σ 1 0 0 4 = nI L := a1.1.2.2.2.1
  have n2 : σ 3 0 0 6 = nI L := a3.2.2.2.1.trans n1
  obtain ⟨⟨o, ho, hoe⟩, hob⟩ := a1.2.2.2.1
  have ho8 := p2_8 hL ho
  unfold zPair
  simp only [E_S_opens, E_M_opens, L_hasLine, L_isLine, zbI_some, zif_b, n1]
  rcases zin2_c x (n := L) (by omega) with h1 | ⟨i, hil, rfl, h1⟩
  · rw [h1]
    exact ⟨-1, σ, σ, rfl, by rw [n2, h1]; rfl, hi⟩
  · rw [h1]
    simp only [if_true, L_isOpening, zbI_some]
    have hone : ∀ τ : ZS, zcall 69 [zI (zbit (σ 1 0 0 5) i)] τ = some (zI (zbit (σ 1 0 0 5) i), τ) := by
      intro τ
      rcases zbit_01 (σ 1 0 0 5) i with h | h
      · rw [h]; exact L_oneIf τ false
      · rw [h]; exact L_oneIf τ true
    rw [hone, zbI_some]
    have h0i : nI i = 0 ↔ i = 0 := by
      rw [← nI_0, nI_eq (by omega) (by omega)]
    -- what the class sets
    have hset : ∀ τ : ZS, zcall 5 [zA 1 0 0, zI (nI i), zI (zb b)] τ = some (zI 0, zup τ 1 0 0 5 (if b = true ∨ i = 0 then τ 1 0 0 5 ||| ((1 : Int32) <<< (nI i &&& 31)) else τ 1 0 0 5 &&& (((1 : Int32) <<< (nI i &&& 31)) ^^^ (-1 : Int32)))) := by
      intro τ
      rw [E_House_setOpening]
      simp only [zif_b, h0i]
      cases b with
      | true => simp
      | false =>
        by_cases hz : i = 0
        · simp [hz]
        · simp [hz]
    rw [hset, zbV_some, hoe]
    have hval : (if b = true ∨ i = 0 then nI o ||| ((1 : Int32) <<< (nI i &&& 31)) else nI o &&& (((1 : Int32) <<< (nI i &&& 31)) ^^^ (-1 : Int32))) = nI (if b = true ∨ i = 0 then o ||| 1 <<< i else o &&& (255 ^^^ 1 <<< i)) := by
      split
      · exact zb2 o ho8 i (by omega)
      · exact zb3 o ho8 i (by omega)
    rw [hval]
    obtain ⟨o', ho'⟩ : ∃ o', o' = (if b = true ∨ i = 0 then o ||| 1 <<< i else o &&& (255 ^^^ 1 <<< i)) := ⟨_, rfl⟩
    rw [← ho']
    have ho'L : o' < 2 ^ L := by
      rw [ho']
      split
      · exact zor_lt ho hil
      · exact zand_lt ho
    have hbi : zbit (nI o') i = zb (decide (b = true ∨ i = 0)) := by
      rw [zb1 o' (p2_8 hL ho'L) i (by omega), ho']
      by_cases hc : b = true ∨ i = 0
      · rw [if_pos hc, tb_or]
        simp [hc, zb]
      · rw [if_neg hc, tb_and (by omega)]
        simp [hc, zb]
    have hbj : ∀ j, j < L → j ≠ i → zbit (nI o') j = zbit (σ 1 0 0 5) j := by
      intro j hj hne
      rw [hoe, zb1 o' (p2_8 hL ho'L) j (by omega), zb1 o ho8 j (by omega), ho']
      by_cases hc : b = true ∨ i = 0
      · rw [if_pos hc, tb_or]
        have : ¬ i = j := fun e => hne e.symm
        simp [this]
      · rw [if_neg hc, tb_and (by omega)]
        have : ¬ i = j := fun e => hne e.symm
        simp [this]
    refine ⟨zbit (σ 1 0 0 5) i, zup σ 1 0 0 5 (nI o'), zup (zup σ 1 0 0 5 (nI o')) 3 0 1 (28 + i) (zb (decide (b = true ∨ i = 0))), by rw [hoe], ?_, ?_⟩
    · rw [zup_o (by decide), n2, h1]
      simp only [if_true, h0i, z28, show (1 : Int32) = zb true from rfl, show (0 : Int32) = zb false from rfl]
      simp only [L_flag, zbI_some]
      have hm : (zup σ 1 0 0 5 (nI o')) 3 0 1 (28 + i) = zbit (σ 1 0 0 5) i := by
        rw [zup_o (by decide), a2.2.2.1 i hil]
      have hz' : (nI i = zb false) ↔ i = 0 := h0i
      cases b with
      | true =>
        rw [if_pos rfl, L_becomes _ (by omega), zbI_some, hm]
        simp [zb]
      | false =>
        rw [if_neg (by decide)]
        by_cases hz : i = 0
        · rw [if_pos (hz'.mpr hz), L_becomes _ (by omega), zbI_some, hm]
          simp [hz, zb]
        · rw [if_neg (fun z => hz (hz'.mp z)), L_becomes _ (by omega), zbI_some, hm]
          simp [hz, zb]
    · have e1 : (zup (zup σ 1 0 0 5 (nI o')) 3 0 1 (28 + i) (zb (decide (b = true ∨ i = 0)))) 1 0 = zhu (σ 1 0) 0 5 (nI o') := by
        rw [← zup_h]
        funext j
        exact zup_o (by omega)
      refine zInv_h a1 a3 a4 a5 a6 a7 a8 (zfrm_up (zfrm_up zfrm_r (Or.inl ⟨rfl, rfl⟩)) (Or.inr ⟨rfl, rfl, rfl⟩)) (S' := S) ?_ ?_ ?_ ?_
      · rw [e1]
        obtain ⟨w1, w2, w3, w4, w5, w6, w7, w8, w9, w10⟩ := a1
        refine ⟨w1, w2, w3, ⟨⟨o', ho'L, zhu_s⟩, fun hl => ?_⟩, w5, w6, w7, w8, w9, w10⟩
        rw [zhu_s]
        by_cases hz : i = 0
        · subst hz
          rw [hbi]
          simp [zb]
        · rw [hbj 0 hl (by omega)]
          exact hob hl
      · rw [e1, zup_m, zup_o (by decide)]
        exact zrel_o (o := o) hN hL hil a2 hbi hbj
      · intro i _
        rw [zup_o (by decide), zup_o (by decide)]
      · intro k hk
        rw [zup_m, zru_o (by omega), zup_o (by decide)]
theorem zb2f : ∀ o, o < 16 → ∀ i, i < 4 → nI o ||| ((1 : Int32) <<< (nI i &&& 31)) = nI (o ||| 1 <<< i) := by decide +kernel
theorem zb3f : ∀ o, o < 16 → ∀ i, i < 4 → nI o &&& (((1 : Int32) <<< (nI i &&& 31)) ^^^ (-1 : Int32)) = nI (o &&& (255 ^^^ 1 <<< i)) := by decide +kernel
theorem L_isFeud {σ : ZS} (g : Nat) {p q : Nat} (hp : p < 4) : zcall 14 [zA 1 g 0, zI (nI p), zI (nI q)] σ = some (zI (zbit (σ 1 g 7 p) q), σ) := by
  rw [E_House_isFeud, zck_nI hp (by decide), nI_clamp (by omega)]
  show (if zbit (σ 1 g 7 p) q = 0 then _ else _) = _
  rcases zbit_01 (σ 1 g 7 p) q with h | h
  · rw [h]; rfl
  · rw [h]; rfl
theorem L_oneIf_bit (τ : ZS) (x : Int32) (k : Nat) : zcall 69 [zI (zbit x k)] τ = some (zI (zbit x k), τ) := by
  rcases zbit_01 x k with h | h
  · rw [h]; exact L_oneIf τ false
  · rw [h]; exact L_oneIf τ true
theorem Q_feud {σ : ZS} (hi : zInv σ) (x y : Int32) (b : Bool) : zPair (zcall 75 [zA 0 0 0, zI x, zI y, zI (zb b)]) (zcall 153 [zA 3 0 0, zI x, zI y, zI (zb b)]) σ := by
  obtain ⟨R, P, N, L, S, a1, a2, a3, a4, a5, a6, a7, a8⟩ := id hi
  have hN : N ≤ 4 := a1.2.1.2.2.2.2.1
  have hL : L ≤ 8 := a1.2.1.2.2.2.2.2.1
  have n1 : σ 1 0 0 3 = nI N := a1.1.2.2.1
  have n2 : σ 3 0 0 5 = nI N := a3.2.2.1.trans n1
  unfold zPair
  simp only [E_S_feud, E_M_feud, L_hasOne, L_isOne, zbI_some, zif_b, n1]
  rcases zin2_c x (n := N) (by omega) with h1 | ⟨p, hp, rfl, h1⟩
  · rw [h1]
    exact ⟨-1, σ, σ, rfl, by rw [n2, h1]; rfl, hi⟩
  · rw [h1]
    rcases zin2_c y (n := N) (by omega) with h2 | ⟨q, hq, rfl, h2⟩
    · rw [h2]
      exact ⟨-1, σ, σ, rfl, by rw [n2, h1, h2]; rfl, hi⟩
    · rw [h2]
      have p4 : p < 4 := by omega
      simp only [if_true, L_isFeud 0 p4, zbI_some, L_oneIf_bit]
      obtain ⟨-, -, ⟨o, ho, hoe⟩⟩ := a1.2.2.2.2.2.2.2.1 p hp
      have hset : ∀ τ : ZS, zcall 15 [zA 1 0 0, zI (nI p), zI (nI q), zI (zb b)] τ = some (zI 0, zup τ 1 0 7 p (if b = true then τ 1 0 7 p ||| ((1 : Int32) <<< (nI q &&& 31)) else τ 1 0 7 p &&& (((1 : Int32) <<< (nI q &&& 31)) ^^^ (-1 : Int32)))) := by
        intro τ
        rw [E_House_setFeud]
        simp only [zif_b, zck_nI p4 (by decide), nI_clamp (show p < 2 ^ 31 by omega)]
        cases b <;> rfl
      rw [hset, zbV_some]
      obtain ⟨v, hv⟩ : ∃ v, v = (if b = true then σ 1 0 7 p ||| ((1 : Int32) <<< (nI q &&& 31)) else σ 1 0 7 p &&& (((1 : Int32) <<< (nI q &&& 31)) ^^^ (-1 : Int32))) := ⟨_, rfl⟩
      rw [← hv]
      obtain ⟨f, hf, hfe⟩ : ∃ f, f < 16 ∧ v = nI f := by
        rw [hv, hoe]
        cases b with
        | true => exact ⟨o ||| 1 <<< q, zor_lt (L := 4) ho (by omega), zb2f o ho q (by omega)⟩
        | false => exact ⟨o &&& (255 ^^^ 1 <<< q), zand_lt (L := 4) ho, zb3f o ho q (by omega)⟩
      refine ⟨zbit (σ 1 0 7 p) q, zup σ 1 0 7 p v, zup (zup σ 1 0 7 p v) 3 0 1 (12 + 4 * p + 3) v, rfl, ?_, ?_⟩
      · have hm : (zup σ 1 0 7 p v) 3 0 1 (12 + 4 * p + 3) = σ 1 0 7 p := by
          rw [zup_o (by decide), show 12 + 4 * p + 3 = 15 + 4 * p by omega, (a2.2.1 p hp).2.2.2]
        rw [zup_o (by decide), n2, h1, h2]
        simp only [if_true, show (3 : Int32) = nI 3 from rfl, zidx, zck_nI (show 12 + 4 * p + 3 < 162 by omega) (by decide), nI_clamp (show 12 + 4 * p + 3 < 2 ^ 31 by omega), hm]
        rw [hv]
        cases b <;> rfl
      · have e1 : (zup (zup σ 1 0 7 p v) 3 0 1 (12 + 4 * p + 3) v) 1 0 = zhu (σ 1 0) 7 p v := by
          rw [← zup_h]
          funext j
          exact zup_o (by omega)
        refine zInv_h a1 a3 a4 a5 a6 a7 a8 (zfrm_up (zfrm_up zfrm_r (Or.inl ⟨rfl, rfl⟩)) (Or.inr ⟨rfl, rfl, rfl⟩)) (S' := S) ?_ ?_ ?_ ?_
        · rw [e1, hfe]
          exact zWF_f a1 hf
        · rw [e1, zup_m, zup_o (by decide)]
          exact zrel_p (d := 3) (by omega) hp hN a2 hL
        · intro i _
          rw [zup_o (by decide), zup_o (by decide)]
        · intro k hk
          rw [zup_m, zru_o (by omega), zup_o (by decide)]
/-- what is SEEN is cut short -/
theorem Q_forget {σ : ZS} (hi : zInv σ) (x : Int32) : zPair (zcall 104 [zA 0 0 0, zI x]) (zcall 194 [zA 3 0 0, zI x]) σ := by
  obtain ⟨R, P, N, L, S, a1, a2, a3, a4, a5, a6, a7, a8⟩ := id hi
  have hN : N ≤ 4 := a1.2.1.2.2.2.2.1
  have hL : L ≤ 8 := a1.2.1.2.2.2.2.2.1
  have hS : S ≤ 8 := a1.2.1.2.2.2.2.2.2
  have n1 : σ 1 0 0 6 = nI S := a1.1.2.2.2.2
  have n2 : σ 3 0 1 37 = nI S := a2.2.2.2.2.1.trans n1
  unfold zPair
  simp only [E_S_forget, E_M_forget, L_is0, L_in0, zbI_some, zif_b, n1]
  rcases zin2_u x S (by omega) with h2 | ⟨v, hv, rfl, h2⟩
  · rw [h2]
    exact ⟨-1, σ, σ, rfl, by rw [n2, h2]; rfl, hi⟩
  · rw [h2]
    refine ⟨nI S, zup σ 1 0 0 6 (nI v), zup (zup σ 1 0 0 6 (nI v)) 3 0 1 37 (nI v), rfl, ?_, ?_⟩
    · rw [zup_o (by decide), n2, h2]
      simp only [if_true]
      rw [show (37 : Int32) = nI 37 from rfl, L_becomes _ (by omega), zbI_some, zup_o (by decide), n2]
    · have e1 : (zup (zup σ 1 0 0 6 (nI v)) 3 0 1 37 (nI v)) 1 0 = zhu (σ 1 0) 0 6 (nI v) := by
        rw [← zup_h]
        funext j
        exact zup_o (by omega)
      refine zInv_h a1 a3 a4 a5 a6 a7 a8 (zfrm_up (zfrm_up zfrm_r (Or.inl ⟨rfl, rfl⟩)) (Or.inr ⟨rfl, rfl, rfl⟩)) (S' := v) ?_ ?_ ?_ ?_
      · rw [e1]
        obtain ⟨w1, w2, w3, w4, w5, w6, w7, w8, w9, w10⟩ := a1
        exact ⟨⟨w1.1, w1.2.1, w1.2.2.1, w1.2.2.2.1, zhu_s⟩, ⟨w2.1, w2.2.1, w2.2.2.1, w2.2.2.2.1, w2.2.2.2.2.1, w2.2.2.2.2.2.1, by omega⟩, w3, w4, w5, w6, w7, w8, w9, fun k hk => w10 k (by omega)⟩
      · rw [e1, zup_m, zup_o (by decide)]
        obtain ⟨r1, r2, r3, r4, r5, r6⟩ := a2
        refine ⟨fun t ht => ?_, fun q hq => ?_, fun i hi => ?_, ?_, ?_, fun k hk => ?_⟩
        · rw [zru_o (by omega)]
          exact r1 t ht
        · rw [zru_o (by omega), zru_o (by omega), zru_o (by omega), zru_o (by omega)]
          exact r2 q hq
        · rw [zru_o (by omega)]
          exact r3 i hi
        · rw [zru_o (by omega)]
          exact r4
        · rw [zru_s, zhu_s]
        · rw [zru_o (by omega), zru_o (by omega)]
          exact r6 k (by omega)
      · intro i _
        rw [zup_o (by decide), zup_o (by decide)]
      · intro k hk
        rw [zup_m, zru_o (by omega), zup_o (by decide)]
