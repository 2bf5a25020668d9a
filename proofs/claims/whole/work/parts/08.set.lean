/-! PAIRS OF CALLS: what is told and set -/
def zPair (a b : ZS → ZR) (σ : ZS) : Prop := ∃ v σ1 σ2, a σ = some (zI v, σ1) ∧ b σ1 = some (zI v, σ2) ∧ zInv σ2
def zPairJ (a b : ZS → ZR) (σ : ZS) : Prop := ∃ v σ1 σ2, a σ = some (zJ v, σ1) ∧ b σ1 = some (zJ v, σ2) ∧ zInv σ2
def zhu (h : Nat → Nat → Int32) (j k : Nat) (v : Int32) : Nat → Nat → Int32 := fun j' k' => if j' = j ∧ k' = k then v else h j' k'
def zru (a : Nat → Int32) (k : Nat) (v : Int32) : Nat → Int32 := fun k' => if k' = k then v else a k'
theorem zhu_s {h : Nat → Nat → Int32} {j k : Nat} {v : Int32} : zhu h j k v j k = v := by simp [zhu]
theorem zhu_o {h : Nat → Nat → Int32} {j k k' : Nat} {v : Int32} (hk : k' ≠ k) : zhu h j k v j k' = h j k' := by simp [zhu, hk]
theorem zru_s {a : Nat → Int32} {k : Nat} {v : Int32} : zru a k v k = v := by simp [zru]
theorem zru_o {a : Nat → Int32} {k k' : Nat} {v : Int32} (hk : k' ≠ k) : zru a k v k' = a k' := by simp [zru, hk]
theorem zup_h {σ : ZS} {g j k : Nat} {v : Int32} : zup σ 1 g j k v 1 g = zhu (σ 1 g) j k v := by
  funext j' k'
  simp [zup, zhu]
theorem zup_m {σ : ZS} {c g j k : Nat} {v : Int32} : zup σ c g j k v c g j = zru (σ c g j) k v := by
  funext k'
  simp [zup, zru]
def zHX (c g j : Nat) : Prop := (c = 1 ∧ g = 0) ∨ (c = 3 ∧ g = 0 ∧ j = 1)
theorem zInv_h {σ τ : ZS} {R P N L S S' : Nat} (a1 : zWF (σ 1 0) R P N L S) (a3 : zMM σ L) (a4 : zIm σ R P N L) (a5 : zSh σ) (a6 : zTp σ) (a7 : zFa σ) (a8 : zKo σ) (hf : zfrm zHX σ τ)
    (h1 : zWF (τ 1 0) R P N L S') (h2 : zrel (τ 1 0) (τ 3 0 1) N L S') (h3 : ∀ i, i < L → τ 1 0 8 i = σ 1 0 8 i) (h4 : ∀ k, 54 ≤ k → τ 3 0 1 k = σ 3 0 1 k) : zInv τ := by
  have e3 : τ 1 3 = σ 1 3 := funext fun j => hf 1 3 j (by simp [zHX])
  have e4 : τ 1 4 = σ 1 4 := funext fun j => hf 1 4 j (by simp [zHX])
  have e2 : τ 2 = σ 2 := funext fun g => funext fun j => hf 2 g j (by simp [zHX])
  have c0 : τ 0 = σ 0 := funext fun g => funext fun j => hf 0 g j (by simp [zHX])
  have m0 : τ 3 0 0 = σ 3 0 0 := hf 3 0 0 (by simp [zHX])
  have m3 : τ 3 0 3 = σ 3 0 3 := hf 3 0 3 (by simp [zHX])
  have m4 : τ 3 0 4 = σ 3 0 4 := hf 3 0 4 (by simp [zHX])
  have m7 : τ 3 0 7 = σ 3 0 7 := hf 3 0 7 (by simp [zHX])
  have m9 : τ 3 0 9 = σ 3 0 9 := hf 3 0 9 (by simp [zHX])
  have m10 : τ 3 0 10 = σ 3 0 10 := hf 3 0 10 (by simp [zHX])
  have m11 : τ 3 0 11 = σ 3 0 11 := hf 3 0 11 (by simp [zHX])
  have k5 : τ 5 = σ 5 := funext fun g => funext fun j => hf 5 g j (by simp [zHX])
  have k6 : τ 6 = σ 6 := funext fun g => funext fun j => hf 6 g j (by simp [zHX])
  refine ⟨R, P, N, L, S', h1, h2, ?_, ?_, ?_, ?_, ?_, ?_⟩
  · obtain ⟨b1, b2, b3, b4, b5⟩ := a3
    obtain ⟨⟨r1, r2, r3, r4, -⟩, -⟩ := a1
    obtain ⟨⟨q1, q2, q3, q4, -⟩, -⟩ := h1
    unfold zMM
    rw [m0, m4]
    exact ⟨by rw [b1, r1, q1], by rw [b2, r2, q2], by rw [b3, r3, q3], by rw [b4, r4, q4], fun i hi => by rw [b5 i hi, h3 i hi]⟩
  · intro k hk
    have hk2 : τ 1 (3 + k) = σ 1 (3 + k) := by
      rcases (by omega : k = 0 ∨ k = 1) with rfl | rfl
      · exact e3
      · exact e4
    obtain ⟨b1, b2, b3⟩ := a4 k hk
    rw [m3, c0, hk2]
    refine ⟨b1, b2, fun hz => ?_⟩
    obtain ⟨⟨S2, w1, w2⟩, w3⟩ := b3 hz
    refine ⟨⟨S2, w1, ?_⟩, fun i hi => by rw [h3 i hi]; exact w3 i hi⟩
    have he : (fun j => τ 3 0 1 (54 * (k + 1) + j)) = fun j => σ 3 0 1 (54 * (k + 1) + j) := funext fun j => h4 _ (by omega)
    rw [he]
    exact w2
  · intro k hk
    rw [e2, m9, m10, m11]
    exact a5 k hk
  · unfold zTp
    rw [c0, m0, m7]
    exact a6
  · unfold zFa
    rw [m0, c0]
    exact a7
  · unfold zKo
    rw [k5, k6]
    exact a8
/-- a row of PEOPLE is set: 0 SEAT, 1 VOICE, 2 COMES, 3 FEUDS -/
theorem zrel_p {h : Nat → Nat → Int32} {a : Nat → Int32} {N L S d p : Nat} {v : Int32} (hd : d < 4) (hp : p < N) (hN : N ≤ 4) (r : zrel h a N L S) (hL : L ≤ 8) : zrel (zhu h (4 + d) p v) (zru a (12 + 4 * p + d) v) N L S := by
  obtain ⟨r1, r2, r3, r4, r5, r6⟩ := r
  refine ⟨fun s hs => ?_, fun q hq => ?_, fun i hi => ?_, ?_, ?_, fun k hk => ?_⟩
  · rw [zru_o (by omega), r1 s hs]
    rcases (by omega : d = 0 ∨ d = 1 ∨ d = 2 ∨ d = 3) with rfl | rfl | rfl | rfl <;> rfl
  · obtain ⟨b1, b2, b3, b4⟩ := r2 q hq
    rcases (by omega : d = 0 ∨ d = 1 ∨ d = 2 ∨ d = 3) with rfl | rfl | rfl | rfl
    all_goals
      by_cases hqp : q = p
      · subst hqp
        refine ⟨?_, ?_, ?_, ?_⟩
        all_goals first
          | (rw [zhu_s]; simp only [zru]; rw [if_pos (by omega)])
          | (rw [zru_o (by omega)]; first | exact b1 | exact b2 | exact b3 | exact b4)
      · refine ⟨?_, ?_, ?_, ?_⟩
        all_goals
          rw [zru_o (by omega)]
          first
            | exact b1
            | exact b2
            | exact b3
            | exact b4
            | (rw [zhu_o hqp]; first | exact b1 | exact b2 | exact b3 | exact b4)
  · rw [zru_o (by omega), r3 i hi]
    rcases (by omega : d = 0 ∨ d = 1 ∨ d = 2 ∨ d = 3) with rfl | rfl | rfl | rfl <;> rfl
  · rw [zru_o (by omega), r4]
    rcases (by omega : d = 0 ∨ d = 1 ∨ d = 2 ∨ d = 3) with rfl | rfl | rfl | rfl <;> rfl
  · rw [zru_o (by omega), r5]
    rcases (by omega : d = 0 ∨ d = 1 ∨ d = 2 ∨ d = 3) with rfl | rfl | rfl | rfl <;> rfl
  · obtain ⟨b1, b2⟩ := r6 k hk
    rw [zru_o (by omega), zru_o (by omega), b1, b2]
    rcases (by omega : d = 0 ∨ d = 1 ∨ d = 2 ∨ d = 3) with rfl | rfl | rfl | rfl <;> exact ⟨rfl, rfl⟩
theorem zWF_v {h : Nat → Nat → Int32} {R P N L S p v : Nat} (w : zWF h R P N L S) (hv : v < 6) : zWF (zhu h 5 p (nI v)) R P N L S := by
  obtain ⟨w1, w2, w3, w4, w5, w6, w7, w8, w9, w10⟩ := w
  refine ⟨w1, w2, w3, w4, w5, w6, w7, fun q hq => ⟨?_, (w8 q hq).2⟩, w9, w10⟩
  by_cases hqp : q = p
  · subst hqp
    exact ⟨v, hv, zhu_s⟩
  · rw [zhu_o hqp]
    exact (w8 q hq).1
theorem zWF_c {h : Nat → Nat → Int32} {R P N L S p v : Nat} (w : zWF h R P N L S) (hv : v < 10) : zWF (zhu h 6 p (nI v)) R P N L S := by
  obtain ⟨w1, w2, w3, w4, w5, w6, w7, w8, w9, w10⟩ := w
  refine ⟨w1, w2, w3, w4, w5, w6, w7, fun q hq => ⟨(w8 q hq).1, ?_, (w8 q hq).2.2⟩, w9, w10⟩
  by_cases hqp : q = p
  · subst hqp
    exact ⟨v, hv, zhu_s⟩
  · rw [zhu_o hqp]
    exact (w8 q hq).2.1
theorem zWF_f {h : Nat → Nat → Int32} {R P N L S p v : Nat} (w : zWF h R P N L S) (hv : v < 16) : zWF (zhu h 7 p (nI v)) R P N L S := by
  obtain ⟨w1, w2, w3, w4, w5, w6, w7, w8, w9, w10⟩ := w
  refine ⟨w1, w2, w3, w4, w5, w6, w7, fun q hq => ⟨(w8 q hq).1, (w8 q hq).2.1, ?_⟩, w9, w10⟩
  by_cases hqp : q = p
  · subst hqp
    exact ⟨v, hv, zhu_s⟩
  · rw [zhu_o hqp]
    exact (w8 q hq).2.2
theorem zidx {p : Nat} (d : Nat) : (12 + (4 * nI p)) + nI d = nI (12 + 4 * p + d) := by
  rw [show (4 : Int32) = nI 4 from rfl, show (12 : Int32) = nI 12 from rfl, pk_mul, nI_add, nI_add]
/-- voice -/
theorem Q_voice {σ : ZS} (hi : zInv σ) (x y : Int32) : zPair (zcall 73 [zA 0 0 0, zI x, zI y]) (zcall 151 [zA 3 0 0, zI x, zI y]) σ := by
  obtain ⟨R, P, N, L, S, a1, a2, a3, a4, a5, a6, a7, a8⟩ := id hi
  have hN : N ≤ 4 := a1.2.1.2.2.2.2.1
  have hL : L ≤ 8 := a1.2.1.2.2.2.2.2.1
  have n1 : σ 1 0 0 3 = nI N := a1.1.2.2.1
  have n2 : σ 3 0 0 5 = nI N := a3.2.2.1.trans n1
  unfold zPair
  simp only [E_S_voice, E_M_voice, L_hasOne, L_isOne, L_is0_5, L_in0_5, zbI_some, zif_b, n1]
  rcases zin2_c x (n := N) (by omega) with h1 | ⟨p, hp, rfl, h1⟩
  · refine ⟨-1, σ, σ, by rw [h1]; rfl, ?_, hi⟩
    rw [n2, h1]
    rfl
  · rw [h1]
    rcases zin2_u y 5 with h2 | ⟨v, hv, rfl, h2⟩
    · refine ⟨-1, σ, σ, by rw [h2]; rfl, ?_, hi⟩
      rw [n2, h1, h2]
      rfl
    · rw [h2]
      have p4 : p < 4 := by omega
      refine ⟨σ 1 0 5 p, zup σ 1 0 5 p (nI v), zup (zup σ 1 0 5 p (nI v)) 3 0 1 (12 + 4 * p + 1) (nI v), ?_, ?_, ?_⟩
      · simp only [if_true, zck_nI p4 (by decide), nI_clamp (show p < 2 ^ 31 by omega)]
      · have h3 : zup σ 1 0 5 p (nI v) 3 0 0 5 = nI N := by rw [zup_o (by decide), n2]
        simp only [h3, h1, if_true]
        rw [show (1 : Int32) = nI 1 from rfl, zidx, L_becomes _ (by omega), zbI_some, zup_o (by decide), (show 12 + 4 * p + 1 = 13 + 4 * p by omega), (a2.2.1 p hp).2.1]
      · have e1 : (zup (zup σ 1 0 5 p (nI v)) 3 0 1 (12 + 4 * p + 1) (nI v)) 1 0 = zhu (σ 1 0) 5 p (nI v) := by
          rw [← zup_h]
          funext j
          exact zup_o (by omega)
        refine zInv_h a1 a3 a4 a5 a6 a7 a8 (zfrm_up (zfrm_up zfrm_r (Or.inl ⟨rfl, rfl⟩)) (Or.inr ⟨rfl, rfl, rfl⟩)) (S' := S) ?_ ?_ ?_ ?_
        · rw [e1]
          exact zWF_v a1 (by omega)
        · rw [e1, zup_m, zup_o (by decide)]
          exact zrel_p (d := 1) (by omega) hp hN a2 hL
        · intro i _
          rw [zup_o (by decide), zup_o (by decide)]
        · intro k hk
          rw [zup_m, zru_o (by omega), zup_o (by decide)]
/-- comes -/
theorem Q_comes {σ : ZS} (hi : zInv σ) (x y : Int32) : zPair (zcall 74 [zA 0 0 0, zI x, zI y]) (zcall 152 [zA 3 0 0, zI x, zI y]) σ := by
  obtain ⟨R, P, N, L, S, a1, a2, a3, a4, a5, a6, a7, a8⟩ := id hi
  have hN : N ≤ 4 := a1.2.1.2.2.2.2.1
  have hL : L ≤ 8 := a1.2.1.2.2.2.2.2.1
  have n1 : σ 1 0 0 3 = nI N := a1.1.2.2.1
  have n2 : σ 3 0 0 5 = nI N := a3.2.2.1.trans n1
  unfold zPair
  simp only [E_S_comes, E_M_comes, L_hasOne, L_isOne, L_is0_9, L_in0_9, zbI_some, zif_b, n1]
  rcases zin2_c x (n := N) (by omega) with h1 | ⟨p, hp, rfl, h1⟩
  · refine ⟨-1, σ, σ, by rw [h1]; rfl, ?_, hi⟩
    rw [n2, h1]
    rfl
  · rw [h1]
    rcases zin2_u y 9 with h2 | ⟨v, hv, rfl, h2⟩
    · refine ⟨-1, σ, σ, by rw [h2]; rfl, ?_, hi⟩
      rw [n2, h1, h2]
      rfl
    · rw [h2]
      have p4 : p < 4 := by omega
      refine ⟨σ 1 0 6 p, zup σ 1 0 6 p (nI v), zup (zup σ 1 0 6 p (nI v)) 3 0 1 (12 + 4 * p + 2) (nI v), ?_, ?_, ?_⟩
      · simp only [if_true, zck_nI p4 (by decide), nI_clamp (show p < 2 ^ 31 by omega)]
      · have h3 : zup σ 1 0 6 p (nI v) 3 0 0 5 = nI N := by rw [zup_o (by decide), n2]
        simp only [h3, h1, if_true]
        rw [show (2 : Int32) = nI 2 from rfl, zidx, L_becomes _ (by omega), zbI_some, zup_o (by decide), (show 12 + 4 * p + 2 = 14 + 4 * p by omega), (a2.2.1 p hp).2.2.1]
      · have e1 : (zup (zup σ 1 0 6 p (nI v)) 3 0 1 (12 + 4 * p + 2) (nI v)) 1 0 = zhu (σ 1 0) 6 p (nI v) := by
          rw [← zup_h]
          funext j
          exact zup_o (by omega)
        refine zInv_h a1 a3 a4 a5 a6 a7 a8 (zfrm_up (zfrm_up zfrm_r (Or.inl ⟨rfl, rfl⟩)) (Or.inr ⟨rfl, rfl, rfl⟩)) (S' := S) ?_ ?_ ?_ ?_
        · rw [e1]
          exact zWF_c a1 (by omega)
        · rw [e1, zup_m, zup_o (by decide)]
          exact zrel_p (d := 2) (by omega) hp hN a2 hL
        · intro i _
          rw [zup_o (by decide), zup_o (by decide)]
        · intro k hk
          rw [zup_m, zru_o (by omega), zup_o (by decide)]
