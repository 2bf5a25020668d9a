/-! TONIGHT: speaks, says, night -/
abbrev zno : Nat → Bool := fun _ => false
theorem zfrm_m {X Y : Nat → Nat → Nat → Prop} {σ τ : ZS} (h : ∀ c g j, X c g j → Y c g j) (f : zfrm X σ τ) : zfrm Y σ τ := fun c g j hn => f c g j (fun z => hn (h c g j z))
theorem zPX_s (c g j : Nat) (h : zPX c g j) : zScr c g j := by
  obtain ⟨rfl, rfl, h⟩ := h
  exact Or.inl ⟨rfl, Or.inr (by omega)⟩
theorem zMX_s (c g j : Nat) (h : zMX c g j) : zScr c g j := by
  obtain ⟨rfl, rfl, rfl⟩ := h
  exact Or.inr (Or.inr ⟨rfl, by omega⟩)
/-- the reference beside house h -/
def zCx (σ : ZS) (h : Nat → Nat → Int32) (R P N L S : Nat) : Prop :=
  zWF h R P N L S ∧ zrel h (σ 3 0 1) N L S ∧ σ 3 0 0 3 = nI R ∧ σ 3 0 0 4 = nI P ∧ σ 3 0 0 5 = nI N ∧ σ 3 0 0 6 = nI L ∧ ∀ i, i < L → σ 3 0 4 i = h 8 i
theorem zCx_of {σ : ZS} {R P N L S : Nat} (a1 : zWF (σ 1 0) R P N L S) (a2 : zrel (σ 1 0) (σ 3 0 1) N L S) (a3 : zMM σ L) : zCx σ (σ 1 0) R P N L S :=
  ⟨a1, a2, a3.1.trans a1.1.1, a3.2.1.trans a1.1.2.1, a3.2.2.1.trans a1.1.2.2.1, a3.2.2.2.1.trans a1.1.2.2.2.1, a3.2.2.2.2⟩
theorem zCx_f {σ τ : ZS} {h : Nat → Nat → Int32} {R P N L S : Nat} (f : zfrm zScr σ τ) (c : zCx σ h R P N L S) : zCx τ h R P N L S := by
  have m0 : τ 3 0 0 = σ 3 0 0 := f 3 0 0 (by simp [zScr, zScC])
  have m1 : τ 3 0 1 = σ 3 0 1 := f 3 0 1 (by simp [zScr, zScC])
  have m4 : τ 3 0 4 = σ 3 0 4 := f 3 0 4 (by simp [zScr, zScC])
  unfold zCx
  rw [m0, m1, m4]
  exact c
theorem zh_f {σ τ : ZS} (f : zfrm zScr σ τ) : τ 1 0 = σ 1 0 := funext fun j => f 1 0 j (by simp [zScr, zScC])
theorem zst_f (σ : ZS) : zfrm zScr σ (zst σ) := by
  intro c g j hn
  refine zcpy_o ?_
  rintro ⟨rfl, rfl, rfl⟩
  exact hn (by simp [zScr, zScC])
theorem zst_2 {σ : ZS} {k : Nat} (h : k < 54) : zst σ 3 0 2 k = σ 3 0 1 k := zcpy_s h
theorem zCx_MN {σ : ZS} {h : Nat → Nat → Int32} {R P N L S : Nat} (c : zCx σ h R P N L S) : zMN (zst σ) h zno P N L := by
  have hN : N ≤ 4 := c.1.2.1.2.2.2.2.1
  have hL : L ≤ 8 := c.1.2.1.2.2.2.2.2.1
  obtain ⟨c1, c2, c3, c4, c5, c6, c7⟩ := zCx_f (zst_f σ) c
  obtain ⟨r1, r2, r3, r4, -⟩ := c.2.1
  refine ⟨c4, c5, c6, c7, fun s hs => by rw [zst_2 (by omega)]; exact r1 s hs, fun p hp => ?_, fun i hi => by rw [zst_2 (by omega)]; exact r3 i hi, by rw [zst_2 (by omega)]; exact r4⟩
  rw [zst_2 (by omega), zst_2 (by omega), zst_2 (by omega), zst_2 (by omega)]
  exact r2 p hp
theorem L_nowC {σ : ZS} {R P N L S : Nat} (a1 : zWF (σ 1 0) R P N L S) : ∃ τ, zcall 81 [zA 0 0 0] σ = some (zI (nI (zspn (σ 1 0) zno N zno L)), τ) ∧ zfrm zScr σ τ ∧ (∀ k, k < L → τ 0 0 8 k = zsp (σ 1 0) zno N zno k) ∧ τ 0 0 7 1 = nI (zmk (zspk (σ 1 0) zno N zno) L) := by
  obtain ⟨τ, t1, t2, t3⟩ := L_play0 0 (zWF_NW a1)
  rw [E_S_spokenNow, t1, zbI_some]
  exact ⟨τ, rfl, zfrm_m zPX_s t2, t3⟩
theorem L_nowM {σ : ZS} {h : Nat → Nat → Int32} {R P N L S : Nat} (c : zCx σ h R P N L S) : ∃ τ, zcall 163 [zA 3 0 0] σ = some (zI (nI (zspn h zno N zno L)), τ) ∧ zfrm zScr σ τ ∧ ∀ k, k < L → τ 3 0 8 k = zsp h zno N zno k := by
  obtain ⟨τ, t1, t2, t3⟩ := L_nightNow (zWF_NW c.1) (zCx_MN c)
  rw [E_M_spokenNow, L_starts, zbV_some, t1, zbI_some]
  exact ⟨τ, rfl, zfrm_t (zst_f σ) (zfrm_m zMX_s t2), t3⟩
theorem Q_speaks {σ : ZS} (hi : zInv σ) (x : Int32) : zPair (zcall 80 [zA 0 0 0, zI x]) (zcall 162 [zA 3 0 0, zI x]) σ := by
  obtain ⟨R, P, N, L, S, a1, a2, a3, a4, a5, a6, a7, a8⟩ := id hi
  have hL : L ≤ 8 := a1.2.1.2.2.2.2.2.1
  have n1 : σ 1 0 0 4 = nI L := a1.1.2.2.2.1
  have n2 : σ 3 0 0 6 = nI L := a3.2.2.2.1.trans n1
  unfold zPair
  simp only [E_S_speaks, E_M_speaks, L_hasLine, L_isLine, zbI_some, zif_b, n1]
  rcases zin2_c x (n := L) (by omega) with h1 | ⟨i, hiL, rfl, h1⟩
  · rw [h1]
    exact ⟨-1, σ, σ, rfl, by rw [n2, h1]; rfl, hi⟩
  · rw [h1]
    obtain ⟨τ, t1, t2, t3, -⟩ := L_nowC a1
    obtain ⟨υ, u1, u2, u3⟩ := L_nowM (zCx_f t2 (zCx_of a1 a2 a3))
    refine ⟨zsp (σ 1 0) zno N zno i, τ, υ, ?_, ?_, zInv_q u2 (zInv_q t2 hi)⟩
    · rw [if_pos rfl, t1, zbI_some, zck_nI (by omega) (by decide), nI_clamp (by omega), t3 i hiL]
    · have e : τ 3 0 0 6 = nI L := by rw [t2 3 0 0 (by simp [zScr, zScC])]; exact n2
      rw [e, h1, if_pos rfl, u1, zbI_some, zck_nI (by omega) (by decide), nI_clamp (by omega), u3 i hiL]
/-- how many cells of a row hold x -/
theorem L_saysC {σ : ZS} {L : Nat} (n1 : σ 1 0 0 4 = nI L) (hL : L ≤ 8) (x : Int32) : ∀ d i : Nat, i + d = L → zev 83 22 [(0, zA 0 0 0), (1, zI x), (2, zI (nI (zct (fun k => decide (σ 0 0 8 k = x)) i))), (3, zI (nI i))] [] σ = some (zI (nI (zct (fun k => decide (σ 0 0 8 k = x)) L)), σ)
  | 0, i, h => by
    obtain rfl : i = L := by omega
    rw [E_S_says_22, n1, if_neg (nI_nlt (by omega) (by omega))]
  | d + 1, i, h => by
    have ih := L_saysC n1 hL x d (i + 1) (by omega)
    rw [E_S_says_22, n1, if_pos (nI_lt (by omega) (by omega)), zck_nI (by omega) (by decide), nI_clamp (by omega), show (1 : Int32) = zb true from rfl, show (0 : Int32) = zb false from rfl, L_oneIf, L_oneIf, zbI_some, zbI_some]
    have e : zct (fun k => decide (σ 0 0 8 k = x)) (i + 1) = zct (fun k => decide (σ 0 0 8 k = x)) i + (if decide (σ 0 0 8 i = x) = true then 1 else 0) := rfl
    rw [e, ← nI_1] at ih
    by_cases hc : σ 0 0 8 i = x
    · rw [if_pos hc]
      rw [if_pos (decide_eq_true hc), ← nI_1] at ih
      exact ih
    · rw [if_neg hc]
      rw [if_neg (by rw [decide_eq_false hc]; decide)] at ih
      rw [show nI (zct (fun k => decide (σ 0 0 8 k = x)) i) + zb false = nI (zct (fun k => decide (σ 0 0 8 k = x)) i) from Int32.add_zero _]
      exact ih
theorem L_saysM {σ : ZS} {L : Nat} (n1 : σ 3 0 0 6 = nI L) (hL : L ≤ 8) (x : Int32) : ∀ d i : Nat, i + d = L → zev 170 19 [(0, zA 3 0 0), (1, zI x), (2, zI (nI (zct (fun k => decide (σ 3 0 8 k = x)) i))), (3, zI (nI i))] [] σ = some (zI (nI (zct (fun k => decide (σ 3 0 8 k = x)) L)), σ)
  | 0, i, h => by
    obtain rfl : i = L := by omega
    rw [E_M_says_19, n1, if_neg (nI_nlt (by omega) (by omega))]
  | d + 1, i, h => by
    have ih := L_saysM n1 hL x d (i + 1) (by omega)
    rw [E_M_says_19, n1, if_pos (nI_lt (by omega) (by omega)), zck_nI (by omega) (by decide), nI_clamp (by omega), L_flag0, L_flag1, zbI_some, zbI_some]
    have e : zct (fun k => decide (σ 3 0 8 k = x)) (i + 1) = zct (fun k => decide (σ 3 0 8 k = x)) i + (if decide (σ 3 0 8 i = x) = true then 1 else 0) := rfl
    rw [e, ← nI_1] at ih
    by_cases hc : σ 3 0 8 i = x
    · rw [if_pos hc]
      rw [if_pos (decide_eq_true hc), ← nI_1] at ih
      exact ih
    · rw [if_neg hc]
      rw [if_neg (by rw [decide_eq_false hc]; decide)] at ih
      rw [Int32.add_zero]
      exact ih
theorem Q_says {σ : ZS} (hi : zInv σ) (x : Int32) : zPair (zcall 83 [zA 0 0 0, zI x]) (zcall 170 [zA 3 0 0, zI x]) σ := by
  obtain ⟨R, P, N, L, S, a1, a2, a3, a4, a5, a6, a7, a8⟩ := id hi
  have hN : N ≤ 4 := a1.2.1.2.2.2.2.1
  have hL : L ≤ 8 := a1.2.1.2.2.2.2.2.1
  have n1 : σ 1 0 0 3 = nI N := a1.1.2.2.1
  have n2 : σ 3 0 0 5 = nI N := a3.2.2.1.trans n1
  unfold zPair
  simp only [E_S_says, E_M_says, L_hasOne, L_isOne, zbI_some, zif_b, n1]
  rcases zin2_c x (n := N) (by omega) with h1 | ⟨p, hp, rfl, h1⟩
  · rw [h1]
    exact ⟨-1, σ, σ, rfl, by rw [n2, h1]; rfl, hi⟩
  · rw [h1]
    obtain ⟨τ, t1, t2, t3, -⟩ := L_nowC a1
    obtain ⟨υ, u1, u2, u3⟩ := L_nowM (zCx_f t2 (zCx_of a1 a2 a3))
    have e4 : τ 1 0 0 4 = nI L := by rw [zh_f t2]; exact a1.1.2.2.2.1
    have e5 : τ 3 0 0 5 = nI N := by rw [t2 3 0 0 (by simp [zScr, zScC])]; exact n2
    have e6 : υ 3 0 0 6 = nI L := by rw [u2 3 0 0 (by simp [zScr, zScC]), t2 3 0 0 (by simp [zScr, zScC])]; exact a3.2.2.2.1.trans a1.1.2.2.2.1
    refine ⟨nI (zct (fun k => decide (zsp (σ 1 0) zno N zno k = nI p)) L), τ, υ, ?_, ?_, zInv_q u2 (zInv_q t2 hi)⟩
    · rw [if_pos rfl, t1, zbI_some]
      have := L_saysC e4 hL (nI p) L 0 (by omega)
      rw [zct_c L (fun k hk => by rw [t3 k hk])] at this
      exact this
    · rw [e5, h1, if_pos rfl, u1, zbI_some]
      have := L_saysM e6 hL (nI p) L 0 (by omega)
      rw [zct_c L (fun k hk => by rw [u3 k hk])] at this
      exact this
