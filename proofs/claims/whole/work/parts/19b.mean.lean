/-! mean, luck -/
/-- the ways in which k of the PEOPLE of m stay away, each by v out of ten -/
def zwy (v m k : Nat) : Nat → Nat
  | 0 => 1
  | p + 1 => zwy v m k p * (if m.testBit p = true then (if k.testBit p = true then v else 10 - v) else 1)
theorem zwy_e : ∀ N, N < 5 → ∀ v, v < 11 → ∀ m, m < 2 ^ N → ∀ k, k < 16 → zsb k m = true → zwy v m k N = v ^ zpopn 12 k * (10 - v) ^ (zpopn 12 m - zpopn 12 k) := by decide +kernel
theorem zpow_le : ∀ v, v < 11 → ∀ a, a < 5 → ∀ b, b < 5 → a + b ≤ 4 → v ^ a * (10 - v) ^ b ≤ 10000 := by decide +kernel
theorem z10p : ∀ n, n < 5 → 0 < 10 ^ n ∧ 10 ^ n ≤ 10000 := by decide
/-- what one set adds -/
def zmg (v m : Nat) (c : Nat → Nat) (k : Nat) : Int := if zsb k m = true then ((v ^ zpopn 12 k * (10 - v) ^ (zpopn 12 m - zpopn 12 k) : Nat) : Int) * (c k : Int) else 0
theorem zmg_le {v m : Nat} {c : Nat → Nat} (hv : v < 11) (hm : m < 16) (hc : ∀ k, c k ≤ 8) (k : Nat) (hk : k < 16) : -80000 ≤ zmg v m c k ∧ zmg v m c k ≤ 80000 := by
  unfold zmg
  by_cases h : zsb k m = true
  · obtain ⟨h1, h2, h3⟩ := zsb_le m hm k hk h
    have h4 := zpow_le v hv (zpopn 12 k) (by omega) (zpopn 12 m - zpopn 12 k) (by omega) (by omega)
    have h5 : (v ^ zpopn 12 k * (10 - v) ^ (zpopn 12 m - zpopn 12 k)) * c k ≤ 10000 * 8 := Nat.mul_le_mul h4 (hc k)
    rw [if_pos h, ← Int.natCast_mul]
    omega
  · rw [if_neg h]; omega
theorem L_odds22 {h : Nat → Nat → Int32} {R P N L S v m : Nat} (w : zWF h R P N L S) (hv : v < 11) (hm : m < 16) (hmp : zpopn 12 m ≤ 4) {c : Nat → Nat} (hc8 : ∀ k, c k ≤ 8) (x2 x : Int32) (hc : ∀ k, k < 16 → zbc (nI (zmk (zspk h (zaw (nI k)) N zno) L) &&& x2) = nI (c k)) : ∀ (d k : Nat) (σ : ZS), k + d = m + 1 → σ 1 0 = h →
    ∃ τ, zev 100 22 [(0, zA 0 0 0), (1, zI (nI v)), (2, zI x2), (3, zI x), (4, zI (nI m)), (5, zI (nI (zpopn 12 m))), (6, zJ (zq (zsu (zmg v m c) k))), (8, zI (nI k))] [] σ = some (zJ (zfc (zsu (zmg v m c) (m + 1)) (10 ^ zpopn 12 m) x), τ) ∧ zfrm zScr σ τ
  | 0, k, σ, hk, hh => by
    obtain rfl : k = m + 1 := by omega
    have hs := zsu_le (g := zmg v m c) (C := 80000) (m + 1) (fun j hj => zmg_le hv hm hc8 j (by omega))
    have hp := z10p (zpopn 12 m) (by omega)
    refine ⟨σ, ?_, zfrm_r⟩
    rw [E_S_spokenByOdds_22, if_pos (nI_lt (by omega) (by omega)), show (10 : Int32) = nI 10 from rfl, L_pow σ (by omega) (by omega), zbJ_some, L_fracC σ (by omega) (by omega) hp.1 (by omega), zbJ_some]
  | d + 1, k, σ, hk, hh => by
    have hk16 : k < 16 := by omega
    have hle : ¬ nI m < nI k := nI_nlt (by omega) (by omega)
    by_cases hs : zsb k m = true
    · obtain ⟨h1, h2, h3⟩ := zsb_le m hm k hk16 hs
      obtain ⟨τ, t1, t2, t3, t4⟩ := L_playA hh w (nI k)
      obtain ⟨υ, u1, u2⟩ := L_odds22 w hv hm hmp hc8 x2 x hc d (k + 1) τ (by omega) (by rw [zh_f t2, hh])
      refine ⟨υ, ?_, zfrm_t t2 u2⟩
      have e10 : (10 : Int32) - nI v = nI (10 - v) := by
        rw [show (10 : Int32) = nI 10 from rfl]
        exact pk_sub (by omega)
      have ed : nI (zpopn 12 m) - nI (zpopn 12 k) = nI (zpopn 12 m - zpopn 12 k) := pk_sub (by omega)
      have eg : zsu (zmg v m c) (k + 1) = zsu (zmg v m c) k + ((v ^ zpopn 12 k * (10 - v) ^ (zpopn 12 m - zpopn 12 k) : Nat) : Int) * (c k : Int) := by
        show zsu (zmg v m c) k + zmg v m c k = _
        unfold zmg
        rw [if_pos hs]
      rw [E_S_spokenByOdds_22, if_neg hle, if_pos (of_decide_eq_true hs), L_bitCount, zbI_some, t1, zbI_some, zbc_n k (by omega), L_pow τ (by omega) (by omega), zbJ_some, ed, e10, L_pow τ (by omega) (by omega), zbJ_some, L_bitCount, zbI_some, t4, hc k hk16, zq_n (by have := hc8 k; omega), zq_mul, ← Int.natCast_mul, zq_mul, zq_add, nI_1, ← eg]
      exact u1
    · obtain ⟨υ, u1, u2⟩ := L_odds22 w hv hm hmp hc8 x2 x hc d (k + 1) σ (by omega) hh
      refine ⟨υ, ?_, u2⟩
      have eg : zsu (zmg v m c) (k + 1) = zsu (zmg v m c) k := by
        show zsu (zmg v m c) k + zmg v m c k = _
        unfold zmg
        rw [if_neg hs, Int.add_zero]
      rw [E_S_spokenByOdds_22, if_neg hle, if_neg (fun z => hs (decide_eq_true z)), nI_1, ← eg]
      exact u1
theorem L_odds {σ : ZS} {h : Nat → Nat → Int32} {R P N L S v : Nat} (hh : σ 1 0 = h) (w : zWF h R P N L S) (hv : v < 11) {c : Nat → Nat} (hc8 : ∀ k, c k ≤ 8) (x2 x : Int32) (hc : ∀ k, k < 16 → zbc (nI (zmk (zspk h (zaw (nI k)) N zno) L) &&& x2) = nI (c k)) :
    ∃ τ, zcall 100 [zA 0 0 0, zI (nI v), zI x2, zI x] σ = some (zJ (zfc (zsu (zmg v (zmk (zhr h) N) c) (2 ^ N)) (10 ^ zpopn 12 (zmk (zhr h) N)) x), τ) ∧ zfrm zScr σ τ := by
  have hN := w.2.1.2.2.2.2.1
  have hm := zmk_16 (zhr h) hN
  have hm2 := zmk_lt (zhr h) N
  have hp := z2p4 N (by omega)
  have hmp : zpopn 12 (zmk (zhr h) N) ≤ 4 := by
    rw [zpop_mk (zhr h) (by omega)]
    exact Nat.le_trans (zct_le _ _) hN
  obtain ⟨τ, t1, t2⟩ := L_odds22 w hv hm hmp hc8 x2 x hc (zmk (zhr h) N + 1) 0 σ (by omega) hh
  refine ⟨τ, ?_, t2⟩
  have e : zsu (zmg v (zmk (zhr h) N) c) (2 ^ N) = zsu (zmg v (zmk (zhr h) N) c) (zmk (zhr h) N + 1) := by
    have := zsu_tail (g := zmg v (zmk (zhr h) N) c) (a := zmk (zhr h) N + 1) (2 ^ N - (zmk (zhr h) N + 1)) (fun j h1 h2 => by
      unfold zmg
      refine if_neg fun z => ?_
      have := (zsb_le _ hm j (by omega) z).1
      omega)
    rw [show zmk (zhr h) N + 1 + (2 ^ N - (zmk (zhr h) N + 1)) = 2 ^ N by omega] at this
    exact this
  rw [E_S_spokenByOdds, L_hereC hh w, zbI_some, L_bitCount, zbI_some, zbc_n _ (by omega), e]
  exact t1
theorem L_ways5 {σ : ZS} {h : Nat → Nat → Int32} {R P N L S v k : Nat} (c : zCx σ h R P N L S) (hv : v < 11) (hk : k < 16) : ∀ d p : Nat, p + d = N → zev 190 5 [(0, zA 3 0 0), (1, zI (nI k)), (2, zI (nI v)), (3, zJ (zq ((zwy v (zmk (zhr h) N) k p : Nat) : Int))), (5, zI (nI p))] [] σ = some (zJ (zq ((zwy v (zmk (zhr h) N) k N : Nat) : Int)), σ)
  | 0, p, hp => by
    have hN := c.1.2.1.2.2.2.2.1
    obtain rfl : p = N := by omega
    rw [E_M_waysOf_5, c.2.2.2.2.1, if_neg (nI_nlt (by omega) (by omega))]
  | d + 1, p, hp => by
    have hN := c.1.2.1.2.2.2.2.1
    have hm := zmk_16 (zhr h) hN
    have ih := L_ways5 c hv hk d (p + 1) (by omega)
    have e10 : (10 : Int32) - nI v = nI (10 - v) := by
      rw [show (10 : Int32) = nI 10 from rfl]
      exact pk_sub (by omega)
    have ew : zwy v (zmk (zhr h) N) k (p + 1) = zwy v (zmk (zhr h) N) k p * (if (zmk (zhr h) N).testBit p = true then (if k.testBit p = true then v else 10 - v) else 1) := rfl
    rw [ew] at ih
    rw [E_M_waysOf_5, c.2.2.2.2.1, if_pos (nI_lt (by omega) (by omega)), L_hereM c, zbI_some, zbI_some, show (nI k >>> (nI p &&& 31)) &&& 1 = zbit (nI k) p from rfl, show (nI (zmk (zhr h) N) >>> (nI p &&& 31)) &&& 1 = zbit (nI (zmk (zhr h) N)) p from rfl, zbit12 k (by omega) p (by omega), zbit12 _ (by omega : zmk (zhr h) N < 256) p (by omega), nI_1, e10, zq_n (by omega), zq_n (by omega), show (1 : Int64) = zq ((1 : Nat) : Int) from rfl, zq_mul, zq_mul, zq_mul, ← Int.natCast_mul, ← Int.natCast_mul, ← Int.natCast_mul]
    cases h1 : k.testBit p <;> cases h2 : (zmk (zhr h) N).testBit p
    · rw [h1, h2] at ih
      rw [if_neg (by decide), if_neg (by decide)]
      exact ih
    · rw [h1, h2] at ih
      rw [if_neg (by decide), if_pos (by decide)]
      exact ih
    · rw [h1, h2] at ih
      rw [if_pos (by decide), if_neg (by decide)]
      exact ih
    · rw [h1, h2] at ih
      rw [if_pos (by decide), if_pos (by decide)]
      exact ih
theorem L_ways {σ : ZS} {h : Nat → Nat → Int32} {R P N L S v k : Nat} (c : zCx σ h R P N L S) (hv : v < 11) (hk : k < 16) (hs : zsb k (zmk (zhr h) N) = true) : zcall 190 [zA 3 0 0, zI (nI k), zI (nI v)] σ = some (zJ (zq ((v ^ zpopn 12 k * (10 - v) ^ (zpopn 12 (zmk (zhr h) N) - zpopn 12 k) : Nat) : Int)), σ) := by
  have hN := c.1.2.1.2.2.2.2.1
  have e := L_ways5 c hv hk N 0 (by omega)
  rw [zwy_e N (by omega) v hv _ (zmk_lt (zhr h) N) k hk hs] at e
  rw [E_M_waysOf]
  exact e
theorem L_allWays4 {σ : ZS} {h : Nat → Nat → Int32} {R P N L S : Nat} (c : zCx σ h R P N L S) : ∀ d i : Nat, i + d = zpopn 12 (zmk (zhr h) N) → zev 191 4 [(0, zA 3 0 0), (1, zJ (zq ((10 ^ i : Nat) : Int))), (3, zI (nI i))] [] σ = some (zJ (zq ((10 ^ zpopn 12 (zmk (zhr h) N) : Nat) : Int)), σ)
  | 0, i, hi => by
    have hN := c.1.2.1.2.2.2.2.1
    have hm := zmk_16 (zhr h) hN
    have hp := zpopn_le (zmk (zhr h) N)
    rw [show i = zpopn 12 (zmk (zhr h) N) by omega, E_M_allWays_4, L_hereM c, zbI_some, L_bitsOf (by omega), zbI_some, if_neg (nI_nlt (Nat.le_refl _) (by omega))]
  | d + 1, i, hi => by
    have hN := c.1.2.1.2.2.2.2.1
    have hm := zmk_16 (zhr h) hN
    have hp := zpopn_le (zmk (zhr h) N)
    have ih := L_allWays4 c d (i + 1) (by omega)
    rw [E_M_allWays_4, L_hereM c, zbI_some, L_bitsOf (by omega), zbI_some, if_pos (nI_lt (by omega) (by omega)), nI_1, show (10 : Int64) = zq ((10 : Nat) : Int) from rfl, zq_mul, ← Int.natCast_mul, ← Nat.pow_succ]
    exact ih
theorem L_allWays {σ : ZS} {h : Nat → Nat → Int32} {R P N L S : Nat} (c : zCx σ h R P N L S) : zcall 191 [zA 3 0 0] σ = some (zJ (zq ((10 ^ zpopn 12 (zmk (zhr h) N) : Nat) : Int)), σ) := by
  rw [E_M_allWays]
  exact L_allWays4 c (zpopn 12 (zmk (zhr h) N)) 0 (by omega)
theorem L_mean31 {h : Nat → Nat → Int32} {R P N L S v : Nat} (hv : v < 11) (x : Int32) : ∀ (d k : Nat) (σ : ZS), k + d = 2 ^ N → zCx σ h R P N L S →
    ∃ τ, zev 189 31 [(0, zA 3 0 0), (1, zI (nI v)), (2, zI x), (3, zJ (zq (zsu (zmg v (zmk (zhr h) N) (fun k => zspn h (zaw (nI k)) N zno L)) k))), (5, zI (nI k))] [] σ = some (zJ (zfc (zsu (zmg v (zmk (zhr h) N) (fun k => zspn h (zaw (nI k)) N zno L)) (2 ^ N)) (10 ^ zpopn 12 (zmk (zhr h) N)) x), τ) ∧ zfrm zScr σ τ
  | 0, k, σ, hk, c => by
    have hN := c.1.2.1.2.2.2.2.1
    have hL := c.1.2.1.2.2.2.2.2.1
    have hm := zmk_16 (zhr h) hN
    have hp2 := z2p4 N (by omega)
    have hmp : zpopn 12 (zmk (zhr h) N) ≤ 4 := by
      rw [zpop_mk (zhr h) (by omega)]
      exact Nat.le_trans (zct_le _ _) hN
    have hs := zsu_le (g := zmg v (zmk (zhr h) N) (fun k => zspn h (zaw (nI k)) N zno L)) (C := 80000) (2 ^ N) (fun j hj => zmg_le hv hm (fun k => Nat.le_trans (zct_le _ _) hL) j (by omega))
    have hp := z10p (zpopn 12 (zmk (zhr h) N)) (by omega)
    refine ⟨σ, ?_, zfrm_r⟩
    rw [show k = 2 ^ N by omega, E_M_mean_31, c.2.2.2.2.1, (z2p N (by omega)).1, if_neg (nI_nlt (Nat.le_refl _) (by omega)), L_allWays c, zbJ_some, L_fracM σ (by omega) (by omega) hp.1 (by omega), zbJ_some]
  | d + 1, k, σ, hk, c => by
    have hN := c.1.2.1.2.2.2.2.1
    have hL := c.1.2.1.2.2.2.2.2.1
    have hm := zmk_16 (zhr h) hN
    have hp2 := z2p4 N (by omega)
    have hlt : nI k < nI (2 ^ N) := nI_lt (by omega) (by omega)
    by_cases hs : zsb k (zmk (zhr h) N) = true
    · obtain ⟨τ, t1, t2, -⟩ := L_spokenBut c (nI k)
      obtain ⟨υ, u1, u2⟩ := L_mean31 hv x d (k + 1) τ (by omega) (zCx_f t2 c)
      refine ⟨υ, ?_, zfrm_t t2 u2⟩
      have eg : zsu (zmg v (zmk (zhr h) N) (fun k => zspn h (zaw (nI k)) N zno L)) (k + 1) = zsu (zmg v (zmk (zhr h) N) (fun k => zspn h (zaw (nI k)) N zno L)) k + ((v ^ zpopn 12 k * (10 - v) ^ (zpopn 12 (zmk (zhr h) N) - zpopn 12 k) : Nat) : Int) * (zspn h (zaw (nI k)) N zno L : Int) := by
        show zsu _ k + zmg v _ _ k = _
        unfold zmg
        rw [if_pos hs]
      have hz : zspn h (zaw (nI k)) N zno L ≤ 8 := Nat.le_trans (zct_le _ _) hL
      rw [E_M_mean_31, c.2.2.2.2.1, (z2p N (by omega)).1, if_pos hlt, L_hereM c, zbI_some, if_pos (of_decide_eq_true hs), L_ways c hv (by omega) hs, zbJ_some, t1, zbI_some, zq_n (by omega), zq_mul, zq_add, nI_1, ← eg]
      exact u1
    · obtain ⟨υ, u1, u2⟩ := L_mean31 hv x d (k + 1) σ (by omega) c
      refine ⟨υ, ?_, u2⟩
      have eg : zsu (zmg v (zmk (zhr h) N) (fun k => zspn h (zaw (nI k)) N zno L)) (k + 1) = zsu (zmg v (zmk (zhr h) N) (fun k => zspn h (zaw (nI k)) N zno L)) k + 0 := by
        show zsu _ k + zmg v _ _ k = _
        unfold zmg
        rw [if_neg hs]
      rw [E_M_mean_31, c.2.2.2.2.1, (z2p N (by omega)).1, if_pos hlt, L_hereM c, zbI_some, if_neg (fun z => hs (decide_eq_true z)), nI_1, show (0 : Int64) = zq 0 from rfl, zq_add, ← eg]
      exact u1
theorem zall8 : ∀ L, L < 9 → ∀ k, k < 2 ^ L → zbc (nI k &&& ((1 <<< (nI L &&& 31)) - 1)) = nI (zpopn 12 k) := by decide +kernel
theorem zone8 : ∀ i, i < 8 → ∀ k, k < 256 → zbc (nI k &&& (1 <<< (nI i &&& 31))) = nI (if k.testBit i = true then 1 else 0) := by decide +kernel
theorem Q_mean {σ : ZS} (hi : zInv σ) (x y : Int32) : zPairJ (zcall 99 [zA 0 0 0, zI x, zI y]) (zcall 189 [zA 3 0 0, zI x, zI y]) σ := by
  obtain ⟨R, P, N, L, S, a1, a2, a3, a4, a5, a6, a7, a8⟩ := id hi
  have hL : L ≤ 8 := a1.2.1.2.2.2.2.2.1
  unfold zPairJ
  simp only [E_S_mean, E_M_mean, L_is0_10, L_is0_1, L_in0_10, L_in0_1, E_S_bitsBelow, zbI_some, zif_b]
  rcases zin2_u x 10 with h1 | ⟨v, hv, rfl, h1⟩
  · rw [h1]
    exact ⟨-1, σ, σ, rfl, rfl, hi⟩
  · rw [h1]
    cases h2 : zin2 y (nI 0) (nI 1) with
    | false => exact ⟨-1, σ, σ, rfl, rfl, hi⟩
    | true =>
      have c := zCx_of a1 a2 a3
      obtain ⟨τ, t1, t2⟩ := L_odds rfl a1 (show v < 11 by omega) (c := fun k => zspn (σ 1 0) (zaw (nI k)) N zno L) (fun k => Nat.le_trans (zct_le _ _) hL) ((1 <<< (nI L &&& 31)) - 1) y (fun k _ => by
        rw [zall8 L (by omega) _ (zmk_lt _ L), zpop_mk _ (by omega)]
        rfl)
      obtain ⟨υ, u1, u2⟩ := L_mean31 (show v < 11 by omega) y (2 ^ N) 0 τ (by omega) (zCx_f t2 c)
      refine ⟨_, τ, υ, ?_, Eq.trans ?_ u1, zInv_q u2 (zInv_q t2 hi)⟩
      rotate_left
      · rw [if_pos rfl, if_pos rfl]
        rfl
      · rw [if_pos rfl, if_pos rfl, a1.1.2.2.2.1, t1, zbJ_some]
theorem L_luck40 {h : Nat → Nat → Int32} {R P N L S v i : Nat} (hi : i < L) (hv : v < 11) (x : Int32) : ∀ (d k : Nat) (σ : ZS), k + d = 2 ^ N → zCx σ h R P N L S →
    ∃ τ, zev 192 40 [(0, zA 3 0 0), (1, zI (nI v)), (2, zI (nI i)), (3, zI x), (4, zJ (zq (zsu (zmg v (zmk (zhr h) N) (fun k => if zspk h (zaw (nI k)) N zno i = true then 1 else 0)) k))), (6, zI (nI k))] [] σ = some (zJ (zfc (zsu (zmg v (zmk (zhr h) N) (fun k => if zspk h (zaw (nI k)) N zno i = true then 1 else 0)) (2 ^ N)) (10 ^ zpopn 12 (zmk (zhr h) N)) x), τ) ∧ zfrm zScr σ τ
  | 0, k, σ, hk, c => by
    have hN := c.1.2.1.2.2.2.2.1
    have hL := c.1.2.1.2.2.2.2.2.1
    have hm := zmk_16 (zhr h) hN
    have hp2 := z2p4 N (by omega)
    have hmp : zpopn 12 (zmk (zhr h) N) ≤ 4 := by
      rw [zpop_mk (zhr h) (by omega)]
      exact Nat.le_trans (zct_le _ _) hN
    have hs := zsu_le (g := zmg v (zmk (zhr h) N) (fun k => if zspk h (zaw (nI k)) N zno i = true then 1 else 0)) (C := 80000) (2 ^ N) (fun j hj => zmg_le hv hm (fun k => by split <;> omega) j (by omega))
    have hp := z10p (zpopn 12 (zmk (zhr h) N)) (by omega)
    refine ⟨σ, ?_, zfrm_r⟩
    rw [show k = 2 ^ N by omega, E_M_luck_40, c.2.2.2.2.1, (z2p N (by omega)).1, if_neg (nI_nlt (Nat.le_refl _) (by omega)), L_allWays c, zbJ_some, L_fracM σ (by omega) (by omega) hp.1 (by omega), zbJ_some]
  | d + 1, k, σ, hk, c => by
    have hN := c.1.2.1.2.2.2.2.1
    have hL := c.1.2.1.2.2.2.2.2.1
    have hm := zmk_16 (zhr h) hN
    have hp2 := z2p4 N (by omega)
    have hlt : nI k < nI (2 ^ N) := nI_lt (by omega) (by omega)
    by_cases hs : zsb k (zmk (zhr h) N) = true
    · obtain ⟨τ, t1, t2, t3⟩ := L_spokenBut c (nI k)
      have c2 := zCx_f t2 c
      obtain ⟨υ, u1, u2⟩ := L_luck40 hi hv x d (k + 1) τ (by omega) c2
      refine ⟨υ, ?_, zfrm_t t2 u2⟩
      have eg : zsu (zmg v (zmk (zhr h) N) (fun k => if zspk h (zaw (nI k)) N zno i = true then 1 else 0)) (k + 1) = zsu (zmg v (zmk (zhr h) N) (fun k => if zspk h (zaw (nI k)) N zno i = true then 1 else 0)) k + ((v ^ zpopn 12 k * (10 - v) ^ (zpopn 12 (zmk (zhr h) N) - zpopn 12 k) : Nat) : Int) * ((if zspk h (zaw (nI k)) N zno i = true then 1 else 0 : Nat) : Int) := by
        show zsu _ k + zmg v _ _ k = _
        unfold zmg
        rw [if_pos hs]
      rw [eg] at u1
      rw [E_M_luck_40, c.2.2.2.2.1, (z2p N (by omega)).1, if_pos hlt, L_hereM c, zbI_some, if_pos (of_decide_eq_true hs), t1, zbI_some, zck_nI (by omega) (by decide), nI_clamp (by omega), t3 i hi, nI_1]
      by_cases hz : zsp h (zaw (nI k)) N zno i = -4
      · rw [if_pos hz]
        rw [if_neg (show ¬ zspk h (zaw (nI k)) N zno i = true by unfold zspk; rw [decide_eq_true hz]; decide)] at u1
        rw [show ((0 : Nat) : Int) = 0 from rfl, Int.mul_zero, ← zq_add] at u1
        exact u1
      · rw [if_neg hz, L_ways c2 hv (by omega) hs, zbJ_some]
        rw [if_pos (show zspk h (zaw (nI k)) N zno i = true by unfold zspk; rw [decide_eq_false hz]; rfl)] at u1
        rw [show ((1 : Nat) : Int) = 1 from rfl, Int.mul_one, ← zq_add] at u1
        exact u1
    · obtain ⟨υ, u1, u2⟩ := L_luck40 hi hv x d (k + 1) σ (by omega) c
      refine ⟨υ, ?_, u2⟩
      have eg : zsu (zmg v (zmk (zhr h) N) (fun k => if zspk h (zaw (nI k)) N zno i = true then 1 else 0)) (k + 1) = zsu (zmg v (zmk (zhr h) N) (fun k => if zspk h (zaw (nI k)) N zno i = true then 1 else 0)) k := by
        show zsu _ k + zmg v _ _ k = _
        unfold zmg
        rw [if_neg hs, Int.add_zero]
      rw [E_M_luck_40, c.2.2.2.2.1, (z2p N (by omega)).1, if_pos hlt, L_hereM c, zbI_some, if_neg (fun z => hs (decide_eq_true z)), nI_1, ← eg]
      exact u1
theorem Q_luck {σ : ZS} (hi : zInv σ) (x y z : Int32) : zPairJ (zcall 102 [zA 0 0 0, zI x, zI y, zI z]) (zcall 192 [zA 3 0 0, zI x, zI y, zI z]) σ := by
  obtain ⟨R, P, N, L, S, a1, a2, a3, a4, a5, a6, a7, a8⟩ := id hi
  have hL : L ≤ 8 := a1.2.1.2.2.2.2.2.1
  have n1 : σ 1 0 0 4 = nI L := a1.1.2.2.2.1
  have n2 : σ 3 0 0 6 = nI L := a3.2.2.2.1.trans n1
  unfold zPairJ
  simp only [E_S_luck, E_M_luck, L_is0_10, L_is0_1, L_in0_10, L_in0_1, L_hasLine, L_isLine, zbI_some, zif_b, n1]
  rcases zin2_u x 10 with h1 | ⟨v, hv, rfl, h1⟩
  · rw [h1]
    exact ⟨-1, σ, σ, rfl, rfl, hi⟩
  · rw [h1]
    rcases zin2_c y (n := L) (by omega) with h2 | ⟨i, hiL, rfl, h2⟩
    · rw [h2]
      refine ⟨-1, σ, σ, rfl, ?_, hi⟩
      rw [n2, h2]
      rfl
    · rw [h2]
      cases h3 : zin2 z (nI 0) (nI 1) with
      | false =>
        refine ⟨-1, σ, σ, rfl, ?_, hi⟩
        rw [n2, h2]
        rfl
      | true =>
        have c := zCx_of a1 a2 a3
        obtain ⟨τ, t1, t2⟩ := L_odds rfl a1 (show v < 11 by omega) (c := fun k => if zspk (σ 1 0) (zaw (nI k)) N zno i = true then 1 else 0) (fun k => by split <;> omega) (1 <<< (nI i &&& 31)) z (fun k _ => by
          rw [zone8 i (by omega) _ (zmk_256 _ hL), zmk_tb]
          simp [hiL])
        obtain ⟨υ, u1, u2⟩ := L_luck40 hiL (show v < 11 by omega) z (2 ^ N) 0 τ (by omega) (zCx_f t2 c)
        have e : τ 3 0 0 6 = nI L := by rw [t2 3 0 0 (by simp [zScr, zScC])]; exact n2
        refine ⟨_, τ, υ, ?_, Eq.trans ?_ u1, zInv_q u2 (zInv_q t2 hi)⟩
        rotate_left
        · rw [if_pos rfl, e, h2, if_pos rfl, if_pos rfl]
          rfl
        · rw [if_pos rfl, if_pos rfl, if_pos rfl, t1, zbJ_some]
