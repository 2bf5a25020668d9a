/-! count -/
/-- who is there -/
def zhr (h : Nat → Nat → Int32) (p : Nat) : Bool := !decide (h 4 p = -4)
theorem L_hereC_4 {σ : ZS} {h : Nat → Nat → Int32} {R P N L S : Nat} (hh : σ 1 0 = h) (w : zWF h R P N L S) : ∀ d p : Nat, p + d = N → zev 21 4 [(0, zA 1 0 0), (1, zI (nI (zmk (zhr h) p))), (2, zI (nI p))] [] σ = some (zI (nI (zmk (zhr h) N)), σ)
  | 0, p, hp => by
    have hN := w.2.1.2.2.2.2.1
    obtain rfl : p = N := by omega
    rw [E_House_peopleHere_4, hh, w.1.2.2.1, if_neg (nI_nlt (by omega) (by omega))]
  | d + 1, p, hp => by
    have hN := w.2.1.2.2.2.2.1
    have ih := L_hereC_4 hh w d (p + 1) (by omega)
    rw [zmk_s] at ih
    rw [E_House_peopleHere_4, hh, w.1.2.2.1, if_pos (nI_lt (by omega) (by omega)), L_isAway 0 (by omega), zbI_some, zif_b, hh, nI_1, zb2 _ (zmk_256 _ (by omega)) p (by omega), Int32.or_zero]
    by_cases h1 : h 4 p = -4
    · rw [decide_eq_true h1, if_pos rfl]
      rw [if_neg (by unfold zhr; rw [decide_eq_true h1]; decide)] at ih
      exact ih
    · rw [decide_eq_false h1, if_neg (by decide)]
      rw [if_pos (by unfold zhr; rw [decide_eq_false h1]; rfl)] at ih
      exact ih
theorem L_hereC {σ : ZS} {h : Nat → Nat → Int32} {R P N L S : Nat} (hh : σ 1 0 = h) (w : zWF h R P N L S) : zcall 21 [zA 1 0 0] σ = some (zI (nI (zmk (zhr h) N)), σ) := by
  rw [E_House_peopleHere]
  exact L_hereC_4 hh w N 0 (by omega)
theorem L_hereM_4 {σ : ZS} {h : Nat → Nat → Int32} {R P N L S : Nat} (c : zCx σ h R P N L S) : ∀ d p : Nat, p + d = N → zev 173 4 [(0, zA 3 0 0), (1, zI (nI (zmk (zhr h) p))), (2, zI (nI p))] [] σ = some (zI (nI (zmk (zhr h) N)), σ)
  | 0, p, hp => by
    have hN := c.1.2.1.2.2.2.2.1
    obtain rfl : p = N := by omega
    rw [E_M_here_4, c.2.2.2.2.1, if_neg (nI_nlt (by omega) (by omega))]
  | d + 1, p, hp => by
    have hN := c.1.2.1.2.2.2.2.1
    have ih := L_hereM_4 c d (p + 1) (by omega)
    have vp : σ 3 0 1 (12 + 4 * p) = h 4 p := (c.2.1.2.1 p (by omega)).1
    rw [zmk_s] at ih
    rw [E_M_here_4, c.2.2.2.2.1, if_pos (nI_lt (by omega) (by omega)), show (12 + (4 * nI p)) + (0 : Int32) = nI (12 + 4 * p) from zidx 0, zck_nI (by omega) (by decide), nI_clamp (by omega), vp, L_flag0, L_flag1, zbI_some, zbI_some, nI_1, zb2 _ (zmk_256 _ (by omega)) p (by omega), zshl0 p (by omega), Int32.or_zero]
    by_cases h1 : h 4 p = -4
    · rw [if_pos h1]
      rw [if_neg (by unfold zhr; rw [decide_eq_true h1]; decide)] at ih
      exact ih
    · rw [if_neg h1]
      rw [if_pos (by unfold zhr; rw [decide_eq_false h1]; rfl)] at ih
      exact ih
theorem L_hereM {σ : ZS} {h : Nat → Nat → Int32} {R P N L S : Nat} (c : zCx σ h R P N L S) : zcall 173 [zA 3 0 0] σ = some (zI (nI (zmk (zhr h) N)), σ) := by
  rw [E_M_here]
  exact L_hereM_4 c N 0 (by omega)
def zpa (h : Nat → Nat → Int32) (s : Nat) : Bool := !decide (h 3 s = -4)
theorem L_partsC {σ : ZS} {h : Nat → Nat → Int32} {R P N L S : Nat} (hh : σ 1 0 = h) (w : zWF h R P N L S) : ∀ d s : Nat, s + d = R * P → zev 23 4 [(0, zA 1 0 0), (1, zI (nI (zct (zpa h) s))), (2, zI (nI s))] [] σ = some (zI (nI (zct (zpa h) (R * P))), σ)
  | 0, s, hs => by
    have h12 := zRP12 w.2.1.2.1 w.2.1.2.2.2.1
    have m1 : h 0 0 * h 0 1 = nI (R * P) := by rw [w.1.1, w.1.2.1, pk_mul]
    rw [show s = R * P by omega, E_House_seatsWithPart_4, E_House_seats, zbI_some, hh, m1, if_neg (nI_nlt (Nat.le_refl _) (by omega))]
  | d + 1, s, hs => by
    have h12 := zRP12 w.2.1.2.1 w.2.1.2.2.2.1
    have m1 : h 0 0 * h 0 1 = nI (R * P) := by rw [w.1.1, w.1.2.1, pk_mul]
    have ih := L_partsC hh w d (s + 1) (by omega)
    have e : zct (zpa h) (s + 1) = zct (zpa h) s + (if zpa h s = true then 1 else 0) := rfl
    rw [e] at ih
    rw [E_House_seatsWithPart_4, E_House_seats, zbI_some, hh, m1, if_pos (nI_lt (by omega) (by omega)), zck_nI (by omega) (by decide), nI_clamp (by omega), show zcall 69 [zI 0] σ = _ from L_oneIf σ false, show zcall 69 [zI 1] σ = _ from L_oneIf σ true, zbI_some, zbI_some, nI_1]
    by_cases h1 : h 3 s = -4
    · rw [if_pos h1, show nI (zct (zpa h) s) + zb false = nI (zct (zpa h) s) from Int32.add_zero _]
      rw [if_neg (by unfold zpa; rw [decide_eq_true h1]; decide)] at ih
      exact ih
    · rw [if_neg h1, show nI (zct (zpa h) s) + zb true = nI (zct (zpa h) s + 1) from nI_1 ..]
      rw [if_pos (by unfold zpa; rw [decide_eq_false h1]; rfl)] at ih
      exact ih
theorem L_count7 {σ : ZS} {h : Nat → Nat → Int32} {R P N L S : Nat} (c : zCx σ h R P N L S) (x : Int32) : ∀ d s : Nat, s + d = R * P → zev 205 7 [(0, zA 3 0 0), (1, zI x), (2, zI (nI (zct (zpa h) s))), (3, zI 0), (4, zI (nI s))] [] σ = zev 205 50 [(0, zA 3 0 0), (1, zI x), (2, zI (nI (zct (zpa h) (R * P)))), (3, zI 0), (4, zI 0)] [] σ
  | 0, s, hs => by
    have h12 := zRP12 c.1.2.1.2.1 c.1.2.1.2.2.2.1
    have m1 : σ 3 0 0 3 * σ 3 0 0 4 = nI (R * P) := by rw [c.2.2.1, c.2.2.2.1, pk_mul]
    rw [show s = R * P by omega, E_M_count_7, E_M_seats, zbI_some, m1, if_neg (nI_nlt (Nat.le_refl _) (by omega))]
  | d + 1, s, hs => by
    have h12 := zRP12 c.1.2.1.2.1 c.1.2.1.2.2.2.1
    have m1 : σ 3 0 0 3 * σ 3 0 0 4 = nI (R * P) := by rw [c.2.2.1, c.2.2.2.1, pk_mul]
    have ih := L_count7 c x d (s + 1) (by omega)
    have e : zct (zpa h) (s + 1) = zct (zpa h) s + (if zpa h s = true then 1 else 0) := rfl
    rw [e] at ih
    have vs : σ 3 0 1 s = h 3 s := c.2.1.1 s (by omega)
    rw [E_M_count_7, E_M_seats, zbI_some, m1, if_pos (nI_lt (by omega) (by omega)), show (0 : Int32) + nI s = nI s from Int32.zero_add _, zck_nI (by omega) (by decide), nI_clamp (by omega), vs, L_flag0, L_flag1, zbI_some, zbI_some, nI_1]
    by_cases h1 : h 3 s = -4
    · rw [if_pos h1, Int32.add_zero]
      rw [if_neg (by unfold zpa; rw [decide_eq_true h1]; decide)] at ih
      exact ih
    · rw [if_neg h1, nI_1]
      rw [if_pos (by unfold zpa; rw [decide_eq_false h1]; rfl)] at ih
      exact ih
theorem L_count50 {σ : ZS} {h : Nat → Nat → Int32} {R P N L S o : Nat} (c : zCx σ h R P N L S) (ho : h 0 5 = nI o) (ho2 : o < 2 ^ L) (x x2 : Int32) {r : ZR} (hr : ∀ x3, x3 = nI (zct (fun j => o.testBit j) L) → (if x = 0 then (zbI (zcall 173 [zA 3 0 0] σ) (fun x28 σ27 => zbI (zcall 179 [zI x28] σ27) (fun x30 σ29 => some (zI x30, σ29)))) else if x = 1 then (some (zI x2, σ)) else if x = 2 then (some (zI (σ 3 0 1 37), σ)) else if x = 3 then (zbI (zcall 136 [zI (σ 3 0 3 0)] σ) (fun x32 σ31 => zbI (zcall 136 [zI (σ31 3 0 3 1)] σ31) (fun x34 σ33 => some (zI (x32 + x34), σ33)))) else if x = 4 then (some (zI (σ 3 0 0 19), σ)) else if x = 5 then (if (σ 3 0 9 0) = (-4) then (some (zI (-4), σ)) else (some (zI (σ 3 0 10 0), σ))) else if x = 6 then (some (zI x3, σ)) else (some (zI (-1), σ))) = r) : ∀ d i : Nat, i + d = L → zev 205 50 [(0, zA 3 0 0), (1, zI x), (2, zI x2), (3, zI (nI (zct (fun j => o.testBit j) i))), (4, zI (nI i))] [] σ = r
  | 0, i, hi => by
    have hL := c.1.2.1.2.2.2.2.2.1
    obtain rfl : i = L := by omega
    rw [E_M_count_50, c.2.2.2.2.2.1, if_neg (nI_nlt (by omega) (by omega))]
    exact hr _ rfl
  | d + 1, i, hi => by
    have hL := c.1.2.1.2.2.2.2.2.1
    have ih := L_count50 c ho ho2 x x2 hr d (i + 1) (by omega)
    have e : zct (fun j => o.testBit j) (i + 1) = zct (fun j => o.testBit j) i + (if o.testBit i = true then 1 else 0) := rfl
    rw [e] at ih
    have vi : σ 3 0 1 (28 + i) = if o.testBit i then 1 else 0 := by rw [c.2.1.2.2.1 i (by omega), ho, zb1 o (p2_8 hL ho2) i (by omega)]
    rw [E_M_count_50, c.2.2.2.2.2.1, if_pos (nI_lt (by omega) (by omega)), show (28 : Int32) + nI i = nI (28 + i) from nI_add 28 i, zck_nI (by omega) (by decide), nI_clamp (by omega), vi, nI_1]
    cases hb : o.testBit i with
    | true =>
      rw [hb] at ih
      rw [if_pos rfl, nI_1]
      exact ih
    | false =>
      rw [hb] at ih
      rw [if_neg (by decide), Int32.add_zero]
      exact ih
theorem zpop_o {o L : Nat} (hL : L ≤ 8) (ho : o < 2 ^ L) : zpopn 12 o = zct (fun j => o.testBit j) L := by
  unfold zpopn
  rw [show 12 = L + (12 - L) by omega]
  refine zct_tail _ fun j h1 _ => ?_
  exact Nat.testBit_lt_two_pow (Nat.lt_of_lt_of_le ho (Nat.pow_le_pow_right (by omega) h1))
theorem Q_count {σ : ZS} (hi : zInv σ) (x : Int32) : zPair (zcall 116 [zA 0 0 0, zI x]) (zcall 205 [zA 3 0 0, zI x]) σ := by
  obtain ⟨R, P, N, L, S, a1, a2, a3, a4, a5, a6, a7, a8⟩ := id hi
  have hN : N ≤ 4 := a1.2.1.2.2.2.2.1
  have hL : L ≤ 8 := a1.2.1.2.2.2.2.2.1
  have c := zCx_of a1 a2 a3
  obtain ⟨o, ho2, ho⟩ := a1.2.2.2.1.1
  have hm := zmk_256 (zhr (σ 1 0)) (show N ≤ 8 by omega)
  obtain ⟨b, hb⟩ := L_bool (a4 0 (by decide)).2.1
  obtain ⟨b', hb'⟩ := L_bool (a4 1 (by decide)).2.1
  have key : ∃ v, zcall 116 [zA 0 0 0, zI x] σ = some (zI v, σ) ∧ zcall 205 [zA 3 0 0, zI x] σ = some (zI v, σ) := by
    have h7 := L_count7 c x (R * P) 0 (by omega)
    have hM : ∀ r : ZR, _ → zcall 205 [zA 3 0 0, zI x] σ = r := fun r hr => by
      rw [E_M_count]
      rw [show zev 205 7 [(0, zA 3 0 0), (1, zI x), (2, zI 0), (3, zI 0), (4, zI 0)] [] σ = _ from h7]
      exact L_count50 c ho ho2 x (nI (zct (zpa (σ 1 0)) (R * P))) (r := r) hr L 0 (by omega)
    rw [E_S_count]
    by_cases x0 : x = 0
    · refine ⟨nI (zpopn 12 (zmk (zhr (σ 1 0)) N)), ?_, hM _ fun x3 _ => ?_⟩
      · rw [if_pos x0, L_hereC rfl a1, zbI_some, L_bitCount, zbI_some, zbc_n _ (by omega)]
      · rw [if_pos x0, L_hereM c, zbI_some, L_bitsOf hm, zbI_some]
    · by_cases x1 : x = 1
      · refine ⟨nI (zct (zpa (σ 1 0)) (R * P)), ?_, hM _ fun x3 _ => ?_⟩
        · rw [if_neg x0, if_pos x1, E_House_seatsWithPart]
          rw [show zev 23 4 [(0, zA 1 0 0), (1, zI 0), (2, zI 0)] [] σ = _ from L_partsC rfl a1 (R * P) 0 (by omega), zbI_some]
        · rw [if_neg x0, if_pos x1]
      · by_cases x2 : x = 2
        · refine ⟨σ 1 0 0 6, ?_, hM _ fun x3 _ => ?_⟩
          · rw [if_neg x0, if_neg x1, if_pos x2]
          · rw [if_neg x0, if_neg x1, if_pos x2, a2.2.2.2.2.1]
        · by_cases x3 : x = 3
          · refine ⟨zb b + zb b', ?_, hM _ fun x3' _ => ?_⟩
            · rw [if_neg x0, if_neg x1, if_neg x2, if_pos x3, hb, L_oneIf, zbI_some, hb', L_oneIf, zbI_some]
            · rw [if_neg x0, if_neg x1, if_neg x2, if_pos x3, (a4 0 (by decide)).1, hb, L_flag, zbI_some, (a4 1 (by decide)).1, hb', L_flag, zbI_some]
          · by_cases x4 : x = 4
            · obtain ⟨T, -, t1, t2, -⟩ := a6
              refine ⟨nI T, ?_, hM _ fun x3' _ => ?_⟩
              · rw [if_neg x0, if_neg x1, if_neg x2, if_neg x3, if_pos x4, t1]
              · rw [if_neg x0, if_neg x1, if_neg x2, if_neg x3, if_pos x4, t2]
            · by_cases x5 : x = 5
              · obtain ⟨-, l1, l2, -⟩ := a5 0 (by decide)
                refine ⟨if σ 2 0 0 1 = -4 then -4 else σ 2 0 0 2, ?_, hM _ fun x3' _ => ?_⟩
                · rw [if_neg x0, if_neg x1, if_neg x2, if_neg x3, if_neg x4, if_pos x5, show zck 0 4 = zck (nI 0) 4 from rfl, zck_nI (by decide) (by decide), zck_nI (by decide) (by decide), show (0 : Int32).toNatClampNeg = 0 by decide]
                  split <;> rfl
                · rw [if_neg x0, if_neg x1, if_neg x2, if_neg x3, if_neg x4, if_pos x5, l1, l2]
                  split <;> rfl
              · by_cases x6 : x = 6
                · refine ⟨nI (zpopn 12 o), ?_, hM _ fun x3' h3 => ?_⟩
                  · rw [if_neg x0, if_neg x1, if_neg x2, if_neg x3, if_neg x4, if_neg x5, if_pos x6, L_bitCount, zbI_some, ho, zbc_n _ (by have := p2_8 hL ho2; omega)]
                  · rw [if_neg x0, if_neg x1, if_neg x2, if_neg x3, if_neg x4, if_neg x5, if_pos x6, h3, zpop_o hL ho2]
                · refine ⟨-1, ?_, hM _ fun x3' h3 => ?_⟩
                  · rw [if_neg x0, if_neg x1, if_neg x2, if_neg x3, if_neg x4, if_neg x5, if_neg x6]
                  · rw [if_neg x0, if_neg x1, if_neg x2, if_neg x3, if_neg x4, if_neg x5, if_neg x6]
  obtain ⟨v, k1, k2⟩ := key
  exact zPair_same hi k1 k2
