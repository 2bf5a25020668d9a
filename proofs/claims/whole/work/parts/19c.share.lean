/-! share -/
/-- who is away matters for those alone who are there -/
theorem zcan_a2 {h : Nat → Nat → Int32} {aw au : Nat → Bool} {i p : Nat} {ahead : Int32} (e : ¬ h 4 p = -4 → aw p = au p) : zcan h aw i ahead p = zcan h au i ahead p := by
  unfold zcan
  by_cases hz : h 4 p = -4
  · rw [decide_eq_true hz]; simp
  · rw [e hz]
theorem zbest_a2 {h : Nat → Nat → Int32} {aw au : Nat → Bool} {i : Nat} {ahead : Int32} : ∀ n, (∀ p, p < n → ¬ h 4 p = -4 → aw p = au p) → zbest h aw i ahead n = zbest h au i ahead n
  | 0, _ => rfl
  | n + 1, e => by
    unfold zbest
    rw [zbest_a2 n (fun p hp => e p (by omega)), zcan_a2 (e n (by omega))]
theorem zns_a2 {h : Nat → Nat → Int32} {aw au cut : Nat → Bool} {N : Nat} (e : ∀ p, p < N → ¬ h 4 p = -4 → aw p = au p) : ∀ i, zns h aw N cut i = zns h au N cut i
  | 0 => rfl
  | i + 1 => by
    unfold zns
    rw [zns_a2 e i]
    unfold znx zsp'
    rw [zbest_a2 N e]
theorem zsp_a2 {h : Nat → Nat → Int32} {aw au cut : Nat → Bool} {N : Nat} (e : ∀ p, p < N → ¬ h 4 p = -4 → aw p = au p) (i : Nat) : zsp h aw N cut i = zsp h au N cut i := by
  unfold zsp
  rw [zns_a2 e i]
  unfold zsp'
  rw [zbest_a2 N e]
theorem zspn_a2 {h : Nat → Nat → Int32} {aw au cut : Nat → Bool} {N L : Nat} (e : ∀ p, p < N → ¬ h 4 p = -4 → aw p = au p) : zspn h aw N cut L = zspn h au N cut L :=
  zct_c L fun i _ => by unfold zspk; rw [zsp_a2 e]
/-- the people of a set alone -/
def zonl (h : Nat → Nat → Int32) (N L k : Nat) : Nat := zspn h (fun q => !k.testBit q) N zno L
theorem zor4 : ∀ k, k < 16 → ∀ p, p < 4 → nI k ||| (1 <<< (nI p &&& 31)) = nI (k ||| 1 <<< p) ∧ k ||| 1 <<< p < 16 := by decide +kernel
theorem znot4 : ∀ k, k < 16 → ∀ q, q < 4 → zaw (nI k ^^^ (-1)) q = !k.testBit q := by decide +kernel
theorem zand4 : ∀ s, s < 16 → ∀ k, k < 16 → ∀ q, q < 4 → zaw (nI s &&& (nI k ^^^ (-1))) q = (s.testBit q && !k.testBit q) := by decide +kernel
theorem L_byC {σ : ZS} {h : Nat → Nat → Int32} {R P N L S k : Nat} (hh : σ 1 0 = h) (w : zWF h R P N L S) (hk : k < 16) : ∃ τ, zcall 98 [zA 0 0 0, zI (nI k)] σ = some (zI (nI (zonl h N L k)), τ) ∧ zfrm zScr σ τ := by
  have hN := w.2.1.2.2.2.2.1
  obtain ⟨τ, t1, t2, -⟩ := L_playA hh w (nI k ^^^ (-1))
  refine ⟨τ, ?_, t2⟩
  rw [E_S_spokenBy, t1, zbI_some]
  unfold zonl
  rw [zspn_aw (fun p hp => znot4 k hk p (by omega))]
theorem L_byM {σ : ZS} {h : Nat → Nat → Int32} {R P N L S k : Nat} (c : zCx σ h R P N L S) (hk : k < 16) : ∃ τ, zcall 183 [zA 3 0 0, zI (nI (zmk (zhr h) N) &&& (nI k ^^^ (-1)))] σ = some (zI (nI (zonl h N L k)), τ) ∧ zfrm zScr σ τ := by
  have hN := c.1.2.1.2.2.2.2.1
  obtain ⟨τ, t1, t2, -⟩ := L_spokenBut c (nI (zmk (zhr h) N) &&& (nI k ^^^ (-1)))
  refine ⟨τ, ?_, t2⟩
  rw [t1]
  unfold zonl
  rw [zspn_a2 (fun p hp hz => ?_)]
  rw [zand4 _ (zmk_16 (zhr h) hN) k hk p (by omega), zmk_tb]
  have e : zhr h p = true := by unfold zhr; rw [decide_eq_false hz]; rfl
  simp [hp, e]
def zfac : Nat → Nat
  | 0 => 1
  | n + 1 => (n + 1) * zfac n
theorem zfac_4 : ∀ n, n < 5 → 0 < zfac n ∧ zfac n ≤ 24 := by decide
theorem L_ord (σ : ZS) : ∀ n, n < 5 → zcall 186 [zI (nI n)] σ = some (zJ (zq ((zfac n : Nat) : Int)), σ) := by
  intro n hn
  have st : ∀ (k : Nat) (y : Int64), k < 5 → ¬ n < k → zev 186 4 [(0, zI (nI n)), (1, zJ y), (3, zI (nI k))] [] σ = zev 186 4 [(0, zI (nI n)), (1, zJ (y * (nI k).toInt64)), (3, zI (nI (k + 1)))] [] σ := fun k y hk hnk => by
    rw [E_M_orders_4, if_neg (nI_nlt (by omega) (by omega)), nI_1]
  have en : ∀ (k : Nat) (y : Int64), k < 6 → n < k → zev 186 4 [(0, zI (nI n)), (1, zJ y), (3, zI (nI k))] [] σ = some (zJ y, σ) := fun k y hk hnk => by
    rw [E_M_orders_4, if_pos (nI_lt hnk (by omega))]
  rw [E_M_orders, show (2 : Int32) = nI 2 from rfl]
  rcases (by omega : n < 2 ∨ n = 2 ∨ n = 3 ∨ n = 4) with h | rfl | rfl | rfl
  · rw [en 2 1 (by omega) h]
    rcases (by omega : n = 0 ∨ n = 1) with rfl | rfl <;> rfl
  · rw [st 2 _ (by omega) (by omega), en 3 _ (by omega) (by omega)]
    rfl
  · rw [st 2 _ (by omega) (by omega), st 3 _ (by omega) (by omega), en 4 _ (by omega) (by omega)]
    rfl
  · rw [st 2 _ (by omega) (by omega), st 3 _ (by omega) (by omega), st 4 _ (by omega) (by omega), en 5 _ (by omega) (by omega)]
    rfl
theorem zORD {σ : ZS} (a8 : zKo σ) : σ 5 0 1 0 = nI 5 ∧ ∀ n, n < 5 → σ 5 0 0 n = nI (zfac n) := by
  obtain ⟨⟨k1, k2, k3, k4, k5, k6⟩, -⟩ := a8
  refine ⟨k6, fun n hn => ?_⟩
  rcases (by omega : n = 0 ∨ n = 1 ∨ n = 2 ∨ n = 3 ∨ n = 4) with rfl | rfl | rfl | rfl | rfl
  · exact k1
  · exact k2
  · exact k3
  · exact k4
  · exact k5
theorem zKo_f {σ τ : ZS} (f : zfrm zScr σ τ) (a8 : zKo σ) : zKo τ := by
  have k5 : τ 5 = σ 5 := funext fun g => funext fun j => f 5 g j (by simp [zScr, zScC])
  have k6 : τ 6 = σ 6 := funext fun g => funext fun j => f 6 g j (by simp [zScr, zScC])
  unfold zKo
  rw [k5, k6]
  exact a8
/-- what a set ahead of him adds: o of those there beside him -/
def zsg (h : Nat → Nat → Int32) (N L o p k : Nat) : Int := if zsb k o = true then ((zonl h N L (k ||| 1 <<< p) : Int) - (zonl h N L k : Int)) * ((zfac (zpopn 12 k) : Nat) : Int) * ((zfac (zpopn 12 o - zpopn 12 k) : Nat) : Int) else 0
theorem zf3 : ∀ a, a < 4 → ∀ b, b < 4 → zfac a * zfac b ≤ 36 := by decide
theorem zsg_le {h : Nat → Nat → Int32} {N L o p : Nat} (hL : L ≤ 8) (ho : o < 16) (hp : zpopn 12 o ≤ 3) (k : Nat) (hk : k < 16) : -288 ≤ zsg h N L o p k ∧ zsg h N L o p k ≤ 288 := by
  unfold zsg
  by_cases hs : zsb k o = true
  · obtain ⟨h1, h2, h3⟩ := zsb_le o ho k hk hs
    have h4 := zf3 (zpopn 12 k) (by omega) (zpopn 12 o - zpopn 12 k) (by omega)
    rw [if_pos hs, Int.mul_assoc, ← Int.natCast_mul]
    have a1 : zonl h N L (k ||| 1 <<< p) ≤ 8 := Nat.le_trans (zct_le _ _) hL
    have a2 : zonl h N L k ≤ 8 := Nat.le_trans (zct_le _ _) hL
    generalize zfac (zpopn 12 k) * zfac (zpopn 12 o - zpopn 12 k) = f at *
    generalize zonl h N L (k ||| 1 <<< p) = a at *
    generalize zonl h N L k = b at *
    have m1 : a * f ≤ 8 * 36 := Nat.mul_le_mul a1 h4
    have m2 : b * f ≤ 8 * 36 := Nat.mul_le_mul a2 h4
    rw [Int.sub_mul, ← Int.natCast_mul, ← Int.natCast_mul]
    omega
  · rw [if_neg hs]; omega
theorem zoth' : ∀ m, m < 16 → ∀ p, p < 4 → m.testBit p = true → m - 2 ^ p < 16 ∧ nI m &&& ((1 <<< (nI p &&& 31)) ^^^ (-1)) = nI (m - 2 ^ p) ∧ m - 2 ^ p ≤ m ∧ zpopn 12 (m - 2 ^ p) + 1 = zpopn 12 m ∧ zpopn 12 m ≤ 4 ∧ ∀ k, k < 16 → zsb k (m - 2 ^ p) = (zsb k m && !k.testBit p) := by
  decide +kernel
theorem zoth (m : Nat) (hm : m < 16) (p : Nat) (hp : p < 4) (h : m.testBit p = true) : ∃ o, o < 16 ∧ nI m &&& ((1 <<< (nI p &&& 31)) ^^^ (-1)) = nI o ∧ o ≤ m ∧ zpopn 12 o + 1 = zpopn 12 m ∧ zpopn 12 m ≤ 4 ∧ ∀ k, k < 16 → zsb k o = (zsb k m && !k.testBit p) := ⟨m - 2 ^ p, zoth' m hm p hp h⟩
/-- the class's term -/
theorem zterm (a b f g : Nat) (ha : a ≤ 8) (hb : b ≤ 8) (hf : f * g ≤ 36) : ((nI f * nI g) * (nI a - nI b)).toInt64 = zq (((a : Int) - (b : Int)) * (f : Int) * (g : Int)) := by
  have e1 : (nI a - nI b).toInt = (a : Int) - b := pk_sub_toInt (by omega) (by omega)
  have m1 : (f * g) * a ≤ 36 * 8 := Nat.mul_le_mul hf ha
  have m2 : (f * g) * b ≤ 36 * 8 := Nat.mul_le_mul hf hb
  have e2 : ((nI f * nI g) * (nI a - nI b)).toInt = ((a : Int) - (b : Int)) * (f : Int) * (g : Int) := by
    rw [pk_mul, Int32.toInt_mul, e1, nI_toInt (by omega), Int.mul_sub, ← Int.natCast_mul, ← Int.natCast_mul, Int.mul_assoc ((a : Int) - (b : Int)), Int.mul_comm ((a : Int) - (b : Int)), ← Int.natCast_mul, Int.mul_sub, ← Int.natCast_mul, ← Int.natCast_mul, Int.bmod_def]
    omega
  rw [zq_I, e2]
theorem L_share68 {h : Nat → Nat → Int32} {R P N L S o p : Nat} (w : zWF h R P N L S) (hp : p < 4) (ho : o < 16) (hop : zpopn 12 o ≤ 3) (x : Int32) : ∀ (d k : Nat) (σ : ZS), k + d = o + 1 → σ 1 0 = h → zKo σ →
    ∃ τ, zev 95 68 [(0, zA 0 0 0), (1, zI (nI p)), (2, zI x), (3, zI (nI o)), (4, zI (nI (zpopn 12 o))), (5, zJ (zq (zsu (zsg h N L o p) k))), (7, zI (nI k))] [] σ = some (zJ (zfc (zsu (zsg h N L o p) (o + 1)) (zfac (zpopn 12 o + 1)) x), τ) ∧ zfrm zScr σ τ
  | 0, k, σ, hk, hh, a8 => by
    have hL := w.2.1.2.2.2.2.2.1
    obtain ⟨k1, k2⟩ := zORD a8
    obtain rfl : k = o + 1 := by omega
    have hs := zsu_le (g := zsg h N L o p) (C := 288) (o + 1) (fun j hj => zsg_le hL ho hop j (by omega))
    have hf := zfac_4 (zpopn 12 o + 1) (by omega)
    refine ⟨σ, ?_, zfrm_r⟩
    rw [E_S_share_68, if_pos (nI_lt (by omega) (by omega)), k1, nI_1, nI_clamp (by omega), zck_nI (by omega) (by decide), nI_clamp (by omega), k2 _ (by omega), zq_n (by omega), L_fracC σ (by omega) (by omega) hf.1 (by omega), zbJ_some]
  | d + 1, k, σ, hk, hh, a8 => by
    have hL := w.2.1.2.2.2.2.2.1
    obtain ⟨k1, k2⟩ := zORD a8
    have hk16 : k < 16 := by omega
    have hle : ¬ nI o < nI k := nI_nlt (by omega) (by omega)
    by_cases hs : zsb k o = true
    · obtain ⟨h1, h2, h3⟩ := zsb_le o ho k hk16 hs
      obtain ⟨e1, e2⟩ := zor4 k hk16 p hp
      obtain ⟨τ, t1, t2⟩ := L_byC hh w e2
      obtain ⟨υ, u1, u2⟩ := L_byC (σ := τ) (by rw [zh_f t2, hh]) w hk16
      have f := zfrm_t t2 u2
      obtain ⟨ω, v1, v2⟩ := L_share68 w hp ho hop x d (k + 1) υ (by omega) (by rw [zh_f f, hh]) (zKo_f f a8)
      refine ⟨ω, ?_, zfrm_t f v2⟩
      have ed : nI (zpopn 12 o) - nI (zpopn 12 k) = nI (zpopn 12 o - zpopn 12 k) := pk_sub h2
      have eg : zsu (zsg h N L o p) (k + 1) = zsu (zsg h N L o p) k + ((zonl h N L (k ||| 1 <<< p) : Int) - (zonl h N L k : Int)) * ((zfac (zpopn 12 k) : Nat) : Int) * ((zfac (zpopn 12 o - zpopn 12 k) : Nat) : Int) := by
        show zsu _ k + zsg h N L o p k = _
        unfold zsg
        rw [if_pos hs]
      have a1 : zonl h N L (k ||| 1 <<< p) ≤ 8 := Nat.le_trans (zct_le _ _) hL
      have a2 : zonl h N L k ≤ 8 := Nat.le_trans (zct_le _ _) hL
      have b1 := zf3 (zpopn 12 k) (by omega) (zpopn 12 o - zpopn 12 k) (by omega)
      rw [E_S_share_68, if_neg hle, if_pos (of_decide_eq_true hs), L_bitCount, zbI_some, zbc_n k (by omega), k1, ed, nI_clamp (show 5 < 2 ^ 31 by decide), zck_nI (by omega) (by decide), zck_nI (by omega) (by decide), nI_clamp (by omega), nI_clamp (by omega), k2 _ (by omega), k2 _ (by omega), e1]
      dsimp only
      rw [t1, zbI_some, u1, zbI_some, zterm _ _ _ _ a1 a2 b1, zq_add, nI_1, ← eg]
      exact v1
    · obtain ⟨υ, u1, u2⟩ := L_share68 w hp ho hop x d (k + 1) σ (by omega) hh a8
      refine ⟨υ, ?_, u2⟩
      have eg : zsu (zsg h N L o p) (k + 1) = zsu (zsg h N L o p) k := by
        show zsu _ k + zsg h N L o p k = _
        unfold zsg
        rw [if_neg hs, Int.add_zero]
      rw [E_S_share_68, if_neg hle, if_neg (fun z => hs (decide_eq_true z)), nI_1, ← eg]
      exact u1
theorem L_share50 {h : Nat → Nat → Int32} {R P N L S o p : Nat} (hp : p < N) (ho : o < 16) (hop : zpopn 12 o + 1 = zpopn 12 (zmk (zhr h) N)) (hom : zpopn 12 (zmk (zhr h) N) ≤ 4) (hok : ∀ k, k < 16 → zsb k o = (zsb k (zmk (zhr h) N) && !k.testBit p)) (x : Int32) : ∀ (d k : Nat) (σ : ZS), k + d = 2 ^ N → zCx σ h R P N L S →
    ∃ τ, zev 185 50 [(0, zA 3 0 0), (1, zI (nI p)), (2, zI x), (3, zI (nI (zmk (zhr h) N))), (4, zI (nI (zpopn 12 (zmk (zhr h) N)))), (5, zJ (zq (zsu (zsg h N L o p) k))), (7, zI (nI k))] [] σ = some (zJ (zfc (zsu (zsg h N L o p) (2 ^ N)) (zfac (zpopn 12 o + 1)) x), τ) ∧ zfrm zScr σ τ
  | 0, k, σ, hk, c => by
    have hN := c.1.2.1.2.2.2.2.1
    have hL := c.1.2.1.2.2.2.2.2.1
    have hp2 := z2p4 N (by omega)
    have hs := zsu_le (g := zsg h N L o p) (C := 288) (2 ^ N) (fun j hj => zsg_le hL ho (by omega) j (by omega))
    have hf := zfac_4 (zpopn 12 o + 1) (by omega)
    refine ⟨σ, ?_, zfrm_r⟩
    rw [show k = 2 ^ N by omega, E_M_share_50, c.2.2.2.2.1, (z2p N (by omega)).1, if_neg (nI_nlt (Nat.le_refl _) (by omega)), ← hop, L_ord σ _ (by omega), zbJ_some, L_fracM σ (by omega) (by omega) hf.1 (by omega), zbJ_some]
  | d + 1, k, σ, hk, c => by
    have hN := c.1.2.1.2.2.2.2.1
    have hL := c.1.2.1.2.2.2.2.2.1
    have hp2 := z2p4 N (by omega)
    have hm := zmk_16 (zhr h) hN
    have hlt : nI k < nI (2 ^ N) := nI_lt (by omega) (by omega)
    have hk16 : k < 16 := by omega
    have hx := hok k hk16
    have skip : zsb k o = false → zsu (zsg h N L o p) (k + 1) = zsu (zsg h N L o p) k := fun hs => by
      show zsu _ k + zsg h N L o p k = _
      unfold zsg
      rw [if_neg (by rw [hs]; decide), Int.add_zero]
    by_cases h1 : zsb k (zmk (zhr h) N) = true
    · have eb : (nI k >>> (nI p &&& 31)) &&& 1 = if k.testBit p then 1 else 0 := zbit12 k (by omega) p (by omega)
      cases h2 : k.testBit p with
      | true =>
        obtain ⟨υ, u1, u2⟩ := L_share50 hp ho hop hom hok x d (k + 1) σ (by omega) c
        rw [skip (by rw [hx, h1, h2]; rfl)] at u1
        refine ⟨υ, ?_, u2⟩
        rw [E_M_share_50, c.2.2.2.2.1, (z2p N (by omega)).1, if_pos hlt, if_pos (of_decide_eq_true h1), eb, h2, if_pos rfl, if_neg (by decide), nI_1]
        exact u1
      | false =>
        have hs : zsb k o = true := by rw [hx, h1, h2]; rfl
        obtain ⟨g1, g2, g3⟩ := zsb_le o ho k hk16 hs
        obtain ⟨e1, e2⟩ := zor4 k hk16 p (by omega)
        obtain ⟨τ, t1, t2⟩ := L_byM c e2
        have c2 := zCx_f t2 c
        obtain ⟨υ, v1, v2⟩ := L_byM c2 hk16
        have c3 := zCx_f v2 c2
        obtain ⟨ω, u1, u2⟩ := L_share50 hp ho hop hom hok x d (k + 1) υ (by omega) c3
        refine ⟨ω, ?_, zfrm_t (zfrm_t t2 v2) u2⟩
        have eg : zsu (zsg h N L o p) (k + 1) = zsu (zsg h N L o p) k + ((zonl h N L (k ||| 1 <<< p) : Int) - (zonl h N L k : Int)) * ((zfac (zpopn 12 k) : Nat) : Int) * ((zfac (zpopn 12 o - zpopn 12 k) : Nat) : Int) := by
          show zsu _ k + zsg h N L o p k = _
          unfold zsg
          rw [if_pos hs]
        have a1 : zonl h N L (k ||| 1 <<< p) ≤ 8 := Nat.le_trans (zct_le _ _) hL
        have a2 : zonl h N L k ≤ 8 := Nat.le_trans (zct_le _ _) hL
        have ed : (nI (zpopn 12 (zmk (zhr h) N)) - nI (zpopn 12 k)) - 1 = nI (zpopn 12 o - zpopn 12 k) := by
          rw [← hop, pk_sub (by omega), show zpopn 12 o + 1 - zpopn 12 k = (zpopn 12 o - zpopn 12 k) + 1 by omega, nI_pred]
        have et : (nI (zonl h N L (k ||| 1 <<< p)) - nI (zonl h N L k)).toInt64 = zq ((zonl h N L (k ||| 1 <<< p) : Int) - (zonl h N L k : Int)) := by
          rw [zq_I, pk_sub_toInt (by omega) (by omega)]
        rw [E_M_share_50, c.2.2.2.2.1, (z2p N (by omega)).1, if_pos hlt, if_pos (of_decide_eq_true h1), eb, h2, if_pos (show (if false = true then (1 : Int32) else 0) = 0 from rfl), L_bitsOf (by omega), zbI_some, e1, t1, zbI_some, v1, zbI_some, L_ord υ _ (by omega), zbJ_some, ed, L_ord υ _ (by omega), zbJ_some, et, zq_mul, zq_mul, zq_add, nI_1, ← eg]
        exact u1
    · obtain ⟨υ, u1, u2⟩ := L_share50 hp ho hop hom hok x d (k + 1) σ (by omega) c
      rw [skip (by rw [hx]; simp [h1])] at u1
      refine ⟨υ, ?_, u2⟩
      rw [E_M_share_50, c.2.2.2.2.1, (z2p N (by omega)).1, if_pos hlt, if_neg (fun z => h1 (decide_eq_true z)), nI_1]
      exact u1
theorem Q_share {σ : ZS} (hi : zInv σ) (x y : Int32) : zPairJ (zcall 95 [zA 0 0 0, zI x, zI y]) (zcall 185 [zA 3 0 0, zI x, zI y]) σ := by
  obtain ⟨R, P, N, L, S, a1, a2, a3, a4, a5, a6, a7, a8⟩ := id hi
  have hN : N ≤ 4 := a1.2.1.2.2.2.2.1
  have hL : L ≤ 8 := a1.2.1.2.2.2.2.2.1
  have n1 : σ 1 0 0 3 = nI N := a1.1.2.2.1
  have n2 : σ 3 0 0 5 = nI N := a3.2.2.1.trans n1
  have c := zCx_of a1 a2 a3
  have hm := zmk_16 (zhr (σ 1 0)) hN
  unfold zPairJ
  simp only [E_S_share, E_M_share, L_hasOne, L_isOne, L_is0_1, L_in0_1, zbI_some, zif_b, n1]
  rcases zin2_c x (n := N) (by omega) with h1 | ⟨p, hp, rfl, h1⟩
  · rw [h1]
    exact ⟨-1, σ, σ, rfl, by rw [n2, h1]; rfl, hi⟩
  · rw [h1]
    cases h2 : zin2 y (nI 0) (nI 1) with
    | false => exact ⟨-1, σ, σ, rfl, by rw [n2, h1]; rfl, hi⟩
    | true =>
      have hb : (nI (zmk (zhr (σ 1 0)) N) >>> (nI p &&& 31)) &&& 1 = if (zmk (zhr (σ 1 0)) N).testBit p then 1 else 0 := zbit12 _ (by omega) p (by omega)
      have tb : (zmk (zhr (σ 1 0)) N).testBit p = zhr (σ 1 0) p := by rw [zmk_tb]; simp [hp]
      have y01 : y = 0 ∨ y = 1 := by
        rcases zin2_u y 1 with q | ⟨v, hv, rfl, -⟩
        · rw [h2] at q; exact absurd q (by decide)
        · rcases (by omega : v = 0 ∨ v = 1) with rfl | rfl
          · exact Or.inl rfl
          · exact Or.inr rfl
      by_cases h3 : σ 1 0 4 p = -4
      · refine ⟨y.toInt64, σ, σ, ?_, ?_, hi⟩
        · have e : zfc 0 1 y = y.toInt64 := by rcases y01 with rfl | rfl <;> decide
          have hf := L_fracC σ (t := 0) (b := 1) (by decide) (by decide) (by decide) (by decide) y
          rw [if_pos rfl, if_pos rfl, L_isAway 0 (by omega), zbI_some, h3, zif_b, decide_eq_true rfl, if_pos rfl]
          rw [show zcall 96 [zJ 0, zJ 1, zI y] σ = _ from hf, zbJ_some, e]
        · rw [n2, h1, if_pos rfl, if_pos rfl, L_hereM c, zbI_some, L_bitsOf (by omega), zbI_some, hb, tb, show zhr (σ 1 0) p = false by unfold zhr; rw [decide_eq_true h3]; rfl, if_pos (show (if false = true then (1 : Int32) else 0) = 0 from rfl)]
      · have ht : (zmk (zhr (σ 1 0)) N).testBit p = true := by rw [tb]; unfold zhr; rw [decide_eq_false h3]; rfl
        obtain ⟨o, o1, o2, o3, o4, o5, o6⟩ := zoth _ hm p (by omega) ht
        obtain ⟨τ, t1, t2⟩ := L_share68 a1 (show p < 4 by omega) o1 (by omega) y (o + 1) 0 σ (by omega) rfl a8
        obtain ⟨υ, u1, u2⟩ := L_share50 hp o1 o4 o5 o6 y (2 ^ N) 0 τ (by omega) (zCx_f t2 c)
        have e5 : τ 3 0 0 5 = nI N := by rw [t2 3 0 0 (by simp [zScr, zScC])]; exact n2
        have es : zsu (zsg (σ 1 0) N L o p) (2 ^ N) = zsu (zsg (σ 1 0) N L o p) (o + 1) := by
          have hm2 := zmk_lt (zhr (σ 1 0)) N
          have hp2 := z2p4 N (by omega)
          have := zsu_tail (g := zsg (σ 1 0) N L o p) (a := o + 1) (2 ^ N - (o + 1)) (fun j q1 q2 => by
            unfold zsg
            refine if_neg fun z => ?_
            have := (zsb_le o o1 j (by omega) z).1
            omega)
          rw [show o + 1 + (2 ^ N - (o + 1)) = 2 ^ N by omega] at this
          exact this
        rw [es] at u1
        refine ⟨_, τ, υ, Eq.trans ?_ t1, Eq.trans ?_ u1, zInv_q u2 (zInv_q t2 hi)⟩
        · rw [if_pos rfl, if_pos rfl, L_isAway 0 (by omega), zbI_some, zif_b, decide_eq_false h3, if_neg (by decide), L_hereC rfl a1, zbI_some, o2, L_bitCount, zbI_some, zbc_n o (by omega)]
          rfl
        · rw [e5, h1, if_pos rfl, if_pos rfl, L_hereM (zCx_f t2 c), zbI_some, L_bitsOf (by omega), zbI_some, hb, ht, if_pos rfl, if_neg (by decide)]
          rfl
