/-! fractions; sums over sets of PEOPLE -/
def zq (i : Int) : Int64 := Int64.ofInt i
theorem zbm {x : Int} (h1 : -2 ^ 62 ≤ x) (h2 : x < 2 ^ 62) : x.bmod (2 ^ 64) = x := by
  rw [Int.bmod_def, show ((2 ^ 64 : Nat) : Int) = 18446744073709551616 by decide]
  split <;> omega
theorem zq_t {i : Int} (h1 : -2 ^ 63 ≤ i) (h2 : i < 2 ^ 63) : (zq i).toInt = i := Int64.toInt_ofInt_of_le h1 h2
theorem zq_I (x : Int32) : x.toInt64 = zq x.toInt := by
  have h1 := Int32.toInt_lt x
  have h2 := Int32.le_toInt x
  rw [← Int64.toInt_inj, Int32.toInt_toInt64, zq_t (by omega) (by omega)]
theorem zq_n {n : Nat} (h : n < 2 ^ 31) : (nI n).toInt64 = zq (n : Int) := by rw [zq_I, nI_toInt h]
theorem zq_add (a b : Int) : zq a + zq b = zq (a + b) := (Int64.ofInt_add a b).symm
theorem zq_mul (a b : Int) : zq a * zq b = zq (a * b) := (Int64.ofInt_mul a b).symm
theorem zq_neg (a : Int) : -zq a = zq (-a) := (Int64.ofInt_neg a).symm
theorem zq_0 : zq 0 = 0 := rfl
theorem zq_1 : zq 1 = 1 := rfl
theorem zq_ne {n : Nat} (h0 : 0 < n) (h : n < 2 ^ 62) : ¬ zq (n : Int) = 0 := by
  intro e
  have h1 := congrArg Int64.toInt e
  rw [zq_t (by omega) (by omega)] at h1
  have h2 : (0 : Int64).toInt = 0 := by decide
  omega
theorem zq_rem {a b : Nat} (ha : a < 2 ^ 62) (hb : b < 2 ^ 62) (h0 : 0 < b) : zq (a : Int) - zq (a : Int) / zq (b : Int) * zq (b : Int) = zq ((a % b : Nat) : Int) := by
  have h1 : a / b ≤ a := Nat.div_le_self a b
  have h2 := Nat.div_add_mod a b
  have h3 := Nat.mod_lt a h0
  have e1 : (zq (a : Int) / zq (b : Int)).toInt = ((a / b : Nat) : Int) := by
    rw [Int64.toInt_div, zq_t (by omega) (by omega), zq_t (by omega) (by omega), ← Int.ofNat_tdiv]
    clear h2
    generalize a / b = q at *
    exact zbm (by omega) (by omega)
  have e2 : ((a / b : Nat) : Int) * (b : Int) = ((a / b * b : Nat) : Int) := by rw [Int.natCast_mul]
  have h4 : b * (a / b) = a / b * b := Nat.mul_comm _ _
  have e3 : (zq (a : Int) / zq (b : Int) * zq (b : Int)).toInt = ((a / b * b : Nat) : Int) := by
    rw [Int64.toInt_mul, e1, zq_t (by omega) (by omega), e2, zbm (by omega) (by omega)]
  rw [← Int64.toInt_inj, Int64.toInt_sub, e3, zq_t (by omega) (by omega), zq_t (by omega) (by omega), zbm (by omega) (by omega)]
  omega
theorem zgcd_s (a b : Nat) : Nat.gcd b (a % b) = Nat.gcd a b := by
  rw [Nat.gcd_comm a b, Nat.gcd_rec b a, Nat.gcd_comm]
theorem zmod_2 {b r : Nat} (h0 : 0 < r) (hr : r < b) : 2 * (b % r) < b := by
  have h1 := Nat.mod_lt b h0
  have h2 := Nat.div_add_mod b r
  have h3 : 1 ≤ b / r := (Nat.one_le_div_iff h0).mpr (by omega)
  have h4 : r * 1 ≤ r * (b / r) := Nat.mul_le_mul_left r h3
  omega
theorem L_cdC {σ : ZS} : ∀ (k a b c : Nat), b < 2 ^ k → a < 2 ^ 62 → b < 2 ^ 62 → c + (2 * k + 1) ≤ 128 → zev 97 9 [(4, zJ (zq (a : Int))), (6, zJ (zq (b : Int))), (8, zI (nI c))] [] σ = some (zJ (zq ((Nat.gcd a b : Nat) : Int)), σ)
  | k, a, b, c, hk, ha, hb, hc => by
    have hc2 : nI c < 128 := nI_lt (b := 128) (by omega) (by decide)
    by_cases b0 : b = 0
    · subst b0
      rw [E_S_commonDivisor_9, if_pos hc2, if_pos (show lg_cmp (zq ((0 : Nat) : Int)) 0 = 0 from (lg_cmp_eq _ _).mpr rfl), Nat.gcd_zero_right]
    · have hb0 : 0 < b := by omega
      cases k with
      | zero => exact absurd hk (by omega)
      | succ k =>
        have hne : ¬ lg_cmp (zq (b : Int)) 0 = 0 := fun z => zq_ne hb0 hb ((lg_cmp_eq _ _).mp z)
        have hz : ∀ r, zdvl (zq (b : Int)) r = r := fun r => if_neg (zq_ne hb0 hb)
        have hr := Nat.mod_lt a hb0
        rw [E_S_commonDivisor_9, if_pos hc2, if_neg hne, hz, zq_rem ha hb hb0, nI_1]
        by_cases r0 : a % b = 0
        · have hc3 : nI (c + 1) < 128 := nI_lt (b := 128) (by omega) (by decide)
          have hg := zgcd_s a b
          rw [r0, Nat.gcd_zero_right] at hg
          rw [r0, E_S_commonDivisor_9, if_pos hc3, if_pos (show lg_cmp (zq ((0 : Nat) : Int)) 0 = 0 from (lg_cmp_eq _ _).mpr rfl), ← hg]
        · have hr0 : 0 < a % b := by omega
          have hc3 : nI (c + 1) < 128 := nI_lt (b := 128) (by omega) (by decide)
          have hne2 : ¬ lg_cmp (zq ((a % b : Nat) : Int)) 0 = 0 := fun z => zq_ne hr0 (by omega) ((lg_cmp_eq _ _).mp z)
          have hz2 : ∀ r, zdvl (zq ((a % b : Nat) : Int)) r = r := fun r => if_neg (zq_ne hr0 (by omega))
          have h2 := zmod_2 hr0 hr
          have hk2 : 2 ^ (k + 1) = 2 * 2 ^ k := by rw [Nat.pow_succ, Nat.mul_comm]
          have hm := Nat.mod_lt b hr0
          rw [E_S_commonDivisor_9, if_pos hc3, if_neg hne2, hz2, zq_rem hb (by omega) hr0, nI_1, L_cdC k (a % b) (b % (a % b)) (c + 1 + 1) (by omega) (by omega) (by omega) (by omega), zgcd_s, zgcd_s]
theorem L_cdM {σ : ZS} : ∀ (n a b : Nat), b < n → a < 2 ^ 62 → b < 2 ^ 62 → zev 188 28 [(4, zJ (zq (a : Int))), (6, zJ (zq (b : Int)))] [] σ = some (zJ (zq ((Nat.gcd a b : Nat) : Int)), σ)
  | 0, a, b, h, _, _ => absurd h (by omega)
  | n + 1, a, b, h, ha, hb => by
    by_cases b0 : b = 0
    · subst b0
      rw [E_M_common_28, if_pos (show lg_cmp (zq ((0 : Nat) : Int)) 0 = 0 from (lg_cmp_eq _ _).mpr rfl), Nat.gcd_zero_right]
    · have hb0 : 0 < b := by omega
      have hne : ¬ lg_cmp (zq (b : Int)) 0 = 0 := fun z => zq_ne hb0 hb ((lg_cmp_eq _ _).mp z)
      have hz : ∀ r, zdvl (zq (b : Int)) r = r := fun r => if_neg (zq_ne hb0 hb)
      have hr := Nat.mod_lt a hb0
      rw [E_M_common_28, if_neg hne, hz, zq_rem ha hb hb0, L_cdM n b (a % b) (by omega) hb (by omega), zgcd_s]
/-- a fraction in lowest terms: numerator, denominator -/
def zfc (t : Int) (b : Nat) (x : Int32) : Int64 := if x = 0 then zq t / zq ((Nat.gcd t.natAbs b : Nat) : Int) else zq (b : Int) / zq ((Nat.gcd t.natAbs b : Nat) : Int)
theorem zfc_g {t : Int} {b : Nat} (hb : 0 < b) (hb2 : b < 2 ^ 62) : 0 < Nat.gcd t.natAbs b ∧ Nat.gcd t.natAbs b < 2 ^ 62 := by
  have h1 := Nat.gcd_pos_of_pos_right t.natAbs hb
  have h2 := Nat.gcd_le_right t.natAbs hb
  omega
theorem L_fracC (σ : ZS) {t : Int} {b : Nat} (h1 : -2 ^ 61 < t) (h2 : t < 2 ^ 61) (hb : 0 < b) (hb2 : b < 2 ^ 62) (x : Int32) : zcall 96 [zJ (zq t), zJ (zq (b : Int)), zI x] σ = some (zJ (zfc t b x), σ) := by
  obtain ⟨g1, g2⟩ := zfc_g (t := t) hb hb2
  have ha : (if 0 < zq t then zq t else -zq t) = zq (t.natAbs : Int) := by
    have e : (0 < zq t) ↔ 0 < t := by rw [Int64.lt_iff_toInt_lt, zq_t (by omega) (by omega)]; rfl
    by_cases h : 0 < t
    · rw [if_pos (e.mpr h), show (t.natAbs : Int) = t by omega]
    · rw [if_neg (fun z => h (e.mp z)), zq_neg, show (t.natAbs : Int) = -t by omega]
  have hz : ∀ r, zdvl (zq ((Nat.gcd t.natAbs b : Nat) : Int)) r = r := fun r => if_neg (zq_ne g1 g2)
  have hne : ¬ lg_cmp (zq ((Nat.gcd t.natAbs b : Nat) : Int)) 0 = 0 := fun z => zq_ne g1 g2 ((lg_cmp_eq _ _).mp z)
  rw [E_S_lowestTerms, ha, E_S_commonDivisor]
  rw [show zev 97 9 [(4, zJ (zq (t.natAbs : Int))), (6, zJ (zq (b : Int))), (8, zI 0)] [] σ = _ from L_cdC 62 t.natAbs b 0 hb2 (by omega) hb2 (by omega), zbJ_some, if_neg hne, hz, hz]
  unfold zfc
  split <;> rfl
theorem L_fracM (σ : ZS) {t : Int} {b : Nat} (h1 : -2 ^ 61 < t) (h2 : t < 2 ^ 61) (hb : 0 < b) (hb2 : b < 2 ^ 62) (x : Int32) : zcall 187 [zJ (zq t), zJ (zq (b : Int)), zI x] σ = some (zJ (zfc t b x), σ) := by
  obtain ⟨g1, g2⟩ := zfc_g (t := t) hb hb2
  have eb : ¬ lg_cmp (zq (b : Int)) 0 < 0 := by
    rw [lg_cmp_lt, Int64.lt_iff_toInt_lt, zq_t (by omega) (by omega), show (0 : Int64).toInt = 0 from rfl]
    omega
  have et : lg_cmp (zq t) 0 < 0 ↔ t < 0 := by
    rw [lg_cmp_lt, Int64.lt_iff_toInt_lt, zq_t (by omega) (by omega)]
    rfl
  have hz : ∀ r, zdvl (zq ((Nat.gcd t.natAbs b : Nat) : Int)) r = r := fun r => if_neg (zq_ne g1 g2)
  have hc : zcall 188 [zJ (zq (b : Int)), zJ (zq t)] σ = some (zJ (zq ((Nat.gcd t.natAbs b : Nat) : Int)), σ) := by
    rw [E_M_common, if_neg eb]
    by_cases h : t < 0
    · rw [if_pos (et.mpr h), zq_neg, show -t = (t.natAbs : Int) by omega, L_cdM (t.natAbs + 1) b t.natAbs (by omega) hb2 (by omega), Nat.gcd_comm]
    · have e2 := L_cdM (σ := σ) (t.natAbs + 1) b t.natAbs (by omega) hb2 (by omega)
      rw [show (t.natAbs : Int) = t by omega, Nat.gcd_comm] at e2
      rw [if_neg (fun z => h (et.mp z))]
      exact e2
  rw [E_M_told, hc, zbJ_some, hz, hz]
  unfold zfc
  split <;> rfl
/-- sums -/
def zsu (g : Nat → Int) : Nat → Int
  | 0 => 0
  | k + 1 => zsu g k + g k
theorem zsu_le {g : Nat → Int} {C : Int} : ∀ n : Nat, (∀ j, j < n → -C ≤ g j ∧ g j ≤ C) → -(n * C) ≤ zsu g n ∧ zsu g n ≤ n * C
  | 0, _ => by unfold zsu; simp
  | n + 1, h => by
    have h1 := zsu_le n (fun j hj => h j (by omega))
    have h2 := h n (by omega)
    unfold zsu
    rw [Int.natCast_add, Int.add_mul]
    omega
theorem zsu_tail {g : Nat → Int} {a : Nat} : ∀ d : Nat, (∀ j, a ≤ j → j < a + d → g j = 0) → zsu g (a + d) = zsu g a
  | 0, _ => rfl
  | d + 1, h => by
    show zsu g (a + d) + g (a + d) = _
    rw [zsu_tail d (fun j h1 h2 => h j h1 (by omega)), h (a + d) (by omega) (by omega), Int.add_zero]
theorem zsu_c {g f : Nat → Int} : ∀ n : Nat, (∀ j, j < n → g j = f j) → zsu g n = zsu f n
  | 0, _ => rfl
  | n + 1, h => by
    unfold zsu
    rw [zsu_c n (fun j hj => h j (by omega)), h n (by omega)]
/-- is the set k part of m -/
def zsb (k m : Nat) : Bool := decide ((nI k &&& (nI m ^^^ (-1))) = 0)
theorem zsb_le : ∀ m, m < 16 → ∀ k, k < 16 → zsb k m = true → k ≤ m ∧ zpopn 12 k ≤ zpopn 12 m ∧ zpopn 12 m ≤ 4 := by decide +kernel
theorem zmk_16 (b : Nat → Bool) {n : Nat} (h : n ≤ 4) : zmk b n < 16 := Nat.lt_of_lt_of_le (zmk_lt b n) (Nat.pow_le_pow_right (n := 2) (by omega) h)
theorem z2p4 : ∀ N, N < 5 → 2 ^ N ≤ 16 ∧ 0 < 2 ^ N := by decide
/-- powers -/
theorem L_pow_5 {σ : ZS} {v n : Nat} (hv : v < 2 ^ 31) (hn : n < 2 ^ 31) : ∀ d i : Nat, i + d = n → zev 101 5 [(0, zI (nI v)), (1, zI (nI n)), (2, zJ (zq ((v ^ i : Nat) : Int))), (4, zI (nI i))] [] σ = some (zJ (zq ((v ^ n : Nat) : Int)), σ)
  | 0, i, h => by
    obtain rfl : i = n := by omega
    rw [E_S_power_5, if_neg (nI_nlt (Nat.le_refl _) hn)]
  | d + 1, i, h => by
    rw [E_S_power_5, if_pos (nI_lt (by omega) hn), zq_n hv, zq_mul, nI_1, ← Int.natCast_mul, ← Nat.pow_succ]
    exact L_pow_5 hv hn d (i + 1) (by omega)
theorem L_pow (σ : ZS) {v n : Nat} (hv : v < 2 ^ 31) (hn : n < 2 ^ 31) : zcall 101 [zI (nI v), zI (nI n)] σ = some (zJ (zq ((v ^ n : Nat) : Int)), σ) := by
  rw [E_S_power]
  exact L_pow_5 hv hn n 0 (by omega)
