/-! how many, as a number and as bits -/
def zct (b : Nat → Bool) : Nat → Nat
  | 0 => 0
  | n + 1 => zct b n + (if b n = true then 1 else 0)
def zmk (b : Nat → Bool) : Nat → Nat
  | 0 => 0
  | n + 1 => if b n = true then zmk b n ||| 1 <<< n else zmk b n
theorem zmk_s (b : Nat → Bool) (n : Nat) : zmk b (n + 1) = if b n = true then zmk b n ||| 1 <<< n else zmk b n := rfl
theorem zmk_lt (b : Nat → Bool) : ∀ n, zmk b n < 2 ^ n
  | 0 => Nat.one_pos
  | n + 1 => by
    have h := zmk_lt b n
    have h2 : (2 : Nat) ^ n < 2 ^ (n + 1) := Nat.pow_lt_pow_right (by omega) (by omega)
    unfold zmk
    split
    · exact zor_lt (by omega) (by omega)
    · omega
theorem zmk_tb (b : Nat → Bool) : ∀ n j, (zmk b n).testBit j = (decide (j < n) && b j)
  | 0, j => by simp [zmk]
  | n + 1, j => by
    unfold zmk
    by_cases hb : b n = true
    · rw [if_pos hb, tb_or, zmk_tb b n j]
      by_cases h1 : j = n
      · subst h1; simp [hb]
      · by_cases h2 : j < n
        · simp [h2, show j < n + 1 by omega]
          omega
        · simp [h2, show ¬ j < n + 1 by omega]
          omega
    · rw [if_neg hb, zmk_tb b n j]
      by_cases h1 : j = n
      · subst h1; simp [hb]
      · by_cases h2 : j < n
        · simp [h2, show j < n + 1 by omega]
        · simp [h2, show ¬ j < n + 1 by omega]
theorem zct_c {b c : Nat → Bool} : ∀ n, (∀ j, j < n → b j = c j) → zct b n = zct c n
  | 0, _ => rfl
  | n + 1, h => by
    unfold zct
    rw [zct_c n (fun j hj => h j (by omega)), h n (by omega)]
theorem zct_tail {b : Nat → Bool} {n : Nat} : ∀ m, (∀ j, n ≤ j → j < n + m → b j = false) → zct b (n + m) = zct b n
  | 0, _ => rfl
  | m + 1, h => by
    have e : zct b (n + (m + 1)) = zct b (n + m) + (if b (n + m) = true then 1 else 0) := rfl
    rw [e, zct_tail m (fun j h1 h2 => h j h1 (by omega)), h (n + m) (by omega) (by omega)]
    rfl
theorem zct_le (b : Nat → Bool) : ∀ n, zct b n ≤ n
  | 0 => Nat.le_refl 0
  | n + 1 => by
    have := zct_le b n
    unfold zct
    split <;> omega
/-- the bits of a number below n, counted -/
def zpopn (n x : Nat) : Nat := zct (fun j => x.testBit j) n
theorem zpop_mk (b : Nat → Bool) {n m : Nat} (h : n ≤ m) : zpopn m (zmk b n) = zct b n := by
  obtain ⟨d, rfl⟩ := Nat.exists_eq_add_of_le h
  unfold zpopn
  rw [zct_tail d (fun j h1 _ => by rw [zmk_tb]; simp [show ¬ j < n by omega])]
  exact zct_c n (fun j hj => by rw [zmk_tb]; simp [hj])
def zbc (x0 : Int32) : Int32 :=
  let x21 : Int32 := x0 - (((x0.toUInt32 >>> ((1 : Int32).toUInt32 &&& Int32.toUInt32 31)).toInt32) &&& 1431655765); let x22 : Int32 := (x21 &&& 858993459) + (((x21.toUInt32 >>> ((2 : Int32).toUInt32 &&& Int32.toUInt32 31)).toInt32) &&& 858993459); let x23 : Int32 := (x22 + ((x22.toUInt32 >>> ((4 : Int32).toUInt32 &&& Int32.toUInt32 31)).toInt32)) &&& 252645135; let x24 : Int32 := x23 + ((x23.toUInt32 >>> ((8 : Int32).toUInt32 &&& Int32.toUInt32 31)).toInt32); let x25 : Int32 := x24 + ((x24.toUInt32 >>> ((16 : Int32).toUInt32 &&& Int32.toUInt32 31)).toInt32); x25 &&& 63
theorem L_bitCount (σ : ZS) (x : Int32) : zcall 214 [zI x] σ = some (zI (zbc x), σ) := E_Integer_bitCount σ x
theorem zbc_n' : ∀ a, a < 16 → ∀ b, b < 256 → zbc (nI (256 * a + b)) = nI (zpopn 12 (256 * a + b)) := by decide +kernel
theorem zbc_n (n : Nat) (h : n < 4096) : zbc (nI n) = nI (zpopn 12 n) := by
  have := zbc_n' (n / 256) (by omega) (n % 256) (by omega)
  rw [show 256 * (n / 256) + n % 256 = n by omega] at this
  exact this
/-! the class's night -/
def zspk (h : Nat → Nat → Int32) (aw : Nat → Bool) (N : Nat) (cut : Nat → Bool) (i : Nat) : Bool := !decide (zsp h aw N cut i = -4)
/-- how many LINES are SPOKEN -/
def zspn (h : Nat → Nat → Int32) (aw : Nat → Bool) (N : Nat) (cut : Nat → Bool) (L : Nat) : Nat := zct (zspk h aw N cut) L
def zPX (c g j : Nat) : Prop := c = 0 ∧ g = 0 ∧ (j = 7 ∨ j = 8)
theorem zns_1 {h : Nat → Nat → Int32} {aw : Nat → Bool} {N : Nat} {cut : Nat → Bool} {i : Nat} (hc : cut i = true) : zns h aw N cut (i + 1) = zat' h (zns h aw N cut i) i := if_pos hc
theorem zns_2 {h : Nat → Nat → Int32} {aw : Nat → Bool} {N : Nat} {cut : Nat → Bool} {i : Nat} (hc : cut i = false) : zns h aw N cut (i + 1) = (zsp h aw N cut i, if zsp h aw N cut i = -4 then decide (h 0 2 = 0) else (zat' h (zns h aw N cut i) i).2) := if_neg (by rw [hc]; decide)
theorem zsp_1 {h : Nat → Nat → Int32} {aw : Nat → Bool} {N : Nat} {cut : Nat → Bool} {i : Nat} (hc : cut i = true) : zsp h aw N cut i = -4 := if_pos hc
theorem zsp_2 {h : Nat → Nat → Int32} {aw : Nat → Bool} {N : Nat} {cut : Nat → Bool} {i : Nat} (hc : cut i = false) : zsp h aw N cut i = if (zat' h (zns h aw N cut i) i).2 = true then -4 else zbest h aw i (zat' h (zns h aw N cut i) i).1 N := if_neg (by rw [hc]; decide)
theorem zup_o' {σ : ZS} {i g : Nat} {v : Int32} : zup σ 0 0 8 i v 1 g = σ 1 g := funext fun j => zup_o (by omega)
theorem L_play_15 {h : Nat → Nat → Int32} {g P M N L : Nat} {aw : Nat → Bool} {cut : Nat → Bool} {away cuts : Int32} (w : zNW h P M N L) (haw : ∀ p, p < N → zbit away p = zb (aw p)) (hcut : ∀ i, i < L → zbit cuts i = zb (cut i)) : ∀ (d i : Nat) (σ : ZS), i + d = L → σ 1 g = h → (∀ k, k < i → σ 0 0 8 k = zsp h aw N cut k) → σ 0 0 7 1 = nI (zmk (zspk h aw N cut) i) →
    ∃ τ, zev 24 15 [(0, zA 0 0 7), (1, zA 1 g 0), (2, zI away), (3, zI cuts), (4, zI (zns h aw N cut i).1), (5, zI (zb (zns h aw N cut i).2)), (6, zI (nI i))] [] σ = some (zI (nI (zspn h aw N cut L)), τ) ∧ zfrm zPX σ τ ∧ (∀ k, k < L → τ 0 0 8 k = zsp h aw N cut k) ∧ τ 0 0 7 1 = nI (zmk (zspk h aw N cut) L)
  | 0, i, σ, hi, hh, hs, hm => by
    obtain rfl : i = L := by omega
    have hL : i ≤ 8 := w.2.2.2.1
    refine ⟨σ, ?_, zfrm_r, hs, hm⟩
    have hb := zmk_lt (zspk h aw N cut) i
    have hb2 : (2 : Nat) ^ i ≤ 2 ^ 8 := Nat.pow_le_pow_right (by omega) hL
    rw [E_Night_play_15, hh, w.2.1, if_neg (nI_nlt (by omega) (by omega)), L_bitCount, zbI_some, hm, zbc_n _ (by omega), zpop_mk _ (by omega)]
    rfl
  | d + 1, i, σ, hi, hh, hs, hm => by
    have hL : L ≤ 8 := w.2.2.2.1
    have hiL : i < L := by omega
    have i8 : i < 8 := by omega
    have hah := zah_at (i := i) (zah_ns (cut := cut) (aw := aw) w i)
    -- the stops behind the line
    have go : ∀ υ : ZS, zfrm zPX σ υ → (∀ k, k < i + 1 → υ 0 0 8 k = zsp h aw N cut k) → υ 0 0 7 1 = nI (zmk (zspk h aw N cut) (i + 1)) → ∃ τ, zev 24 15 [(0, zA 0 0 7), (1, zA 1 g 0), (2, zI away), (3, zI cuts), (4, zI (zns h aw N cut (i + 1)).1), (5, zI (zb (zns h aw N cut (i + 1)).2)), (6, zI (nI i + 1))] [] υ = some (zI (nI (zspn h aw N cut L)), τ) ∧ zfrm zPX σ τ ∧ (∀ k, k < L → τ 0 0 8 k = zsp h aw N cut k) ∧ τ 0 0 7 1 = nI (zmk (zspk h aw N cut) L) := by
      intro υ h1 h2 h3
      obtain ⟨τ, t1, t2, t3⟩ := L_play_15 w haw hcut d (i + 1) υ (by omega) (by rw [← hh]; funext j; exact h1 1 g j (by simp [zPX])) h2 h3
      rw [nI_1]
      exact ⟨τ, t1, zfrm_t h1 t2, t3⟩
    have hcutd : cut i = true → ∃ τ, zev 24 15 [(0, zA 0 0 7), (1, zA 1 g 0), (2, zI away), (3, zI cuts), (4, zI (zat' h (zns h aw N cut i) i).1), (5, zI (zb (zat' h (zns h aw N cut i) i).2)), (6, zI (nI i + 1))] [] (zup σ 0 0 8 i (-4)) = some (zI (nI (zspn h aw N cut L)), τ) ∧ zfrm zPX σ τ ∧ (∀ k, k < L → τ 0 0 8 k = zsp h aw N cut k) ∧ τ 0 0 7 1 = nI (zmk (zspk h aw N cut) L) := by
      intro hc
      rw [← zns_1 hc]
      refine go _ (zfrm_up zfrm_r ⟨rfl, rfl, Or.inr rfl⟩) ?_ ?_
      · intro k hk
        rw [zup_m]
        by_cases hki : k = i
        · rw [hki, zru_s, zsp_1 hc]
        · rw [zru_o hki]; exact hs k (by omega)
      · rw [zup_o (by decide), hm]
        rw [zmk_s, if_neg]
        unfold zspk
        rw [zsp_1 hc]
        decide
    have hplay : cut i = false → ∃ τ, zev 24 77 [(0, zA 0 0 7), (1, zA 1 g 0), (2, zI away), (3, zI cuts), (5, zI (zb (zat' h (zns h aw N cut i) i).2)), (6, zI (nI i))] [zI (zsp h aw N cut i)] (zup σ 0 0 8 i (-4)) = some (zI (nI (zspn h aw N cut L)), τ) ∧ zfrm zPX σ τ ∧ (∀ k, k < L → τ 0 0 8 k = zsp h aw N cut k) ∧ τ 0 0 7 1 = nI (zmk (zspk h aw N cut) L) := by
      intro hc
      have hrow : ∀ υ : ZS, (∀ k, υ 0 0 8 k = (zup (zup σ 0 0 8 i (-4)) 0 0 8 i (zsp h aw N cut i)) 0 0 8 k) → ∀ k, k < i + 1 → υ 0 0 8 k = zsp h aw N cut k := by
        intro υ hυ k hk
        rw [hυ, zup_m]
        by_cases hki : k = i
        · rw [hki, zru_s]
        · rw [zru_o hki, zup_m, zru_o hki]; exact hs k (by omega)
      rw [E_Night_play_77, zck_nI i8 (by decide), nI_clamp (by omega)]
      by_cases hv : zsp h aw N cut i = -4
      · rw [if_pos hv]
        have hlaw : (zup (zup σ 0 0 8 i (-4)) 0 0 8 i (zsp h aw N cut i)) 1 g 0 2 = h 0 2 := by
          rw [zup_o (by omega), zup_o (by omega), hh]
        have fin := go (zup (zup σ 0 0 8 i (-4)) 0 0 8 i (zsp h aw N cut i)) (zfrm_up (zfrm_up zfrm_r ⟨rfl, rfl, Or.inr rfl⟩) ⟨rfl, rfl, Or.inr rfl⟩) (hrow _ fun _ => rfl) (by
          rw [zup_o (by decide), zup_o (by decide), hm]
          rw [zmk_s, if_neg]
          unfold zspk
          rw [hv]
          decide)
        rw [zns_2 hc, if_pos hv] at fin
        rw [hlaw]
        by_cases hl : h 0 2 = 0
        · rw [if_pos hl]
          rw [decide_eq_true hl] at fin
          exact fin
        · rw [if_neg hl]
          rw [decide_eq_false hl] at fin
          exact fin
      · rw [if_neg hv]
        have hb : (zup (zup σ 0 0 8 i (-4)) 0 0 8 i (zsp h aw N cut i)) 0 0 7 1 = nI (zmk (zspk h aw N cut) i) := by
          rw [zup_o (by decide), zup_o (by decide), hm]
        dsimp only
        rw [hb, zb2 _ (p2_8 (L := i) (by omega) (zmk_lt _ _)) i i8]
        have fin := go (zup (zup (zup σ 0 0 8 i (-4)) 0 0 8 i (zsp h aw N cut i)) 0 0 7 1 (nI (zmk (zspk h aw N cut) i ||| 1 <<< i))) (zfrm_up (zfrm_up (zfrm_up zfrm_r ⟨rfl, rfl, Or.inr rfl⟩) ⟨rfl, rfl, Or.inr rfl⟩) ⟨rfl, rfl, Or.inl rfl⟩) (hrow _ fun k => by rw [zup_o (by decide)]) (by
          rw [zup_m, zru_s]
          rw [zmk_s, if_pos]
          unfold zspk
          simp [hv])
        rw [zns_2 hc, if_neg hv] at fin
        exact fin
    rw [E_Night_play_15, hh, w.2.1, if_pos (nI_lt hiL (by omega)), L_isOpening, zbI_some, hh]
    have hcb : (cuts >>> (nI i &&& 31)) &&& 1 = zb (cut i) := hcut i hiL
    by_cases hop : zbit (h 0 5) i = 0
    · rw [if_pos hop, zck_nI i8 (by decide), nI_clamp (by omega)]
      dsimp only
      rw [hcb, zif_b]
      have hat : zat' h (zns h aw N cut i) i = zns h aw N cut i := if_pos hop
      cases hc : cut i with
      | true =>
        rw [if_pos rfl]
        have := hcutd hc
        rw [hat] at this
        exact this
      | false =>
        rw [if_neg (by decide), zif_b]
        have h3 := hplay hc
        rw [zsp_2 hc, hat] at h3
        rw [hat] at hah
        cases hl : (zns h aw N cut i).2 with
        | true =>
          rw [if_pos rfl]
          rw [hl, if_pos rfl] at h3
          exact h3
        | false =>
          rw [if_neg (by decide), L_speakerOf (P := P) (M := M) (N := N) (L := L) (aw := aw) (by rw [zup_o' , hh]; exact w) hiL haw (by rw [zup_o', hh]; exact hah), zbI_some]
          rw [hl, if_neg (by decide)] at h3
          rw [zup_o', hh]
          exact h3
    · rw [if_neg hop, zck_nI i8 (by decide), nI_clamp (by omega)]
      dsimp only
      rw [hcb, zif_b]
      have hat : zat' h (zns h aw N cut i) i = (-4, false) := if_neg hop
      cases hc : cut i with
      | true =>
        rw [if_pos rfl]
        have := hcutd hc
        rw [hat] at this
        exact this
      | false =>
        rw [if_neg (by decide)]
        have h3 := hplay hc
        rw [zsp_2 hc, hat, if_neg (by decide)] at h3
        rw [L_speakerOf (P := P) (M := M) (N := N) (L := L) (aw := aw) (by rw [zup_o', hh]; exact w) hiL haw (Or.inl rfl), zbI_some, zup_o', hh]
        exact h3
