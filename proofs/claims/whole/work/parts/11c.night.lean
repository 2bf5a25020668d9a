theorem zscn_s {op sp : Nat → Bool} {j d : Nat} : zscn op sp j (d + 1) = ((zscn op sp j d).1 && (!((zscn op sp j d).2 && !op (j + 1 + d)) || sp (j + 1 + d)), (zscn op sp j d).2 && !op (j + 1 + d)) := rfl
theorem nI_dec (n : Nat) : nI (n + 1) + (-1) = nI n := by
  rw [show nI (n + 1) + (-1) = nI (n + 1) - 1 from (Int32.sub_eq_add_neg _ _).symm, nI_pred]
/-- the scene that is on, whole or broken -/
def zscb (op sp : Nat → Bool) (i : Nat) (br : Bool) : Prop := (i = 0 ∧ br = false) ∨ ∃ l, l < i ∧ op l = true ∧ (∀ k, l < k → k < i → op k = false) ∧ br = !(zscn op sp l (i - 1 - l)).1
theorem L_wsC {σ : ZS} {L : Nat} (n1 : σ 1 0 0 4 = nI L) (hL : L ≤ 8) {op sp : Nat → Bool} (h0 : 0 < L → op 0 = true) (hop : ∀ i, i < L → zbit (σ 1 0 0 5) i = zb (op i)) (hsp : ∀ i, i < L → sp i = !decide (σ 0 0 8 i = -4)) : ∀ (d i : Nat) (br : Bool), i + d = L → zscb op sp i br →
    zev 28 7 [(0, zA 0 0 7), (1, zA 1 0 0), (2, zI (nI (zscc op sp i))), (3, zI (zb br)), (4, zI (nI i))] [] σ = some (zI (nI (zscc op sp L)), σ)
  | 0, i, br, h, hb => by
    obtain rfl : i = L := by omega
    rw [E_Night_wholeScenes_7, n1, if_neg (nI_nlt (by omega) (by omega))]
  | d + 1, i, br, h, hb => by
    have ih := L_wsC n1 hL h0 hop hsp d (i + 1)
    rw [E_Night_wholeScenes_7, n1, if_pos (nI_lt (by omega) (by omega)), L_isOpening, zbI_some, hop i (by omega), nI_clamp (by omega), nI_1]
    cases ho : op i with
    | true =>
      rw [if_neg (show ¬ zb true = 0 by decide), zck_nI (by omega) (by decide)]
      by_cases hc : σ 0 0 8 i = -4
      · rw [if_pos hc]
        have hs : sp i = false := by rw [hsp i (by omega), decide_eq_true hc]; rfl
        have := ih true (by omega) (Or.inr ⟨i, by omega, ho, fun k h1 h2 => by omega, by rw [show i + 1 - 1 - i = 0 by omega]; show true = !sp i; rw [hs]; rfl⟩)
        rw [zscc_open ho, hs, if_neg (by decide)] at this
        rw [show nI (zscc op sp i) + 1 = nI (zscc op sp i + 1) from nI_1 .., nI_dec]
        exact this
      · rw [if_neg hc]
        have hs : sp i = true := by rw [hsp i (by omega), decide_eq_false hc]; rfl
        have := ih false (by omega) (Or.inr ⟨i, by omega, ho, fun k h1 h2 => by omega, by rw [show i + 1 - 1 - i = 0 by omega]; show false = !sp i; rw [hs]; rfl⟩)
        rw [zscc_open ho, hs, if_pos (by decide)] at this
        rw [show nI (zscc op sp i) + 1 = nI (zscc op sp i + 1) from nI_1 ..]
        exact this
    | false =>
      rw [if_pos (show zb false = 0 by decide), zck_nI (by omega) (by decide)]
      obtain ⟨l, b1, b2, b3, b4⟩ : ∃ l, l < i ∧ op l = true ∧ (∀ k, l < k → k < i → op k = false) ∧ br = !(zscn op sp l (i - 1 - l)).1 := by
        rcases hb with ⟨rfl, -⟩ | hb
        · rw [h0 (by omega)] at ho; cases ho
        · exact hb
      have hon : (zscn op sp l (i - 1 - l)).2 = true := (zscn_on _).mpr fun k h1 h2 => b3 k h1 (by omega)
      have hnx : (zscn op sp l (i + 1 - 1 - l)).1 = ((zscn op sp l (i - 1 - l)).1 && sp i) := by
        rw [show i + 1 - 1 - l = (i - 1 - l) + 1 by omega, zscn_s, show l + 1 + (i - 1 - l) = i by omega, hon, ho]
        simp
      have hb2 : zscb op sp (i + 1) (!((zscn op sp l (i - 1 - l)).1 && sp i)) := Or.inr ⟨l, by omega, b2, fun k h1 h2 => by
        by_cases e : k = i
        · rw [e]; exact ho
        · exact b3 k h1 (by omega), by rw [hnx]⟩
      have := ih _ (by omega) hb2
      by_cases hc : σ 0 0 8 i = -4
      · rw [if_pos hc]
        have hs : sp i = false := by rw [hsp i (by omega), decide_eq_true hc]; rfl
        have hw := zscc_silent ho hs b1 b2 b3
        rw [hs, Bool.and_false] at this
        cases hz : (zscn op sp l (i - 1 - l)).1 with
        | true =>
          rw [hz] at b4 hw
          rw [b4, if_pos (show zb (!true) = 0 by decide), ← hw, if_pos rfl, nI_dec]
          exact this
        | false =>
          rw [hz] at b4 hw
          rw [b4, if_neg (show ¬ zb (!false) = 0 by decide), ← hw, if_neg (by decide)]
          exact this
      · rw [if_neg hc]
        have hs : sp i = true := by rw [hsp i (by omega), decide_eq_false hc]; rfl
        rw [hs, zscc_spoken ho hs] at this
        rw [b4]
        rw [Bool.and_true] at this
        exact this
theorem L_isWhole_24 {σ : ZS} {L : Nat} (n1 : σ 3 0 0 6 = nI L) (hL : L ≤ 8) {op sp : Nat → Bool} (hop : ∀ i, i < L → σ 3 0 1 (28 + i) = zb (op i)) (hsp : ∀ i, i < L → sp i = !decide (σ 3 0 8 i = -4)) {i : Nat} (hi : i < L) : ∀ r d : Nat, i + 1 + d + r = L →
    zev 169 24 [(0, zA 3 0 0), (2, zI (zb (zscn op sp i d).1)), (3, zI (zb (zscn op sp i d).2)), (4, zI (nI (i + 1 + d)))] [] σ = some (zI (zb (zscn op sp i (L - 1 - i)).1), σ)
  | 0, d, h => by
    rw [E_M_isWhole_24, n1, if_neg (nI_nlt (by omega) (by omega)), zbb_b, show d = L - 1 - i by omega]
  | r + 1, d, h => by
    have ih := L_isWhole_24 n1 hL hop hsp hi r (d + 1) (by omega)
    rw [zscn_s] at ih
    rw [E_M_isWhole_24, n1, if_pos (nI_lt (by omega) (by omega)), nI_1, show (28 : Int32) + nI (i + 1 + d) = nI (28 + (i + 1 + d)) from nI_add .., zck_nI (by omega) (by decide), zck_nI (by omega) (by decide), nI_clamp (by omega), nI_clamp (by omega), hop _ (by omega)]
    have hs := hsp (i + 1 + d) (by omega)
    cases h1 : (zscn op sp i d).2 with
    | false =>
      rw [if_pos (show zb false = 0 by decide)]
      rw [h1] at ih
      cases h2 : (zscn op sp i d).1 with
      | false =>
        rw [if_pos (show zb false = 0 by decide)]
        rw [h2] at ih
        exact ih
      | true =>
        rw [if_neg (show ¬ zb true = 0 by decide)]
        rw [h2] at ih
        exact ih
    | true =>
      rw [if_neg (show ¬ zb true = 0 by decide)]
      rw [h1] at ih
      cases ho : op (i + 1 + d) with
      | false =>
        rw [if_pos (show zb false = 0 by decide)]
        rw [ho] at ih
        cases h2 : (zscn op sp i d).1 with
        | false =>
          rw [if_pos (show zb false = 0 by decide)]
          rw [h2] at ih
          exact ih
        | true =>
          rw [if_neg (show ¬ zb true = 0 by decide)]
          rw [h2, hs] at ih
          by_cases hc : σ 3 0 8 (i + 1 + d) = -4
          · rw [if_pos hc]
            rw [decide_eq_true hc] at ih
            exact ih
          · rw [if_neg hc]
            rw [decide_eq_false hc] at ih
            exact ih
      | true =>
        rw [if_neg (show ¬ zb true = 0 by decide)]
        rw [ho] at ih
        cases h2 : (zscn op sp i d).1 with
        | false =>
          rw [if_pos (show zb false = 0 by decide)]
          rw [h2] at ih
          exact ih
        | true =>
          rw [if_neg (show ¬ zb true = 0 by decide)]
          rw [h2] at ih
          exact ih
theorem L_isWhole {σ : ZS} {L : Nat} (n1 : σ 3 0 0 6 = nI L) (hL : L ≤ 8) {op sp : Nat → Bool} (hop : ∀ i, i < L → σ 3 0 1 (28 + i) = zb (op i)) (hsp : ∀ i, i < L → sp i = !decide (σ 3 0 8 i = -4)) {i : Nat} (hi : i < L) :
    zcall 169 [zA 3 0 0, zI (nI i)] σ = some (zI (zb (zscn op sp i (L - 1 - i)).1), σ) := by
  have := L_isWhole_24 n1 hL hop hsp hi (L - 1 - i) 0 (by omega)
  have hs := hsp i hi
  rw [E_M_isWhole, zck_nI (by omega) (by decide), nI_clamp (by omega), nI_1]
  by_cases hc : σ 3 0 8 i = -4
  · rw [if_pos hc]
    rw [decide_eq_true hc] at hs
    rw [show (zscn op sp i 0).1 = sp i from rfl, hs] at this
    exact this
  · rw [if_neg hc]
    rw [decide_eq_false hc] at hs
    rw [show (zscn op sp i 0).1 = sp i from rfl, hs] at this
    exact this
theorem L_night97 {σ : ZS} {L : Nat} (n1 : σ 3 0 0 6 = nI L) (hL : L ≤ 8) {op sp : Nat → Bool} (hop : ∀ i, i < L → σ 3 0 1 (28 + i) = zb (op i)) (hsp : ∀ i, i < L → sp i = !decide (σ 3 0 8 i = -4)) (x1 x2 x3 x4 : Int32) : ∀ d i : Nat, i + d = L →
    zev 168 97 [(0, zA 3 0 0), (1, zI x1), (2, zI x2), (3, zI x3), (4, zI x4), (5, zI (nI (zct (fun j => op j && (zscn op sp j (L - 1 - j)).1) i))), (6, zI (nI i))] [] σ = some (zI (if x1 = 0 then x2 else if x1 = 1 then x3 else if x1 = 2 then x4 else nI (zscc op sp L)), σ)
  | 0, i, h => by
    obtain rfl : i = L := by omega
    rw [E_M_night_97, n1, if_neg (nI_nlt (by omega) (by omega))]
    by_cases h0 : x1 = 0
    · rw [if_pos h0, if_pos h0]
    · rw [if_neg h0, if_neg h0]
      by_cases h1 : x1 = 1
      · rw [if_pos h1, if_pos h1]
      · rw [if_neg h1, if_neg h1]
        by_cases h2 : x1 = 2
        · rw [if_pos h2, if_pos h2]
        · rw [if_neg h2, if_neg h2]
          rfl
  | d + 1, i, h => by
    have ih := L_night97 n1 hL hop hsp x1 x2 x3 x4 d (i + 1) (by omega)
    have e : zct (fun j => op j && (zscn op sp j (L - 1 - j)).1) (i + 1) = zct (fun j => op j && (zscn op sp j (L - 1 - j)).1) i + (if (op i && (zscn op sp i (L - 1 - i)).1) = true then 1 else 0) := rfl
    rw [e] at ih
    rw [E_M_night_97, n1, if_pos (nI_lt (by omega) (by omega)), show (28 : Int32) + nI i = nI (28 + i) from nI_add .., zck_nI (by omega) (by decide), nI_clamp (by omega), hop i (by omega), nI_1, L_isWhole n1 hL hop hsp (by omega), zbI_some, L_flag0, L_flag1, zbI_some, zbI_some, Int32.add_zero]
    cases ho : op i with
    | false =>
      rw [if_neg (show ¬ zb false = 1 by decide)]
      rw [ho] at ih
      exact ih
    | true =>
      rw [if_pos (show zb true = 1 by decide)]
      rw [ho] at ih
      cases hz : (zscn op sp i (L - 1 - i)).1 with
      | false =>
        rw [if_pos (show zb false = 0 by decide)]
        rw [hz] at ih
        exact ih
      | true =>
        rw [if_neg (show ¬ zb true = 0 by decide)]
        rw [hz] at ih
        rw [nI_1]
        exact ih
theorem Q_night {σ : ZS} (hi : zInv σ) (x : Int32) : zPair (zcall 82 [zA 0 0 0, zI x]) (zcall 168 [zA 3 0 0, zI x]) σ := by
  obtain ⟨R, P, N, L, S, a1, a2, a3, a4, a5, a6, a7, a8⟩ := id hi
  have hL : L ≤ 8 := a1.2.1.2.2.2.2.2.1
  obtain ⟨τ, t1, t2, t3, t4⟩ := L_nowC a1
  have hi2 := zInv_q t2 hi
  obtain ⟨υ, u1, u2, u3⟩ := L_nowM (zCx_f t2 (zCx_of a1 a2 a3))
  have hi3 := zInv_q u2 hi2
  have e4 : τ 1 0 0 4 = nI L := by rw [zh_f t2]; exact a1.1.2.2.2.1
  have e6 : υ 3 0 0 6 = nI L := by rw [u2 3 0 0 (by simp [zScr, zScC]), t2 3 0 0 (by simp [zScr, zScC])]; exact a3.2.2.2.1.trans a1.1.2.2.2.1
  have hspC : ∀ i, i < L → zspk (σ 1 0) zno N zno i = !decide (τ 0 0 8 i = -4) := fun i h => by rw [t3 i h]; rfl
  have hspM : ∀ i, i < L → zspk (σ 1 0) zno N zno i = !decide (υ 3 0 8 i = -4) := fun i h => by rw [u3 i h]; rfl
  have hopC : ∀ i, i < L → zbit (τ 1 0 0 5) i = zb (!decide (zbit (σ 1 0 0 5) i = 0)) := fun i h => by
    rw [zh_f t2]
    rcases zbit_01 (σ 1 0 0 5) i with e | e <;> rw [e] <;> rfl
  have hopM : ∀ i, i < L → υ 3 0 1 (28 + i) = zb (!decide (zbit (σ 1 0 0 5) i = 0)) := fun i h => by
    rw [u2 3 0 1 (by simp [zScr, zScC]), t2 3 0 1 (by simp [zScr, zScC]), a2.2.2.1 i h]
    rcases zbit_01 (σ 1 0 0 5) i with e | e <;> rw [e] <;> rfl
  obtain ⟨v, v1, v2⟩ := L_fmC e4 hL L 0 (by omega) (fun k hk => by omega)
  have hws := L_wsC e4 hL (op := fun i => !decide (zbit (σ 1 0 0 5) i = 0)) (sp := zspk (σ 1 0) zno N zno) (fun h => by rw [a1.2.2.2.1.2 h]; decide) hopC hspC L 0 false (by omega) (Or.inl ⟨rfl, rfl⟩)
  have hC : zcall 82 [zA 0 0 0, zI x] σ = some (zI (if x = 0 then nI (zspn (σ 1 0) zno N zno L) else if x = 1 then nI (zmk (zspk (σ 1 0) zno N zno) L) else if x = 2 then v else if x = 3 then nI (zscc (fun i => !decide (zbit (σ 1 0 0 5) i = 0)) (zspk (σ 1 0) zno N zno) L) else -1), τ) := by
    rw [E_S_night, t1, zbI_some]
    by_cases h0 : x = 0
    · rw [if_pos h0, if_pos h0]
    · rw [if_neg h0, if_neg h0]
      by_cases h1 : x = 1
      · rw [if_pos h1, if_pos h1, t4]
      · rw [if_neg h1, if_neg h1]
        by_cases h2 : x = 2
        · rw [if_pos h2, if_pos h2, E_Night_firstMissed, show (0 : Int32) = nI 0 from rfl, v1, zbI_some]
        · rw [if_neg h2, if_neg h2]
          by_cases h3 : x = 3
          · rw [if_pos h3, if_pos h3, E_Night_wholeScenes]
            rw [show zev 28 7 [(0, zA 0 0 7), (1, zA 1 0 0), (2, zI 0), (3, zI 0), (4, zI 0)] [] τ = _ from hws, zbI_some]
          · rw [if_neg h3, if_neg h3]
  refine ⟨_, τ, if zin2 x (nI 0) (nI 3) = true then υ else τ, hC, ?_, ?_⟩
  · rw [E_M_night, L_in0_3, zbI_some, zif_b, u1, zbI_some, e6]
    rcases zin2_u x 3 with h | ⟨k, hk, rfl, h⟩
    · rw [h, if_neg (show ¬ false = true by decide), if_neg (show ¬ false = true by decide)]
      have ne : ∀ k, k ≤ 3 → x ≠ nI k := by
        rintro k hk rfl
        rcases (by omega : k = 0 ∨ k = 1 ∨ k = 2 ∨ k = 3) with rfl | rfl | rfl | rfl <;> exact absurd h (by decide)
      rw [if_neg (show ¬ x = 0 from ne 0 (by omega)), if_neg (show ¬ x = 1 from ne 1 (by omega)), if_neg (show ¬ x = 2 from ne 2 (by omega)), if_neg (show ¬ x = 3 from ne 3 (by omega))]
    · rw [h, if_pos (show true = true from rfl), if_pos (show true = true from rfl)]
      obtain ⟨m2, v3, w1, w2, w3⟩ := L_night36 (σ := υ) hL (nI k) (nI (zspn (σ 1 0) zno N zno L)) L 0 (-4) (by omega) ⟨by decide, fun k => by simp; omega⟩ (Or.inl ⟨rfl, fun k h1 h2 => by omega⟩)
      rw [show zev 168 36 [(0, zA 3 0 0), (1, zI (nI k)), (2, zI (nI (zspn (σ 1 0) zno N zno L))), (3, zI 0), (4, zI (-4)), (5, zI 0), (6, zI (nI L - 1))] [] υ = _ from w1]
      have := L_night97 e6 hL (op := fun i => !decide (zbit (σ 1 0 0 5) i = 0)) (sp := zspk (σ 1 0) zno N zno) hopM hspM (nI k) (nI (zspn (σ 1 0) zno N zno L)) (nI m2) v3 L 0 (by omega)
      rw [show zev 168 97 [(0, zA 3 0 0), (1, zI (nI k)), (2, zI (nI (zspn (σ 1 0) zno N zno L))), (3, zI (nI m2)), (4, zI v3), (5, zI 0), (6, zI 0)] [] υ = _ from this]
      have em : m2 = zmk (zspk (σ 1 0) zno N zno) L := zBt_mk hL (fun k hk => hspM k hk) w2
      have ev : v3 = v := by
        refine zFst_u w3 ?_
        have e : ∀ k, k < L → τ 0 0 8 k = υ 3 0 8 k := fun k hk => by rw [t3 k hk, u3 k hk]
        rcases v2 with ⟨rfl, z⟩ | ⟨i, b1, b2, rfl, b4, b5⟩
        · exact Or.inl ⟨rfl, fun k h1 h2 => by rw [← e k h2]; exact z k h1 h2⟩
        · exact Or.inr ⟨i, b1, b2, rfl, by rw [← e i b2]; exact b4, fun k h1 h2 => by rw [← e k (by omega)]; exact b5 k h1 h2⟩
      rw [em, ev]
      rcases (by omega : k = 0 ∨ k = 1 ∨ k = 2 ∨ k = 3) with rfl | rfl | rfl | rfl <;> rfl
  · split
    · exact hi3
    · exact hi2
