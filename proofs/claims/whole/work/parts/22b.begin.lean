/-! the walk begins; what is asked of a SEATING -/
theorem L_idle4 {σ : ZS} {h : Nat → Nat → Int32} {R P N L S : Nat} (b : zIR (σ 1 1) h) (w : zWF h R P N L S) : ∀ d i : Nat, i + d = L → zev 19 4 [(0, zA 1 1 0), (1, zI (nI (zpm h i))), (2, zI (nI i))] [] σ = zev 19 33 [(0, zA 1 1 0), (1, zI (nI (zpm h L))), (2, zI 0), (3, zI 0)] [] σ
  | 0, i, hi => by
    have hL := w.2.1.2.2.2.2.2.1
    rw [show i = L by omega, E_House_idleSeats_4, b.1 4 (by omega), w.1.2.2.2.1, if_neg (nI_nlt (Nat.le_refl _) (by omega))]
  | d + 1, i, hi => by
    have hL := w.2.1.2.2.2.2.2.1
    have ih := L_idle4 b w d (i + 1) (by omega)
    obtain ⟨k, hk, e⟩ := w.2.2.2.2.2.2.2.2.1 i (by omega)
    have ez : zpm h (i + 1) = zpm h i ||| 1 <<< k := by
      show zpm h i ||| 1 <<< (h 8 i).toNatClampNeg = _
      rw [e, nI_clamp (by omega)]
    rw [ez] at ih
    rw [E_House_idleSeats_4, b.1 4 (by omega), w.1.2.2.2.1, if_pos (nI_lt (by omega) (by omega)), zck_nI (by omega) (by decide), nI_clamp (by omega), (b.2.2.2 i (by omega)).1, e, zn_1 k (by omega), zn_or, nI_1]
    exact ih
theorem L_idle33 {σ : ZS} {h : Nat → Nat → Int32} {R P N L S : Nat} (b : zIR (σ 1 1) h) (w : zWF h R P N L S) : ∀ d s : Nat, s + d = R * P → zev 19 33 [(0, zA 1 1 0), (1, zI (nI (zpm h L))), (2, zI (nI (zmk (zid h L) s))), (3, zI (nI s))] [] σ = some (zI (nI (zmk (zid h L) (R * P))), σ)
  | 0, s, hs => by
    have h12 := zRP12 w.2.1.2.1 w.2.1.2.2.2.1
    have m1 : σ 1 1 0 0 * σ 1 1 0 1 = nI (R * P) := by rw [b.1 0 (by omega), b.1 1 (by omega), w.1.1, w.1.2.1, pk_mul]
    rw [show s = R * P by omega, E_House_idleSeats_33, E_House_seats, zbI_some, m1, if_neg (nI_nlt (Nat.le_refl _) (by omega))]
  | d + 1, s, hs => by
    have h12 := zRP12 w.2.1.2.1 w.2.1.2.2.2.1
    have m1 : σ 1 1 0 0 * σ 1 1 0 1 = nI (R * P) := by rw [b.1 0 (by omega), b.1 1 (by omega), w.1.1, w.1.2.1, pk_mul]
    have ih := L_idle33 b w d (s + 1) (by omega)
    have hp := zpm_lt (L := L) (fun i hi => w.2.2.2.2.2.2.2.2.1 i hi) L (Nat.le_refl _)
    rw [zmk_s] at ih
    rw [E_House_idleSeats_33, E_House_seats, zbI_some, m1, if_pos (nI_lt (by omega) (by omega)), zck_nI (by omega) (by decide), nI_clamp (by omega), (b.2.1 s (by omega)).2.2, zn_1 s (by omega), zn_or, nI_1, Int32.or_zero]
    rcases w.2.2.2.2.2.1 s (by omega) with e | ⟨k, hk, e⟩
    · rw [if_pos e]
      rw [if_pos (by unfold zid; rw [decide_eq_true e, Bool.true_or])] at ih
      exact ih
    · have e0 : zid h L s = !(zpm h L).testBit k := by
        unfold zid
        rw [e, decide_eq_false (nI_ne4 (by omega)), Bool.false_or, nI_clamp (by omega)]
      rw [e, if_neg (nI_ne4 (by omega)), show (nI (zpm h L) >>> (nI k &&& 31)) &&& 1 = zbit (nI (zpm h L)) k from rfl, zb1 _ (by omega) k (by omega)]
      rw [e0] at ih
      cases hb : (zpm h L).testBit k with
      | true =>
        rw [hb, if_neg (by decide)] at ih
        rw [if_pos rfl, if_neg (by decide)]
        exact ih
      | false =>
        rw [hb, if_pos (show (!false) = true from rfl)] at ih
        rw [if_pos (show (if false = true then (1 : Int32) else 0) = 0 from rfl)]
        exact ih
theorem L_idle {σ : ZS} {h : Nat → Nat → Int32} {R P N L S : Nat} (b : zIR (σ 1 1) h) (w : zWF h R P N L S) : zcall 19 [zA 1 1 0] σ = some (zI (nI (zmk (zid h L) (R * P))), σ) := by
  rw [E_House_idleSeats]
  rw [show zev 19 4 [(0, zA 1 1 0), (1, zI 0), (2, zI 0)] [] σ = _ from L_idle4 b w L 0 (by omega)]
  exact L_idle33 b w (R * P) 0 (by omega)
/-- the SEATS as they are -/
def zcs (h : Nat → Nat → Int32) : Nat → List Nat
  | 0 => []
  | p + 1 => if zhr h p = true then (h 4 p).toNatClampNeg :: zcs h p else zcs h p
theorem zhr_s {h : Nat → Nat → Int32} {R P N L S p : Nat} (w : zWF h R P N L S) (hp : p < N) (hz : zhr h p = true) : ∃ s, s < R * P ∧ h 4 p = nI s := by
  refine (w.2.2.2.2.2.2.1.1 p hp).resolve_left fun e => ?_
  unfold zhr at hz
  rw [decide_eq_true e] at hz
  exact absurd hz (by decide)
theorem zcs_g {h : Nat → Nat → Int32} {R P N L S : Nat} (w : zWF h R P N L S) : ∀ p, p ≤ N → zgd (R * P) (zcs h p) = true ∧ (zcs h p).length = zct (zhr h) p ∧ ∀ s, s < R * P → (∀ q, q < p → h 4 q ≠ nI s) → zvf (zcs h p) s = true
  | 0, _ => ⟨rfl, rfl, fun _ _ _ => rfl⟩
  | p + 1, hp => by
    have h12 := zRP12 w.2.1.2.1 w.2.1.2.2.2.1
    obtain ⟨g1, g2, g3⟩ := zcs_g w p (by omega)
    unfold zcs
    by_cases hz : zhr h p = true
    · obtain ⟨s, hs, e⟩ := zhr_s w (by omega) hz
      have e2 : (h 4 p).toNatClampNeg = s := by rw [e, nI_clamp (by omega)]
      rw [if_pos hz, e2, zct_s hz, List.length_cons, g2]
      refine ⟨zgd_c.mpr ⟨hs, g3 s hs (fun q hq eq => ?_), g1⟩, rfl, fun t ht hn => ?_⟩
      · have := w.2.2.2.2.2.2.1.2 q (by omega) p (by omega) (by omega) (eq.trans e.symm)
        rw [eq] at this
        exact nI_ne4 (by omega) this
      · rw [zvf_c, g3 t ht (fun q hq => hn q (by omega)), Bool.and_true]
        have : ¬ t = s := fun z => hn p (by omega) (by rw [e, z])
        rw [decide_eq_false this]
        rfl
    · have e : zct (zhr h) (p + 1) = zct (zhr h) p := by
        show zct (zhr h) p + (if zhr h p = true then 1 else 0) = _
        rw [if_neg hz, Nat.add_zero]
      rw [if_neg hz, e]
      exact ⟨g1, g2, fun t ht hn => g3 t ht (fun q hq => hn q (by omega))⟩
theorem zkM {h : Nat → Nat → Int32} {R P N L S : Nat} (w : zWF h R P N L S) : zct (zhr h) N ≤ R * P := by
  obtain ⟨g1, g2, -⟩ := zcs_g w N (Nat.le_refl _)
  have := zcnt_f g1
  omega
theorem L_begin15 {h : Nat → Nat → Int32} {R P N L S : Nat} {I : Nat → Bool} (w : zWF h R P N L S) : ∀ (d p : Nat) (σ : ZS), p + d = N → zIR (σ 1 1) h → σ 0 0 9 2 = nI (zct (zhr h) p) → σ 0 0 9 3 = nI (zmk I (R * P)) → (∀ j, j < zct (zhr h) p → σ 0 0 10 j = nI (zmvr (zhr h) N j)) →
    ∃ τ, zev 47 15 [(0, zA 0 0 9), (1, zA 1 1 0), (2, zI (nI p))] [] σ = zbV (zcall 48 [zA 0 0 9, zA 1 1 0, zI 0] τ) (fun σ29 => some (zI 0, σ29)) ∧ zfrm (fun c g j => c = 0 ∧ g = 0 ∧ (j = 9 ∨ j = 10)) σ τ ∧ zSC τ (zmvr (zhr h) N) (zct (zhr h) N) (R * P) I
  | 0, p, σ, hp, b, c1, c2, c3 => by
    have hN := w.2.1.2.2.2.2.1
    have h12 := zRP12 w.2.1.2.1 w.2.1.2.2.2.1
    obtain rfl : p = N := by omega
    refine ⟨σ, ?_, zfrm_r, c1, c2, c3, zkM w, Nat.le_trans (zct_le _ _) hN, h12, fun j hj => ?_, zmvr_i⟩
    · rw [E_Seatings_begin_15, b.1 3 (by omega), w.1.2.2.1, if_neg (nI_nlt (Nat.le_refl _) (by omega))]
    · obtain ⟨q, q1, -, -, q2⟩ := zmvr_j p hj
      omega
  | d + 1, p, σ, hp, b, c1, c2, c3 => by
    have hN := w.2.1.2.2.2.2.1
    have hct := zct_le (zhr h) p
    have e4 : σ 1 1 4 p = h 4 p := (b.2.2.1 p (by omega)).1
    rw [E_Seatings_begin_15, b.1 3 (by omega), w.1.2.2.1, if_pos (nI_lt (by omega) (by omega)), L_isAway 1 (by omega), zbI_some, zif_b, e4, nI_1]
    by_cases hz : h 4 p = -4
    · have hh : ¬ zhr h p = true := by unfold zhr; rw [decide_eq_true hz]; decide
      have e : zct (zhr h) (p + 1) = zct (zhr h) p := by
        show zct (zhr h) p + (if zhr h p = true then 1 else 0) = _
        rw [if_neg hh, Nat.add_zero]
      rw [decide_eq_true hz, if_pos rfl]
      exact L_begin15 w d (p + 1) σ (by omega) b (by rw [e]; exact c1) c2 (by rw [e]; exact c3)
    · have hh : zhr h p = true := by unfold zhr; rw [decide_eq_false hz]; rfl
      have e := zct_s hh
      rw [decide_eq_false hz, if_neg (by decide), c1, zck_nI (by omega) (by decide), nI_clamp (by omega)]
      dsimp only
      obtain ⟨τ, t1, t2, t3⟩ := L_begin15 (I := I) w d (p + 1) (zup (zup σ 0 0 10 (zct (zhr h) p) (nI p)) 0 0 9 2 (nI (zct (zhr h) p + 1))) (by omega)
        (by rw [show zup (zup σ 0 0 10 (zct (zhr h) p) (nI p)) 0 0 9 2 (nI (zct (zhr h) p + 1)) 1 1 = σ 1 1 from funext fun j => by rw [zup_o (by omega), zup_o (by omega)]]; exact b)
        (by rw [zup_m, zru_s, e]) (by rw [zup_m, zru_o (by decide), zup_o (by decide)]; exact c2)
        (fun j hj => by
          rw [zup_o (by decide), zup_m]
          by_cases ej : j = zct (zhr h) p
          · rw [ej, zru_s, zmvr_p hh N (by omega)]
          · rw [zru_o ej]; exact c3 j (by omega))
      refine ⟨τ, ?_, zfrm_t (zfrm_up (zfrm_up zfrm_r ⟨rfl, rfl, Or.inr rfl⟩) ⟨rfl, rfl, Or.inl rfl⟩) t2, t3⟩
      rw [zup_o (by decide), c1, nI_1]
      exact t1
theorem zSC_s (c g j : Nat) (h : c = 0 ∧ g = 0 ∧ (j = 9 ∨ j = 10)) : zScr c g j := Or.inl ⟨h.1, Or.inr (by omega)⟩
theorem L_begin {σ : ZS} {h : Nat → Nat → Int32} {R P N L S : Nat} (b : zIR (σ 1 1) h) (w : zWF h R P N L S) :
    ∃ τ, zcall 47 [zA 0 0 9, zA 1 1 0] σ = some (zI 0, τ) ∧ zfrm zScr σ τ ∧ zSC τ (zmvr (zhr h) N) (zct (zhr h) N) (R * P) (zid h L) ∧ zTr τ h (zmvr (zhr h) N) (zct (zhr h) N) (R * P) (zfs (zid h L) (R * P) (zct (zhr h) N) []) := by
  have e11 : ∀ v, zup (zup σ 0 0 9 3 v) 0 0 9 2 0 1 1 = σ 1 1 := fun v => funext fun j => by rw [zup_o (by omega), zup_o (by omega)]
  obtain ⟨τ, t1, t2, t3⟩ := L_begin15 (I := zid h L) w N 0 (zup (zup σ 0 0 9 3 (nI (zmk (zid h L) (R * P)))) 0 0 9 2 0) (by omega) (by rw [e11]; exact b) (by rw [zup_m, zru_s]; rfl) (by rw [zup_m, zru_o (by decide), zup_m, zru_s]) (fun j hj => absurd hj (Nat.not_lt_zero _))
  have b2 : zIR (τ 1 1) h := by
    rw [show τ 1 1 = σ 1 1 from funext fun j => by rw [t2 1 1 j (by omega)]; rw [e11]]
    exact b
  have tr : zTr τ h (zmvr (zhr h) N) (zct (zhr h) N) (R * P) [] := by
    refine ⟨⟨b2.1, b2.2.1, fun i hi => (b2.2.2.1 i hi).2, b2.2.2.2⟩, fun p hp _ => (b2.2.2.1 p hp).1, fun j hj => absurd hj (by simp), ?_⟩
    rw [w.1.1, w.1.2.1, pk_mul]
  obtain ⟨υ, u1, u2, u3⟩ := L_seatFrom (zct (zhr h) N) [] τ (by simp) rfl t3 tr
  refine ⟨υ, ?_, ?_, zSC_f (zfrm_m zT4_n u2) t3, u3⟩
  · rw [E_Seatings_begin, L_idle b w, zbI_some]
    dsimp only
    rw [show zev 47 15 [(0, zA 0 0 9), (1, zA 1 1 0), (2, zI 0)] [] (zup (zup σ 0 0 9 3 (nI (zmk (zid h L) (R * P)))) 0 0 9 2 0) = _ from t1, E_Seatings_seatFrom]
    rw [show zev 48 2 [(0, zA 0 0 9), (1, zA 1 1 0), (3, zI 0)] [] τ = _ from u1, zbV_some]
  · exact zfrm_t (zfrm_t (zfrm_up (zfrm_up zfrm_r (zSC_s _ _ _ ⟨rfl, rfl, Or.inl rfl⟩)) (zSC_s _ _ _ ⟨rfl, rfl, Or.inl rfl⟩)) (zfrm_m zSC_s t2)) (zfrm_m zT4_s u2)
/-- is all as SEEN -/
def zfx (f : Nat → Int32) (h : Nat → Nat → Int32) : Nat → Bool
  | 0 => true
  | k + 1 => zfx f h k && decide (f (h 9 k).toNatClampNeg = h 10 k)
theorem zfx_f {f : Nat → Int32} {h : Nat → Nat → Int32} {k : Nat} (hk : zfx f h k = false) : ∀ n, k ≤ n → zfx f h n = false
  | 0, h0 => by rw [show k = 0 by omega] at hk; exact hk
  | n + 1, h0 => by
    by_cases e : k = n + 1
    · rw [← e]; exact hk
    · unfold zfx
      rw [zfx_f hk n (by omega), Bool.false_and]
theorem zfx_c {f g : Nat → Int32} {h : Nat → Nat → Int32} {L S : Nat} (hf : ∀ i, i < L → f i = g i) (hL : L ≤ 8) (h9 : ∀ k, k < S → ∃ i, i < L ∧ h 9 k = nI i) : ∀ n, n ≤ S → zfx f h n = zfx g h n
  | 0, _ => rfl
  | n + 1, hn => by
    obtain ⟨i, hi, e⟩ := h9 n (by omega)
    unfold zfx
    rw [zfx_c hf hL h9 n (by omega), e, nI_clamp (by omega), hf i hi]
theorem L_asSeen2 {σ : ZS} {h : Nat → Nat → Int32} {R P N L S : Nat} (w : zWF h R P N L S) (e6 : σ 1 1 0 6 = h 0 6) (e9 : ∀ i, i < 8 → σ 1 1 8 i = h 8 i ∧ σ 1 1 9 i = h 9 i ∧ σ 1 1 10 i = h 10 i) : ∀ d n : Nat, n + d = S → zfx (σ 0 0 8) h n = true → zev 29 2 [(0, zA 0 0 7), (1, zA 1 1 0), (2, zI (nI n))] [] σ = some (zI (zb (zfx (σ 0 0 8) h S)), σ)
  | 0, n, hn, ht => by
    have hS := w.2.1.2.2.2.2.2.2
    rw [show n = S by omega] at ht ⊢
    rw [E_Night_isAsSeen_2, e6, w.1.2.2.2.2, if_neg (nI_nlt (Nat.le_refl _) (by omega)), ht]
    rfl
  | d + 1, n, hn, ht => by
    have hS := w.2.1.2.2.2.2.2.2
    have hL := w.2.1.2.2.2.2.2.1
    obtain ⟨i, hi, e⟩ := (w.2.2.2.2.2.2.2.2.2 n (by omega)).1
    have e1 : zfx (σ 0 0 8) h (n + 1) = (zfx (σ 0 0 8) h n && decide (σ 0 0 8 (h 9 n).toNatClampNeg = h 10 n)) := rfl
    rw [ht, Bool.true_and, e, nI_clamp (by omega)] at e1
    rw [E_Night_isAsSeen_2, e6, w.1.2.2.2.2, if_pos (nI_lt (by omega) (by omega)), zck_nI (by omega) (by decide), zck_nI (by omega) (by decide), nI_clamp (show n < 2 ^ 31 by omega), (e9 n (by omega)).2.1, (e9 n (by omega)).2.2, e, zck_nI (by omega) (by decide), nI_clamp (show i < 2 ^ 31 by omega), nI_1]
    by_cases hc : σ 0 0 8 i = h 10 n
    · rw [if_pos hc]
      exact L_asSeen2 w e6 e9 d (n + 1) (by omega) (by rw [e1]; exact decide_eq_true hc)
    · rw [if_neg hc, zfx_f (show zfx (σ 0 0 8) h (n + 1) = false by rw [e1]; exact decide_eq_false hc) S (by omega)]
      rfl
