/-! WHO IS MISSED: some away -/
/-- the people of a set of bits -/
def zaw (x : Int32) (p : Nat) : Bool := !decide (zbit x p = 0)
theorem zaw_b (x : Int32) (p : Nat) : zbit x p = zb (zaw x p) := by
  unfold zaw
  rcases zbit_01 x p with e | e <;> rw [e] <;> rfl
theorem zcan_aw {h : Nat → Nat → Int32} {aw au : Nat → Bool} {i p : Nat} {ahead : Int32} (e : aw p = au p) : zcan h aw i ahead p = zcan h au i ahead p := by
  unfold zcan
  rw [e]
theorem zbest_aw {h : Nat → Nat → Int32} {aw au : Nat → Bool} {i : Nat} {ahead : Int32} : ∀ n, (∀ p, p < n → aw p = au p) → zbest h aw i ahead n = zbest h au i ahead n
  | 0, _ => rfl
  | n + 1, e => by
    unfold zbest
    rw [zbest_aw n (fun p hp => e p (by omega)), zcan_aw (e n (by omega))]
theorem zns_aw {h : Nat → Nat → Int32} {aw au cut : Nat → Bool} {N : Nat} (e : ∀ p, p < N → aw p = au p) : ∀ i, zns h aw N cut i = zns h au N cut i
  | 0 => rfl
  | i + 1 => by
    unfold zns
    rw [zns_aw e i]
    unfold znx zsp'
    rw [zbest_aw N e]
theorem zsp_aw {h : Nat → Nat → Int32} {aw au cut : Nat → Bool} {N : Nat} (e : ∀ p, p < N → aw p = au p) (i : Nat) : zsp h aw N cut i = zsp h au N cut i := by
  unfold zsp
  rw [zns_aw e i]
  unfold zsp'
  rw [zbest_aw N e]
theorem zspn_aw {h : Nat → Nat → Int32} {aw au cut : Nat → Bool} {N L : Nat} (e : ∀ p, p < N → aw p = au p) : zspn h aw N cut L = zspn h au N cut L :=
  zct_c L fun i _ => by unfold zspk; rw [zsp_aw e]
theorem zMN_aw {σ : ZS} {h : Nat → Nat → Int32} {aw au : Nat → Bool} {P N L : Nat} (e : ∀ p, p < N → aw p = au p) (m : zMN σ h aw P N L) : zMN σ h au P N L := by
  obtain ⟨m1, m2, m3, m4, r1, r2, r3, r4⟩ := m
  exact ⟨m1, m2, m3, m4, r1, fun p hp => by rw [← e p hp]; exact r2 p hp, r3, r4⟩
theorem zMN_go {σ : ZS} {h : Nat → Nat → Int32} {aw : Nat → Bool} {P N L p : Nat} (hp : p < N) (hN : N ≤ 4) (hL : L ≤ 8) (m : zMN σ h aw P N L) : zMN (zup σ 3 0 2 (12 + 4 * p) (-4)) h (fun q => aw q || decide (q = p)) P N L := by
  obtain ⟨m1, m2, m3, m4, r1, r2, r3, r4⟩ := m
  refine ⟨?_, ?_, ?_, fun i hi => ?_, fun s hs => ?_, fun q hq => ?_, fun i hi => ?_, ?_⟩
  · rw [zup_o (by decide)]; exact m1
  · rw [zup_o (by decide)]; exact m2
  · rw [zup_o (by decide)]; exact m3
  · rw [zup_o (by decide)]; exact m4 i hi
  · rw [zup_m, zru_o (by omega)]; exact r1 s hs
  · rw [zup_m, zru_o (show 13 + 4 * q ≠ 12 + 4 * p by omega), zru_o (show 14 + 4 * q ≠ 12 + 4 * p by omega), zru_o (show 15 + 4 * q ≠ 12 + 4 * p by omega)]
    refine ⟨?_, (r2 q hq).2⟩
    by_cases e : q = p
    · subst e
      rw [zru_s]
      simp
    · rw [zru_o (by omega), (r2 q hq).1]
      simp [e]
  · rw [zup_m, zru_o (by omega)]; exact r3 i hi
  · rw [zup_m, zru_o (by omega)]; exact r4
theorem L_spokenBut_6 {h : Nat → Nat → Int32} {P M N L : Nat} (w : zNW h P M N L) (x : Int32) : ∀ (d p : Nat) (σ : ZS), p + d = N → zMN σ h (fun q => decide (q < p) && zaw x q) P N L →
    ∃ τ, zev 183 6 [(0, zA 3 0 0), (1, zI x), (2, zI (nI p))] [] σ = some (zI (nI (zspn h (zaw x) N zno L)), τ) ∧ zfrm zScr σ τ ∧ ∀ k, k < L → τ 3 0 8 k = zsp h (zaw x) N zno k
  | 0, p, σ, hp, m => by
    have hN := w.2.2.1
    obtain rfl : p = N := by omega
    obtain ⟨τ, t1, t2, t3⟩ := L_nightNow w (zMN_aw (au := zaw x) (fun q hq => by simp [hq]) m)
    refine ⟨τ, ?_, zfrm_m zMX_s t2, t3⟩
    rw [E_M_spokenBut_6, m.2.1, if_neg (nI_nlt (by omega) (by omega)), t1, zbI_some]
  | d + 1, p, σ, hp, m => by
    have hN := w.2.2.1
    have hL := w.2.2.2.1
    rw [E_M_spokenBut_6, m.2.1, if_pos (nI_lt (by omega) (by omega)), nI_1, show (x >>> (nI p &&& 31)) &&& 1 = zbit x p from rfl]
    rcases zbit_01 x p with e | e
    · rw [e, if_neg (by decide)]
      refine L_spokenBut_6 w x d (p + 1) σ (by omega) (zMN_aw (fun q hq => ?_) m)
      by_cases eq : q = p
      · subst eq
        simp [zaw, e]
      · simp [show (q < p + 1) = (q < p) from propext ⟨fun _ => by omega, fun _ => by omega⟩]
    · rw [e, if_pos rfl, L_sits (by omega), zbV_some]
      obtain ⟨τ, t1, t2, t3⟩ := L_spokenBut_6 w x d (p + 1) (zup σ 3 0 2 (12 + 4 * p) (-4)) (by omega) (zMN_aw (fun q hq => by
        by_cases eq : q = p
        · subst eq
          simp [zaw, e]
        · simp [eq, show (q < p + 1) = (q < p) from propext ⟨fun _ => by omega, fun _ => by omega⟩]) (zMN_go (p := p) (by omega) hN hL m))
      exact ⟨τ, t1, zfrm_t (zfrm_up zfrm_r (z2_s _ _ _ ⟨rfl, rfl, rfl⟩)) t2, t3⟩
theorem L_spokenBut {σ : ZS} {h : Nat → Nat → Int32} {R P N L S : Nat} (c : zCx σ h R P N L S) (x : Int32) : ∃ τ, zcall 183 [zA 3 0 0, zI x] σ = some (zI (nI (zspn h (zaw x) N zno L)), τ) ∧ zfrm zScr σ τ ∧ ∀ k, k < L → τ 3 0 8 k = zsp h (zaw x) N zno k := by
  obtain ⟨τ, t1, t2, t3⟩ := L_spokenBut_6 (zWF_NW c.1) x N 0 (zst σ) (by omega) (zMN_aw (fun q hq => by simp) (zCx_MN c))
  rw [E_M_spokenBut, L_starts, zbV_some]
  exact ⟨τ, t1, zfrm_t (zst_f σ) t2, t3⟩
/-- a night of the class's house with some away -/
theorem L_playA {σ : ZS} {h : Nat → Nat → Int32} {R P N L S : Nat} (hh : σ 1 0 = h) (w : zWF h R P N L S) (x : Int32) : ∃ τ, zcall 24 [zA 0 0 7, zA 1 0 0, zI x, zI 0] σ = some (zI (nI (zspn h (zaw x) N zno L)), τ) ∧ zfrm zScr σ τ ∧ (∀ k, k < L → τ 0 0 8 k = zsp h (zaw x) N zno k) ∧ τ 0 0 7 1 = nI (zmk (zspk h (zaw x) N zno) L) := by
  subst hh
  obtain ⟨τ, t1, t2, t3⟩ := L_play (aw := zaw x) (away := x) (cut := zno) (cuts := 0) (zWF_NW w) (fun p _ => zaw_b x p) (fun i hi => zbit_0 i (by have := w.2.1.2.2.2.2.2.1; omega))
  exact ⟨τ, t1, zfrm_m zPX_s t2, t3⟩
theorem Q_without {σ : ZS} (hi : zInv σ) (x : Int32) : zPair (zcall 93 [zA 0 0 0, zI x]) (zcall 182 [zA 3 0 0, zI x]) σ := by
  obtain ⟨R, P, N, L, S, a1, a2, a3, a4, a5, a6, a7, a8⟩ := id hi
  have n1 : σ 1 0 0 3 = nI N := a1.1.2.2.1
  have n2 : σ 3 0 0 5 = nI N := a3.2.2.1.trans n1
  unfold zPair
  simp only [E_S_without, E_M_without, E_S_bitsBelow, L_is0, L_in0, zbI_some, zif_b, n1]
  cases h1 : zin2 x (nI 0) ((1 <<< (nI N &&& 31)) - 1) with
  | false =>
    refine ⟨-1, σ, σ, rfl, ?_, hi⟩
    rw [n2, h1]
    rfl
  | true =>
    obtain ⟨τ, t1, t2, -⟩ := L_playA rfl a1 x
    obtain ⟨υ, u1, u2, -⟩ := L_spokenBut (zCx_f t2 (zCx_of a1 a2 a3)) x
    refine ⟨nI (zspn (σ 1 0) (zaw x) N zno L), τ, υ, ?_, ?_, zInv_q u2 (zInv_q t2 hi)⟩
    · rw [if_pos rfl, t1, zbI_some]
    · have e : τ 3 0 0 5 = nI N := by rw [t2 3 0 0 (by simp [zScr, zScC])]; exact n2
      rw [e, h1, if_pos rfl, u1, zbI_some]
/-! row -/
/-- who sits in row r -/
def zrw (h : Nat → Nat → Int32) (r p : Nat) : Bool := !decide (h 4 p = -4) && decide (h 1 (h 4 p).toNatClampNeg = nI r)
theorem L_isAway {σ : ZS} (g : Nat) {p : Nat} (hp : p < 4) : zcall 17 [zA 1 g 0, zI (nI p)] σ = some (zI (zb (decide (σ 1 g 4 p = -4))), σ) := by
  rw [E_House_isAway, zck_nI hp (by decide), nI_clamp (by omega)]
  by_cases h : σ 1 g 4 p = -4
  · rw [if_pos h, decide_eq_true h]; rfl
  · rw [if_neg h, decide_eq_false h]; rfl
theorem zmk_256 (b : Nat → Bool) {n : Nat} (h : n ≤ 8) : zmk b n < 256 := p2_8 h (zmk_lt b n)
theorem L_rowC {σ : ZS} {h : Nat → Nat → Int32} {R P N L S : Nat} (hh : σ 1 0 = h) (w : zWF h R P N L S) (r : Nat) : ∀ d p : Nat, p + d = N → zev 20 4 [(0, zA 1 0 0), (1, zI (nI r)), (2, zI (nI (zmk (zrw h r) p))), (3, zI (nI p))] [] σ = some (zI (nI (zmk (zrw h r) N)), σ)
  | 0, p, hp => by
    have hN := w.2.1.2.2.2.2.1
    obtain rfl : p = N := by omega
    rw [E_House_peopleOfRow_4, hh, w.1.2.2.1, if_neg (nI_nlt (by omega) (by omega))]
  | d + 1, p, hp => by
    have hN := w.2.1.2.2.2.2.1
    have h12 := zRP12 w.2.1.2.1 w.2.1.2.2.2.1
    have ih := L_rowC hh w r d (p + 1) (by omega)
    rw [zmk_s] at ih
    rw [E_House_peopleOfRow_4, hh, w.1.2.2.1, if_pos (nI_lt (by omega) (by omega)), L_isAway 0 (by omega), zbI_some, zif_b, hh, nI_clamp (by omega), nI_1]
    by_cases h1 : h 4 p = -4
    · rw [decide_eq_true h1, if_pos rfl]
      rw [if_neg (by unfold zrw; rw [decide_eq_true h1]; simp)] at ih
      exact ih
    · obtain ⟨s, hs, e⟩ := (w.2.2.2.2.2.2.1.1 p (by omega)).resolve_left h1
      rw [decide_eq_false h1, if_neg (by decide), zck_nI (by omega) (by decide), e, zck_nI (by omega) (by decide), nI_clamp (by omega), zb2 _ (zmk_256 _ (by omega)) p (by omega)]
      by_cases h2 : h 1 s = nI r
      · rw [if_pos h2]
        rw [if_pos (by unfold zrw; rw [decide_eq_false h1, e, nI_clamp (by omega), decide_eq_true h2]; rfl)] at ih
        exact ih
      · rw [if_neg h2]
        rw [if_neg (by unfold zrw; rw [decide_eq_false h1, e, nI_clamp (by omega), decide_eq_false h2]; decide)] at ih
        exact ih
def zmin (v x : Int32) (s : Int32 × Int32) : Int32 × Int32 := if v < s.1 then (v, x) else s
def zrwI (h : Nat → Nat → Int32) (N L r : Nat) (s : Int32 × Int32) : Int32 × Int32 := zmin (nI (zspn h (zaw (nI (zmk (zrw h r) N))) N zno L)) (nI r) s
theorem L_rowC_20 {h : Nat → Nat → Int32} {R P N L S : Nat} (w : zWF h R P N L S) (x : Int32) : ∀ (d r : Nat) (σ : ZS) (s : Int32 × Int32), r + d = R → σ 1 0 = h →
    ∃ τ, zev 94 20 [(0, zA 0 0 0), (1, zI x), (2, zI s.1), (3, zI s.2), (4, zI (nI r))] [] σ = some (zI (if (zit (zrwI h N L) r d s).2 = -4 then -4 else if x = 0 then (zit (zrwI h N L) r d s).2 else (zit (zrwI h N L) r d s).1), τ) ∧ zfrm zScr σ τ
  | 0, r, σ, s, hr, hh => by
    have hR := w.2.1.2.1
    refine ⟨σ, ?_, zfrm_r⟩
    obtain rfl : r = R := by omega
    rw [E_S_row_20, hh, w.1.1, if_neg (nI_nlt (by omega) (by omega)), L_which, zbI_some]
    rfl
  | d + 1, r, σ, s, hr, hh => by
    have hR := w.2.1.2.1
    obtain ⟨τ, t1, t2, -⟩ := L_playA hh w (nI (zmk (zrw h r) N))
    obtain ⟨υ, u1, u2⟩ := L_rowC_20 w x d (r + 1) τ (zrwI h N L r s) (by omega) (by rw [zh_f t2, hh])
    refine ⟨υ, ?_, zfrm_t t2 u2⟩
    rw [E_S_row_20, hh, w.1.1, if_pos (nI_lt (by omega) (by omega)), E_House_peopleOfRow]
    rw [show zev 20 4 [(0, zA 1 0 0), (1, zI (nI r)), (2, zI 0), (3, zI 0)] [] σ = _ from L_rowC hh w r N 0 (by omega), zbI_some, t1, zbI_some, nI_1]
    unfold zit
    unfold zrwI zmin at u1 ⊢
    by_cases hc : nI (zspn h (zaw (nI (zmk (zrw h r) N))) N zno L) < s.1
    · rw [if_pos hc]
      rw [if_pos hc] at u1 ⊢
      exact u1
    · rw [if_neg hc]
      rw [if_neg hc] at u1 ⊢
      exact u1
theorem zor_f (m i : Nat) (b : Bool) (hm : m < 256) (hi : i < 8) : nI m ||| (zb b <<< (nI i &&& 31)) = nI (if b = true then m ||| 1 <<< i else m) := by
  cases b with
  | true => exact zb2 m hm i hi
  | false =>
    rw [show zb false = 0 from rfl, zshl0 i (by omega), Int32.or_zero]
    rfl
theorem L_rowM_35 {h : Nat → Nat → Int32} {R P N L S r : Nat} (hr : r < R) (x : Int32) (s : Int32 × Int32) : ∀ (d p : Nat) (σ : ZS), p + d = N → zCx σ h R P N L S →
    ∃ τ, zev 184 35 [(0, zA 3 0 0), (1, zI x), (2, zI s.1), (3, zI s.2), (4, zI (nI r)), (5, zI (nI (zmk (zrw h r) p))), (6, zI (nI p))] [] σ = zev 184 20 [(0, zA 3 0 0), (1, zI x), (2, zI (zrwI h N L r s).1), (3, zI (zrwI h N L r s).2), (4, zI (nI (r + 1)))] [] τ ∧ zfrm zScr σ τ
  | 0, p, σ, hp, c => by
    have hN := c.1.2.1.2.2.2.2.1
    obtain rfl : p = N := by omega
    obtain ⟨τ, t1, t2, -⟩ := L_spokenBut c (nI (zmk (zrw h r) p))
    refine ⟨τ, ?_, t2⟩
    rw [E_M_row_35, c.2.2.2.2.1, if_neg (nI_nlt (by omega) (by omega)), t1, zbI_some, nI_1]
    unfold zrwI zmin
    by_cases hc : nI (zspn h (zaw (nI (zmk (zrw h r) p))) p zno L) < s.1
    · rw [if_pos hc, if_pos hc, if_pos hc]
    · rw [if_neg hc, if_neg hc, if_neg hc]
  | d + 1, p, σ, hp, c => by
    have hN := c.1.2.1.2.2.2.2.1
    have hP := c.1.2.1.2.2.2.1
    have hP0 := c.1.2.1.2.2.1
    have hR := c.1.2.1.2.1
    have h12 := zRP12 c.1.2.1.2.1 c.1.2.1.2.2.2.1
    have hz : ∀ rr, zdv (nI P) rr = rr := fun rr => if_neg (nI_ne0 (by omega) (by omega))
    have ih : ∀ b, b = zrw h r p → ∃ τ, zev 184 35 [(0, zA 3 0 0), (1, zI x), (2, zI s.1), (3, zI s.2), (4, zI (nI r)), (5, zI (nI (zmk (zrw h r) p) ||| (zb b <<< (nI p &&& 31)))), (6, zI (nI (p + 1)))] [] σ = zev 184 20 [(0, zA 3 0 0), (1, zI x), (2, zI (zrwI h N L r s).1), (3, zI (zrwI h N L r s).2), (4, zI (nI (r + 1)))] [] τ ∧ zfrm zScr σ τ := by
      intro b hb
      rw [zor_f _ _ _ (zmk_256 _ (by omega)) (by omega), hb]
      exact L_rowM_35 hr x s d (p + 1) σ (by omega) c
    have vp : σ 3 0 1 (12 + 4 * p) = h 4 p := (c.2.1.2.1 p (by omega)).1
    rw [E_M_row_35, c.2.2.2.2.1, if_pos (nI_lt (by omega) (by omega)), show (12 + (4 * nI p)) + (0 : Int32) = nI (12 + 4 * p) from zidx 0, zck_nI (by omega) (by decide), nI_clamp (by omega), vp, c.2.2.2.1, hz, nI_1]
    by_cases h1 : h 4 p = -4
    · rw [if_pos h1, L_flag0, zbI_some]
      exact ih false (by unfold zrw; rw [decide_eq_true h1]; rfl)
    · obtain ⟨t, ht, e⟩ := (c.1.2.2.2.2.2.2.1.1 p (by omega)).resolve_left h1
      have e1 : h 1 t = nI (t / P) := (c.1.2.2.2.2.1 t ht).1
      rw [if_neg h1, e, pk_div (by omega) (by omega) (by omega), L_flag1, L_flag0, zbI_some, zbI_some]
      by_cases h2 : nI (t / P) = nI r
      · rw [if_pos h2]
        exact ih true (by unfold zrw; rw [decide_eq_false h1, e, nI_clamp (by omega), e1, decide_eq_true h2]; rfl)
      · rw [if_neg h2]
        exact ih false (by unfold zrw; rw [decide_eq_false h1, e, nI_clamp (by omega), e1, decide_eq_false h2]; rfl)
theorem L_rowM_20 {h : Nat → Nat → Int32} {R P N L S : Nat} (x : Int32) : ∀ (d r : Nat) (σ : ZS) (s : Int32 × Int32), r + d = R → zCx σ h R P N L S →
    ∃ τ, zev 184 20 [(0, zA 3 0 0), (1, zI x), (2, zI s.1), (3, zI s.2), (4, zI (nI r))] [] σ = some (zI (if x = 0 then (zit (zrwI h N L) r d s).2 else (zit (zrwI h N L) r d s).1), τ) ∧ zfrm zScr σ τ
  | 0, r, σ, s, hr, c => by
    have hR := c.1.2.1.2.1
    refine ⟨σ, ?_, zfrm_r⟩
    obtain rfl : r = R := by omega
    rw [E_M_row_20, c.2.2.1, if_neg (nI_nlt (by omega) (by omega))]
    unfold zit
    split <;> rfl
  | d + 1, r, σ, s, hr, c => by
    have hR := c.1.2.1.2.1
    obtain ⟨τ, t1, t2⟩ := L_rowM_35 (show r < R by omega) x s N 0 σ (by omega) c
    obtain ⟨υ, u1, u2⟩ := L_rowM_20 x d (r + 1) τ (zrwI h N L r s) (by omega) (zCx_f t2 c)
    refine ⟨υ, ?_, zfrm_t t2 u2⟩
    rw [E_M_row_20, c.2.2.1, if_pos (nI_lt (by omega) (by omega))]
    rw [show zev 184 35 [(0, zA 3 0 0), (1, zI x), (2, zI s.1), (3, zI s.2), (4, zI (nI r)), (5, zI 0), (6, zI 0)] [] σ = _ from t1]
    exact u1
theorem Q_row {σ : ZS} (hi : zInv σ) (x : Int32) : zPair (zcall 94 [zA 0 0 0, zI x]) (zcall 184 [zA 3 0 0, zI x]) σ := by
  obtain ⟨R, P, N, L, S, a1, a2, a3, a4, a5, a6, a7, a8⟩ := id hi
  have hL : L ≤ 8 := a1.2.1.2.2.2.2.2.1
  have hR0 := a1.2.1.1
  unfold zPair
  simp only [E_S_row, E_M_row, L_is0_1, L_in0_1, zbI_some, zif_b]
  cases h1 : zin2 x (nI 0) (nI 1) with
  | false => exact ⟨-1, σ, σ, rfl, rfl, hi⟩
  | true =>
    have c := zCx_of a1 a2 a3
    obtain ⟨τ, p1, p2⟩ := L_rowC_20 a1 x R 0 σ (9, -4) (by omega) rfl
    obtain ⟨υ, q1, q2⟩ := L_rowM_20 x R 0 τ (1000000, 0) (by omega) (zCx_f p2 c)
    refine ⟨_, τ, υ, Eq.trans ?_ p1, ?_, zInv_q q2 (zInv_q p2 hi)⟩
    · rw [if_pos rfl]
      rfl
    · rw [if_pos rfl]
      rw [show zev 184 20 [(0, zA 3 0 0), (1, zI x), (2, zI 1000000), (3, zI 0), (4, zI 0)] [] τ = _ from q1]
      obtain ⟨d, rfl⟩ : ∃ d, R = d + 1 := ⟨R - 1, by omega⟩
      have hn := zct_le (zspk (σ 1 0) (zaw (nI (zmk (zrw (σ 1 0) 0) N))) N zno) L
      have e1 : zrwI (σ 1 0) N L 0 (1000000, 0) = (nI (zspn (σ 1 0) (zaw (nI (zmk (zrw (σ 1 0) 0) N))) N zno L), nI 0) := by
        unfold zrwI zmin
        rw [if_pos (show _ < (1000000 : Int32) from nI_lt (b := 1000000) (by unfold zspn; omega) (by decide))]
      have e2 : zrwI (σ 1 0) N L 0 (9, -4) = (nI (zspn (σ 1 0) (zaw (nI (zmk (zrw (σ 1 0) 0) N))) N zno L), nI 0) := by
        unfold zrwI zmin
        rw [if_pos (show _ < (9 : Int32) from nI_lt (b := 9) (by unfold zspn; omega) (by decide))]
      unfold zit
      rw [e1, e2]
      have hne : (zit (zrwI (σ 1 0) N L) (0 + 1) d (nI (zspn (σ 1 0) (zaw (nI (zmk (zrw (σ 1 0) 0) N))) N zno L), nI 0)).2 ≠ -4 := by
        refine zit_p (p := fun t : Int32 × Int32 => t.2 ≠ -4) d (0 + 1) _ (fun j h1 h2 t ht => ?_) (nI_ne4 (by omega))
        unfold zrwI zmin
        split
        · exact nI_ne4 (by have := a1.2.1.2.1; omega)
        · exact ht
      rw [if_neg hne]
