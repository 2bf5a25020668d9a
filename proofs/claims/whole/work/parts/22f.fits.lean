/-! fits -/
def zee (I : Nat → Bool) (x : List Nat) : Nat → Nat
  | 0 => 0
  | j + 1 => zee I x j + (if I (zgt x j) = true then 1 else 0)
def zwj (I : Nat → Bool) (T : Nat) (x : List Nat) : Nat → Nat
  | 0 => 1
  | j + 1 => zwj I T x j * (if I (zgt x j) = true then T - zee I x j else 1)
theorem zgt_c {a j : Nat} {r : List Nat} (h : j < r.length) : zgt (a :: r) j = zgt r j := by
  show (if j = r.length then a else zgt r j) = _
  rw [if_neg (by omega)]
theorem zee_c {I : Nat → Bool} {a : Nat} {r : List Nat} : ∀ j, j ≤ r.length → zee I (a :: r) j = zee I r j
  | 0, _ => rfl
  | j + 1, h => by
    unfold zee
    rw [zee_c j (by omega), zgt_c (by omega)]
theorem zwj_c {I : Nat → Bool} {T a : Nat} {r : List Nat} : ∀ j, j ≤ r.length → zwj I T (a :: r) j = zwj I T r j
  | 0, _ => rfl
  | j + 1, h => by
    unfold zwj
    rw [zwj_c j (by omega), zgt_c (by omega), zee_c j (by omega)]
theorem zee_e {I : Nat → Bool} : ∀ l : List Nat, zee I l l.length = zei I l
  | [] => rfl
  | a :: r => by
    rw [List.length_cons]
    show zee I (a :: r) r.length + (if I (zgt (a :: r) r.length) = true then 1 else 0) = zei I r + _
    rw [zee_c _ (Nat.le_refl _), zee_e r, show zgt (a :: r) r.length = a from if_pos rfl]
theorem zwj_e {I : Nat → Bool} {T : Nat} : ∀ l : List Nat, zwj I T l l.length = zwt I T l
  | [] => rfl
  | a :: r => by
    rw [List.length_cons]
    show zwj I T (a :: r) r.length * (if I (zgt (a :: r) r.length) = true then T - zee I (a :: r) r.length else 1) = zwt I T r * _
    rw [zwj_c _ (Nat.le_refl _), zee_c _ (Nat.le_refl _), zwj_e r, zee_e r, show zgt (a :: r) r.length = a from if_pos rfl]
theorem zee_m {I : Nat → Bool} {x : List Nat} {j : Nat} : ∀ n, j ≤ n → zee I x j ≤ zee I x n
  | 0, h => by rw [show j = 0 by omega]; exact Nat.le_refl _
  | n + 1, h => by
    by_cases e : j = n + 1
    · rw [e]; exact Nat.le_refl _
    · have := zee_m (I := I) (x := x) (j := j) n (by omega)
      show zee I x j ≤ zee I x n + _
      omega
theorem L_isIdle {σ : ZS} {mv : Nat → Nat} {k M s : Nat} {I : Nat → Bool} (c : zSC σ mv k M I) (hs : s < M) : zcall 53 [zA 0 0 9, zI (nI s)] σ = some (zI (zb (I s)), σ) := by
  have hM := c.2.2.2.2.2.1
  rw [E_Seatings_isIdle, c.2.1, show (nI (zmk I M) >>> (nI s &&& 31)) &&& 1 = zbit (nI (zmk I M)) s from rfl, zbit_bt _ (by omega), zvb_n _ (by omega), zmk_tb, zif_b]
  have e : (decide (s < M) && I s) = I s := by simp [hs]
  rw [e]
  cases I s <;> rfl
theorem L_alike13 {σ : ZS} {h : Nat → Nat → Int32} {mv : Nat → Nat} {k M : Nat} {I : Nat → Bool} {x : List Nat} (c : zSC σ mv k M I) (t : zTr σ h mv k M x) (g : zgd M x = true) (hx : x.length = k) : ∀ d j : Nat, j + d = k → zev 52 13 [(0, zA 0 0 9), (1, zA 1 1 0), (2, zI (nI (zct I M - zee I x j))), (3, zI (nI (zwj I (zct I M) x j))), (4, zI (nI j))] [] σ = some (zI (nI (zwt I (zct I M) x)), σ)
  | 0, j, hj => by
    have hk := c.2.2.2.2.1
    rw [show j = k by omega, E_Seatings_alike_13, c.1, if_neg (nI_nlt (Nat.le_refl _) (by omega)), ← hx, zwj_e]
  | d + 1, j, hj => by
    have hk := c.2.2.2.2.1
    have hM := c.2.2.2.2.2.1
    have hmv := c.2.2.2.2.2.2.1 j (by omega)
    have ih := L_alike13 c t g hx d (j + 1) (by omega)
    have e1 : zwj I (zct I M) x (j + 1) = zwj I (zct I M) x j * (if I (zgt x j) = true then zct I M - zee I x j else 1) := rfl
    have e2 : zee I x (j + 1) = zee I x j + (if I (zgt x j) = true then 1 else 0) := rfl
    rw [E_Seatings_alike_13, c.1, if_pos (nI_lt (by omega) (by omega)), zck_nI (by omega) (by decide), nI_clamp (show j < 2 ^ 31 by omega), c.2.2.1 j (by omega), zck_nI hmv (by decide), nI_clamp (show mv j < 2 ^ 31 by omega), t.2.2.1 j (by omega), L_isIdle c (zgt_lt g (by omega)), zbI_some, zif_b, nI_1]
    cases hi : I (zgt x j) with
    | false =>
      rw [e1, e2, hi, if_neg (by decide), if_neg (by decide), Nat.mul_one, Nat.add_zero] at ih
      rw [if_neg (by decide)]
      exact ih
    | true =>
      have h1 := zee_m (I := I) (x := x) (j := j + 1) k (by omega)
      have h2 := zcnt (I := I) g
      rw [← zee_e, hx] at h2
      rw [e2, hi, if_pos rfl] at h1
      rw [e1, e2, hi, if_pos rfl, if_pos rfl] at ih
      obtain ⟨q, hq⟩ : ∃ q, zct I M - zee I x j = q + 1 := ⟨zct I M - zee I x j - 1, by omega⟩
      rw [if_pos rfl, pk_mul, hq, nI_dec]
      rw [show zct I M - (zee I x j + 1) = q by omega, hq] at ih
      exact ih
theorem L_alike {σ : ZS} {h : Nat → Nat → Int32} {mv : Nat → Nat} {k M : Nat} {I : Nat → Bool} {x : List Nat} (c : zSC σ mv k M I) (t : zTr σ h mv k M x) (g : zgd M x = true) (hx : x.length = k) : zcall 52 [zA 0 0 9, zA 1 1 0] σ = some (zI (nI (zwt I (zct I M) x)), σ) := by
  have hM := c.2.2.2.2.2.1
  have hI : zmk I M < 4096 := Nat.lt_of_lt_of_le (zmk_lt I M) (show 2 ^ M ≤ 2 ^ 12 from Nat.pow_le_pow_right (by omega) hM)
  rw [E_Seatings_alike, c.2.1, L_bitCount, zbI_some, zbc_n _ hI, zpop_mk _ hM]
  exact L_alike13 c t g hx k 0 (by omega)
/-- SEATS of the one asked for: of all that a SEATING stands for; of a SEATING -/
def zsa (h : Nat → Nat → Int32) (I : Nat → Bool) (M : Nat) (q : Option Nat) (x : List Nat) : Nat := match q with
  | none => 0
  | some p => if zhr h p = true then (if I (zgt x (zct (zhr h) p)) = true then zmk I M else 1 <<< zgt x (zct (zhr h) p)) else 0
def zsb1 (h : Nat → Nat → Int32) (q : Option Nat) (x : List Nat) : Nat := match q with
  | none => 0
  | some p => if zhr h p = true then 1 <<< zgt x (zct (zhr h) p) else 0
def zft1 (h : Nat → Nat → Int32) (N S : Nat) (x : List Nat) : Bool := zfx (zsp (zhl h (zmvr (zhr h) N) x) zno N zno) h S
def zfu (h : Nat → Nat → Int32) (N S : Nat) (g e : List Nat → Nat) (a : Nat × Nat) (x : List Nat) : Nat × Nat := if zft1 h N S x = true then (a.1 + g x, a.2 ||| e x) else a
theorem zhr_f {h : Nat → Nat → Int32} {p : Nat} (hz : ¬ zhr h p = true) : h 4 p = -4 := by
  unfold zhr at hz
  by_cases e : h 4 p = -4
  · exact e
  · rw [decide_eq_false e] at hz; exact absurd rfl hz
theorem zct_ltN {b : Nat → Bool} {p N : Nat} (hp : p < N) (hb : b p = true) : zct b p < zct b N := by
  have := zct_le2 (b := b) (p := p + 1) N (by omega)
  rw [zct_s hb] at this
  omega
theorem L_seatsAlike {σ : ZS} {h : Nat → Nat → Int32} {R P N L S p : Nat} (w : zWF h R P N L S) {x : List Nat} (c : zSC σ (zmvr (zhr h) N) (zct (zhr h) N) (R * P) (zid h L)) (t : zTr σ h (zmvr (zhr h) N) (zct (zhr h) N) (R * P) x) (g : zgd (R * P) x = true) (hx : x.length = zct (zhr h) N) (hp : p < N) : zcall 54 [zA 0 0 9, zA 1 1 0, zI (nI p)] σ = some (zI (nI (zsa h (zid h L) (R * P) (some p) x)), σ) := by
  have hN := w.2.1.2.2.2.2.1
  have h12 := zRP12 w.2.1.2.1 w.2.1.2.2.2.1
  unfold zsa
  dsimp only
  rw [E_Seatings_seatsAlike, L_isAway 1 (by omega), zbI_some, zif_b]
  by_cases hz : zhr h p = true
  · have hj := zct_ltN hp hz
    have e4 : σ 1 1 4 p = nI (zgt x (zct (zhr h) p)) := by
      have := t.2.2.1 (zct (zhr h) p) (by omega)
      rw [zmvr_p hz N hp] at this
      exact this
    have hs := zgt_lt g (show zct (zhr h) p < x.length by omega)
    rw [e4, decide_eq_false (nI_ne4 (by omega)), if_neg (by decide), if_pos hz, zck_nI (by omega) (by decide), nI_clamp (show p < 2 ^ 31 by omega), e4, L_isIdle c hs, zbI_some, zif_b, zck_nI (by omega) (by decide), e4, c.2.1, zn_1 _ (by omega)]
    cases zid h L (zgt x (zct (zhr h) p)) <;> rfl
  · have e4 : σ 1 1 4 p = -4 := by
      rw [t.2.1 p (by omega) (fun j hj e => ?_)]
      · exact zhr_f hz
      · obtain ⟨q, -, q2, -, q4⟩ := zmvr_j N hj
        rw [e] at q4
        rw [← q4] at q2
        exact hz q2
    rw [e4, decide_eq_true rfl, if_pos rfl, if_neg hz]
    rfl
theorem L_fitsEnd (σ : ZS) (x1 x2 x3 x4 : Int32) (i : Nat) : zev 105 55 [(0, zA 0 0 0), (1, zI x1), (2, zI x2), (3, zI x3), (4, zI x4), (5, zI 0), (6, zI (nI i))] [] σ = some (zI (if x1 = 0 then x3 else x4), σ) := by
  rw [E_S_fits_55, if_pos rfl]
  split <;> split <;> rfl
theorem L_fitsC {h : Nat → Nat → Int32} {R P N L S : Nat} (w : zWF h R P N L S) {x1 x2 : Int32} {q : Option Nat} (hq : (x1 = 0 ∧ q = none) ∨ ∃ p, p < N ∧ ¬ x1 = 0 ∧ x2 = nI p ∧ q = some p) : ∀ (n : Nat) (x : List Nat) (i : Nat) (a : Nat × Nat) (σ : ZS), (zrs (zid h L) (R * P) 0 x).length = n → i + n + 1 ≤ 11880 → zgd (R * P) x = true → x.length = zct (zhr h) N → zSC σ (zmvr (zhr h) N) (zct (zhr h) N) (R * P) (zid h L) → zTr σ h (zmvr (zhr h) N) (zct (zhr h) N) (R * P) x →
    ∃ τ, zev 105 55 [(0, zA 0 0 0), (1, zI x1), (2, zI x2), (3, zI (nI a.1)), (4, zI (nI a.2)), (5, zI 1), (6, zI (nI i))] [] σ = some (zI (if x1 = 0 then nI ((x :: zrs (zid h L) (R * P) 0 x).foldl (zfu h N S (zwt (zid h L) (zct (zid h L) (R * P))) (zsa h (zid h L) (R * P) q)) a).1 else nI ((x :: zrs (zid h L) (R * P) 0 x).foldl (zfu h N S (zwt (zid h L) (zct (zid h L) (R * P))) (zsa h (zid h L) (R * P) q)) a).2), τ) ∧ zfrm zScr σ τ := by
  intro n
  induction n using Nat.strongRecOn with
  | ind n ih =>
    intro x i a σ hn hi g hx c t
    have hL := w.2.1.2.2.2.2.2.1
    have hkM := c.2.2.2.1
    obtain ⟨τ1, p1, p2, p3⟩ := L_playT (zTr_IR c t hx) (zNW_l (mv := zmvr (zhr h) N) (zWF_NW w) (zgd_lo g))
    have q11 : τ1 1 1 = σ 1 1 := funext fun j => p2 1 1 j (by simp [zPX])
    have c1 : zSC τ1 _ _ _ _ := zSC_f (zfrm_m zPX_n p2) c
    have t1 : zTr τ1 h (zmvr (zhr h) N) (zct (zhr h) N) (R * P) x := zTr_e q11 t
    have f1 : zfrm zScr σ τ1 := zfrm_m zPX_s p2
    have es : zcall 29 [zA 0 0 7, zA 1 1 0] τ1 = some (zI (zb (zft1 h N S x)), τ1) := by
      rw [E_Night_isAsSeen]
      rw [show zev 29 2 [(0, zA 0 0 7), (1, zA 1 1 0), (2, zI 0)] [] τ1 = _ from L_asSeen2 w (t1.1.1 6 (by omega)) t1.1.2.2.2 S 0 (by omega) rfl]
      unfold zft1
      rw [zfx_c (L := L) (S := S) p3 hL (fun k hk => (w.2.2.2.2.2.2.2.2.2 k hk).1) S (Nat.le_refl _)]
    -- the next one, with what has been found
    have tail : ∀ a' : Nat × Nat, ∃ τ, zbI (zcall 51 [zA 0 0 9, zA 1 1 0] τ1) (fun x32 σ31 => zev 105 55 [(0, zA 0 0 0), (1, zI x1), (2, zI x2), (3, zI (nI a'.1)), (4, zI (nI a'.2)), (5, zI x32), (6, zI (nI i + 1))] [] σ31) = some (zI (if x1 = 0 then nI ((zrs (zid h L) (R * P) 0 x).foldl (zfu h N S (zwt (zid h L) (zct (zid h L) (R * P))) (zsa h (zid h L) (R * P) q)) a').1 else nI ((zrs (zid h L) (R * P) 0 x).foldl (zfu h N S (zwt (zid h L) (zct (zid h L) (R * P))) (zsa h (zid h L) (R * P) q)) a').2), τ) ∧ zfrm zScr τ1 τ := by
      intro a'
      obtain ⟨τ2, s1, s2, s3⟩ := L_step x 0 τ1 (by rw [hx, Nat.add_zero]) g c1 t1
      rw [E_Seatings_step, c1.1, ← hx, s1, zbI_some, nI_1]
      cases hz : zsx (zid h L) (R * P) 0 x with
      | none =>
        rw [zsx_nil g (by omega) hz]
        exact ⟨τ2, L_fitsEnd _ _ _ _ _ _, zfrm_m zT4_s s2⟩
      | some z =>
        obtain ⟨gz, lz⟩ := zsx_g x 0 g (by omega) hz
        have ez := zsx_con g (by omega) hz
        rw [ez, List.length_cons] at hn
        obtain ⟨τ, f1, f2⟩ := ih (zrs (zid h L) (R * P) 0 z).length (by omega) z (i + 1) a' τ2 rfl (by omega) gz (by omega) (zSC_f (zfrm_m zT4_n s2) c1) (s3 z hz)
        rw [ez]
        exact ⟨τ, f1, zfrm_t (zfrm_m zT4_s s2) f2⟩
    rw [E_S_fits_55, if_pos (show nI i < 11880 from nI_lt (b := 11880) (by omega) (by decide)), if_neg (show ¬ (1 : Int32) = 0 by decide), p1, zbI_some, es, zbI_some, zif_b, List.foldl_cons]
    cases hf : zft1 h N S x with
    | false =>
      have e : zfu h N S (zwt (zid h L) (zct (zid h L) (R * P))) (zsa h (zid h L) (R * P) q) a x = a := if_neg (by rw [hf]; decide)
      obtain ⟨τ, u1, u2⟩ := tail a
      rw [e, if_neg (by decide)]
      exact ⟨τ, u1, zfrm_t f1 u2⟩
    | true =>
      have e : zfu h N S (zwt (zid h L) (zct (zid h L) (R * P))) (zsa h (zid h L) (R * P) q) a x = (a.1 + zwt (zid h L) (zct (zid h L) (R * P)) x, a.2 ||| zsa h (zid h L) (R * P) q x) := if_pos hf
      obtain ⟨τ, u1, u2⟩ := tail (a.1 + zwt (zid h L) (zct (zid h L) (R * P)) x, a.2 ||| zsa h (zid h L) (R * P) q x)
      rw [e, if_pos rfl, L_alike c1 t1 g hx, zbI_some, nI_add]
      refine ⟨τ, ?_, zfrm_t f1 u2⟩
      rcases hq with ⟨h0, rfl⟩ | ⟨p, hp, h0, rfl, rfl⟩
      · rw [if_pos h0, show (0 : Int32) = nI 0 from rfl, zn_or]
        exact u1
      · rw [if_neg h0, L_seatsAlike w c1 t1 g hx hp, zbI_some, zn_or]
        exact u1
