/-! drift -/
theorem zin2_1 (x : Int32) (m : Nat) (hm : m < 2 ^ 31 := by decide) : zin2 x (nI 1) (nI m) = false ∨ ∃ k, 1 ≤ k ∧ k ≤ m ∧ x = nI k ∧ zin2 x (nI 1) (nI m) = true := by
  show (decide ((1 : Int32) ≤ x) && _) = false ∨ ∃ k, _ ∧ _ ∧ _ ∧ (decide ((1 : Int32) ≤ x) && _) = true
  by_cases h1 : (1 : Int32) ≤ x
  · have h0 : (0 : Int32) ≤ x := Int32.le_trans (by decide) h1
    obtain ⟨j, hj, rfl⟩ := nI_of (Int32.not_lt.mpr h0)
    have hj1 : 1 ≤ j := (nI_leI (a := 1) (by omega) hj).mp h1
    by_cases h2 : j ≤ m
    · right
      have h3 : nI j ≤ nI m := nI_le h2 hm
      exact ⟨j, hj1, h2, rfl, by simp [h1, h3]⟩
    · left
      have h3 : ¬ nI j ≤ nI m := nI_ge (by omega) hj
      simp [h3]
  · left
    simp [h1]
/-- what is drawn of a seed -/
def zdw (x : Int32) : Nat := x.toBitVec.toNat / 65536 % 32768
theorem zdw_u (x : Int32) : ((x.toUInt32 >>> ((16 : Int32).toUInt32 &&& Int32.toUInt32 31)).toInt32) &&& 32767 = nI (zdw x) := by
  rw [pk_and _ 15 (by decide), pk_ushr x 16 16 (by decide)]
  rfl
theorem zdw_s (x : Int32) : (x >>> ((16 : Int32) &&& 31)) &&& 32767 = nI (zdw x) := by
  rw [pk_and _ 15 (by decide)]
  have h1 := pk_shr x ((16 : Int32) &&& 31) 16 (by decide)
  have h2 : x.toInt >>> 16 = x.toInt / 65536 := Int.shiftRight_eq_div_pow _ _
  rw [h2] at h1
  have e1 : ∀ y : Int32, y.toInt = if y.toBitVec.toNat < 2147483648 then (y.toBitVec.toNat : Int) else (y.toBitVec.toNat : Int) - 4294967296 := by
    intro y
    show y.toBitVec.toInt = _
    rw [BitVec.toInt_eq_toNat_cond]
    by_cases h : y.toBitVec.toNat < 2147483648
    · rw [if_pos h, if_pos (by omega)]
    · rw [if_neg h, if_neg (by omega)]
      rfl
  rw [e1, e1 x] at h1
  have b1 := (x >>> ((16 : Int32) &&& 31)).toBitVec.isLt
  have b2 := x.toBitVec.isLt
  unfold zdw
  congr 1
  generalize (x >>> ((16 : Int32) &&& 31)).toBitVec.toNat = u at *
  generalize x.toBitVec.toNat = v at *
  show u % 32768 = v / 65536 % 32768
  split at h1 <;> split at h1 <;> omega
theorem zdw_lt (x : Int32) : zdw x < 32768 := Nat.mod_lt _ (by omega)
theorem L_drawn (σ : ZS) (x : Int32) {n : Nat} (h0 : 0 < n) (hn : n < 2 ^ 31) : zcall 108 [zI x, zI (nI n)] σ = some (zI (nI (zdw x % n)), σ) := by
  have := zdw_lt x
  have hz : zdv (nI n) = fun r => r := funext fun r => if_neg (nI_ne0 h0 hn)
  rw [E_S_drawn, if_pos (show 0 < nI n from nI_lt (a := 0) h0 hn), hz, zdw_u, pk_rem (by omega) h0 hn]
/-- is a SEAT taken -/
def zoc (h : Nat → Nat → Int32) (s : Nat) : Nat → Bool
  | 0 => false
  | n + 1 => zoc h s n || decide (h 4 n = nI s)
theorem zoc_t {h : Nat → Nat → Int32} {s : Nat} : ∀ n, zoc h s n = true ↔ ∃ q, q < n ∧ h 4 q = nI s
  | 0 => ⟨fun z => (nomatch z), fun ⟨q, hq, _⟩ => absurd hq (by omega)⟩
  | n + 1 => by
    unfold zoc
    rw [Bool.or_eq_true, zoc_t n]
    constructor
    · rintro (⟨q, hq, e⟩ | e)
      · exact ⟨q, by omega, e⟩
      · exact ⟨n, by omega, of_decide_eq_true e⟩
    · rintro ⟨q, hq, e⟩
      by_cases eq : q = n
      · subst eq; exact Or.inr (decide_eq_true e)
      · exact Or.inl ⟨q, by omega, e⟩
def zdrS (h : Nat → Nat → Int32) (N p s : Nat) : Nat → Nat → Int32 := if zoc h s N = true then h else zhu h 4 p (nI s)
theorem zWF_drS {h : Nat → Nat → Int32} {R P N L S p s : Nat} (w : zWF h R P N L S) (hs : s < R * P) : zWF (zdrS h N p s) R P N L S := by
  unfold zdrS
  by_cases ho : zoc h s N = true
  · rw [if_pos ho]; exact w
  · rw [if_neg ho]
    exact zWF_seat w (Or.inr ⟨s, hs, rfl⟩) (Or.inr fun q hq _ e => ho ((zoc_t N).mpr ⟨q, hq, e⟩))
theorem L_moveT {σ : ZS} {h : Nat → Nat → Int32} {R P N L S p s : Nat} (b : zIR (σ 1 1) h) (w : zWF h R P N L S) (hp : p < N) (hs : s < R * P) : ∃ v τ, zcall 12 [zA 1 1 0, zI (nI p), zI (nI s)] σ = some (zI v, τ) ∧ zfrm (zHG 1) σ τ ∧ zIR (τ 1 1) (zdrS h N p s) := by
  have w1 := zWF_IR b w
  have hN := w1.2.1.2.2.2.2.1
  have h12 := zRP12 w1.2.1.2.1 w1.2.1.2.2.2.1
  have m1 : σ 1 1 0 0 * σ 1 1 0 1 = nI (R * P) := by rw [w1.1.1, w1.1.2.1, pk_mul]
  have e4 : ∀ q, q < N → σ 1 1 4 q = h 4 q := fun q hq => (b.2.2.1 q (by omega)).1
  by_cases ho : ∃ q, q < N ∧ q ≠ p ∧ σ 1 1 4 q = nI s
  · obtain ⟨q, hq, hqp, e⟩ := ho
    refine ⟨-2, σ, mv_occ w1.1.2.2.1 hN m1 h12 w1.2.2.2.2.2.2.1.2 hp hs hq hqp e, zfrm_r, ?_⟩
    unfold zdrS
    rw [if_pos ((zoc_t N).mpr ⟨q, hq, by rw [← e4 q hq]; exact e⟩)]
    exact b
  · refine ⟨_, _, mv_free w1.1.2.2.1 hN m1 h12 hp hs (fun q hq hqp e => ho ⟨q, hq, hqp, e⟩), zfrm_up zfrm_r ⟨rfl, rfl⟩, ?_⟩
    rw [zup_h]
    unfold zdrS
    by_cases hz : zoc h s N = true
    · rw [if_pos hz]
      obtain ⟨q, hq, e⟩ := (zoc_t N).mp hz
      have hqp : q = p := Decidable.byContradiction fun z => ho ⟨q, hq, z, by rw [e4 q hq]; exact e⟩
      subst hqp
      rw [← e4 q hq] at e
      rw [← e, zhu_id]
      exact b
    · rw [if_neg hz]
      exact zIR_u b
def zsd (v : Int32) : Int32 := v * 1103515245 + 12345
def zdrf (N L M : Nat) (_ : Nat) (t : (Nat → Nat → Int32) × Int32 × Int32 × Int32) : (Nat → Nat → Int32) × Int32 × Int32 × Int32 :=
  (zdrS t.1 N (zdw (zsd t.2.1) % N) (zdw (zsd (zsd t.2.1)) % M), zsd (zsd t.2.1), t.2.2.1 + nI (zspn (zdrS t.1 N (zdw (zsd t.2.1) % N) (zdw (zsd (zsd t.2.1)) % M)) zno N zno L), nI (zspn (zdrS t.1 N (zdw (zsd t.2.1) % N) (zdw (zsd (zsd t.2.1)) % M)) zno N zno L))
theorem L_driftC {R P N L S c : Nat} (x : Int32) (hc : c ≤ 60) (hN0 : 0 < N) (hM0 : 0 < R * P) : ∀ (d i : Nat) (σ : ZS) (t : (Nat → Nat → Int32) × Int32 × Int32 × Int32), i + d = c → zWF t.1 R P N L S → zIR (σ 1 1) t.1 →
    ∃ τ, zev 106 57 [(0, zA 0 0 0), (2, zI (nI c)), (3, zI x), (4, zI t.2.1), (5, zI t.2.2.1), (6, zI t.2.2.2), (7, zI (nI i))] [] σ = some (zI (if x = 0 then (zit (zdrf N L (R * P)) i d t).2.2.1 else (zit (zdrf N L (R * P)) i d t).2.2.2), τ) ∧ zfrm zScr σ τ
  | 0, i, σ, t, hi, w, b => by
    refine ⟨σ, ?_, zfrm_r⟩
    rw [show i = c by omega, E_S_drift_57, if_neg (nI_nlt (Nat.le_refl _) (by omega))]
    unfold zit
    split <;> rfl
  | d + 1, i, σ, t, hi, w, b => by
    have w1 := zWF_IR b w
    have hN := w1.2.1.2.2.2.2.1
    have h12 := zRP12 w1.2.1.2.1 w1.2.1.2.2.2.1
    have m1 : σ 1 1 0 0 * σ 1 1 0 1 = nI (R * P) := by rw [w1.1.1, w1.1.2.1, pk_mul]
    have hs : zdw (zsd (zsd t.2.1)) % (R * P) < R * P := Nat.mod_lt _ hM0
    obtain ⟨v, τ, t1, t2, t3⟩ := L_moveT b w (Nat.mod_lt (zdw (zsd t.2.1)) hN0) hs
    obtain ⟨υ, u1, u2, -⟩ := L_playT t3 (zWF_NW (zWF_drS w hs))
    have f : zfrm zScr σ υ := zfrm_t (zfrm_m zHG1_s t2) (zfrm_m zPX_s u2)
    have e11 : υ 1 1 = τ 1 1 := funext fun j => u2 1 1 j (by simp [zPX])
    obtain ⟨ω, v1, v2⟩ := L_driftC x hc hN0 hM0 d (i + 1) υ (zdrf N L (R * P) i t) (by omega) (zWF_drS w hs) (by rw [e11]; exact t3)
    refine ⟨ω, ?_, zfrm_t f v2⟩
    rw [E_S_drift_57, if_pos (nI_lt (by omega) (by omega)), E_S_nextSeed, zbI_some, w1.1.2.2.1, L_drawn _ _ hN0 (by omega), zbI_some, E_S_nextSeed, zbI_some, E_House_seats, zbI_some, m1, L_drawn _ _ hM0 (by omega), zbI_some]
    rw [show zcall 12 [zA 1 1 0, zI (nI (zdw (t.2.1 * 1103515245 + 12345) % N)), zI (nI (zdw ((t.2.1 * 1103515245 + 12345) * 1103515245 + 12345) % (R * P)))] σ = _ from t1, zbI_some, u1, zbI_some, nI_1]
    exact v1
theorem L_driftM118 {σ : ZS} {h : Nat → Nat → Int32} {P N L p s c i : Nat} {M : Nat} (w : zNW h P M N L) (w2 : zNW (zdrS h N p s) P M N L) (m : zMN σ h zno P N L) (hp : p < N) (hs : s < M) (x v2 sum : Int32) : ∀ d q : Nat, q + d = N →
    ∃ τ, zev 196 118 [(0, zA 3 0 0), (2, zI (nI c)), (3, zI x), (4, zI v2), (5, zI sum), (7, zI (nI i)), (8, zI (nI p)), (9, zI (nI s)), (10, zI (zb (!zoc h s q))), (11, zI (nI q))] [] σ = zev 196 50 [(0, zA 3 0 0), (2, zI (nI c)), (3, zI x), (4, zI v2), (5, zI (sum + nI (zspn (zdrS h N p s) zno N zno L))), (6, zI (nI (zspn (zdrS h N p s) zno N zno L))), (7, zI (nI (i + 1)))] [] τ ∧ zfrm (fun c g j => c = 3 ∧ g = 0 ∧ (j = 2 ∨ j = 8)) σ τ ∧ zMN τ (zdrS h N p s) zno P N L
  | 0, q, hq => by
    have hN := w.2.2.1
    have hL := w.2.2.2.1
    obtain rfl : q = N := by omega
    rw [E_M_drift_118, m.2.1, if_neg (nI_nlt (by omega) (by omega))]
    cases ho : zoc h s q with
    | true =>
      have e : zdrS h q p s = h := if_pos ho
      obtain ⟨τ, t1, t2, -⟩ := L_nightNow w m
      rw [if_pos (show zb (!true) = 0 by decide), t1, zbI_some, nI_1, e]
      exact ⟨τ, rfl, zfrm_m (fun c g j h => ⟨h.1, h.2.1, Or.inr h.2.2⟩) t2, zMN_f t2 m⟩
    | false =>
      have e : zdrS h q p s = zhu h 4 p (nI s) := if_neg (by rw [ho]; decide)
      have m2 := zMN_p (d := 0) (v := nI s) (by omega) hp hN hL (fun _ => rfl) m
      obtain ⟨τ, t1, t2, -⟩ := L_nightNow (by rw [e] at w2; exact w2) m2
      rw [if_neg (show ¬ zb (!false) = 0 by decide), L_sits (by omega), zbV_some, nI_1, e]
      rw [show zcall 164 [zA 3 0 0] (zup σ 3 0 2 (12 + 4 * p) (nI s)) = _ from t1, zbI_some]
      exact ⟨τ, rfl, zfrm_t (zfrm_up zfrm_r ⟨rfl, rfl, Or.inl rfl⟩) (zfrm_m (fun c g j h => ⟨h.1, h.2.1, Or.inr h.2.2⟩) t2), zMN_f t2 m2⟩
  | d + 1, q, hq => by
    have hN := w.2.2.1
    have ih := L_driftM118 (c := c) (i := i) w w2 m hp hs x v2 sum d (q + 1) (by omega)
    have vq : σ 3 0 2 (12 + 4 * q) = h 4 q := (m.2.2.2.2.2.1 q (by omega)).1
    rw [E_M_drift_118, m.2.1, if_pos (nI_lt (by omega) (by omega)), nI_1, L_of0 (by omega), zbI_some, vq]
    have e : zoc h s (q + 1) = (zoc h s q || decide (h 4 q = nI s)) := rfl
    rw [e] at ih
    cases ho : zoc h s q with
    | true =>
      rw [ho] at ih
      rw [if_pos (show zb (!true) = 0 by decide)]
      exact ih
    | false =>
      rw [ho] at ih
      rw [if_neg (show ¬ zb (!false) = 0 by decide)]
      by_cases he : h 4 q = nI s
      · rw [if_pos he]
        rw [decide_eq_true he] at ih
        exact ih
      · rw [if_neg he]
        rw [decide_eq_false he] at ih
        exact ih
theorem z28_s (c g j : Nat) (h : c = 3 ∧ g = 0 ∧ (j = 2 ∨ j = 8)) : zScr c g j := Or.inr (Or.inr ⟨h.1, by omega⟩)
theorem L_driftM {R P N L S c : Nat} (x : Int32) (hc : c ≤ 60) (hN0 : 0 < N) (hM0 : 0 < R * P) : ∀ (d i : Nat) (σ : ZS) (t : (Nat → Nat → Int32) × Int32 × Int32 × Int32), i + d = c → zWF t.1 R P N L S → zMN σ t.1 zno P N L → σ 3 0 0 3 = nI R →
    ∃ τ, zev 196 50 [(0, zA 3 0 0), (2, zI (nI c)), (3, zI x), (4, zI t.2.1), (5, zI t.2.2.1), (6, zI t.2.2.2), (7, zI (nI i))] [] σ = some (zI (if x = 0 then (zit (zdrf N L (R * P)) i d t).2.2.1 else (zit (zdrf N L (R * P)) i d t).2.2.2), τ) ∧ zfrm zScr σ τ
  | 0, i, σ, t, hi, w, m, hR => by
    refine ⟨σ, ?_, zfrm_r⟩
    rw [show i = c by omega, E_M_drift_50, if_neg (nI_nlt (Nat.le_refl _) (by omega))]
    unfold zit
    split <;> rfl
  | d + 1, i, σ, t, hi, w, m, hR => by
    have hN := w.2.1.2.2.2.2.1
    have h12 := zRP12 w.2.1.2.1 w.2.1.2.2.2.1
    have m1 : σ 3 0 0 3 * σ 3 0 0 4 = nI (R * P) := by rw [hR, m.1, pk_mul]
    have hs : zdw (zsd (zsd t.2.1)) % (R * P) < R * P := Nat.mod_lt _ hM0
    have w2 := zWF_drS (p := zdw (zsd t.2.1) % N) w hs
    obtain ⟨τ, t1, t2, t3⟩ := L_driftM118 (c := c) (i := i) (zWF_NW w) (zWF_NW w2) m (Nat.mod_lt (zdw (zsd t.2.1)) hN0) hs x (zsd (zsd t.2.1)) t.2.2.1 N 0 (by omega)
    obtain ⟨ω, v1, v2⟩ := L_driftM (S := S) x hc hN0 hM0 d (i + 1) τ (zdrf N L (R * P) i t) (by omega) w2 t3 (by rw [t2 3 0 0 (by decide)]; exact hR)
    refine ⟨ω, ?_, zfrm_t (zfrm_m z28_s t2) v2⟩
    have q1 := zdw_lt (zsd t.2.1)
    have q2 := zdw_lt (zsd (zsd t.2.1))
    have hz : zdv (nI N) = fun r => r := funext fun r => if_neg (nI_ne0 hN0 (by omega))
    have hz2 : zdv (nI (R * P)) = fun r => r := funext fun r => if_neg (nI_ne0 hM0 (by omega))
    rw [E_M_drift_50, if_pos (nI_lt (by omega) (by omega)), m.2.1, hz, E_M_seats, m1]
    dsimp only
    rw [zbI_some, hz2]
    dsimp only
    rw [zdw_s, zdw_s]
    rw [show t.2.1 * 1103515245 + 12345 = zsd t.2.1 from rfl, show zsd t.2.1 * 1103515245 + 12345 = zsd (zsd t.2.1) from rfl, pk_rem (by omega) hN0 (by omega), pk_rem (by omega) hM0 (by omega)]
    refine Eq.trans t1 ?_
    exact v1
theorem Q_drift {σ : ZS} (hi : zInv σ) (x y z : Int32) : zPair (zcall 106 [zA 0 0 0, zI x, zI y, zI z]) (zcall 196 [zA 3 0 0, zI x, zI y, zI z]) σ := by
  obtain ⟨R, P, N, L, S, a1, a2, a3, a4, a5, a6, a7, a8⟩ := id hi
  have hN : N ≤ 4 := a1.2.1.2.2.2.2.1
  have n1 : σ 1 0 0 3 = nI N := a1.1.2.2.1
  have n2 : σ 3 0 0 5 = nI N := a3.2.2.1.trans n1
  have hM0 : 0 < R * P := Nat.mul_pos a1.2.1.1 (by have := a1.2.1.2.2.1; omega)
  unfold zPair
  simp only [E_S_drift, E_M_drift, L_is1_60, L_in1_60, L_is0_1, L_in0_1, zbI_some, zif_b, n1]
  rcases zin2_1 y 60 with h1 | ⟨c, hc1, hc, rfl, h1⟩
  · rw [h1]
    exact ⟨-1, σ, σ, rfl, rfl, hi⟩
  · rw [h1]
    cases h2 : zin2 z (nI 0) (nI 1) with
    | false => exact ⟨-1, σ, σ, rfl, rfl, hi⟩
    | true =>
      by_cases hN0 : N = 0
      · refine ⟨-2, σ, σ, ?_, ?_, hi⟩
        · rw [if_pos rfl, if_pos rfl, if_pos (by rw [hN0]; rfl)]
        · rw [n2, if_pos rfl, if_pos rfl, if_pos (by rw [hN0]; rfl)]
      · have hne : ¬ nI N = 0 := nI_ne0 (by omega) (by omega)
        have cx := zCx_of a1 a2 a3
        obtain ⟨τ, t1, t2, t3⟩ := L_trial σ
        obtain ⟨τ2, p1, p2⟩ := L_driftC z hc (show 0 < N by omega) hM0 c 0 τ (σ 1 0, x, 0, 0) (by omega) a1 t3
        have f := zfrm_t (zfrm_m zHG1_s t2) p2
        have c2 := zCx_f f cx
        obtain ⟨υ, q1, q2⟩ := L_driftM z hc (show 0 < N by omega) hM0 c 0 (zst τ2) (σ 1 0, x, 0, 0) (by omega) a1 (zCx_MN c2) (by rw [zst_f τ2 3 0 0 (by simp [zScr, zScC])]; exact c2.2.2.1)
        have e5 : τ2 3 0 0 5 = nI N := c2.2.2.2.2.1
        refine ⟨_, τ2, υ, Eq.trans ?_ p1, Eq.trans ?_ q1, zInv_q q2 (zInv_q (zst_f τ2) (zInv_q f hi))⟩
        · rw [if_pos rfl, if_pos rfl, if_neg hne, t1, zbV_some]
          rfl
        · rw [e5, if_pos rfl, if_pos rfl, if_neg hne, L_starts, zbV_some]
          rfl
