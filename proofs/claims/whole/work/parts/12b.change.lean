theorem L_changeC_22 {h : Nat → Nat → Int32} {R P N L S : Nat} (w : zWF h R P N L S) (x : Int32) : ∀ (d p : Nat) (σ : ZS) (s : Int32 × Int32), p + d = N → σ 1 0 = h →
    ∃ τ, zev 85 22 [(0, zA 0 0 0), (1, zI x), (2, zI s.1), (3, zI s.2), (4, zI (nI p))] [] σ = some (zI (if (zit (zchO h N L) p d s).2 = -4 then -4 else if x = 0 then (zit (zchO h N L) p d s).2 else (zit (zchO h N L) p d s).1), τ) ∧ zfrm zScr σ τ
  | 0, p, σ, s, hp, hh => by
    have hN : N ≤ 4 := w.2.1.2.2.2.2.1
    refine ⟨σ, ?_, zfrm_r⟩
    obtain rfl : p = N := by omega
    rw [E_S_change_22, hh, w.1.2.2.1, if_neg (nI_nlt (by omega) (by omega)), L_which, zbI_some]
    rfl
  | d + 1, p, σ, s, hp, hh => by
    have hN : N ≤ 4 := w.2.1.2.2.2.2.1
    obtain ⟨τ, t1, t2⟩ := L_changeC_40 w x (show p < N by omega) (N - (p + 1)) (p + 1) σ s (by omega) (by omega) hh
    obtain ⟨υ, u1, u2⟩ := L_changeC_22 w x d (p + 1) τ (zchO h N L p s) (by omega) (by rw [zh_f t2, hh])
    refine ⟨υ, ?_, zfrm_t t2 u2⟩
    rw [E_S_change_22, hh, w.1.2.2.1, if_pos (nI_lt (by omega) (by omega)), nI_1, t1]
    exact u1
theorem zMN_f {σ τ : ZS} {h : Nat → Nat → Int32} {aw : Nat → Bool} {P N L : Nat} (f : zfrm zMX σ τ) (m : zMN σ h aw P N L) : zMN τ h aw P N L := by
  unfold zMN
  rw [f 3 0 0 (by simp [zMX]), f 3 0 2 (by simp [zMX]), f 3 0 4 (by simp [zMX])]
  exact m
theorem L_changeM_38 {h : Nat → Nat → Int32} {R P N L S p : Nat} (x : Int32) (hp : p < N) : ∀ (d q : Nat) (σ : ZS) (s : Int32 × Int32), q + d = N → p < q → zCx σ h R P N L S →
    ∃ τ, zev 176 38 [(0, zA 3 0 0), (1, zI x), (2, zI s.1), (3, zI s.2), (4, zI (nI p)), (5, zI (nI q))] [] σ = zev 176 23 [(0, zA 3 0 0), (1, zI x), (2, zI (zit (zchI h N L p) q d s).1), (3, zI (zit (zchI h N L p) q d s).2), (4, zI (nI (p + 1)))] [] τ ∧ zfrm zScr σ τ
  | 0, q, σ, s, hq, hpq, c => by
    have hN : N ≤ 4 := c.1.2.1.2.2.2.2.1
    refine ⟨σ, ?_, zfrm_r⟩
    obtain rfl : q = N := by omega
    rw [E_M_change_38, c.2.2.2.2.1, if_neg (nI_nlt (by omega) (by omega)), nI_1]
    rfl
  | d + 1, q, σ, s, hq, hpq, c => by
    have hN : N ≤ 4 := c.1.2.1.2.2.2.2.1
    have hL : L ≤ 8 := c.1.2.1.2.2.2.2.2.1
    have hqN : q < N := by omega
    have m := zCx_MN c
    have vp : zst σ 3 0 2 (12 + 4 * p) = h 4 p := (m.2.2.2.2.2.1 p hp).1
    have vq : zst σ 3 0 2 (12 + 4 * q) = h 4 q := (m.2.2.2.2.2.1 q hqN).1
    have m1 := zMN_p (d := 0) (v := h 4 q) (by omega) hp hN hL (fun _ => rfl) m
    have m2 := zMN_p (d := 0) (v := h 4 p) (by omega) hqN hN hL (fun _ => rfl) m1
    obtain ⟨υ, u1, u2, -⟩ := L_nightNow (zNW_tr (zWF_NW c.1) hp hqN) m2
    have f : zfrm zScr σ υ := zfrm_t (zfrm_up (zfrm_up (zst_f σ) (z2_s _ _ _ ⟨rfl, rfl, rfl⟩)) (z2_s _ _ _ ⟨rfl, rfl, rfl⟩)) (zfrm_m zMX_s u2)
    obtain ⟨ω, v1, v2⟩ := L_changeM_38 x hp d (q + 1) υ (zchI h N L p q s) (by omega) (by omega) (zCx_f f c)
    refine ⟨ω, ?_, zfrm_t f v2⟩
    rw [E_M_change_38, c.2.2.2.2.1, if_pos (nI_lt (by omega) (by omega)), L_starts, zbV_some, L_of0 (by omega), zbI_some, L_of0 (by omega), zbI_some, vp, vq, L_sits (by omega), zbV_some, L_sits (by omega), zbV_some, nI_1]
    rw [show zcall 164 [zA 3 0 0] (zup (zup (zst σ) 3 0 2 (12 + 4 * p) (h 4 q)) 3 0 2 (12 + 4 * q) (h 4 p)) = _ from u1, zbI_some]
    have e : (10 : Int32) * nI p + nI q = nI (10 * p + q) := by
      rw [show (10 : Int32) = nI 10 from rfl, pk_mul, nI_add]
    rw [e]
    unfold zit
    unfold zchI zmax at v1 ⊢
    by_cases hc : s.1 < nI (zspn (ztrd h p q) zno N zno L)
    · rw [if_pos hc, if_pos hc]
      rw [if_pos hc] at v1 ⊢
      exact v1
    · rw [if_neg hc, if_neg hc]
      rw [if_neg hc] at v1 ⊢
      exact v1
theorem L_changeM_23 {h : Nat → Nat → Int32} {R P N L S : Nat} (x : Int32) : ∀ (d p : Nat) (σ : ZS) (s : Int32 × Int32), p + d = N → zCx σ h R P N L S →
    ∃ τ, zev 176 23 [(0, zA 3 0 0), (1, zI x), (2, zI s.1), (3, zI s.2), (4, zI (nI p))] [] σ = some (zI (if (zit (zchO h N L) p d s).2 = -4 then -4 else if x = 0 then (zit (zchO h N L) p d s).2 else (zit (zchO h N L) p d s).1), τ) ∧ zfrm zScr σ τ
  | 0, p, σ, s, hp, c => by
    have hN : N ≤ 4 := c.1.2.1.2.2.2.2.1
    refine ⟨σ, ?_, zfrm_r⟩
    obtain rfl : p = N := by omega
    rw [E_M_change_23, c.2.2.2.2.1, if_neg (nI_nlt (by omega) (by omega))]
    unfold zit
    by_cases h1 : s.2 = -4
    · rw [if_pos h1, if_pos h1]
    · rw [if_neg h1, if_neg h1]
      by_cases h2 : x = 0
      · rw [if_pos h2, if_pos h2]
      · rw [if_neg h2, if_neg h2]
  | d + 1, p, σ, s, hp, c => by
    have hN : N ≤ 4 := c.1.2.1.2.2.2.2.1
    obtain ⟨τ, t1, t2⟩ := L_changeM_38 x (show p < N by omega) (N - (p + 1)) (p + 1) σ s (by omega) (by omega) c
    obtain ⟨υ, u1, u2⟩ := L_changeM_23 x d (p + 1) τ (zchO h N L p s) (by omega) (zCx_f t2 c)
    refine ⟨υ, ?_, zfrm_t t2 u2⟩
    rw [E_M_change_23, c.2.2.2.2.1, if_pos (nI_lt (by omega) (by omega)), nI_1, t1]
    exact u1
theorem Q_change {σ : ZS} (hi : zInv σ) (x : Int32) : zPair (zcall 85 [zA 0 0 0, zI x]) (zcall 176 [zA 3 0 0, zI x]) σ := by
  obtain ⟨R, P, N, L, S, a1, a2, a3, a4, a5, a6, a7, a8⟩ := id hi
  unfold zPair
  simp only [E_S_change, E_M_change, L_is0_1, L_in0_1, zbI_some, zif_b]
  cases h1 : zin2 x (nI 0) (nI 1) with
  | false => exact ⟨-1, σ, σ, rfl, rfl, hi⟩
  | true =>
    obtain ⟨τ, t1, t2, -⟩ := L_nowC a1
    have c := zCx_of a1 a2 a3
    obtain ⟨τ2, p1, p2⟩ := L_changeC_22 a1 x N 0 τ (nI (zspn (σ 1 0) zno N zno L), -4) (by omega) (zh_f t2)
    have f := zfrm_t t2 p2
    obtain ⟨υ, u1, u2, -⟩ := L_nowM (zCx_f f c)
    obtain ⟨υ2, q1, q2⟩ := L_changeM_23 x N 0 υ (nI (zspn (σ 1 0) zno N zno L), -4) (by omega) (zCx_f u2 (zCx_f f c))
    refine ⟨_, τ2, υ2, Eq.trans ?_ p1, Eq.trans ?_ q1, zInv_q q2 (zInv_q u2 (zInv_q f hi))⟩
    · rw [if_pos rfl, t1, zbI_some]
      rfl
    · rw [if_pos rfl, u1, zbI_some]
      rfl
/-! role -/
theorem nI_m1 (n : Nat) (h : n < 2 ^ 31) : (-1 : Int32) < nI n := by
  rw [Int32.lt_iff_toInt_lt, nI_toInt h, show (-1 : Int32).toInt = -1 by decide]
  omega
theorem nI_m4 (n : Nat) (h : n < 2 ^ 31) : (-4 : Int32) < nI n := by
  rw [Int32.lt_iff_toInt_lt, nI_toInt h, show (-4 : Int32).toInt = -4 by decide]
  omega
def zroI (h : Nat → Nat → Int32) (N L s k : Nat) (t : Int32 × Int32) : Int32 × Int32 := zmax (nI (zspn (zhu h 3 s (nI k)) zno N zno L)) (nI k) t
theorem zNW_3 {h : Nat → Nat → Int32} {P M N L s : Nat} {v : Int32} (w : zNW h P M N L) : zNW (zhu h 3 s v) P M N L := w
theorem zIR_3 {h : Nat → Nat → Int32} {s : Nat} {u v : Int32} : zhu (zhu h 3 s u) 3 s v = zhu h 3 s v := by
  funext j k
  unfold zhu
  split <;> rfl
theorem L_roleC_43 {h : Nat → Nat → Int32} {P M N L s : Nat} (w : zNW h P M N L) (x : Int32) (hs : s < 12) : ∀ (d k : Nat) (σ : ZS) (t : Int32 × Int32), k + d = 6 → (∃ u, zIR (zhu (σ 1 1) 3 s u) (zhu h 3 s u)) →
    ∃ τ, zev 87 43 [(0, zA 0 0 0), (1, zI (nI s)), (2, zI x), (3, zI t.1), (4, zI t.2), (5, zI (nI k))] [] σ = some (zI (if (zit (zroI h N L s) k d t).2 = -4 then -4 else if x = 0 then (zit (zroI h N L s) k d t).2 else (zit (zroI h N L s) k d t).1), τ) ∧ zfrm zScr σ τ
  | 0, k, σ, t, hk, _ => by
    refine ⟨σ, ?_, zfrm_r⟩
    obtain rfl : k = 6 := by omega
    rw [E_S_role_43, if_pos (show (5 : Int32) < nI 6 by decide), L_which, zbI_some]
    rfl
  | d + 1, k, σ, t, hk, ⟨u, hu⟩ => by
    have hz : zIR ((zup σ 1 1 3 s (nI k)) 1 1) (zhu h 3 s (nI k)) := by
      rw [zup_h, ← zIR_3 (u := u), ← zIR_3 (h := h) (u := u)]
      exact zIR_u hu
    obtain ⟨υ, u1, u2, -⟩ := L_playT hz (zNW_3 w)
    have f : zfrm zScr σ υ := zfrm_t (zfrm_up zfrm_r (by simp [zScr])) (zfrm_m zPX_s u2)
    have e11 : υ 1 1 = (zup σ 1 1 3 s (nI k)) 1 1 := funext fun j => u2 1 1 j (by simp [zPX])
    obtain ⟨ω, v1, v2⟩ := L_roleC_43 w x hs d (k + 1) υ (zroI h N L s k t) (by omega) ⟨nI k, by rw [e11, zup_h, zIR_3, ← zup_h (σ := σ) (g := 1)]; exact hz⟩
    refine ⟨ω, ?_, zfrm_t f v2⟩
    rw [E_S_role_43, if_neg (show ¬ (5 : Int32) < nI k from nI_nlt (a := 5) (by omega) (by decide)), zck_nI hs (by decide), nI_clamp (by omega)]
    dsimp only
    rw [u1, zbI_some, nI_1]
    unfold zit
    unfold zroI zmax at v1 ⊢
    by_cases hc : t.1 < nI (zspn (zhu h 3 s (nI k)) zno N zno L)
    · rw [if_pos hc]
      rw [if_pos hc] at v1 ⊢
      exact v1
    · rw [if_neg hc]
      rw [if_neg hc] at v1 ⊢
      exact v1
theorem zrn_3 {h : Nat → Nat → Int32} {aw : Nat → Bool} {a : Nat → Int32} {N L s : Nat} {v : Int32} (hs : s < 12) (r : zrn h aw a N L) : zrn (zhu h 3 s v) aw (zru a s v) N L := by
  obtain ⟨r1, r2, r3, r4⟩ := r
  refine ⟨fun t ht => ?_, fun q hq => ?_, fun i hi => ?_, ?_⟩
  · by_cases e : t = s
    · rw [e, zru_s, zhu_s]
    · rw [zru_o e, zhu_o e]; exact r1 t ht
  · rw [zru_o (by omega), zru_o (by omega), zru_o (by omega), zru_o (by omega)]
    exact r2 q hq
  · rw [zru_o (by omega)]; exact r3 i hi
  · rw [zru_o (by omega)]; exact r4
theorem zMN_3 {σ : ZS} {h : Nat → Nat → Int32} {aw : Nat → Bool} {P N L s : Nat} {v : Int32} (hs : s < 12) (m : zMN σ h aw P N L) : zMN (zup σ 3 0 2 s v) (zhu h 3 s v) aw P N L := by
  obtain ⟨m1, m2, m3, m4, m5⟩ := m
  refine ⟨?_, ?_, ?_, fun i hi => ?_, ?_⟩
  · rw [zup_o (by decide)]; exact m1
  · rw [zup_o (by decide)]; exact m2
  · rw [zup_o (by decide)]; exact m3
  · rw [zup_o (by decide)]; exact m4 i hi
  · rw [zup_m]; exact zrn_3 hs m5
theorem L_roleM_28 {h : Nat → Nat → Int32} {R P N L S s : Nat} (x : Int32) (hs : s < 12) : ∀ (d k : Nat) (σ : ZS) (t : Int32 × Int32), k + d = 6 → zCx σ h R P N L S →
    ∃ τ, zev 177 28 [(0, zA 3 0 0), (1, zI (nI s)), (2, zI x), (3, zI t.1), (4, zI t.2), (5, zI (nI k))] [] σ = some (zI (if x = 0 then (zit (zroI h N L s) k d t).2 else (zit (zroI h N L s) k d t).1), τ) ∧ zfrm zScr σ τ
  | 0, k, σ, t, hk, c => by
    refine ⟨σ, ?_, zfrm_r⟩
    obtain rfl : k = 6 := by omega
    rw [E_M_role_28, if_neg (show ¬ nI 6 < 6 by decide)]
    unfold zit
    split <;> rfl
  | d + 1, k, σ, t, hk, c => by
    have m := zMN_3 (v := nI k) hs (zCx_MN c)
    obtain ⟨υ, u1, u2, -⟩ := L_nightNow (zNW_3 (s := s) (v := nI k) (zWF_NW c.1)) m
    have f : zfrm zScr σ υ := zfrm_t (zfrm_up (zst_f σ) (z2_s _ _ _ ⟨rfl, rfl, rfl⟩)) (zfrm_m zMX_s u2)
    obtain ⟨ω, v1, v2⟩ := L_roleM_28 x hs d (k + 1) υ (zroI h N L s k t) (by omega) (zCx_f f c)
    refine ⟨ω, ?_, zfrm_t f v2⟩
    rw [E_M_role_28, if_pos (show nI k < 6 from nI_lt (b := 6) (by omega) (by decide)), L_starts, zbV_some, show (0 : Int32) + nI s = nI s from Int32.zero_add _, zck_nI (by omega) (by decide), nI_clamp (by omega)]
    dsimp only
    rw [u1, zbI_some, nI_1]
    unfold zit
    unfold zroI zmax at v1 ⊢
    by_cases hc : t.1 < nI (zspn (zhu h 3 s (nI k)) zno N zno L)
    · rw [if_pos hc, if_pos hc]
      rw [if_pos hc] at v1 ⊢
      exact v1
    · rw [if_neg hc, if_neg hc]
      rw [if_neg hc] at v1 ⊢
      exact v1
theorem Q_role {σ : ZS} (hi : zInv σ) (x y : Int32) : zPair (zcall 87 [zA 0 0 0, zI x, zI y]) (zcall 177 [zA 3 0 0, zI x, zI y]) σ := by
  obtain ⟨R, P, N, L, S, a1, a2, a3, a4, a5, a6, a7, a8⟩ := id hi
  have h12 := zRP12 a1.2.1.2.1 a1.2.1.2.2.2.1
  have hL : L ≤ 8 := a1.2.1.2.2.2.2.2.1
  have m1 : σ 1 0 0 0 * σ 1 0 0 1 = nI (R * P) := by rw [a1.1.1, a1.1.2.1, pk_mul]
  have m2 : σ 3 0 0 3 * σ 3 0 0 4 = nI (R * P) := by rw [a3.1, a3.2.1, m1]
  unfold zPair
  simp only [E_S_role, E_M_role, L_hasSeat, L_isSeat, L_is0_1, L_in0_1, zbI_some, zif_b, m1]
  rcases zin2_c x (n := R * P) (by omega) with h1 | ⟨s, hs, rfl, h1⟩
  · refine ⟨-1, σ, σ, by rw [h1]; rfl, ?_, hi⟩
    rw [m2, h1]
    rfl
  · rw [h1]
    cases h2 : zin2 y (nI 0) (nI 1) with
    | false =>
      refine ⟨-1, σ, σ, rfl, ?_, hi⟩
      rw [m2, h1]
      rfl
    | true =>
      have c := zCx_of a1 a2 a3
      obtain ⟨τ, t1, t2, t3⟩ := L_trial σ
      obtain ⟨τ2, p1, p2⟩ := L_roleC_43 (s := s) (zWF_NW a1) y (by omega) 6 0 τ (-4, -4) (by omega) ⟨0, zIR_u t3⟩
      have f := zfrm_t (zfrm_m zHG1_s t2) p2
      obtain ⟨υ, u1, u2⟩ := L_roleM_28 (s := s) y (by omega) 6 0 τ2 (-1, 0) (by omega) (zCx_f f c)
      refine ⟨_, τ2, υ, Eq.trans ?_ p1, ?_, zInv_q u2 (zInv_q f hi)⟩
      · rw [if_pos rfl, if_pos rfl, t1, zbV_some]
        rfl
      · have m3 : τ2 3 0 0 3 * τ2 3 0 0 4 = nI (R * P) := by rw [f 3 0 0 (by simp [zScr, zScC])]; exact m2
        rw [m3, h1, if_pos rfl, if_pos rfl]
        rw [show zev 177 28 [(0, zA 3 0 0), (1, zI (nI s)), (2, zI y), (3, zI (-1)), (4, zI 0), (5, zI 0)] [] τ2 = _ from u1]
        have e1 : zit (zroI (σ 1 0) N L s) 0 6 (-1, 0) = zit (zroI (σ 1 0) N L s) 0 6 (-4, -4) := by
          have e2 : zroI (σ 1 0) N L s 0 (-1, 0) = zroI (σ 1 0) N L s 0 (-4, -4) := by
            unfold zroI zmax
            have hn := zct_le (zspk (zhu (σ 1 0) 3 s (nI 0)) zno N zno) L
            rw [if_pos (show (-1 : Int32) < _ from nI_m1 _ (by unfold zspn; omega)), if_pos (show (-4 : Int32) < _ from nI_m4 _ (by unfold zspn; omega))]
          show zit _ 1 5 _ = zit _ 1 5 _
          rw [e2]
        rw [e1]
        have hne : (zit (zroI (σ 1 0) N L s) 0 6 (-4, -4)).2 ≠ -4 := by
          show (zit (zroI (σ 1 0) N L s) 1 5 (zroI (σ 1 0) N L s 0 (-4, -4))).2 ≠ -4
          refine zit_p (p := fun t : Int32 × Int32 => t.2 ≠ -4) 5 1 _ (fun j h1 h2 t ht => ?_) ?_
          · unfold zroI zmax
            split
            · exact nI_ne4 (by omega)
            · exact ht
          · unfold zroI zmax
            have hn := zct_le (zspk (zhu (σ 1 0) 3 s (nI 0)) zno N zno) L
            rw [if_pos (show (-4 : Int32) < _ from nI_m4 _ (by unfold zspn; omega))]
            exact nI_ne4 (by omega)
        rw [if_neg hne]
