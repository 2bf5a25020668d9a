/-! louder -/
theorem zhu_hu {h : Nat → Nat → Int32} {j k : Nat} {u v : Int32} : zhu (zhu h j k u) j k v = zhu h j k v := by
  funext j' k'
  unfold zhu
  split <;> rfl
def zloI (h : Nat → Nat → Int32) (N L p : Nat) (x now : Int32) : Nat → Nat → Int32
  | _, 0 => -4
  | v, d + 1 => if now < nI (zspn (zhu h 5 p (nI v)) zno N zno L) then (if x = 0 then nI v else nI (zspn (zhu h 5 p (nI v)) zno N zno L)) else zloI h N L p x now (v + 1) d
theorem zNW_5 {h : Nat → Nat → Int32} {P M N L p : Nat} {v : Int32} (w : zNW h P M N L) : zNW (zhu h 5 p v) P M N L := w
theorem zNW_7 {h : Nat → Nat → Int32} {P M N L p : Nat} {v : Int32} (w : zNW h P M N L) : zNW (zhu h 7 p v) P M N L := w
theorem L_louderC_41 {h : Nat → Nat → Int32} {P M N L p : Nat} (w : zNW h P M N L) (x now : Int32) (hp : p < 4) : ∀ (d k : Nat) (σ : ZS), k + d = 6 → (∃ u, zIR (zhu (σ 1 1) 5 p u) (zhu h 5 p u)) →
    ∃ τ, zev 90 41 [(0, zA 0 0 0), (1, zI (nI p)), (2, zI x), (3, zI now), (4, zI (nI k))] [] σ = some (zI (zloI h N L p x now k d), τ) ∧ zfrm zScr σ τ
  | 0, k, σ, hk, _ => by
    refine ⟨σ, ?_, zfrm_r⟩
    obtain rfl : k = 6 := by omega
    rw [E_S_louder_41, if_pos (show (5 : Int32) < nI 6 by decide)]
    rfl
  | d + 1, k, σ, hk, ⟨u, hu⟩ => by
    have hz : zIR ((zup σ 1 1 5 p (nI k)) 1 1) (zhu h 5 p (nI k)) := by
      rw [zup_h, ← zhu_hu (u := u), ← zhu_hu (h := h) (u := u)]
      exact zIR_u hu
    obtain ⟨υ, u1, u2, -⟩ := L_playT hz (zNW_5 w)
    have f : zfrm zScr σ υ := zfrm_t (zfrm_up zfrm_r (by simp [zScr])) (zfrm_m zPX_s u2)
    have e11 : υ 1 1 = (zup σ 1 1 5 p (nI k)) 1 1 := funext fun j => u2 1 1 j (by simp [zPX])
    obtain ⟨ω, v1, v2⟩ := L_louderC_41 w x now hp d (k + 1) υ (by omega) ⟨nI k, by rw [e11, zup_h, zhu_hu, ← zup_h (σ := σ) (g := 1)]; exact hz⟩
    rw [E_S_louder_41, if_neg (show ¬ (5 : Int32) < nI k from nI_nlt (a := 5) (by omega) (by decide)), zck_nI hp (by decide), nI_clamp (by omega)]
    dsimp only
    rw [u1, zbI_some, nI_1]
    unfold zloI
    by_cases hc : now < nI (zspn (zhu h 5 p (nI k)) zno N zno L)
    · rw [if_pos hc, if_pos hc]
      refine ⟨υ, ?_, f⟩
      split <;> rfl
    · rw [if_neg hc, if_neg hc]
      exact ⟨ω, v1, zfrm_t f v2⟩
theorem L_louderM_28 {h : Nat → Nat → Int32} {R P N L S p : Nat} (x now : Int32) (hp : p < N) : ∀ (d k : Nat) (σ : ZS), k + d = 6 → zCx σ h R P N L S →
    ∃ τ, zev 180 28 [(0, zA 3 0 0), (1, zI (nI p)), (2, zI x), (3, zI now), (4, zI (nI k))] [] σ = some (zI (zloI h N L p x now k d), τ) ∧ zfrm zScr σ τ
  | 0, k, σ, hk, c => by
    refine ⟨σ, ?_, zfrm_r⟩
    obtain rfl : k = 6 := by omega
    rw [E_M_louder_28, if_pos (show (5 : Int32) < nI 6 by decide)]
    rfl
  | d + 1, k, σ, hk, c => by
    have hN : N ≤ 4 := c.1.2.1.2.2.2.2.1
    have hL : L ≤ 8 := c.1.2.1.2.2.2.2.2.1
    have m := zMN_p (d := 1) (v := nI k) (by omega) hp hN hL (fun z => by cases z) (zCx_MN c)
    obtain ⟨υ, u1, u2, -⟩ := L_nightNow (zNW_5 (p := p) (v := nI k) (zWF_NW c.1)) m
    have f : zfrm zScr σ υ := zfrm_t (zfrm_up (zst_f σ) (z2_s _ _ _ ⟨rfl, rfl, rfl⟩)) (zfrm_m zMX_s u2)
    obtain ⟨ω, v1, v2⟩ := L_louderM_28 x now hp d (k + 1) υ (by omega) (zCx_f f c)
    rw [E_M_louder_28, if_neg (show ¬ (5 : Int32) < nI k from nI_nlt (a := 5) (by omega) (by decide)), L_starts, zbV_some, show (12 + (4 * nI p)) + (1 : Int32) = nI (12 + 4 * p + 1) from zidx 1, zck_nI (by omega) (by decide), nI_clamp (by omega)]
    dsimp only
    rw [u1, zbI_some, nI_1]
    unfold zloI
    by_cases hc : now < nI (zspn (zhu h 5 p (nI k)) zno N zno L)
    · rw [if_pos hc, if_pos hc]
      refine ⟨υ, ?_, f⟩
      split <;> rfl
    · rw [if_neg hc, if_neg hc]
      exact ⟨ω, v1, zfrm_t f v2⟩
theorem Q_louder {σ : ZS} (hi : zInv σ) (x y : Int32) : zPair (zcall 90 [zA 0 0 0, zI x, zI y]) (zcall 180 [zA 3 0 0, zI x, zI y]) σ := by
  obtain ⟨R, P, N, L, S, a1, a2, a3, a4, a5, a6, a7, a8⟩ := id hi
  have hN : N ≤ 4 := a1.2.1.2.2.2.2.1
  have n1 : σ 1 0 0 3 = nI N := a1.1.2.2.1
  have n2 : σ 3 0 0 5 = nI N := a3.2.2.1.trans n1
  unfold zPair
  simp only [E_S_louder, E_M_louder, L_hasOne, L_isOne, L_is0_1, L_in0_1, zbI_some, zif_b, n1]
  rcases zin2_c x (n := N) (by omega) with h1 | ⟨p, hp, rfl, h1⟩
  · refine ⟨-1, σ, σ, by rw [h1]; rfl, ?_, hi⟩
    rw [n2, h1]
    rfl
  · rw [h1]
    cases h2 : zin2 y (nI 0) (nI 1) with
    | false =>
      refine ⟨-1, σ, σ, rfl, ?_, hi⟩
      rw [n2, h1]
      rfl
    | true =>
      have c := zCx_of a1 a2 a3
      obtain ⟨τ0, t1, t2, -⟩ := L_nowC a1
      obtain ⟨τ, s1, s2, s3⟩ := L_trial τ0
      rw [zh_f t2] at s3
      obtain ⟨τ2, p1, p2⟩ := L_louderC_41 (p := p) (zWF_NW a1) y (nI (zspn (σ 1 0) zno N zno L)) (by omega) 6 0 τ (by omega) ⟨0, zIR_u s3⟩
      have f := zfrm_t t2 (zfrm_t (zfrm_m zHG1_s s2) p2)
      obtain ⟨υ0, q1, q2, -⟩ := L_nowM (zCx_f f c)
      obtain ⟨υ, u1, u2⟩ := L_louderM_28 (p := p) y (nI (zspn (σ 1 0) zno N zno L)) hp 6 0 υ0 (by omega) (zCx_f q2 (zCx_f f c))
      refine ⟨_, τ2, υ, Eq.trans ?_ p1, Eq.trans ?_ u1, zInv_q u2 (zInv_q q2 (zInv_q f hi))⟩
      · rw [if_pos rfl, if_pos rfl, t1, zbI_some, s1, zbV_some]
        rfl
      · have m3 : τ2 3 0 0 5 = nI N := by rw [f 3 0 0 (by simp [zScr, zScC])]; exact n2
        rw [m3, h1, if_pos rfl, if_pos rfl, q1, zbI_some]
        rfl
/-! peace -/
def zpe (h : Nat → Nat → Int32) (p q : Nat) : Nat → Nat → Int32 := zhu h 7 p (h 7 p &&& (((1 : Int32) <<< (nI q &&& 31)) ^^^ (-1 : Int32)))
def zpeI (h : Nat → Nat → Int32) (N L p q : Nat) (s : Int32 × Int32) : Int32 × Int32 := zmax (nI (zspn (zpe h p q) zno N zno L)) (nI (10 * p + q)) s
def zpeC (h : Nat → Nat → Int32) (N L p q : Nat) (s : Int32 × Int32) : Int32 × Int32 := if zbit (h 7 p) q = 0 then zmax 0 (nI (10 * p + q)) s else zpeI h N L p q s
theorem L_10pq (p q : Nat) : (10 : Int32) * nI p + nI q = nI (10 * p + q) := by
  rw [show (10 : Int32) = nI 10 from rfl, pk_mul, nI_add]
theorem L_peaceC_37 {h : Nat → Nat → Int32} {R P N L S p : Nat} (w : zWF h R P N L S) (x : Int32) (hp : p < N) : ∀ (d q : Nat) (σ : ZS) (s : Int32 × Int32), q + d = N → σ 1 0 = h →
    ∃ τ, zev 91 37 [(0, zA 0 0 0), (1, zI x), (2, zI s.1), (3, zI s.2), (4, zI (nI p)), (5, zI (nI q))] [] σ = zev 91 22 [(0, zA 0 0 0), (1, zI x), (2, zI (zit (zpeC h N L p) q d s).1), (3, zI (zit (zpeC h N L p) q d s).2), (4, zI (nI (p + 1)))] [] τ ∧ zfrm zScr σ τ
  | 0, q, σ, s, hq, hh => by
    have hN : N ≤ 4 := w.2.1.2.2.2.2.1
    refine ⟨σ, ?_, zfrm_r⟩
    obtain rfl : q = N := by omega
    rw [E_S_peace_37, hh, w.1.2.2.1, if_neg (nI_nlt (by omega) (by omega)), nI_1]
    rfl
  | d + 1, q, σ, s, hq, hh => by
    have hN : N ≤ 4 := w.2.1.2.2.2.2.1
    rw [E_S_peace_37, hh, w.1.2.2.1, if_pos (nI_lt (by omega) (by omega)), L_isFeud 0 (by omega), zbI_some, hh, L_10pq, nI_1]
    by_cases hz : zbit (h 7 p) q = 0
    · obtain ⟨ω, v1, v2⟩ := L_peaceC_37 w x hp d (q + 1) σ (zpeC h N L p q s) (by omega) hh
      refine ⟨ω, ?_, v2⟩
      rw [if_pos hz]
      unfold zit
      unfold zpeC zmax at v1 ⊢
      rw [if_pos hz] at v1 ⊢
      by_cases hc : s.1 < 0
      · rw [if_pos hc]
        rw [if_pos hc] at v1 ⊢
        exact v1
      · rw [if_neg hc]
        rw [if_neg hc] at v1 ⊢
        exact v1
    · obtain ⟨τ, t1, t2, t3⟩ := L_trial σ
      rw [hh] at t3
      have hp4 : p < 4 := by omega
      have t4 : zIR ((zup τ 1 1 7 p (τ 1 1 7 p &&& (((1 : Int32) <<< (nI q &&& 31)) ^^^ (-1 : Int32)))) 1 1) (zpe h p q) := by
        rw [zup_h, (t3.2.2.1 p (by omega)).2.2.2]
        exact zIR_u t3
      obtain ⟨υ, u1, u2, -⟩ := L_playT t4 (zNW_7 (zWF_NW w))
      have f : zfrm zScr σ υ := zfrm_t (zfrm_up (zfrm_m zHG1_s t2) (by simp [zScr])) (zfrm_m zPX_s u2)
      obtain ⟨ω, v1, v2⟩ := L_peaceC_37 w x hp d (q + 1) υ (zpeC h N L p q s) (by omega) (by rw [zh_f f, hh])
      refine ⟨ω, ?_, zfrm_t f v2⟩
      rw [if_neg hz, E_S_spokenInPeace, t1, zbV_some, E_House_setFeud, if_pos (show (0 : Int32) = 0 from rfl), zck_nI hp4 (by decide), zck_nI hp4 (by decide), nI_clamp (by omega)]
      dsimp only
      rw [zbV_some, u1, zbI_some, zbI_some]
      unfold zit
      unfold zpeC zpeI zmax at v1 ⊢
      rw [if_neg hz] at v1 ⊢
      by_cases hc : s.1 < nI (zspn (zpe h p q) zno N zno L)
      · rw [if_pos hc]
        rw [if_pos hc] at v1 ⊢
        exact v1
      · rw [if_neg hc]
        rw [if_neg hc] at v1 ⊢
        exact v1
theorem L_peaceC_22 {h : Nat → Nat → Int32} {R P N L S : Nat} (w : zWF h R P N L S) (x : Int32) : ∀ (d p : Nat) (σ : ZS) (s : Int32 × Int32), p + d = N → σ 1 0 = h →
    ∃ τ, zev 91 22 [(0, zA 0 0 0), (1, zI x), (2, zI s.1), (3, zI s.2), (4, zI (nI p))] [] σ = some (zI (if (zit (fun p => zit (zpeC h N L p) 0 N) p d s).2 = -4 then -4 else if x = 0 then (zit (fun p => zit (zpeC h N L p) 0 N) p d s).2 else (zit (fun p => zit (zpeC h N L p) 0 N) p d s).1), τ) ∧ zfrm zScr σ τ
  | 0, p, σ, s, hp, hh => by
    have hN : N ≤ 4 := w.2.1.2.2.2.2.1
    refine ⟨σ, ?_, zfrm_r⟩
    obtain rfl : p = N := by omega
    rw [E_S_peace_22, hh, w.1.2.2.1, if_neg (nI_nlt (by omega) (by omega)), L_which, zbI_some]
    rfl
  | d + 1, p, σ, s, hp, hh => by
    have hN : N ≤ 4 := w.2.1.2.2.2.2.1
    obtain ⟨τ, t1, t2⟩ := L_peaceC_37 w x (show p < N by omega) N 0 σ s (by omega) hh
    obtain ⟨υ, u1, u2⟩ := L_peaceC_22 w x d (p + 1) τ (zit (zpeC h N L p) 0 N s) (by omega) (by rw [zh_f t2, hh])
    refine ⟨υ, ?_, zfrm_t t2 u2⟩
    rw [E_S_peace_22, hh, w.1.2.2.1, if_pos (nI_lt (by omega) (by omega)), show (0 : Int32) = nI 0 from rfl, t1]
    exact u1
theorem L_peaceM_35 {h : Nat → Nat → Int32} {R P N L S p : Nat} (x : Int32) (hp : p < N) : ∀ (d q : Nat) (σ : ZS) (s : Int32 × Int32), q + d = N → zCx σ h R P N L S →
    ∃ τ, zev 181 35 [(0, zA 3 0 0), (1, zI x), (2, zI s.1), (3, zI s.2), (4, zI (nI p)), (5, zI (nI q))] [] σ = zev 181 23 [(0, zA 3 0 0), (1, zI x), (2, zI (zit (zpeI h N L p) q d s).1), (3, zI (zit (zpeI h N L p) q d s).2), (4, zI (nI (p + 1)))] [] τ ∧ zfrm zScr σ τ
  | 0, q, σ, s, hq, c => by
    have hN : N ≤ 4 := c.1.2.1.2.2.2.2.1
    refine ⟨σ, ?_, zfrm_r⟩
    obtain rfl : q = N := by omega
    rw [E_M_peace_35, c.2.2.2.2.1, if_neg (nI_nlt (by omega) (by omega)), nI_1]
    rfl
  | d + 1, q, σ, s, hq, c => by
    have hN : N ≤ 4 := c.1.2.1.2.2.2.2.1
    have hL : L ≤ 8 := c.1.2.1.2.2.2.2.2.1
    have m := zCx_MN c
    have vp : zst σ 3 0 2 (12 + 4 * p + 3) = h 7 p := by
      rw [show 12 + 4 * p + 3 = 15 + 4 * p by omega]
      exact (m.2.2.2.2.2.1 p hp).2.2.2
    have m1 := zMN_p (d := 3) (v := h 7 p &&& (((1 : Int32) <<< (nI q &&& 31)) ^^^ (-1 : Int32))) (by omega) hp hN hL (fun z => by cases z) m
    obtain ⟨υ, u1, u2, -⟩ := L_nightNow (zNW_7 (zWF_NW c.1)) m1
    have f : zfrm zScr σ υ := zfrm_t (zfrm_up (zst_f σ) (z2_s _ _ _ ⟨rfl, rfl, rfl⟩)) (zfrm_m zMX_s u2)
    obtain ⟨ω, v1, v2⟩ := L_peaceM_35 x hp d (q + 1) υ (zpeI h N L p q s) (by omega) (zCx_f f c)
    refine ⟨ω, ?_, zfrm_t f v2⟩
    rw [E_M_peace_35, c.2.2.2.2.1, if_pos (nI_lt (by omega) (by omega)), L_starts, zbV_some, show (12 + (4 * nI p)) + (3 : Int32) = nI (12 + 4 * p + 3) from zidx 3, zck_nI (by omega) (by decide), zck_nI (by omega) (by decide), nI_clamp (by omega), vp]
    dsimp only
    rw [u1, zbI_some, L_10pq, nI_1]
    unfold zit
    unfold zpeI zmax at v1 ⊢
    unfold zpe at v1 ⊢
    by_cases hc : s.1 < nI (zspn (zhu h 7 p (h 7 p &&& (((1 : Int32) <<< (nI q &&& 31)) ^^^ (-1 : Int32)))) zno N zno L)
    · rw [if_pos hc, if_pos hc]
      rw [if_pos hc] at v1 ⊢
      exact v1
    · rw [if_neg hc, if_neg hc]
      rw [if_neg hc] at v1 ⊢
      exact v1
theorem L_peaceM_23 {h : Nat → Nat → Int32} {R P N L S : Nat} (x : Int32) : ∀ (d p : Nat) (σ : ZS) (s : Int32 × Int32), p + d = N → zCx σ h R P N L S →
    ∃ τ, zev 181 23 [(0, zA 3 0 0), (1, zI x), (2, zI s.1), (3, zI s.2), (4, zI (nI p))] [] σ = some (zI (if (zit (fun p => zit (zpeI h N L p) 0 N) p d s).2 = -4 then -4 else if x = 0 then (zit (fun p => zit (zpeI h N L p) 0 N) p d s).2 else (zit (fun p => zit (zpeI h N L p) 0 N) p d s).1), τ) ∧ zfrm zScr σ τ
  | 0, p, σ, s, hp, c => by
    have hN : N ≤ 4 := c.1.2.1.2.2.2.2.1
    refine ⟨σ, ?_, zfrm_r⟩
    obtain rfl : p = N := by omega
    rw [E_M_peace_23, c.2.2.2.2.1, if_neg (nI_nlt (by omega) (by omega))]
    unfold zit
    by_cases h1 : s.2 = -4
    · rw [if_pos h1, if_pos h1]
    · rw [if_neg h1, if_neg h1]
      by_cases h2 : x = 0
      · rw [if_pos h2, if_pos h2]
      · rw [if_neg h2, if_neg h2]
  | d + 1, p, σ, s, hp, c => by
    have hN : N ≤ 4 := c.1.2.1.2.2.2.2.1
    obtain ⟨τ, t1, t2⟩ := L_peaceM_35 x (show p < N by omega) N 0 σ s (by omega) c
    obtain ⟨υ, u1, u2⟩ := L_peaceM_23 x d (p + 1) τ (zit (zpeI h N L p) 0 N s) (by omega) (zCx_f t2 c)
    refine ⟨υ, ?_, zfrm_t t2 u2⟩
    rw [E_M_peace_23, c.2.2.2.2.1, if_pos (nI_lt (by omega) (by omega)), show (0 : Int32) = nI 0 from rfl, t1]
    exact u1
theorem zpe_0 : ∀ o, o < 16 → ∀ i, i < 4 → zbit (nI o) i = 0 → nI o &&& (((1 : Int32) <<< (nI i &&& 31)) ^^^ (-1 : Int32)) = nI o := by decide +kernel
theorem zhu_id {h : Nat → Nat → Int32} {j k : Nat} : zhu h j k (h j k) = h := by
  funext j' k'
  unfold zhu
  split
  · rename_i e
    rw [e.1, e.2]
  · rfl
/-- at least now -/
def zge (now : Nat) (s : Int32 × Int32) : Prop := ∃ k, now ≤ k ∧ k ≤ 8 ∧ s.1 = nI k
theorem zge_max {now n : Nat} {x : Int32} {s : Int32 × Int32} (hn : n ≤ 8) (h : zge now s) : zge now (zmax (nI n) x s) := by
  obtain ⟨k, h1, h2, h3⟩ := h
  unfold zmax
  by_cases hc : s.1 < nI n
  · rw [if_pos hc]
    refine ⟨n, ?_, hn, rfl⟩
    by_cases hkn : k < n
    · omega
    · exact absurd (h3 ▸ hc) (nI_nlt (by omega) (by omega))
  · rw [if_neg hc]
    exact ⟨k, h1, h2, h3⟩
theorem zpe_same {h : Nat → Nat → Int32} {R P N L S p q : Nat} (w : zWF h R P N L S) (hp : p < N) (hq : q < N) {s : Int32 × Int32} (hs : zge (zspn h zno N zno L) s) : zge (zspn h zno N zno L) (zpeC h N L p q s) ∧ zpeC h N L p q s = zpeI h N L p q s := by
  have hN : N ≤ 4 := w.2.1.2.2.2.2.1
  have hL : L ≤ 8 := w.2.1.2.2.2.2.2.1
  have hI : zge (zspn h zno N zno L) (zpeI h N L p q s) := zge_max (by have := zct_le (zspk (zpe h p q) zno N zno) L; unfold zspn; omega) hs
  unfold zpeC
  by_cases hz : zbit (h 7 p) q = 0
  · rw [if_pos hz]
    obtain ⟨k, h1, h2, h3⟩ := hs
    have e0 : zmax 0 (nI (10 * p + q)) s = s := by
      unfold zmax
      rw [if_neg]
      rw [h3]
      exact Int32.not_lt.mpr (nI_pos' (by omega))
    have e1 : zpe h p q = h := by
      obtain ⟨-, -, f, hf, e⟩ := w.2.2.2.2.2.2.2.1 p hp
      unfold zpe
      have : h 7 p &&& (((1 : Int32) <<< (nI q &&& 31)) ^^^ (-1 : Int32)) = h 7 p := by
        rw [e] at hz ⊢
        exact zpe_0 f hf q (by omega) hz
      rw [this, zhu_id]
    have e2 : zpeI h N L p q s = s := by
      unfold zpeI zmax
      rw [e1, h3, if_neg (nI_nlt h1 (by omega))]
    rw [e0, e2]
    exact ⟨⟨k, h1, h2, h3⟩, rfl⟩
  · rw [if_neg hz]
    exact ⟨hI, rfl⟩
theorem Q_peace {σ : ZS} (hi : zInv σ) (x : Int32) : zPair (zcall 91 [zA 0 0 0, zI x]) (zcall 181 [zA 3 0 0, zI x]) σ := by
  obtain ⟨R, P, N, L, S, a1, a2, a3, a4, a5, a6, a7, a8⟩ := id hi
  have hL : L ≤ 8 := a1.2.1.2.2.2.2.2.1
  unfold zPair
  simp only [E_S_peace, E_M_peace, L_is0_1, L_in0_1, zbI_some, zif_b]
  cases h1 : zin2 x (nI 0) (nI 1) with
  | false => exact ⟨-1, σ, σ, rfl, rfl, hi⟩
  | true =>
    obtain ⟨τ, t1, t2, -⟩ := L_nowC a1
    have c := zCx_of a1 a2 a3
    obtain ⟨τ2, p1, p2⟩ := L_peaceC_22 a1 x N 0 τ (nI (zspn (σ 1 0) zno N zno L), -4) (by omega) (zh_f t2)
    have f := zfrm_t t2 p2
    obtain ⟨υ, u1, u2, -⟩ := L_nowM (zCx_f f c)
    obtain ⟨υ2, q1, q2⟩ := L_peaceM_23 x N 0 υ (nI (zspn (σ 1 0) zno N zno L), -4) (by omega) (zCx_f u2 (zCx_f f c))
    have e : zit (fun p => zit (zpeC (σ 1 0) N L p) 0 N) 0 N (nI (zspn (σ 1 0) zno N zno L), -4) = zit (fun p => zit (zpeI (σ 1 0) N L p) 0 N) 0 N (nI (zspn (σ 1 0) zno N zno L), -4) := by
      refine zit_e (p := zge (zspn (σ 1 0) zno N zno L)) N 0 _ (fun p _ hp s hs => ⟨?_, ?_⟩) ⟨_, Nat.le_refl _, by have := zct_le (zspk (σ 1 0) zno N zno) L; unfold zspn; omega, rfl⟩
      · exact zit_p (p := zge (zspn (σ 1 0) zno N zno L)) N 0 s (fun q _ hq s hs => (zpe_same a1 (by omega) (by omega) hs).1) hs
      · exact zit_e (p := zge (zspn (σ 1 0) zno N zno L)) N 0 s (fun q _ hq s hs => zpe_same a1 (by omega) (by omega) hs) hs
    rw [e] at p1
    refine ⟨_, τ2, υ2, Eq.trans ?_ p1, Eq.trans ?_ q1, zInv_q q2 (zInv_q u2 (zInv_q f hi))⟩
    · rw [if_pos rfl, t1, zbI_some]
      rfl
    · rw [if_pos rfl, u1, zbI_some]
      rfl
