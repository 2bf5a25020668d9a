/-! text: the class tells its lines -/
theorem znum_w {b : Nat → Nat} {T i lo hi : Nat} {p : Nat × ZTok} (hi' : i ≤ T) (hb : ∀ i, i < T → b i < 128) (h : znum b T i lo hi = .inr p) : ztokW T p.2 ∧ lo ≤ p.1 ∧ p.1 ≤ hi := by
  unfold znum at h
  cases hz : ztok b T i with
  | inl q => rw [hz] at h; cases h
  | inr t =>
    rw [hz] at h
    have h : zbn (zchk t lo hi) (fun v => .inr (v, t)) = .inr p := h
    unfold zchk at h
    by_cases c1 : t.1 = 2
    · rw [if_pos c1] at h
      by_cases c2 : lo ≤ t.2.2.2 ∧ t.2.2.2 ≤ hi
      · rw [if_pos c2] at h
        cases h
        exact ⟨ztok_w hi' hb hz, c2.1, c2.2⟩
      · rw [if_neg c2] at h; cases h
    · rw [if_neg c1] at h; cases h
theorem zsgn_w {b : Nat → Nat} {T i : Nat} {t : ZTok} (hi' : i ≤ T) (hb : ∀ i, i < T → b i < 128) (h : zsgn b T i = .inr t) : ztokW T t ∧ t.1 = 3 := by
  unfold zsgn at h
  cases hz : ztok b T i with
  | inl q => rw [hz] at h; cases h
  | inr t' =>
    rw [hz] at h
    have h : (if t'.1 = 3 then (.inr t' : ZP ZTok) else .inl (2, t'.2.1)) = .inr t := h
    by_cases c1 : t'.1 = 3
    · rw [if_pos c1] at h
      cases h
      exact ⟨ztok_w hi' hb hz, c1⟩
    · rw [if_neg c1] at h; cases h
def zCS (σ : ZS) (S : ZDr) : Prop := σ 1 2 = dH S ∧ σ 0 0 4 9 = zb (dh S) ∧ σ 0 0 4 10 = zb (ds S) ∧ σ 0 0 4 11 = nI (dp S)
theorem zCS_k {σ τ : ZS} {S : ZDr} (k : zKp σ τ) (h : zCS σ S) : zCS τ S := by
  unfold zCS
  rw [show τ 1 2 = σ 1 2 from funext fun j => k.1 1 2 j (by omega), k.2 9 (by omega), k.2 10 (by omega), k.2 11 (by omega)]
  exact h
def zRX (c g j : Nat) : Prop := (c = 0 ∧ g = 0 ∧ j = 4) ∨ (c = 1 ∧ g = 2)
def zKr (σ τ : ZS) : Prop := zfrm zRX σ τ ∧ τ 0 0 4 2 = σ 0 0 4 2 ∧ (τ 0 0 4 3 = 0 ∨ τ 1 2 = σ 1 2)
theorem zKr_r (σ : ZS) : zKr σ σ := ⟨zfrm_r, rfl, Or.inr rfl⟩
theorem zKp_12 {σ τ : ZS} (k : zKp σ τ) : τ 1 2 = σ 1 2 := funext fun j => k.1 1 2 j (by omega)
theorem zKr_p {σ τ : ZS} (k : zKp σ τ) : zKr σ τ := ⟨zfrm_m (fun _ _ _ h => Or.inl h) k.1, k.2 2 (by omega), Or.inr (zKp_12 k)⟩
theorem zKr_t {σ τ υ : ZS} (h1 : zKp σ τ) (h2 : zKr τ υ) : zKr σ υ := ⟨zfrm_t (zKr_p h1).1 h2.1, h2.2.1.trans (zKr_p h1).2.1, h2.2.2.imp_right fun e => e.trans (zKp_12 h1)⟩
theorem zKr_u {σ τ : ZS} {k : Nat} {v : Int32} (h : zKr σ τ) (hk : k ≠ 2 ∧ k ≠ 3) : zKr σ (zup τ 0 0 4 k v) := ⟨zfrm_up h.1 (Or.inl ⟨rfl, rfl, rfl⟩), by rw [zup_m, zru_o (fun z => hk.1 z.symm)]; exact h.2.1, h.2.2.imp (fun e => by rw [zup_m, zru_o (fun z => hk.2 z.symm)]; exact e) (fun e => by rw [← e]; exact funext fun j => zup_o (by omega))⟩
theorem zKr_h {σ τ : ZS} {j k : Nat} {v : Int32} (h0 : τ 0 0 4 3 = 0) (h : zKr σ τ) : zKr σ (zup τ 1 2 j k v) := ⟨zfrm_up h.1 (Or.inr ⟨rfl, rfl⟩), by rw [zup_o (by omega)]; exact h.2.1, Or.inl (by rw [zup_o (by omega)]; exact h0)⟩
theorem zTpB_r {σ τ : ZS} {b : Nat → Nat} {T : Nat} (k : zKr σ τ) (h : zTpB σ b T) : zTpB τ b T := zTpB_f (k.1 0 0 5 (by simp [zRX])) (k.1 0 0 6 (by simp [zRX])) h
def zLR (τ : ZS) (r : ZP (ZDr × ZTok)) : Prop := match r with
  | .inl q => zFc τ q
  | .inr p => zTc τ p.2 ∧ zCS τ p.1
/-! shapes -/
def zshs (H : Nat → Nat → Int32) (R P s : Nat) : Nat → Nat → Int32 := fun j k => if j = 0 ∧ k = 0 then nI R else if j = 0 ∧ k = 1 then nI P else if j = 1 ∧ k < s then nI (k / P) else if j = 2 ∧ k < s then nI (k % P) else H j k
theorem zshs_1 {H : Nat → Nat → Int32} {R P r c : Nat} (hc : c < P) : zhu (zhu (zshs H R P (r * P + c)) 1 (r * P + c) (nI r)) 2 (r * P + c) (nI c) = zshs H R P (r * P + c + 1) := by
  have e1 : (r * P + c) / P = r := by rw [Nat.mul_comm, Nat.mul_add_div (by omega), Nat.div_eq_of_lt hc, Nat.add_zero]
  have e2 : (r * P + c) % P = c := by rw [Nat.mul_comm, Nat.mul_add_mod, Nat.mod_eq_of_lt hc]
  generalize r * P + c = s at *
  funext j k
  by_cases h1 : j = 2 ∧ k = s
  · obtain ⟨rfl, rfl⟩ := h1
    rw [zhu_s]
    unfold zshs
    rw [if_neg (by omega), if_neg (by omega), if_neg (by omega), if_pos ⟨rfl, Nat.lt_succ_self _⟩, e2]
  · rw [zhu_n h1]
    by_cases h2 : j = 1 ∧ k = s
    · obtain ⟨rfl, rfl⟩ := h2
      rw [zhu_s]
      unfold zshs
      rw [if_neg (by omega), if_neg (by omega), if_pos ⟨rfl, Nat.lt_succ_self _⟩, e1]
    · rw [zhu_n h2]
      unfold zshs
      by_cases c1 : j = 0 ∧ k = 0
      · rw [if_pos c1, if_pos c1]
      · rw [if_neg c1, if_neg c1]
        by_cases c2 : j = 0 ∧ k = 1
        · rw [if_pos c2, if_pos c2]
        · rw [if_neg c2, if_neg c2]
          by_cases c3 : j = 1 ∧ k < s
          · rw [if_pos c3, if_pos (by omega)]
          · rw [if_neg c3, if_neg (show ¬ (j = 1 ∧ k < s + 1) by omega)]
            by_cases c4 : j = 2 ∧ k < s
            · rw [if_pos c4, if_pos (show j = 2 ∧ k < s + 1 by omega)]
            · rw [if_neg c4, if_neg (show ¬ (j = 2 ∧ k < s + 1) by omega)]
theorem L_sh27 {g R P r : Nat} {H : Nat → Nat → Int32} (hR : R ≤ 3) (hP : P ≤ 4) (hr : r < R) : ∀ (d c : Nat) (σ : ZS), c + d = P → σ 1 g = zshs H R P (r * P + c) →
    ∃ τ, zev 1 27 [(0, zA 1 g 0), (3, zI (nI (r * P + c))), (4, zI (nI r)), (5, zI (nI c))] [] σ = zev 1 15 [(0, zA 1 g 0), (3, zI (nI ((r + 1) * P))), (4, zI (nI (r + 1)))] [] τ ∧ zfrm (zHG g) σ τ ∧ τ 1 g = zshs H R P ((r + 1) * P)
  | 0, c, σ, hc, h => by
    have e1 : σ 1 g 0 1 = nI P := by rw [h]; rfl
    have e : r * P + c = (r + 1) * P := by rw [Nat.add_mul, Nat.one_mul]; omega
    refine ⟨σ, ?_, zfrm_r, by rw [← e]; exact h⟩
    rw [E_House_setShape_27, e1, if_neg (nI_nlt (by omega) (by omega)), nI_1, e]
  | d + 1, c, σ, hc, h => by
    have e1 : σ 1 g 0 1 = nI P := by rw [h]; rfl
    have hs : r * P + c < 12 := by
      have : (r + 1) * P ≤ 3 * 4 := Nat.mul_le_mul (by omega) hP
      rw [Nat.add_mul, Nat.one_mul] at this
      omega
    have e2 : (zup (zup σ 1 g 1 (r * P + c) (nI r)) 1 g 2 (r * P + c) (nI c)) 1 g = zshs H R P (r * P + (c + 1)) := by
      rw [zup_h, zup_h, h, zshs_1 (by omega), Nat.add_assoc]
    obtain ⟨τ, t1, t2, t3⟩ := L_sh27 hR hP hr d (c + 1) (zup (zup σ 1 g 1 (r * P + c) (nI r)) 1 g 2 (r * P + c) (nI c)) (by omega) e2
    refine ⟨τ, ?_, zfrm_t (zfrm_up (zfrm_up zfrm_r ⟨rfl, rfl⟩) ⟨rfl, rfl⟩) t2, t3⟩
    rw [E_House_setShape_27, e1, if_pos (nI_lt (by omega) (by omega)), if_pos (show nI (r * P + c) < 12 from nI_lt (b := 12) hs (by decide)), zck_nI hs (by decide), zck_nI hs (by decide), nI_clamp (show r * P + c < 2 ^ 31 by omega), nI_1, nI_1, Nat.add_assoc]
    exact t1
theorem L_sh15 {g R P : Nat} {H : Nat → Nat → Int32} (hR : R ≤ 3) (hP : P ≤ 4) : ∀ (d r : Nat) (σ : ZS), r + d = R → σ 1 g = zshs H R P (r * P) →
    ∃ τ, zev 1 15 [(0, zA 1 g 0), (3, zI (nI (r * P))), (4, zI (nI r))] [] σ = some (zI 0, τ) ∧ zfrm (zHG g) σ τ ∧ τ 1 g = zshs H R P (R * P)
  | 0, r, σ, hr, h => by
    have e1 : σ 1 g 0 0 = nI R := by rw [h]; rfl
    obtain rfl : r = R := by omega
    exact ⟨σ, by rw [E_House_setShape_15, e1, if_neg (nI_nlt (Nat.le_refl _) (by omega))], zfrm_r, h⟩
  | d + 1, r, σ, hr, h => by
    have e1 : σ 1 g 0 0 = nI R := by rw [h]; rfl
    obtain ⟨τ, t1, t2, t3⟩ := L_sh27 (H := H) hR hP (show r < R by omega) P 0 σ (by omega) h
    obtain ⟨υ, u1, u2, u3⟩ := L_sh15 hR hP d (r + 1) τ (by omega) t3
    refine ⟨υ, ?_, zfrm_t t2 u2, u3⟩
    rw [E_House_setShape_15, e1, if_pos (nI_lt (by omega) (by omega))]
    rw [show zev 1 27 [(0, zA 1 g 0), (3, zI (nI (r * P))), (4, zI (nI r)), (5, zI 0)] [] σ = _ from t1]
    exact u1
theorem L_shape {g R P : Nat} (σ : ZS) (hR : R ≤ 3) (hP : P ≤ 4) : ∃ τ, zcall 1 [zA 1 g 0, zI (nI R), zI (nI P)] σ = some (zI 0, τ) ∧ zfrm (zHG g) σ τ ∧ τ 1 g = zshp (σ 1 g) R P := by
  have e : (zup (zup σ 1 g 0 0 (nI R)) 1 g 0 1 (nI P)) 1 g = zshs (σ 1 g) R P (0 * P) := by
    rw [zup_h, zup_h]
    funext j k
    unfold zshs
    rw [Nat.zero_mul]
    by_cases c2 : j = 0 ∧ k = 1
    · obtain ⟨rfl, rfl⟩ := c2
      rw [zhu_s, if_neg (by decide), if_pos ⟨rfl, rfl⟩]
    · rw [zhu_n c2]
      by_cases c1 : j = 0 ∧ k = 0
      · obtain ⟨rfl, rfl⟩ := c1
        rw [zhu_s, if_pos ⟨rfl, rfl⟩]
      · rw [zhu_n c1, if_neg c1, if_neg c2, if_neg (by omega), if_neg (by omega)]
  obtain ⟨τ, t1, t2, t3⟩ := L_sh15 (H := σ 1 g) hR hP R 0 _ (by omega) e
  refine ⟨τ, ?_, zfrm_t (zfrm_up (zfrm_up zfrm_r ⟨rfl, rfl⟩) ⟨rfl, rfl⟩) t2, t3⟩
  rw [E_House_setShape]
  rw [Nat.zero_mul] at t1
  exact t1
/-! house, part, soft -/
theorem L_tellHouse {b : Nat → Nat} {T : Nat} {t : ZTok} {S : ZDr} {σ : ZS} (h : zTpB σ b T) (ht : zTc σ t) (hw : ztokW T t) (hS : zCS σ S) : ∃ τ, zcall 37 [zA 0 0 4] σ = some (zI 0, τ) ∧ zKr σ τ ∧ zLR τ (zlHouse b T t S) := by
  obtain ⟨t1, t2, t3, t4, t5⟩ := id ht
  have hb := fun j hj => (h.2.2 j hj).2
  rw [E_Reader_tellHouse, hS.2.1]
  unfold zlHouse
  cases hd : dh S with
  | true =>
    obtain ⟨τ, f1, f2, f3⟩ := L_fail1 (f := 4) t1 t4 (by decide) (by decide)
    rw [show zcall 34 [zA 0 0 4, zI (zb true), zI 4] σ = _ from f1, zbV_some, L_numF f3.2.1, zbI_some, L_numF f3.2.1, zbI_some, L_sgnF f3.2.1, zbV_some, if_neg f3.2.1, if_pos rfl]
    exact ⟨τ, rfl, zKr_p f2, f3⟩
  | false =>
    rw [show zcall 34 [zA 0 0 4, zI (zb false), zI 4] σ = _ from L_fail0 σ 4, zbV_some, if_neg (by decide)]
    obtain ⟨v, τ, a1, a2, a3⟩ := L_num (lo := 1) (hi := 3) h t1 hw.2.2.1 t2 (by decide) (by decide)
    rw [show zcall 38 [zA 0 0 4, zI 1, zI 3] σ = _ from a1, zbI_some]
    cases hz : znum b T t.2.2.1 1 3 with
    | inl q =>
      rw [hz] at a3
      obtain ⟨a3, -⟩ := a3
      rw [L_numF a3.2.1, zbI_some, L_sgnF a3.2.1, zbV_some, if_neg a3.2.1]
      exact ⟨τ, rfl, zKr_p a2, a3⟩
    | inr p =>
      rw [hz] at a3
      obtain ⟨a3, rfl⟩ := a3
      have w1 := znum_w hw.2.2.1 hb hz
      have h1 := zTpB_k a2 h
      obtain ⟨v2, τ2, c1, c2, c3⟩ := L_num (lo := 2) (hi := 4) h1 a3.1 w1.1.2.2.1 a3.2.1 (by decide) (by decide)
      rw [show zcall 38 [zA 0 0 4, zI 2, zI 4] τ = _ from c1, zbI_some]
      show ∃ τ', _ ∧ _ ∧ zLR τ' (zbn (znum b T p.2.2.2.1 2 4) _)
      cases hz2 : znum b T p.2.2.2.1 2 4 with
      | inl q =>
        rw [hz2] at c3
        obtain ⟨c3, -⟩ := c3
        rw [L_sgnF c3.2.1, zbV_some, if_neg c3.2.1]
        exact ⟨τ2, rfl, zKr_p (zKp_t a2 c2), c3⟩
      | inr q =>
        rw [hz2] at c3
        obtain ⟨c3, rfl⟩ := c3
        have w2 := znum_w w1.1.2.2.1 hb hz2
        have k2 := zKp_t a2 c2
        obtain ⟨τ3, e1, e2, e3⟩ := L_sgn (zTpB_k k2 h) c3.1 w2.1.2.2.1 c3.2.1
        rw [e1, zbV_some]
        show ∃ τ', _ ∧ _ ∧ zLR τ' (zbn (zsgn b T q.2.2.2.1) _)
        cases hz3 : zsgn b T q.2.2.2.1 with
        | inl f =>
          rw [hz3] at e3
          rw [if_neg e3.2.1]
          exact ⟨τ3, rfl, zKr_p (zKp_t k2 e2), e3⟩
        | inr g =>
          rw [hz3] at e3
          have k3 := zKp_t k2 e2
          have hS3 := zCS_k k3 hS
          obtain ⟨τ4, s1, s2, s3⟩ := L_shape (g := 2) (zup τ3 0 0 4 9 1) (R := p.1) (P := q.1) (by omega) (by omega)
          rw [if_pos e3.1]
          dsimp only
          rw [s1, zbV_some]
          have e4 : ∀ k, τ4 0 0 4 k = zup τ3 0 0 4 9 1 0 0 4 k := fun k => by rw [s2 0 0 4 (by simp [zHG])]
          refine ⟨τ4, rfl, ⟨zfrm_t (zKr_u (k := 9) (zKr_p k3) (by decide)).1 (zfrm_m (fun _ _ _ h => Or.inr h) s2), ?_, Or.inl ?_⟩, ?_, ?_⟩
          · rw [e4, zup_m, zru_o (by decide)]; exact k3.2 2 (by omega)
          · rw [e4, zup_m, zru_o (by decide)]; exact e3.1
          · obtain ⟨g1, g2, g3, g4, g5⟩ := e3
            refine ⟨?_, ?_, ?_, ?_, fun z => ?_⟩
            · rw [e4, zup_m, zru_o (by decide)]; exact g1
            · rw [e4, zup_m, zru_o (by decide)]; exact g2
            · rw [e4, zup_m, zru_o (by decide)]; exact g3
            · rw [e4, zup_m, zru_o (by decide)]; exact g4
            · rw [e4, zup_m, zru_o (by decide)]; exact g5 z
          · refine ⟨?_, ?_, ?_, ?_⟩
            · rw [s3, show zup τ3 0 0 4 9 1 1 2 = τ3 1 2 from funext fun j => zup_o (by omega), hS3.1]
            · rw [e4, zup_same]; rfl
            · rw [e4, zup_m, zru_o (by decide)]; exact hS3.2.2.1
            · rw [e4, zup_m, zru_o (by decide)]; exact hS3.2.2.2
theorem zTc_u {σ : ZS} {t : ZTok} {k : Nat} {v : Int32} (hk : 9 ≤ k) (h : zTc σ t) : zTc (zup σ 0 0 4 k v) t := by
  obtain ⟨g1, g2, g3, g4, g5⟩ := h
  refine ⟨?_, ?_, ?_, ?_, fun z => ?_⟩
  · rw [zup_m, zru_o (by omega)]; exact g1
  · rw [zup_m, zru_o (by omega)]; exact g2
  · rw [zup_m, zru_o (by omega)]; exact g3
  · rw [zup_m, zru_o (by omega)]; exact g4
  · rw [zup_m, zru_o (by omega)]; exact g5 z
theorem zTc_h {σ τ : ZS} {t : ZTok} (e : τ 0 0 4 = σ 0 0 4) (h : zTc σ t) : zTc τ t := by
  unfold zTc
  rw [e]
  exact h
theorem L_tellPart {b : Nat → Nat} {T : Nat} {t : ZTok} {S : ZDr} {σ : ZS} (h : zTpB σ b T) (ht : zTc σ t) (hw : ztokW T t) (hS : zCS σ S) : ∃ τ, zcall 41 [zA 0 0 4] σ = some (zI 0, τ) ∧ zKr σ τ ∧ zLR τ (zlPart b T t S) := by
  obtain ⟨t1, t2, t3, t4, t5⟩ := id ht
  have hb := fun j hj => (h.2.2 j hj).2
  obtain ⟨v, τ, a1, a2, a3⟩ := L_num (lo := 0) (hi := 11) h t1 hw.2.2.1 t2 (by decide) (by decide)
  have hS1 := zCS_k a2 hS
  rw [E_Reader_tellPart]
  rw [show zcall 38 [zA 0 0 4, zI 0, zI 11] σ = _ from a1, zbI_some, hS1.2.2.2]
  unfold zlPart
  cases hz : znum b T t.2.2.1 0 11 with
  | inl q =>
    rw [hz] at a3
    obtain ⟨a3, -⟩ := a3
    simp only [L_failF a3.2.1, zbV_some, L_numF a3.2.1, zbI_some, L_sgnF a3.2.1, if_neg a3.2.1]
    refine ⟨τ, ?_, zKr_p a2, a3⟩
    split <;> rfl
  | inr p =>
    rw [hz] at a3
    obtain ⟨a3, rfl⟩ := a3
    have w1 := znum_w hw.2.2.1 hb hz
    have h1 := zTpB_k a2 h
    rw [show (nI (dp S) >>> (nI p.1 &&& 31)) &&& 1 = zbit (nI (dp S)) p.1 from rfl, zbit_bt _ (by omega), zvb_n _ (by omega), zif_b]
    show ∃ τ', _ ∧ _ ∧ zLR τ' (if (dp S).testBit p.1 = true then .inl (4, p.2.2.1) else zbn (znum b T p.2.2.2.1 0 5) _)
    cases hd : (dp S).testBit p.1 with
    | true =>
      obtain ⟨τ2, f1, f2, f3⟩ := L_fail1 (f := 4) a3.1 a3.2.2.2.1 (by decide) (by decide)
      rw [if_pos rfl, if_pos rfl]
      rw [show zcall 34 [zA 0 0 4, zI 1, zI 4] τ = _ from f1, zbV_some, L_numF f3.2.1, zbI_some, L_sgnF f3.2.1, zbV_some, if_neg f3.2.1]
      exact ⟨τ2, rfl, zKr_p (zKp_t a2 f2), f3⟩
    | false =>
      obtain ⟨v2, τ2, c1, c2, c3⟩ := L_num (lo := 0) (hi := 5) h1 a3.1 w1.1.2.2.1 a3.2.1 (by decide) (by decide)
      rw [if_neg Bool.false_ne_true, if_neg Bool.false_ne_true, L_fail0, zbV_some]
      rw [show zcall 38 [zA 0 0 4, zI 0, zI 5] τ = _ from c1, zbI_some]
      cases hz2 : znum b T p.2.2.2.1 0 5 with
      | inl q =>
        rw [hz2] at c3
        obtain ⟨c3, -⟩ := c3
        rw [L_sgnF c3.2.1, zbV_some, if_neg c3.2.1]
        exact ⟨τ2, rfl, zKr_p (zKp_t a2 c2), c3⟩
      | inr q =>
        rw [hz2] at c3
        obtain ⟨c3, rfl⟩ := c3
        have w2 := znum_w w1.1.2.2.1 hb hz2
        have k2 := zKp_t a2 c2
        obtain ⟨τ3, e1, e2, e3⟩ := L_sgn (zTpB_k k2 h) c3.1 w2.1.2.2.1 c3.2.1
        rw [e1, zbV_some]
        show ∃ τ', _ ∧ _ ∧ zLR τ' (zbn (zsgn b T q.2.2.2.1) _)
        cases hz3 : zsgn b T q.2.2.2.1 with
        | inl f =>
          rw [hz3] at e3
          rw [if_neg e3.2.1]
          exact ⟨τ3, rfl, zKr_p (zKp_t k2 e2), e3⟩
        | inr g =>
          rw [hz3] at e3
          have k3 := zKp_t k2 e2
          have hS3 := zCS_k k3 hS
          rw [if_pos e3.1, hS3.2.2.2, zn_1 _ (by omega), zn_or, zck_nI (by omega) (by decide), nI_clamp (by omega)]
          refine ⟨_, rfl, zKr_h (by rw [zup_m, zru_o (by decide)]; exact e3.1) (zKr_u (zKr_p k3) (by decide)), zTc_h (zup_o (by decide)) (zTc_u (by decide) e3), ?_, ?_, ?_, ?_⟩
          · rw [zup_h, show zup τ3 0 0 4 11 (nI (dp S ||| 1 <<< p.1)) 1 2 = τ3 1 2 from funext fun j => zup_o (by omega), hS3.1]
          · rw [zup_o (by decide), zup_m, zru_o (by decide)]; exact hS3.2.1
          · rw [zup_o (by decide), zup_m, zru_o (by decide)]; exact hS3.2.2.1
          · rw [zup_o (by decide), zup_same]
theorem L_tellSoft {b : Nat → Nat} {T : Nat} {t : ZTok} {S : ZDr} {σ : ZS} (h : zTpB σ b T) (ht : zTc σ t) (hw : ztokW T t) (hS : zCS σ S) : ∃ τ, zcall 45 [zA 0 0 4] σ = some (zI 0, τ) ∧ zKr σ τ ∧ zLR τ (zlSoft b T t S) := by
  obtain ⟨t1, t2, t3, t4, t5⟩ := id ht
  rw [E_Reader_tellSoft, hS.2.2.1]
  unfold zlSoft
  cases hd : ds S with
  | true =>
    obtain ⟨τ, f1, f2, f3⟩ := L_fail1 (f := 4) t1 t4 (by decide) (by decide)
    rw [show zcall 34 [zA 0 0 4, zI (zb true), zI 4] σ = _ from f1, zbV_some, L_sgnF f3.2.1, zbV_some, if_neg f3.2.1, if_pos rfl]
    exact ⟨τ, rfl, zKr_p f2, f3⟩
  | false =>
    rw [show zcall 34 [zA 0 0 4, zI (zb false), zI 4] σ = _ from L_fail0 σ 4, zbV_some, if_neg Bool.false_ne_true]
    obtain ⟨τ3, e1, e2, e3⟩ := L_sgn h t1 hw.2.2.1 t2
    rw [e1, zbV_some]
    cases hz3 : zsgn b T t.2.2.1 with
    | inl f =>
      rw [hz3] at e3
      rw [if_neg e3.2.1]
      exact ⟨τ3, rfl, zKr_p e2, e3⟩
    | inr g =>
      rw [hz3] at e3
      have hS3 := zCS_k e2 hS
      rw [if_pos e3.1]
      refine ⟨_, rfl, zKr_h (by rw [zup_m, zru_o (by decide)]; exact e3.1) (zKr_u (zKr_p e2) (by decide)), zTc_h (zup_o (by decide)) (zTc_u (by decide) e3), ?_, ?_, ?_, ?_⟩
      · rw [zup_h, show zup τ3 0 0 4 10 1 1 2 = τ3 1 2 from funext fun j => zup_o (by omega), hS3.1]
      · rw [zup_o (by decide), zup_m, zru_o (by decide)]; exact hS3.2.1
      · rw [zup_o (by decide), zup_same]; rfl
      · rw [zup_o (by decide), zup_m, zru_o (by decide)]; exact hS3.2.2.2
