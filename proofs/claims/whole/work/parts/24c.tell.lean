/-! text: one, away, line, scene -/
def zFR (τ : ZS) (v : Int32) (r : ZP (Nat × ZTok)) : Prop := match r with
  | .inl q => zFc τ q
  | .inr p => zTc τ p.2 ∧ v = nI p.1
theorem L_feu8F {σ : ZS} (h : ¬ σ 0 0 4 3 = 0) (x y : Int32) : zev 43 8 [(0, zA 0 0 4), (1, zI x), (2, zI y)] [] σ = some (zI x, σ) := by
  rw [E_Reader_takeFeuds_8, if_neg h]
  split <;> rfl
theorem zpop4 : ∀ m, m < 16 → zpopn 4 m ≤ 4 ∧ ∀ q, q < 4 → m.testBit q = false → zpopn 4 (m ||| 1 <<< q) = zpopn 4 m + 1 ∧ m ||| 1 <<< q < 16 := by decide +kernel
theorem L_feu8 {b : Nat → Nat} {T : Nat} : ∀ (n m : Nat) (t : ZTok) (σ : ZS), zTpB σ b T → zTc σ t → ztokW T t → m < 16 → zpopn 4 m + n = 5 →
    ∃ v τ, zev 43 8 [(0, zA 0 0 4), (1, zI (nI m)), (2, zI (nI (5 - n)))] [] σ = some (zI v, τ) ∧ zKp σ τ ∧ zFR τ v (zfeu b T n t m)
  | 0, m, t, σ, h, ht, hw, hm, hp => by
    have := (zpop4 m hm).1
    omega
  | n + 1, m, t, σ, h, ht, hw, hm, hp => by
    obtain ⟨t1, t2, t3, t4, t5⟩ := id ht
    have hb := fun j hj => (h.2.2 j hj).2
    unfold zfeu
    rw [E_Reader_takeFeuds_8, if_neg (show ¬ (4 : Int32) < nI (5 - (n + 1)) from nI_nlt (a := 4) (by omega) (by decide)), if_pos t1, t3]
    by_cases c : t.1 = 3
    · rw [if_pos (show nI t.1 = 3 by rw [c]; rfl), if_pos c]
      exact ⟨_, σ, rfl, zKp_r σ, ht, rfl⟩
    · rw [if_neg (show ¬ nI t.1 = 3 from nI_ne c (by have := hw.1; omega) (by decide)), if_neg c]
      obtain ⟨v, τ, a1, a2, a3⟩ := L_within (lo := 0) (hi := 3) ht ⟨hw.1, hw.2.2.2.1⟩ (by decide) (by decide)
      rw [show zcall 39 [zA 0 0 4, zI 0, zI 3] σ = _ from a1, zbI_some]
      have hck : ∀ q, zchk t 0 3 = .inr q → q ≤ 3 := by
        intro q hq
        unfold zchk at hq
        by_cases c1 : t.1 = 2
        · rw [if_pos c1] at hq
          by_cases c2 : 0 ≤ t.2.2.2 ∧ t.2.2.2 ≤ 3
          · rw [if_pos c2] at hq
            cases hq
            exact c2.2
          · rw [if_neg c2] at hq; cases hq
        · rw [if_neg c1] at hq; cases hq
      cases hz : zchk t 0 3 with
      | inl q =>
        rw [hz] at a3
        obtain ⟨a3, -⟩ := a3
        simp only [L_failF a3.2.1, zbV_some, L_takeF a3.2.1, L_feu8F a3.2.1]
        refine ⟨nI m ||| (1 <<< (v &&& 31)), τ, ?_, a2, a3⟩
        split <;> rfl
      | inr q =>
        rw [hz] at a3
        obtain ⟨a3, rfl⟩ := a3
        have hq := hck q hz
        rw [show (nI m >>> (nI q &&& 31)) &&& 1 = zbit (nI m) q from rfl, zbit_bt _ (by omega), zvb_n _ (by omega), zif_b, zn_1 _ (by omega), zn_or]
        show ∃ v τ', _ ∧ _ ∧ zFR τ' v (if m.testBit q = true then .inl (4, t.2.1) else zbn (ztok b T t.2.2.1) _)
        cases hd : m.testBit q with
        | true =>
          obtain ⟨τ2, f1, f2, f3⟩ := L_fail1 (f := 4) a3.1 a3.2.2.2.1 (by decide) (by decide)
          rw [if_pos rfl, if_pos rfl]
          rw [show zcall 34 [zA 0 0 4, zI 1, zI 4] τ = _ from f1, zbV_some, L_takeF f3.2.1, zbV_some, L_feu8F f3.2.1]
          exact ⟨_, τ2, rfl, zKp_t a2 f2, f3⟩
        | false =>
          rw [if_neg Bool.false_ne_true, if_neg Bool.false_ne_true, L_fail0, zbV_some]
          obtain ⟨τ2, c1, c2, c3⟩ := L_takeC (zTpB_k a2 h) a3.1 hw.2.2.1 a3.2.1
          rw [c1, zbV_some]
          have k2 := zKp_t a2 c2
          cases hz2 : ztok b T t.2.2.1 with
          | inl f =>
            rw [hz2] at c3
            rw [L_feu8F c3.2.1]
            exact ⟨_, τ2, rfl, k2, c3⟩
          | inr t2 =>
            rw [hz2] at c3
            have hp4 := (zpop4 m hm).2 q (by omega) hd
            obtain ⟨v, υ, u1, u2, u3⟩ := L_feu8 n (m ||| 1 <<< q) t2 τ2 (zTpB_k k2 h) c3 (ztok_w hw.2.2.1 hb hz2) hp4.2 (by omega)
            rw [nI_1, show 5 - (n + 1) + 1 = 5 - n by omega]
            exact ⟨v, υ, u1, zKp_t k2 u2, u3⟩
theorem L_feu {b : Nat → Nat} {T i : Nat} {σ : ZS} (h : zTpB σ b T) (h0 : σ 0 0 4 3 = 0) (hi' : i ≤ T) (e : σ 0 0 4 5 = nI i) : ∃ v τ, zcall 43 [zA 0 0 4] σ = some (zI v, τ) ∧ zKp σ τ ∧ zFR τ v (zbn (ztok b T i) fun t => zfeu b T 5 t 0) := by
  obtain ⟨τ, t1, t2, t3⟩ := L_takeC h h0 hi' e
  rw [E_Reader_takeFeuds, t1, zbV_some]
  cases hz : ztok b T i with
  | inl q =>
    rw [hz] at t3
    rw [L_feu8F t3.2.1]
    exact ⟨_, τ, rfl, t2, t3⟩
  | inr t =>
    rw [hz] at t3
    obtain ⟨v, υ, u1, u2, u3⟩ := L_feu8 5 0 t τ (zTpB_k t2 h) t3 (ztok_w hi' (fun j hj => (h.2.2 j hj).2) hz) (by decide) (by decide)
    exact ⟨v, υ, u1, zKp_t t2 u2, u3⟩
theorem L_feuF {σ : ZS} (h : ¬ σ 0 0 4 3 = 0) : zcall 43 [zA 0 0 4] σ = some (zI 0, σ) := by
  rw [E_Reader_takeFeuds, L_takeF h, zbV_some, L_feu8F h]
theorem zfeu_w {b : Nat → Nat} {T : Nat} (hb : ∀ i, i < T → b i < 128) {p : Nat × ZTok} : ∀ (n m : Nat) (t : ZTok), ztokW T t → m < 16 → zfeu b T n t m = .inr p → ztokW T p.2 ∧ p.2.1 = 3 ∧ p.1 < 16
  | 0, m, t, _, _, h => by cases h
  | n + 1, m, t, hw, hm, h => by
    unfold zfeu at h
    by_cases c : t.1 = 3
    · rw [if_pos c] at h
      cases h
      exact ⟨hw, c, hm⟩
    · rw [if_neg c] at h
      cases hz : zchk t 0 3 with
      | inl q => rw [hz] at h; cases h
      | inr q =>
        rw [hz] at h
        have h : (if m.testBit q = true then (.inl (4, t.2.1) : ZP (Nat × ZTok)) else zbn (ztok b T t.2.2.1) fun t2 => zfeu b T n t2 (m ||| 1 <<< q)) = .inr p := h
        have hq : q ≤ 3 := by
          unfold zchk at hz
          by_cases c1 : t.1 = 2
          · rw [if_pos c1] at hz
            by_cases c2 : 0 ≤ t.2.2.2 ∧ t.2.2.2 ≤ 3
            · rw [if_pos c2] at hz
              cases hz
              exact c2.2
            · rw [if_neg c2] at hz; cases hz
          · rw [if_neg c1] at hz; cases hz
        by_cases hd : m.testBit q = true
        · rw [if_pos hd] at h; cases h
        · rw [if_neg hd] at h
          cases hz2 : ztok b T t.2.2.1 with
          | inl f => rw [hz2] at h; cases h
          | inr t2 =>
            rw [hz2] at h
            exact zfeu_w hb n (m ||| 1 <<< q) t2 (ztok_w hw.2.2.1 hb hz2) ((zpop4 m hm).2 q (by omega) (Bool.eq_false_iff.mpr hd)).2 h
/-- the draft's PEOPLE and LINES -/
def zCN (S : ZDr) : Prop := dH S 0 3 = nI (dN S) ∧ dN S ≤ 4 ∧ dH S 0 4 = nI (dL S) ∧ dL S ≤ 8
theorem L_addOne {σ : ZS} {N v c f : Nat} {s : Int32} (hN : N < 4) (e : σ 1 2 0 3 = nI N) : ∃ τ, zcall 3 [zA 1 2 0, zI s, zI (nI v), zI (nI c), zI (nI f)] σ = some (zI 0, τ) ∧ zfrm (zHG 2) σ τ ∧ τ 1 2 = zad1 (σ 1 2) N s v c f := by
  have e1 : ∀ (σ : ZS) (j k : Nat) (v : Int32), j ≠ 0 → zup σ 1 2 j k v 1 2 0 = σ 1 2 0 := fun σ j k v h => zup_o (by omega)
  rw [E_House_addOne, e, if_pos (show nI N < 4 from nI_lt (b := 4) hN (by decide)), zck_nI hN (by decide), nI_clamp (by omega)]
  dsimp only
  rw [e1 _ _ _ _ (by decide), e, zck_nI hN (by decide), nI_clamp (by omega), e1 _ _ _ _ (by decide), e1 _ _ _ _ (by decide), e, zck_nI hN (by decide), nI_clamp (by omega), e1 _ _ _ _ (by decide), e1 _ _ _ _ (by decide), e1 _ _ _ _ (by decide), e, zck_nI hN (by decide), nI_clamp (by omega), e1 _ _ _ _ (by decide), e1 _ _ _ _ (by decide), e1 _ _ _ _ (by decide), e1 _ _ _ _ (by decide), e, nI_1]
  refine ⟨_, rfl, zfrm_up (zfrm_up (zfrm_up (zfrm_up (zfrm_up zfrm_r ⟨rfl, rfl⟩) ⟨rfl, rfl⟩) ⟨rfl, rfl⟩) ⟨rfl, rfl⟩) ⟨rfl, rfl⟩, ?_⟩
  rw [zup_h, zup_h, zup_h, zup_h, zup_h]
  rfl
theorem L_addLine {σ : ZS} {L k : Nat} {op : Bool} (hL : L < 8) (e : σ 1 2 0 4 = nI L) : ∃ τ, zcall 4 [zA 1 2 0, zI (nI k), zI (zb op)] σ = some (zI 0, τ) ∧ zfrm (zHG 2) σ τ ∧ τ 1 2 = zadl (σ 1 2) L k op := by
  have e1 : ∀ (σ : ZS) (j k : Nat) (v : Int32), j ≠ 0 → zup σ 1 2 j k v 1 2 0 = σ 1 2 0 := fun σ j k v h => zup_o (by omega)
  rw [E_House_addLine, e, if_pos (show nI L < 8 from nI_lt (b := 8) hL (by decide)), zck_nI hL (by decide), nI_clamp (by omega)]
  dsimp only
  rw [e1 _ _ _ _ (by decide), e, E_House_setOpening, e1 _ _ _ _ (by decide)]
  have e4 : ∀ v, zup (zup σ 1 2 8 L (nI k)) 1 2 0 5 v 1 2 0 4 = nI L := fun v => by rw [zup_m, zru_o (by decide), e1 _ _ _ _ (by decide), e]
  have fin : ∀ v, v = zopn (σ 1 2) L op → ∃ τ, some ((zI 0 : ZV), zup (zup (zup σ 1 2 8 L (nI k)) 1 2 0 5 v) 1 2 0 4 (nI (L + 1))) = some (zI 0, τ) ∧ zfrm (zHG 2) σ τ ∧ τ 1 2 = zadl (σ 1 2) L k op := by
    intro v hv
    refine ⟨_, rfl, zfrm_up (zfrm_up (zfrm_up zfrm_r ⟨rfl, rfl⟩) ⟨rfl, rfl⟩) ⟨rfl, rfl⟩, ?_⟩
    rw [zup_h, zup_h, zup_h, hv]
    rfl
  cases op with
  | true =>
    rw [if_neg (show ¬ zb true = 0 by decide)]
    dsimp only
    rw [zbV_some, e4, nI_1]
    exact fin _ (if_pos (Or.inl rfl)).symm
  | false =>
    rw [if_pos (show zb false = 0 from rfl)]
    by_cases c : L = 0
    · rw [if_pos (show nI L = 0 by rw [c]; rfl)]
      dsimp only
      rw [zbV_some, e4, nI_1]
      exact fin _ (if_pos (Or.inr c)).symm
    · rw [if_neg (show ¬ nI L = 0 from nI_ne0 (by omega) (by omega))]
      dsimp only
      rw [zbV_some, e4, nI_1]
      exact fin _ (if_neg (fun z => z.elim (fun z => Bool.false_ne_true z) c)).symm
theorem L_tell59F {σ : ZS} (h : ¬ σ 0 0 4 3 = 0) (x : Int32) : zev 42 59 [(0, zA 0 0 4), (2, zI x)] [] σ = some (zI 0, σ) := by
  rw [E_Reader_tellOne_59, L_numF h, zbI_some, L_numF h, zbI_some, L_feuF h, zbI_some, if_neg h]
theorem L_tell59 {b : Nat → Nat} {T i z : Nat} {S : ZDr} {s : Int32} {σ : ZS} (h : zTpB σ b T) (h0 : σ 0 0 4 3 = 0) (hi' : i ≤ T) (e : σ 0 0 4 5 = nI i) (hS : zCS σ S) (hN : dN S < 4) (hC : zCN S) : ∃ τ, zev 42 59 [(0, zA 0 0 4), (2, zI s)] [] σ = some (zI 0, τ) ∧ zKr σ τ ∧ zLR τ (zlOne2 b T i S s z) := by
  have hb := fun j hj => (h.2.2 j hj).2
  obtain ⟨v, τ, a1, a2, a3⟩ := L_num (lo := 0) (hi := 5) h h0 hi' e (by decide) (by decide)
  rw [E_Reader_tellOne_59]
  rw [show zcall 38 [zA 0 0 4, zI 0, zI 5] σ = _ from a1, zbI_some]
  unfold zlOne2
  cases hz : znum b T i 0 5 with
  | inl q =>
    rw [hz] at a3
    obtain ⟨a3, -⟩ := a3
    rw [L_numF a3.2.1, zbI_some, L_feuF a3.2.1, zbI_some, if_neg a3.2.1]
    exact ⟨τ, rfl, zKr_p a2, a3⟩
  | inr p =>
    rw [hz] at a3
    obtain ⟨a3, rfl⟩ := a3
    have w1 := znum_w hi' hb hz
    obtain ⟨v2, τ2, c1, c2, c3⟩ := L_num (lo := 0) (hi := 9) (zTpB_k a2 h) a3.1 w1.1.2.2.1 a3.2.1 (by decide) (by decide)
    rw [show zcall 38 [zA 0 0 4, zI 0, zI 9] τ = _ from c1, zbI_some]
    show ∃ τ', _ ∧ _ ∧ zLR τ' (zbn (znum b T p.2.2.2.1 0 9) _)
    have k2 := zKp_t a2 c2
    cases hz2 : znum b T p.2.2.2.1 0 9 with
    | inl q =>
      rw [hz2] at c3
      obtain ⟨c3, -⟩ := c3
      rw [L_feuF c3.2.1, zbI_some, if_neg c3.2.1]
      exact ⟨τ2, rfl, zKr_p k2, c3⟩
    | inr q =>
      rw [hz2] at c3
      obtain ⟨c3, rfl⟩ := c3
      have w2 := znum_w w1.1.2.2.1 hb hz2
      obtain ⟨v3, τ3, e1, e2, e3⟩ := L_feu (zTpB_k k2 h) c3.1 w2.1.2.2.1 c3.2.1
      rw [e1, zbI_some]
      have k3 := zKp_t k2 e2
      show ∃ τ', _ ∧ _ ∧ zLR τ' (zbn (ztok b T q.2.2.2.1) fun t => zbn (zfeu b T 5 t 0) _)
      cases hz3 : ztok b T q.2.2.2.1 with
      | inl f =>
        rw [hz3] at e3
        rw [if_neg (show ¬ τ3 0 0 4 3 = 0 from e3.2.1)]
        exact ⟨τ3, rfl, zKr_p k3, e3⟩
      | inr t =>
        rw [hz3] at e3
        have e5 : zFR τ3 v3 (zfeu b T 5 t 0) := e3
        clear e3
        show ∃ τ', _ ∧ _ ∧ zLR τ' (zbn (zfeu b T 5 t 0) _)
        cases hz4 : zfeu b T 5 t 0 with
        | inl f =>
          rw [hz4] at e5
          rw [if_neg (show ¬ τ3 0 0 4 3 = 0 from e5.2.1)]
          exact ⟨τ3, rfl, zKr_p k3, e5⟩
        | inr f =>
          rw [hz4] at e5
          obtain ⟨e5, rfl⟩ := e5
          have hS3 := zCS_k k3 hS
          obtain ⟨τ4, s1, s2, s3⟩ := L_addOne (s := s) (v := p.1) (c := q.1) (f := f.1) hN (show τ3 1 2 0 3 = nI (dN S) by rw [hS3.1]; exact hC.1)
          rw [if_pos e5.1, s1, zbV_some]
          have e4 : τ4 0 0 4 = τ3 0 0 4 := s2 0 0 4 (by simp [zHG])
          refine ⟨τ4, rfl, ⟨zfrm_t (zKr_p k3).1 (zfrm_m (fun _ _ _ h => Or.inr h) s2), by rw [e4]; exact k3.2 2 (by omega), Or.inl (by rw [e4]; exact e5.1)⟩, zTc_h e4 e5, ?_, ?_, ?_, ?_⟩
          · rw [s3, hS3.1]
          · rw [e4]; exact hS3.2.1
          · rw [e4]; exact hS3.2.2.1
          · rw [e4]; exact hS3.2.2.2
theorem L_tellOne {b : Nat → Nat} {T : Nat} {t : ZTok} {S : ZDr} {here : Bool} {σ : ZS} (h : zTpB σ b T) (ht : zTc σ t) (hw : ztokW T t) (hS : zCS σ S) (hC : zCN S) : ∃ τ, zcall 42 [zA 0 0 4, zI (zb here)] σ = some (zI 0, τ) ∧ zKr σ τ ∧ zLR τ (zlOne b T t S here) := by
  obtain ⟨t1, t2, t3, t4, t5⟩ := id ht
  have hb := fun j hj => (h.2.2 j hj).2
  have eN : σ 1 2 0 3 = nI (dN S) := by rw [hS.1]; exact hC.1
  rw [E_Reader_tellOne, eN]
  unfold zlOne
  by_cases c4 : 4 ≤ dN S
  · obtain ⟨τ, f1, f2, f3⟩ := L_fail1 (f := 5) t1 t4 (by decide) (by decide)
    have eN2 : τ 1 2 0 3 = nI (dN S) := by rw [f2.1 1 2 0 (by decide)]; exact eN
    rw [if_neg (show ¬ nI (dN S) < 4 from nI_nlt (b := 4) c4 (by have := hC.2.1; omega)), if_pos c4]
    rw [show zcall 34 [zA 0 0 4, zI 1, zI 5] σ = _ from f1, zbV_some]
    obtain ⟨w, w1, -⟩ := L_whoSits eN2 hC.2.1 0
    rw [L_numF f3.2.1, zbI_some, w1, zbI_some, L_failF f3.2.1, L_failF f3.2.1, zbV_some, L_tell59F f3.2.1, L_tell59F f3.2.1]
    refine ⟨τ, ?_, zKr_p f2, f3⟩
    split
    · rfl
    · split <;> rfl
  · have hN : dN S < 4 := by omega
    rw [if_pos (show nI (dN S) < 4 from nI_lt (b := 4) hN (by decide)), if_neg c4, L_fail0, zbV_some]
    cases here with
    | false =>
      rw [if_pos (show zb false = 0 from rfl), if_neg Bool.false_ne_true]
      exact L_tell59 h t1 hw.2.2.1 t2 hS hN hC
    | true =>
      rw [if_neg (show ¬ zb true = 0 by decide), if_pos rfl]
      obtain ⟨v, τ, a1, a2, a3⟩ := L_num (lo := 0) (hi := 11) h t1 hw.2.2.1 t2 (by decide) (by decide)
      rw [show zcall 38 [zA 0 0 4, zI 0, zI 11] σ = _ from a1, zbI_some]
      have hS1 := zCS_k a2 hS
      have eN2 : τ 1 2 0 3 = nI (dN S) := by rw [hS1.1]; exact hC.1
      obtain ⟨w, w1, w2⟩ := L_whoSits eN2 hC.2.1 v
      rw [w1, zbI_some]
      cases hz : znum b T t.2.2.1 0 11 with
      | inl q =>
        rw [hz] at a3
        obtain ⟨a3, -⟩ := a3
        rw [L_failF a3.2.1, L_failF a3.2.1, zbV_some, L_tell59F a3.2.1]
        refine ⟨τ, ?_, zKr_p a2, a3⟩
        split <;> rfl
      | inr p =>
        rw [hz] at a3
        obtain ⟨a3, rfl⟩ := a3
        have z1 := znum_w hw.2.2.1 hb hz
        show ∃ τ', _ ∧ _ ∧ zLR τ' (if zoc (dH S) p.1 (dN S) = true then .inl (4, p.2.2.1) else zlOne2 b T p.2.2.2.1 S (nI p.1) (zmx (dz S) (p.1 + 1)))
        rw [hS1.1] at w2
        by_cases ho : zoc (dH S) p.1 (dN S) = true
        · have hne : ¬ w = -4 := by
            rcases w2 with ⟨-, w3⟩ | ⟨q, hq, rfl, -⟩
            · obtain ⟨q, hq, e⟩ := (zoc_t _).mp ho
              exact absurd e (w3 q hq)
            · exact nI_ne4 (by omega)
          obtain ⟨τ2, f1, f2, f3⟩ := L_fail1 (f := 4) a3.1 a3.2.2.2.1 (by decide) (by decide)
          rw [if_neg hne, if_pos ho]
          rw [show zcall 34 [zA 0 0 4, zI 1, zI 4] τ = _ from f1, zbV_some, L_tell59F f3.2.1]
          exact ⟨τ2, rfl, zKr_p (zKp_t a2 f2), f3⟩
        · have heq : w = -4 := by
            rcases w2 with ⟨e, -⟩ | ⟨q, hq, -, e⟩
            · exact e
            · exact absurd ((zoc_t _).mpr ⟨q, hq, e⟩) ho
          rw [if_pos heq, if_neg ho, L_fail0, zbV_some]
          obtain ⟨τ2, u1, u2, u3⟩ := L_tell59 (s := nI p.1) (z := zmx (dz S) (p.1 + 1)) (zTpB_k a2 h) a3.1 z1.1.2.2.1 a3.2.1 hS1 hN hC
          exact ⟨τ2, u1, zKr_t a2 u2, u3⟩
theorem L_tellSpoken {b : Nat → Nat} {T : Nat} {t : ZTok} {S : ZDr} {op : Bool} {σ : ZS} (h : zTpB σ b T) (ht : zTc σ t) (hw : ztokW T t) (hS : zCS σ S) (hC : zCN S) : ∃ τ, zcall 44 [zA 0 0 4, zI (zb op)] σ = some (zI 0, τ) ∧ zKr σ τ ∧ zLR τ (zlLine b T t S op) := by
  obtain ⟨t1, t2, t3, t4, t5⟩ := id ht
  have hb := fun j hj => (h.2.2 j hj).2
  have eL : σ 1 2 0 4 = nI (dL S) := by rw [hS.1]; exact hC.2.2.1
  rw [E_Reader_tellSpoken, eL]
  unfold zlLine
  by_cases c8 : 8 ≤ dL S
  · obtain ⟨τ, f1, f2, f3⟩ := L_fail1 (f := 5) t1 t4 (by decide) (by decide)
    rw [if_neg (show ¬ nI (dL S) < 8 from nI_nlt (b := 8) c8 (by have := hC.2.2.2; omega)), if_pos c8]
    rw [show zcall 34 [zA 0 0 4, zI 1, zI 5] σ = _ from f1, zbV_some, L_numF f3.2.1, zbI_some, L_sgnF f3.2.1, zbV_some, if_neg f3.2.1]
    exact ⟨τ, rfl, zKr_p f2, f3⟩
  · have hL : dL S < 8 := by omega
    rw [if_pos (show nI (dL S) < 8 from nI_lt (b := 8) hL (by decide)), if_neg c8, L_fail0, zbV_some]
    obtain ⟨v, τ, a1, a2, a3⟩ := L_num (lo := 0) (hi := 5) h t1 hw.2.2.1 t2 (by decide) (by decide)
    rw [show zcall 38 [zA 0 0 4, zI 0, zI 5] σ = _ from a1, zbI_some]
    cases hz : znum b T t.2.2.1 0 5 with
    | inl q =>
      rw [hz] at a3
      obtain ⟨a3, -⟩ := a3
      rw [L_sgnF a3.2.1, zbV_some, if_neg a3.2.1]
      exact ⟨τ, rfl, zKr_p a2, a3⟩
    | inr p =>
      rw [hz] at a3
      obtain ⟨a3, rfl⟩ := a3
      have w1 := znum_w hw.2.2.1 hb hz
      obtain ⟨τ3, e1, e2, e3⟩ := L_sgn (zTpB_k a2 h) a3.1 w1.1.2.2.1 a3.2.1
      rw [e1, zbV_some]
      show ∃ τ', _ ∧ _ ∧ zLR τ' (zbn (zsgn b T p.2.2.2.1) _)
      have k3 := zKp_t a2 e2
      cases hz3 : zsgn b T p.2.2.2.1 with
      | inl f =>
        rw [hz3] at e3
        rw [if_neg e3.2.1]
        exact ⟨τ3, rfl, zKr_p k3, e3⟩
      | inr g =>
        rw [hz3] at e3
        have hS3 := zCS_k k3 hS
        obtain ⟨τ4, s1, s2, s3⟩ := L_addLine (k := p.1) (op := op) hL (show τ3 1 2 0 4 = nI (dL S) by rw [hS3.1]; exact hC.2.2.1)
        rw [if_pos e3.1, s1, zbV_some]
        have e4 : τ4 0 0 4 = τ3 0 0 4 := s2 0 0 4 (by simp [zHG])
        refine ⟨τ4, rfl, ⟨zfrm_t (zKr_p k3).1 (zfrm_m (fun _ _ _ h => Or.inr h) s2), by rw [e4]; exact k3.2 2 (by omega), Or.inl (by rw [e4]; exact e3.1)⟩, zTc_h e4 e3, ?_, ?_, ?_, ?_⟩
        · rw [s3, hS3.1]
        · rw [e4]; exact hS3.2.1
        · rw [e4]; exact hS3.2.2.1
        · rw [e4]; exact hS3.2.2.2
theorem L_tellLine {b : Nat → Nat} {T : Nat} {t : ZTok} {S : ZDr} {σ : ZS} (h : zTpB σ b T) (k : zKs σ) (ht : zTc σ t) (hw : ztokW T t) (hS : zCS σ S) (hC : zCN S) : ∃ τ, zcall 35 [zA 0 0 4] σ = some (zI 0, τ) ∧ zKr σ τ ∧ zLR τ (zline b T t S) := by
  obtain ⟨t1, t2, t3, t4, t5⟩ := id ht
  rw [E_Reader_tellLine]
  simp only [L_isName h k (show 0 < 7 by decide) ht hw, L_isName h k (show 1 < 7 by decide) ht hw, L_isName h k (show 2 < 7 by decide) ht hw, L_isName h k (show 3 < 7 by decide) ht hw, L_isName h k (show 4 < 7 by decide) ht hw, L_isName h k (show 5 < 7 by decide) ht hw, L_isName h k (show 6 < 7 by decide) ht hw, zbI_some, zif_b]
  unfold zline
  by_cases c0 : zis b t 0 = true
  · rw [if_pos c0, if_pos c0]
    obtain ⟨τ, a1, a2⟩ := L_tellHouse h ht hw hS
    exact ⟨τ, by rw [a1, zbV_some], a2⟩
  · rw [if_neg c0, if_neg c0]
    by_cases c1 : zis b t 1 = true
    · rw [if_pos c1, if_pos c1]
      obtain ⟨τ, a1, a2⟩ := L_tellPart h ht hw hS
      exact ⟨τ, by rw [a1, zbV_some], a2⟩
    · rw [if_neg c1, if_neg c1]
      by_cases c2 : zis b t 2 = true
      · rw [if_pos c2, if_pos c2]
        obtain ⟨τ, a1, a2⟩ := L_tellOne (here := true) h ht hw hS hC
        exact ⟨τ, by rw [show zcall 42 [zA 0 0 4, zI 1] σ = _ from a1, zbV_some], a2⟩
      · rw [if_neg c2, if_neg c2]
        by_cases c3 : zis b t 3 = true
        · rw [if_pos c3, if_pos c3]
          obtain ⟨τ, a1, a2⟩ := L_tellOne (here := false) h ht hw hS hC
          exact ⟨τ, by rw [show zcall 42 [zA 0 0 4, zI 0] σ = _ from a1, zbV_some], a2⟩
        · rw [if_neg c3, if_neg c3]
          by_cases c4 : zis b t 4 = true
          · rw [if_pos c4, if_pos c4]
            obtain ⟨τ, a1, a2⟩ := L_tellSpoken (op := false) h ht hw hS hC
            exact ⟨τ, by rw [show zcall 44 [zA 0 0 4, zI 0] σ = _ from a1, zbV_some], a2⟩
          · rw [if_neg c4, if_neg c4]
            by_cases c5 : zis b t 5 = true
            · rw [if_pos c5, if_pos c5]
              obtain ⟨τ, a1, a2⟩ := L_tellSpoken (op := true) h ht hw hS hC
              exact ⟨τ, by rw [show zcall 44 [zA 0 0 4, zI 1] σ = _ from a1, zbV_some], a2⟩
            · rw [if_neg c5, if_neg c5]
              by_cases c6 : zis b t 6 = true
              · rw [if_pos c6, if_pos c6]
                obtain ⟨τ, a1, a2⟩ := L_tellSoft h ht hw hS
                exact ⟨τ, by rw [a1, zbV_some], a2⟩
              · rw [if_neg c6, if_neg c6]
                obtain ⟨τ, f1, f2, f3⟩ := L_fail1 (f := 2) t1 t4 (by decide) (by decide)
                exact ⟨τ, by rw [show zcall 34 [zA 0 0 4, zI 1, zI 2] σ = _ from f1, zbV_some], zKr_p f2, f3⟩
