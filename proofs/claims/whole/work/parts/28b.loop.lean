/-! text: all lines, on both sides -/
def dM (S : ZDr) : Nat := (dH S 0 0).toNatClampNeg * (dH S 0 1).toNatClampNeg
def zlp (b : Nat → Nat) (T : Nat) : Nat → ZDr → Nat → ZP ZTok → ZP (ZDr × Nat)
  | 0, _, _, _ => .inl (0, 0)
  | d + 1, S, c, r => zbn r fun t => if t.1 = 0 then (if dz S ≤ dM S ∧ do1 S ≤ dN S then .inr (S, c) else .inl (6, t.2.1)) else zbn (zline b T t S) fun p => zlp b T d p.1 (c + 1) (ztok b T p.2.2.2.1)
theorem zDI_M {S : ZDr} (h : zDI S) : ∃ R P, (1 ≤ R ∧ R ≤ 3 ∧ 2 ≤ P ∧ P ≤ 4) ∧ dH S 0 0 = nI R ∧ dH S 0 1 = nI P ∧ dM S = R * P ∧ R * P ≤ 12 := by
  obtain ⟨R, P, r1, r2, r3, -⟩ := h.1
  refine ⟨R, P, r1, r2, r3, ?_, zRP12 r1.2.1 r1.2.2.2⟩
  unfold dM
  rw [r2, r3, nI_clamp (by omega), nI_clamp (by omega)]
/-! what lies beyond the house -/
theorem zsh0' : ∀ a, a < 16 → ∀ b, b < 256 → ∀ s, s < 13 → (nI (256 * a + b) >>> (nI s &&& 31) = 0 ↔ 256 * a + b < 2 ^ s) := by decide +kernel
theorem zsh0 (n : Nat) (h : n < 4096) (s : Nat) (hs : s < 13) : nI n >>> (nI s &&& 31) = 0 ↔ n < 2 ^ s := by
  have := zsh0' (n / 256) (by omega) (n % 256) (by omega) s hs
  rw [show 256 * (n / 256) + n % 256 = n by omega] at this
  exact this
theorem zsf0 : ∀ f, f < 16 → ∀ n, n < 5 → (nI f >>> (nI n &&& 31) = 0 ↔ zhib f ≤ n) := by decide
theorem zlt_tb {n s : Nat} : n < 2 ^ s ↔ ∀ j, n.testBit j = true → j < s := by
  constructor
  · intro h j hj
    refine Nat.lt_of_not_le fun hle => ?_
    rw [Nat.testBit_lt_two_pow (Nat.lt_of_lt_of_le h (Nat.pow_le_pow_right (by omega) hle))] at hj
    exact absurd hj (by decide)
  · intro h
    refine Nat.lt_pow_two_of_testBit n fun j hj => ?_
    cases c : n.testBit j with
    | false => rfl
    | true => exact absurd (h j c) (by omega)
theorem L_bey19 {σ : ZS} {N : Nat} (hN : N ≤ 4) (e : σ 1 2 0 3 = nI N) : ∀ d p : Nat, p + d = N → ∃ v, zev 46 19 [(0, zA 0 0 4), (1, zI (nI p))] [] σ = some (zI v, σ)
  | 0, p, hp => ⟨0, by rw [E_Reader_isBeyondHouse_19, e, if_neg (nI_nlt (by omega) (by omega))]⟩
  | d + 1, p, hp => by
    obtain ⟨v, hv⟩ := L_bey19 hN e d (p + 1) (by omega)
    rw [E_Reader_isBeyondHouse_19, e, if_pos (nI_lt (by omega) (by omega)), zck_nI (by omega) (by decide), E_House_seats, zbI_some, zck_nI (by omega) (by decide), nI_1, hv]
    split
    · split
      · exact ⟨v, rfl⟩
      · exact ⟨1, rfl⟩
    · exact ⟨1, rfl⟩
theorem L_beyA {σ : ZS} {N : Nat} (hN : N ≤ 4) (e : σ 1 2 0 3 = nI N) : ∃ v, zcall 46 [zA 0 0 4] σ = some (zI v, σ) := by
  obtain ⟨v, hv⟩ := L_bey19 hN e N 0 (by omega)
  rw [E_Reader_isBeyondHouse, E_House_seats, zbI_some]
  rw [show zev 46 19 [(0, zA 0 0 4), (1, zI 0)] [] σ = _ from hv]
  split
  · exact ⟨v, rfl⟩
  · exact ⟨1, rfl⟩
def zbqq (S : ZDr) (M p : Nat) : Bool := decide (dH S 4 p < nI M) && decide (dH S 7 p >>> (nI (dN S) &&& 31) = 0)
theorem L_bey19S {σ : ZS} {S : ZDr} {M : Nat} (h : σ 1 2 = dH S) (hC : zCN S) (hM : σ 1 2 0 0 * σ 1 2 0 1 = nI M) : ∀ d p : Nat, p + d = dN S → (∀ q, q < p → zbqq S M q = true) → ∃ v, zev 46 19 [(0, zA 0 0 4), (1, zI (nI p))] [] σ = some (zI (zb v), σ) ∧ (v = false ↔ ∀ q, q < dN S → zbqq S M q = true)
  | 0, p, hp, hq => by
    have h4 := hC.2.1
    refine ⟨false, ?_, fun _ q hqq => hq q (by omega), fun _ => rfl⟩
    rw [E_Reader_isBeyondHouse_19, h, hC.1, if_neg (nI_nlt (by omega) (by omega))]
    rfl
  | d + 1, p, hp, hq => by
    have h4 := hC.2.1
    rw [E_Reader_isBeyondHouse_19, h, hC.1, if_pos (nI_lt (by omega) (by omega)), zck_nI (by omega) (by decide), E_House_seats, zbI_some, zck_nI (by omega) (by decide), hM, nI_clamp (by omega), h, nI_1]
    have no : zbqq S M p = false → ∃ v, some ((zI 1 : ZV), σ) = some (zI (zb v), σ) ∧ (v = false ↔ ∀ q, q < dN S → zbqq S M q = true) := fun hz => ⟨true, rfl, fun z => absurd z (by decide), fun z => by
      rw [z p (by omega)] at hz
      exact absurd hz (by decide)⟩
    rw [hC.1]
    by_cases c1 : dH S 4 p < nI M
    · rw [if_pos c1]
      by_cases c2 : dH S 7 p >>> (nI (dN S) &&& 31) = 0
      · rw [if_pos c2]
        refine L_bey19S h hC hM d (p + 1) (by omega) (fun q hqq => ?_)
        by_cases e : q = p
        · rw [e]
          unfold zbqq
          rw [decide_eq_true c1, decide_eq_true c2]
          rfl
        · exact hq q (by omega)
      · rw [if_neg c2]
        exact no (by unfold zbqq; rw [decide_eq_false c2, Bool.and_false])
    · rw [if_neg c1]
      exact no (by unfold zbqq; rw [decide_eq_false c1, Bool.false_and])
theorem L_beyS {σ : ZS} {S : ZDr} (hS : zCS σ S) (hD : zDI S) : ∃ v, zcall 46 [zA 0 0 4] σ = some (zI (zb v), σ) ∧ (v = false ↔ dz S ≤ dM S ∧ do1 S ≤ dN S) := by
  obtain ⟨R, P, r1, r2, r3, r4, r5⟩ := zDI_M hD
  have hC := hD.2.2.1
  have m1 : σ 1 2 0 0 * σ 1 2 0 1 = nI (dM S) := by rw [hS.1, r2, r3, pk_mul, r4]
  obtain ⟨v, v1, v2⟩ := L_bey19S hS.1 hC m1 (dN S) 0 (by omega) (fun q hq => absurd hq (Nat.not_lt_zero _))
  obtain ⟨⟨h9, h9b⟩, h9c, h9d⟩ := hD.2.2.2.2.2.2.2.2.1
  obtain ⟨h10, h11⟩ := hD.2.2.2.2.2.2.2.2.2
  have h6 := hD.2.2.2.2.2.1.1
  have h7 := hD.2.2.2.2.2.2.1
  have key : ((dp S < 2 ^ dM S) ∧ ∀ q, q < dN S → zbqq S (dM S) q = true) ↔ dz S ≤ dM S ∧ do1 S ≤ dN S := by
    constructor
    · rintro ⟨k1, k2⟩
      have k2' : ∀ q, q < dN S → dH S 4 q < nI (dM S) ∧ dH S 7 q >>> (nI (dN S) &&& 31) = 0 := fun q hq => by
        have := k2 q hq
        unfold zbqq at this
        rw [Bool.and_eq_true, decide_eq_true_iff, decide_eq_true_iff] at this
        exact this
      constructor
      · rcases h10 with e | ⟨s, e1, e2 | ⟨p, p1, p2⟩⟩
        · omega
        · have := zlt_tb.mp k1 s e2
          omega
        · have := (k2' p p1).1
          rw [p2, nI_ltI (by omega) (by omega)] at this
          omega
      · rcases h11 with e | ⟨p, f, p1, p2, p3, p4⟩
        · omega
        · have := (k2' p p1).2
          rw [p3, zsf0 f p2 _ (by have := hC.2.1; omega)] at this
          omega
    · rintro ⟨k1, k2⟩
      refine ⟨zlt_tb.mpr fun j hj => by have := h9b j hj; omega, fun q hq => ?_⟩
      unfold zbqq
      have g1 : dH S 4 q < nI (dM S) := by
        rcases h6 q hq with e | ⟨s, s1, e⟩
        · rw [e]; exact nI_m4 _ (by omega)
        · rw [e]; exact nI_lt (by omega) (by omega)
      have g2 : dH S 7 q >>> (nI (dN S) &&& 31) = 0 := by
        obtain ⟨-, -, f, f1, f2, f3⟩ := h7 q hq
        rw [f3, zsf0 f f1 _ (by have := hC.2.1; omega)]
        omega
      rw [decide_eq_true g1, decide_eq_true g2]
      rfl
  rw [E_Reader_isBeyondHouse, E_House_seats, zbI_some, m1, hS.2.2.2]
  by_cases c : nI (dp S) >>> (nI (dM S) &&& 31) = 0
  · have c2 := (zsh0 (dp S) h9 (dM S) (by omega)).mp c
    rw [if_pos c]
    exact ⟨v, v1, v2.trans ⟨fun z => key.mp ⟨c2, z⟩, fun z => (key.mpr z).2⟩⟩
  · rw [if_neg c]
    exact ⟨true, rfl, fun z => absurd z (by decide), fun z => absurd ((zsh0 (dp S) h9 (dM S) (by omega)).mpr (key.mpr z).1) c⟩
/-- the end of the class's reading -/
def zEC (τ : ZS) (r : ZP (ZDr × Nat)) : Prop := match r with
  | .inl q => zFc τ q
  | .inr p => τ 0 0 4 3 = 0 ∧ τ 1 2 = dH p.1 ∧ zDI p.1 ∧ τ 0 0 4 2 = nI p.2 ∧ dz p.1 ≤ dM p.1 ∧ do1 p.1 ≤ dN p.1
theorem L_tail48 (σ : ZS) (x : Int32) (hx : ¬ (x < 160 ∧ σ 0 0 4 3 = 0 ∧ ¬ σ 0 0 4 6 = 0)) : zev 30 48 [(0, zA 0 0 4), (1, zI x)] [] σ = zbI (zcall 46 [zA 0 0 4] σ) (fun x31 σ30 => zbV (zcall 34 [zA 0 0 4, zI x31, zI 6] σ30) (fun σ32 => some (zI 0, σ32))) := by
  rw [E_Reader_tellAll_48]
  by_cases c1 : x < 160
  · rw [if_pos c1]
    by_cases c2 : σ 0 0 4 3 = 0
    · rw [if_pos c2, if_pos (Decidable.byContradiction fun z => hx ⟨c1, c2, z⟩)]
    · rw [if_neg c2]
  · rw [if_neg c1]
theorem ztok_T (b : Nat → Nat) (T : Nat) : ztok b T T = .inr (0, T, T, 0) := by
  unfold ztok
  rw [Nat.sub_self]
  show ztokAt b T T = _
  unfold ztokAt
  rw [if_pos (Nat.le_refl _)]
theorem L_tell48 {b : Nat → Nat} {T : Nat} : ∀ (d n i : Nat) (S : ZDr) (c : Nat) (r : ZP ZTok) (σ : ZS), n + d = 161 → n ≤ i → i ≤ T → (∀ t, r = .inr t → ztok b T i = .inr t) → zTR σ r → σ 1 2 = dH S → (∀ t, r = .inr t → zCS σ S) → zDI S → zTpB σ b T → zKs σ → σ 0 0 4 2 = nI c →
    ∃ τ, zev 30 48 [(0, zA 0 0 4), (1, zI (nI n))] [] σ = some (zI 0, τ) ∧ zfrm zRX σ τ ∧ zEC τ (zlp b T d S c r)
  | 0, n, i, S, c, r, σ, hn, hni, hiT, hr, hR, h12, hC, hD, h, k, e2 => by
    have := h.2.1
    omega
  | d + 1, n, i, S, c, r, σ, hn, hni, hiT, hr, hR, h12, hC, hD, h, k, e2 => by
    have hT := h.2.1
    have hb := fun j hj => (h.2.2 j hj).2
    have eN : σ 1 2 0 3 = nI (dN S) := by rw [h12]; exact hD.2.2.1.1
    obtain ⟨v, hv⟩ := L_beyA hD.2.2.1.2.1 eN
    cases r with
    | inl q =>
      have hR : zFc σ q := hR
      rw [L_tail48 σ _ (fun z => hR.2.1 z.2.1), hv, zbI_some, L_failF hR.2.1, zbV_some]
      exact ⟨σ, rfl, zfrm_r, hR⟩
    | inr t =>
      have hR : zTc σ t := hR
      have hw := ztok_w hiT hb (hr t rfl)
      have hg := ztok_ge hiT (hr t rfl)
      have hS := hC t rfl
      show ∃ τ, _ ∧ _ ∧ zEC τ (if t.1 = 0 then (if dz S ≤ dM S ∧ do1 S ≤ dN S then .inr (S, c) else .inl (6, t.2.1)) else zbn (zline b T t S) _)
      by_cases c0 : t.1 = 0
      · obtain ⟨w, w1, w2⟩ := L_beyS hS hD
        rw [if_pos c0, L_tail48 σ _ (fun z => z.2.2 (by rw [hR.2.2.1, c0]; rfl)), w1, zbI_some]
        cases w with
        | false =>
          rw [if_pos (w2.mp rfl)]
          rw [show zcall 34 [zA 0 0 4, zI (zb false), zI 6] σ = _ from L_fail0 σ 6, zbV_some]
          exact ⟨σ, rfl, zfrm_r, hR.1, h12, hD, e2, w2.mp rfl⟩
        | true =>
          obtain ⟨τ, f1, f2, f3⟩ := L_fail1 (f := 6) hR.1 hR.2.2.2.1 (by decide) (by decide)
          rw [if_neg (fun z => absurd (w2.mpr z) (by decide))]
          rw [show zcall 34 [zA 0 0 4, zI (zb true), zI 6] σ = _ from f1, zbV_some]
          exact ⟨τ, rfl, zfrm_m (fun _ _ _ h => Or.inl h) f2.1, f3⟩
      · have hn160 : n < 160 := by
          refine Nat.lt_of_not_le fun hle => c0 ?_
          have hrt := hr t rfl
          rw [show i = T by omega, ztok_T] at hrt
          cases hrt
          rfl
        have hk0 : ¬ σ 0 0 4 6 = 0 := by rw [hR.2.2.1]; exact nI_ne0 (by omega) (by have := hw.1; omega)
        obtain ⟨τ, a1, a2, a3⟩ := L_tellLine h k hR hw hS hD.2.2.1
        rw [if_neg c0, E_Reader_tellAll_48, if_pos (show nI n < 160 from nI_lt (b := 160) hn160 (by decide)), if_pos hR.1, if_neg hk0, a1, zbV_some]
        dsimp only
        rw [a2.2.1, e2, nI_1, nI_1]
        have ku : zfrm zRX σ (zup τ 0 0 4 2 (nI (c + 1))) := zfrm_up a2.1 (Or.inl ⟨rfl, rfl, rfl⟩)
        have hKs : ∀ υ, zfrm zRX σ υ → zKs υ := fun υ f => by
          unfold zKs
          rw [show υ 6 = σ 6 from funext fun g => funext fun j => f 6 g j (by simp [zRX])]
          exact k
        have hTp : ∀ υ, zfrm zRX σ υ → zTpB υ b T := fun υ f => zTpB_f (f 0 0 5 (by simp [zRX])) (f 0 0 6 (by simp [zRX])) h
        cases hz : zline b T t S with
        | inl q =>
          rw [hz] at a3
          have a3 : zFc τ q := a3
          have f1 : zFc (zup τ 0 0 4 2 (nI (c + 1))) q := by
            unfold zFc
            rw [zup_m, zru_o (by decide), zru_o (by decide)]
            exact a3
          have h12' : zup τ 0 0 4 2 (nI (c + 1)) 1 2 = dH S := by
            rw [show zup τ 0 0 4 2 (nI (c + 1)) 1 2 = τ 1 2 from funext fun j => zup_o (by omega), a2.2.2.resolve_left a3.2.1]
            exact h12
          rw [L_takeF f1.2.1, zbV_some]
          obtain ⟨v2, hv2⟩ := L_beyA (σ := zup τ 0 0 4 2 (nI (c + 1))) hD.2.2.1.2.1 (by rw [h12']; exact hD.2.2.1.1)
          rw [L_tail48 _ _ (fun z => f1.2.1 z.2.1), hv2, zbI_some, L_failF f1.2.1, zbV_some]
          exact ⟨_, rfl, ku, f1⟩
        | inr p =>
          rw [hz] at a3
          obtain ⟨a3, a4⟩ := a3
          obtain ⟨g1, g2, g3, g4⟩ := zline_g hb hw hD hz
          have t2 : zTc (zup τ 0 0 4 2 (nI (c + 1))) p.2 := by
            obtain ⟨q1, q2, q3, q4, q5⟩ := a3
            refine ⟨?_, ?_, ?_, ?_, fun z => ?_⟩
            · rw [zup_m, zru_o (by decide)]; exact q1
            · rw [zup_m, zru_o (by decide)]; exact q2
            · rw [zup_m, zru_o (by decide)]; exact q3
            · rw [zup_m, zru_o (by decide)]; exact q4
            · rw [zup_m, zru_o (by decide)]; exact q5 z
          have s2 : zCS (zup τ 0 0 4 2 (nI (c + 1))) p.1 := by
            obtain ⟨q1, q2, q3, q4⟩ := a4
            refine ⟨(funext fun j => zup_o (by omega)).trans q1, ?_, ?_, ?_⟩
            · rw [zup_m, zru_o (by decide)]; exact q2
            · rw [zup_m, zru_o (by decide)]; exact q3
            · rw [zup_m, zru_o (by decide)]; exact q4
          obtain ⟨υ, u1, u2, u3⟩ := L_takeC (hTp _ ku) t2.1 g2.2.2.1 t2.2.1
          have kv : zfrm zRX σ υ := zfrm_t ku (zfrm_m (fun _ _ _ h => Or.inl h) u2.1)
          have s3 := zCS_k u2 s2
          have hlt := hw.2.2.2.2 c0
          obtain ⟨ω, o1, o2, o3⟩ := L_tell48 d (n + 1) p.2.2.2.1 p.1 (c + 1) (ztok b T p.2.2.2.1) υ (by omega) (by omega) g2.2.2.1 (fun t ht => ht) u3 s3.1 (fun _ _ => s3) g1 (hTp _ kv) (hKs _ kv) (by rw [u2.2 2 (by omega), zup_same])
          rw [u1, zbV_some]
          exact ⟨ω, o1, zfrm_t kv o2, o3⟩
/-- the end of the reference's reading -/
def zEM (τ : ZS) (x : Int32) (r : ZP (ZDr × Nat)) : Prop := match r with
  | .inl q => zFm τ q
  | .inr p => τ 3 0 0 24 = 0 ∧ zRd τ p.1 ∧ x = nI p.2
theorem L_text20 {b : Nat → Nat} {T : Nat} : ∀ (d i : Nat) (S : ZDr) (c : Nat) (r : ZP ZTok) (σ : ZS), T + 1 ≤ i + d → i ≤ T → (∀ t, r = .inr t → ztok b T i = .inr t) → zTRm σ r → (∀ t, r = .inr t → zRd σ S ∧ σ 3 0 0 14 = nI (z14 (dh S) (ds S))) → zDI S → zTpM σ b T →
    ∃ x τ, zev 122 20 [(0, zA 3 0 0), (1, zI (nI c))] [] σ = zev 122 89 [(0, zA 3 0 0), (1, zI x)] [] τ ∧ zKx σ τ ∧ zEM τ x (zlp b T d S c r)
  | 0, i, S, c, r, σ, hd, hiT, _, _, _, _, _ => absurd hd (by omega)
  | d + 1, i, S, c, r, σ, hd, hiT, hr, hR, hS, hD, h => by
    have hb : ∀ j, j < T → b j < 128 := fun j hj => (h.2.2 j hj).2
    have x0 : zKx σ σ := ⟨zfrm_r, fun _ _ => rfl⟩
    cases r with
    | inl q =>
      have hR : zFm σ q := hR
      refine ⟨nI c, σ, ?_, x0, hR⟩
      rw [E_M_text_20, if_neg (zFm_ne hR), if_neg (zFm_ne hR)]
    | inr t =>
      have hR : zTm σ t := hR
      obtain ⟨hS, e14⟩ := hS t rfl
      have hw := ztok_w hiT hb (hr t rfl)
      have hg := ztok_ge hiT (hr t rfl)
      show ∃ x τ, _ ∧ _ ∧ zEM τ x (if t.1 = 0 then (if dz S ≤ dM S ∧ do1 S ≤ dN S then .inr (S, c) else .inl (6, t.2.1)) else zbn (zline b T t S) _)
      by_cases c0 : t.1 = 0
      · obtain ⟨R, P, r1, r2, r3, r4, r5⟩ := zDI_M hD
        have hB := zDI_B hD
        have k1 : σ 3 0 0 16 < σ 3 0 0 9 * σ 3 0 0 10 ↔ dz S ≤ dM S := by
          rw [hS.2.1.2.1, hS.1.1, hS.1.2.1, r2, r3, pk_mul, ← r4, zhI_lt (by omega) (by have := hB.2.2.1; omega)]
          omega
        have k2 : σ 3 0 0 17 < σ 3 0 0 11 ↔ do1 S ≤ dN S := by
          rw [hS.2.1.2.2, hS.1.2.2.1, zhI_lt (by have := hB.1; omega) (by have := hB.2.2.2; omega)]
          omega
        rw [if_pos c0, E_M_text_20, if_pos hR.1, if_pos (show σ 3 0 0 22 = 0 by rw [hR.2.2.1, c0]; rfl), if_pos hR.1]
        have no : ¬ (dz S ≤ dM S ∧ do1 S ≤ dN S) → ∃ x τ, zbV (zcall 125 [zA 3 0 0, zI 0, zI 6] σ) (fun σ26 => zev 122 89 [(0, zA 3 0 0), (1, zI (nI c))] [] σ26) = zev 122 89 [(0, zA 3 0 0), (1, zI x)] [] τ ∧ zKx σ τ ∧ zEM τ x (if dz S ≤ dM S ∧ do1 S ≤ dN S then .inr (S, c) else .inl (6, t.2.1)) := fun hn => by
          obtain ⟨τ, f1, f2, f3⟩ := L_need0 (f := 6) hR.1 hR.2.2.2.1 (by decide) (by decide)
          rw [show zcall 125 [zA 3 0 0, zI 0, zI 6] σ = _ from f1, zbV_some, if_neg hn]
          exact ⟨nI c, τ, rfl, zKx_m f2, f3⟩
        by_cases c1 : dz S ≤ dM S
        · rw [if_pos (k1.mpr c1)]
          by_cases c2 : do1 S ≤ dN S
          · rw [if_pos (k2.mpr c2), L_need1, zbV_some, if_pos ⟨c1, c2⟩]
            exact ⟨nI c, σ, rfl, x0, hR.1, hS, rfl⟩
          · rw [if_neg (fun z => c2 (k2.mp z))]
            exact no (fun z => c2 z.2)
        · rw [if_neg (fun z => c1 (k1.mp z))]
          exact no (fun z => c1 z.1)
      · have hk0 : ¬ σ 3 0 0 22 = 0 := by rw [hR.2.2.1]; exact nI_ne0 (by omega) (by have := hw.1; omega)
        obtain ⟨τ, a1, a2, a3, a4⟩ := L_readLineM h hR hw hS hD e14
        rw [if_neg c0, E_M_text_20, if_pos hR.1, if_neg hk0, a1, zbV_some, nI_1]
        have hlt := hw.2.2.2.2 c0
        cases hz : zline b T t S with
        | inl q =>
          rw [hz] at a3
          have a3 : zFm τ q := a3
          refine ⟨nI (c + 1), τ, ?_, a2, a3⟩
          rw [E_M_text_20, if_neg (zFm_ne a3), if_neg (zFm_ne a3)]
        | inr p =>
          rw [hz] at a3
          obtain ⟨a3, a5⟩ := a3
          obtain ⟨g1, g2, g3, g4⟩ := zline_g hb hw hD hz
          obtain ⟨x, ω, o1, o2, o3⟩ := L_text20 d p.2.2.2.1 p.1 (c + 1) (ztok b T p.2.2.2.1) τ (by omega) g2.2.2.1 (fun t ht => ht) a5 (fun _ _ => ⟨a3, a4 p hz⟩) g1 (zTpM_x a2 h)
          exact ⟨x, ω, o1, zKx_t a2 o2, o3⟩
