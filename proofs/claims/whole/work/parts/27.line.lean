/-! text: a line keeps order; the reference's line -/
theorem zbn_i {α β : Type} {r : ZP α} {k : α → ZP β} {p : β} (h : zbn r k = .inr p) : ∃ a, r = .inr a ∧ k a = .inr p := by
  cases r with
  | inl q => cases h
  | inr a => exact ⟨a, rfl, h⟩
theorem ztok_ge {b : Nat → Nat} {T i : Nat} {t : ZTok} (hi : i ≤ T) (h : ztok b T i = .inr t) : i ≤ t.2.1 := by
  unfold ztok at h
  have hj := (zskp_le b (T - i) i).1
  generalize zskp b (T - i) i = j at *
  unfold ztokAt at h
  by_cases h1 : T ≤ j
  · rw [if_pos h1] at h; cases h; exact hj
  · rw [if_neg h1] at h
    by_cases h2 : b j = 59
    · rw [if_pos h2] at h; cases h; exact hj
    · rw [if_neg h2] at h
      by_cases h3 : 97 ≤ b j ∧ b j ≤ 122
      · rw [if_pos h3] at h; cases h; exact hj
      · rw [if_neg h3] at h
        by_cases h4 : 48 ≤ b j ∧ b j ≤ 57
        · rw [if_pos h4] at h
          by_cases h5 : 2 < zrun1 b 48 57 (T - j) j - j
          · rw [if_pos h5] at h; cases h
          · rw [if_neg h5] at h; cases h; exact hj
        · rw [if_neg h4] at h; cases h
section ZLN
variable {b : Nat → Nat} {T : Nat}
theorem znum_g (hb : ∀ i, i < T → b i < 128) {i lo hi : Nat} {p : Nat × ZTok} (hi' : i ≤ T) (h : znum b T i lo hi = .inr p) : ztokW T p.2 ∧ (lo ≤ p.1 ∧ p.1 ≤ hi) ∧ i ≤ p.2.2.2.1 := by
  obtain ⟨w1, w2⟩ := znum_w hi' hb h
  obtain ⟨t, t1, t2⟩ := zbn_i h
  obtain ⟨v, v1, v2⟩ := zbn_i t2
  cases v2
  have := ztok_ge hi' t1
  exact ⟨w1, w2, Nat.le_trans this w1.2.1⟩
theorem zsgn_g (hb : ∀ i, i < T → b i < 128) {i : Nat} {t : ZTok} (hi' : i ≤ T) (h : zsgn b T i = .inr t) : ztokW T t ∧ t.1 = 3 ∧ i ≤ t.2.2.1 := by
  obtain ⟨w1, w2⟩ := zsgn_w hi' hb h
  obtain ⟨t', t1, t2⟩ := zbn_i h
  by_cases c : t'.1 = 3
  · rw [if_pos c] at t2
    cases t2
    exact ⟨w1, w2, Nat.le_trans (ztok_ge hi' t1) w1.2.1⟩
  · rw [if_neg c] at t2; cases t2
theorem zfeu_g (hb : ∀ i, i < T → b i < 128) {p : Nat × ZTok} : ∀ (n m : Nat) (t : ZTok), ztokW T t → m < 16 → zfeu b T n t m = .inr p → ztokW T p.2 ∧ p.2.1 = 3 ∧ p.1 < 16 ∧ t.2.2.1 ≤ p.2.2.2.1
  | 0, m, t, _, _, h => by cases h
  | n + 1, m, t, hw, hm, h => by
    unfold zfeu at h
    by_cases c : t.1 = 3
    · rw [if_pos c] at h
      cases h
      exact ⟨hw, c, hm, Nat.le_refl _⟩
    · rw [if_neg c] at h
      obtain ⟨q, q1, q2⟩ := zbn_i h
      have hq := zchk_w q1
      by_cases hd : m.testBit q = true
      · rw [if_pos hd] at q2; cases q2
      · rw [if_neg hd] at q2
        obtain ⟨t2, t1, t3⟩ := zbn_i q2
        have w2 := ztok_w hw.2.2.1 hb t1
        obtain ⟨g1, g2, g3, g4⟩ := zfeu_g hb n _ t2 w2 ((zpop4 m hm).2 q (by omega) (Bool.eq_false_iff.mpr hd)).2 t3
        have := ztok_ge hw.2.2.1 t1
        exact ⟨g1, g2, g3, Nat.le_trans (Nat.le_trans this w2.2.1) g4⟩
/-- a line: order is kept, the sign stands behind -/
def zLg (T : Nat) (t : ZTok) (p : ZDr × ZTok) : Prop := zDI p.1 ∧ ztokW T p.2 ∧ p.2.1 = 3 ∧ t.2.2.1 ≤ p.2.2.2.1
theorem zlOne2_g (hb : ∀ i, i < T → b i < 128) {i z : Nat} {t : ZTok} {S : ZDr} {s : Int32} {p : ZDr × ZTok} (hi' : i ≤ T) (hti : t.2.2.1 ≤ i) (hD : zDI S) (hN : dN S < 4) (hs : (s = -4 ∧ z = dz S) ∨ ∃ s', s' < 12 ∧ s = nI s' ∧ z = zmx (dz S) (s' + 1) ∧ zoc (dH S) s' (dN S) = false) (h : zlOne2 b T i S s z = .inr p) : zLg T t p := by
  obtain ⟨p1, e1, h⟩ := zbn_i h
  obtain ⟨w1, v1, g1⟩ := znum_g hb hi' e1
  obtain ⟨p2, e2, h⟩ := zbn_i h
  obtain ⟨w2, v2, g2⟩ := znum_g hb w1.2.2.1 e2
  obtain ⟨t3, e3, h⟩ := zbn_i h
  have w3 := ztok_w w2.2.2.1 hb e3
  have g3 := ztok_ge w2.2.2.1 e3
  obtain ⟨f, e4, h⟩ := zbn_i h
  obtain ⟨w4, k4, v4, g4⟩ := zfeu_g hb 5 0 t3 w3 (by decide) e4
  cases h
  refine ⟨zDI_one hD hN (by omega) (by omega) v4 hs, w4, k4, ?_⟩
  have := w3.2.1
  show t.2.2.1 ≤ f.2.2.2.1
  omega
theorem zline_g (hb : ∀ i, i < T → b i < 128) {t : ZTok} {S : ZDr} {p : ZDr × ZTok} (hw : ztokW T t) (hD : zDI S) (h : zline b T t S = .inr p) : zLg T t p := by
  have hi' := hw.2.2.1
  have one : ∀ here, zlOne b T t S here = .inr p → zLg T t p := by
    intro here h
    unfold zlOne at h
    by_cases c : 4 ≤ dN S
    · rw [if_pos c] at h; cases h
    · rw [if_neg c] at h
      cases here with
      | false =>
        rw [if_neg Bool.false_ne_true] at h
        exact zlOne2_g hb hi' (Nat.le_refl _) hD (by omega) (Or.inl ⟨rfl, rfl⟩) h
      | true =>
        rw [if_pos rfl] at h
        obtain ⟨p1, e1, h⟩ := zbn_i h
        obtain ⟨w1, v1, g1⟩ := znum_g hb hi' e1
        by_cases ho : zoc (dH S) p1.1 (dN S) = true
        · rw [if_pos ho] at h; cases h
        · rw [if_neg ho] at h
          exact zlOne2_g hb w1.2.2.1 g1 hD (by omega) (Or.inr ⟨p1.1, by omega, rfl, rfl, Bool.eq_false_iff.mpr ho⟩) h
  have line : ∀ op, zlLine b T t S op = .inr p → zLg T t p := by
    intro op h
    unfold zlLine at h
    by_cases c : 8 ≤ dL S
    · rw [if_pos c] at h; cases h
    · rw [if_neg c] at h
      obtain ⟨p1, e1, h⟩ := zbn_i h
      obtain ⟨w1, v1, g1⟩ := znum_g hb hi' e1
      obtain ⟨g, e2, h⟩ := zbn_i h
      obtain ⟨w2, k2, g2⟩ := zsgn_g hb w1.2.2.1 e2
      cases h
      exact ⟨zDI_line hD (by omega) (by omega), w2, k2, Nat.le_trans g1 g2⟩
  unfold zline at h
  by_cases c0 : zis b t 0 = true
  · rw [if_pos c0] at h
    unfold zlHouse at h
    by_cases c : dh S = true
    · rw [if_pos c] at h; cases h
    · rw [if_neg c] at h
      obtain ⟨p1, e1, h⟩ := zbn_i h
      obtain ⟨w1, v1, g1⟩ := znum_g hb hi' e1
      obtain ⟨p2, e2, h⟩ := zbn_i h
      obtain ⟨w2, v2, g2⟩ := znum_g hb w1.2.2.1 e2
      obtain ⟨g, e3, h⟩ := zbn_i h
      obtain ⟨w3, k3, g3⟩ := zsgn_g hb w2.2.2.1 e3
      cases h
      exact ⟨zDI_shp hD v1 v2, w3, k3, Nat.le_trans (Nat.le_trans g1 g2) g3⟩
  · rw [if_neg c0] at h
    by_cases c1 : zis b t 1 = true
    · rw [if_pos c1] at h
      obtain ⟨p1, e1, h⟩ := zbn_i h
      obtain ⟨w1, v1, g1⟩ := znum_g hb hi' e1
      by_cases c : (dp S).testBit p1.1 = true
      · rw [if_pos c] at h; cases h
      · rw [if_neg c] at h
        obtain ⟨p2, e2, h⟩ := zbn_i h
        obtain ⟨w2, v2, g2⟩ := znum_g hb w1.2.2.1 e2
        obtain ⟨g, e3, h⟩ := zbn_i h
        obtain ⟨w3, k3, g3⟩ := zsgn_g hb w2.2.2.1 e3
        cases h
        exact ⟨zDI_part hD (by omega) (by omega), w3, k3, Nat.le_trans (Nat.le_trans g1 g2) g3⟩
    · rw [if_neg c1] at h
      by_cases c2 : zis b t 2 = true
      · rw [if_pos c2] at h; exact one true h
      · rw [if_neg c2] at h
        by_cases c3 : zis b t 3 = true
        · rw [if_pos c3] at h; exact one false h
        · rw [if_neg c3] at h
          by_cases c4 : zis b t 4 = true
          · rw [if_pos c4] at h; exact line false h
          · rw [if_neg c4] at h
            by_cases c5 : zis b t 5 = true
            · rw [if_pos c5] at h; exact line true h
            · rw [if_neg c5] at h
              by_cases c6 : zis b t 6 = true
              · rw [if_pos c6] at h
                unfold zlSoft at h
                by_cases c : ds S = true
                · rw [if_pos c] at h; cases h
                · rw [if_neg c] at h
                  obtain ⟨g, e3, h⟩ := zbn_i h
                  obtain ⟨w3, k3, g3⟩ := zsgn_g hb hi' e3
                  cases h
                  exact ⟨zDI_soft hD, w3, k3, g3⟩
              · rw [if_neg c6] at h; cases h
/-- tokens behind a line, as the reference has them -/
theorem zrd_g (hb : ∀ i, i < T → b i < 128) {t : ZTok} {lo hi : Nat} {p : Nat × ZTok} (hw : ztokW T t) (h : zrd b T t lo hi = .inr p) : ztokW T p.2 := (zrd_w hw hb h).1
theorem zfeM_g (hb : ∀ i, i < T → b i < 128) {p : Nat × ZTok} : ∀ (n m : Nat) (t : ZTok), ztokW T t → zfeM b T n t m = .inr p → ztokW T p.2
  | 0, m, t, _, h => by cases h
  | n + 1, m, t, hw, h => by
    unfold zfeM at h
    by_cases c : t.1 = 2
    · rw [if_pos c] at h
      obtain ⟨q, q1, q2⟩ := zbn_i h
      by_cases hd : m.testBit q = true
      · rw [if_pos hd] at q2; cases q2
      · rw [if_neg hd] at q2
        obtain ⟨t2, t1, t3⟩ := zbn_i q2
        exact zfeM_g hb n _ t2 (ztok_w hw.2.2.1 hb t1) t3
    · rw [if_neg c] at h; cases h; exact hw
theorem rOne2_g (hb : ∀ i, i < T → b i < 128) {t : ZTok} {S : ZDr} {s : Int32} {z : Nat} {p : ZDr × ZTok} (hw : ztokW T t) (h : rOne2 b T t S s z = .inr p) : ztokW T p.2 := by
  obtain ⟨p1, e1, h⟩ := zbn_i h
  obtain ⟨p2, e2, h⟩ := zbn_i h
  obtain ⟨f, e3, h⟩ := zbn_i h
  cases h
  exact zfeM_g hb 5 0 _ (zrd_g hb (zrd_g hb hw e1) e2) e3
theorem rAll_g (hb : ∀ i, i < T → b i < 128) {t : ZTok} {S : ZDr} {p : ZDr × ZTok} (hw : ztokW T t) : (rHouse b T t S = .inr p → ztokW T p.2) ∧ (rPart b T t S = .inr p → ztokW T p.2) ∧ (∀ here, rOne b T t S here = .inr p → ztokW T p.2) ∧ (∀ op, rLine b T t S op = .inr p → ztokW T p.2) ∧ (rSoft t S = .inr p → ztokW T p.2) := by
  refine ⟨fun h => ?_, fun h => ?_, fun here h => ?_, fun op h => ?_, fun h => ?_⟩
  · obtain ⟨p1, e1, h⟩ := zbn_i h
    obtain ⟨p2, e2, h⟩ := zbn_i h
    cases h
    exact zrd_g hb (zrd_g hb hw e1) e2
  · obtain ⟨s, e1, h⟩ := zbn_i h
    by_cases c : (dp S).testBit s = true
    · rw [if_pos c] at h; cases h
    · rw [if_neg c] at h
      obtain ⟨t2, e2, h⟩ := zbn_i h
      obtain ⟨p2, e3, h⟩ := zbn_i h
      cases h
      exact zrd_g hb (ztok_w hw.2.2.1 hb e2) e3
  · cases here with
    | true =>
      have h : (zbn (zchk t 0 11) fun s => if zoc (dH S) s (dN S) = true then (.inl (4, t.2.1) : ZP (ZDr × ZTok)) else zbn (ztok b T t.2.2.1) fun t2 => rOne2 b T t2 S (nI s) (zmx (dz S) (s + 1))) = .inr p := h
      obtain ⟨s, e1, h⟩ := zbn_i h
      by_cases c : zoc (dH S) s (dN S) = true
      · rw [if_pos c] at h; cases h
      · rw [if_neg c] at h
        obtain ⟨t2, e2, h⟩ := zbn_i h
        exact rOne2_g hb (ztok_w hw.2.2.1 hb e2) h
    | false => exact rOne2_g hb hw h
  · obtain ⟨p1, e1, h⟩ := zbn_i h
    cases h
    exact zrd_g hb hw e1
  · cases h
    exact hw
end ZLN
/-! the reference's line -/
def zKx (σ τ : ZS) : Prop := zfrm (fun c g j => c = 3 ∧ g = 0 ∧ (j = 0 ∨ j = 5 ∨ j = 6)) σ τ ∧ ∀ k, (k < 9 ∨ k = 19 ∨ 25 < k) → τ 3 0 0 k = σ 3 0 0 k
theorem zKx_y {σ τ : ZS} (h : zKy σ τ) : zKx σ τ := ⟨h.1, fun k hk => h.2 k (by omega)⟩
theorem zKx_m {σ τ : ZS} (h : zKm σ τ) : zKx σ τ := zKx_y (zKy_m h)
theorem zKx_t {σ τ υ : ZS} (h1 : zKx σ τ) (h2 : zKx τ υ) : zKx σ υ := ⟨zfrm_t h1.1 h2.1, fun k hk => (h2.2 k hk).trans (h1.2 k hk)⟩
theorem zKx_14 {σ : ZS} {v : Int32} : zKx σ (zup σ 3 0 0 14 v) := ⟨zfrm_up zfrm_r ⟨rfl, rfl, Or.inl rfl⟩, fun k hk => by rw [zup_m, zru_o (by omega)]⟩
theorem zTpM_x {σ τ : ZS} {b : Nat → Nat} {T : Nat} (k : zKx σ τ) (h : zTpM σ b T) : zTpM τ b T := by
  unfold zTpM
  rw [k.2 19 (by omega), k.1 3 0 7 (by decide)]
  exact h
def z14 (h s : Bool) : Nat := (if h = true then 1 else 0) + (if s = true then 2 else 0)
theorem z14_b : ∀ h s, ((nI (z14 h s) >>> (0 &&& 31)) &&& 1 = zb h) ∧ ((nI (z14 h s) >>> (1 &&& 31)) &&& 1 = zb s) ∧ nI (z14 h s) ||| ((1 : Int32) <<< ((0 : Int32) &&& 31)) = nI (z14 true s) ∧ nI (z14 h s) ||| ((1 : Int32) <<< ((1 : Int32) &&& 31)) = nI (z14 h true) := by decide
/-- behind a fault -/
theorem L_137F {σ : ZS} {q : Nat × Nat} (h : zFm σ q) (k : Int32) : zev 126 137 [(0, zA 3 0 0), (1, zI k)] [] σ = some (zI 0, σ) := by
  rw [E_M_readLine_137, L_nextF h, zbV_some, if_pos h.2.1]
theorem L_74f {σ : ZS} {t : ZTok} (ht : zTm σ t) (k : Int32) : ∃ τ, zev 126 74 [(0, zA 3 0 0), (1, zI k), (2, zI 1)] [zI 1, zA 3 0 0] σ = some (zI 0, τ) ∧ zKm σ τ ∧ zFm τ (5, t.2.1) := by
  obtain ⟨τ, f1, f2, f3⟩ := L_need0 (f := 5) ht.1 ht.2.2.2.1 (by decide) (by decide)
  refine ⟨τ, ?_, f2, f3⟩
  rw [E_M_readLine_74, L_need1, zbV_some, if_neg (by decide)]
  rw [show zcall 125 [zA 3 0 0, zI 0, zI 5] σ = _ from f1, zbV_some, if_neg (zFm_ne f3), L_137F f3]
theorem L_74n {σ : ZS} {t : ZTok} (ht : zTm σ t) (k : Int32) : ∃ τ, zev 126 74 [(0, zA 3 0 0), (1, zI k), (2, zI 0)] [zI 0, zA 3 0 0] σ = some (zI 0, τ) ∧ zKm σ τ ∧ zFm τ (2, t.2.1) := by
  obtain ⟨τ, f1, f2, f3⟩ := L_need0 (f := 2) ht.1 ht.2.2.2.1 (by decide) (by decide)
  refine ⟨τ, ?_, f2, f3⟩
  rw [E_M_readLine_74]
  rw [show zcall 125 [zA 3 0 0, zI 0, zI 2] σ = _ from f1, zbV_some, if_pos rfl, L_need1, zbV_some, if_neg (zFm_ne f3), L_137F f3]
theorem L_74g {σ : ZS} {t : ZTok} (ht : zTm σ t) {k : Int32} (hk : 1 < k) : zev 126 74 [(0, zA 3 0 0), (1, zI k), (2, zI 0)] [zI 1, zA 3 0 0] σ = zev 126 137 [(0, zA 3 0 0), (1, zI k)] [] σ := by
  rw [E_M_readLine_74, L_need1, zbV_some, if_pos rfl, L_need1, zbV_some, if_pos ht.1, if_pos hk]
theorem L_74k {σ : ZS} {t : ZTok} (ht : zTm σ t) {k : Int32} {told : Bool} (hk : ¬ 1 < k) (hb : ((σ 3 0 0 14) >>> (k &&& 31)) &&& 1 = zb told) : (told = true ∧ ∃ τ, zev 126 74 [(0, zA 3 0 0), (1, zI k), (2, zI 0)] [zI 1, zA 3 0 0] σ = some (zI 0, τ) ∧ zKx σ τ ∧ zFm τ (4, t.2.1)) ∨ (told = false ∧ zev 126 74 [(0, zA 3 0 0), (1, zI k), (2, zI 0)] [zI 1, zA 3 0 0] σ = zev 126 137 [(0, zA 3 0 0), (1, zI k)] [] (zup σ 3 0 0 14 ((σ 3 0 0 14) ||| (1 <<< (k &&& 31))))) := by
  rw [E_M_readLine_74, L_need1, zbV_some, if_pos rfl, L_need1, zbV_some, if_pos ht.1, if_neg hk, hb, zif_b]
  cases told with
  | true =>
    obtain ⟨τ, f1, f2, f3⟩ := L_need0 (f := 4) ht.1 ht.2.2.2.1 (by decide) (by decide)
    left
    refine ⟨rfl, zup τ 3 0 0 14 ((τ 3 0 0 14) ||| (1 <<< (k &&& 31))), ?_, zKx_t (zKx_m f2) zKx_14, zFm_u (by decide) f3⟩
    rw [if_pos rfl]
    rw [show zcall 125 [zA 3 0 0, zI 0, zI 4] σ = _ from f1, zbV_some]
    exact L_137F (zFm_u (by decide) f3) k
  | false =>
    right
    refine ⟨rfl, ?_⟩
    rw [if_neg Bool.false_ne_true, L_need1, zbV_some]
