/-! fits: the reference -/
theorem L_fits53 {σ : ZS} {h : Nat → Nat → Int32} {R P N L S : Nat} (c : zCx σ h R P N L S) (x1 x2 x3 x4 : Int32) : ∀ d k : Nat, k + d = S → zev 195 53 [(0, zA 3 0 0), (1, zI x1), (2, zI x2), (3, zI x3), (4, zI x4), (5, zI (zb (zfx (σ 3 0 8) h k))), (6, zI (nI k))] [] σ = zev 195 53 [(0, zA 3 0 0), (1, zI x1), (2, zI x2), (3, zI x3), (4, zI x4), (5, zI (zb (zfx (σ 3 0 8) h S))), (6, zI (nI S))] [] σ
  | 0, k, hk => by rw [show k = S by omega]
  | d + 1, k, hk => by
    have hS := c.1.2.1.2.2.2.2.2.2
    have hL := c.1.2.1.2.2.2.2.2.1
    have ih := L_fits53 c x1 x2 x3 x4 d (k + 1) (by omega)
    have e37 : σ 3 0 1 37 = nI S := c.2.1.2.2.2.2.1.trans c.1.1.2.2.2.2
    obtain ⟨i, hi, e⟩ := (c.1.2.2.2.2.2.2.2.2.2 k (by omega)).1
    obtain ⟨r1, r2⟩ := c.2.1.2.2.2.2.2 k (by omega)
    have e1 : zfx (σ 3 0 8) h (k + 1) = (zfx (σ 3 0 8) h k && decide (σ 3 0 8 (h 9 k).toNatClampNeg = h 10 k)) := rfl
    rw [e, nI_clamp (by omega)] at e1
    have i1 : (38 : Int32) + 2 * nI k = nI (38 + 2 * k) := by
      rw [show (38 : Int32) = nI 38 from rfl, show (2 : Int32) = nI 2 from rfl, pk_mul, nI_add]
    rw [E_M_fits_53 σ x1 x2 x3 x4 (zb (zfx (σ 3 0 8) h k)) (nI k), e37, if_pos (nI_lt (by omega) (by omega)), zif_b, i1, nI_1, nI_1, zck_nI (by omega) (by decide), nI_clamp (by omega), nI_clamp (by omega), r1, e, zck_nI (by omega) (by decide), nI_clamp (by omega), zck_nI (by omega) (by decide), show 38 + 2 * k + 1 = 39 + 2 * k by omega, r2]
    rw [e1] at ih
    cases hf : zfx (σ 3 0 8) h k with
    | false =>
      rw [hf, Bool.false_and] at ih
      rw [if_neg (by decide)]
      exact ih
    | true =>
      rw [hf, Bool.true_and] at ih
      rw [if_pos rfl]
      by_cases hc : σ 3 0 8 i = h 10 k
      · rw [decide_eq_true hc] at ih
        rw [if_pos hc]
        exact ih
      · rw [decide_eq_false hc] at ih
        rw [if_neg hc]
        exact ih
theorem zit_c {α : Type} {f g : Nat → α → α} : ∀ (d i : Nat) (s : α), (∀ j, i ≤ j → j < i + d → ∀ s, f j s = g j s) → zit f i d s = zit g i d s
  | 0, _, _, _ => rfl
  | d + 1, i, s, h => by
    unfold zit
    rw [h i (Nat.le_refl _) (by omega) s]
    exact zit_c d (i + 1) _ (fun j h1 h2 => h j (by omega) (by omega))
def zfM (h : Nat → Nat → Int32) (R P N S : Nat) (q : Option Nat) (row : Nat) (a : Nat × Nat) : Nat × Nat := if zgd (R * P) (zdg (R * P) (zct (zhr h) N) row) = true then zfu h N S (fun _ => 1) (zsb1 h q) a (zdg (R * P) (zct (zhr h) N) row) else a
theorem L_fitsM {h : Nat → Nat → Int32} {R P N L S : Nat} {x1 : Int32} {q : Option Nat} (hq : (x1 = 0 ∧ q = none) ∨ ∃ p, p < N ∧ ¬ x1 = 0 ∧ x1 - 10 = nI p ∧ q = some p) : ∀ (d row : Nat) (a : Nat × Nat) (σ : ZS), row + d = (R * P) ^ zct (zhr h) N → zCx σ h R P N L S →
    ∃ τ, zev 195 24 [(0, zA 3 0 0), (1, zI x1), (2, zI (nI a.1)), (3, zI (nI a.2)), (4, zI (nI row))] [] σ = some (zI (if x1 = 0 then nI (zit (zfM h R P N S q) row d a).1 else nI (zit (zfM h R P N S q) row d a).2), τ) ∧ zfrm zScr σ τ
  | 0, row, a, σ, hr, c => by
    have hN := c.1.2.1.2.2.2.2.1
    have h12 := zRP12 c.1.2.1.2.1 c.1.2.1.2.2.2.1
    have hT := zT4k (h := h) h12 hN
    refine ⟨σ, ?_, zfrm_r⟩
    rw [show row = (R * P) ^ zct (zhr h) N by omega, E_M_fits_24, L_seatings c, zbI_some, if_neg (nI_nlt (Nat.le_refl _) (by omega))]
    unfold zit
    split <;> rfl
  | d + 1, row, a, σ, hr, c => by
    have hN := c.1.2.1.2.2.2.2.1
    have hL := c.1.2.1.2.2.2.2.2.1
    have hS := c.1.2.1.2.2.2.2.2.2
    have h12 := zRP12 c.1.2.1.2.1 c.1.2.1.2.2.2.1
    have hM0 : 0 < R * P := Nat.mul_pos c.1.2.1.1 (by have := c.1.2.1.2.2.1; omega)
    have hT := zT4k (h := h) h12 hN
    have hlo := zdg_lo hM0 (zct (zhr h) N) row
    have hcd := zcd_dg (M := R * P) (zct (zhr h) N) row (by omega)
    have hlen := zdg_l (R * P) (zct (zhr h) N) row
    obtain ⟨τ, t1, t2, t3⟩ := L_seatsBy c hlen hlo
    rw [hcd] at t1
    have c2 := zCx_f t2 c
    have hz : zit (zfM h R P N S q) row (d + 1) a = zit (zfM h R P N S q) (row + 1) d (zfM h R P N S q row a) := rfl
    rw [hz, E_M_fits_24, L_seatings c, zbI_some, if_pos (nI_lt (by omega) (by omega)), t1, zbI_some, zif_b, nI_1]
    cases hg : zgd (R * P) (zdg (R * P) (zct (zhr h) N) row) with
    | false =>
      have e : zfM h R P N S q row a = a := if_neg (by rw [hg]; decide)
      obtain ⟨υ, u1, u2⟩ := L_fitsM hq d (row + 1) a τ (by omega) c2
      rw [e, if_neg (by decide)]
      exact ⟨υ, u1, zfrm_t t2 u2⟩
    | true =>
      obtain ⟨τ2, p1, p2, p3⟩ := L_nightNow (zNW_l (mv := zmvr (zhr h) N) (zWF_NW c.1) hlo) t3
      have m3 := zMN_f p2 t3
      have f := zfrm_t t2 (zfrm_m zMX_s p2)
      have c3 := zCx_f f c
      have e37 : τ2 3 0 1 37 = nI S := c3.2.1.2.2.2.2.1.trans c3.1.1.2.2.2.2
      have hl := L_fits53 c3 x1 (nI a.1) (nI a.2) (nI row) S 0 (by omega)
      have hfx : zfx (τ2 3 0 8) h S = zft1 h N S (zdg (R * P) (zct (zhr h) N) row) := zfx_c (L := L) (S := S) p3 hL (fun k hk => (c.1.2.2.2.2.2.2.2.2.2 k hk).1) S (Nat.le_refl _)
      rw [hfx] at hl
      have e : zfM h R P N S q row a = zfu h N S (fun _ => 1) (zsb1 h q) a (zdg (R * P) (zct (zhr h) N) row) := if_pos hg
      obtain ⟨υ, u1, u2⟩ := L_fitsM hq d (row + 1) (zfM h R P N S q row a) τ2 (by omega) c3
      refine ⟨υ, ?_, zfrm_t f u2⟩
      rw [if_pos rfl, p1, zbI_some]
      rw [show zev 195 53 [(0, zA 3 0 0), (1, zI x1), (2, zI (nI a.1)), (3, zI (nI a.2)), (4, zI (nI row)), (5, zI 1), (6, zI 0)] [] τ2 = _ from hl]
      rw [E_M_fits_53 τ2 x1 (nI a.1) (nI a.2) (nI row), e37, if_neg (nI_nlt (Nat.le_refl _) (by omega)), L_flag, zbI_some, zif_b, nI_1]
      rw [e] at u1 ⊢
      unfold zfu at u1 ⊢
      rcases hq with ⟨h0, rfl⟩ | ⟨p, hp, h0, hxp, rfl⟩
      · rw [if_pos (show x1 < 10 by rw [h0]; decide), Int32.or_zero]
        cases hft : zft1 h N S (zdg (R * P) (zct (zhr h) N) row) with
        | false =>
          rw [hft, if_neg Bool.false_ne_true] at u1
          rw [if_neg Bool.false_ne_true, if_neg Bool.false_ne_true, show nI a.1 + zb false = nI a.1 from Int32.add_zero _]
          exact u1
        | true =>
          rw [hft, if_pos rfl] at u1
          rw [if_pos rfl, if_pos rfl, show nI a.1 + zb true = nI (a.1 + 1) from nI_1 _]
          rw [show a.2 ||| zsb1 h none (zdg (R * P) (zct (zhr h) N) row) = a.2 from Nat.or_zero _] at u1 ⊢
          exact u1
      · have hx1 : x1 = nI (p + 10) := by
          have : x1 = x1 - 10 + 10 := (Int32.sub_add_cancel _ _).symm
          rw [this, hxp]
          exact nI_add p 10
        have e4 : τ2 3 0 2 (12 + 4 * p) = zhl h (zmvr (zhr h) N) (zdg (R * P) (zct (zhr h) N) row) 4 p := by
          rw [(m3.2.2.2.2.2.1 p hp).1, if_neg Bool.false_ne_true]
        rw [if_neg (show ¬ x1 < 10 by rw [hx1]; exact nI_nlt (b := 10) (by omega) (by omega)), hxp, L_of0 (by omega), zbI_some, e4, Int32.or_zero]
        cases hft : zft1 h N S (zdg (R * P) (zct (zhr h) N) row) with
        | false =>
          rw [hft, if_neg Bool.false_ne_true] at u1
          rw [if_neg Bool.false_ne_true, if_pos (show zb false = 0 from rfl), show nI a.1 + zb false = nI a.1 from Int32.add_zero _]
          exact u1
        | true =>
          rw [hft, if_pos rfl] at u1
          rw [if_pos rfl, if_neg (show ¬ zb true = 0 by decide), show nI a.1 + zb true = nI (a.1 + 1) from nI_1 _]
          unfold zsb1 at u1 ⊢
          dsimp only at u1 ⊢
          by_cases hzz : zhr h p = true
          · have hj := zct_ltN hp hzz
            have hlt := zgt_lt hg (show zct (zhr h) p < (zdg (R * P) (zct (zhr h) N) row).length by omega)
            have e5 : zhl h (zmvr (zhr h) N) (zdg (R * P) (zct (zhr h) N) row) 4 p = nI (zgt (zdg (R * P) (zct (zhr h) N) row) (zct (zhr h) p)) := by
              have h1 := zhl_m (h := h) (j := zct (zhr h) p) (zmvr_i (b := zhr h) (n := N)) (zdg (R * P) (zct (zhr h) N) row) (by omega) (by omega)
              rw [zmvr_p hzz N hp] at h1
              exact h1
            rw [if_pos hzz] at u1 ⊢
            rw [e5, if_neg (nI_ne4 (by omega)), zn_1 _ (by omega), zn_or]
            exact u1
          · have e5 : zhl h (zmvr (zhr h) N) (zdg (R * P) (zct (zhr h) N) row) 4 p = -4 := by
              rw [zhl_n _ (fun j hj e => ?_)]
              · exact zhr_f hzz
              · obtain ⟨q, -, q2, -, q4⟩ := zmvr_j N (by rw [← hlen]; exact hj)
                rw [e] at q4
                rw [← q4] at q2
                exact hzz q2
            rw [if_neg hzz, Nat.or_zero] at u1 ⊢
            rw [e5, if_pos rfl]
            exact u1
/-! both count alike -/
theorem zfu_1 {h : Nat → Nat → Int32} {N S : Nat} {g e : List Nat → Nat} : ∀ (X : List (List Nat)) (a : Nat × Nat), (X.foldl (zfu h N S g e) a).1 = a.1 + zszl (fun x => (if zft1 h N S x = true then 1 else 0) * g x) X
  | [], a => rfl
  | x :: X, a => by
    rw [List.foldl_cons, zfu_1 X]
    show (zfu h N S g e a x).1 + _ = a.1 + ((if zft1 h N S x = true then 1 else 0) * g x + zszl _ X)
    unfold zfu
    by_cases hf : zft1 h N S x = true
    · rw [if_pos hf, if_pos hf, Nat.one_mul, Nat.add_assoc]
    · rw [if_neg hf, if_neg hf, Nat.zero_mul, Nat.zero_add]
theorem zfu_2 {h : Nat → Nat → Int32} {N S s : Nat} {g e : List Nat → Nat} : ∀ (X : List (List Nat)) (a : Nat × Nat), (X.foldl (zfu h N S g e) a).2.testBit s = true ↔ a.2.testBit s = true ∨ ∃ x, x ∈ X ∧ zft1 h N S x = true ∧ (e x).testBit s = true
  | [], a => ⟨fun h => Or.inl h, fun h => h.resolve_right fun ⟨_, hx, _⟩ => absurd hx (by simp)⟩
  | x :: X, a => by
    rw [List.foldl_cons, zfu_2 X]
    have h1 : (zfu h N S g e a x).2.testBit s = true ↔ a.2.testBit s = true ∨ (zft1 h N S x = true ∧ (e x).testBit s = true) := by
      unfold zfu
      by_cases hf : zft1 h N S x = true
      · rw [if_pos hf, Nat.testBit_or, Bool.or_eq_true]
        exact ⟨fun z => z.imp_right fun z => ⟨hf, z⟩, fun z => z.imp_right fun z => z.2⟩
      · rw [if_neg hf]
        exact ⟨Or.inl, fun z => z.resolve_right fun z => hf z.1⟩
    rw [h1]
    constructor
    · rintro ((h | ⟨h2, h3⟩) | ⟨y, y1, y2⟩)
      · exact Or.inl h
      · exact Or.inr ⟨x, List.mem_cons_self .., h2, h3⟩
      · exact Or.inr ⟨y, List.mem_cons_of_mem _ y1, y2⟩
    · rintro (h | ⟨y, y1, y2, y3⟩)
      · exact Or.inl (Or.inl h)
      · rcases List.mem_cons.mp y1 with rfl | y1
        · exact Or.inl (Or.inr ⟨y2, y3⟩)
        · exact Or.inr ⟨y, y1, y2, y3⟩
theorem zone_t (a s : Nat) : (1 <<< a).testBit s = true ↔ a = s := by
  have := tb_or 0 a s
  rw [Nat.zero_or, Nat.zero_testBit, Bool.false_or] at this
  rw [this, decide_eq_true_iff]
theorem zfits_2 {h : Nat → Nat → Int32} {R P N L S : Nat} (w : zWF h R P N L S) {q : Option Nat} (hq : ∀ p, q = some p → p < N) : zit (zfM h R P N S q) 0 ((R * P) ^ zct (zhr h) N) (0, 0) = (zal (zoka (zid h L)) (R * P) (zct (zhr h) N) []).foldl (zfu h N S (zwt (zid h L) (zct (zid h L) (R * P))) (zsa h (zid h L) (R * P) q)) (0, 0) := by
  have hN := w.2.1.2.2.2.2.1
  have hL := w.2.1.2.2.2.2.2.1
  have h12 := zRP12 w.2.1.2.1 w.2.1.2.2.2.1
  have h1 : zit (zfM h R P N S q) 0 ((R * P) ^ zct (zhr h) N) (0, 0) = (zal zvf (R * P) (zct (zhr h) N) []).foldl (zfu h N S (fun _ => 1) (zsb1 h q)) (0, 0) := zit_v (M := R * P) (k := zct (zhr h) N) (u := zfu h N S (fun _ => 1) (zsb1 h q)) (0, 0)
  have hC : ∀ x y, zgd (R * P) x = true → zgd (R * P) y = true → x.length = zct (zhr h) N → zqv (zid h L) x y → zft1 h N S x = zft1 h N S y := fun x y gx gy hx hq =>
    zfx_c (L := L) (S := S) (fun i hi => zsp_E (zEqh_l zmvr_i h12 (zids w) gx gy (by omega) hq) hN hi) hL (fun k hk => (w.2.2.2.2.2.2.2.2.2 k hk).1) S (Nat.le_refl _)
  have hC2 : ∀ x y, zgd (R * P) x = true → zgd (R * P) y = true → x.length = zct (zhr h) N → zqv (zid h L) x y → (if zft1 h N S x = true then 1 else 0) = (if zft1 h N S y = true then 1 else 0) := fun x y gx gy hx hq => by rw [hC x y gx gy hx hq]
  rw [h1]
  refine Prod.ext ?_ ?_
  · rw [zfu_1, zfu_1]
    have h2 := zfit_l (I := zid h L) (M := R * P) (C := fun x => if zft1 h N S x = true then 1 else 0) hC2 (zct (zhr h) N) [] rfl (by simp)
    rw [show zwt (zid h L) (zct (zid h L) (R * P)) [] = 1 from rfl, Nat.one_mul] at h2
    rw [← h2]
    congr 2
    funext x
    exact Nat.mul_one _
  · refine Nat.eq_of_testBit_eq fun s => ?_
    refine Bool.eq_iff_iff.mpr ?_
    rw [zfu_2, zfu_2]
    have z0 : ¬ (0 : Nat).testBit s = true := by rw [Nat.zero_testBit]; decide
    have key : (∃ x, x ∈ zal zvf (R * P) (zct (zhr h) N) [] ∧ zft1 h N S x = true ∧ (zsb1 h q x).testBit s = true) ↔ ∃ x, x ∈ zal (zoka (zid h L)) (R * P) (zct (zhr h) N) [] ∧ zft1 h N S x = true ∧ (zsa h (zid h L) (R * P) q x).testBit s = true := by
      cases q with
      | none => exact ⟨fun ⟨_, _, _, z⟩ => absurd z z0, fun ⟨_, _, _, z⟩ => absurd z z0⟩
      | some p =>
        have hp := hq p rfl
        by_cases hz : zhr h p = true
        · have e1 : ∀ x, zsb1 h (some p) x = 1 <<< zgt x (zct (zhr h) p) := fun x => if_pos hz
          have e2 : ∀ x, zsa h (zid h L) (R * P) (some p) x = if zid h L (zgt x (zct (zhr h) p)) = true then zmk (zid h L) (R * P) else 1 <<< zgt x (zct (zhr h) p) := fun x => if_pos hz
          have hj := zct_ltN hp hz
          have f1 : ∀ x : List Nat, (if zft1 h N S x = true then (1 : Nat) else 0) ≠ 0 ↔ zft1 h N S x = true := fun x => by
            by_cases hf : zft1 h N S x = true
            · rw [if_pos hf]; exact ⟨fun _ => hf, fun _ => by decide⟩
            · rw [if_neg hf]; exact ⟨fun z => absurd rfl z, fun z => absurd z hf⟩
          by_cases hs : s < R * P
          · have := zbits (I := zid h L) (M := R * P) (k := zct (zhr h) N) (j := zct (zhr h) p) (s := s) (C := fun x => if zft1 h N S x = true then 1 else 0) hC2 hj hs
            simp only [f1] at this
            simp only [e1, e2, zone_t]
            rw [this]
            have e3 : ∀ x, (if zid h L (zgt x (zct (zhr h) p)) = true then zid h L s = true else zgt x (zct (zhr h) p) = s) ↔ (if zid h L (zgt x (zct (zhr h) p)) = true then zmk (zid h L) (R * P) else 1 <<< zgt x (zct (zhr h) p)).testBit s = true := fun x => by
              by_cases hi : zid h L (zgt x (zct (zhr h) p)) = true
              · rw [if_pos hi, if_pos hi, zmk_tb, decide_eq_true hs, Bool.true_and]
              · rw [if_neg hi, if_neg hi, zone_t]
            simp only [e3]
          · have no : ∀ x, x.length = zct (zhr h) N → zgd (R * P) x = true → ¬ zgt x (zct (zhr h) p) = s := fun x hx g e => by
              have := zgt_lt g (show zct (zhr h) p < x.length by omega)
              omega
            constructor
            · rintro ⟨x, x1, x2, x3⟩
              obtain ⟨y, y1, y2, y3⟩ := (zal_e (M := R * P) (zct (zhr h) N) [] rfl).mp x1
              rw [e1, zone_t] at x3
              exact absurd x3 (no x (by rw [y1, List.append_nil, y2]) y3)
            · rintro ⟨x, x1, x2, x3⟩
              obtain ⟨y1, y2⟩ := zal_g (l := []) rfl x1
              rw [e2] at x3
              by_cases hi : zid h L (zgt x (zct (zhr h) p)) = true
              · rw [if_pos hi, zmk_tb, decide_eq_false hs, Bool.false_and] at x3
                exact absurd x3 Bool.false_ne_true
              · rw [if_neg hi, zone_t] at x3
                exact absurd x3 (no x (by rw [y2]; simp) y1)
        · have e1 : ∀ x, zsb1 h (some p) x = 0 := fun x => if_neg hz
          have e2 : ∀ x, zsa h (zid h L) (R * P) (some p) x = 0 := fun x => if_neg hz
          exact ⟨fun ⟨x, _, _, z⟩ => absurd (by rw [e1 x] at z; exact z) z0, fun ⟨x, _, _, z⟩ => absurd (by rw [e2 x] at z; exact z) z0⟩
    exact ⟨fun z => Or.inr (key.mp (z.resolve_left z0)), fun z => Or.inr (key.mpr (z.resolve_left z0))⟩
theorem L_fitsX {σ : ZS} {h : Nat → Nat → Int32} {R P N L S : Nat} (hh : σ 1 0 = h) (c : zCx σ h R P N L S) {x1 : Int32} {q : Option Nat} (hq : (x1 = 0 ∧ q = none) ∨ ∃ p, p < N ∧ ¬ x1 = 0 ∧ x1 - 10 = nI p ∧ q = some p) :
    ∃ v τ υ, (∃ τ0, zcall 7 [zA 1 1 0, zA 1 0 0] σ = some (zI 0, τ0) ∧ ∃ τ1, zcall 47 [zA 0 0 9, zA 1 1 0] τ0 = some (zI 0, τ1) ∧ zev 105 55 [(0, zA 0 0 0), (1, zI x1), (2, zI (x1 - 10)), (3, zI 0), (4, zI 0), (5, zI 1), (6, zI 0)] [] τ1 = some (zI v, τ)) ∧ zfrm zScr σ τ ∧
      zev 195 24 [(0, zA 3 0 0), (1, zI x1), (2, zI 0), (3, zI 0), (4, zI 0)] [] τ = some (zI v, υ) ∧ zfrm zScr τ υ := by
  have w := c.1
  obtain ⟨l1, l2, l3, l4⟩ := zfsL w
  obtain ⟨τ0, t1, t2, t3⟩ := L_trial σ
  rw [hh] at t3
  obtain ⟨τ1, u1, u2, u3, u4⟩ := L_begin t3 w
  obtain ⟨τ, b1, b2⟩ := L_fitsC w (x2 := x1 - 10) hq _ _ 0 (0, 0) τ1 rfl (by omega) l3 l4 u3 u4
  have f : zfrm zScr σ τ := zfrm_t (zfrm_t (zfrm_m zHG1_s t2) u2) b2
  obtain ⟨υ, v1, v2⟩ := L_fitsM hq ((R * P) ^ zct (zhr h) N) 0 (0, 0) τ (by omega) (zCx_f f c)
  have hq2 : ∀ p, q = some p → p < N := by
    intro p hp
    rcases hq with ⟨-, rfl⟩ | ⟨p', h1, -, -, rfl⟩
    · exact absurd hp (by simp)
    · cases hp; exact h1
  rw [zfits_2 w hq2] at v1
  rw [l1] at b1
  exact ⟨_, τ, υ, ⟨τ0, t1, τ1, u1, b1⟩, f, v1, v2⟩
theorem Q_fits {σ : ZS} (hi : zInv σ) (x : Int32) : zPair (zcall 105 [zA 0 0 0, zI x]) (zcall 195 [zA 3 0 0, zI x]) σ := by
  obtain ⟨R, P, N, L, S, a1, a2, a3, a4, a5, a6, a7, a8⟩ := id hi
  have hN : N ≤ 4 := a1.2.1.2.2.2.2.1
  have n1 : σ 1 0 0 3 = nI N := a1.1.2.2.1
  have n2 : σ 3 0 0 5 = nI N := a3.2.2.1.trans n1
  unfold zPair
  simp only [E_S_fits, E_M_fits, L_hasOne, L_isOne, zbI_some, zif_b, n1]
  by_cases h0 : x = 0
  · obtain ⟨v, τ, υ, ⟨τ0, b1, τ1, b2, b3⟩, b4, b6, b7⟩ := L_fitsX rfl (zCx_of a1 a2 a3) (x1 := x) (q := none) (Or.inl ⟨h0, rfl⟩)
    refine ⟨v, τ, υ, ?_, ?_, zInv_q b7 (zInv_q b4 hi)⟩
    · rw [if_pos h0, b1, zbV_some, b2, zbV_some, b3]
    · rw [if_pos h0, b6]
  · rcases zin2_c (x - 10) (n := N) (by omega) with h1 | ⟨p, hp, e, h1⟩
    · refine ⟨-1, σ, σ, ?_, ?_, hi⟩
      · rw [if_neg h0, h1]
        rfl
      · rw [if_neg h0, n2, h1]
        rfl
    · obtain ⟨v, τ, υ, ⟨τ0, b1, τ1, b2, b3⟩, b4, b6, b7⟩ := L_fitsX rfl (zCx_of a1 a2 a3) (x1 := x) (q := some p) (Or.inr ⟨p, hp, h0, e, rfl⟩)
      have e5 : τ 3 0 0 5 = nI N := by rw [b4 3 0 0 (by simp [zScr, zScC])]; exact n2
      refine ⟨v, τ, υ, ?_, ?_, zInv_q b7 (zInv_q b4 hi)⟩
      · rw [if_neg h0, h1, if_pos rfl, b1, zbV_some, b2, zbV_some, b3]
      · rw [if_neg h0, e5, h1, if_pos rfl, b6]
