/-! text: the reference reads lines, parts, people -/
theorem zopn_b {H : Nat → Nat → Int32} {L : Nat} {op : Bool} {o : Nat} (ho : H 0 5 = nI o) (hoL : o < 2 ^ L) (hL : L < 8) : ∃ o2, zopn H L op = nI o2 ∧ o2 < 2 ^ (L + 1) ∧ (∀ i, i < L → o2.testBit i = o.testBit i) ∧ (1 ≤ L → o2.testBit L = op) ∧ (L = 0 → o2.testBit 0 = true) := by
  have h0 : o.testBit L = false := Nat.testBit_lt_two_pow hoL
  have ho8 : o < 256 := p2_8 (by omega) hoL
  unfold zopn
  by_cases c : op = true ∨ L = 0
  · rw [if_pos c, ho, zb2 o ho8 L hL]
    refine ⟨o ||| 1 <<< L, rfl, zor_lt (Nat.lt_of_lt_of_le hoL (Nat.pow_le_pow_right (by omega) (by omega))) (by omega), fun i hi => ?_, fun h1 => ?_, fun h1 => ?_⟩
    · rw [tb_or, decide_eq_false (show ¬ L = i by omega), Bool.or_false]
    · rw [tb_or, decide_eq_true rfl, Bool.or_true]
      exact (c.resolve_right (by omega)).symm
    · subst h1
      rw [tb_or, decide_eq_true rfl, Bool.or_true]
  · rw [if_neg c, ho]
    have e : nI o &&& ((1 <<< (nI L &&& 31)) ^^^ (-1)) = nI o := by
      refine zvb_x fun s hs => ?_
      rw [zvb_and, zvb_not _ hs, zn_1 L (by omega), zvb_n _ hs, zvb_n _ hs]
      by_cases e : s = L
      · rw [e, h0, Bool.false_and]
      · have := tb_or 0 L s
        rw [Nat.zero_or, Nat.zero_testBit, Bool.false_or] at this
        rw [this, decide_eq_false (fun z => e z.symm), Bool.not_false, Bool.and_true]
    rw [e]
    refine ⟨o, rfl, Nat.lt_of_lt_of_le hoL (Nat.pow_le_pow_right (by omega) (by omega)), fun i _ => rfl, fun _ => ?_, fun h1 => absurd (Or.inr h1) c⟩
    rw [h0]
    cases op with
    | true => exact absurd (Or.inl rfl) c
    | false => rfl
theorem L_rLine {b : Nat → Nat} {T : Nat} {t : ZTok} {S : ZDr} {op : Bool} {k : Int32} {σ : ZS} (h : zTpM σ b T) (ht : zTm σ t) (hw : ztokW T t) (hS : zRd σ S) (hB : zBd S) (hL : dL S < 8) (hO : ∃ o, o < 2 ^ dL S ∧ dH S 0 5 = nI o) (hk : (k = 6 ∧ op = true) ∨ (k = 5 ∧ op = false)) : ∃ τ, zcall 130 [zA 3 0 0, zI k] σ = some (zI 0, τ) ∧ zKy σ τ ∧ zRR τ (rLine b T t S op) := by
  obtain ⟨v, τ, a1, a2, a3⟩ := L_rdN (lo := 0) (hi := 5) h ht hw (by decide) (by decide)
  have hk5 : k = 5 ∨ k = 6 := hk.elim (fun z => Or.inr z.1) (fun z => Or.inl z.1)
  have e12 : σ 3 0 0 12 = nI (dL S) := hS.1.2.2.2
  have f12 : zup τ 3 0 6 (dL S) v 3 0 0 12 = nI (dL S) := by rw [zup_o (by decide), a2.2 12 (by omega)]; exact e12
  have hfl : ∀ (υ : ZS) (r : ZR), (if k = 6 then (zbI (zcall 136 [zI 1] υ) (fun x37 σ36 => zck (28 + (υ 3 0 0 12)) 54 (let σ38 : ZS := zup σ36 3 0 5 (28 + (υ 3 0 0 12)).toNatClampNeg x37; let σ39 : ZS := zup σ38 3 0 0 12 ((σ38 3 0 0 12) + 1); some (zI 0, σ39)))) else (zbI (zcall 136 [zI 0] υ) (fun x41 σ40 => zck (28 + (υ 3 0 0 12)) 54 (let σ42 : ZS := zup σ40 3 0 5 (28 + (υ 3 0 0 12)).toNatClampNeg x41; let σ43 : ZS := zup σ42 3 0 0 12 ((σ42 3 0 0 12) + 1); some (zI 0, σ43))))) = r → υ 3 0 0 12 = nI (dL S) → r = some (zI 0, zup (zup υ 3 0 5 (28 + dL S) (zb op)) 3 0 0 12 (nI (dL S + 1))) := by
    intro υ r hr e
    rw [← hr, e, L_flag0, L_flag1, zbI_some, zbI_some, show (28 : Int32) + nI (dL S) = nI (28 + dL S) from nI_add 28 _, zck_nI (by omega) (by decide), zck_nI (by omega) (by decide), nI_clamp (by omega)]
    dsimp only
    rw [zup_o (by decide), zup_o (by decide), e, nI_1]
    rcases hk with ⟨rfl, rfl⟩ | ⟨rfl, rfl⟩
    · rw [if_pos rfl]; rfl
    · rw [if_neg (by decide)]; rfl
  rw [E_M_readLineOf, if_neg (by rcases hk5 with e | e <;> rw [e] <;> decide), if_neg (by rcases hk5 with e | e <;> rw [e] <;> decide), if_neg (by rcases hk5 with e | e <;> rw [e] <;> decide), if_neg (by rcases hk5 with e | e <;> rw [e] <;> decide), if_neg (by rcases hk5 with e | e <;> rw [e] <;> decide)]
  rw [show zcall 131 [zA 3 0 0, zI 0, zI 5] σ = _ from a1, zbI_some, e12, zck_nI hL (by decide), nI_clamp (by omega)]
  dsimp only
  have kk : zKy σ (zup (zup (zup τ 3 0 6 (dL S) v) 3 0 5 (28 + dL S) (zb op)) 3 0 0 12 (nI (dL S + 1))) := zKy_u (zKy_d (zKy_d (zKy_m a2) (by omega)) (by omega)) (by decide)
  refine ⟨_, hfl (zup τ 3 0 6 (dL S) v) _ rfl f12, kk, ?_⟩
  unfold rLine
  cases hz : zrd b T t 0 5 with
  | inl q =>
    rw [hz] at a3
    exact zFm_u (by decide) (zFm_d (by decide) (zFm_d (by decide) a3))
  | inr p =>
    rw [hz] at a3
    obtain ⟨a3, rfl⟩ := a3
    refine ⟨zTm_u (by decide) (zTm_d (by decide) (zTm_d (by decide) a3)), ?_⟩
    obtain ⟨⟨r1, r2, r3, r4⟩, ⟨r5, r6, r7⟩, ⟨b1, b2, b3, b4, b5, b6⟩, r9⟩ := zRd_m a2 hS
    obtain ⟨o, ho1, ho2⟩ := hO
    obtain ⟨o2, z1, z2, z3, z4, z5⟩ := zopn_b (op := op) ho2 ho1 hL
    have e : ∀ j k, ¬ (j = 8 ∧ k = dL S) → ¬ (j = 0 ∧ (k = 5 ∨ k = 4)) → zadl (dH S) (dL S) p.1 op j k = dH S j k := fun j k h1 h2 => by
      unfold zadl
      rw [zhu_n (by omega), zhu_n (by omega), zhu_n (by omega)]
    have e5 : zadl (dH S) (dL S) p.1 op 0 5 = nI o2 := by
      unfold zadl
      rw [zhu_n (by omega), zhu_s]
      exact z1
    have e0 : ∀ k, k ≠ 12 → (zup (zup (zup τ 3 0 6 (dL S) (nI p.1)) 3 0 5 (28 + dL S) (zb op)) 3 0 0 12 (nI (dL S + 1))) 3 0 0 k = τ 3 0 0 k := fun k hk => by rw [zup_m, zru_o hk, zup_o (by decide), zup_o (by decide)]
    refine ⟨⟨?_, ?_, ?_, ?_⟩, ⟨?_, ?_, ?_⟩, ⟨fun s hs => ?_, fun p' hp => ?_, fun p' h1 h2 => ?_, fun i h1 h2 => ?_, ?_, ?_⟩, fun i hi => ?_⟩
    · rw [e0 9 (by decide)]; exact r1.trans (e 0 0 (by omega) (by omega)).symm
    · rw [e0 10 (by decide)]; exact r2.trans (e 0 1 (by omega) (by omega)).symm
    · rw [e0 11 (by decide)]; exact r3
    · exact zup_same
    · rw [e0 15 (by decide)]; exact r5
    · rw [e0 16 (by decide)]; exact r6
    · rw [e0 17 (by decide)]; exact r7
    · rw [zup_o (by decide), zup_m, zru_o (by omega), zup_o (by decide)]; exact (b1 s hs).trans (e 3 s (by omega) (by omega)).symm
    · have hp : p' < dN S := hp
      have hN := hB.1
      rw [zup_o (by decide), zup_m, zru_o (by omega), zru_o (by omega), zru_o (by omega), zru_o (by omega), zup_o (by decide)]
      obtain ⟨q1, q2, q3, q4⟩ := b2 p' hp
      exact ⟨q1.trans (e 4 p' (by omega) (by omega)).symm, q2.trans (e 5 p' (by omega) (by omega)).symm, q3.trans (e 6 p' (by omega) (by omega)).symm, q4.trans (e 7 p' (by omega) (by omega)).symm⟩
    · rw [zup_o (by decide), zup_m, zru_o (by omega), zru_o (by omega), zup_o (by decide)]; exact b3 p' h1 h2
    · have h2 : i < dL S + 1 := h2
      rw [zup_o (by decide), zup_m, zup_o (by decide)]
      show _ = zbit (zadl (dH S) (dL S) p.1 op 0 5) i
      rw [e5, zbit_bt _ (by omega), zvb_n _ (by omega)]
      by_cases ei : i = dL S
      · rw [ei, zru_s, z4 (by omega)]
      · rw [zru_o (by omega), b4 i h1 (by omega), z3 i (by omega), ho2, zbit_bt _ (by omega), zvb_n _ (by omega)]
    · rw [zup_o (by decide), zup_m, zru_o (by omega), zup_o (by decide)]; exact b5.trans (e 0 2 (by omega) (by omega)).symm
    · rw [zup_o (by decide), zup_m, zru_o (by omega), zup_o (by decide)]; exact b6
    · have hi : i < dL S + 1 := hi
      rw [zup_o (by decide), zup_o (by decide), zup_m]
      show _ = zadl (dH S) (dL S) p.1 op 8 i
      by_cases ei : i = dL S
      · rw [ei, zru_s]
        unfold zadl
        rw [zhu_n (by omega), zhu_n (by omega), zhu_s]
      · rw [zru_o ei]; exact (r9 i (by omega)).trans (e 8 i (by omega) (by omega)).symm
theorem L_rPart {b : Nat → Nat} {T : Nat} {t : ZTok} {S : ZDr} {σ : ZS} (h : zTpM σ b T) (ht : zTm σ t) (hw : ztokW T t) (hS : zRd σ S) (hB : zBd S) : ∃ τ, zcall 130 [zA 3 0 0, zI 2] σ = some (zI 0, τ) ∧ zKy σ τ ∧ zRR τ (rPart b T t S) := by
  have hb := fun j hj => (h.2.2 j hj).2
  rw [E_M_readLineOf, if_neg (by decide), if_neg (by decide), if_pos rfl]
  suffices hh : ∃ τ, zcall 133 [zA 3 0 0] σ = some (zI 0, τ) ∧ zKy σ τ ∧ zRR τ (rPart b T t S) by
    obtain ⟨τ, q1, q2⟩ := hh
    exact ⟨τ, by rw [q1, zbV_some], q2⟩
  obtain ⟨v, τ, a1, a2, a3⟩ := L_looked (lo := 0) (hi := 11) ht ⟨hw.1, hw.2.2.2.1⟩ (by decide) (by decide)
  rw [E_M_readPart, E_M_lookedSeat]
  rw [show zcall 132 [zA 3 0 0, zI 0, zI 11] σ = _ from a1, zbI_some]
  unfold rPart
  have sm : ∀ (υ : ZS) (s : Nat), s < 12 → zck ((0 : Int32) + nI s) 54 (zck ((0 : Int32) + nI s) 54 (let σ29 : ZS := zup υ 3 0 5 ((0 : Int32) + nI s).toNatClampNeg (υ 3 0 5 ((0 : Int32) + nI s).toNatClampNeg); some (zI 0, σ29))) = some (zI 0, υ) := fun υ s hs => by
    rw [Int32.zero_add, zck_nI (by omega) (by decide), zck_nI (by omega) (by decide), nI_clamp (by omega)]
    dsimp only
    rw [zup_id]
  cases hz : zchk t 0 11 with
  | inl q =>
    rw [hz] at a3
    obtain ⟨a3, rfl⟩ := a3
    rw [if_neg (zFm_ne a3)]
    dsimp only
    rw [zup_id, zbI_some, if_neg (zFm_ne a3), L_nextF a3, zbV_some, L_rdF a3, zbI_some, if_neg (zFm_ne a3)]
    exact ⟨τ, sm τ 0 (by decide), zKy_m a2, a3⟩
  | inr s =>
    rw [hz] at a3
    obtain ⟨ea, rfl⟩ := a3
    have ea := ea.symm
    subst ea
    have hs := zchk_w hz
    have hd12 := hB.2.2.1
    have e16 : σ 3 0 0 16 = zhI (dz S) := hS.2.1.2.1
    -- the seat is looked at
    have hl : ∃ υ, υ = zup σ 3 0 0 16 (zhI (zmx (dz S) (s + 1))) := ⟨_, rfl⟩
    obtain ⟨υ, hυ⟩ := hl
    have hls : (if σ 3 0 0 24 = 0 then (if (σ 3 0 0 16) < nI s then (let σ23 : ZS := zup σ 3 0 0 16 (nI s); some (zI (nI s), σ23)) else (let σ24 : ZS := zup σ 3 0 0 16 (σ 3 0 0 16); some (zI (nI s), σ24))) else (let σ25 : ZS := zup σ 3 0 0 16 (σ 3 0 0 16); some (zI (nI s), σ25))) = some ((zI (nI s) : ZV), υ) := by
      have hm := zhI_mx (z := dz S) (s := s) (by omega) (by omega)
      rw [if_pos ht.1, e16, hυ, ← hm]
      by_cases c : zhI (dz S) < nI s
      · rw [if_pos c, if_pos c]
      · rw [if_neg c, if_neg c]
    rw [hls, zbI_some]
    have kυ : zKy σ υ := by rw [hυ]; exact zKy_u (zKy_r σ) (by decide)
    have tυ : zTm υ t := by rw [hυ]; exact zTm_u (by decide) ht
    have e15 : υ 3 0 0 15 = nI (dp S) := by rw [hυ, zup_m, zru_o (by decide)]; exact hS.2.1.1
    rw [if_pos tυ.1, e15, show (nI (dp S) >>> (nI s &&& 31)) &&& 1 = zbit (nI (dp S)) s from rfl, zbit_bt _ (by omega), zvb_n _ (by omega), zif_b, zn_1 s (by omega)]
    show ∃ τ, _ ∧ _ ∧ zRR τ (if (dp S).testBit s = true then .inl (4, t.2.1) else zbn (ztok b T t.2.2.1) _)
    cases hd : (dp S).testBit s with
    | true =>
      obtain ⟨τ2, f1, f2, f3⟩ := L_need0 (f := 4) tυ.1 tυ.2.2.2.1 (by decide) (by decide)
      rw [if_pos rfl, if_pos rfl]
      rw [show zcall 125 [zA 3 0 0, zI 0, zI 4] υ = _ from f1, zbV_some]
      dsimp only
      have g1 : zFm (zup τ2 3 0 0 15 (τ2 3 0 0 15 ||| nI (1 <<< s))) (4, t.2.1) := zFm_u (by decide) f3
      rw [L_nextF g1, zbV_some, L_rdF g1, zbI_some, if_neg (zFm_ne g1)]
      exact ⟨_, sm _ s (by omega), zKy_u (zKy_t kυ (zKy_m f2)) (by decide), g1⟩
    | false =>
      rw [if_neg Bool.false_ne_true, if_neg Bool.false_ne_true, L_need1, zbV_some]
      dsimp only
      rw [e15, zn_or]
      obtain ⟨υ2, hυ2⟩ : ∃ υ2, υ2 = zup υ 3 0 0 15 (nI (dp S ||| 1 <<< s)) := ⟨_, rfl⟩
      rw [← hυ2]
      have k2 : zKy σ υ2 := by rw [hυ2]; exact zKy_u kυ (by decide)
      have t2 : zTm υ2 t := by rw [hυ2]; exact zTm_u (by decide) tυ
      obtain ⟨τ3, n1, n2, n3⟩ := L_nextM (zTpM_y k2 h) t2.1 hw.2.2.1 t2.2.1
      rw [n1, zbV_some]
      have k3 := zKy_t k2 (zKy_m n2)
      cases hz2 : ztok b T t.2.2.1 with
      | inl q =>
        rw [hz2] at n3
        have n3 : zFm τ3 q := n3
        rw [L_rdF n3, zbI_some, if_neg (zFm_ne n3)]
        exact ⟨_, sm _ s (by omega), k3, n3⟩
      | inr t3 =>
        rw [hz2] at n3
        have n3 : zTm τ3 t3 := n3
        have w3 := ztok_w hw.2.2.1 hb hz2
        obtain ⟨v4, τ4, c1, c2, c3⟩ := L_rdN (lo := 0) (hi := 5) (zTpM_y k3 h) n3 w3 (by decide) (by decide)
        rw [show zcall 131 [zA 3 0 0, zI 0, zI 5] τ3 = _ from c1, zbI_some]
        have k4 := zKy_t k3 (zKy_m c2)
        show ∃ τ, _ ∧ _ ∧ zRR τ (zbn (zrd b T t3 0 5) _)
        cases hz3 : zrd b T t3 0 5 with
        | inl q =>
          rw [hz3] at c3
          have c3 : zFm τ4 q := c3
          rw [if_neg (zFm_ne c3)]
          exact ⟨_, sm _ s (by omega), k4, c3⟩
        | inr q =>
          rw [hz3] at c3
          obtain ⟨c3, rfl⟩ := c3
          rw [if_pos c3.1, Int32.zero_add, zck_nI (by omega) (by decide), nI_clamp (by omega)]
          refine ⟨_, rfl, zKy_d k4 (by omega), zTm_d (by decide) c3, ?_⟩
          obtain ⟨⟨r1, r2, r3, r4⟩, ⟨r5, r6, r7⟩, ⟨b1, b2, b3, b4, b5, b6⟩, r9⟩ := hS
          have g0 : ∀ k, k < 20 → τ4 3 0 0 k = υ2 3 0 0 k := fun k hk => by rw [c2.2 k (by omega), n2.2 k (by omega)]
          have g5 : ∀ j, j ≠ 0 → τ4 3 0 j = σ 3 0 j := fun j hj => by rw [c2.1 3 0 j (by omega), n2.1 3 0 j (by omega), hυ2, zup_o (by omega), hυ, zup_o (by omega)]
          have gu : ∀ k, k ≠ 15 → k ≠ 16 → υ2 3 0 0 k = σ 3 0 0 k := fun k h1 h2 => by rw [hυ2, zup_m, zru_o h1, hυ, zup_m, zru_o h2]
          have e : ∀ j k, ¬ (j = 3 ∧ k = s) → zhu (dH S) 3 s (nI q.1) j k = dH S j k := fun j k hjk => zhu_n hjk
          refine ⟨⟨?_, ?_, ?_, ?_⟩, ⟨?_, ?_, ?_⟩, ⟨fun s' hs' => ?_, fun p hp => ?_, fun p h1 h2 => ?_, fun i h1 h2 => ?_, ?_, ?_⟩, fun i hi => ?_⟩
          · rw [zup_o (by decide), g0 9 (by decide), gu 9 (by decide) (by decide)]; exact r1.trans (e 0 0 (by omega)).symm
          · rw [zup_o (by decide), g0 10 (by decide), gu 10 (by decide) (by decide)]; exact r2.trans (e 0 1 (by omega)).symm
          · rw [zup_o (by decide), g0 11 (by decide), gu 11 (by decide) (by decide)]; exact r3
          · rw [zup_o (by decide), g0 12 (by decide), gu 12 (by decide) (by decide)]; exact r4
          · rw [zup_o (by decide), g0 15 (by decide), hυ2, zup_same]
          · rw [zup_o (by decide), g0 16 (by decide), hυ2, zup_m, zru_o (by decide), hυ, zup_same]
          · rw [zup_o (by decide), g0 17 (by decide), gu 17 (by decide) (by decide)]; exact r7
          · rw [zup_m]
            show _ = zhu (dH S) 3 s (nI q.1) 3 s'
            by_cases es : s' = s
            · rw [es, zru_s, zhu_s]
            · rw [zru_o es, zhu_o es, g5 5 (by decide)]; exact b1 s' hs'
          · have hp : p < dN S := hp
            have hN := hB.1
            rw [zup_m, zru_o (by omega), zru_o (by omega), zru_o (by omega), zru_o (by omega), g5 5 (by decide)]
            obtain ⟨q1, q2, q3, q4⟩ := b2 p hp
            exact ⟨q1.trans (e 4 p (by omega)).symm, q2.trans (e 5 p (by omega)).symm, q3.trans (e 6 p (by omega)).symm, q4.trans (e 7 p (by omega)).symm⟩
          · rw [zup_m, zru_o (by omega), zru_o (by omega), g5 5 (by decide)]; exact b3 p h1 h2
          · rw [zup_m, zru_o (by omega), g5 5 (by decide)]; exact (b4 i h1 h2).trans (congrArg (fun x => zbit x i) (e 0 5 (by omega)).symm)
          · rw [zup_m, zru_o (by omega), g5 5 (by decide)]; exact b5.trans (e 0 2 (by omega)).symm
          · rw [zup_m, zru_o (by omega), g5 5 (by decide)]; exact b6
          · rw [zup_o (by decide), g5 6 (by decide)]; exact (r9 i hi).trans (e 8 i (by omega)).symm
