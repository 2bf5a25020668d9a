/-! text: the reference reads people -/
theorem zhib_q : ∀ m, m < 16 → ∀ q, q < 4 → zhib (m ||| 1 <<< q) = zmx (zhib m) (q + 1) ∧ zhib m ≤ 4 := by decide
theorem zmx_a (a b c : Nat) : zmx (zmx a b) c = zmx a (zmx b c) := by
  unfold zmx
  repeat' split
  all_goals omega
theorem zmx_le {a b c : Nat} (h1 : a ≤ c) (h2 : b ≤ c) : zmx a b ≤ c := by
  unfold zmx
  split <;> omega
/-- what the loop over feuds leaves -/
def zFe (σ τ : ZS) (N z : Nat) (r : ZP (Nat × ZTok)) : Prop := match r with
  | .inl q => zFm τ q
  | .inr p => zTm τ p.2 ∧ τ 3 0 5 = zru (σ 3 0 5) (15 + 4 * N) (nI p.1) ∧ τ 3 0 0 11 = nI (N + 1) ∧ τ 3 0 0 17 = zhI (zmx z (zhib p.1))
def zKf (σ τ : ZS) : Prop := zfrm (fun c g j => c = 3 ∧ g = 0 ∧ (j = 0 ∨ j = 5)) σ τ ∧ ∀ k, (k < 20 ∨ 25 < k) → k ≠ 11 → k ≠ 17 → τ 3 0 0 k = σ 3 0 0 k
theorem zKf_y {σ τ : ZS} (k : zKf σ τ) : zKy σ τ := ⟨zfrm_m (fun _ _ _ h => ⟨h.1, h.2.1, by omega⟩) k.1, fun q hq => k.2 q (by omega) (by omega) (by omega)⟩
theorem L_feEnd {σ : ZS} {N : Nat} (h : ¬ (σ 3 0 0 24 = 0 ∧ σ 3 0 0 22 = 2)) (e11 : σ 3 0 0 11 = nI N) (x : Int32) : zev 135 126 [(0, zA 3 0 0), (2, zI x)] [] σ = some (zI 0, zup σ 3 0 0 11 (nI (N + 1))) := by
  rw [E_M_readPerson_126, e11, nI_1]
  by_cases c : σ 3 0 0 24 = 0
  · rw [if_pos c, if_neg (fun z => h ⟨c, z⟩)]
  · rw [if_neg c]
theorem L_feM {b : Nat → Nat} {T N z : Nat} (hN : N < 4) (hz : z ≤ 4) : ∀ (n m : Nat) (t : ZTok) (σ : ZS), zTpM σ b T → zTm σ t → ztokW T t → m < 16 → zpopn 4 m + n = 5 → σ 3 0 5 (15 + 4 * N) = nI m → σ 3 0 0 11 = nI N → σ 3 0 0 17 = zhI (zmx z (zhib m)) →
    ∃ τ, zev 135 126 [(0, zA 3 0 0), (2, zI (nI (12 + 4 * N)))] [] σ = some (zI 0, τ) ∧ zKf σ τ ∧ zFe σ τ N z (zfeM b T n t m)
  | 0, m, t, σ, h, ht, hw, hm, hp, _, _, _ => by
    have := (zpop4 m hm).1
    omega
  | n + 1, m, t, σ, h, ht, hw, hm, hp, ec, e11, e17 => by
    have hb := fun j hj => (h.2.2 j hj).2
    unfold zfeM
    by_cases c : t.1 = 2
    · rw [if_pos c, E_M_readPerson_126, if_pos ht.1, if_pos (show σ 3 0 0 22 = 2 by rw [ht.2.2.1, c]; rfl)]
      obtain ⟨v, τ, a1, a2, a3⟩ := L_looked (lo := 0) (hi := 3) ht ⟨hw.1, hw.2.2.2.1⟩ (by decide) (by decide)
      rw [show zcall 132 [zA 3 0 0, zI 0, zI 3] σ = _ from a1, zbI_some]
      cases hzc : zchk t 0 3 with
      | inl q =>
        rw [hzc] at a3
        obtain ⟨a3, rfl⟩ := a3
        have e11' : τ 3 0 0 11 = nI N := by rw [a2.2 11 (by omega)]; exact e11
        rw [if_neg (zFm_ne a3), L_nextF a3, zbV_some, L_feEnd (fun z => zFm_ne a3 z.1) e11']
        exact ⟨_, rfl, ⟨zfrm_up (zfrm_m (fun _ _ _ h => ⟨h.1, h.2.1, Or.inl h.2.2⟩) a2.1) ⟨rfl, rfl, Or.inl rfl⟩, fun k h1 h2 h3 => by rw [zup_m, zru_o h2]; exact a2.2 k (by omega)⟩, zFm_u (by decide) a3⟩
      | inr q =>
        rw [hzc] at a3
        obtain ⟨ea, rfl⟩ := a3
        have ea := ea.symm
        subst ea
        have hq := (zchk_w hzc).2
        have hq2 := zhib_q m hm q (by omega)
        rw [if_pos ht.1, show nI (12 + 4 * N) + 3 = nI (15 + 4 * N) by rw [show (3 : Int32) = nI 3 from rfl, nI_add]; congr 1; omega, zck_nI (by omega) (by decide), nI_clamp (by omega), ec, show (nI m >>> (nI q &&& 31)) &&& 1 = zbit (nI m) q from rfl, zbit_bt _ (by omega), zvb_n _ (by omega), zif_b, zn_1 q (by omega)]
        show ∃ τ, _ ∧ _ ∧ zFe σ τ N z (if m.testBit q = true then .inl (4, t.2.1) else zbn (ztok b T t.2.2.1) _)
        cases hd : m.testBit q with
        | true =>
          obtain ⟨τ2, f1, f2, f3⟩ := L_need0 (f := 4) ht.1 ht.2.2.2.1 (by decide) (by decide)
          rw [if_pos rfl, if_pos rfl]
          rw [show zcall 125 [zA 3 0 0, zI 0, zI 4] σ = _ from f1, zbV_some, zck_nI (by omega) (by decide), zck_nI (by omega) (by decide)]
          dsimp only
          have base : ∀ (υ : ZS), zFm υ (4, t.2.1) → υ 3 0 0 11 = nI N → zbV (zcall 123 [zA 3 0 0] υ) (fun σ56 => zev 135 126 [(0, zA 3 0 0), (2, zI (nI (12 + 4 * N)))] [] σ56) = some (zI 0, zup υ 3 0 0 11 (nI (N + 1))) := fun υ hf he => by
            rw [L_nextF hf, zbV_some, L_feEnd (fun z => zFm_ne hf z.1) he]
          have g11 : ∀ (w : Int32), zup τ2 3 0 5 (15 + 4 * N) w 3 0 0 11 = nI N := fun w => by rw [zup_o (by decide), f2.2 11 (by omega)]; exact e11
          have fin : ∀ w w', zKf σ (zup (zup (zup τ2 3 0 5 (15 + 4 * N) w) 3 0 0 17 w') 3 0 0 11 (nI (N + 1))) := fun w w' => ⟨zfrm_up (zfrm_up (zfrm_up (zfrm_m (fun _ _ _ h => ⟨h.1, h.2.1, Or.inl h.2.2⟩) f2.1) ⟨rfl, rfl, Or.inr rfl⟩) ⟨rfl, rfl, Or.inl rfl⟩) ⟨rfl, rfl, Or.inl rfl⟩, fun k h1 h2 h3 => by rw [zup_m, zru_o h2, zup_m, zru_o h3, zup_o (by decide)]; exact f2.2 k (by omega)⟩
          split
          · rw [base _ (zFm_u (by decide) (zFm_d (by decide) f3)) (by rw [zup_m, zru_o (by decide)]; exact g11 _)]
            exact ⟨_, rfl, fin _ _, zFm_u (by decide) (zFm_u (by decide) (zFm_d (by decide) f3))⟩
          · rw [base _ (zFm_u (by decide) (zFm_d (by decide) f3)) (by rw [zup_m, zru_o (by decide)]; exact g11 _)]
            exact ⟨_, rfl, fin _ _, zFm_u (by decide) (zFm_u (by decide) (zFm_d (by decide) f3))⟩
        | false =>
          rw [if_neg Bool.false_ne_true, if_neg Bool.false_ne_true, L_need1, zbV_some, zck_nI (by omega) (by decide), zck_nI (by omega) (by decide)]
          dsimp only
          rw [ec, zn_or]
          have e17' : zup σ 3 0 5 (15 + 4 * N) (nI (m ||| 1 <<< q)) 3 0 0 17 = zhI (zmx z (zhib m)) := by rw [zup_o (by decide)]; exact e17
          have hzb : zmx z (zhib m) ≤ 4 := zmx_le hz hq2.2
          have hm17 := zhI_mx (z := zmx z (zhib m)) (s := q) (by omega) (by omega)
          rw [zmx_a, ← hq2.1] at hm17
          -- the store behind
          obtain ⟨υ, hυ⟩ : ∃ υ, υ = zup (zup σ 3 0 5 (15 + 4 * N) (nI (m ||| 1 <<< q))) 3 0 0 17 (zhI (zmx z (zhib (m ||| 1 <<< q)))) := ⟨_, rfl⟩
          have eu : (if (zup σ 3 0 5 (15 + 4 * N) (nI (m ||| 1 <<< q))) 3 0 0 17 < nI q then zbV (zcall 123 [zA 3 0 0] (zup (zup σ 3 0 5 (15 + 4 * N) (nI (m ||| 1 <<< q))) 3 0 0 17 (nI q))) (fun σ50 => zev 135 126 [(0, zA 3 0 0), (2, zI (nI (12 + 4 * N)))] [] σ50) else zbV (zcall 123 [zA 3 0 0] (zup (zup σ 3 0 5 (15 + 4 * N) (nI (m ||| 1 <<< q))) 3 0 0 17 ((zup σ 3 0 5 (15 + 4 * N) (nI (m ||| 1 <<< q))) 3 0 0 17))) (fun σ52 => zev 135 126 [(0, zA 3 0 0), (2, zI (nI (12 + 4 * N)))] [] σ52)) = zbV (zcall 123 [zA 3 0 0] υ) (fun σ50 => zev 135 126 [(0, zA 3 0 0), (2, zI (nI (12 + 4 * N)))] [] σ50) := by
            rw [e17', hυ, ← hm17]
            by_cases c9 : zhI (zmx z (zhib m)) < nI q
            · rw [if_pos c9, if_pos c9]
            · rw [if_neg c9, if_neg c9]
          rw [eu]
          have ku : zKf σ υ := by
            rw [hυ]
            exact ⟨zfrm_up (zfrm_up zfrm_r ⟨rfl, rfl, Or.inr rfl⟩) ⟨rfl, rfl, Or.inl rfl⟩, fun k h1 h2 h3 => by rw [zup_m, zru_o h3, zup_o (by decide)]⟩
          have tu : zTm υ t := by rw [hυ]; exact zTm_u (by decide) (zTm_d (by decide) ht)
          obtain ⟨τ3, n1, n2, n3⟩ := L_nextM (zTpM_y (zKf_y ku) h) tu.1 hw.2.2.1 tu.2.1
          rw [n1, zbV_some]
          have u11 : τ3 3 0 0 11 = nI N := by rw [n2.2 11 (by omega), hυ, zup_m, zru_o (by decide), zup_o (by decide)]; exact e11
          have k3 : zKf σ τ3 := ⟨zfrm_t ku.1 (zfrm_m (fun _ _ _ h => ⟨h.1, h.2.1, Or.inl h.2.2⟩) n2.1), fun k h1 h2 h3 => by rw [n2.2 k (by omega)]; exact ku.2 k h1 h2 h3⟩
          have r5 : τ3 3 0 5 = zru (σ 3 0 5) (15 + 4 * N) (nI (m ||| 1 <<< q)) := by rw [n2.1 3 0 5 (by decide), hυ, zup_o (by decide), zup_m]
          cases hz2 : ztok b T t.2.2.1 with
          | inl f =>
            rw [hz2] at n3
            have n3 : zFm τ3 f := n3
            rw [L_feEnd (fun z => zFm_ne n3 z.1) u11]
            exact ⟨_, rfl, ⟨zfrm_up k3.1 ⟨rfl, rfl, Or.inl rfl⟩, fun k h1 h2 h3 => by rw [zup_m, zru_o h2]; exact k3.2 k h1 h2 h3⟩, zFm_u (by decide) n3⟩
          | inr t2 =>
            rw [hz2] at n3
            have hp4 := (zpop4 m hm).2 q (by omega) hd
            obtain ⟨ω, o1, o2, o3⟩ := L_feM (b := b) (T := T) hN hz n (m ||| 1 <<< q) t2 τ3 (zTpM_y (zKf_y k3) h) n3 (ztok_w hw.2.2.1 hb hz2) hp4.2 (by omega) (by rw [r5, zru_s]) u11 (by rw [n2.2 17 (by omega), hυ, zup_same])
            refine ⟨ω, o1, ⟨zfrm_t k3.1 o2.1, fun k h1 h2 h3 => by rw [o2.2 k h1 h2 h3]; exact k3.2 k h1 h2 h3⟩, ?_⟩
            show zFe σ ω N z (zfeM b T n t2 (m ||| 1 <<< q))
            revert o3
            cases zfeM b T n t2 (m ||| 1 <<< q) with
            | inl f => exact fun o3 => o3
            | inr f =>
              rintro ⟨g1, g2, g3, g4⟩
              refine ⟨g1, ?_, g3, g4⟩
              rw [g2, r5]
              funext k
              unfold zru
              split <;> rfl
    · rw [if_neg c, L_feEnd (fun z => c ((nI_eq (by have := hw.1; omega) (by decide)).mp (ht.2.2.1.symm.trans z.2))) e11]
      refine ⟨_, rfl, ⟨zfrm_up zfrm_r ⟨rfl, rfl, Or.inl rfl⟩, fun k h1 h2 h3 => by rw [zup_m, zru_o h2]⟩, zTm_u (by decide) ht, ?_, zup_same, ?_⟩
      · rw [zup_o (by decide)]
        funext k
        unfold zru
        by_cases e : k = 15 + 4 * N
        · rw [if_pos e, e, ec]
        · rw [if_neg e]
      · rw [zup_m, zru_o (by decide)]; exact e17
theorem L_rOne2 {b : Nat → Nat} {T z : Nat} {t : ZTok} {S : ZDr} {s : Int32} {σ : ZS} (h : zTpM σ b T) (ht : zTm σ t) (hw : ztokW T t) (hN : dN S < 4) (hB : zBd S) (hz : z ≤ 12)
    (q1 : σ 3 0 0 9 = dH S 0 0 ∧ σ 3 0 0 10 = dH S 0 1 ∧ σ 3 0 0 11 = nI (dN S) ∧ σ 3 0 0 12 = nI (dL S)) (q2 : σ 3 0 0 15 = nI (dp S) ∧ σ 3 0 0 16 = zhI z ∧ σ 3 0 0 17 = zhI (do1 S)) (q3 : zRw (fun k => if k = 12 + 4 * dN S then -4 else σ 3 0 5 k) (dH S) (dN S) (dL S)) (qs : σ 3 0 5 (12 + 4 * dN S) = s) (q4 : ∀ i, i < dL S → σ 3 0 6 i = dH S 8 i) :
    ∃ τ, zbI (zcall 131 [zA 3 0 0, zI 0, zI 5] σ) (fun x40 σ39 => zck (nI (12 + 4 * dN S) + 1) 54 (let σ41 : ZS := zup σ39 3 0 5 (nI (12 + 4 * dN S) + 1).toNatClampNeg x40; zbI (zcall 131 [zA 3 0 0, zI 0, zI 9] σ41) (fun x43 σ42 => zck (nI (12 + 4 * dN S) + 2) 54 (let σ44 : ZS := zup σ42 3 0 5 (nI (12 + 4 * dN S) + 2).toNatClampNeg x43; zev 135 126 [(0, zA 3 0 0), (2, zI (nI (12 + 4 * dN S)))] [] σ44)))) = some (zI 0, τ) ∧ zKy σ τ ∧ zRR τ (rOne2 b T t S s z) := by
  have hb := fun j hj => (h.2.2 j hj).2
  have i1 : nI (12 + 4 * dN S) + 1 = nI (13 + 4 * dN S) := by rw [nI_1]; congr 1; omega
  have i2 : nI (12 + 4 * dN S) + 2 = nI (14 + 4 * dN S) := by rw [show (2 : Int32) = nI 2 from rfl, nI_add]; congr 1; omega
  obtain ⟨v, τ, a1, a2, a3⟩ := L_rdN (lo := 0) (hi := 5) h ht hw (by decide) (by decide)
  rw [show zcall 131 [zA 3 0 0, zI 0, zI 5] σ = _ from a1, zbI_some, i1, i2, zck_nI (by omega) (by decide), nI_clamp (by omega), nI_clamp (by omega)]
  dsimp only
  have k1 : zKy σ (zup τ 3 0 5 (13 + 4 * dN S) v) := zKy_d (zKy_m a2) (by omega)
  have x11 : zup τ 3 0 5 (13 + 4 * dN S) v 3 0 0 11 = nI (dN S) := by rw [zup_o (by decide), a2.2 11 (by omega)]; exact q1.2.2.1
  unfold rOne2
  cases hz1 : zrd b T t 0 5 with
  | inl q =>
    rw [hz1] at a3
    have f1 : zFm (zup τ 3 0 5 (13 + 4 * dN S) v) q := zFm_d (by decide) a3
    rw [L_rdF f1, zbI_some, zck_nI (by omega) (by decide)]
    rw [L_feEnd (fun z => zFm_ne (zFm_d (by decide) f1) z.1) (by rw [zup_o (by decide)]; exact x11)]
    exact ⟨_, rfl, zKy_u (zKy_d k1 (by omega)) (by decide), zFm_u (by decide) (zFm_d (by decide) f1)⟩
  | inr p =>
    rw [hz1] at a3
    obtain ⟨a3, rfl⟩ := a3
    have w1 := zrd_w hw hb hz1
    obtain ⟨v2, τ2, c1, c2, c3⟩ := L_rdN (lo := 0) (hi := 9) (zTpM_y k1 h) (zTm_d (by decide) a3) w1.1 (by decide) (by decide)
    rw [show zcall 131 [zA 3 0 0, zI 0, zI 9] (zup τ 3 0 5 (13 + 4 * dN S) (nI p.1)) = _ from c1, zbI_some, zck_nI (by omega) (by decide)]
    have k2 : zKy σ (zup τ2 3 0 5 (14 + 4 * dN S) v2) := zKy_d (zKy_t k1 (zKy_m c2)) (by omega)
    have y : ∀ k, k < 20 → zup τ2 3 0 5 (14 + 4 * dN S) v2 3 0 0 k = σ 3 0 0 k := fun k hk => by rw [zup_o (by decide), c2.2 k (by omega), zup_o (by decide), a2.2 k (by omega)]
    show ∃ τ, _ ∧ _ ∧ zRR τ (zbn (zrd b T p.2 0 9) _)
    cases hz2 : zrd b T p.2 0 9 with
    | inl q =>
      rw [hz2] at c3
      have c3 : zFm τ2 q := c3
      rw [L_feEnd (fun z => zFm_ne (zFm_d (by decide) c3) z.1) (by rw [y 11 (by decide)]; exact q1.2.2.1)]
      exact ⟨_, rfl, zKy_u k2 (by decide), zFm_u (by decide) (zFm_d (by decide) c3)⟩
    | inr q =>
      rw [hz2] at c3
      obtain ⟨c3, rfl⟩ := c3
      have w2 := zrd_w w1.1 hb hz2
      have r5 : (zup τ2 3 0 5 (14 + 4 * dN S) (nI q.1)) 3 0 5 = zru (zru (σ 3 0 5) (13 + 4 * dN S) (nI p.1)) (14 + 4 * dN S) (nI q.1) := by rw [zup_m, c2.1 3 0 5 (by decide), zup_m, a2.1 3 0 5 (by decide)]
      obtain ⟨b1, b2, b3, b4, b5, b6⟩ := q3
      have e15 : σ 3 0 5 (15 + 4 * dN S) = 0 := by
        have := (b3 (dN S) (Nat.le_refl _) hN).2
        dsimp only at this
        rw [if_neg (by omega)] at this
        exact this
      obtain ⟨ω, o1, o2, o3⟩ := L_feM (b := b) (T := T) (z := do1 S) hN hB.2.2.2 5 0 q.2 _ (zTpM_y k2 h) (zTm_d (by decide) c3) w2.1 (by decide) (by decide) (by rw [r5, zru_o (by omega), zru_o (by omega)]; exact e15) (by rw [y 11 (by decide)]; exact q1.2.2.1) (by rw [y 17 (by decide)]; exact q2.2.2)
      refine ⟨ω, o1, zKy_t k2 (zKf_y o2), ?_⟩
      show zRR ω (zbn (zfeM b T 5 q.2 0) _)
      cases hz3 : zfeM b T 5 q.2 0 with
      | inl f => rw [hz3] at o3; exact o3
      | inr f =>
        rw [hz3] at o3
        obtain ⟨g1, g2, g3, g4⟩ := o3
        refine ⟨g1, ?_⟩
        have o6 : ω 3 0 6 = σ 3 0 6 := by rw [o2.1 3 0 6 (by decide), zup_o (by decide), c2.1 3 0 6 (by decide), zup_o (by decide), a2.1 3 0 6 (by decide)]
        have ok : ∀ k, k < 20 → k ≠ 11 → k ≠ 17 → ω 3 0 0 k = σ 3 0 0 k := fun k h1 h2 h3 => by rw [o2.2 k (by omega) h2 h3, y k h1]
        have e : ∀ j k, ¬ (4 ≤ j ∧ j ≤ 7 ∧ k = dN S) → ¬ (j = 0 ∧ k = 3) → zad1 (dH S) (dN S) s p.1 q.1 f.1 j k = dH S j k := fun j k h1 h2 => by
          unfold zad1
          rw [zhu_n (by omega), zhu_n (by omega), zhu_n (by omega), zhu_n (by omega), zhu_n (by omega)]
        have r6 : ∀ k, k ≠ 13 + 4 * dN S → k ≠ 14 + 4 * dN S → k ≠ 15 + 4 * dN S → ω 3 0 5 k = σ 3 0 5 k := fun k h1 h2 h3 => by rw [g2, zru_o h3, r5, zru_o h2, zru_o h1]
        have lo : ∀ k, k ≠ 12 + 4 * dN S → (if k = 12 + 4 * dN S then (-4 : Int32) else σ 3 0 5 k) = σ 3 0 5 k := fun k hk => if_neg hk
        refine ⟨⟨?_, ?_, ?_, ?_⟩, ⟨?_, ?_, ?_⟩, ⟨fun s' hs => ?_, fun p' hp => ?_, fun p' h1 h2 => ?_, fun i h1 h2 => ?_, ?_, ?_⟩, fun i hi => ?_⟩
        · rw [ok 9 (by decide) (by decide) (by decide)]; exact q1.1.trans (e 0 0 (by omega) (by omega)).symm
        · rw [ok 10 (by decide) (by decide) (by decide)]; exact q1.2.1.trans (e 0 1 (by omega) (by omega)).symm
        · exact g3
        · rw [ok 12 (by decide) (by decide) (by decide)]; exact q1.2.2.2
        · rw [ok 15 (by decide) (by decide) (by decide)]; exact q2.1
        · rw [ok 16 (by decide) (by decide) (by decide)]; exact q2.2.1
        · exact g4
        · rw [r6 s' (by omega) (by omega) (by omega), ← lo s' (by omega)]; exact (b1 s' hs).trans (e 3 s' (by omega) (by omega)).symm
        · have hp : p' < dN S + 1 := hp
          show ω 3 0 5 (12 + 4 * p') = zad1 (dH S) (dN S) s p.1 q.1 f.1 4 p' ∧ ω 3 0 5 (13 + 4 * p') = zad1 (dH S) (dN S) s p.1 q.1 f.1 5 p' ∧ ω 3 0 5 (14 + 4 * p') = zad1 (dH S) (dN S) s p.1 q.1 f.1 6 p' ∧ ω 3 0 5 (15 + 4 * p') = zad1 (dH S) (dN S) s p.1 q.1 f.1 7 p'
          by_cases ep : p' = dN S
          · subst ep
            rw [r6 (12 + 4 * dN S) (by omega) (by omega) (by omega), qs, g2, zru_o (show 13 + 4 * dN S ≠ 15 + 4 * dN S by omega), zru_o (show 14 + 4 * dN S ≠ 15 + 4 * dN S by omega), zru_s, r5, zru_o (show 13 + 4 * dN S ≠ 14 + 4 * dN S by omega), zru_s, zru_s]
            unfold zad1
            refine ⟨?_, ?_, ?_, ?_⟩
            · rw [zhu_n (by omega), zhu_n (by omega), zhu_n (by omega), zhu_n (by omega), zhu_s]
            · rw [zhu_n (by omega), zhu_n (by omega), zhu_n (by omega), zhu_s]
            · rw [zhu_n (by omega), zhu_n (by omega), zhu_s]
            · rw [zhu_n (by omega), zhu_s]
          · obtain ⟨d1, d2, d3, d4⟩ := b2 p' (by omega)
            dsimp only at d1 d2 d3 d4
            rw [lo (12 + 4 * p') (by omega)] at d1
            rw [lo (13 + 4 * p') (by omega)] at d2
            rw [lo (14 + 4 * p') (by omega)] at d3
            rw [lo (15 + 4 * p') (by omega)] at d4
            rw [r6 _ (by omega) (by omega) (by omega), r6 _ (by omega) (by omega) (by omega), r6 _ (by omega) (by omega) (by omega), r6 _ (by omega) (by omega) (by omega), d1, d2, d3, d4]
            exact ⟨(e 4 p' (by omega) (by omega)).symm, (e 5 p' (by omega) (by omega)).symm, (e 6 p' (by omega) (by omega)).symm, (e 7 p' (by omega) (by omega)).symm⟩
        · have h1 : dN S + 1 ≤ p' := h1
          rw [r6 _ (by omega) (by omega) (by omega), r6 _ (by omega) (by omega) (by omega)]
          have := b3 p' (by omega) h2
          dsimp only at this
          rw [lo (12 + 4 * p') (by omega), lo (15 + 4 * p') (by omega)] at this
          exact this
        · have h2 : i < dL S := h2
          have h8 := hB.2.1
          have := b4 i h1 h2
          rw [r6 _ (by omega) (by omega) (by omega)]
          dsimp only at this
          rw [lo (28 + i) (by omega)] at this
          exact this.trans (congrArg (fun x => zbit x i) (e 0 5 (by omega) (by omega)).symm)
        · rw [r6 _ (by omega) (by omega) (by omega), ← lo 36 (by omega)]; exact b5.trans (e 0 2 (by omega) (by omega)).symm
        · rw [r6 _ (by omega) (by omega) (by omega), ← lo 37 (by omega)]; exact b6
        · rw [o6]; exact (q4 i hi).trans (e 8 i (by omega) (by omega)).symm
