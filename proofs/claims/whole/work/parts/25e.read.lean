/-! text: the reference reads a line -/
theorem eP12 (N : Nat) : (12 : Int32) + 4 * nI N = nI (12 + 4 * N) := by
  rw [show (4 : Int32) = nI 4 from rfl, show (12 : Int32) = nI 12 from rfl, pk_mul, nI_add]
theorem L_free32 {σ : ZS} {H : Nat → Nat → Int32} {N s : Nat} {x2 : Int32} (hN : N ≤ 4) (e11 : σ 3 0 0 11 = nI N) (e4 : ∀ p, p < N → σ 3 0 5 (12 + 4 * p) = H 4 p) : ∀ d p : Nat, p + d = N → zev 135 32 [(0, zA 3 0 0), (2, zI x2), (3, zI (nI s)), (4, zI (zb (!zoc H s p))), (5, zI (nI p))] [] σ = zev 135 32 [(0, zA 3 0 0), (2, zI x2), (3, zI (nI s)), (4, zI (zb (!zoc H s N))), (5, zI (nI N))] [] σ
  | 0, p, hp => by rw [show p = N by omega]
  | d + 1, p, hp => by
    have ih := L_free32 (x2 := x2) (s := s) hN e11 e4 d (p + 1) (by omega)
    have e : zoc H s (p + 1) = (zoc H s p || decide (H 4 p = nI s)) := rfl
    rw [e] at ih
    rw [E_M_readPerson_32 σ x2 (nI s) (zb (!zoc H s p)) (nI p), e11, if_pos (nI_lt (by omega) (by omega)), show (12 + (4 * nI p)) + (0 : Int32) = nI (12 + 4 * p) from zidx 0, zck_nI (by omega) (by decide), nI_clamp (by omega), e4 p (by omega), nI_1]
    cases ho : zoc H s p with
    | true =>
      rw [ho, Bool.true_or] at ih
      rw [if_pos (show zb (!true) = 0 from rfl)]
      exact ih
    | false =>
      rw [ho, Bool.false_or] at ih
      rw [if_neg (show ¬ zb (!false) = 0 by decide)]
      by_cases c : H 4 p = nI s
      · rw [decide_eq_true c] at ih
        rw [if_pos c]
        exact ih
      · rw [decide_eq_false c] at ih
        rw [if_neg c]
        exact ih
theorem zRw_x {a : Nat → Int32} {H : Nat → Nat → Int32} {N L k : Nat} (h : zRw a H N L) (hN : N < 4) (hL : L ≤ 8) (b : Nat → Int32) (hb : ∀ i, i ≠ 12 + 4 * N → b i = a i) (hk : k = 12 + 4 * N) : zRw (fun i => if i = k then -4 else b i) H N L := by
  have e : (fun i => if i = k then (-4 : Int32) else b i) = a := by
    funext i
    by_cases c : i = k
    · rw [if_pos c, c, hk]
      exact (h.2.2.1 N (Nat.le_refl _) hN).1.symm
    · rw [if_neg c, hb i (by omega)]
  rw [e]
  exact h
theorem L_rOne {b : Nat → Nat} {T : Nat} {t : ZTok} {S : ZDr} {here : Bool} {k : Int32} {σ : ZS} (h : zTpM σ b T) (ht : zTm σ t) (hw : ztokW T t) (hS : zRd σ S) (hB : zBd S) (hN : dN S < 4) (hk : (k = 3 ∧ here = true) ∨ (k = 4 ∧ here = false)) : ∃ τ, zcall 130 [zA 3 0 0, zI k] σ = some (zI 0, τ) ∧ zKy σ τ ∧ zRR τ (rOne b T t S here) := by
  have hb := fun j hj => (h.2.2 j hj).2
  have e11 := hS.1.2.2.1
  have eP := eP12 (dN S)
  have i1 : nI (12 + 4 * dN S) + 1 = nI (13 + 4 * dN S) := by rw [nI_1]; congr 1; omega
  have i2 : nI (12 + 4 * dN S) + 2 = nI (14 + 4 * dN S) := by rw [show (2 : Int32) = nI 2 from rfl, nI_add]; congr 1; omega
  rcases hk with ⟨rfl, rfl⟩ | ⟨rfl, rfl⟩
  · suffices hh : ∃ τ, zcall 135 [zA 3 0 0, zI 0] σ = some (zI 0, τ) ∧ zKy σ τ ∧ zRR τ (rOne b T t S true) by
      obtain ⟨τ, q1, q2⟩ := hh
      refine ⟨τ, ?_, q2⟩
      rw [E_M_readLineOf, if_neg (by decide), if_neg (by decide), if_neg (by decide), if_pos rfl, if_neg (by decide), q1, zbV_some]
    obtain ⟨v, τ, a1, a2, a3⟩ := L_looked (lo := 0) (hi := 11) ht ⟨hw.1, hw.2.2.2.1⟩ (by decide) (by decide)
    rw [E_M_readPerson, if_pos rfl, E_M_lookedSeat]
    rw [show zcall 132 [zA 3 0 0, zI 0, zI 11] σ = _ from a1, zbI_some, e11, eP, i1, i2]
    show ∃ τ, _ ∧ _ ∧ zRR τ (if true = true then _ else _)
    rw [if_pos rfl]
    cases hz : zchk t 0 11 with
    | inl q =>
      rw [hz] at a3
      obtain ⟨a3, rfl⟩ := a3
      have e11' : τ 3 0 0 11 = nI (dN S) := by rw [a2.2 11 (by omega)]; exact e11
      rw [if_neg (zFm_ne a3)]
      dsimp only
      rw [zup_id, zbI_some, if_neg (zFm_ne a3), L_nextF a3, zbV_some, L_rdF a3, zbI_some, zck_nI (by omega) (by decide), nI_clamp (by omega), nI_clamp (by omega)]
      have f1 : zFm (zup τ 3 0 5 (13 + 4 * dN S) 0) q := zFm_d (by decide) a3
      have f2 : zFm (zup (zup τ 3 0 5 (13 + 4 * dN S) 0) 3 0 5 (14 + 4 * dN S) 0) q := zFm_d (by decide) f1
      rw [L_rdF f1, zbI_some, zck_nI (by omega) (by decide)]
      rw [L_feEnd (fun z => zFm_ne f2 z.1) (by rw [zup_o (by decide), zup_o (by decide)]; exact e11')]
      exact ⟨_, rfl, zKy_u (zKy_d (zKy_d (zKy_m a2) (by omega)) (by omega)) (by decide), zFm_u (by decide) f2⟩
    | inr s =>
      rw [hz] at a3
      obtain ⟨ea, rfl⟩ := a3
      have ea := ea.symm
      subst ea
      have hs := zchk_w hz
      have hd12 := hB.2.2.1
      have e16 : σ 3 0 0 16 = zhI (dz S) := hS.2.1.2.1
      obtain ⟨υ, hυ⟩ : ∃ υ, υ = zup σ 3 0 0 16 (zhI (zmx (dz S) (s + 1))) := ⟨_, rfl⟩
      have hls : (if σ 3 0 0 24 = 0 then (if (σ 3 0 0 16) < nI s then (let σ23 : ZS := zup σ 3 0 0 16 (nI s); some (zI (nI s), σ23)) else (let σ24 : ZS := zup σ 3 0 0 16 (σ 3 0 0 16); some (zI (nI s), σ24))) else (let σ25 : ZS := zup σ 3 0 0 16 (σ 3 0 0 16); some (zI (nI s), σ25))) = some ((zI (nI s) : ZV), υ) := by
        have hm := zhI_mx (z := dz S) (s := s) (by omega) (by omega)
        rw [if_pos ht.1, e16, hυ, ← hm]
        by_cases c : zhI (dz S) < nI s
        · rw [if_pos c, if_pos c]
        · rw [if_neg c, if_neg c]
      rw [hls, zbI_some]
      have kυ : zKy σ υ := by rw [hυ]; exact zKy_u (zKy_r σ) (by decide)
      have tυ : zTm υ t := by rw [hυ]; exact zTm_u (by decide) ht
      have yu : ∀ k, k ≠ 16 → υ 3 0 0 k = σ 3 0 0 k := fun k hk => by rw [hυ, zup_m, zru_o hk]
      have yr : ∀ j, j ≠ 0 → υ 3 0 j = σ 3 0 j := fun j hj => by rw [hυ, zup_o (by omega)]
      have u11 : υ 3 0 0 11 = nI (dN S) := by rw [yu 11 (by decide)]; exact e11
      have hfr := L_free32 (σ := υ) (H := dH S) (s := s) (x2 := nI (12 + 4 * dN S)) hB.1 u11 (fun p hp => by rw [yr 5 (by decide)]; exact (hS.2.2.1.2.1 p hp).1) (dN S) 0 (by omega)
      rw [if_pos tυ.1]
      rw [show zev 135 32 [(0, zA 3 0 0), (2, zI (nI (12 + 4 * dN S))), (3, zI (nI s)), (4, zI 1), (5, zI 0)] [] υ = _ from hfr]
      rw [E_M_readPerson_32 υ, u11, if_neg (nI_nlt (Nat.le_refl _) (by omega)), show nI (12 + 4 * dN S) + 0 = nI (12 + 4 * dN S) from Int32.add_zero _, i1, i2]
      show ∃ τ, _ ∧ _ ∧ zRR τ (if zoc (dH S) s (dN S) = true then .inl (4, t.2.1) else zbn (ztok b T t.2.2.1) _)
      cases ho : zoc (dH S) s (dN S) with
      | true =>
        obtain ⟨τ2, f1, f2, f3⟩ := L_need0 (f := 4) tυ.1 tυ.2.2.2.1 (by decide) (by decide)
        rw [if_pos rfl]
        rw [show zcall 125 [zA 3 0 0, zI (zb (!true)), zI 4] υ = _ from f1, zbV_some, zck_nI (by omega) (by decide), nI_clamp (by omega)]
        dsimp only
        have g1 : zFm (zup τ2 3 0 5 (12 + 4 * dN S) (nI s)) (4, t.2.1) := zFm_d (by decide) f3
        have g2 : zFm (zup (zup τ2 3 0 5 (12 + 4 * dN S) (nI s)) 3 0 5 (13 + 4 * dN S) 0) (4, t.2.1) := zFm_d (by decide) g1
        have g3 : zFm (zup (zup (zup τ2 3 0 5 (12 + 4 * dN S) (nI s)) 3 0 5 (13 + 4 * dN S) 0) 3 0 5 (14 + 4 * dN S) 0) (4, t.2.1) := zFm_d (by decide) g2
        rw [L_nextF g1, zbV_some, L_rdF g1, zbI_some, zck_nI (by omega) (by decide), nI_clamp (by omega), nI_clamp (by omega), L_rdF g2, zbI_some, zck_nI (by omega) (by decide)]
        rw [L_feEnd (fun z => zFm_ne g3 z.1) (by rw [zup_o (by decide), zup_o (by decide), zup_o (by decide), f2.2 11 (by omega)]; exact u11)]
        exact ⟨_, rfl, zKy_u (zKy_d (zKy_d (zKy_d (zKy_t kυ (zKy_m f2)) (by omega)) (by omega)) (by omega)) (by decide), zFm_u (by decide) g3⟩
      | false =>
        rw [if_neg Bool.false_ne_true]
        rw [show zcall 125 [zA 3 0 0, zI (zb (!false)), zI 4] υ = _ from L_need1 υ 4, zbV_some, zck_nI (by omega) (by decide), nI_clamp (by omega)]
        dsimp only
        have k2 : zKy σ (zup υ 3 0 5 (12 + 4 * dN S) (nI s)) := zKy_d kυ (by omega)
        have t2 : zTm (zup υ 3 0 5 (12 + 4 * dN S) (nI s)) t := zTm_d (by decide) tυ
        obtain ⟨τ3, n1, n2, n3⟩ := L_nextM (zTpM_y k2 h) t2.1 hw.2.2.1 t2.2.1
        rw [n1, zbV_some]
        have k3 := zKy_t k2 (zKy_m n2)
        have z0 : ∀ k, k < 20 → k ≠ 16 → τ3 3 0 0 k = σ 3 0 0 k := fun k h1 h2 => by rw [n2.2 k (by omega), zup_o (by decide), yu k h2]
        have z5 : τ3 3 0 5 = zru (σ 3 0 5) (12 + 4 * dN S) (nI s) := by rw [n2.1 3 0 5 (by decide), zup_m, yr 5 (by decide)]
        cases hz2 : ztok b T t.2.2.1 with
        | inl q =>
          rw [hz2] at n3
          have n3 : zFm τ3 q := n3
          have g2 : zFm (zup τ3 3 0 5 (13 + 4 * dN S) 0) q := zFm_d (by decide) n3
          have g3 : zFm (zup (zup τ3 3 0 5 (13 + 4 * dN S) 0) 3 0 5 (14 + 4 * dN S) 0) q := zFm_d (by decide) g2
          rw [L_rdF n3, zbI_some, zck_nI (by omega) (by decide), nI_clamp (by omega), nI_clamp (by omega), L_rdF g2, zbI_some, zck_nI (by omega) (by decide)]
          rw [L_feEnd (fun z => zFm_ne g3 z.1) (by rw [zup_o (by decide), zup_o (by decide), z0 11 (by decide) (by decide)]; exact e11)]
          exact ⟨_, rfl, zKy_u (zKy_d (zKy_d k3 (by omega)) (by omega)) (by decide), zFm_u (by decide) g3⟩
        | inr t3 =>
          rw [hz2] at n3
          have w3 := ztok_w hw.2.2.1 hb hz2
          obtain ⟨r1, r2, r3, r4⟩ := hS
          obtain ⟨ω, o1, o2, o3⟩ := L_rOne2 (S := S) (s := nI s) (z := zmx (dz S) (s + 1)) (zTpM_y k3 h) n3 w3 hN hB (zmx_le hd12 (by omega)) (by rw [z0 9 (by decide) (by decide), z0 10 (by decide) (by decide), z0 11 (by decide) (by decide), z0 12 (by decide) (by decide)]; exact r1) (by
            refine ⟨?_, ?_, ?_⟩
            · rw [z0 15 (by decide) (by decide)]; exact r2.1
            · rw [n2.2 16 (by omega), zup_o (by decide), hυ, zup_same]
            · rw [z0 17 (by decide) (by decide)]; exact r2.2.2) (zRw_x r3 hN hB.2.1 (τ3 3 0 5) (fun i hi => by rw [z5, zru_o hi]) rfl) (by rw [z5, zru_s]) (fun i hi => by rw [n2.1 3 0 6 (by decide), zup_o (by decide), yr 6 (by decide)]; exact r4 i hi)
          rw [i1, i2] at o1
          exact ⟨ω, o1, zKy_t k3 o2, o3⟩
  · suffices hh : ∃ τ, zcall 135 [zA 3 0 0, zI 1] σ = some (zI 0, τ) ∧ zKy σ τ ∧ zRR τ (rOne b T t S false) by
      obtain ⟨τ, q1, q2⟩ := hh
      refine ⟨τ, ?_, q2⟩
      rw [E_M_readLineOf, if_neg (by decide), if_neg (by decide), if_neg (by decide), if_neg (by decide), if_pos rfl, if_pos rfl, q1, zbV_some]
    obtain ⟨r1, r2, r3, r4⟩ := hS
    obtain ⟨ω, o1, o2, o3⟩ := L_rOne2 (S := S) (s := -4) (z := dz S) h ht hw hN hB hB.2.2.1 r1 r2 (zRw_x r3 hN hB.2.1 (σ 3 0 5) (fun i _ => rfl) rfl) ((r3.2.2.1 (dN S) (Nat.le_refl _) hN).1) r4
    rw [E_M_readPerson, if_neg (by decide), e11, eP]
    exact ⟨ω, o1, o2, o3⟩
/-- a line that was read -/
def zLRm (b : Nat → Nat) (T : Nat) (τ : ZS) (r : ZP (ZDr × ZTok)) : Prop := match r with
  | .inl q => zFm τ q
  | .inr p => zRd τ p.1 ∧ zTRm τ (ztok b T p.2.2.2.1)
theorem L_137 {b : Nat → Nat} {T : Nat} {t : ZTok} {k : Int32} {σ : ZS} {r : ZTok → ZP (ZDr × ZTok)} (h : zTpM σ b T) (ht : zTm σ t) (hw : ztokW T t) (hr : ∀ t1 τ p, r t1 = .inr p → ztokW T t1 → zTm τ p.2 → ztokW T p.2) (R : ∀ t1 τ1, zKm σ τ1 → zTm τ1 t1 → ztokW T t1 → ∃ τ, zcall 130 [zA 3 0 0, zI k] τ1 = some (zI 0, τ) ∧ zKy τ1 τ ∧ zRR τ (r t1)) :
    ∃ τ, zev 126 137 [(0, zA 3 0 0), (1, zI k)] [] σ = some (zI 0, τ) ∧ zKy σ τ ∧ zLRm b T τ (zbn (ztok b T t.2.2.1) fun t1 => zbn (r t1) zse) := by
  have hb := fun j hj => (h.2.2 j hj).2
  obtain ⟨τ1, n1, n2, n3⟩ := L_nextM h ht.1 hw.2.2.1 ht.2.1
  rw [E_M_readLine_137, n1, zbV_some]
  cases hz : ztok b T t.2.2.1 with
  | inl q =>
    rw [hz] at n3
    have n3 : zFm τ1 q := n3
    rw [if_pos n3.2.1]
    exact ⟨τ1, rfl, zKy_m n2, n3⟩
  | inr t1 =>
    rw [hz] at n3
    have n3 : zTm τ1 t1 := n3
    have w1 := ztok_w hw.2.2.1 hb hz
    obtain ⟨τ, a1, a2, a3⟩ := R t1 τ1 n2 n3 w1
    have k2 := zKy_t (zKy_m n2) a2
    rw [if_neg (show ¬ 0 < τ1 3 0 0 24 by rw [n3.1]; decide), a1, zbV_some]
    show ∃ τ, _ ∧ _ ∧ zLRm b T τ (zbn (r t1) zse)
    cases hr1 : r t1 with
    | inl q =>
      rw [hr1] at a3
      have a3 : zFm τ q := a3
      rw [if_neg (zFm_ne a3), L_nextF a3, zbV_some]
      exact ⟨τ, rfl, k2, a3⟩
    | inr p =>
      rw [hr1] at a3
      obtain ⟨a3, a4⟩ := a3
      have wp := hr t1 τ p hr1 w1 a3
      rw [if_pos a3.1, a3.2.2.1]
      show ∃ τ, _ ∧ _ ∧ zLRm b T τ (if p.2.1 = 3 then .inr p else .inl (2, p.2.2.1))
      by_cases c : p.2.1 = 3
      · obtain ⟨υ, u1, u2, u3⟩ := L_nextM (zTpM_y k2 h) a3.1 wp.2.2.1 a3.2.1
        rw [if_pos (show nI p.2.1 = 3 by rw [c]; rfl), if_pos c, L_need1, zbV_some, u1, zbV_some]
        exact ⟨υ, rfl, zKy_t k2 (zKy_m u2), zRd_m u2 a4, u3⟩
      · obtain ⟨υ, f1, f2, f3⟩ := L_need0 (f := 2) a3.1 a3.2.2.2.1 (by decide) (by decide)
        rw [if_neg (show ¬ nI p.2.1 = 3 from nI_ne c (by have := wp.1; omega) (by decide)), if_neg c]
        rw [show zcall 125 [zA 3 0 0, zI 0, zI 2] τ = _ from f1, zbV_some, L_nextF f3, zbV_some]
        exact ⟨υ, rfl, zKy_t k2 (zKy_m f2), f3⟩
